/-- the same but for what is nothing -/
abbrev gS (_ : Nat) (X X' : rq_X) : Prop := X'.1 = X.1 ∧ X'.2.1 = X.2.1 ∧ X'.2.2.2 = X.2.2.2
def rD (ts : List pp_T) (f2 : Int32) (f1 : Nat → Int32) (d : Nat) (C : pp_C) : Prop := ∀ m, m ≤ 2 → ∀ (s : pp_S) (T : rq_A) (X : rq_X) (w : ja_w), rq ts f2 f1 ((6, nI m) :: T) X w s → X.2.1 = -1 → T.length ≤ (tw s).1 → X.2.2.2.1.length ≤ (tw s).2 → ∀ x, C 56 m 0 s = some x → rG d w (rO f2 f1 x (fun nm s' w' => ∃ X' : rq_X, (X'.1 = X.1 ∧ X'.2.1 = nI nm - 1 ∧ X'.2.2.2 = X.2.2.2) ∧ rq ts f2 f1 T X' w' s'))
section
variable {ts : List pp_T} {f2 : Int32} {f1 : Nat → Int32} {d : Nat} {T : rq_A} {X : rq_X} {I A : ja_I} {J : ja_J} {s s1 s2 s3 : pp_S} {w : ja_w} {C : pp_C} {v : Nat}
theorem rD_c {m k n : Nat} (h : rD ts f2 f1 d C) (hm : m ≤ 2) (hw : rq ts f2 f1 ((6, nI m) :: T) X w s) (hn : X.2.1 = -1) (hT : T.length ≤ (tw s).1 + k) (hX : X.2.2.2.1.length ≤ (tw s).2 + n) {y : Nat ⊕ (Nat × pp_S)} (hy : pp_c C 56 m 0 k n s = some y) : rG d w (rO f2 f1 y (fun nm s' w' => ∃ X' : rq_X, (X'.1 = X.1 ∧ X'.2.1 = nI nm - 1 ∧ X'.2.2.2 = X.2.2.2) ∧ rq ts f2 f1 T X' w' s')) := by
  obtain ⟨pos, op, cc, tn, tl, wt, r⟩ := s
  simp only [pp_c] at hy
  rcases pp_bE hy with ⟨p', hr, hp'⟩ | ⟨v, s3, hr, hk⟩
  · subst hp'
    exact h m hm (pos, op, cc, tn, tl + k, wt + n, r) T X w hw hn hT hX _ hr
  · have := h m hm (pos, op, cc, tn, tl + k, wt + n, r) T X w hw hn hT hX _ hr
    obtain ⟨pos1, op1, cc1, tn1, tl1, wt1, r1⟩ := s3
    cases hk
    exact this
theorem rq_st {st nm fs pl : Int32} {wl : List Int32} (hw : rq ts f2 f1 T (st, nm, fs, wl, pl) (I, A, J) s) : rq ts f2 f1 T (nI (pq_sig s).length, -1, fs, wl, pl) (ja_up (ja_up I 0 32 (I 0 30)) 0 33 (-1), A, J) s := by
  obtain ⟨hK, h0, hP, hT, hS, hN, hG, hF, hL, hX⟩ := hw
  exact ⟨hK, h0, hP, hT, hS, hN, hG, hF, hL, hG.1, rfl, hX.2.2⟩
/-- typed, of a parameter -/
theorem rr_55 (hts : pp_ok ts) (hC : rC C) (H : rD ts f2 f1 (d + 9) C) : rM ts f2 f1 (d + 9) 9 0 (fun s => (tw s).1 + 20 ≤ 1200) [(13, 0)] gS (pp_55 ts C 1) := by
  intro s T X w hs hw hT hX x hx
  have hs' : (tw s).1 + 20 ≤ 1200 := hs
  obtain ⟨I, A, J⟩ := w
  obtain ⟨st, nm0, fs, wl, pl⟩ := X
  have h0 := rq_pop hw
  have z1 : ∀ {p : Prop}, ((1 : Int32) = 0 → p) := fun h => absurd h (by decide)
  unfold pp_55 at hx
  rcases pp_bE hx with ⟨p, hr, hp⟩ | ⟨b, s1, hr, hk⟩
  · obtain ⟨z, I1, A1, J1, hE1, hw1⟩ := rl_21 (d := d + 2) hts h0 hr
    obtain ⟨rfl, e⟩ := hw1
    subst hp
    cases e
    exact rt_9 hw ⟨_, _, _, er_40 (r := (_, _)) ⟨z, _, _, _, hE1, fun c => z1 c, fun _ => rfl⟩, (rb_of h0).1⟩
  · obtain ⟨z, I1, A1, J1, hE1, hw1⟩ := rl_21 (d := d + 2) hts h0 hr
    obtain ⟨hz, hw1⟩ := hw1
    have h16 : I1 0 16 = 0 := hw1.2.2.1.2.2.2.2
    obtain ⟨I2, A2, J2, hE2, hw2⟩ := rl_11 (d := d + 6) hw1 (by omega) 13 0
    have e32 : I2 0 32 = st := hw2.2.2.2.2.2.2.2.2.2.1
    obtain ⟨I3, A3, J3, hE3, hw3⟩ := rl_11 (d := d + 6) hw2 (by rw [List.length_cons]; omega) 12 st
    have e33 : I3 0 33 = nm0 := hw3.2.2.2.2.2.2.2.2.2.2.1
    obtain ⟨I4, A4, J4, hE4, hw4⟩ := rl_11 (d := d + 6) hw3 (by rw [List.length_cons, List.length_cons]; omega) 11 nm0
    obtain ⟨I5, A5, J5, hE5, hw5⟩ := rl_11 (d := d + 6) hw4 (by rw [List.length_cons, List.length_cons, List.length_cons]; omega) 10 z
    obtain ⟨I6, A6, J6, hE6, hw6⟩ := rl_11 (d := d + 6) hw5 (by rw [List.length_cons, List.length_cons, List.length_cons, List.length_cons]; omega) 6 1
    rw [← e32] at hE3
    rw [← e33] at hE4
    have hw7 := rq_st hw6
    refine rG_t (rt_9 (G := fun w => rq ts f2 f1 ((6, 1) :: (10, z) :: (11, nm0) :: (12, st) :: (13, 0) :: T) (nI (pq_sig s1).length, -1, fs, wl, pl) w s1) hw ⟨_, _, _, er_40 (r := (_, _)) ⟨z, _, _, _, hE1, fun _ => ⟨_, _, _, hE2, _, _, _, hE3, _, _, _, hE4, _, _, _, hE5, _, _, _, hE6, rfl⟩, fun c => absurd h16 c⟩, hw7⟩) (fun w1 h1 => ?_)
    have t1 := pp_base_tw hr
    have es1 : pq_sig s1 = pq_sig s ∧ pq_tn s1 = pq_tn s := (pp_base_e hr).2.2
    refine rG_b hk (fun y hy => rD_c (m := 1) H (by omega) h1 rfl (by rw [List.length_cons, List.length_cons, List.length_cons, List.length_cons, t1]; omega) (by rw [t1]; exact hX) hy) (fun nm s2 w2 hr2 h2 hk2 => ?_)
    obtain ⟨⟨st2, nm2, fs2, wp2⟩, ⟨hg1, hg2, hg3⟩, hw2⟩ := h2
    obtain rfl : st2 = nI (pq_sig s1).length := hg1
    obtain rfl : nm2 = nI nm - 1 := hg2
    obtain rfl : wp2 = (wl, pl) := hg3
    split at hk2
    · rename_i hbv
      obtain ⟨I7, A7, J7⟩ := w2
      have h70 := rq_pop hw2
      rcases pp_bE hk2 with ⟨p, hr3, hp⟩ | ⟨v3, s3, hr3, hk3⟩
      · unfold pp_wb at hr3
        repeat' split at hr3
        all_goals first
          | exact absurd hr3 (pp_pt_n _ _ _)
          | (cases hr3; done)
      · obtain ⟨I8, A8, J8, hE8, hw8⟩ := rl_25 (d := d + 5) hts h70 hr3
        rw [hbv.1, ← hz] at hE8
        have e33' : I8 0 33 = nI nm - 1 := hw8.2.2.2.2.2.2.2.2.2.2.1
        -- the end: NAME_BACK, START_BACK
        have fin : ∀ (s4 : pp_S) (w : ja_w) (X4 : rq_X), X4.2.2.2 = (wl, pl) → rq ts f2 f1 ((11, nm0) :: (12, st) :: (13, 0) :: T) X4 w s4 → rG (d + 9) w (rO f2 f1 (.inr ((0 : Nat), s4)) (fun v s' w' => ∃ X', gS v (st, nm0, fs, wl, pl) X' ∧ rq ts f2 f1 ([(13, 0)] ++ T) X' w' s')) := by
          intro s4 w X4 hX4 hw4
          obtain ⟨I, A, J⟩ := w
          obtain ⟨a1, a2, a3, a4⟩ := X4
          obtain rfl : a4 = (wl, pl) := hX4
          refine rG_t (rt_11 (d := d + 8) hw4) (fun w5 h5 => ?_)
          obtain ⟨I5, A5, J5⟩ := w5
          exact rG_m (rt_12 (d := d + 8) h5) (fun w6 h6 => ⟨_, ⟨rfl, rfl, rfl⟩, h6⟩)
        by_cases hn : nm = 0
        · subst hn
          rw [if_pos rfl] at hk3
          cases hk3
          refine rG_t (rt_10 (G := fun w => rq ts f2 f1 ((11, nm0) :: (12, st) :: (13, 0) :: T) (nI (pq_sig s1).length, nI 0 - 1, fs2, wl, pl) w s3) hw2 ⟨_, _, _, er_41 (r := (_, _)) ⟨_, _, _, hE8, fun _ => rfl, fun c => absurd (by rw [e33']; decide) c⟩, hw8⟩) (fun w9 h9 => fin s3 w9 _ rfl h9)
        · rw [if_neg hn] at hk3
          rcases pp_bE hk3 with ⟨p, hr4, hp⟩ | ⟨v4, s4, hr4, hk4⟩
          · obtain ⟨pos, op, cc, tn, tl, wt, pn, scs, sd, sig, frm, rl, mn, dc, fc⟩ := s3
            simp only [pp_de] at hr4
            split at hr4 <;> cases hr4
          · cases hk4
            have lt := pp_de_e hr4
            have h160 := hts.1
            obtain ⟨I9, A9, J9, hE9, hw9⟩ := rl_31 (d := d + 5) (ty := 0) hts hw8 (st := (pq_sig s).length) (by rw [← es1.1]) (vN_s hn) (by omega) hr4
            refine rG_t (rt_10 (G := fun w => rq ts f2 f1 ((11, nm0) :: (12, st) :: (13, 0) :: T) (nI (pq_sig s1).length, nI nm - 1, fs2, wl, pl) w s4) hw2 ⟨_, _, _, er_41 (r := (_, _)) ⟨_, _, _, hE8, fun c => absurd c (by rw [e33', vN_s hn]; exact nI_pos (by omega)), fun _ => ⟨_, _, _, hE9, rfl⟩⟩, hw9⟩) (fun w9 h9 => fin s4 w9 _ rfl h9)
    · cases hk2
end
