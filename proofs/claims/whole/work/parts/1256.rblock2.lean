section
variable {ts : List pp_T} {f2 : Int32} {f1 : Nat → Int32} {d : Nat} {T : rq_A} {X : rq_X} {I A : ja_I} {J : ja_J} {s s' s0 s1 s2 s3 : pp_S} {w : ja_w} {C C' : pp_C} {v : Nat}
theorem pp_os_q {q : Nat} (h : pp_os q s = some (.inr (v, s1))) : q < 1000 := by
  obtain ⟨pos, op, cc, tn, tl, wt, pn, scs, sd, sig, frm, rl, mn, dc, fc⟩ := s
  simp only [pp_os] at h
  split at h
  · rename_i hb; exact hb.2
  · cases h
/-- block -/
theorem rr_81 (hts : pp_ok ts) (hC : rC C) (HD : rM ts f2 f1 (d + 9) 2 0 any [] g63 (C 78 0 0)) (HS : rM ts f2 f1 (d + 9) 17 0 any [] g63 (C 82 0 0)) (q : Nat) (s s0 : pp_S) (b : Int32) (T : rq_A) (X : rq_X) (w : ja_w) (hk : pp_at ts s = 123) (hent : (b = nI q ∧ sr s0 s) ∨ (b = -1 ∧ ∃ s1, pp_ns s0 = some (.inr (q, s1)) ∧ sr s1 s)) (hw : rq ts f2 f1 ((15, b) :: T) X w s0) (hT : T.length ≤ (tw s).1) (hX : X.2.2.2.1.length ≤ (tw s).2) (hg : (tw s).1 + 20 ≤ 1200) {x : Nat ⊕ (Nat × pp_S)} (hx : pp_81 ts C q s = some x) : rG (d + 9) w (rO f2 f1 x (fun v s' w' => ∃ X', g63 v X X' ∧ rq ts f2 f1 T X' w' s')) := by
  obtain ⟨I, A, J⟩ := w
  have h0 := rq_pop hw
  unfold pp_81 pp_ex at hx
  rw [if_pos (show pp_k ts (pq_pos s) = 123 from hk)] at hx
  -- from the scope on
  have goon : ∀ (s1 : pp_S) (I1 A1 : ja_I) (J1 : ja_J), tw s1 = tw s → rq ts f2 f1 T X (I1, A1, J1) s1 → (pp_b (pp_os q s1) fun _ s => pp_b (pp_pf [123] s) fun _ s => pp_b (pp_w (fun _ s => some (!(pp_at ts s == 125))) (fun _ s => pp_if (if pp_at ts s = 4 then some true else pp_ib ts s (pq_pos s)) (pp_c C 78 0 0 1 0 s) (pp_c C 82 0 0 1 0 s)) 160 0 s) fun _ s => pp_b (pp_ex ts 125 s) fun _ s => pp_b (pp_pf [125] s) fun _ s => pp_xs s) = some x → ∃ s3 I2 A2 J2 I3 A3 J3 I4 A4 J4, er_E (d + 7) 22 [.ref 0, .int (nI q)] (I1, A1, J1) (.inl none) (I2, A2, J2) ∧ er_E (d + 7) 26 [.ref 0, .int 123] (I2, A2, J2) (.inl none) (I3, A3, J3) ∧ er_E (d + 7) 11 [.ref 0, .int 16, .int 0] (I3, A3, J3) (.inl none) (I4, A4, J4) ∧ rq ts f2 f1 ((16, 0) :: T) X (I4, A4, J4) s3 ∧ q < 1000 ∧ ∀ w1, rq ts f2 f1 ((16, 0) :: T) X w1 s3 → rG (d + 9) w1 (rO f2 f1 x (fun v s' w' => ∃ X', g63 v X X' ∧ rq ts f2 f1 T X' w' s')) := by
    intro s1 I1 A1 J1 t1 hw1 hx1
    rcases pp_bE hx1 with ⟨p, hr2, hp⟩ | ⟨v2, s2, hr2, hk2⟩
    · exact absurd hr2 pp_os_n
    · rcases pp_bE hk2 with ⟨p, hr3, hp⟩ | ⟨v3, s3, hr3, hk3⟩
      · exact absurd hr3 (pp_pf_n _ _ _)
      · obtain ⟨I2, A2, J2, hE2, hw2⟩ := rl_22 (d := d + 6) hw1 hr2
        obtain ⟨I3, A3, J3, ⟨hE3, _⟩, hw3⟩ := rl_26 (d := d + 6) hw2 hr3
        obtain ⟨I4, A4, J4, hE4, hw4⟩ := rl_11 (d := d + 6) hw3 (by omega) 16 0
        have t3 : tw s3 = tw s := by rw [pp_pf_tw hr3, pp_os_tw hr2, t1]
        exact ⟨s3, I2, A2, J2, I3, A3, J3, I4, A4, J4, hE2, hE3, hE4, hw4, pp_os_q hr2, fun w1 h1 => rr_81l (T := T) hts hC HD HS 160 0 s3 X w1 h1 (by omega) (by rw [t3]; exact hT) (by rw [t3]; exact hX) x hk3⟩
  rcases hent with ⟨rfl, hsr⟩ | ⟨rfl, s1a, hns, hsr⟩
  · have h1 := rq_sr hsr h0
    rcases pp_bE hx with ⟨p, hr, hp⟩ | ⟨t, s1, hr, hk1⟩
    · obtain ⟨I1, A1, J1, hE1, hw1⟩ := rl_15 (d := d + 5) hts h1 (by rw [hk]; rfl) hr
      obtain ⟨rfl, e⟩ := hw1
      subst hp
      cases e
      have b0 := (rb_of h1).1
      exact rt_15 (d := d + 8) hw ⟨_, _, _, er_44 (r := (_, _)) ⟨_, _, _, hE1, fun e => absurd (b0.2.1.symm.trans e) (by decide), fun _ => rfl⟩, b0⟩
    · obtain ⟨I1, A1, J1, hE1, hw1⟩ := rl_15 (d := d + 5) hts h1 (by rw [hk]; rfl) hr
      have hw1' : rq ts f2 f1 T X (I1, A1, J1) s1 := hw1
      have h16 : I1 0 16 = 0 := hw1'.2.2.1.2.2.2.2
      obtain ⟨s3, I2, A2, J2, I3, A3, J3, I4, A4, J4, hE2, hE3, hE4, hw4, hq, rest⟩ := goon s1 I1 A1 J1 (pp_tk_tw hr) hw1' hk1
      refine rG_t (rt_15 (d := d + 8) (G := fun w => rq ts f2 f1 ((16, 0) :: T) X w s3) hw ⟨_, _, _, er_44 (r := (_, _)) ⟨_, _, _, hE1, fun _ => ⟨fun _ => ⟨_, _, _, hE2, _, _, _, hE3, _, _, _, hE4, rfl⟩, fun e => absurd (nI_pos' (by omega)) e⟩, fun e => absurd h16 e⟩, hw4⟩) (fun w1 h => rest w1 h)
  · have ha0 : pp_at ts s0 = 123 := by
      have e1 : pq_pos s1a = pq_pos s0 := by
        obtain ⟨pos, op, cc, tn, tl, wt, pn, scs, sd, sig, frm, rl, mn, dc, fc⟩ := s0
        simp only [pp_ns] at hns
        split at hns
        · cases hns; rfl
        · cases hns
      have e2 : pq_pos s = pq_pos s1a := hsr.1
      show pp_k ts (pq_pos s0) = 123
      rw [← e1, ← e2]; exact hk
    cases hr0 : pp_tk ts s with
    | none => rw [hr0] at hx; cases hx
    | some y =>
      rw [hr0] at hx
      rcases ns_tk hns hsr hr0 with ⟨p, rfl, hr⟩ | ⟨t, s2, s0', s2', rfl, hr, hns', hsr'⟩
      · cases hx
        obtain ⟨I1, A1, J1, hE1, hw1⟩ := rl_15 (d := d + 5) hts h0 (by rw [ha0]; rfl) hr
        obtain ⟨rfl, e⟩ := hw1
        cases e
        have b0 := (rb_of h0).1
        exact rt_15 (d := d + 8) hw ⟨_, _, _, er_44 (r := (_, _)) ⟨_, _, _, hE1, fun e => absurd (b0.2.1.symm.trans e) (by decide), fun _ => rfl⟩, b0⟩
      · obtain ⟨I1, A1, J1, hE1, hw1⟩ := rl_15 (d := d + 5) hts h0 (by rw [ha0]; rfl) hr
        have hw1' : rq ts f2 f1 T X (I1, A1, J1) s0' := hw1
        have h16 : I1 0 16 = 0 := hw1'.2.2.1.2.2.2.2
        obtain ⟨I5, A5, J5, hE5, hw5⟩ := rl_23 (d := d + 6) hw1' hns'
        obtain ⟨s3, I2, A2, J2, I3, A3, J3, I4, A4, J4, hE2, hE3, hE4, hw4, hq, rest⟩ := goon s2 I5 A5 J5 (pp_tk_tw hr0) (rq_sr hsr' hw5) hx
        refine rG_t (rt_15 (d := d + 8) (G := fun w => rq ts f2 f1 ((16, 0) :: T) X w s3) hw ⟨_, _, _, er_44 (r := (_, _)) ⟨_, _, _, hE1, fun _ => ⟨fun e => absurd e (by decide), fun _ => ⟨_, _, _, _, hE5, _, _, _, hE2, _, _, _, hE3, _, _, _, hE4, rfl⟩⟩, fun e => absurd h16 e⟩, hw4⟩) (fun w1 h => rest w1 h)
/-! what a declaration's number says -/
theorem sp_0 : ∀ z, z < 2000 → (nI (4 * z) &&& 2) = 0 ∧ nI (4 * z) >>> (2 &&& 31) = nI z ∧ (nI (4 * z) &&& 1) = 0 ∧ nI (4 * z) &&& (-2) = nI (4 * z) := by decide +kernel
theorem sp_1 : ∀ z, z < 2000 → (nI (4 * z + 1) &&& 2) = 0 ∧ nI (4 * z + 1) >>> (2 &&& 31) = nI z ∧ (nI (4 * z + 1) &&& 1) = 1 ∧ nI (4 * z + 1) &&& (-2) = nI (4 * z) := by decide +kernel
theorem sp_2 : ∀ z, z < 2000 → (nI (4 * z + 2) &&& 2) = 2 ∧ nI (4 * z + 2) >>> (2 &&& 31) = nI z ∧ (nI (4 * z + 2) &&& 1) = 0 ∧ nI (4 * z + 2) &&& (-2) = nI (4 * z + 2) := by decide +kernel
/-- beginDeclarator -/
theorem rl_33 {st nm fs pl : Int32} {wl : List Int32} {sp : Int32} (hw : rq ts f2 f1 T (st, nm, fs, wl, pl) (I, A, J) s) (hl : T.length < 1190) : ∃ (I1 A1 : ja_I) (J1 : ja_J), er_E (d + 2) 33 [.ref 0, .int sp] (I, A, J) (.inl none) (I1, A1, J1) ∧ rq ts f2 f1 ((6, 0) :: (3, sp) :: T) (0, -1, fs, wl, pl) (I1, A1, J1) (pp_z0 s) := by
  have hw0 : rq ts f2 f1 T (0, -1, fs, wl, pl) (ja_up (ja_up (ja_up (ja_up I 0 30 0) 0 32 0) 0 33 (-1)) 0 34 (-1), A, J) (pp_z0 s) := by
    obtain ⟨pos, op, cc, tn, tl, wt, pn, scs, sd, sig, frm, rl, mn, dc, fc⟩ := s
    obtain ⟨hK, h0, hP, hT, hS, hN, hG, hF, hL, hX⟩ := hw
    exact ⟨hK, h0, hP, hT, hS, hN, ⟨rfl, Nat.zero_le _, hG.2.2.1, cq_h0 _ _⟩, hF, hL, rfl, rfl, by show (-1 : Int32) = nI 0 - 1; decide, hX.2.2.2⟩
  obtain ⟨I1, A1, J1, hE1, hw1⟩ := rl_11 (d := d) hw0 (by omega) 3 sp
  obtain ⟨I2, A2, J2, hE2, hw2⟩ := rl_11 (d := d) hw1 (by rw [List.length_cons]; omega) 6 0
  exact ⟨_, _, _, er_33 (r := (_, _)) ⟨_, _, _, hE1, _, _, _, hE2, rfl⟩, hw2⟩
end
