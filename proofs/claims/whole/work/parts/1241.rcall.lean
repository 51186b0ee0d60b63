section
variable {ts : List pp_T} {f2 : Int32} {f1 : Nat → Int32} {d : Nat} {T : rq_A} {X : rq_X} {I A : ja_I} {J : ja_J} {s s1 s2 s3 : pp_S} {w : ja_w} {C : pp_C} {v : Nat}
theorem rr_73t (hts : pp_ok ts) {n : Nat} (hn : n ≤ 200) {st nm fs pl : Int32} {wl : List Int32} (hw : rq ts f2 f1 ((35, nI n) :: (37, 0) :: (34, 0) :: T) (st, nm, fs, wl, pl) w s) (hk : n = 0 ∨ ¬ pp_at ts s = 44) {x : Nat ⊕ (Nat × pp_S)} (hx : (pp_b (pp_ex ts 41 s) fun _ s => if n < 100 then pp_pf (40 :: (pp_dig n ++ [41])) s else none) = some x) : rG (d + 9) w (rO f2 f1 x (fun _ s' w' => ∃ X' : rq_X, (X'.2.2.2.1 = wl ∧ X'.2.2.2.2 = nI 1) ∧ rq ts f2 f1 ((34, 0) :: T) X' w' s')) := by
  obtain ⟨I, A, J⟩ := w
  refine rG_t (rt_35e (d := d + 3) hts hn hw hk hx) (fun w1 h1 => ?_)
  cases x with
  | inl p => exact rG_0 h1
  | inr z =>
    obtain ⟨I1, A1, J1⟩ := w1
    exact rG_m (rt_37 (d := d + 8) h1) (fun w2 h2 => ⟨(st, nm, fs, wl, 1), ⟨rfl, rfl⟩, h2⟩)
theorem rr_73l (hts : pp_ok ts) (H : rH ts f2 f1 (d + 9) C) : ∀ (m n : Nat) (s : pp_S) (X : rq_X) (w : ja_w), rq ts f2 f1 ((35, nI n) :: (37, 0) :: (34, 0) :: T) X w s → 1 ≤ n → n + m ≤ 161 → T.length ≤ (tw s).1 → X.2.2.2.1.length ≤ (tw s).2 → ∀ x, pp_b (pp_w (fun _ s => some (pp_at ts s == 44)) (fun n s => pp_b (pp_tk ts s) fun _ s => pp_b (pp_c C 63 0 0 3 0 s) fun _ s => pp_ret (n + 1) s) m n s) (fun n s => pp_b (pp_ex ts 41 s) fun _ s => if n < 100 then pp_pf (40 :: (pp_dig n ++ [41])) s else none) = some x → rG (d + 9) w (rO f2 f1 x (fun _ s' w' => ∃ X', gE 1 X X' ∧ rq ts f2 f1 ((34, 0) :: T) X' w' s')) := by
  intro m
  induction m with
  | zero =>
    intro n s X w hw hn hm hT hX x hx
    simp only [pp_w] at hx
    cases hb : (pp_at ts s == 44) with
    | true => rw [hb] at hx; cases hx
    | false =>
      rw [hb] at hx
      obtain ⟨st, nm, fs, wl, pl⟩ := X
      exact rr_73t hts (by omega) hw (Or.inr (fun c => by rw [c] at hb; exact absurd hb (by decide))) hx
  | succ m ih =>
    intro n s X w hw hn hm hT hX x hx
    simp only [pp_w] at hx
    cases hb : (pp_at ts s == 44) with
    | false =>
      rw [hb] at hx
      obtain ⟨st, nm, fs, wl, pl⟩ := X
      exact rr_73t hts (by omega) hw (Or.inr (fun c => by rw [c] at hb; exact absurd hb (by decide))) hx
    | true =>
      rw [hb] at hx
      simp only at hx
      rw [pp_bb, pp_bb] at hx
      have h44 : pp_at ts s = 44 := eq_of_beq hb
      obtain ⟨I, A, J⟩ := w
      rcases pp_bE hx with ⟨p', hr, hp'⟩ | ⟨t, s1, hr, hk⟩
      · exact absurd hr (pp_tk_n (by rw [h44]; rfl))
      · have t1 := pp_tk_tw hr
        rw [pp_bb] at hk
        have hl := rC_b H.1 hk
        rw [t1] at hl
        have h0 := rq_pop hw
        have h1 := rq_tk h0 hr (by rw [h44]; rfl) (by rw [h44]; rfl)
        obtain ⟨I2, A2, J2, hE2, hw2⟩ := rl_11 (d := d + 6) h1 (by rw [List.length_cons, List.length_cons]; omega) 35 (nI n + 1)
        obtain ⟨I3, A3, J3, hE3, hw3⟩ := rl_11 (d := d + 6) hw2 (by rw [List.length_cons, List.length_cons, List.length_cons]; omega) 22 0
        rw [nI_1] at hw3
        refine rG_t (rt_35 (d := d + 8) (G := fun w => rq ts f2 f1 ((22, 0) :: (35, nI (n + 1)) :: (37, 0) :: (34, 0) :: T) X w s1) hw ⟨I3, A3, J3, er_60 (r := (_, _)) ⟨fun c => absurd c (nI_nle (by omega) (by omega)), fun _ => ⟨1, _, _, _, rl_13t hts h0 (by rw [h44]; rfl), fun c => absurd c (by decide), fun _ => ⟨_, _, _, hE2, _, _, _, hE3, rfl⟩⟩⟩, hw3⟩) (fun w1 h1 => ?_)
        refine rG_b hk (fun y hy => rM_c H.2.1 (fun _ _ => trivial) h1 (by rw [List.length_cons, List.length_cons, List.length_cons, t1]; omega) (by rw [t1]; exact hX) hy) (fun v2 s2 w2 hr2 h2 hk2 => ?_)
        obtain ⟨X', hg, hw2⟩ := h2
        have t2 := pp_c_tw hr2
        refine rG_m (ih (n + 1) s2 X' w2 hw2 (by omega) (by omega) (by rw [t2, t1]; exact hT) (by rw [t2, t1, hg]; exact hX) x hk2) (fun w' h => ?_)
        cases x with
        | inl p => exact h
        | inr z =>
          obtain ⟨X'', g, h⟩ := h
          exact ⟨X'', ⟨g.1.trans hg, g.2⟩, h⟩
theorem rr_73 (hts : pp_ok ts) (H : rH ts f2 f1 (d + 9) C) : rM ts f2 f1 (d + 9) 34 0 (fun s => (tw s).1 + 20 ≤ 1200 ∧ pp_at ts s = 40) [(34, 0)] (fun _ => gE 1) (pp_73 ts C) := by
  intro s T X w hs hw hT hX x hx
  obtain ⟨hs', hk⟩ := hs
  unfold pp_73 at hx
  obtain ⟨I, A, J⟩ := w
  have h0 := rq_pop hw
  have n91 : ¬ rk (pp_at ts s) = 91 := by rw [hk]; decide
  obtain ⟨I1, A1, J1, hE1, hw1⟩ := rl_11 (d := d + 6) h0 (by omega) 34 0
  obtain ⟨I2, A2, J2, hE2, hw2⟩ := rl_11 (d := d + 6) hw1 (by rw [List.length_cons]; omega) 37 0
  have hx' : (pp_b (pp_tk ts s) fun _ s => pp_b (if pp_at ts s = 41 then pp_ret 0 s else pp_b (pp_c C 63 0 0 3 0 s) fun _ s => pp_w (fun _ s => some (pp_at ts s == 44)) (fun n s => pp_b (pp_tk ts s) fun _ s => pp_b (pp_c C 63 0 0 3 0 s) fun _ s => pp_ret (n + 1) s) 160 1 s) fun n s => pp_b (pp_ex ts 41 s) fun _ s => if n < 100 then pp_pf (40 :: (pp_dig n ++ [41])) s else none) = some x := by
    unfold pp_ex at hx
    rwa [if_pos (show pp_k ts (pq_pos s) = 40 from hk)] at hx
  have z0 : ∀ {p : Prop}, (¬ (0 : Int32) = 0 → p) := fun h => absurd rfl h
  have z1 : ∀ {p : Prop}, ((1 : Int32) = 0 → p) := fun h => absurd h (by decide)
  rcases pp_bE hx' with ⟨p, hr, hp⟩ | ⟨t, s1, hr, hk1⟩
  · obtain ⟨I3, A3, J3, hE3, hw3⟩ := rl_15 (d := d + 5) hts hw2 (by rw [hk]; rfl) hr
    obtain ⟨rfl, e⟩ := hw3
    subst hp
    cases e
    obtain ⟨b0, n0⟩ := rb_of hw2
    obtain ⟨I4, A4, J4, hE4, b4, n4⟩ := rl_11b (d := d + 6) b0 n0 (by rw [List.length_cons, List.length_cons]; omega) 35 1
    obtain ⟨I5, A5, J5, hE5, b5, n5⟩ := rl_11b (d := d + 6) b4 n4 (by rw [List.length_cons, List.length_cons]; omega) 22 0
    exact rt_34 hw ⟨I5, A5, J5, er_59 (r := (_, _)) ⟨0, _, _, _, rl_13f hts h0 n91, fun _ => ⟨1, _, _, _, rl_13t hts h0 (by rw [hk]; rfl), z1, fun _ => ⟨_, _, _, hE1, _, _, _, hE2, _, _, _, hE3, fun c => absurd (b0.2.1.symm.trans c) (by decide), fun _ => ⟨fun _ => ⟨_, _, _, hE4, fun _ => ⟨_, _, _, hE5, rfl⟩, z0⟩, z0⟩⟩⟩, z0⟩, b5⟩
  · obtain ⟨I3, A3, J3, hE3, hw3⟩ := rl_15 (d := d + 5) hts hw2 (by rw [hk]; rfl) hr
    have hw3' : rq ts f2 f1 ((37, 0) :: (34, 0) :: T) X (I3, A3, J3) s1 := hw3
    have h16 : I3 0 16 = 0 := hw3'.2.2.1.2.2.2.2
    have t1 := pp_tk_tw hr
    by_cases h41 : pp_at ts s1 = 41
    · rw [if_pos h41] at hk1
      obtain ⟨I4, A4, J4, hE4, hw4⟩ := rl_11 (d := d + 6) hw3' (by rw [List.length_cons, List.length_cons]; omega) 35 0
      refine rG_t (rt_34 (G := fun w => rq ts f2 f1 ((35, 0) :: (37, 0) :: (34, 0) :: T) X w s1) hw ⟨I4, A4, J4, er_59 (r := (_, _)) ⟨0, _, _, _, rl_13f hts h0 n91, fun _ => ⟨1, _, _, _, rl_13t hts h0 (by rw [hk]; rfl), z1, fun _ => ⟨_, _, _, hE1, _, _, _, hE2, _, _, _, hE3, fun _ => ⟨1, _, _, _, rl_13t hts hw3' (by rw [h41]; rfl), z1, fun _ => ⟨z1, fun _ => ⟨_, _, _, hE4, z1, fun _ => rfl⟩⟩⟩, fun c => absurd h16 c⟩⟩, z0⟩, hw4⟩) (fun w1 h1 => ?_)
      obtain ⟨st, nm, fs, wl, pl⟩ := X
      exact rr_73t (n := 0) hts (by omega) h1 (Or.inl rfl) hk1
    · rw [if_neg h41, pp_bb] at hk1
      have n41 : ¬ rk (pp_at ts s1) = 41 := fun c => h41 ((rk_o (by decide) (by decide) (by decide) _).mp c)
      obtain ⟨I4, A4, J4, hE4, hw4⟩ := rl_11 (d := d + 6) hw3' (by rw [List.length_cons, List.length_cons]; omega) 35 1
      obtain ⟨I5, A5, J5, hE5, hw5⟩ := rl_11 (d := d + 6) hw4 (by rw [List.length_cons, List.length_cons, List.length_cons]; omega) 22 0
      refine rG_t (rt_34 (G := fun w => rq ts f2 f1 ((22, 0) :: (35, 1) :: (37, 0) :: (34, 0) :: T) X w s1) hw ⟨I5, A5, J5, er_59 (r := (_, _)) ⟨0, _, _, _, rl_13f hts h0 n91, fun _ => ⟨1, _, _, _, rl_13t hts h0 (by rw [hk]; rfl), z1, fun _ => ⟨_, _, _, hE1, _, _, _, hE2, _, _, _, hE3, fun _ => ⟨0, _, _, _, rl_13f hts hw3' n41, fun _ => ⟨fun _ => ⟨_, _, _, hE4, fun _ => ⟨_, _, _, hE5, rfl⟩, z0⟩, z0⟩, z0⟩, fun c => absurd h16 c⟩⟩, z0⟩, hw5⟩) (fun w1 h1 => ?_)
      refine rG_b hk1 (fun y hy => rM_c H.2.1 (fun _ _ => trivial) h1 (by rw [List.length_cons, List.length_cons, List.length_cons, t1]; omega) (by rw [t1]; exact hX) hy) (fun v2 s2 w2 hr2 h2 hk2 => ?_)
      obtain ⟨X', hg, hw2⟩ := h2
      have t2 := pp_c_tw hr2
      refine rG_m (rr_73l (T := T) hts H 160 1 s2 X' w2 hw2 (by omega) (by omega) (by rw [t2, t1]; exact hT) (by rw [t2, t1, hg]; exact hX) x hk2) (fun w' h => ?_)
      cases x with
      | inl p => exact h
      | inr z =>
        obtain ⟨X'', g, h⟩ := h
        exact ⟨X'', ⟨g.1.trans hg, g.2⟩, h⟩
theorem rr_71l (hts : pp_ok ts) (H : rH ts f2 f1 (d + 9) C) : ∀ (m p : Nat) (s : pp_S) (X : rq_X) (w : ja_w), rq ts f2 f1 ((34, 0) :: T) X w s → X.2.2.2.2 = nI p → T.length ≤ (tw s).1 → X.2.2.2.1.length ≤ (tw s).2 → ∀ x, pp_w (fun _ s => some (pp_at ts s == 91 || pp_at ts s == 40)) (fun _ s => pp_b (if pp_at ts s = 91 then pp_c C 72 0 0 0 0 s else pp_c C 73 0 0 0 0 s) fun _ s => pp_ret 1 s) m p s = some x → rG (d + 9) w (rO f2 f1 x (fun v s' w' => ∃ X', gE v X X' ∧ rq ts f2 f1 T X' w' s')) := by
  have fin : ∀ (p : Nat) (s : pp_S) (X : rq_X) (w : ja_w), rq ts f2 f1 ((34, 0) :: T) X w s → X.2.2.2.2 = nI p → (pp_at ts s == 91 || pp_at ts s == 40) = false → rG (d + 9) w (rO f2 f1 (.inr (p, s)) (fun v s' w' => ∃ X', gE v X X' ∧ rq ts f2 f1 T X' w' s')) := by
    intro p s X w hw hp hb
    obtain ⟨I, A, J⟩ := w
    simp at hb
    have h0 := rq_pop hw
    exact rt_34 hw ⟨_, _, _, er_59 (r := (_, _)) ⟨0, _, _, _, rl_13f hts h0 (fun c => hb.1 ((rk_o (by decide) (by decide) (by decide) _).mp c)), fun _ => ⟨0, _, _, _, rl_13f hts h0 (fun c => hb.2 ((rk_o (by decide) (by decide) (by decide) _).mp c)), fun _ => rfl, fun n => absurd rfl n⟩, fun n => absurd rfl n⟩, X, ⟨rfl, hp⟩, h0⟩
  intro m
  induction m with
  | zero =>
    intro p s X w hw hp hT hX x hx
    simp only [pp_w] at hx
    cases hb : (pp_at ts s == 91 || pp_at ts s == 40) with
    | true => rw [hb] at hx; cases hx
    | false =>
      rw [hb] at hx
      cases hx
      exact fin p s X w hw hp hb
  | succ m ih =>
    intro p s X w hw hp hT hX x hx
    simp only [pp_w] at hx
    cases hb : (pp_at ts s == 91 || pp_at ts s == 40) with
    | false =>
      rw [hb] at hx
      cases hx
      exact fin p s X w hw hp hb
    | true =>
      rw [hb] at hx
      simp only at hx
      rw [pp_bb] at hx
      have hkk : pp_at ts s = 91 ∨ pp_at ts s = 40 := by simpa using hb
      have goon : ∀ (v2 : Nat) (s2 : pp_S) (w2 : ja_w), tw s2 = tw s → (∃ X', gE 1 X X' ∧ rq ts f2 f1 ([(34, 0)] ++ T) X' w2 s2) → pp_w (fun _ s => some (pp_at ts s == 91 || pp_at ts s == 40)) (fun _ s => pp_b (if pp_at ts s = 91 then pp_c C 72 0 0 0 0 s else pp_c C 73 0 0 0 0 s) fun _ s => pp_ret 1 s) m 1 s2 = some x → rG (d + 9) w2 (rO f2 f1 x (fun v s' w' => ∃ X', gE v X X' ∧ rq ts f2 f1 T X' w' s')) := by
        rintro v2 s2 w2 t2 ⟨X', hg, hw2⟩ hk
        refine rG_m (ih 1 s2 X' w2 hw2 hg.2 (by rw [t2]; exact hT) (by rw [t2, hg.1]; exact hX) x hk) (fun w' h => ?_)
        cases x with
        | inl p => exact h
        | inr z =>
          obtain ⟨X'', g, h⟩ := h
          exact ⟨X'', ⟨g.1.trans hg.1, g.2⟩, h⟩
      rcases hkk with h91 | h40
      · rw [if_pos h91] at hx
        exact rG_b hx (fun y hy => rM_c H.2.2.2.2.2.2.1 (fun _ _ => h91) hw (by omega) (by omega) hy) (fun v2 s2 w2 hr2 h2 hk2 => goon v2 s2 w2 (pp_c_tw hr2) h2 hk2)
      · rw [if_neg (by rw [h40]; decide)] at hx
        exact rG_b hx (fun y hy => rM_c H.2.2.2.2.2.2.2.1 (fun _ _ => h40) hw (by omega) (by omega) hy) (fun v2 s2 w2 hr2 h2 hk2 => goon v2 s2 w2 (pp_c_tw hr2) h2 hk2)
theorem rr_71 (hts : pp_ok ts) (H : rH ts f2 f1 (d + 9) C) : rM ts f2 f1 (d + 9) 33 0 (fun s => (tw s).1 + 20 ≤ 1200) [] gE (pp_71 ts C) := by
  intro s T X w hs hw hT hX x hx
  unfold pp_71 at hx
  refine rG_b hx (fun y hy => rM_c H.2.2.2.2.2.2.2.2 (fun _ _ => trivial) hw (by omega) hX hy) (fun p s1 w2 hr h2 hk => ?_)
  obtain ⟨X', hg, hw2⟩ := h2
  unfold pp_01 at hk
  split at hk
  · have t1 := pp_c_tw hr
    refine rG_m (rr_71l (T := T) hts H 160 p s1 X' w2 hw2 hg.2 (by rw [t1]; exact hT) (by rw [t1, hg.1]; exact hX) x hk) (fun w' h => ?_)
    cases x with
    | inl p => exact h
    | inr z =>
      obtain ⟨X'', g, h⟩ := h
      exact ⟨X'', ⟨g.1.trans hg.1, g.2⟩, h⟩
  · cases hk
end
