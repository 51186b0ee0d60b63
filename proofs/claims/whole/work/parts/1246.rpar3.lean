section
variable {ts : List pp_T} {f2 : Int32} {f1 : Nat → Int32} {d : Nat} {T : rq_A} {X : rq_X} {I A : ja_I} {J : ja_J} {s s1 s2 s3 : pp_S} {w : ja_w} {C : pp_C} {v : Nat}
theorem gS_t {a b c : Nat} {X Y Z : rq_X} (h : gS a X Y) (k : gS b Y Z) : gS c X Z := ⟨k.1.trans h.1, k.2.1.trans h.2.1, k.2.2.trans h.2.2⟩
/-- PARAMETERS_MORE and on -/
theorem rr_61l (hts : pp_ok ts) (hC : rC C) (H : rM ts f2 f1 (d + 9) 9 0 any [(13, 0)] gS (C 55 1 0)) : ∀ (m a : Nat) (s : pp_S) (X : rq_X) (w : ja_w), rq ts f2 f1 ((13, 0) :: (14, 0) :: (7, 0) :: T) X w s → T.length ≤ (tw s).1 → X.2.2.2.1.length ≤ (tw s).2 → ∀ x, pp_b (pp_w (fun _ s => some (pp_at ts s == 44)) (fun _ s => pp_b (pp_tk ts s) fun _ s => pp_b (pp_pt [44] s) fun _ s => pp_c C 55 1 0 2 0 s) m a s) (fun _ s => pp_b (pp_xs s) fun _ s => pp_b (pp_ex ts 41 s) fun _ s => pp_pt [41] s) = some x → rG (d + 9) w (rO f2 f1 x (fun v s' w' => ∃ X', gS v X X' ∧ rq ts f2 f1 ((7, 0) :: T) X' w' s')) := by
  have fin : ∀ (s : pp_S) (X : rq_X) (w : ja_w), rq ts f2 f1 ((13, 0) :: (14, 0) :: (7, 0) :: T) X w s → (pp_at ts s == 44) = false → ∀ x, (pp_b (pp_xs s) fun _ s => pp_b (pp_ex ts 41 s) fun _ s => pp_pt [41] s) = some x → rG (d + 9) w (rO f2 f1 x (fun v s' w' => ∃ X', gS v X X' ∧ rq ts f2 f1 ((7, 0) :: T) X' w' s')) := by
    intro s X w hw hb x hx
    obtain ⟨I, A, J⟩ := w
    have n44 : ¬ rk (pp_at ts s) = 44 := fun c => by
      rw [(rk_o (by decide) (by decide) (by decide) _).mp c] at hb
      exact absurd hb (by decide)
    have h0 := rq_pop hw
    refine rG_t (rt_13 (d := d + 8) (G := fun w => rq ts f2 f1 ((14, 0) :: (7, 0) :: T) X w s) hw ⟨_, _, _, er_42 (r := (_, _)) ⟨0, _, _, _, rl_13f hts h0 n44, fun _ => rfl, fun n => absurd rfl n⟩, h0⟩) (fun w1 h1 => ?_)
    obtain ⟨I1, A1, J1⟩ := w1
    refine rG_m (rt_14s (d := d + 4) hts h1 hx) (fun w' h => ?_)
    cases x with
    | inl p => exact h
    | inr z => exact ⟨X, ⟨rfl, rfl, rfl⟩, h⟩
  intro m
  induction m with
  | zero =>
    intro a s X w hw hT hX x hx
    simp only [pp_w] at hx
    cases hb : (pp_at ts s == 44) with
    | true => rw [hb] at hx; cases hx
    | false =>
      rw [hb] at hx
      exact fin s X w hw hb x hx
  | succ m ih =>
    intro a s X w hw hT hX x hx
    simp only [pp_w] at hx
    cases hb : (pp_at ts s == 44) with
    | false =>
      rw [hb] at hx
      exact fin s X w hw hb x hx
    | true =>
      rw [hb] at hx
      simp only at hx
      rw [pp_bb, pp_bb] at hx
      have h44 : pp_at ts s = 44 := eq_of_beq hb
      obtain ⟨I, A, J⟩ := w
      have h0 := rq_pop hw
      rcases pp_bE hx with ⟨p', hr, hp'⟩ | ⟨t, s1, hr, hk⟩
      · exact absurd hr (pp_tk_n (by rw [h44]; rfl))
      · have t1 := pp_tk_tw hr
        have h1 := rq_tk h0 hr (by rw [h44]; rfl) (by rw [h44]; rfl)
        rw [pp_bb] at hk
        rcases pp_bE hk with ⟨p', hr2, hp'⟩ | ⟨v2, s2, hr2, hk2⟩
        · exact absurd hr2 (pp_pt_n _ _ _)
        · have t2 := pp_pt_tw hr2
          have hl := rC_b hC hk2
          rw [t2, t1] at hl
          obtain ⟨I2, A2, J2, hE2, hw2⟩ := rl_24 (d := d + 6) h1 hr2
          obtain ⟨I3, A3, J3, hE3, hw3⟩ := rl_11 (d := d + 6) hw2 (by rw [List.length_cons, List.length_cons]; omega) 9 0
          refine rG_t (rt_13 (d := d + 8) (G := fun w => rq ts f2 f1 ((9, 0) :: (14, 0) :: (7, 0) :: T) X w s2) hw ⟨_, _, _, er_42 (r := (_, _)) ⟨1, _, _, _, rl_13t hts h0 (by rw [h44]; rfl), fun n => absurd n (by decide), fun _ => ⟨_, _, _, hE2, _, _, _, hE3, rfl⟩⟩, hw3⟩) (fun w1 h1 => ?_)
          refine rG_b hk2 (fun y hy => rM_c H (fun _ _ => trivial) h1 (by rw [List.length_cons, List.length_cons, t2, t1]; omega) (by rw [t2, t1]; exact hX) hy) (fun v3 s3 w3 hr3 h3 hk3 => ?_)
          obtain ⟨X', hg, hw4⟩ := h3
          have t3 := pp_c_tw hr3
          refine rG_m (ih v3 s3 X' w3 hw4 (by rw [t3, t2, t1]; exact hT) (by rw [t3, t2, t1, show X'.2.2.2.1 = X.2.2.2.1 by rw [hg.2.2]]; exact hX) x hk3) (fun w' h => ?_)
          cases x with
          | inl p => exact h
          | inr z =>
            obtain ⟨X'', g, h⟩ := h
            exact ⟨X'', gS_t hg g, h⟩
/-- the first scope is noted -/
theorem rq_fc {e : Bool} {q : Nat} (hw : rq ts f2 f1 T X (I, A, J) s) (he : e = true) : rq ts f2 f1 T X (ja_up I 0 34 (nI q), A, J) (pp_sf e (q + 1) s) := by
  subst he
  obtain ⟨pos, op, cc, tn, tl, wt, pn, scs, sd, sig, frm, rl, mn, dc, fc⟩ := s
  obtain ⟨hK, h0, hP, hT, hS, hN, hG, hF, hL, hX⟩ := hw
  exact ⟨hK, h0, hP, hT, hS, hN, hG, hF, hL, hX.1, hX.2.1, (nI_pred q).symm, hX.2.2.2⟩
theorem rq_fc0 {e : Bool} {q : Nat} (hw : rq ts f2 f1 T X (I, A, J) s) (he : e = false) : rq ts f2 f1 T X (ja_up I 0 34 (I 0 34), A, J) (pp_sf e (q + 1) s) := by
  subst he
  obtain ⟨pos, op, cc, tn, tl, wt, pn, scs, sd, sig, frm, rl, mn, dc, fc⟩ := s
  obtain ⟨hK, h0, hP, hT, hS, hN, hG, hF, hL, hX⟩ := hw
  exact ⟨hK, h0, hP, hT, hS, hN, hG, hF, hL, hX.1, hX.2.1, hX.2.2.1, hX.2.2.2⟩
/-- parameters: SUFFIXES at '(' -/
theorem rr_61 (hts : pp_ok ts) (hC : rC C) (H : rM ts f2 f1 (d + 9) 9 0 any [(13, 0)] gS (C 55 1 0)) : rM ts f2 f1 (d + 9) 7 0 (fun s => (tw s).1 + 20 ≤ 1200 ∧ pp_at ts s = 40) [(7, 0)] gS (pp_61 ts C) := by
  have h160 := hts.1
  intro s T X w hs hw hT hX x hx
  obtain ⟨hs', hk⟩ := hs
  obtain ⟨I, A, J⟩ := w
  have h0 := rq_pop hw
  have n91 : ¬ rk (pp_at ts s) = 91 := by rw [hk]; decide
  have z0 : ∀ {p : Prop}, (¬ (0 : Int32) = 0 → p) := fun h => absurd rfl h
  have z1 : ∀ {p : Prop}, ((1 : Int32) = 0 → p) := fun h => absurd h (by decide)
  unfold pp_61 at hx
  unfold pp_ex at hx
  rw [if_pos (show pp_k ts (pq_pos s) = 40 from hk)] at hx
  rcases pp_bE hx with ⟨p, hr, hp⟩ | ⟨t, s0, hr, hk1⟩
  · obtain ⟨I3, A3, J3, hE3, hw3⟩ := rl_15 (d := d + 5) hts h0 (by rw [hk]; rfl) hr
    obtain ⟨rfl, e⟩ := hw3
    subst hp
    cases e
    have b0 := (rb_of h0).1
    exact rt_7 hw ⟨_, _, _, er_38 (r := (_, _)) ⟨0, _, _, _, rl_13f hts h0 n91, fun _ => ⟨1, _, _, _, rl_13t hts h0 (by rw [hk]; rfl), z1, fun _ => ⟨_, _, _, hE3, fun c => absurd (b0.2.1.symm.trans c) (by decide), fun _ => rfl⟩⟩, z0⟩, b0⟩
  · obtain ⟨I3, A3, J3, hE3, hw3⟩ := rl_15 (d := d + 5) hts h0 (by rw [hk]; rfl) hr
    have hw3' : rq ts f2 f1 T X (I3, A3, J3) s0 := hw3
    have h16 : I3 0 16 = 0 := hw3'.2.2.1.2.2.2.2
    have t0 := pp_tk_tw hr
    rcases pp_bE hk1 with ⟨p, hrA, hp⟩ | ⟨vA, sA, hrA, hk2⟩
    · exact absurd hrA (pp_pt_n _ _ _)
    · rcases pp_bE hk2 with ⟨p, hrB, hp⟩ | ⟨q, sB, hrB, hk3⟩
      · exact absurd hrB pp_ns_n
      · rcases pp_bE hk3 with ⟨p, hrC, hp⟩ | ⟨vC, sC, hrC, hk4⟩
        · exact absurd hrC pp_os_n
        · obtain ⟨sB', sC', v3, e1, e2, e3⟩ := pp_par hrA hrB hrC
          have tC : tw sC = tw s := by
            have a1 := pp_ns_tw e1
            have a2 := pp_os_tw e2
            have a3 := pp_pt_tw e3
            have a4 : tw (pp_sf (pq_sig s0).isEmpty (q + 1) sB') = tw sB' := by
              obtain ⟨pos, op, cc, tn, tl, wt, pn, scs, sd, sig, frm, rl, mn, dc, fc⟩ := sB'
              rfl
            rw [a3, a2, a4, a1, t0]
          obtain ⟨I4, A4, J4, hE4, hw4⟩ := rl_23 (d := d + 5) hw3' e1
          have e30 : I4 0 30 = nI (pq_sig s0).length := by
            have e : I4 0 30 = nI (pq_sig sB').length := hw4.2.2.2.2.2.2.1.1
            rw [e]
            obtain ⟨pos, op, cc, tn, tl, wt, pn, scs, sd, sig, frm, rl, mn, dc, fc⟩ := s0
            simp only [pp_ns] at e1
            split at e1
            · cases e1; rfl
            · cases e1
          have l640 : (pq_sig s0).length ≤ 640 := by
            have a := hw3'.2.2.2.2.2.2.1.2.1
            have b := hw3'.2.2.2.2.2.2.1.2.2.1
            exact Nat.le_trans a b
          -- from the open scope on
          have goon : ∀ (I5 : ja_I), rq ts f2 f1 T X (I5, A4, J4) (pp_sf (pq_sig s0).isEmpty (q + 1) sB') → ∀ F : ja_w → Prop, (∀ (I6 A6 : ja_I) (J6 : ja_J), rq ts f2 f1 ((14, 0) :: (7, 0) :: T) X (I6, A6, J6) sC → ∃ y, ((∃ (z : Int32) (I7 A7 : ja_I) (J7 : ja_J), er_E (d + 6) 13 [.ref 0, .int 7] (I6, A6, J6) (.inl (some (.int z))) (I7, A7, J7) ∧ ((z = 0 → ∃ (z2 : Int32) (I8 A8 : ja_I) (J8 : ja_J), er_E (d + 6) 13 [.ref 0, .int 41] (I7, A7, J7) (.inl (some (.int z2))) (I8, A8, J8) ∧ ((z2 = 0 → ∃ (I9 A9 : ja_I) (J9 : ja_J), er_E (d + 6) 11 [.ref 0, .int 9, .int 0] (I8, A8, J8) (.inl none) (I9, A9, J9) ∧ y = (.inl none, (I9, A9, J9))) ∧ (¬ z2 = 0 → y = (.inl none, (I8, A8, J8))))) ∧ (¬ z = 0 → ∃ (z2 : Int32) (I8 A8 : ja_I) (J8 : ja_J), er_E (d + 6) 14 [.ref 0] (I7, A7, J7) (.inl (some (.int z2))) (I8, A8, J8) ∧ ((z2 = 41 → y = (.inl none, (ja_up I8 0 9 (I8 0 9 + 1), A8, J8))) ∧ (¬ z2 = 41 → ∃ (z3 : Int32) (I9 A9 : ja_I) (J9 : ja_J), er_E (d + 6) 13 [.ref 0, .int 41] (I8, A8, J8) (.inl (some (.int z3))) (I9, A9, J9) ∧ ((z3 = 0 → ∃ (I10 A10 : ja_I) (J10 : ja_J), er_E (d + 6) 11 [.ref 0, .int 9, .int 0] (I9, A9, J9) (.inl none) (I10, A10, J10) ∧ y = (.inl none, (I10, A10, J10))) ∧ (¬ z3 = 0 → y = (.inl none, (I9, A9, J9)))))))))) ∧ rP F y) → ∃ y, ((∃ (I6 A6 : ja_I) (J6 : ja_J), er_E (d + 6) 22 [.ref 0, .int (nI q)] (I5, A4, J4) (.inl none) (I6, A6, J6) ∧ ∃ (I7 A7 : ja_I) (J7 : ja_J), er_E (d + 6) 24 [.ref 0, .int 40] (I6, A6, J6) (.inl none) (I7, A7, J7) ∧ ∃ (I8 A8 : ja_I) (J8 : ja_J), er_E (d + 6) 11 [.ref 0, .int 7, .int 0] (I7, A7, J7) (.inl none) (I8, A8, J8) ∧ ∃ (I9 A9 : ja_I) (J9 : ja_J), er_E (d + 6) 11 [.ref 0, .int 14, .int 0] (I8, A8, J8) (.inl none) (I9, A9, J9) ∧ (∃ (z : Int32) (I10 A10 : ja_I) (J10 : ja_J), er_E (d + 6) 13 [.ref 0, .int 7] (I9, A9, J9) (.inl (some (.int z))) (I10, A10, J10) ∧ ((z = 0 → ∃ (z2 : Int32) (I11 A11 : ja_I) (J11 : ja_J), er_E (d + 6) 13 [.ref 0, .int 41] (I10, A10, J10) (.inl (some (.int z2))) (I11, A11, J11) ∧ ((z2 = 0 → ∃ (I12 A12 : ja_I) (J12 : ja_J), er_E (d + 6) 11 [.ref 0, .int 9, .int 0] (I11, A11, J11) (.inl none) (I12, A12, J12) ∧ y = (.inl none, (I12, A12, J12))) ∧ (¬ z2 = 0 → y = (.inl none, (I11, A11, J11))))) ∧ (¬ z = 0 → ∃ (z2 : Int32) (I11 A11 : ja_I) (J11 : ja_J), er_E (d + 6) 14 [.ref 0] (I10, A10, J10) (.inl (some (.int z2))) (I11, A11, J11) ∧ ((z2 = 41 → y = (.inl none, (ja_up I11 0 9 (I11 0 9 + 1), A11, J11))) ∧ (¬ z2 = 41 → ∃ (z3 : Int32) (I12 A12 : ja_I) (J12 : ja_J), er_E (d + 6) 13 [.ref 0, .int 41] (I11, A11, J11) (.inl (some (.int z3))) (I12, A12, J12) ∧ ((z3 = 0 → ∃ (I13 A13 : ja_I) (J13 : ja_J), er_E (d + 6) 11 [.ref 0, .int 9, .int 0] (I12, A12, J12) (.inl none) (I13, A13, J13) ∧ y = (.inl none, (I13, A13, J13))) ∧ (¬ z3 = 0 → y = (.inl none, (I12, A12, J12))))))))))) ∧ rP F y := by
            intro I5 hq F hF
            obtain ⟨I6, A6, J6, hE6, hw6⟩ := rl_22 (d := d + 5) hq e2
            obtain ⟨I7, A7, J7, hE7, hw7⟩ := rl_24 (d := d + 5) hw6 e3
            obtain ⟨I8, A8, J8, hE8, hw8⟩ := rl_11 (d := d + 5) hw7 (by omega) 7 0
            obtain ⟨I9, A9, J9, hE9, hw9⟩ := rl_11 (d := d + 5) hw8 (by rw [List.length_cons]; omega) 14 0
            exact cg_V hE6 (cg_V hE7 (cg_V hE8 (cg_V hE9 (hF I9 A9 J9 hw9))))
          have main : ∀ F : ja_w → Prop, (∀ (I6 A6 : ja_I) (J6 : ja_J), rq ts f2 f1 ((14, 0) :: (7, 0) :: T) X (I6, A6, J6) sC → ∃ y, ((∃ (z : Int32) (I7 A7 : ja_I) (J7 : ja_J), er_E (d + 6) 13 [.ref 0, .int 7] (I6, A6, J6) (.inl (some (.int z))) (I7, A7, J7) ∧ ((z = 0 → ∃ (z2 : Int32) (I8 A8 : ja_I) (J8 : ja_J), er_E (d + 6) 13 [.ref 0, .int 41] (I7, A7, J7) (.inl (some (.int z2))) (I8, A8, J8) ∧ ((z2 = 0 → ∃ (I9 A9 : ja_I) (J9 : ja_J), er_E (d + 6) 11 [.ref 0, .int 9, .int 0] (I8, A8, J8) (.inl none) (I9, A9, J9) ∧ y = (.inl none, (I9, A9, J9))) ∧ (¬ z2 = 0 → y = (.inl none, (I8, A8, J8))))) ∧ (¬ z = 0 → ∃ (z2 : Int32) (I8 A8 : ja_I) (J8 : ja_J), er_E (d + 6) 14 [.ref 0] (I7, A7, J7) (.inl (some (.int z2))) (I8, A8, J8) ∧ ((z2 = 41 → y = (.inl none, (ja_up I8 0 9 (I8 0 9 + 1), A8, J8))) ∧ (¬ z2 = 41 → ∃ (z3 : Int32) (I9 A9 : ja_I) (J9 : ja_J), er_E (d + 6) 13 [.ref 0, .int 41] (I8, A8, J8) (.inl (some (.int z3))) (I9, A9, J9) ∧ ((z3 = 0 → ∃ (I10 A10 : ja_I) (J10 : ja_J), er_E (d + 6) 11 [.ref 0, .int 9, .int 0] (I9, A9, J9) (.inl none) (I10, A10, J10) ∧ y = (.inl none, (I10, A10, J10))) ∧ (¬ z3 = 0 → y = (.inl none, (I9, A9, J9)))))))))) ∧ rP F y) → rG (d + 9) (I, A, J) F := by
            intro F hF
            refine rt_7 hw (rP_of (G := F) (cg_j (cg_I (rl_13f hts h0 n91) (cg_t rfl (cg_I (rl_13t hts h0 (by rw [hk]; rfl)) (cg_f (by decide) (cg_V hE3 (cg_t h16 ?_)))))) (fun y h => er_38 (r := y) h)))
            have h39 : ∃ y, er_E (d + 7) 39 [.ref 0] (I3, A3, J3) y.1 y.2 ∧ rP F y := by
              refine cg_j (cg_I hE4 ?_) (fun y h => er_39 (r := y) h)
              by_cases he : (pq_sig s0).isEmpty = true
              · have : (pq_sig s0).length = 0 := by rw [List.isEmpty_iff.mp he]; rfl
                refine cg_t (by rw [e30, this]; rfl) ?_
                exact goon _ (rq_fc hw4 he) F hF
              · have he' : (pq_sig s0).isEmpty = false := by simpa using he
                refine cg_f (fun c => ?_) ?_
                · rw [e30] at c
                  have : (pq_sig s0).length = 0 := (nI_eq (b := 0) (by omega) (by omega)).mp c
                  rw [List.length_eq_zero_iff.mp this] at he
                  exact he rfl
                · exact goon _ (rq_fc0 hw4 he') F hF
            obtain ⟨⟨o, I9, A9, J9⟩, hE, h1, h2⟩ := h39
            obtain rfl : o = .inl none := h1
            exact cg_V hE (cg_r ⟨rfl, h2⟩)
          have toEnd : ∀ (s5 : pp_S) (w : ja_w), rq ts f2 f1 ((14, 0) :: (7, 0) :: T) X w s5 → (pp_b (pp_xs s5) fun _ s => pp_b (pp_ex ts 41 s) fun _ s => pp_pt [41] s) = some x → rG (d + 9) w (rO f2 f1 x (fun v s' w' => ∃ X', gS v X X' ∧ rq ts f2 f1 ((7, 0) :: T) X' w' s')) := by
            intro s5 w h5 hx5
            obtain ⟨I, A, J⟩ := w
            refine rG_m (rt_14s (d := d + 4) hts h5 hx5) (fun w' h => ?_)
            cases x with
            | inl p => exact h
            | inr z => exact ⟨X, ⟨rfl, rfl, rfl⟩, h⟩
          have par : ∀ (hx4 : (pp_b (pp_b (pp_c C 55 1 0 2 0 sC) fun _ s => pp_w (fun _ s => some (pp_at ts s == 44)) (fun _ s => pp_b (pp_tk ts s) fun _ s => pp_b (pp_pt [44] s) fun _ s => pp_c C 55 1 0 2 0 s) 160 0 s) fun _ s => pp_b (pp_xs s) fun _ s => pp_b (pp_ex ts 41 s) fun _ s => pp_pt [41] s) = some x) (w : ja_w), rq ts f2 f1 ((9, 0) :: (14, 0) :: (7, 0) :: T) X w sC → rG (d + 9) w (rO f2 f1 x (fun v s' w' => ∃ X', gS v X X' ∧ rq ts f2 f1 ((7, 0) :: T) X' w' s')) := by
            intro hx4 w h5
            rw [pp_bb] at hx4
            refine rG_b hx4 (fun y hy => rM_c H (fun _ _ => trivial) h5 (by rw [List.length_cons, List.length_cons, tC]; omega) (by rw [tC]; exact hX) hy) (fun v3 s3 w3 hr3 h3 hk3 => ?_)
            obtain ⟨X', hg, hw4⟩ := h3
            have t3 := pp_c_tw hr3
            refine rG_m (rr_61l (T := T) hts hC H 160 0 s3 X' w3 hw4 (by rw [t3, tC]; exact hT) (by rw [t3, tC, show X'.2.2.2.1 = X.2.2.2.1 by rw [hg.2.2]]; exact hX) x hk3) (fun w' h => ?_)
            cases x with
            | inl p => exact h
            | inr z =>
              obtain ⟨X'', g, h⟩ := h
              exact ⟨X'', gS_t hg g, h⟩
          by_cases h7 : pp_at ts sC = 7
          · by_cases h41 : pp_nx ts sC = 41
            · rw [if_pos ⟨h7, h41⟩] at hk4
              rcases pp_bE hk4 with ⟨p, hr5, hp⟩ | ⟨v5, s5, hr5, hk5⟩
              · exact absurd hr5 (pp_tk_n (by rw [h7]; rfl))
              · refine rG_t (main (fun w => rq ts f2 f1 ((14, 0) :: (7, 0) :: T) X w s5) (fun I6 A6 J6 h6 => ?_)) (fun w1 h1 => toEnd s5 w1 h1 hk5)
                refine cg_I (rl_13t hts h6 (by rw [h7]; rfl)) (cg_f (by decide) (cg_I (rl_14 hts h6) (cg_t (by rw [h41]; rfl) (cg_r ⟨rfl, ?_⟩))))
                exact rq_tk h6 hr5 (by rw [h7]; rfl) (by rw [h7]; rfl)
            · rw [if_neg (fun c => h41 c.2), if_neg (by rw [h7]; decide)] at hk4
              refine rG_t (main (fun w => rq ts f2 f1 ((9, 0) :: (14, 0) :: (7, 0) :: T) X w sC) (fun I6 A6 J6 h6 => ?_)) (fun w1 h1 => par hk4 w1 h1)
              obtain ⟨I7, A7, J7, hE7, hw7⟩ := rl_11 (d := d + 5) h6 (by rw [List.length_cons, List.length_cons]; omega) 9 0
              exact cg_I (rl_13t hts h6 (by rw [h7]; rfl)) (cg_f (by decide) (cg_I (rl_14 hts h6) (cg_f (fun c => h41 ((rk_o (by decide) (by decide) (by decide) _).mp c)) (cg_I (rl_13f hts h6 (by rw [h7]; decide)) (cg_t rfl (cg_V hE7 (cg_r ⟨rfl, hw7⟩)))))))
          · rw [if_neg (fun c => h7 c.1)] at hk4
            have n7 : ¬ rk (pp_at ts sC) = 7 := fun c => h7 ((rk_o (by decide) (by decide) (by decide) _).mp c)
            by_cases h41 : pp_at ts sC = 41
            · rw [if_pos h41] at hk4
              refine rG_t (main (fun w => rq ts f2 f1 ((14, 0) :: (7, 0) :: T) X w sC) (fun I6 A6 J6 h6 => ?_)) (fun w1 h1 => toEnd sC w1 h1 hk4)
              exact cg_I (rl_13f hts h6 n7) (cg_t rfl (cg_I (rl_13t hts h6 (by rw [h41]; rfl)) (cg_f (by decide) (cg_r ⟨rfl, h6⟩))))
            · rw [if_neg h41] at hk4
              have n41 : ¬ rk (pp_at ts sC) = 41 := fun c => h41 ((rk_o (by decide) (by decide) (by decide) _).mp c)
              refine rG_t (main (fun w => rq ts f2 f1 ((9, 0) :: (14, 0) :: (7, 0) :: T) X w sC) (fun I6 A6 J6 h6 => ?_)) (fun w1 h1 => par hk4 w1 h1)
              obtain ⟨I7, A7, J7, hE7, hw7⟩ := rl_11 (d := d + 5) h6 (by rw [List.length_cons, List.length_cons]; omega) 9 0
              exact cg_I (rl_13f hts h6 n7) (cg_t rfl (cg_I (rl_13f hts h6 n41) (cg_t rfl (cg_V hE7 (cg_r ⟨rfl, hw7⟩)))))
end
