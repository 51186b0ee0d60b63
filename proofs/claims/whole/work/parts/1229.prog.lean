section
variable {ts : List pp_T} {f0 f1 : Nat → Int32} {d : Nat} {C : pp_C}
theorem cl_79 (hts : pp_ok ts) (s : pp_S) : cq_M ts f0 f1 (ec_E (d + 4)) 79 [.ref 5] vI s (pp_79 ts s) := by
  rintro Q ⟨I, A, J⟩ hw x hx
  refine cg_j ?_ (fun y h => ec_79 (r := y) h)
  unfold pp_79 at hx
  by_cases h : pp_at ts s = 4
  · rw [if_pos h] at hx
    refine cg_s1 hw h (cg_bI (cl_37 hts s) hw hx fun _ s1 I1 A1 J1 _ hw1 hx => ?_)
    obtain ⟨⟨o, w1⟩, hE, ho⟩ := cl_52 (d := d) hts s1 Q _ hw1 x hx
    cases x with
    | inl p =>
      obtain ⟨h1, h2⟩ := ho
      obtain rfl : o = .inr 0 := h1
      exact cg_x hE ⟨rfl, h2⟩
    | inr z =>
      obtain ⟨h1, h2⟩ := ho
      obtain rfl : o = .inl (vI z.1) := h1
      exact cg_l (cg_I hE (cg_r ⟨rfl, h2⟩))
  · rw [if_neg h] at hx
    refine cg_s0 hw h (cg_bI (cl_52 hts s) hw hx fun b s1 I1 A1 J1 _ hw1 hx => ?_)
    by_cases h4 : pp_at ts s1 = 4
    · rw [if_pos h4] at hx
      refine cg_s1 hw1 h4 (cg_bI (cl_37 hts s1) hw1 hx fun _ s2 I2 A2 J2 _ hw2 hx => ?_)
      cases hx
      exact cg_r ⟨rfl, hw2⟩
    · rw [if_neg h4] at hx
      cases hx
      exact cg_s0 hw1 h4 (cg_r ⟨rfl, hw1⟩)
theorem pp_tk_p {s s1 : pp_S} {t : Nat} (h : pp_tk ts s = some (.inr (t, s1))) : pq_pos s1 = pq_pos s + 1 := by
  obtain ⟨pos, op, cc, tn, tl, wt, pn, scs, sd, sig, frm, rl, mn, dc, fc⟩ := s
  simp only [pp_tk] at h
  repeat' split at h
  all_goals first
    | (cases h; done)
    | (cases h; rfl)
theorem pp_base_p {s s1 : pp_S} {b : Nat} (h : pp_base ts s = some (.inr (b, s1))) : pq_pos s1 = pq_pos s + 1 := by
  unfold pp_base at h
  cases hb : pp_ib ts s (pq_pos s) with
  | none => rw [hb] at h; cases h
  | some b =>
    rw [hb] at h
    cases b with
    | false => cases h
    | true =>
      rcases pp_bE (x := .inr _) h with ⟨p, hr, hp⟩ | ⟨v, s3, hr, hk⟩
      · cases hp
      · have e := pp_tk_p hr
        split at hk
        · rw [(pp_use_e hk).2.2.2, e]
        · cases hk
          exact e
theorem pp_79_e {s s1 : pp_S} {b : Nat} (h : pp_79 ts s = some (.inr (b, s1))) : b < ts.length ∧ (pq_pos s1 = pq_pos s + 1 ∨ pq_pos s1 = pq_pos s + 2) := by
  unfold pp_79 at h
  split at h
  · rcases pp_bE h with ⟨p, hr, hp⟩ | ⟨v, s3, hr, hk⟩
    · cases hp
    · have e := pp_tk_p hr
      exact ⟨(pp_base_e hk).2.1, Or.inr (by rw [pp_base_p hk, e])⟩
  · rcases pp_bE h with ⟨p, hr, hp⟩ | ⟨v, s3, hr, hk⟩
    · cases hp
    · have e := pp_base_p hr
      have l := (pp_base_e hr).2.1
      split at hk
      · rcases pp_bE hk with ⟨p, hr2, hp⟩ | ⟨v2, s4, hr2, hk2⟩
        · cases hp
        · cases hk2
          exact ⟨l, Or.inr (by rw [pp_tk_p hr2, e])⟩
      · cases hk
        exact ⟨l, Or.inl e⟩
/-- a declaration in the program's world -/
theorem cl_dc {Q : List (Int32 × List Int32)} {s : pp_S} {I A : ja_I} {J : ja_J} (hw : cq ts f0 f1 Q (I, A, J) s) {k : Nat} {x : pp_D} (hx : (pq_dc s)[k]? = some x) : k < 80 ∧ A 11 (nI k).toNatClampNeg = nI x.1 ∧ A 15 (nI k).toNatClampNeg = nI x.2.2.2.1 ∧ cq_G (A 19) (pq_tn s) (A 13 (nI k).toNatClampNeg) (A 14 (nI k).toNatClampNeg) x.2.2.2.2 ∧ x.1 < ts.length ∧ x.2.2.2.1 < 3 := by
  have hN := hw.2.2.2.2.2.1
  have h80 : (pq_dc s).length ≤ 80 := hN.2.1
  have hk : k < (pq_dc s).length := (List.getElem?_eq_some_iff.mp hx).1
  have h := hN.2.2 k x hx
  rw [nI_clamp (by omega)]
  exact ⟨by omega, h.1, h.2.2.2.1, h.2.2.2.2.1, h.2.2.2.2.2.1, h.2.2.2.2.2.2.2.2.2⟩
theorem pp_pf_dc {l : List Int32} {s s1 : pp_S} {v : Nat} (h : pp_pf l s = some (.inr (v, s1))) : pq_dc s1 = pq_dc s := by
  obtain ⟨pos, op, cc, tn, tl, wt, pn, scs, sd, sig, frm, rl, mn, dc, fc⟩ := s
  simp only [pp_pf] at h
  split at h
  · cases h; rfl
  · cases h
theorem cl_80 (hts : pp_ok ts) (k : Nat) (s : pp_S) : cq_U ts f0 f1 (ec_E (d + 3)) 80 [.ref 5, .int (nI k)] vV s (pp_80 ts k s) := by
  refine cq_MU (fun p h => ?_) ?_
  · unfold pp_80 at h
    split at h
    · exact absurd h (pp_pf_n _ _ _)
    · cases h
  rintro Q ⟨I, A, J⟩ hw x hx
  refine cg_j ?_ (fun y h => ec_80 (r := y) h)
  unfold pp_80 at hx
  split at hx
  · rename_i q hq
    obtain ⟨l80, e11, e15, _, l1, l3⟩ := cl_dc hw hq
    have v80 : vp_in (nI k) 80 := vp_in_nI (by omega) (by omega)
    refine cg_a v80 ?_
    rw [e15]
    by_cases h1 : q.2.2.2.1 = 1
    · rw [if_pos h1, List.singleton_append, pp_pf_c] at hx
      refine cg_t (by rw [h1]; rfl) (cg_uV (cl_17 (by exact rfl) s) hw hx fun _ s1 I1 A1 J1 hr1 hw1 hx => cg_a v80 ?_)
      rw [pp_pf_a] at hx
      have hq1 : (pq_dc s1)[k]? = some q := by rw [pp_pf_dc hr1]; exact hq
      rw [(cl_dc hw1 hq1).2.1]
      refine cg_L (cl_23w hts hw1 l1) (cg_uV (cl_20 hts l1 s1) hw1 hx fun _ s2 I2 A2 J2 hr2 hw2 hx => ?_)
      have hq2 : (pq_dc s2)[k]? = some q := by rw [pp_pf_dc hr2]; exact hq1
      rw [pp_pf_c] at hx
      refine cg_uV (cl_17 (by exact rfl) s2) hw2 hx fun _ s3 I3 A3 J3 hr3 hw3 hx => cg_a v80 (cg_a v80 ?_)
      have hq3 : (pq_dc s3)[k]? = some q := by rw [pp_pf_dc hr3]; exact hq2
      obtain ⟨⟨o, I4, A4, J4⟩, hE, ho⟩ := cl_19 (d := d) (st := 0) (cl_dc hw3 hq3).2.2.2.1 hw3 hx
      cases x with
      | inl p => exact absurd hx (pp_pf_n _ _ _)
      | inr z =>
        obtain ⟨h1, h2⟩ := ho
        obtain rfl : o = .inl none := h1
        exact cg_V hE (cg_r ⟨rfl, h2⟩)
    · rw [if_neg h1, List.nil_append, pp_pf_a] at hx
      refine cg_f (fun c => h1 ((nI_eq (b := 1) (by omega) (by omega)).mp c)) (cg_a v80 ?_)
      rw [e11]
      refine cg_L (cl_23w hts hw l1) (cg_uV (cl_20 hts l1 s) hw hx fun _ s2 I2 A2 J2 hr2 hw2 hx => ?_)
      have hq2 : (pq_dc s2)[k]? = some q := by rw [pp_pf_dc hr2]; exact hq
      rw [pp_pf_c] at hx
      refine cg_uV (cl_17 (by exact rfl) s2) hw2 hx fun _ s3 I3 A3 J3 hr3 hw3 hx => cg_a v80 (cg_a v80 ?_)
      have hq3 : (pq_dc s3)[k]? = some q := by rw [pp_pf_dc hr3]; exact hq2
      obtain ⟨⟨o, I4, A4, J4⟩, hE, ho⟩ := cl_19 (d := d) (st := 0) (cl_dc hw3 hq3).2.2.2.1 hw3 hx
      cases x with
      | inl p => exact absurd hx (pp_pf_n _ _ _)
      | inr z =>
        obtain ⟨h1, h2⟩ := ho
        obtain rfl : o = .inl none := h1
        exact cg_V hE (cg_r ⟨rfl, h2⟩)
  · cases hx
/-- the loop of a declaration, from its test on, and what follows it -/
def pp_78l (ts : List pp_T) (C : pp_C) (o b ty : Nat) (v : Int32) (m : Nat) (a : Nat × Nat) (s : pp_S) : pp_R Nat :=
  pp_b (pp_w (fun (a : Nat × Nat) _ => some (Nat.beq a.2 1)) (pp_78b ts C o b ty v) m a s) fun a s2 => if a.2 = 2 then pp_ret 0 s2 else pp_ex ts 59 s2
theorem cl_78t (hts : pp_ok ts) (H : cq_H ts f0 f1 (ec_E (d + 6)) C) {o b ty i m : Nat} {v : Int32} {Q : List (Int32 × List Int32)} {s : pp_S} {I A : ja_I} {J : ja_J} (hw : cq ts f0 f1 Q (I, A, J) s) {x : Nat ⊕ (Nat × pp_S)}
    (ih : ∀ (p : Nat) (s : pp_S) (I A : ja_I) (J : ja_J), p ≤ 1 → cq ts f0 f1 Q (I, A, J) s → pp_78l ts C o b ty v m (i + 1, p) s = some x → ∃ y, ja_R (ja_code tc_78) (ec_E (d + 6)) y 55 [some (.ref 5), some (.int (nI o)), none, some (.int (nI b)), some (.int (nI ty)), some (.int (nI p)), some (.int (nI i + 1)), none, none] [] (I, A, J) ∧ cq_o ts f0 f1 Q vV x y)
    (hx : (pp_b (if pp_at ts s = 61 then pp_b (pp_tk ts s) fun _ s1 => pp_b (pp_c C 63 0 0 2 0 s1) fun _ s1 => pp_pf [61] s1 else pp_ret 0 s) fun _ s1 =>
      pp_b (pp_pf [59] s1) fun _ s1 => pp_b (if pp_at ts s1 = 44 then pp_b (pp_tk ts s1) fun _ s1 => pp_ret (i + 1, 1) s1 else pp_ret (i + 1, 0) s1) fun a s2 => pp_78l ts C o b ty v m a s2) = some x) : ∃ y : ja_O × ja_w, (∃ (z8 : Int32) (I8 A8 : ja_I) (J8 : ja_J), ec_E (d + 6) 35 [.ref 20, .int 61] (I, A, J) (.inl (some (.int z8))) (I8, A8, J8) ∧ (((z8 = 0) → ∃ (I9 A9 : ja_I) (J9 : ja_J), ec_E (d + 6) 17 [.ref 4, .int 59] (I8, A8, J8) (.inl (none)) (I9, A9, J9) ∧ (∃ (z10 : Int32) (I10 A10 : ja_I) (J10 : ja_J), ec_E (d + 6) 35 [.ref 20, .int 44] (I9, A9, J9) (.inl (some (.int z10))) (I10, A10, J10) ∧ (((z10 = 0) → ja_R (ja_code tc_78) (ec_E (d + 6)) y 55 [some (.ref 5), some (.int (nI o)), none, some (.int (nI b)), some (.int (nI ty)), some (.int z10), some (.int ((nI i) + 1)), none, none] [] (I10, A10, J10)) ∧ (¬ (z10 = 0) → (∃ (z11 : Int32) (I11 A11 : ja_I) (J11 : ja_J), ec_E (d + 6) 37 [.ref 20] (I10, A10, J10) (.inl (some (.int z11))) (I11, A11, J11) ∧ (ja_R (ja_code tc_78) (ec_E (d + 6)) y 55 [some (.ref 5), some (.int (nI o)), none, some (.int (nI b)), some (.int (nI ty)), some (.int z10), some (.int ((nI i) + 1)), none, none] [] (I11, A11, J11))) ∨ (∃ (x12 : Nat) (w12 : ja_w), ec_E (d + 6) 37 [.ref 20] (I10, A10, J10) (.inr x12) w12 ∧ y = (.inr x12, w12)))))) ∧ (¬ (z8 = 0) → (∃ (z13 : Int32) (I13 A13 : ja_I) (J13 : ja_J), ec_E (d + 6) 37 [.ref 20] (I8, A8, J8) (.inl (some (.int z13))) (I13, A13, J13) ∧ ((∃ (I14 A14 : ja_I) (J14 : ja_J), ec_E (d + 6) 63 [.ref 22] (I13, A13, J13) (.inl (none)) (I14, A14, J14) ∧ (∃ (I15 A15 : ja_I) (J15 : ja_J), ec_E (d + 6) 17 [.ref 4, .int 61] (I14, A14, J14) (.inl (none)) (I15, A15, J15) ∧ (∃ (I16 A16 : ja_I) (J16 : ja_J), ec_E (d + 6) 17 [.ref 4, .int 59] (I15, A15, J15) (.inl (none)) (I16, A16, J16) ∧ (∃ (z17 : Int32) (I17 A17 : ja_I) (J17 : ja_J), ec_E (d + 6) 35 [.ref 20, .int 44] (I16, A16, J16) (.inl (some (.int z17))) (I17, A17, J17) ∧ (((z17 = 0) → ja_R (ja_code tc_78) (ec_E (d + 6)) y 55 [some (.ref 5), some (.int (nI o)), none, some (.int (nI b)), some (.int (nI ty)), some (.int z17), some (.int ((nI i) + 1)), none, none] [] (I17, A17, J17)) ∧ (¬ (z17 = 0) → (∃ (z18 : Int32) (I18 A18 : ja_I) (J18 : ja_J), ec_E (d + 6) 37 [.ref 20] (I17, A17, J17) (.inl (some (.int z18))) (I18, A18, J18) ∧ (ja_R (ja_code tc_78) (ec_E (d + 6)) y 55 [some (.ref 5), some (.int (nI o)), none, some (.int (nI b)), some (.int (nI ty)), some (.int z17), some (.int ((nI i) + 1)), none, none] [] (I18, A18, J18))) ∨ (∃ (x19 : Nat) (w19 : ja_w), ec_E (d + 6) 37 [.ref 20] (I17, A17, J17) (.inr x19) w19 ∧ y = (.inr x19, w19)))))))) ∨ (∃ (x20 : Nat) (w20 : ja_w), ec_E (d + 6) 63 [.ref 22] (I13, A13, J13) (.inr x20) w20 ∧ y = (.inr x20, w20)))) ∨ (∃ (x21 : Nat) (w21 : ja_w), ec_E (d + 6) 37 [.ref 20] (I8, A8, J8) (.inr x21) w21 ∧ y = (.inr x21, w21))))) ∧ cq_o ts f0 f1 Q vV x y := by
  by_cases h61 : pp_at ts s = 61
  · rw [if_pos h61, pp_bb] at hx
    refine cg_s1 hw h61 (cg_bI (cl_37 hts s) hw hx fun _ s1 I1 A1 J1 _ hw1 hx => ?_)
    rw [pp_bb] at hx
    refine cg_bV (cq_c H.2.2.2.2.2.1 2 0 s1) hw1 hx fun _ s2 I2 A2 J2 _ hw2 hx => ?_
    refine cg_uV (cl_17 (by exact rfl) s2) hw2 hx fun _ s3 I3 A3 J3 _ hw3 hx => ?_
    refine cg_uV (cl_17 (by exact rfl) s3) hw3 hx fun _ s4 I4 A4 J4 _ hw4 hx => ?_
    by_cases h44 : pp_at ts s4 = 44
    · rw [if_pos h44, pp_bb] at hx
      have h35 := cl_35 (d := d + 5) hw4 44
      rw [show (pp_at ts s4 == 44) = true by rw [h44]; rfl] at h35
      refine cg_I h35 (cg_f (by decide) (cg_bI (cl_37 hts s4) hw4 hx fun _ s5 I5 A5 J5 _ hw5 hx => ?_))
      exact ih 1 s5 I5 A5 J5 (by omega) hw5 hx
    · rw [if_neg h44] at hx
      have h35 := cl_35 (d := d + 5) hw4 44
      rw [show (pp_at ts s4 == 44) = false from beq_eq_false_iff_ne.mpr h44] at h35
      exact cg_I h35 (cg_t rfl (ih 0 s4 I4 A4 J4 (by omega) hw4 hx))
  · rw [if_neg h61] at hx
    refine cg_s0 hw h61 (cg_uV (cl_17 (by exact rfl) s) hw hx fun _ s4 I4 A4 J4 _ hw4 hx => ?_)
    by_cases h44 : pp_at ts s4 = 44
    · rw [if_pos h44, pp_bb] at hx
      have h35 := cl_35 (d := d + 5) hw4 44
      rw [show (pp_at ts s4 == 44) = true by rw [h44]; rfl] at h35
      refine cg_I h35 (cg_f (by decide) (cg_bI (cl_37 hts s4) hw4 hx fun _ s5 I5 A5 J5 _ hw5 hx => ?_))
      exact ih 1 s5 I5 A5 J5 (by omega) hw5 hx
    · rw [if_neg h44] at hx
      have h35 := cl_35 (d := d + 5) hw4 44
      rw [show (pp_at ts s4 == 44) = false from beq_eq_false_iff_ne.mpr h44] at h35
      exact cg_I h35 (cg_t rfl (ih 0 s4 I4 A4 J4 (by omega) hw4 hx))
theorem cl_78e (hts : pp_ok ts) {Q : List (Int32 × List Int32)} {s : pp_S} {I A : ja_I} {J : ja_J} (hw : cq ts f0 f1 Q (I, A, J) s) {x : Nat ⊕ (Nat × pp_S)} (hx : pp_ex ts 59 s = some x) : ∃ y : ja_O × ja_w, ((∃ (z : Int32) (I1 A1 : ja_I) (J1 : ja_J), ec_E (d + 6) 38 [.ref 20, .int 59] (I, A, J) (.inl (some (.int z))) (I1, A1, J1) ∧ y = (.inl none, (I1, A1, J1))) ∨ (∃ (x3 : Nat) (w3 : ja_w), ec_E (d + 6) 38 [.ref 20, .int 59] (I, A, J) (.inr x3) w3 ∧ y = (.inr x3, w3))) ∧ cq_o ts f0 f1 Q vV x y := by
  obtain ⟨⟨o, w1⟩, hE, ho⟩ := cl_38 (d := d + 4) hts 59 s Q _ hw x hx
  cases x with
  | inl p =>
    obtain ⟨h1, h2⟩ := ho
    obtain rfl : o = .inr 0 := h1
    exact cg_x hE ⟨rfl, h2⟩
  | inr z =>
    obtain ⟨h1, h2⟩ := ho
    obtain rfl : o = .inl (vI z.1) := h1
    exact cg_l (cg_I hE (cg_r ⟨rfl, h2⟩))
theorem cl_78l (hts : pp_ok ts) (H : cq_H ts f0 f1 (ec_E (d + 6)) C) {o b ty : Nat} (ho : o ≤ 1) (hb : b < ts.length) (hty : ty ≤ 1) {v : Int32} {Q : List (Int32 × List Int32)} {x : Nat ⊕ (Nat × pp_S)} : ∀ (m i p : Nat) (s : pp_S) (I A : ja_I) (J : ja_J), i + m = 160 → p ≤ 1 → cq ts f0 f1 Q (I, A, J) s → pp_78l ts C o b ty v m (i, p) s = some x → ∃ y, ja_R (ja_code tc_78) (ec_E (d + 6)) y 55 [some (.ref 5), some (.int (nI o)), none, some (.int (nI b)), some (.int (nI ty)), some (.int (nI p)), some (.int (nI i)), none, none] [] (I, A, J) ∧ cq_o ts f0 f1 Q vV x y := by
  intro m
  induction m with
  | zero =>
    intro i p s I A J hi hp hw hx
    unfold pp_78l at hx
    simp only [pp_w] at hx
    refine cg_j (cg_t (nI_le (a := 160) (by omega) (by omega)) ?_) (fun y h => bc_78_55 h)
    rcases p with _ | p
    · exact cl_78e hts hw hx
    · obtain rfl : p = 0 := by omega
      cases hx
  | succ m ih =>
    intro i p s I A J hi hp hw hx
    unfold pp_78l at hx
    simp only [pp_w] at hx
    refine cg_j (cg_f (nI_ge (b := 160) (by omega) (by omega)) ?_) (fun y h => bc_78_55 h)
    rcases p with _ | p
    · exact cg_t rfl (cl_78e hts hw hx)
    · obtain rfl : p = 0 := by omega
      refine cg_f (by decide) (cg_I (cl_41 hw) ?_)
      have hx' : pp_b (pp_b (pp_78b ts C o b ty v (i, 1) s) (pp_w (fun (a : Nat × Nat) _ => some (Nat.beq a.2 1)) (pp_78b ts C o b ty v) m)) (fun a s2 => if a.2 = 2 then pp_ret 0 s2 else pp_ex ts 59 s2) = some x := hx
      rw [pp_bb] at hx'
      unfold pp_78b at hx'
      split at hx'
      · rw [pp_bb] at hx'
        refine cg_bI (cq_c (fun s => H.1 b ty s hb hty) 1 0 s) hw hx' fun k s1 I1 A1 J1 hr1 hw1 hx => ?_
        rw [pp_bb] at hx
        refine cg_uV (cl_80 hts k s1) hw1 hx fun _ s2 I2 A2 J2 hr2 hw2 hx => ?_
        have ih' := ih (i + 1)
        rw [← nI_1] at ih'
        have tail : ∀ (hx : (pp_b (pp_b (if pp_at ts s2 = 61 then pp_b (pp_tk ts s2) fun _ s1 => pp_b (pp_c C 63 0 0 2 0 s1) fun _ s1 => pp_pf [61] s1 else pp_ret 0 s2) fun _ s1 =>
            pp_b (pp_pf [59] s1) fun _ s1 => if pp_at ts s1 = 44 then pp_b (pp_tk ts s1) fun _ s1 => pp_ret ((i, 1).1 + 1, 1) s1 else pp_ret ((i, 1).1 + 1, 0) s1) fun a s2 => pp_78l ts C o b ty v m a s2) = some x), ∃ y : ja_O × ja_w, (∃ (z8 : Int32) (I8 A8 : ja_I) (J8 : ja_J), ec_E (d + 6) 35 [.ref 20, .int 61] (I2, A2, J2) (.inl (some (.int z8))) (I8, A8, J8) ∧ (((z8 = 0) → ∃ (I9 A9 : ja_I) (J9 : ja_J), ec_E (d + 6) 17 [.ref 4, .int 59] (I8, A8, J8) (.inl (none)) (I9, A9, J9) ∧ (∃ (z10 : Int32) (I10 A10 : ja_I) (J10 : ja_J), ec_E (d + 6) 35 [.ref 20, .int 44] (I9, A9, J9) (.inl (some (.int z10))) (I10, A10, J10) ∧ (((z10 = 0) → ja_R (ja_code tc_78) (ec_E (d + 6)) y 55 [some (.ref 5), some (.int (nI o)), none, some (.int (nI b)), some (.int (nI ty)), some (.int z10), some (.int ((nI i) + 1)), none, none] [] (I10, A10, J10)) ∧ (¬ (z10 = 0) → (∃ (z11 : Int32) (I11 A11 : ja_I) (J11 : ja_J), ec_E (d + 6) 37 [.ref 20] (I10, A10, J10) (.inl (some (.int z11))) (I11, A11, J11) ∧ (ja_R (ja_code tc_78) (ec_E (d + 6)) y 55 [some (.ref 5), some (.int (nI o)), none, some (.int (nI b)), some (.int (nI ty)), some (.int z10), some (.int ((nI i) + 1)), none, none] [] (I11, A11, J11))) ∨ (∃ (x12 : Nat) (w12 : ja_w), ec_E (d + 6) 37 [.ref 20] (I10, A10, J10) (.inr x12) w12 ∧ y = (.inr x12, w12)))))) ∧ (¬ (z8 = 0) → (∃ (z13 : Int32) (I13 A13 : ja_I) (J13 : ja_J), ec_E (d + 6) 37 [.ref 20] (I8, A8, J8) (.inl (some (.int z13))) (I13, A13, J13) ∧ ((∃ (I14 A14 : ja_I) (J14 : ja_J), ec_E (d + 6) 63 [.ref 22] (I13, A13, J13) (.inl (none)) (I14, A14, J14) ∧ (∃ (I15 A15 : ja_I) (J15 : ja_J), ec_E (d + 6) 17 [.ref 4, .int 61] (I14, A14, J14) (.inl (none)) (I15, A15, J15) ∧ (∃ (I16 A16 : ja_I) (J16 : ja_J), ec_E (d + 6) 17 [.ref 4, .int 59] (I15, A15, J15) (.inl (none)) (I16, A16, J16) ∧ (∃ (z17 : Int32) (I17 A17 : ja_I) (J17 : ja_J), ec_E (d + 6) 35 [.ref 20, .int 44] (I16, A16, J16) (.inl (some (.int z17))) (I17, A17, J17) ∧ (((z17 = 0) → ja_R (ja_code tc_78) (ec_E (d + 6)) y 55 [some (.ref 5), some (.int (nI o)), none, some (.int (nI b)), some (.int (nI ty)), some (.int z17), some (.int ((nI i) + 1)), none, none] [] (I17, A17, J17)) ∧ (¬ (z17 = 0) → (∃ (z18 : Int32) (I18 A18 : ja_I) (J18 : ja_J), ec_E (d + 6) 37 [.ref 20] (I17, A17, J17) (.inl (some (.int z18))) (I18, A18, J18) ∧ (ja_R (ja_code tc_78) (ec_E (d + 6)) y 55 [some (.ref 5), some (.int (nI o)), none, some (.int (nI b)), some (.int (nI ty)), some (.int z17), some (.int ((nI i) + 1)), none, none] [] (I18, A18, J18))) ∨ (∃ (x19 : Nat) (w19 : ja_w), ec_E (d + 6) 37 [.ref 20] (I17, A17, J17) (.inr x19) w19 ∧ y = (.inr x19, w19)))))))) ∨ (∃ (x20 : Nat) (w20 : ja_w), ec_E (d + 6) 63 [.ref 22] (I13, A13, J13) (.inr x20) w20 ∧ y = (.inr x20, w20)))) ∨ (∃ (x21 : Nat) (w21 : ja_w), ec_E (d + 6) 37 [.ref 20] (I8, A8, J8) (.inr x21) w21 ∧ y = (.inr x21, w21))))) ∧ cq_o ts f0 f1 Q vV x y := by
          intro hx
          rw [pp_bb] at hx
          simp only [pp_bb] at hx
          exact cl_78t hts H hw2 (fun p s I A J hp hw hx => ih' p s I A J (by omega) hp hw hx) hx
        by_cases ho0 : o = 0
        · subst ho0
          rw [if_neg (fun c => absurd c.1 (by decide))] at hx
          exact cg_t rfl (tail hx)
        · obtain rfl : o = 1 := by omega
          refine cg_f (by decide) ?_
          by_cases hi0 : i = 0
          · subst hi0
            refine cg_t rfl ?_
            by_cases h123 : pp_at ts s2 = 123
            · refine cg_s1 hw2 h123 ?_
              have hk : (pq_dc s2)[k]? ≠ none := by
                intro c
                unfold pp_80 at hr2
                split at hr2
                · rename_i q hq
                  rw [pp_pf_dc hr2] at c
                  rw [hq] at c
                  cases c
                · cases hr2
              obtain ⟨q, hq⟩ := Option.ne_none_iff_exists'.mp hk
              obtain ⟨l80, _, e15, _, _, l3⟩ := cl_dc hw2 hq
              have es : pp_so s2 k = q.2.2.2.1 := by unfold pp_so; rw [hq]
              refine cg_a (vp_in_nI (by omega) (by omega)) ?_
              rw [e15]
              by_cases h2 : q.2.2.2.1 = 2
              · rw [if_pos ⟨rfl, rfl, h123, by rw [es]; exact h2⟩] at hx
                split at hx
                rotate_left
                · cases hx
                rw [pp_bb] at hx
                refine cg_t (by rw [h2]; rfl) ?_
                refine cg_bV (cq_c (fun s' => H.2.2.2.2.2.2.2.2.2.2.2.2.2.2.1 (pq_sd s).length s') 1 0 s2) hw2 hx fun _ s3 I3 A3 J3 _ hw3 hx => ?_
                have hx2 : pp_b (pp_w (fun (a : Nat × Nat) _ => some (Nat.beq a.2 1)) (pp_78b ts C 1 b ty v) m (1, 2) s3) (fun a s2 => if a.2 = 2 then pp_ret 0 s2 else pp_ex ts 59 s2) = some x := hx
                rw [show pp_w (fun (a : Nat × Nat) _ => some (Nat.beq a.2 1)) (pp_78b ts C 1 b ty v) m (1, 2) s3 = pp_ret (1, 2) s3 by cases m <;> rfl] at hx2
                cases hx2
                exact cg_r ⟨rfl, hw3⟩
              · rw [if_neg (fun c => h2 (by rw [← es]; exact c.2.2.2))] at hx
                exact cg_f (fun c => h2 ((nI_eq (b := 2) (by omega) (by omega)).mp c)) (tail hx)
            · rw [if_neg (fun c => h123 c.2.2.1)] at hx
              exact cg_s0 hw2 h123 (tail hx)
          · rw [if_neg (fun c => hi0 c.2.1)] at hx
            exact cg_f (nI_ne0 (by omega) (by omega)) (tail hx)
      · cases hx'
theorem cl_78 (hts : pp_ok ts) (H : cq_H ts f0 f1 (ec_E (d + 6)) C) {o : Nat} (ho : o ≤ 1) (s : pp_S) : cq_M ts f0 f1 (ec_E (d + 7)) 78 [.ref 5, .int (nI o)] vV s (pp_78 ts C o s) := by
  have h160 := hts.1
  rintro Q ⟨I, A, J⟩ hw x hx
  have e1 : I 20 1 = nI (pq_pos s) := hw.2.2.1.1
  refine cg_j ?_ (fun y h => ec_78 (r := y) h)
  unfold pp_78 at hx
  rw [e1]
  refine cg_bI (cl_79 hts s) hw hx fun b s1 I1 A1 J1 hr1 hw1 hx => ?_
  obtain ⟨lb, hp⟩ := pp_79_e hr1
  split at hx
  rotate_left
  · cases hx
  have e2 : I1 20 1 = nI (pq_pos s1) := hw1.2.2.1.1
  have l1 : pq_pos s1 ≤ ts.length := hw1.2.2.1.2.2.2.1
  rw [e2, pk_sub (by omega)]
  by_cases h2 : pq_pos s1 - pq_pos s = 2
  · rw [if_pos h2] at hx
    refine cg_t (by rw [h2]; rfl) ?_
    by_cases h59 : pp_at ts s1 = 59
    · rw [if_pos h59] at hx
      exact cg_s1 hw1 h59 (cl_78l (ty := 1) hts H ho lb (by omega) 160 0 0 s1 I1 A1 J1 (by omega) (by omega) hw1 hx)
    · rw [if_neg h59] at hx
      exact cg_s0 hw1 h59 (cl_78l (ty := 1) hts H ho lb (by omega) 160 0 1 s1 I1 A1 J1 (by omega) (by omega) hw1 hx)
  · rw [if_neg h2] at hx
    refine cg_f (fun c => h2 ((nI_eq (b := 2) (by omega) (by omega)).mp c)) ?_
    by_cases h59 : pp_at ts s1 = 59
    · rw [if_pos h59] at hx
      exact cg_s1 hw1 h59 (cl_78l (ty := 0) hts H ho lb (by omega) 160 0 0 s1 I1 A1 J1 (by omega) (by omega) hw1 hx)
    · rw [if_neg h59] at hx
      exact cg_s0 hw1 h59 (cl_78l (ty := 0) hts H ho lb (by omega) 160 0 1 s1 I1 A1 J1 (by omega) (by omega) hw1 hx)
theorem cl_81t (hts : pp_ok ts) {Q : List (Int32 × List Int32)} {s : pp_S} {I A : ja_I} {J : ja_J} (hw : cq ts f0 f1 Q (I, A, J) s) {x : Nat ⊕ (Nat × pp_S)} (hx : (pp_b (pp_ex ts 125 s) fun _ s => pp_b (pp_pf [125] s) fun _ s => pp_xs s) = some x) : ∃ y : ja_O × ja_w, ((∃ (z1 : Int32) (I1 A1 : ja_I) (J1 : ja_J), ec_E (d + 6) 38 [.ref 20, .int 125] (I, A, J) (.inl (some (.int z1))) (I1, A1, J1) ∧ (∃ (I2 A2 : ja_I) (J2 : ja_J), ec_E (d + 6) 17 [.ref 4, .int 125] (I1, A1, J1) (.inl (none)) (I2, A2, J2) ∧ (∃ (I3 A3 : ja_I) (J3 : ja_J), ec_E (d + 6) 44 [.ref 3] (I2, A2, J2) (.inl (none)) (I3, A3, J3) ∧ (y = (.inl none, (I3, A3, J3)))))) ∨ (∃ (x4 : Nat) (w4 : ja_w), ec_E (d + 6) 38 [.ref 20, .int 125] (I, A, J) (.inr x4) w4 ∧ y = (.inr x4, w4))) ∧ cq_o ts f0 f1 Q vV x y := by
  refine cg_bI (cl_38 hts 125 s) hw hx fun _ s1 I1 A1 J1 _ hw1 hx => ?_
  refine cg_uV (cl_17 (by exact rfl) s1) hw1 hx fun _ s2 I2 A2 J2 _ hw2 hx => ?_
  exact cg_uw (cl_44 s2) hw2 hx
theorem cl_81l (hts : pp_ok ts) (H : cq_H ts f0 f1 (ec_E (d + 6)) C) {Q : List (Int32 × List Int32)} : ∀ (m i : Nat) (a : Nat) (s : pp_S) (I A : ja_I) (J : ja_J), i + m = 160 → cq ts f0 f1 Q (I, A, J) s → ∀ x, pp_b (pp_w (fun _ s => some (!(pp_at ts s == 125))) (fun _ s => pp_if (if pp_at ts s = 4 then some true else pp_ib ts s (pq_pos s)) (pp_c C 78 0 0 1 0 s) (pp_c C 82 0 0 1 0 s)) m a s) (fun _ s => pp_b (pp_ex ts 125 s) fun _ s => pp_b (pp_pf [125] s) fun _ s => pp_xs s) = some x → ∃ y, ja_R (ja_code tc_81) (ec_E (d + 6)) y 29 [some (.ref 5), none, some (.int (nI i))] [] (I, A, J) ∧ cq_o ts f0 f1 Q vV x y := by
  have h160 := hts.1
  intro m
  induction m with
  | zero =>
    intro i a s I A J hi hw x hx
    simp only [pp_w] at hx
    refine cg_j (cg_t (nI_le (a := 160) (by omega) (by omega)) ?_) (fun y h => bc_81_29 h)
    cases hb : (!(pp_at ts s == 125)) with
    | true => rw [hb] at hx; cases hx
    | false =>
      rw [hb] at hx
      exact cl_81t hts hw hx
  | succ m ih =>
    intro i a s I A J hi hw x hx
    have e1 : I 20 1 = nI (pq_pos s) := hw.2.2.1.1
    have hp : pq_pos s ≤ ts.length := hw.2.2.1.2.2.2.1
    simp only [pp_w] at hx
    refine cg_j (cg_f (nI_ge (b := 160) (by omega) (by omega)) ?_) (fun y h => bc_81_29 h)
    by_cases h125 : pp_at ts s = 125
    · rw [show (!(pp_at ts s == 125)) = false by rw [h125]; rfl] at hx
      exact cg_s1 hw h125 (cl_81t hts hw hx)
    · rw [show (!(pp_at ts s == 125)) = true by simp [h125]] at hx
      simp only at hx
      rw [pp_bb] at hx
      refine cg_s0 hw h125 ?_
      by_cases h4 : pp_at ts s = 4
      · rw [if_pos h4] at hx
        refine cg_s1 hw h4 (cg_bV (cq_c (fun s => H.2.2.2.2.2.2.2.2.2.2.2.2.2.1 0 s (by omega)) 1 0 s) hw hx fun v s1 I1 A1 J1 _ hw1 hx => ?_)
        rw [nI_1]
        exact ih (i + 1) v s1 I1 A1 J1 (by omega) hw1 x hx
      · rw [if_neg h4] at hx
        refine cg_s0 hw h4 ?_
        rw [e1]
        cases hb : pp_ib ts s (pq_pos s) with
        | none => rw [hb] at hx; cases hx
        | some b =>
          rw [hb] at hx
          refine cg_I (cl_46 hts hw (by omega) hb) ?_
          cases b with
          | false =>
            refine cg_t rfl (cg_bV (cq_c H.2.2.2.2.2.2.2.2.2.2.2.2.2.2.2.1 1 0 s) hw hx fun v s1 I1 A1 J1 _ hw1 hx => ?_)
            rw [nI_1]
            exact ih (i + 1) v s1 I1 A1 J1 (by omega) hw1 x hx
          | true =>
            refine cg_f (by decide) (cg_bV (cq_c (fun s => H.2.2.2.2.2.2.2.2.2.2.2.2.2.1 0 s (by omega)) 1 0 s) hw hx fun v s1 I1 A1 J1 _ hw1 hx => ?_)
            rw [nI_1]
            exact ih (i + 1) v s1 I1 A1 J1 (by omega) hw1 x hx
theorem cl_81 (hts : pp_ok ts) (H : cq_H ts f0 f1 (ec_E (d + 6)) C) (q : Nat) (s : pp_S) : cq_M ts f0 f1 (ec_E (d + 7)) 81 [.ref 5, .int (nI q)] vV s (pp_81 ts C q s) := by
  rintro Q ⟨I, A, J⟩ hw x hx
  refine cg_j ?_ (fun y h => ec_81 (r := y) h)
  unfold pp_81 at hx
  refine cg_bI (cl_38 hts 123 s) hw hx fun _ s1 I1 A1 J1 _ hw1 hx => ?_
  refine cg_uV (cl_43 q s1) hw1 hx fun _ s2 I2 A2 J2 _ hw2 hx => ?_
  refine cg_uV (cl_17 (by exact rfl) s2) hw2 hx fun _ s3 I3 A3 J3 _ hw3 hx => ?_
  exact cl_81l hts H 160 0 0 s3 I3 A3 J3 (by omega) hw3 x hx
theorem cl_83 (hts : pp_ok ts) {c : Int32} (hc : cq_ch c) (s : pp_S) : cq_M ts f0 f1 (ec_E (d + 3)) 83 [.ref 5, .int c] vV s (pp_83 ts c s) := by
  rintro Q ⟨I, A, J⟩ hw x hx
  refine cg_j ?_ (fun y h => ec_83 (r := y) h)
  unfold pp_83 at hx
  refine cg_bI (cl_38 hts 59 s) hw hx fun _ s1 I1 A1 J1 _ hw1 hx => ?_
  exact cg_uw (cl_17 hc s1) hw1 hx
theorem cl_82 (hts : pp_ok ts) (H : cq_H ts f0 f1 (ec_E (d + 6)) C) (s : pp_S) : cq_M ts f0 f1 (ec_E (d + 7)) 82 [.ref 5] vV s (pp_82 ts C s) := by
  rintro Q ⟨I, A, J⟩ hw x hx
  refine cg_j ?_ (fun y h => ec_82 (r := y) h)
  unfold pp_82 at hx
  refine cg_I (cl_33 hw) ?_
  by_cases h123 : pp_at ts s = 123
  · rw [if_pos h123] at hx
    refine cg_f (by rw [h123]; decide) (cg_f (by rw [h123]; decide) (cg_f (by rw [h123]; decide) (cg_f (by rw [h123]; decide) (cg_t h123 ?_))))
    refine cg_uI (cl_42 s) hw hx fun q s1 I1 A1 J1 _ hw1 hx => ?_
    exact cg_eV (cq_c (fun s => H.2.2.2.2.2.2.2.2.2.2.2.2.2.2.1 q s) 0 0 s1) hw1 hx
  · rw [if_neg h123] at hx
    by_cases h59 : pp_at ts s = 59
    · rw [if_pos h59] at hx
      refine cg_f (by rw [h59]; decide) (cg_f (by rw [h59]; decide) (cg_f (by rw [h59]; decide) (cg_t h59 ?_)))
      exact cg_eV (cl_83 hts (by exact rfl) s) hw hx
    · rw [if_neg h59] at hx
      by_cases h8 : pp_at ts s = 8
      · rw [if_pos h8] at hx
        exact cg_t h8 (cg_eV (cq_c H.2.2.2.2.2.2.2.2.2.2.2.2.2.2.2.2.1 0 0 s) hw hx)
      · rw [if_neg h8] at hx
        refine cg_f h8 ?_
        by_cases h10 : pp_at ts s = 10
        · rw [if_pos h10] at hx
          refine cg_t h10 (cg_bI (cl_37 hts s) hw hx fun _ s1 I1 A1 J1 _ hw1 hx => ?_)
          exact cg_eV (cq_c (fun s => H.2.2.2.2.2.2.2.2.2.2.2.2.2.2.2.2.2 37 s rfl) 1 0 s1) hw1 hx
        · rw [if_neg h10] at hx
          refine cg_f h10 ?_
          by_cases h11 : pp_at ts s = 11
          · rw [if_pos h11] at hx
            refine cg_t h11 (cg_bI (cl_37 hts s) hw hx fun _ s1 I1 A1 J1 _ hw1 hx => ?_)
            by_cases h : pp_at ts s1 = 59
            · rw [if_pos h] at hx
              exact cg_s1 hw1 h (cg_eV (cl_83 hts (by exact rfl) s1) hw1 hx)
            · rw [if_neg h] at hx
              refine cg_s0 hw1 h (cg_bV (cq_c H.2.2.2.2.2.1 2 0 s1) hw1 hx fun _ s2 I2 A2 J2 _ hw2 hx => ?_)
              exact cg_eV (cl_83 hts (by exact rfl) s2) hw2 hx
          · rw [if_neg h11] at hx
            refine cg_f h11 (cg_f h59 (cg_f h123 (cg_bV (cq_c H.2.2.2.2.2.1 2 0 s) hw hx fun _ s2 I2 A2 J2 _ hw2 hx => ?_)))
            exact cg_eV (cl_83 hts (by exact rfl) s2) hw2 hx
theorem cl_84 (hts : pp_ok ts) (H : cq_H ts f0 f1 (ec_E (d + 6)) C) (s : pp_S) : cq_M ts f0 f1 (ec_E (d + 7)) 84 [.ref 5] vV s (pp_84 ts C s) := by
  rintro Q ⟨I, A, J⟩ hw x hx
  refine cg_j ?_ (fun y h => ec_84 (r := y) h)
  unfold pp_84 at hx
  refine cg_bI (cl_38 hts 8 s) hw hx fun _ s1 I1 A1 J1 _ hw1 hx => ?_
  refine cg_bV (cq_c (fun s => H.2.2.2.2.2.2.2.2.2.2.2.2.2.2.2.2.2 63 s rfl) 1 0 s1) hw1 hx fun _ s2 I2 A2 J2 _ hw2 hx => ?_
  by_cases h : pp_at ts s2 = 9
  · rw [if_pos h] at hx
    refine cg_s1 hw2 h (cg_bI (cl_37 hts s2) hw2 hx fun _ s3 I3 A3 J3 _ hw3 hx => ?_)
    refine cg_uV (cl_17 (by exact rfl) s3) hw3 hx fun _ s4 I4 A4 J4 _ hw4 hx => ?_
    refine cg_bV (cq_c H.2.2.2.2.2.2.2.2.2.2.2.2.2.2.2.1 1 0 s4) hw4 hx fun _ s5 I5 A5 J5 _ hw5 hx => ?_
    exact cg_uw (cl_39 s5) hw5 hx
  · rw [if_neg h] at hx
    cases hx
    exact cg_s0 hw2 h (cg_r ⟨rfl, hw2⟩)
theorem cl_85 (hts : pp_ok ts) (H : cq_H ts f0 f1 (ec_E (d + 6)) C) {c : Nat} (hc : cq_ch (nI c)) (s : pp_S) : cq_M ts f0 f1 (ec_E (d + 7)) 85 [.ref 5, .int (nI c)] vV s (pp_85 ts C c s) := by
  rintro Q ⟨I, A, J⟩ hw x hx
  refine cg_j ?_ (fun y h => ec_85 (r := y) h)
  unfold pp_85 at hx
  refine cg_bI (cl_38 hts 40 s) hw hx fun _ s1 I1 A1 J1 _ hw1 hx => ?_
  refine cg_bV (cq_c H.2.2.2.2.2.1 4 0 s1) hw1 hx fun _ s2 I2 A2 J2 _ hw2 hx => ?_
  refine cg_bI (cl_38 hts 41 s2) hw2 hx fun _ s3 I3 A3 J3 _ hw3 hx => ?_
  refine cg_uV (cl_17 hc s3) hw3 hx fun _ s4 I4 A4 J4 _ hw4 hx => ?_
  refine cg_bV (cq_c H.2.2.2.2.2.2.2.2.2.2.2.2.2.2.2.1 1 0 s4) hw4 hx fun _ s5 I5 A5 J5 _ hw5 hx => ?_
  exact cg_uw (cl_39 s5) hw5 hx
theorem cq_run {j a b : Nat} {s : pp_S} {E : ja_C} {as : List Value} {vf : Nat → Option Value} {n i : Nat} (h : cq_M ts f0 f1 E i as vf s (pp_body ts (pp_run ts n) j a b s)) : cq_M ts f0 f1 E i as vf s (pp_run ts (n + 1) j a b s) := by
  intro Q w hw x hx
  simp only [pp_run] at hx
  split at hx
  · exact h Q w hw x hx
  · cases hx
/-- The program reads as the abstract reader does, wherever that says something. -/
theorem cl_all (hts : pp_ok ts) : ∀ n, cq_H ts f0 f1 (ec_E (n + 6)) (pp_run ts n)
  | 0 => by
    refine ⟨?_, ?_, ?_, ?_, ?_, ?_, ?_, ?_, ?_, ?_, ?_, ?_, ?_, ?_, ?_, ?_, ?_, ?_⟩
    all_goals (intros; intro Q w hw x hx; cases hx)
  | n + 1 => by
    have H := cl_all hts n
    exact ⟨fun a b s ha hb => cq_run (cl_54 hts H ha hb s), fun a s ha => cq_run (cl_55 hts H ha s), fun a s ha => cq_run (cl_56 hts H ha s), fun a s ha => cq_run (cl_58 hts H ha s), fun s => cq_run (cl_61 hts H s), fun s => cq_run (cl_63 hts H s), fun s => cq_run (cl_64 hts H s), fun s => cq_run (cl_65 hts H s), fun s => cq_run (cl_66 hts H s), fun s => cq_run (cl_71 hts H s), fun s => cq_run (cl_72 hts H s), fun s => cq_run (cl_73 hts H s), fun s => cq_run (cl_74 hts H s), fun a s ha => cq_run (cl_78 hts H ha s), fun a s => cq_run (cl_81 hts H a s), fun s => cq_run (cl_82 hts H s), fun s => cq_run (cl_84 hts H s), fun a s ha => cq_run (cl_85 hts H ha s)⟩
end
