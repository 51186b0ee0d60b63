abbrev vN : Nat → Option Value := fun v => some (.int (nI v - 1))
/-- What the calls inside do. -/
def cq_H (ts : List pp_T) (f0 f1 : Nat → Int32) (E : ja_C) (C : pp_C) : Prop :=
  (∀ a b s, a < ts.length → b ≤ 1 → cq_M ts f0 f1 E 54 [.ref 21, .int (nI a), .int (nI b)] vI s (C 54 a b s)) ∧
  (∀ a s, a ≤ 2 → cq_M ts f0 f1 E 55 [.ref 21, .int (nI a)] vV s (C 55 a 0 s)) ∧
  (∀ a s, a ≤ 2 → cq_M ts f0 f1 E 56 [.ref 21, .int (nI a)] vN s (C 56 a 0 s)) ∧
  (∀ a s, a ≤ 2 → cq_M ts f0 f1 E 58 [.ref 21, .int (nI a)] vN s (C 58 a 0 s)) ∧
  (∀ s, cq_M ts f0 f1 E 61 [.ref 21] vV s (C 61 0 0 s)) ∧
  (∀ s, cq_M ts f0 f1 E 63 [.ref 22] vV s (C 63 0 0 s)) ∧
  (∀ s, cq_M ts f0 f1 E 64 [.ref 22] vI s (C 64 0 0 s)) ∧
  (∀ s, cq_M ts f0 f1 E 65 [.ref 22] vI s (C 65 0 0 s)) ∧
  (∀ s, cq_M ts f0 f1 E 66 [.ref 22] vI s (C 66 0 0 s)) ∧
  (∀ s, cq_M ts f0 f1 E 71 [.ref 22] vI s (C 71 0 0 s)) ∧
  (∀ s, cq_M ts f0 f1 E 72 [.ref 22] vV s (C 72 0 0 s)) ∧
  (∀ s, cq_M ts f0 f1 E 73 [.ref 22] vV s (C 73 0 0 s)) ∧
  (∀ s, cq_M ts f0 f1 E 74 [.ref 22] vI s (C 74 0 0 s)) ∧
  (∀ a s, a ≤ 1 → cq_M ts f0 f1 E 78 [.ref 5, .int (nI a)] vV s (C 78 a 0 s)) ∧
  (∀ a s, cq_M ts f0 f1 E 81 [.ref 5, .int (nI a)] vV s (C 81 a 0 s)) ∧
  (∀ s, cq_M ts f0 f1 E 82 [.ref 5] vV s (C 82 0 0 s)) ∧
  (∀ s, cq_M ts f0 f1 E 84 [.ref 5] vV s (C 84 0 0 s)) ∧
  (∀ a s, cq_ch (nI a) → cq_M ts f0 f1 E 85 [.ref 5, .int (nI a)] vV s (C 85 a 0 s))
theorem cq_c {ts : List pp_T} {f0 f1 : Nat → Int32} {E : ja_C} {C : pp_C} {i : Nat} {as : List Value} {vf : Nat → Option Value} {j a b : Nat} (h : ∀ s, cq_M ts f0 f1 E i as vf s (C j a b s)) (m x : Nat) (s : pp_S) : cq_M ts f0 f1 E i as vf s (pp_c C j a b m x s) := by
  obtain ⟨pos, op, cc, tn, tl, wt, r⟩ := s
  intro Q w hw z hz
  simp only [pp_c] at hz
  rcases pp_bE hz with ⟨p, hr, hp⟩ | ⟨v, s1, hr, hk⟩
  · subst hp
    exact h (pos, op, cc, tn, tl + m, wt + x, r) Q w hw _ hr
  · obtain ⟨y, hE, ho⟩ := h (pos, op, cc, tn, tl + m, wt + x, r) Q w hw _ hr
    obtain ⟨pos1, op1, cc1, tn1, tl1, wt1, r1⟩ := s1
    cases hk
    exact ⟨y, hE, ho⟩
theorem pp_c_e {C : pp_C} {j a b m x v : Nat} {s s1 : pp_S} (h : pp_c C j a b m x s = some (.inr (v, s1))) : ∃ s2 s3, C j a b s2 = some (.inr (v, s3)) ∧ s2.1 = s.1 ∧ s2.2.1 = s.2.1 ∧ s2.2.2.1 = s.2.2.1 ∧ s2.2.2.2.1 = s.2.2.2.1 ∧ s2.2.2.2.2.2.2 = s.2.2.2.2.2.2 ∧ s1.1 = s3.1 ∧ s1.2.1 = s3.2.1 ∧ s1.2.2.1 = s3.2.2.1 ∧ s1.2.2.2.1 = s3.2.2.2.1 ∧ s1.2.2.2.2.2.2 = s3.2.2.2.2.2.2 := by
  obtain ⟨pos, op, cc, tn, tl, wt, r⟩ := s
  simp only [pp_c] at h
  rcases pp_bE h with ⟨p, hr, hp⟩ | ⟨v, s3, hr, hk⟩
  · cases hp
  · obtain ⟨pos1, op1, cc1, tn1, tl1, wt1, r1⟩ := s3
    cases hk
    exact ⟨_, _, hr, rfl, rfl, rfl, rfl, rfl, rfl, rfl, rfl, rfl, rfl⟩
theorem vN_0 {n : Nat} (h : n < 2 ^ 31) : nI n - 1 = -1 ↔ n = 0 := by
  constructor
  · intro e
    rcases n with _ | n
    · rfl
    · rw [nI_pred] at e
      exact absurd e (oI_n (by omega))
  · intro e
    subst e
    decide
theorem vN_s {n : Nat} (h : n ≠ 0) : nI n - 1 = nI (n - 1) := by
  obtain ⟨m, rfl⟩ : ∃ m, n = m + 1 := ⟨n - 1, by omega⟩
  exact nI_pred m
section
variable {ts : List pp_T} {f0 f1 : Nat → Int32} {d : Nat} {α : Type} {P : α → Prop} {Q : List (Int32 × List Int32)} {I A : ja_I} {J : ja_J} {s : pp_S} {k : Int32}
theorem cg_s0 {F0 F1 : ja_I → ja_I → ja_J → α → Prop} (hw : cq ts f0 f1 Q (I, A, J) s) (h : ¬ pp_at ts s = k) (h0 : ∃ y, F0 I A J y ∧ P y) : ∃ y, (∃ (z : Int32) (I1 A1 : ja_I) (J1 : ja_J), ec_E (d + 1) 35 [.ref 20, .int k] (I, A, J) (.inl (some (.int z))) (I1, A1, J1) ∧ ((z = 0 → F0 I1 A1 J1 y) ∧ (¬ z = 0 → F1 I1 A1 J1 y))) ∧ P y := by
  have := cl_35 (d := d) hw k
  rw [show (pp_at ts s == k) = false by exact beq_eq_false_iff_ne.mpr h] at this
  exact cg_I this (cg_t rfl h0)
theorem cg_s1 {F0 F1 : ja_I → ja_I → ja_J → α → Prop} (hw : cq ts f0 f1 Q (I, A, J) s) (h : pp_at ts s = k) (h0 : ∃ y, F1 I A J y ∧ P y) : ∃ y, (∃ (z : Int32) (I1 A1 : ja_I) (J1 : ja_J), ec_E (d + 1) 35 [.ref 20, .int k] (I, A, J) (.inl (some (.int z))) (I1, A1, J1) ∧ ((z = 0 → F0 I1 A1 J1 y) ∧ (¬ z = 0 → F1 I1 A1 J1 y))) ∧ P y := by
  have := cl_35 (d := d) hw k
  rw [show (pp_at ts s == k) = true by rw [h]; exact beq_self_eq_true k] at this
  exact cg_I this (cg_f (by decide) h0)
end
theorem pp_use_e {ts : List pp_T} {s s1 : pp_S} {t v : Nat} (h : pp_use ts t s = some (.inr (v, s1))) : v = t ∧ pq_tn s1 = pq_tn s ∧ pq_sig s1 = pq_sig s ∧ pq_pos s1 = pq_pos s := by
  unfold pp_use at h
  split at h
  · obtain ⟨pos, op, cc, tn, tl, wt, pn, scs, sd, sig, frm, rl, mn, dc, fc⟩ := s
    cases h
    exact ⟨rfl, rfl, rfl, rfl⟩
  · cases h
theorem pp_base_e {ts : List pp_T} {s s1 : pp_S} {b : Nat} (h : pp_base ts s = some (.inr (b, s1))) : b = pq_pos s ∧ b < ts.length ∧ pq_sig s1 = pq_sig s ∧ pq_tn s1 = pq_tn s := by
  unfold pp_base at h
  cases hb : pp_ib ts s (pq_pos s) with
  | none => rw [hb] at h; cases h
  | some b =>
    rw [hb] at h
    cases b with
    | false => cases h
    | true =>
      rcases pp_bE (x := .inr _) h with ⟨p, hr, hp⟩ | ⟨v, s3, hr, hk⟩
      · cases hp
      · obtain ⟨e1, e2, e3, e4⟩ := pp_tk_e hr
        split at hk
        · obtain ⟨e5, e6, e7, _⟩ := pp_use_e hk
          exact ⟨by rw [e5, e1], by rw [e5]; exact e2, by rw [e7, e3], by rw [e6, e4]⟩
        · cases hk
          exact ⟨e1, e2, e3, e4⟩
theorem pp_de_e {ts : List pp_T} {t st tn0 ty : Nat} {s : pp_S} {x : Nat ⊕ (Nat × pp_S)} (h : pp_de ts t st tn0 ty s = some x) : t < ts.length := by
  obtain ⟨pos, op, cc, tn, tl, wt, pn, scs, sd, sig, frm, rl, mn, dc, fc⟩ := s
  simp only [pp_de] at h
  split at h
  · rename_i hb
    exact hb.2.2.2.1
  · cases h
section
variable {ts : List pp_T} {f0 f1 : Nat → Int32} {d : Nat} {C : pp_C}
theorem cl_55 (hts : pp_ok ts) (H : cq_H ts f0 f1 (ec_E (d + 6)) C) {m : Nat} (hm : m ≤ 2) (s : pp_S) : cq_M ts f0 f1 (ec_E (d + 7)) 55 [.ref 21, .int (nI m)] vV s (pp_55 ts C m s) := by
  have h160 := hts.1
  rintro Q ⟨I, A, J⟩ hw x hx
  have e8 : I 8 1 = nI (pq_tn s) := hw.2.2.2.2.1.1
  refine cg_j ?_ (fun y h => ec_55 (r := y) h)
  rw [e8]
  unfold pp_55 at hx
  refine cg_bI (cl_52 hts s) hw hx fun b s1 I1 A1 J1 hr1 hw1 hx => ?_
  obtain ⟨_, lb, _, _⟩ := pp_base_e hr1
  refine cg_bI (cq_c (fun s => H.2.2.1 m s hm) 4 0 s1) hw1 hx fun nm s2 I2 A2 J2 hr2 hw2 hx => ?_
  split at hx
  · refine cg_uV (cl_53 hts lb s2) hw2 hx fun v s3 I3 A3 J3 hr3 hw3 hx3 => ?_
    split at hx3
    · rename_i h0
      subst h0
      cases hx3
      exact cg_t (by decide) (cg_r ⟨rfl, hw3⟩)
    · rename_i h0
      rw [vN_s h0]
      rcases pp_bE hx3 with ⟨p, hr, hp⟩ | ⟨v, s4, hr, hk⟩
      · exact absurd hr ((cl_50 (f0 := f0) (f1 := f1) (d := d) hts (by omega) s3).1 p)
      · have lt := pp_de_e hr
        obtain ⟨I4, A4, J4, hE, hw4⟩ := (cl_50 (f0 := f0) (f1 := f1) (d := d + 3) hts (by omega) s3).2 Q _ hw3 v s4 hr
        cases hk
        exact cg_f (oI_n (by omega)) (cg_I hE (cg_r ⟨rfl, hw4⟩))
  · cases hx
theorem cl_54 (hts : pp_ok ts) (H : cq_H ts f0 f1 (ec_E (d + 6)) C) {b ty : Nat} (hb : b < ts.length) (hty : ty ≤ 1) (s : pp_S) : cq_M ts f0 f1 (ec_E (d + 7)) 54 [.ref 21, .int (nI b), .int (nI ty)] vI s (pp_54 ts C b ty s) := by
  have h160 := hts.1
  rintro Q ⟨I, A, J⟩ hw x hx
  have e8 : I 8 1 = nI (pq_tn s) := hw.2.2.2.2.1.1
  refine cg_j ?_ (fun y h => ec_54 (r := y) h)
  rw [e8]
  unfold pp_54 at hx
  have hw0 : cq ts f0 f1 Q (I, A, J) (pp_z0 s) := by
    obtain ⟨pos, op, cc, tn, tl, wt, pn, scs, sd, sig, frm, rl, mn, dc, fc⟩ := s
    obtain ⟨hT, h0, hP, hF, hY, hN, hS, hL, hQ⟩ := hw
    exact ⟨hT, h0, hP, hF, ⟨hY.1, hY.2.1, Nat.zero_le _, cq_h0 _ _, fun c hc => absurd hc List.not_mem_nil⟩, hN, hS, hL, hQ⟩
  refine cg_bI (cq_c (fun s => H.2.2.1 0 s (by omega)) 1 0 (pp_z0 s)) hw0 hx fun nm s2 I2 A2 J2 hr2 hw2 hx => ?_
  split at hx
  · rename_i h0
    refine cg_uV (cl_53 hts hb s2) hw2 hx fun v s3 I3 A3 J3 hr3 hw3 hx => ?_
    rw [vN_s h0.2]
    cases x with
    | inl p => exact absurd hx ((cl_50 (f0 := f0) (f1 := f1) (d := d) hts hty s3).1 p)
    | inr z =>
      obtain ⟨I4, A4, J4, hE, hw4⟩ := (cl_50 (f0 := f0) (f1 := f1) (d := d + 3) hts hty s3).2 Q _ hw3 z.1 z.2 hx
      exact cg_I hE (cg_r ⟨rfl, hw4⟩)
  · cases hx
theorem cl_57l (hts : pp_ok ts) {Q : List (Int32 × List Int32)} : ∀ (n i a : Nat) (s : pp_S) (I A : ja_I) (J : ja_J), i + n = 160 → cq ts f0 f1 Q (I, A, J) s → ∀ x, pp_w (fun _ s => some (pp_at ts s == 42)) (fun a s => pp_b (pp_tk ts s) fun _ s => pp_ret (a + 1) s) n a s = some x → ∃ y, ja_R (ja_code tc_57) (ec_E (d + 1)) y 4 [some (.ref 21), some (.int (nI a)), some (.int (nI i))] [] (I, A, J) ∧ cq_o ts f0 f1 Q vI x y := by
  intro n
  induction n with
  | zero =>
    intro i a s I A J hi hw x hx
    simp only [pp_w] at hx
    by_cases h : pp_at ts s = 42
    · rw [h] at hx; cases hx
    · rw [show (pp_at ts s == 42) = false from beq_eq_false_iff_ne.mpr h] at hx
      cases hx
      exact cg_j (cg_t (nI_le (a := 160) (by omega) (by omega)) (cg_r ⟨rfl, hw⟩)) (fun y h => bc_57_4 h)
  | succ n ih =>
    intro i a s I A J hi hw x hx
    simp only [pp_w] at hx
    refine cg_j (cg_f (nI_ge (b := 160) (by omega) (by omega)) ?_) (fun y h => bc_57_4 h)
    by_cases h : pp_at ts s = 42
    · rw [show (pp_at ts s == 42) = true by rw [h]; rfl] at hx
      refine cg_s1 hw h ?_
      simp only at hx
      rw [pp_bb] at hx
      refine cg_bI (cl_37 hts s) hw hx fun v s1 I1 A1 J1 hr1 hw1 hx => ?_
      rw [nI_1, nI_1]
      exact ih (i + 1) (a + 1) s1 I1 A1 J1 (by omega) hw1 x hx
    · rw [show (pp_at ts s == 42) = false from beq_eq_false_iff_ne.mpr h] at hx
      cases hx
      exact cg_s0 hw h (cg_r ⟨rfl, hw⟩)
theorem cl_57 (hts : pp_ok ts) (s : pp_S) : cq_M ts f0 f1 (ec_E (d + 2)) 57 [.ref 21] vI s (pp_57 ts s) := by
  rintro Q ⟨I, A, J⟩ hw x hx
  exact cg_j (cl_57l hts 160 0 0 s I A J (by omega) hw x hx) (fun y h => ec_57 (r := y) h)
theorem cl_59 (hts : pp_ok ts) {Q : List (Int32 × List Int32)} {s : pp_S} {I A : ja_I} {J : ja_J} (hw : cq ts f0 f1 Q (I, A, J) s) {m : Nat} (hm : m ≤ 2) {b : Bool} (hb : pp_59 ts m s = some b) : ec_E (d + 3) 59 [.ref 21, .int (nI m)] (I, A, J) (.inl (some (.int (bI b)))) (I, A, J) := by
  have h160 := hts.1
  have hp : pq_pos s ≤ ts.length := hw.2.2.1.2.2.2.1
  have e1 : I 20 1 = nI (pq_pos s) := hw.2.2.1.1
  unfold pp_59 at hb
  by_cases h0 : m = 0
  · rw [if_pos h0] at hb
    cases hb
    subst h0
    exact ec_59 (r := (_, _)) ⟨fun _ => rfl, fun n => absurd rfl n⟩
  · rw [if_neg h0] at hb
    have h0' : ¬ nI m = 0 := nI_ne0 (by omega) (by omega)
    refine ec_59 (r := (_, _)) ⟨fun n => absurd n h0', fun _ => ⟨pp_nx ts s, I, A, J, cl_34 hts hw, ?_⟩⟩
    by_cases h1 : pp_nx ts s = 42 ∨ pp_nx ts s = 40 ∨ pp_nx ts s = 91
    · rw [if_pos h1] at hb
      cases hb
      refine ⟨fun n => ?_, fun _ => ⟨fun _ => rfl, fun n40 => ⟨fun _ => rfl, fun n42 => ⟨fun _ => rfl, fun n91 => ?_⟩⟩⟩⟩
      · rcases h1 with h | h | h <;> exact absurd (h.symm.trans n) (by decide)
      · rcases h1 with h | h | h
        · exact absurd h n42
        · exact absurd h n40
        · exact absurd h n91
    · rw [if_neg h1] at hb
      have n40 : ¬ pp_nx ts s = 40 := fun h => h1 (Or.inr (Or.inl h))
      have n42 : ¬ pp_nx ts s = 42 := fun h => h1 (Or.inl h)
      have n91 : ¬ pp_nx ts s = 91 := fun h => h1 (Or.inr (Or.inr h))
      by_cases h2 : pp_nx ts s = 2
      · refine ⟨fun _ => ?_, fun n => absurd h2 n⟩
        by_cases h3 : m = 1
        · rw [if_pos ⟨h2, h3⟩] at hb
          subst h3
          refine ⟨fun _ => ?_, fun n => absurd rfl n⟩
          cases hc : pp_ib ts s (pq_pos s + 1) with
          | none => rw [hc] at hb; cases hb
          | some c =>
            rw [hc] at hb
            cases hb
            refine ⟨bI c, I, A, J, ?_, ?_⟩
            · rw [e1, nI_1]
              exact cl_46 hts hw (by omega) hc
            · cases c
              · exact ⟨fun _ => rfl, fun n => absurd rfl n⟩
              · exact ⟨fun n => absurd n (by decide), fun _ => rfl⟩
        · rw [if_neg (fun c => h3 c.2)] at hb
          cases hb
          exact ⟨fun n => absurd ((nI_eq (b := 1) (by omega) (by omega)).mp n) h3, fun _ => rfl⟩
      · rw [if_neg (fun c => h2 c.1)] at hb
        cases hb
        exact ⟨fun n => absurd n h2, fun _ => ⟨fun n => absurd n n40, fun _ => ⟨fun n => absurd n n42, fun _ => ⟨fun n => absurd n n91, fun _ => rfl⟩⟩⟩⟩
theorem pp_pt_ex {l : List Int32} {k : Int32} {s : pp_S} {x : Nat ⊕ (Nat × pp_S)} (h : (pp_b (pp_pt l s) fun _ s => pp_b (pp_ex ts k s) fun _ s => pp_ret 0 s) = some x) : (pp_b (pp_ex ts k s) fun _ s => pp_pt l s) = some x := by
  obtain ⟨pos, op, cc, tn, tl, wt, pn, scs, sd, sig, frm, rl, mn, dc, fc⟩ := s
  rcases pp_bE h with ⟨p, hr, hp⟩ | ⟨v1, s1, hr, hk⟩
  · exact absurd hr (pp_pt_n _ _ _)
  · simp only [pp_pt] at hr
    split at hr
    · rename_i hb
      cases hr
      unfold pp_ex at hk
      unfold pp_ex
      by_cases hkk : pp_k ts pos = k
      · rw [if_pos (show pp_k ts (pq_pos (pos, op, cc, tn + l.length, tl, wt, pn, scs, sd, sig ++ l, frm, rl, mn, dc, fc)) = k from hkk)] at hk
        rw [if_pos (show pp_k ts (pq_pos (pos, op, cc, tn, tl, wt, pn, scs, sd, sig, frm, rl, mn, dc, fc)) = k from hkk)]
        simp only [pp_tk] at hk
        simp only [pp_tk]
        by_cases h1 : ts.length ≤ pos
        · rw [if_pos h1] at hk; cases hk
        · rw [if_neg h1] at hk
          rw [if_neg h1]
          by_cases h2 : 8 < op
          · rw [if_pos h2] at hk; cases hk
          · rw [if_neg h2] at hk
            rw [if_neg h2]
            by_cases h3 : pp_opens (pp_k ts pos) = true
            · rw [if_pos h3] at hk
              rw [if_pos h3]
              by_cases h4 : op = 8
              · rw [if_pos h4] at hk
                rw [if_pos h4]
                exact hk
              · rw [if_neg h4] at hk
                rw [if_neg h4]
                simp only [pp_b, pp_pt, pp_ret] at hk ⊢
                rw [if_pos hb]; exact hk
            · rw [if_neg h3] at hk
              rw [if_neg h3]
              by_cases h4 : pp_shuts (pp_k ts pos) = true
              · rw [if_pos h4] at hk
                rw [if_pos h4]
                by_cases h5 : op = 0
                · rw [if_pos h5] at hk; cases hk
                · rw [if_neg h5] at hk
                  rw [if_neg h5]
                  simp only [pp_b, pp_pt, pp_ret] at hk ⊢
                  rw [if_pos hb]; exact hk
              · rw [if_neg h4] at hk
                rw [if_neg h4]
                simp only [pp_b, pp_pt, pp_ret] at hk ⊢
                rw [if_pos hb]; exact hk
      · rw [if_neg (show ¬ pp_k ts (pq_pos (pos, op, cc, tn + l.length, tl, wt, pn, scs, sd, sig ++ l, frm, rl, mn, dc, fc)) = k from hkk)] at hk
        rw [if_neg (show ¬ pp_k ts (pq_pos (pos, op, cc, tn, tl, wt, pn, scs, sd, sig, frm, rl, mn, dc, fc)) = k from hkk)]
        exact hk
    · cases hr
theorem cl_60 (hts : pp_ok ts) (s : pp_S) : cq_M ts f0 f1 (ec_E (d + 3)) 60 [.ref 21] vV s (pp_60 ts s) := by
  rintro Q ⟨I, A, J⟩ hw x hx
  refine cg_j ?_ (fun y h => ec_60 (r := y) h)
  unfold pp_60 at hx
  refine cg_bI (cl_38 hts 91 s) hw hx fun _ s1 I1 A1 J1 _ hw1 hx => ?_
  refine cg_uV (cl_17t (by exact rfl) s1) hw1 hx fun _ s2 I2 A2 J2 _ hw2 hx => ?_
  by_cases h : pp_at ts s2 = 3
  · rw [if_pos h, pp_bb] at hx
    refine cg_s1 hw2 h ?_
    refine cg_bI (cl_37 hts s2) hw2 hx fun t s3 I3 A3 J3 hr3 hw3 hx => ?_
    have lt := (pp_tk_e hr3).2.1
    refine cg_L (cl_23w hts hw3 lt) ?_
    refine cg_uV (cl_20t hts lt s3) hw3 hx fun _ s4 I4 A4 J4 _ hw4 hx => ?_
    refine cg_bI (cl_38 hts 93 s4) hw4 (pp_pt_ex hx) fun _ s5 I5 A5 J5 _ hw5 hx => ?_
    exact cg_uw (cl_17t (by exact rfl) s5) hw5 hx
  · rw [if_neg h] at hx
    refine cg_s0 hw2 h ?_
    refine cg_bI (cl_38 hts 93 s2) hw2 (pp_pt_ex hx) fun _ s5 I5 A5 J5 _ hw5 hx => ?_
    exact cg_uw (cl_17t (by exact rfl) s5) hw5 hx
theorem cl_58 (hts : pp_ok ts) (H : cq_H ts f0 f1 (ec_E (d + 6)) C) {m : Nat} (hm : m ≤ 2) (s : pp_S) : cq_M ts f0 f1 (ec_E (d + 7)) 58 [.ref 21, .int (nI m)] vN s (pp_58 ts C m s) := by
  have h160 := hts.1
  rintro Q ⟨I, A, J⟩ hw x hx
  have hp : pq_pos s ≤ ts.length := hw.2.2.1.2.2.2.1
  have e1 : I 20 1 = nI (pq_pos s) := hw.2.2.1.1
  refine cg_j ?_ (fun y h => ec_58 (r := y) h)
  unfold pp_58 at hx
  by_cases h2 : pp_at ts s = 2
  · by_cases hm2 : m = 2
    · rw [if_neg (fun c => c.2 hm2), if_neg (fun c => absurd (h2.symm.trans c) (by decide)), if_neg (by omega)] at hx
      cases hx
      subst hm2
      exact cg_s1 hw h2 (cg_t rfl (cg_s0 hw (fun c => absurd (h2.symm.trans c) (by decide)) (cg_f (by decide) (cg_l (cg_V cl_36t (cg_r ⟨rfl, hw⟩))))))
    · rw [if_pos ⟨h2, hm2⟩] at hx
      have ht : pq_pos s < ts.length := by
        refine Nat.lt_of_not_le fun hle => ?_
        have : pp_at ts s = 0 := pp_k_ge hle
        exact absurd (this.symm.trans h2) (by decide)
      refine cg_s1 hw h2 (cg_f (fun c => hm2 ((nI_eq (b := 2) (by omega) (by omega)).mp c)) ?_)
      rw [e1]
      cases hb : pp_cd ts s (pq_pos s) with
      | none => rw [hb] at hx; cases hx
      | some b =>
        rw [hb] at hx
        refine cg_I (cl_48 hts hw ht hb) ?_
        cases b with
        | false =>
          cases hx
          exact cg_x cl_36f ⟨rfl, hw.2.1.1, hw.2.1.2, e1⟩
        | true =>
          refine cg_l (cg_V cl_36t (cg_bI (cl_37 hts s) hw hx fun t s1 I1 A1 J1 hr hw1 hk => ?_))
          cases hk
          exact cg_r ⟨by rw [← nI_pred t], hw1⟩
  · rw [if_neg (fun c => h2 c.1)] at hx
    refine cg_s0 hw h2 ?_
    by_cases h40 : pp_at ts s = 40
    · rw [if_pos h40] at hx
      refine cg_s1 hw h40 ?_
      cases hb : pp_59 ts m s with
      | none => rw [hb] at hx; cases hx
      | some b =>
        rw [hb] at hx
        refine cg_I (cl_59 hts hw hm hb) ?_
        cases b with
        | false =>
          cases hx
          refine cg_t rfl (cg_f (fun c => ?_) (cg_l (cg_V cl_36t (cg_r ⟨rfl, hw⟩))))
          have : m = 0 := (nI_eq (b := 0) (by omega) (by omega)).mp c
          unfold pp_59 at hb
          rw [if_pos this] at hb
          cases hb
        | true =>
          refine cg_f (by decide) ?_
          refine cg_bI (cl_37 hts s) hw hx fun t s1 I1 A1 J1 hr hw1 hx => ?_
          refine cg_bI (cq_c (fun s => H.2.2.1 m s hm) 3 0 s1) hw1 hx fun nm s2 I2 A2 J2 hr2 hw2 hx => ?_
          refine cg_bI (cl_38 hts 41 s2) hw2 hx fun _ s3 I3 A3 J3 hr3 hw3 hx => ?_
          cases hx
          exact cg_r ⟨rfl, hw3⟩
    · rw [if_neg h40] at hx
      refine cg_s0 hw h40 ?_
      by_cases h0 : m = 0
      · rw [if_pos h0] at hx
        cases hx
        subst h0
        exact cg_t rfl (cg_x cl_36f ⟨rfl, hw.2.1.1, hw.2.1.2, e1⟩)
      · rw [if_neg h0] at hx
        cases hx
        exact cg_f (fun c => h0 ((nI_eq (b := 0) (by omega) (by omega)).mp c)) (cg_l (cg_V cl_36t (cg_r ⟨rfl, hw⟩)))
end
