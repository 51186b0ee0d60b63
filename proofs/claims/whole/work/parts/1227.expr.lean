section
variable {ts : List pp_T} {f0 f1 : Nat → Int32} {d : Nat} {C : pp_C}
theorem cl_56l (hts : pp_ok ts) (H : cq_H ts f0 f1 (ec_E (d + 6)) C) {n nm : Nat} (hn : n < 2 ^ 31) {Q : List (Int32 × List Int32)} : ∀ (m i : Nat) (a : Nat) (s : pp_S) (I A : ja_I) (J : ja_J), i + m = 160 → cq ts f0 f1 Q (I, A, J) s → ∀ x, pp_b (pp_w (fun _ s => some (pp_at ts s == 91 || pp_at ts s == 40)) (fun _ s => if pp_at ts s = 91 then pp_60 ts s else pp_c C 61 0 0 1 0 s) m a s) (fun _ s => pp_b (pp_pt (List.replicate n 42) s) fun _ s => pp_ret nm s) = some x → ∃ y, ja_R (ja_code tc_56) (ec_E (d + 6)) y 14 [some (.ref 21), none, some (.int (nI n)), some (.int (nI nm - 1)), some (.int (nI i))] [] (I, A, J) ∧ cq_o ts f0 f1 Q vN x y := by
  intro m
  induction m with
  | zero =>
    intro i a s I A J hi hw x hx
    simp only [pp_w] at hx
    refine cg_j (cg_t (nI_le (a := 160) (by omega) (by omega)) ?_) (fun y h => bc_56_14 h)
    cases hb : (pp_at ts s == 91 || pp_at ts s == 40) with
    | true => rw [hb] at hx; cases hx
    | false =>
      rw [hb] at hx
      refine cg_uV (cl_18t (by exact rfl) hn s) hw hx fun _ s1 I1 A1 J1 _ hw1 hx => ?_
      cases hx
      exact cg_r ⟨rfl, hw1⟩
  | succ m ih =>
    intro i a s I A J hi hw x hx
    simp only [pp_w] at hx
    refine cg_j (cg_f (nI_ge (b := 160) (by omega) (by omega)) ?_) (fun y h => bc_56_14 h)
    by_cases h91 : pp_at ts s = 91
    · rw [show (pp_at ts s == 91 || pp_at ts s == 40) = true by rw [h91]; rfl] at hx
      simp only at hx
      rw [pp_bb, if_pos h91] at hx
      refine cg_s1 hw h91 (cg_s1 hw h91 (cg_bV (cl_60 hts s) hw hx fun v s1 I1 A1 J1 hr1 hw1 hx => ?_))
      rw [nI_1]
      exact ih (i + 1) v s1 I1 A1 J1 (by omega) hw1 x hx
    · by_cases h40 : pp_at ts s = 40
      · rw [show (pp_at ts s == 91 || pp_at ts s == 40) = true by rw [h40]; rfl] at hx
        simp only at hx
        rw [pp_bb, if_neg h91] at hx
        refine cg_s0 hw h91 (cg_s1 hw h40 (cg_s0 hw h91 (cg_bV (cq_c H.2.2.2.2.1 1 0 s) hw hx fun v s1 I1 A1 J1 hr1 hw1 hx => ?_)))
        rw [nI_1]
        exact ih (i + 1) v s1 I1 A1 J1 (by omega) hw1 x hx
      · rw [show (pp_at ts s == 91 || pp_at ts s == 40) = false by simp [h91, h40]] at hx
        refine cg_s0 hw h91 (cg_s0 hw h40 (cg_uV (cl_18t (by exact rfl) hn s) hw hx fun _ s1 I1 A1 J1 _ hw1 hx => ?_))
        cases hx
        exact cg_r ⟨rfl, hw1⟩
theorem pp_w_pos {ts : List pp_T} : ∀ {n a v : Nat} {s s1 : pp_S}, pp_w (fun _ s => some (pp_at ts s == 42)) (fun a s => pp_b (pp_tk ts s) fun _ s => pp_ret (a + 1) s) n a s = some (.inr (v, s1)) → v ≤ a + n
  | 0, a, v, s, s1, h => by
    simp only [pp_w] at h
    cases hb : (pp_at ts s == 42) with
    | true => rw [hb] at h; cases h
    | false => rw [hb] at h; cases h; omega
  | n + 1, a, v, s, s1, h => by
    simp only [pp_w] at h
    cases hb : (pp_at ts s == 42) with
    | true =>
      rw [hb] at h
      simp only at h
      rw [pp_bb] at h
      rcases pp_bE h with ⟨p, hr, hp⟩ | ⟨t, s2, hr, hk⟩
      · cases hp
      · have := pp_w_pos hk
        omega
    | false => rw [hb] at h; cases h; omega
theorem cl_56 (hts : pp_ok ts) (H : cq_H ts f0 f1 (ec_E (d + 6)) C) {m : Nat} (hm : m ≤ 2) (s : pp_S) : cq_M ts f0 f1 (ec_E (d + 7)) 56 [.ref 21, .int (nI m)] vN s (pp_56 ts C m s) := by
  rintro Q ⟨I, A, J⟩ hw x hx
  refine cg_j ?_ (fun y h => ec_56 (r := y) h)
  unfold pp_56 at hx
  refine cg_bI (cl_57 hts s) hw hx fun n s1 I1 A1 J1 hr1 hw1 hx => ?_
  refine cg_bI (cq_c (fun s => H.2.2.2.1 m s hm) 2 0 s1) hw1 hx fun nm s2 I2 A2 J2 hr2 hw2 hx => ?_
  have hn := pp_w_pos (ts := ts) hr1
  exact cl_56l hts H (by omega) 160 0 0 s2 I2 A2 J2 (by omega) hw2 x hx
theorem cl_61t (hts : pp_ok ts) {Q : List (Int32 × List Int32)} {s : pp_S} {I A : ja_I} {J : ja_J} (hw : cq ts f0 f1 Q (I, A, J) s) {x : Nat ⊕ (Nat × pp_S)} (hx : (pp_b (pp_xs s) fun _ s => pp_b (pp_ex ts 41 s) fun _ s => pp_pt [41] s) = some x) : ∃ y : ja_O × ja_w, (∃ (I1 A1 : ja_I) (J1 : ja_J), ec_E (d + 6) 44 [.ref 3] (I, A, J) (.inl (none)) (I1, A1, J1) ∧ ((∃ (z2 : Int32) (I2 A2 : ja_I) (J2 : ja_J), ec_E (d + 6) 38 [.ref 20, .int 41] (I1, A1, J1) (.inl (some (.int z2))) (I2, A2, J2) ∧ (∃ (I3 A3 : ja_I) (J3 : ja_J), ec_E (d + 6) 17 [.ref 8, .int 41] (I2, A2, J2) (.inl (none)) (I3, A3, J3) ∧ (y = (.inl none, (I3, A3, J3))))) ∨ (∃ (x4 : Nat) (w4 : ja_w), ec_E (d + 6) 38 [.ref 20, .int 41] (I1, A1, J1) (.inr x4) w4 ∧ y = (.inr x4, w4)))) ∧ cq_o ts f0 f1 Q vV x y := by
  refine cg_uV (cl_44 s) hw hx fun _ s1 I1 A1 J1 _ hw1 hx => ?_
  refine cg_bI (cl_38 hts 41 s1) hw1 hx fun _ s2 I2 A2 J2 _ hw2 hx => ?_
  exact cg_uw (cl_17t (by exact rfl) s2) hw2 hx
theorem cl_61l (hts : pp_ok ts) (H : cq_H ts f0 f1 (ec_E (d + 6)) C) {Q : List (Int32 × List Int32)} : ∀ (m i : Nat) (a : Nat) (s : pp_S) (I A : ja_I) (J : ja_J), i + m = 160 → cq ts f0 f1 Q (I, A, J) s → ∀ x, pp_b (pp_w (fun _ s => some (pp_at ts s == 44)) (fun _ s => pp_b (pp_tk ts s) fun _ s => pp_b (pp_pt [44] s) fun _ s => pp_c C 55 1 0 2 0 s) m a s) (fun _ s => pp_b (pp_xs s) fun _ s => pp_b (pp_ex ts 41 s) fun _ s => pp_pt [41] s) = some x → ∃ y, ja_R (ja_code tc_61) (ec_E (d + 6)) y 87 [some (.ref 21), some (.int (nI i))] [] (I, A, J) ∧ cq_o ts f0 f1 Q vV x y := by
  intro m
  induction m with
  | zero =>
    intro i a s I A J hi hw x hx
    simp only [pp_w] at hx
    refine cg_j (cg_t (nI_le (a := 160) (by omega) (by omega)) ?_) (fun y h => bc_61_87 h)
    cases hb : (pp_at ts s == 44) with
    | true => rw [hb] at hx; cases hx
    | false =>
      rw [hb] at hx
      exact cl_61t hts hw hx
  | succ m ih =>
    intro i a s I A J hi hw x hx
    simp only [pp_w] at hx
    refine cg_j (cg_f (nI_ge (b := 160) (by omega) (by omega)) ?_) (fun y h => bc_61_87 h)
    by_cases h44 : pp_at ts s = 44
    · rw [show (pp_at ts s == 44) = true by rw [h44]; rfl] at hx
      simp only at hx
      rw [pp_bb, pp_bb] at hx
      refine cg_s1 hw h44 (cg_bI (cl_37 hts s) hw hx fun _ s1 I1 A1 J1 _ hw1 hx => ?_)
      rw [pp_bb] at hx
      refine cg_uV (cl_17t (by exact rfl) s1) hw1 hx fun _ s2 I2 A2 J2 _ hw2 hx => ?_
      refine cg_bV (cq_c (fun s => H.2.1 1 s (by omega)) 2 0 s2) hw2 hx fun v s3 I3 A3 J3 _ hw3 hx => ?_
      rw [nI_1]
      exact ih (i + 1) v s3 I3 A3 J3 (by omega) hw3 x hx
    · rw [show (pp_at ts s == 44) = false from beq_eq_false_iff_ne.mpr h44] at hx
      exact cg_s0 hw h44 (cl_61t hts hw hx)
theorem cq_sf {Q : List (Int32 × List Int32)} {w : ja_w} {s : pp_S} {e : Bool} {n : Nat} (hw : cq ts f0 f1 Q w s) : cq ts f0 f1 Q w (pp_sf e n s) := by
  obtain ⟨pos, op, cc, tn, tl, wt, pn, scs, sd, sig, frm, rl, mn, dc, fc⟩ := s
  exact hw
theorem cl_61 (hts : pp_ok ts) (H : cq_H ts f0 f1 (ec_E (d + 6)) C) (s : pp_S) : cq_M ts f0 f1 (ec_E (d + 7)) 61 [.ref 21] vV s (pp_61 ts C s) := by
  rintro Q ⟨I, A, J⟩ hw x hx
  refine cg_j ?_ (fun y h => ec_61 (r := y) h)
  unfold pp_61 at hx
  refine cg_bI (cl_38 hts 40 s) hw hx fun _ s1 I1 A1 J1 _ hw1 hx => ?_
  refine cg_uV (cl_17t (by exact rfl) s1) hw1 hx fun _ s2 I2 A2 J2 _ hw2 hx => ?_
  refine cg_uI (cl_42 s2) hw2 hx fun q s3 I3 A3 J3 _ hw3 hx => ?_
  refine cg_uV (cl_43 q _) (cq_sf hw3) hx fun _ s4 I4 A4 J4 _ hw4 hx => ?_
  by_cases h7 : pp_at ts s4 = 7
  · refine cg_s1 hw4 h7 (cg_I (cl_34 hts hw4) ?_)
    by_cases h41 : pp_nx ts s4 = 41
    · rw [if_pos ⟨h7, h41⟩] at hx
      refine cg_t h41 (cg_bI (cl_37 hts s4) hw4 hx fun _ s5 I5 A5 J5 _ hw5 hx => cl_61t hts hw5 hx)
    · rw [if_neg (fun c => h41 c.2)] at hx
      refine cg_f h41 ?_
      rw [if_neg (fun c => absurd (h7.symm.trans c) (by decide)), pp_bb] at hx
      refine cg_s0 hw4 (fun c => absurd (h7.symm.trans c) (by decide)) (cg_bV (cq_c (fun s => H.2.1 1 s (by omega)) 2 0 s4) hw4 hx fun _ s5 I5 A5 J5 _ hw5 hx => cl_61l hts H 160 0 0 s5 I5 A5 J5 (by omega) hw5 x hx)
  · rw [if_neg (fun c => h7 c.1)] at hx
    refine cg_s0 hw4 h7 ?_
    by_cases h41 : pp_at ts s4 = 41
    · rw [if_pos h41] at hx
      exact cg_s1 hw4 h41 (cl_61t hts hw4 hx)
    · rw [if_neg h41, pp_bb] at hx
      refine cg_s0 hw4 h41 (cg_bV (cq_c (fun s => H.2.1 1 s (by omega)) 2 0 s4) hw4 hx fun _ s5 I5 A5 J5 _ hw5 hx => cl_61l hts H 160 0 0 s5 I5 A5 J5 (by omega) hw5 x hx)
/-! expressions -/
theorem cl_63t (hts : pp_ok ts) (H : cq_H ts f0 f1 (ec_E (d + 6)) C) {a : Nat} (ha : a < 2 ^ 31) {Q : List (Int32 × List Int32)} {s : pp_S} {I A : ja_I} {J : ja_J} (hw : cq ts f0 f1 Q (I, A, J) s) {x : Nat ⊕ (Nat × pp_S)} (hx : (pp_b (if pp_at ts s = 60 then pp_b (pp_tk ts s) fun _ s => pp_b (pp_c C 64 0 0 (a + 1) 0 s) fun _ s => pp_pf [60] s else pp_ret 0 s) fun _ s => pp_pf (List.replicate a 61) s) = some x) : ∃ y : ja_O × ja_w, (∃ (z1 : Int32) (I1 A1 : ja_I) (J1 : ja_J), ec_E (d + 6) 35 [.ref 20, .int 60] (I, A, J) (.inl (some (.int z1))) (I1, A1, J1) ∧ (((z1 = 0) → ∃ (I2 A2 : ja_I) (J2 : ja_J), ec_E (d + 6) 18 [.ref 4, .int 61, .int (nI a)] (I1, A1, J1) (.inl (none)) (I2, A2, J2) ∧ (y = (.inl none, (I2, A2, J2)))) ∧ (¬ (z1 = 0) → (∃ (z3 : Int32) (I3 A3 : ja_I) (J3 : ja_J), ec_E (d + 6) 37 [.ref 20] (I1, A1, J1) (.inl (some (.int z3))) (I3, A3, J3) ∧ ((∃ (z4 : Int32) (I4 A4 : ja_I) (J4 : ja_J), ec_E (d + 6) 64 [.ref 22] (I3, A3, J3) (.inl (some (.int z4))) (I4, A4, J4) ∧ (∃ (I5 A5 : ja_I) (J5 : ja_J), ec_E (d + 6) 17 [.ref 4, .int 60] (I4, A4, J4) (.inl (none)) (I5, A5, J5) ∧ (∃ (I6 A6 : ja_I) (J6 : ja_J), ec_E (d + 6) 18 [.ref 4, .int 61, .int (nI a)] (I5, A5, J5) (.inl (none)) (I6, A6, J6) ∧ (y = (.inl none, (I6, A6, J6)))))) ∨ (∃ (x7 : Nat) (w7 : ja_w), ec_E (d + 6) 64 [.ref 22] (I3, A3, J3) (.inr x7) w7 ∧ y = (.inr x7, w7)))) ∨ (∃ (x8 : Nat) (w8 : ja_w), ec_E (d + 6) 37 [.ref 20] (I1, A1, J1) (.inr x8) w8 ∧ y = (.inr x8, w8))))) ∧ cq_o ts f0 f1 Q vV x y := by
  by_cases h : pp_at ts s = 60
  · rw [if_pos h, pp_bb] at hx
    refine cg_s1 hw h (cg_bI (cl_37 hts s) hw hx fun _ s1 I1 A1 J1 _ hw1 hx => ?_)
    rw [pp_bb] at hx
    refine cg_bI (cq_c H.2.2.2.2.2.2.1 (a + 1) 0 s1) hw1 hx fun _ s2 I2 A2 J2 _ hw2 hx => ?_
    refine cg_uV (cl_17 (by exact rfl) s2) hw2 hx fun _ s3 I3 A3 J3 _ hw3 hx => ?_
    exact cg_uw (cl_18 (by exact rfl) ha s3) hw3 hx
  · rw [if_neg h] at hx
    exact cg_s0 hw h (cg_uw (cl_18 (by exact rfl) ha s) hw hx)
theorem cl_63l (hts : pp_ok ts) (H : cq_H ts f0 f1 (ec_E (d + 6)) C) {Q : List (Int32 × List Int32)} : ∀ (m i : Nat) (a p : Nat) (s : pp_S) (I A : ja_I) (J : ja_J), i + m = 160 → a ≤ i → p ≤ 1 → cq ts f0 f1 Q (I, A, J) s → ∀ x, pp_b (pp_w (fun (a : Nat × Nat) s => some (Nat.beq a.2 1 && pp_at ts s == 61)) (fun a s => pp_b (pp_tk ts s) fun _ s => pp_b (pp_c C 64 0 0 (a.1 + 2) 0 s) fun p s => pp_01 p <| pp_ret (a.1 + 1, p) s) m (a, p) s) (fun a s => pp_b (if pp_at ts s = 60 then pp_b (pp_tk ts s) fun _ s => pp_b (pp_c C 64 0 0 (a.1 + 1) 0 s) fun _ s => pp_pf [60] s else pp_ret 0 s) fun _ s => pp_pf (List.replicate a.1 61) s) = some x → ∃ y, ja_R (ja_code tc_63) (ec_E (d + 6)) y 9 [some (.ref 22), some (.int (nI a)), some (.int (nI p)), some (.int (nI i))] [] (I, A, J) ∧ cq_o ts f0 f1 Q vV x y := by
  intro m
  induction m with
  | zero =>
    intro i a p s I A J hi ha hp hw x hx
    simp only [pp_w] at hx
    refine cg_j (cg_t (nI_le (a := 160) (by omega) (by omega)) ?_) (fun y h => bc_63_9 h)
    cases hb : (Nat.beq p 1 && pp_at ts s == 61) with
    | true => rw [hb] at hx; cases hx
    | false =>
      rw [hb] at hx
      exact cl_63t hts H (by omega) hw hx
  | succ m ih =>
    intro i a p s I A J hi ha hp hw x hx
    simp only [pp_w] at hx
    refine cg_j (cg_f (nI_ge (b := 160) (by omega) (by omega)) ?_) (fun y h => bc_63_9 h)
    by_cases hp1 : p = 1
    · subst hp1
      refine cg_f (by decide) ?_
      by_cases h61 : pp_at ts s = 61
      · rw [show (Nat.beq 1 1 && pp_at ts s == 61) = true by rw [h61]; rfl] at hx
        simp only at hx
        rw [pp_bb, pp_bb] at hx
        refine cg_s1 hw h61 (cg_bI (cl_37 hts s) hw hx fun _ s1 I1 A1 J1 _ hw1 hx => ?_)
        rw [pp_bb] at hx
        refine cg_bI (cq_c H.2.2.2.2.2.2.1 (a + 2) 0 s1) hw1 hx fun p s2 I2 A2 J2 _ hw2 hx => ?_
        unfold pp_01 at hx
        split at hx
        · rename_i hp
          rw [nI_1, nI_1]
          exact ih (i + 1) (a + 1) p s2 I2 A2 J2 (by omega) (by omega) hp hw2 x hx
        · cases hx
      · rw [show (Nat.beq 1 1 && pp_at ts s == 61) = false by simp [h61]] at hx
        exact cg_s0 hw h61 (cl_63t hts H (by omega) hw hx)
    · obtain rfl : p = 0 := by omega
      exact cg_t rfl (cl_63t hts H (by omega) hw hx)
theorem cl_63 (hts : pp_ok ts) (H : cq_H ts f0 f1 (ec_E (d + 6)) C) (s : pp_S) : cq_M ts f0 f1 (ec_E (d + 7)) 63 [.ref 22] vV s (pp_63 ts C s) := by
  rintro Q ⟨I, A, J⟩ hw x hx
  refine cg_j ?_ (fun y h => ec_63 (r := y) h)
  unfold pp_63 at hx
  refine cg_bI (cq_c H.2.2.2.2.2.2.1 1 0 s) hw hx fun p s1 I1 A1 J1 _ hw1 hx => ?_
  unfold pp_01 at hx
  split at hx
  · rename_i hp
    exact cl_63l hts H 160 0 0 p s1 I1 A1 J1 (by omega) (by omega) hp hw1 x hx
  · cases hx
theorem cn_01 {p : Nat} (h : p ≤ 1) : nI p = 0 ∨ nI p = 1 := by
  rcases p with _ | p
  · exact Or.inl rfl
  · obtain rfl : p = 0 := by omega
    exact Or.inr rfl
theorem cq_i2c {v : Int32} (h : cq_ch v) : (v.toUInt32 % 65536).toInt32 = v := by
  have e : v.toUInt32.toUInt16.toUInt32 = v.toUInt32 % 65536 := by
    apply UInt32.toNat_inj.mp
    simp
  have h' : Value.int v.toUInt32.toUInt16.toUInt32.toInt32 = Value.int v := h
  rw [← e]
  injection h'
theorem pp_tk_k {s s1 : pp_S} {t : Nat} (h : pp_tk ts s = some (.inr (t, s1))) : pp_k ts t = pp_at ts s := by
  rw [(pp_tk_e h).1]; rfl
theorem cl_64l (hts : pp_ok ts) (H : cq_H ts f0 f1 (ec_E (d + 6)) C) {Q : List (Int32 × List Int32)} : ∀ (m i : Nat) (p : Nat) (s : pp_S) (I A : ja_I) (J : ja_J), i + m = 160 → p ≤ 1 → cq ts f0 f1 Q (I, A, J) s → ∀ x, pp_w (fun _ s => some (pp_at ts s == 43 || pp_at ts s == 45)) (fun _ s => pp_b (pp_tk ts s) fun t s => pp_b (pp_c C 65 0 0 2 0 s) fun _ s => pp_b (pp_pf [pp_k ts t] s) fun _ s => pp_ret 0 s) m p s = some x → ∃ y, ja_R (ja_code tc_64) (ec_E (d + 6)) y 7 [some (.ref 22), some (.int (nI p)), some (.int (nI i)), none] [] (I, A, J) ∧ cq_o ts f0 f1 Q vI x y := by
  intro m
  induction m with
  | zero =>
    intro i p s I A J hi hp hw x hx
    simp only [pp_w] at hx
    refine cg_j (cg_t (nI_le (a := 160) (by omega) (by omega)) ?_) (fun y h => bc_64_7 h)
    cases hb : (pp_at ts s == 43 || pp_at ts s == 45) with
    | true => rw [hb] at hx; cases hx
    | false =>
      rw [hb] at hx
      cases hx
      exact cg_a (cn_01 hp) (cg_r ⟨rfl, hw⟩)
  | succ m ih =>
    intro i p s I A J hi hp hw x hx
    simp only [pp_w] at hx
    refine cg_j (cg_f (nI_ge (b := 160) (by omega) (by omega)) ?_) (fun y h => bc_64_7 h)
    by_cases ha : pp_at ts s = 43
    · rw [show (pp_at ts s == 43 || pp_at ts s == 45) = true by rw [ha]; rfl] at hx
      simp only at hx
      rw [pp_bb] at hx
      refine cg_s1 hw ha (cg_I (cl_33 hw) (cg_bI (cl_37 hts s) hw hx fun t s1 I1 A1 J1 hr1 hw1 hx => ?_))
      rw [pp_bb] at hx
      refine cg_bI (cq_c H.2.2.2.2.2.2.2.1 2 0 s1) hw1 hx fun _ s2 I2 A2 J2 _ hw2 hx => ?_
      rw [pp_bb, pp_tk_k hr1, ha] at hx
      rw [ha]
      refine cg_uV (cl_17 (by exact rfl) s2) hw2 hx fun _ s3 I3 A3 J3 _ hw3 hx => ?_
      rw [nI_1]
      exact ih (i + 1) 0 s3 I3 A3 J3 (by omega) (by omega) hw3 x hx
    · by_cases hb : pp_at ts s = 45
      · rw [show (pp_at ts s == 43 || pp_at ts s == 45) = true by rw [hb]; rfl] at hx
        simp only at hx
        rw [pp_bb] at hx
        refine cg_s0 hw ha (cg_s1 hw hb (cg_I (cl_33 hw) (cg_bI (cl_37 hts s) hw hx fun t s1 I1 A1 J1 hr1 hw1 hx => ?_)))
        rw [pp_bb] at hx
        refine cg_bI (cq_c H.2.2.2.2.2.2.2.1 2 0 s1) hw1 hx fun _ s2 I2 A2 J2 _ hw2 hx => ?_
        rw [pp_bb, pp_tk_k hr1, hb] at hx
        rw [hb]
        refine cg_uV (cl_17 (by exact rfl) s2) hw2 hx fun _ s3 I3 A3 J3 _ hw3 hx => ?_
        rw [nI_1]
        exact ih (i + 1) 0 s3 I3 A3 J3 (by omega) (by omega) hw3 x hx
      · rw [show (pp_at ts s == 43 || pp_at ts s == 45) = false by simp [ha, hb]] at hx
        cases hx
        exact cg_s0 hw ha (cg_s0 hw hb (cg_a (cn_01 hp) (cg_r ⟨rfl, hw⟩)))
theorem cl_64 (hts : pp_ok ts) (H : cq_H ts f0 f1 (ec_E (d + 6)) C) (s : pp_S) : cq_M ts f0 f1 (ec_E (d + 7)) 64 [.ref 22] vI s (pp_64 ts C 65 43 45 s) := by
  rintro Q ⟨I, A, J⟩ hw x hx
  refine cg_j ?_ (fun y h => ec_64 (r := y) h)
  unfold pp_64 at hx
  refine cg_bI (cq_c H.2.2.2.2.2.2.2.1 1 0 s) hw hx fun p s1 I1 A1 J1 _ hw1 hx => ?_
  unfold pp_01 at hx
  split at hx
  · rename_i hp
    exact cl_64l hts H 160 0 p s1 I1 A1 J1 (by omega) hp hw1 x hx
  · cases hx
theorem cl_65l (hts : pp_ok ts) (H : cq_H ts f0 f1 (ec_E (d + 6)) C) {Q : List (Int32 × List Int32)} : ∀ (m i : Nat) (p : Nat) (s : pp_S) (I A : ja_I) (J : ja_J), i + m = 160 → p ≤ 1 → cq ts f0 f1 Q (I, A, J) s → ∀ x, pp_w (fun _ s => some (pp_at ts s == 42 || pp_at ts s == 47)) (fun _ s => pp_b (pp_tk ts s) fun t s => pp_b (pp_c C 66 0 0 2 0 s) fun _ s => pp_b (pp_pf [pp_k ts t] s) fun _ s => pp_ret 0 s) m p s = some x → ∃ y, ja_R (ja_code tc_65) (ec_E (d + 6)) y 7 [some (.ref 22), some (.int (nI p)), some (.int (nI i)), none] [] (I, A, J) ∧ cq_o ts f0 f1 Q vI x y := by
  intro m
  induction m with
  | zero =>
    intro i p s I A J hi hp hw x hx
    simp only [pp_w] at hx
    refine cg_j (cg_t (nI_le (a := 160) (by omega) (by omega)) ?_) (fun y h => bc_65_7 h)
    cases hb : (pp_at ts s == 42 || pp_at ts s == 47) with
    | true => rw [hb] at hx; cases hx
    | false =>
      rw [hb] at hx
      cases hx
      exact cg_a (cn_01 hp) (cg_r ⟨rfl, hw⟩)
  | succ m ih =>
    intro i p s I A J hi hp hw x hx
    simp only [pp_w] at hx
    refine cg_j (cg_f (nI_ge (b := 160) (by omega) (by omega)) ?_) (fun y h => bc_65_7 h)
    by_cases ha : pp_at ts s = 42
    · rw [show (pp_at ts s == 42 || pp_at ts s == 47) = true by rw [ha]; rfl] at hx
      simp only at hx
      rw [pp_bb] at hx
      refine cg_s1 hw ha (cg_I (cl_33 hw) (cg_bI (cl_37 hts s) hw hx fun t s1 I1 A1 J1 hr1 hw1 hx => ?_))
      rw [pp_bb] at hx
      refine cg_bI (cq_c H.2.2.2.2.2.2.2.2.1 2 0 s1) hw1 hx fun _ s2 I2 A2 J2 _ hw2 hx => ?_
      rw [pp_bb, pp_tk_k hr1, ha] at hx
      rw [ha]
      refine cg_uV (cl_17 (by exact rfl) s2) hw2 hx fun _ s3 I3 A3 J3 _ hw3 hx => ?_
      rw [nI_1]
      exact ih (i + 1) 0 s3 I3 A3 J3 (by omega) (by omega) hw3 x hx
    · by_cases hb : pp_at ts s = 47
      · rw [show (pp_at ts s == 42 || pp_at ts s == 47) = true by rw [hb]; rfl] at hx
        simp only at hx
        rw [pp_bb] at hx
        refine cg_s0 hw ha (cg_s1 hw hb (cg_I (cl_33 hw) (cg_bI (cl_37 hts s) hw hx fun t s1 I1 A1 J1 hr1 hw1 hx => ?_)))
        rw [pp_bb] at hx
        refine cg_bI (cq_c H.2.2.2.2.2.2.2.2.1 2 0 s1) hw1 hx fun _ s2 I2 A2 J2 _ hw2 hx => ?_
        rw [pp_bb, pp_tk_k hr1, hb] at hx
        rw [hb]
        refine cg_uV (cl_17 (by exact rfl) s2) hw2 hx fun _ s3 I3 A3 J3 _ hw3 hx => ?_
        rw [nI_1]
        exact ih (i + 1) 0 s3 I3 A3 J3 (by omega) (by omega) hw3 x hx
      · rw [show (pp_at ts s == 42 || pp_at ts s == 47) = false by simp [ha, hb]] at hx
        cases hx
        exact cg_s0 hw ha (cg_s0 hw hb (cg_a (cn_01 hp) (cg_r ⟨rfl, hw⟩)))
theorem cl_65 (hts : pp_ok ts) (H : cq_H ts f0 f1 (ec_E (d + 6)) C) (s : pp_S) : cq_M ts f0 f1 (ec_E (d + 7)) 65 [.ref 22] vI s (pp_64 ts C 66 42 47 s) := by
  rintro Q ⟨I, A, J⟩ hw x hx
  refine cg_j ?_ (fun y h => ec_65 (r := y) h)
  unfold pp_64 at hx
  refine cg_bI (cq_c H.2.2.2.2.2.2.2.2.1 1 0 s) hw hx fun p s1 I1 A1 J1 _ hw1 hx => ?_
  unfold pp_01 at hx
  split at hx
  · rename_i hp
    exact cl_65l hts H 160 0 p s1 I1 A1 J1 (by omega) hp hw1 x hx
  · cases hx
theorem cl_71l (hts : pp_ok ts) (H : cq_H ts f0 f1 (ec_E (d + 6)) C) {Q : List (Int32 × List Int32)} : ∀ (m i : Nat) (p : Nat) (s : pp_S) (I A : ja_I) (J : ja_J), i + m = 160 → p ≤ 1 → cq ts f0 f1 Q (I, A, J) s → ∀ x, pp_w (fun _ s => some (pp_at ts s == 91 || pp_at ts s == 40)) (fun _ s => pp_b (if pp_at ts s = 91 then pp_c C 72 0 0 0 0 s else pp_c C 73 0 0 0 0 s) fun _ s => pp_ret 1 s) m p s = some x → ∃ y, ja_R (ja_code tc_71) (ec_E (d + 6)) y 7 [some (.ref 22), some (.int (nI p)), some (.int (nI i))] [] (I, A, J) ∧ cq_o ts f0 f1 Q vI x y := by
  intro m
  induction m with
  | zero =>
    intro i p s I A J hi hp hw x hx
    simp only [pp_w] at hx
    refine cg_j (cg_t (nI_le (a := 160) (by omega) (by omega)) ?_) (fun y h => bc_71_7 h)
    cases hb : (pp_at ts s == 91 || pp_at ts s == 40) with
    | true => rw [hb] at hx; cases hx
    | false =>
      rw [hb] at hx
      cases hx
      exact cg_a (cn_01 hp) (cg_r ⟨rfl, hw⟩)
  | succ m ih =>
    intro i p s I A J hi hp hw x hx
    simp only [pp_w] at hx
    refine cg_j (cg_f (nI_ge (b := 160) (by omega) (by omega)) ?_) (fun y h => bc_71_7 h)
    by_cases ha : pp_at ts s = 91
    · rw [show (pp_at ts s == 91 || pp_at ts s == 40) = true by rw [ha]; rfl] at hx
      simp only at hx
      rw [pp_bb, if_pos ha] at hx
      refine cg_s1 hw ha (cg_s1 hw ha (cg_bV (cq_c H.2.2.2.2.2.2.2.2.2.2.1 0 0 s) hw hx fun _ s1 I1 A1 J1 _ hw1 hx => ?_))
      rw [nI_1]
      exact ih (i + 1) 1 s1 I1 A1 J1 (by omega) (by omega) hw1 x hx
    · by_cases hb : pp_at ts s = 40
      · rw [show (pp_at ts s == 91 || pp_at ts s == 40) = true by rw [hb]; rfl] at hx
        simp only at hx
        rw [pp_bb, if_neg ha] at hx
        refine cg_s0 hw ha (cg_s1 hw hb (cg_s0 hw ha (cg_bV (cq_c H.2.2.2.2.2.2.2.2.2.2.2.1 0 0 s) hw hx fun _ s1 I1 A1 J1 _ hw1 hx => ?_)))
        rw [nI_1]
        exact ih (i + 1) 1 s1 I1 A1 J1 (by omega) (by omega) hw1 x hx
      · rw [show (pp_at ts s == 91 || pp_at ts s == 40) = false by simp [ha, hb]] at hx
        cases hx
        exact cg_s0 hw ha (cg_s0 hw hb (cg_a (cn_01 hp) (cg_r ⟨rfl, hw⟩)))
theorem cl_71 (hts : pp_ok ts) (H : cq_H ts f0 f1 (ec_E (d + 6)) C) (s : pp_S) : cq_M ts f0 f1 (ec_E (d + 7)) 71 [.ref 22] vI s (pp_71 ts C s) := by
  rintro Q ⟨I, A, J⟩ hw x hx
  refine cg_j ?_ (fun y h => ec_71 (r := y) h)
  unfold pp_71 at hx
  refine cg_bI (cq_c H.2.2.2.2.2.2.2.2.2.2.2.2.1 1 0 s) hw hx fun p s1 I1 A1 J1 _ hw1 hx => ?_
  unfold pp_01 at hx
  split at hx
  · rename_i hp
    exact cl_71l hts H 160 0 p s1 I1 A1 J1 (by omega) hp hw1 x hx
  · cases hx
theorem cl_72 (hts : pp_ok ts) (H : cq_H ts f0 f1 (ec_E (d + 6)) C) (s : pp_S) : cq_M ts f0 f1 (ec_E (d + 7)) 72 [.ref 22] vV s (pp_72 ts C s) := by
  rintro Q ⟨I, A, J⟩ hw x hx
  refine cg_j ?_ (fun y h => ec_72 (r := y) h)
  unfold pp_72 at hx
  refine cg_bI (cl_38 hts 91 s) hw hx fun _ s1 I1 A1 J1 _ hw1 hx => ?_
  refine cg_bV (cq_c H.2.2.2.2.2.1 4 0 s1) hw1 hx fun _ s2 I2 A2 J2 _ hw2 hx => ?_
  refine cg_bI (cl_38 hts 93 s2) hw2 hx fun _ s3 I3 A3 J3 _ hw3 hx => ?_
  exact cg_uw (cl_17 (by exact rfl) s3) hw3 hx
theorem cl_73t (hts : pp_ok ts) {a : Nat} {Q : List (Int32 × List Int32)} {s : pp_S} {I A : ja_I} {J : ja_J} (hw : cq ts f0 f1 Q (I, A, J) s) {x : Nat ⊕ (Nat × pp_S)} (hx : (pp_b (pp_ex ts 41 s) fun _ s => if a < 100 then pp_pf (40 :: (pp_dig a ++ [41])) s else none) = some x) : ∃ y : ja_O × ja_w, ((∃ (z1 : Int32) (I1 A1 : ja_I) (J1 : ja_J), ec_E (d + 6) 38 [.ref 20, .int 41] (I, A, J) (.inl (some (.int z1))) (I1, A1, J1) ∧ (∃ (I2 A2 : ja_I) (J2 : ja_J), ec_E (d + 6) 17 [.ref 4, .int 40] (I1, A1, J1) (.inl (none)) (I2, A2, J2) ∧ (∃ (I3 A3 : ja_I) (J3 : ja_J), ec_E (d + 6) 21 [.ref 4, .int (nI a)] (I2, A2, J2) (.inl (none)) (I3, A3, J3) ∧ (∃ (I4 A4 : ja_I) (J4 : ja_J), ec_E (d + 6) 17 [.ref 4, .int 41] (I3, A3, J3) (.inl (none)) (I4, A4, J4) ∧ (y = (.inl none, (I4, A4, J4))))))) ∨ (∃ (x5 : Nat) (w5 : ja_w), ec_E (d + 6) 38 [.ref 20, .int 41] (I, A, J) (.inr x5) w5 ∧ y = (.inr x5, w5))) ∧ cq_o ts f0 f1 Q vV x y := by
  refine cg_bI (cl_38 hts 41 s) hw hx fun _ s1 I1 A1 J1 _ hw1 hx => ?_
  split at hx
  · rename_i ha
    rw [pp_pf_c] at hx
    refine cg_uV (cl_17 (by exact rfl) s1) hw1 hx fun _ s2 I2 A2 J2 _ hw2 hx => ?_
    rw [pp_pf_a] at hx
    refine cg_uV (cl_21 ha s2) hw2 hx fun _ s3 I3 A3 J3 _ hw3 hx => ?_
    exact cg_uw (cl_17 (by exact rfl) s3) hw3 hx
  · cases hx
theorem cl_73l (hts : pp_ok ts) (H : cq_H ts f0 f1 (ec_E (d + 6)) C) {Q : List (Int32 × List Int32)} : ∀ (m i : Nat) (a : Nat) (s : pp_S) (I A : ja_I) (J : ja_J), i + m = 160 → cq ts f0 f1 Q (I, A, J) s → ∀ x, pp_b (pp_w (fun _ s => some (pp_at ts s == 44)) (fun n s => pp_b (pp_tk ts s) fun _ s => pp_b (pp_c C 63 0 0 3 0 s) fun _ s => pp_ret (n + 1) s) m a s) (fun n s => pp_b (pp_ex ts 41 s) fun _ s => if n < 100 then pp_pf (40 :: (pp_dig n ++ [41])) s else none) = some x → ∃ y, ja_R (ja_code tc_73) (ec_E (d + 6)) y 32 [some (.ref 22), some (.int (nI a)), some (.int (nI i))] [] (I, A, J) ∧ cq_o ts f0 f1 Q vV x y := by
  intro m
  induction m with
  | zero =>
    intro i a s I A J hi hw x hx
    simp only [pp_w] at hx
    refine cg_j (cg_t (nI_le (a := 160) (by omega) (by omega)) ?_) (fun y h => bc_73_32 h)
    cases hb : (pp_at ts s == 44) with
    | true => rw [hb] at hx; cases hx
    | false =>
      rw [hb] at hx
      exact cl_73t hts hw hx
  | succ m ih =>
    intro i a s I A J hi hw x hx
    simp only [pp_w] at hx
    refine cg_j (cg_f (nI_ge (b := 160) (by omega) (by omega)) ?_) (fun y h => bc_73_32 h)
    by_cases h44 : pp_at ts s = 44
    · rw [show (pp_at ts s == 44) = true by rw [h44]; rfl] at hx
      simp only at hx
      rw [pp_bb, pp_bb] at hx
      refine cg_s1 hw h44 (cg_bI (cl_37 hts s) hw hx fun _ s1 I1 A1 J1 _ hw1 hx => ?_)
      rw [pp_bb] at hx
      refine cg_bV (cq_c H.2.2.2.2.2.1 3 0 s1) hw1 hx fun _ s2 I2 A2 J2 _ hw2 hx => ?_
      rw [nI_1, nI_1]
      exact ih (i + 1) (a + 1) s2 I2 A2 J2 (by omega) hw2 x hx
    · rw [show (pp_at ts s == 44) = false from beq_eq_false_iff_ne.mpr h44] at hx
      exact cg_s0 hw h44 (cl_73t hts hw hx)
theorem cl_73 (hts : pp_ok ts) (H : cq_H ts f0 f1 (ec_E (d + 6)) C) (s : pp_S) : cq_M ts f0 f1 (ec_E (d + 7)) 73 [.ref 22] vV s (pp_73 ts C s) := by
  rintro Q ⟨I, A, J⟩ hw x hx
  refine cg_j ?_ (fun y h => ec_73 (r := y) h)
  unfold pp_73 at hx
  refine cg_bI (cl_38 hts 40 s) hw hx fun _ s1 I1 A1 J1 _ hw1 hx => ?_
  by_cases h : pp_at ts s1 = 41
  · rw [if_pos h] at hx
    exact cg_s1 hw1 h (cl_73t (a := 0) hts hw1 hx)
  · rw [if_neg h, pp_bb] at hx
    refine cg_s0 hw1 h (cg_bV (cq_c H.2.2.2.2.2.1 3 0 s1) hw1 hx fun _ s2 I2 A2 J2 _ hw2 hx => ?_)
    exact cl_73l hts H 160 0 1 s2 I2 A2 J2 (by omega) hw2 x hx
theorem cl_75 (hts : pp_ok ts) {t : Nat} (ht : t < ts.length) (s : pp_S) : cq_U ts f0 f1 (ec_E (d + 3)) 75 [.ref 22, .int (nI t)] vV s (pp_75 ts t s) := by
  refine cq_MU (pp_pf_n _ _) ?_
  rintro Q ⟨I, A, J⟩ hw x hx
  refine cg_j ?_ (fun y h => ec_75 (r := y) h)
  unfold pp_75 at hx
  rw [pp_pf_a] at hx
  refine cg_L (cl_23w hts hw ht) ?_
  refine cg_uV (cl_20 hts ht s) hw hx fun _ s2 I2 A2 J2 _ hw2 hx => ?_
  exact cg_uw (cl_17 (by exact rfl) s2) hw2 hx
theorem cl_74 (hts : pp_ok ts) (H : cq_H ts f0 f1 (ec_E (d + 6)) C) (s : pp_S) : cq_M ts f0 f1 (ec_E (d + 7)) 74 [.ref 22] vI s (pp_74 ts C s) := by
  rintro Q ⟨I, A, J⟩ hw x hx
  have e1 : I 20 1 = nI (pq_pos s) := hw.2.2.1.1
  refine cg_j ?_ (fun y h => ec_74 (r := y) h)
  unfold pp_74 at hx
  refine cg_I (cl_33 hw) ?_
  by_cases h40 : pp_at ts s = 40
  · rw [if_pos h40] at hx
    refine cg_f (fun c => absurd (h40.symm.trans c) (by decide)) (cg_t h40 ?_)
    refine cg_bI (cl_37 hts s) hw hx fun _ s1 I1 A1 J1 _ hw1 hx => ?_
    refine cg_bV (cq_c H.2.2.2.2.2.1 3 0 s1) hw1 hx fun _ s2 I2 A2 J2 _ hw2 hx => ?_
    refine cg_bI (cl_38 hts 41 s2) hw2 hx fun _ s3 I3 A3 J3 _ hw3 hx => ?_
    cases hx
    exact cg_r ⟨rfl, hw3⟩
  · rw [if_neg h40] at hx
    by_cases h2 : pp_at ts s = 2
    · rw [if_pos h2] at hx
      have ht : pq_pos s < ts.length := by
        refine Nat.lt_of_not_le fun hle => ?_
        have : pp_at ts s = 0 := pp_k_ge hle
        exact absurd (this.symm.trans h2) (by decide)
      refine cg_t h2 ?_
      rw [e1]
      cases hb : pp_mt ts s (pq_pos s) with
      | none => rw [hb] at hx; cases hx
      | some b =>
        rw [hb] at hx
        refine cg_I (cl_47 hts hw ht hb) ?_
        cases b with
        | false =>
          cases hx
          exact cg_x cl_36f ⟨rfl, hw.2.1.1, hw.2.1.2, e1⟩
        | true =>
          refine cg_l (cg_V cl_36t ?_)
          rw [e1]
          refine cg_uV (cl_49 hts ht s) hw hx fun _ s1 I1 A1 J1 _ hw1 hx => ?_
          refine cg_bI (cl_37 hts s1) hw1 hx fun t s2 I2 A2 J2 hr2 hw2 hx => ?_
          refine cg_uV (cl_75 hts (pp_tk_e hr2).2.1 s2) hw2 hx fun _ s3 I3 A3 J3 _ hw3 hx => ?_
          cases hx
          exact cg_r ⟨rfl, hw3⟩
    · rw [if_neg h2] at hx
      refine cg_f h2 (cg_f h40 ?_)
      refine cg_bI (cl_38 hts 3 s) hw hx fun t s2 I2 A2 J2 hr2 hw2 hx => ?_
      have ht : t < ts.length := by
        unfold pp_ex at hr2
        split at hr2
        · exact (pp_tk_e hr2).2.1
        · cases hr2
      refine cg_uV (cl_75 hts ht s2) hw2 hx fun _ s3 I3 A3 J3 _ hw3 hx => ?_
      cases hx
      exact cg_r ⟨rfl, hw3⟩
end
