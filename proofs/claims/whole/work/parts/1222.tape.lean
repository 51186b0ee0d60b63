theorem cq_MU {ts : List pp_T} {f0 f1 : Nat → Int32} {E : ja_C} {j : Nat} {as : List Value} {vf : Nat → Option Value} {s : pp_S} {r : pp_R Nat} (h : ∀ p, r ≠ some (.inl p)) (M : cq_M ts f0 f1 E j as vf s r) : cq_U ts f0 f1 E j as vf s r := by
  refine ⟨h, fun Q w hw v s1 hr => ?_⟩
  obtain ⟨⟨o, I1, A1, J1⟩, hE, ho⟩ := M Q w hw _ hr
  obtain ⟨h1, h2⟩ := ho
  obtain rfl : o = .inl (vf v) := h1
  exact ⟨I1, A1, J1, hE, h2⟩
theorem cq_UM {ts : List pp_T} {f0 f1 : Nat → Int32} {E : ja_C} {j : Nat} {as : List Value} {vf : Nat → Option Value} {s : pp_S} {r : pp_R Nat} (U : cq_U ts f0 f1 E j as vf s r) : cq_M ts f0 f1 E j as vf s r := by
  intro Q w hw x hx
  cases x with
  | inl p => exact absurd hx (U.1 p)
  | inr z =>
    obtain ⟨I1, A1, J1, hE, ho⟩ := U.2 Q w hw z.1 z.2 hx
    exact ⟨(.inl (vf z.1), I1, A1, J1), hE, rfl, ho⟩
theorem pp_pf_n (l : List Int32) (s : pp_S) (p : Nat) : pp_pf l s ≠ some (.inl p) := by
  obtain ⟨pos, op, cc, tn, tl, wt, pn, scs, sd, sig, frm, rl, mn, dc, fc⟩ := s
  intro h; simp only [pp_pf] at h; split at h <;> cases h
theorem pp_pt_n (l : List Int32) (s : pp_S) (p : Nat) : pp_pt l s ≠ some (.inl p) := by
  obtain ⟨pos, op, cc, tn, tl, wt, pn, scs, sd, sig, frm, rl, mn, dc, fc⟩ := s
  intro h; simp only [pp_pt] at h; split at h <;> cases h
theorem pp_pf_c (c : Int32) (l : List Int32) (s : pp_S) : pp_pf (c :: l) s = pp_b (pp_pf [c] s) (fun _ s => pp_pf l s) := by
  obtain ⟨pos, op, cc, tn, tl, wt, pn, scs, sd, sig, frm, rl, mn, dc, fc⟩ := s
  simp only [pp_pf, List.length_cons, List.length_nil]
  by_cases h : frm.length + (l.length + 1) ≤ 640
  · rw [if_pos h, if_pos (by omega)]
    simp only [pp_b]
    rw [if_pos (by rw [List.length_append]; simp only [List.length_cons, List.length_nil]; omega), List.append_assoc]; rfl
  · rw [if_neg h]
    by_cases h1 : frm.length + (0 + 1) ≤ 640
    · rw [if_pos h1]
      simp only [pp_b]
      rw [if_neg (by rw [List.length_append]; simp only [List.length_cons, List.length_nil]; omega)]
    · rw [if_neg h1]; rfl
theorem pp_pt_c (c : Int32) (l : List Int32) (s : pp_S) : pp_pt (c :: l) s = pp_b (pp_pt [c] s) (fun _ s => pp_pt l s) := by
  obtain ⟨pos, op, cc, tn, tl, wt, pn, scs, sd, sig, frm, rl, mn, dc, fc⟩ := s
  simp only [pp_pt, List.length_cons, List.length_nil]
  by_cases h : tn + (l.length + 1) ≤ 640
  · rw [if_pos h, if_pos (by omega)]
    simp only [pp_b]
    rw [if_pos (by omega), List.append_assoc, show tn + (0 + 1) + l.length = tn + (l.length + 1) by omega]; rfl
  · rw [if_neg h]
    by_cases h1 : tn + (0 + 1) ≤ 640
    · rw [if_pos h1]
      simp only [pp_b]
      rw [if_neg (by omega)]
    · rw [if_neg h1]; rfl
theorem pp_pf_a (l m : List Int32) (s : pp_S) : pp_pf (l ++ m) s = pp_b (pp_pf l s) (fun _ s => pp_pf m s) := by
  obtain ⟨pos, op, cc, tn, tl, wt, pn, scs, sd, sig, frm, rl, mn, dc, fc⟩ := s
  simp only [pp_pf, List.length_append]
  by_cases h : frm.length + (l.length + m.length) ≤ 640
  · rw [if_pos h, if_pos (by omega)]
    simp only [pp_b]
    rw [if_pos (by rw [List.length_append]; omega), List.append_assoc]
  · rw [if_neg h]
    by_cases h1 : frm.length + l.length ≤ 640
    · rw [if_pos h1]
      simp only [pp_b]
      rw [if_neg (by rw [List.length_append]; omega)]
    · rw [if_neg h1]; rfl
theorem pp_pt_a (l m : List Int32) (s : pp_S) : pp_pt (l ++ m) s = pp_b (pp_pt l s) (fun _ s => pp_pt m s) := by
  obtain ⟨pos, op, cc, tn, tl, wt, pn, scs, sd, sig, frm, rl, mn, dc, fc⟩ := s
  simp only [pp_pt, List.length_append]
  by_cases h : tn + (l.length + m.length) ≤ 640
  · rw [if_pos h, if_pos (by omega)]
    simp only [pp_b]
    rw [if_pos (by omega), List.append_assoc, show tn + l.length + m.length = tn + (l.length + m.length) by omega]
  · rw [if_neg h]
    by_cases h1 : tn + l.length ≤ 640
    · rw [if_pos h1]
      simp only [pp_b]
      rw [if_neg (by omega)]
    · rw [if_neg h1]; rfl
theorem pp_pf_0 {ts : List pp_T} {f0 f1 : Nat → Int32} {Q : List (Int32 × List Int32)} {w : ja_w} {s : pp_S} (hw : cq ts f0 f1 Q w s) : pp_pf [] s = some (.inr (0, s)) := by
  obtain ⟨pos, op, cc, tn, tl, wt, pn, scs, sd, sig, frm, rl, mn, dc, fc⟩ := s
  have : frm.length ≤ 640 := hw.2.2.2.1.2.1
  simp only [pp_pf, List.length_nil, List.append_nil]
  rw [if_pos (by omega)]
theorem pp_pt_0 {ts : List pp_T} {f0 f1 : Nat → Int32} {Q : List (Int32 × List Int32)} {w : ja_w} {s : pp_S} (hw : cq ts f0 f1 Q w s) : pp_pt [] s = some (.inr (0, s)) := by
  obtain ⟨pos, op, cc, tn, tl, wt, pn, scs, sd, sig, frm, rl, mn, dc, fc⟩ := s
  have : tn ≤ 640 := hw.2.2.2.2.1.2.1
  simp only [pp_pt, List.length_nil, List.append_nil, Nat.add_zero]
  rw [if_pos (by omega)]
theorem cq_Fp {n c : Int32} {f : Nat → Int32} {l : List Int32} {k : Nat} (h : cq_F n f l) (hc : cq_ch c) (hl : l.length < 640) (hk : k = l.length) : cq_F (n + 1) (fun i => cond (Nat.beq i k) (vp_nar .char c) (f i)) (l ++ [c]) := by
  obtain ⟨h1, h2, h3, h4⟩ := h
  rw [cq_chn hc]
  refine ⟨by rw [h1, nI_1, List.length_append]; rfl, by rw [List.length_append]; simp only [List.length_cons, List.length_nil]; omega, cq_ha.mpr ⟨cq_hu h3 (by omega), cq_h1 (by omega)⟩, fun x hx => ?_⟩
  rcases List.mem_append.mp hx with h | h
  · exact h4 x h
  · rw [List.mem_singleton.mp h]; exact hc
theorem cq_Yp {n c : Int32} {f : Nat → Int32} {sig : List Int32} {tn k : Nat} (h : cq_Y n f tn sig) (hc : cq_ch c) (hl : tn < 640) (hk : k = tn) : cq_Y (n + 1) (fun i => cond (Nat.beq i k) (vp_nar .char c) (f i)) (tn + 1) (sig ++ [c]) := by
  obtain ⟨h1, h2, h3, h4, h5⟩ := h
  rw [cq_chn hc]
  have e : (sig ++ [c]).length = sig.length + 1 := by rw [List.length_append]; rfl
  refine ⟨by rw [h1, nI_1], by omega, by omega, ?_, ?_⟩
  · rw [e, show tn + 1 - (sig.length + 1) = tn - sig.length by omega]
    exact cq_ha.mpr ⟨cq_hu h4 (by omega), cq_h1 (by omega)⟩
  · intro x hx
    rcases List.mem_append.mp hx with h | h
    · exact h5 x h
    · rw [List.mem_singleton.mp h]; exact hc
theorem cq_Gp {f : Nat → Int32} {tn k : Nat} {a b v : Int32} {ty : List Int32} (h : cq_G f tn a b ty) (hk : k = tn) : cq_G (fun i => cond (Nat.beq i k) v (f i)) (tn + 1) a b ty := by
  obtain ⟨st, h1, h2, h3, h4, h5⟩ := h
  exact ⟨st, h1, h2, by omega, cq_hu h4 (by omega), h5⟩
theorem cq_Np {ts : List pp_T} {n v : Int32} {a11 a12 a13 a14 a15 a16 f : Nat → Int32} {tn k : Nat} {dc : List pp_D} (h : cq_N ts n a11 a12 a13 a14 a15 a16 f tn dc) (hk : k = tn) : cq_N ts n a11 a12 a13 a14 a15 a16 (fun i => cond (Nat.beq i k) v (f i)) (tn + 1) dc := by
  refine ⟨h.1, h.2.1, fun k x hx => ?_⟩
  obtain ⟨a, b, c, d, e, g⟩ := h.2.2 k x hx
  exact ⟨a, b, c, d, cq_Gp e hk, g⟩
theorem cq_Qp {a23 a24 a25 f : Nat → Int32} {tn k : Nat} {v : Int32} (hk : k = tn) : ∀ {Q : List (Int32 × List Int32)}, cq_Q a23 a24 a25 f tn Q → cq_Q a23 a24 a25 (fun i => cond (Nat.beq i k) v (f i)) (tn + 1) Q
  | [], _ => trivial
  | _ :: _, h => ⟨h.1, fun e => cq_Gp (h.2.1 e) hk, h.2.2.1, cq_Qp hk h.2.2.2⟩
section
variable {ts : List pp_T} {f0 f1 : Nat → Int32} {d : Nat}
theorem cl_17x {c : Int32} (hc : cq_ch c) {s s1 : pp_S} {v : Nat} {Q : List (Int32 × List Int32)} {I A : ja_I} {J : ja_J} (hw : cq ts f0 f1 Q (I, A, J) s) (hr : pp_pf [c] s = some (.inr (v, s1))) : ∃ (I1 A1 : ja_I) (J1 : ja_J), (ec_E (d + 1) 17 [.ref 4, .int c] (I, A, J) (.inl none) (I1, A1, J1) ∧ A1 19 = A 19 ∧ pq_tn s1 = pq_tn s) ∧ cq ts f0 f1 Q (I1, A1, J1) s1 := by
  obtain ⟨pos, op, cc, tn, tl, wt, pn, scs, sd, sig, frm, rl, mn, dc, fc⟩ := s
  obtain ⟨hT, h0, hP, hF, hY, hN, hS, hL, hQ⟩ := hw
  simp only [pp_pf, List.length_cons, List.length_nil] at hr
  split at hr
  · rename_i hb
    cases hr
    have e : I 4 1 = nI frm.length := hF.1
    refine ⟨_, _, _, ⟨ec_17 (r := (_, _)) ⟨fun h => absurd h ?_, fun _ => ⟨?_, rfl⟩⟩, rfl, rfl⟩, hT, h0, hP, ?_, hY, hN, hS, hL, hQ⟩
    · rw [e]; exact nI_ge (b := 640) (by omega) (by omega)
    · exact cn_in e (by omega) (by omega)
    · exact cq_Fp hF hc (by omega) (cn_cl e (by omega))
  · cases hr
theorem cl_17 {c : Int32} (hc : cq_ch c) (s : pp_S) : cq_U ts f0 f1 (ec_E (d + 1)) 17 [.ref 4, .int c] vV s (pp_pf [c] s) := by
  refine ⟨pp_pf_n _ _, ?_⟩
  rintro Q ⟨I, A, J⟩ hw v s1 hr
  obtain ⟨I1, A1, J1, h, k⟩ := cl_17x (d := d) hc hw hr
  exact ⟨I1, A1, J1, h.1, k⟩
theorem cl_17t {c : Int32} (hc : cq_ch c) (s : pp_S) : cq_U ts f0 f1 (ec_E (d + 1)) 17 [.ref 8, .int c] vV s (pp_pt [c] s) := by
  refine ⟨pp_pt_n _ _, ?_⟩
  obtain ⟨pos, op, cc, tn, tl, wt, pn, scs, sd, sig, frm, rl, mn, dc, fc⟩ := s
  rintro Q ⟨I, A, J⟩ hw v s1 hr
  obtain ⟨hT, h0, hP, hF, hY, hN, hS, hL, hQ⟩ := hw
  simp only [pp_pt, List.length_cons, List.length_nil] at hr
  split at hr
  · rename_i hb
    cases hr
    have e : I 8 1 = nI tn := hY.1
    have ek : (I 8 1).toNatClampNeg = tn := cn_cl e (by omega)
    refine ⟨_, _, _, ec_17t (r := (_, _)) ⟨fun h => absurd h ?_, fun _ => ⟨?_, rfl⟩⟩, hT, h0, hP, hF, ?_, ?_, hS, hL, hQ.1, hQ.2.1, hQ.2.2.1, ?_⟩
    · rw [e]; exact nI_ge (b := 640) (by omega) (by omega)
    · exact cn_in e (by omega) (by omega)
    · exact cq_Yp hY hc (by omega) ek
    · exact cq_Np hN ek
    · exact cq_Qp ek hQ.2.2.2
  · cases hr
theorem cl_18l {c : Int32} (hc : cq_ch c) {n : Nat} (hn : n < 2 ^ 31) {Q : List (Int32 × List Int32)} : ∀ (m i : Nat) (s : pp_S) (I A : ja_I) (J : ja_J), i + m = n → cq ts f0 f1 Q (I, A, J) s → ∀ x, pp_pf (List.replicate m c) s = some x → ∃ y, ja_R (ja_code tc_18) (ec_E (d + 1)) y 2 [some (.ref 4), some (.int c), some (.int (nI n)), some (.int (nI i))] [] (I, A, J) ∧ cq_o ts f0 f1 Q vV x y := by
  intro m
  induction m with
  | zero =>
    intro i s I A J hi hw x hx
    rw [List.replicate_zero, pp_pf_0 hw] at hx
    cases hx
    exact cg_j (cg_t (nI_le (by omega) (by omega)) (cg_r ⟨rfl, hw⟩)) (fun y h => bc_18_2 h)
  | succ m ih =>
    intro i s I A J hi hw x hx
    rw [List.replicate_succ, pp_pf_c] at hx
    refine cg_j (cg_f (nI_ge (by omega) (by omega)) (cg_uV (cl_17 hc s) hw hx fun v s1 I1 A1 J1 _ hw1 hk => ?_)) (fun y h => bc_18_2 h)
    rw [nI_1]
    exact ih (i + 1) s1 I1 A1 J1 (by omega) hw1 x hk
theorem cl_18 {c : Int32} (hc : cq_ch c) {n : Nat} (hn : n < 2 ^ 31) (s : pp_S) : cq_U ts f0 f1 (ec_E (d + 2)) 18 [.ref 4, .int c, .int (nI n)] vV s (pp_pf (List.replicate n c) s) := by
  refine cq_MU (pp_pf_n _ _) ?_
  rintro Q ⟨I, A, J⟩ hw x hx
  exact cg_j (cl_18l hc hn n 0 s I A J (by omega) hw x hx) (fun y h => ec_18 (r := y) h)
theorem cl_18tl {c : Int32} (hc : cq_ch c) {n : Nat} (hn : n < 2 ^ 31) {Q : List (Int32 × List Int32)} : ∀ (m i : Nat) (s : pp_S) (I A : ja_I) (J : ja_J), i + m = n → cq ts f0 f1 Q (I, A, J) s → ∀ x, pp_pt (List.replicate m c) s = some x → ∃ y, ja_R (ja_code tc_18) (ec_E (d + 1)) y 2 [some (.ref 8), some (.int c), some (.int (nI n)), some (.int (nI i))] [] (I, A, J) ∧ cq_o ts f0 f1 Q vV x y := by
  intro m
  induction m with
  | zero =>
    intro i s I A J hi hw x hx
    rw [List.replicate_zero, pp_pt_0 hw] at hx
    cases hx
    exact cg_j (cg_t (nI_le (by omega) (by omega)) (cg_r ⟨rfl, hw⟩)) (fun y h => bc_18t_2 h)
  | succ m ih =>
    intro i s I A J hi hw x hx
    rw [List.replicate_succ, pp_pt_c] at hx
    refine cg_j (cg_f (nI_ge (by omega) (by omega)) (cg_uV (cl_17t hc s) hw hx fun v s1 I1 A1 J1 _ hw1 hk => ?_)) (fun y h => bc_18t_2 h)
    rw [nI_1]
    exact ih (i + 1) s1 I1 A1 J1 (by omega) hw1 x hk
theorem cl_18t {c : Int32} (hc : cq_ch c) {n : Nat} (hn : n < 2 ^ 31) (s : pp_S) : cq_U ts f0 f1 (ec_E (d + 2)) 18 [.ref 8, .int c, .int (nI n)] vV s (pp_pt (List.replicate n c) s) := by
  refine cq_MU (pp_pt_n _ _) ?_
  rintro Q ⟨I, A, J⟩ hw x hx
  exact cg_j (cl_18tl hc hn n 0 s I A J (by omega) hw x hx) (fun y h => ec_18t (r := y) h)
/-- the cell of a tape that holds l at st -/
theorem cl_16t {I A : ja_I} {J : ja_J} {tn i : Nat} {c : Int32} (hn : I 8 1 = nI tn) (ht : tn ≤ 640) (hi : i < tn) (hv : A 19 i = c) (hc : cq_ch c) : ec_E (d + 1) 16 [.ref 8, .int (nI i)] (I, A, J) (.inl (some (.int c))) (I, A, J) := by
  have e : (nI i).toNatClampNeg = i := nI_clamp (by omega)
  refine ec_16t (r := (_, _)) ⟨fun h => absurd h (nI_pos (by omega)), fun _ => ⟨fun h => absurd h ?_, fun _ => ⟨vp_in_nI (by omega) (by omega), ?_, ?_⟩⟩⟩
  · rw [hn]; exact nI_ge hi (by omega)
  · rw [e, hv]; exact hc
  · rw [e, hv]
theorem cl_19l {Q : List (Int32 × List Int32)} {st : Nat} {ty : List Int32} (hch : ∀ c ∈ ty, cq_ch c) : ∀ (m i : Nat) (s : pp_S) (I A : ja_I) (J : ja_J), i + m = ty.length → st + ty.length ≤ pq_tn s → cq_h (A 19) st ty → cq ts f0 f1 Q (I, A, J) s → ∀ x, pp_pf (ty.drop i) s = some x → ∃ y, ja_R (ja_code tc_19) (ec_E (d + 1)) y 3 [some (.ref 4), some (.ref 8), none, some (.int (nI (st + ty.length))), some (.int (nI (st + i)))] [] (I, A, J) ∧ cq_o ts f0 f1 Q vV x y := by
  intro m
  induction m with
  | zero =>
    intro i s I A J hi hst hh hw x hx
    have h640 : pq_tn s ≤ 640 := hw.2.2.2.2.1.2.1
    rw [List.drop_of_length_le (by omega), pp_pf_0 hw] at hx
    cases hx
    exact cg_j (cg_t (nI_le (by omega) (by omega)) (cg_r ⟨rfl, hw⟩)) (fun y h => bc_19_3 h)
  | succ m ih =>
    intro i s I A J hi hst hh hw x hx
    have h640 : pq_tn s ≤ 640 := hw.2.2.2.2.1.2.1
    have hil : i < ty.length := by omega
    rw [List.drop_eq_getElem_cons hil, pp_pf_c] at hx
    have hc : cq_ch ty[i] := hch _ (List.getElem_mem hil)
    have hv : A 19 (st + i) = ty[i] := by
      rw [hh i hil, gd_e hil]
    have hn : I 8 1 = nI (pq_tn s) := hw.2.2.2.2.1.1
    rcases pp_bE hx with ⟨p, hr, hp⟩ | ⟨v, s1, hr, hk⟩
    · exact absurd hr (pp_pf_n _ _ _)
    · obtain ⟨I1, A1, J1, ⟨hE, e19, etn⟩, hw1⟩ := cl_17x (d := d) hc hw hr
      refine cg_j (cg_f (nI_ge (by omega) (by omega)) (cg_I (cl_16t hn h640 (by omega) hv hc) (cg_V hE ?_))) (fun y h => bc_19_3 h)
      rw [nI_1, show st + i + 1 = st + (i + 1) by omega]
      exact ih (i + 1) s1 I1 A1 J1 (by omega) (by omega) (by rw [e19]; exact hh) hw1 x hk
theorem cl_19 {st : Nat} {ty : List Int32} {a b : Int32} {s : pp_S} {Q : List (Int32 × List Int32)} {I A : ja_I} {J : ja_J} (hG : cq_G (A 19) (pq_tn s) a b ty) (hw : cq ts f0 f1 Q (I, A, J) s) {x : Nat ⊕ (Nat × pp_S)} (hx : pp_pf ty s = some x) : ∃ y : ja_O × ja_w, ec_E (d + 2) 19 [.ref 4, .ref 8, .int a, .int b] (I, A, J) y.1 y.2 ∧ cq_o ts f0 f1 Q vV x y := by
  obtain ⟨st, rfl, rfl, h3, h4, h5⟩ := hG
  exact cg_j (cl_19l h5 ty.length 0 s I A J (by omega) h3 h4 hw x hx) (fun y h => ec_19 (r := y) h)
/-- a character of a packed word -/
theorem cl_12 {v : Int64} {i : Nat} {w : ja_w} {c : Int32} (h : cq_by v (nI i) = c) (hc : cq_ch c) : ec_E (d + 1) 12 [.long v, .int (nI i)] w (.inl (some (.int c))) w := by
  subst h
  obtain ⟨I, A, J⟩ := w
  exact ec_12 (r := (_, _)) ⟨hc, rfl⟩
theorem cq_ch0 : cq_ch 0 := rfl
theorem cl_20l {Q : List (Int32 × List Int32)} {t : Nat} (hts : pp_ok ts) (ht : t < ts.length) : ∀ (m i : Nat) (s : pp_S) (I A : ja_I) (J : ja_J), i + m = 8 → cq ts f0 f1 Q (I, A, J) s → ∀ x, pp_pf ((pp_cs ts t).drop i) s = some x → ∃ y, ja_R (ja_code tc_20) (ec_E (d + 1)) y 2 [some (.ref 4), some (.long (pp_wd ts t)), none, some (.int (nI i)), none] [] (I, A, J) ∧ cq_o ts f0 f1 Q vV x y := by
  obtain ⟨_, _, _, h8, hcs, hby, _⟩ := hts.2 t ht
  intro m
  induction m with
  | zero =>
    intro i s I A J hi hw x hx
    rw [List.drop_of_length_le (by omega), pp_pf_0 hw] at hx
    cases hx
    exact cg_j (cg_t (nI_le (a := 8) (by omega) (by omega)) (cg_r ⟨rfl, hw⟩)) (fun y h => bc_20_2 h)
  | succ m ih =>
    intro i s I A J hi hw x hx
    by_cases hil : i < (pp_cs ts t).length
    · have hm : (pp_cs ts t)[i] ∈ pp_cs ts t := List.getElem_mem hil
      have hc : cq_ch (pp_cs ts t)[i] := (hcs _ hm).1
      have hv : cq_by (pp_wd ts t) (nI i) = (pp_cs ts t)[i] := by
        rw [hby i (by omega), gd_e hil]
      rw [List.drop_eq_getElem_cons hil, pp_pf_c] at hx
      refine cg_j (cg_f (nI_ge (b := 8) (by omega) (by omega)) (cg_I (cl_12 hv hc) (cg_f (hcs _ hm).2 (cg_uV (cl_17 hc s) hw hx fun v s1 I1 A1 J1 hr hw1 hk => ?_)))) (fun y h => bc_20_2 h)
      rw [nI_1]
      exact ih (i + 1) s1 I1 A1 J1 (by omega) hw1 x hk
    · have hv : cq_by (pp_wd ts t) (nI i) = 0 := by
        rw [hby i (by omega), gd_d (by omega)]
      rw [List.drop_of_length_le (by omega)] at hx
      refine cg_j (cg_f (nI_ge (b := 8) (by omega) (by omega)) (cg_I (cl_12 hv cq_ch0) (cg_t rfl ?_))) (fun y h => bc_20_2 h)
      rw [nI_1]
      exact ih (i + 1) s I A J (by omega) hw x (by rw [List.drop_of_length_le (by omega)]; exact hx)
theorem cl_20 {t : Nat} (hts : pp_ok ts) (ht : t < ts.length) (s : pp_S) : cq_U ts f0 f1 (ec_E (d + 2)) 20 [.ref 4, .long (pp_wd ts t)] vV s (pp_pf (pp_cs ts t) s) := by
  refine cq_MU (pp_pf_n _ _) ?_
  rintro Q ⟨I, A, J⟩ hw x hx
  exact cg_j (cl_20l hts ht 8 0 s I A J (by omega) hw x hx) (fun y h => ec_20 (r := y) h)
theorem cl_20tl {Q : List (Int32 × List Int32)} {t : Nat} (hts : pp_ok ts) (ht : t < ts.length) : ∀ (m i : Nat) (s : pp_S) (I A : ja_I) (J : ja_J), i + m = 8 → cq ts f0 f1 Q (I, A, J) s → ∀ x, pp_pt ((pp_cs ts t).drop i) s = some x → ∃ y, ja_R (ja_code tc_20) (ec_E (d + 1)) y 2 [some (.ref 8), some (.long (pp_wd ts t)), none, some (.int (nI i)), none] [] (I, A, J) ∧ cq_o ts f0 f1 Q vV x y := by
  obtain ⟨_, _, _, h8, hcs, hby, _⟩ := hts.2 t ht
  intro m
  induction m with
  | zero =>
    intro i s I A J hi hw x hx
    rw [List.drop_of_length_le (by omega), pp_pt_0 hw] at hx
    cases hx
    exact cg_j (cg_t (nI_le (a := 8) (by omega) (by omega)) (cg_r ⟨rfl, hw⟩)) (fun y h => bc_20t_2 h)
  | succ m ih =>
    intro i s I A J hi hw x hx
    by_cases hil : i < (pp_cs ts t).length
    · have hm : (pp_cs ts t)[i] ∈ pp_cs ts t := List.getElem_mem hil
      have hc : cq_ch (pp_cs ts t)[i] := (hcs _ hm).1
      have hv : cq_by (pp_wd ts t) (nI i) = (pp_cs ts t)[i] := by
        rw [hby i (by omega), gd_e hil]
      rw [List.drop_eq_getElem_cons hil, pp_pt_c] at hx
      refine cg_j (cg_f (nI_ge (b := 8) (by omega) (by omega)) (cg_I (cl_12 hv hc) (cg_f (hcs _ hm).2 (cg_uV (cl_17t hc s) hw hx fun v s1 I1 A1 J1 hr hw1 hk => ?_)))) (fun y h => bc_20t_2 h)
      rw [nI_1]
      exact ih (i + 1) s1 I1 A1 J1 (by omega) hw1 x hk
    · have hv : cq_by (pp_wd ts t) (nI i) = 0 := by
        rw [hby i (by omega), gd_d (by omega)]
      rw [List.drop_of_length_le (by omega)] at hx
      refine cg_j (cg_f (nI_ge (b := 8) (by omega) (by omega)) (cg_I (cl_12 hv cq_ch0) (cg_t rfl ?_))) (fun y h => bc_20t_2 h)
      rw [nI_1]
      exact ih (i + 1) s I A J (by omega) hw x (by rw [List.drop_of_length_le (by omega)]; exact hx)
theorem cl_20t {t : Nat} (hts : pp_ok ts) (ht : t < ts.length) (s : pp_S) : cq_U ts f0 f1 (ec_E (d + 2)) 20 [.ref 8, .long (pp_wd ts t)] vV s (pp_pt (pp_cs ts t) s) := by
  refine cq_MU (pp_pt_n _ _) ?_
  rintro Q ⟨I, A, J⟩ hw x hx
  exact cg_j (cl_20tl hts ht 8 0 s I A J (by omega) hw x hx) (fun y h => ec_20t (r := y) h)
/-! counts -/
theorem cn_d1 : ∀ n, n < 100 → (((48 + (nI n - nI n / 10 * 10)).toUInt32 % 65536).toInt32) = nI (48 + n % 10) := by decide +kernel
theorem cn_d2 : ∀ n, n < 100 → (((48 + ((nI n / 10) - (nI n / 10) / 10 * 10)).toUInt32 % 65536).toInt32) = nI (48 + n / 10) := by decide +kernel
theorem cn_dc : ∀ n, n < 100 → narrow .char (.int (nI (48 + n))) = .int (nI (48 + n)) := by decide +kernel
theorem cl_21 {n : Nat} (hn : n < 100) (s : pp_S) : cq_U ts f0 f1 (ec_E (d + 2)) 21 [.ref 4, .int (nI n)] vV s (pp_pf (pp_dig n) s) := by
  refine cq_MU (pp_pf_n _ _) ?_
  rintro Q ⟨I, A, J⟩ hw x hx
  refine cg_j ?_ (fun y h => ec_21 (r := y) h)
  rw [cn_d1 n hn, cn_d2 n hn]
  unfold pp_dig at hx
  by_cases h : 10 ≤ n
  · rw [if_pos h] at hx
    rw [pp_pf_c] at hx
    refine cg_f (nI_nlt (b := 10) h (by omega)) (cg_uV (cl_17 (cn_dc _ (by omega)) s) hw hx fun v s1 I1 A1 J1 hr hw1 hk => cg_uw (cl_17 (cn_dc _ (by omega)) s1) hw1 hk)
  · rw [if_neg h] at hx
    have e : n % 10 = n := Nat.mod_eq_of_lt (by omega)
    rw [e]
    exact cg_t (nI_lt (b := 10) (by omega) (by omega)) (cg_uw (cl_17 (cn_dc _ (by omega)) s) hw hx)
theorem cl_21t {n : Nat} (hn : n < 100) (s : pp_S) : cq_U ts f0 f1 (ec_E (d + 2)) 21 [.ref 8, .int (nI n)] vV s (pp_pt (pp_dig n) s) := by
  refine cq_MU (pp_pt_n _ _) ?_
  rintro Q ⟨I, A, J⟩ hw x hx
  refine cg_j ?_ (fun y h => ec_21t (r := y) h)
  rw [cn_d1 n hn, cn_d2 n hn]
  unfold pp_dig at hx
  by_cases h : 10 ≤ n
  · rw [if_pos h] at hx
    rw [pp_pt_c] at hx
    refine cg_f (nI_nlt (b := 10) h (by omega)) (cg_uV (cl_17t (cn_dc _ (by omega)) s) hw hx fun v s1 I1 A1 J1 hr hw1 hk => cg_uw (cl_17t (cn_dc _ (by omega)) s1) hw1 hk)
  · rw [if_neg h] at hx
    have e : n % 10 = n := Nat.mod_eq_of_lt (by omega)
    rw [e]
    exact cg_t (nI_lt (b := 10) (by omega) (by omega)) (cg_uw (cl_17t (cn_dc _ (by omega)) s) hw hx)
end
