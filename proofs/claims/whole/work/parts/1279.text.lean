/-! type and cut on both sides -/
def tyb (c : Nat) : Bool := Nat.beq c 10 || (Nat.ble 32 c && Nat.ble c 126)
def typs (v : Int64) : Nat → Bool
  | 0 => true
  | m + 1 => typs v m && tyb (lb v m)
def lbs (v : Int64) (m : Nat) : List Nat := (List.range m).map (lb v)
theorem typs_i {v : Int64} : ∀ {m : Nat}, typs v m = true → ∀ i, i < m → tyb (lb v i) = true
  | 0, _, i, h => absurd h (Nat.not_lt_zero i)
  | m + 1, h, i, hi => by
    have h' : (typs v m && tyb (lb v m)) = true := h
    rw [Bool.and_eq_true] at h'
    by_cases e : i = m
    · rw [e]; exact h'.2
    · exact typs_i h'.1 i (by omega)
theorem typs_f {v : Int64} : ∀ {m : Nat}, (∀ i, i < m → tyb (lb v i) = true) → typs v m = true
  | 0, _ => rfl
  | m + 1, h => by
    show (typs v m && tyb (lb v m)) = true
    rw [Bool.and_eq_true]
    exact ⟨typs_f (fun i hi => h i (by omega)), h m (by omega)⟩
theorem lbs_l (v : Int64) (m : Nat) : (lbs v m).length = m := by unfold lbs; rw [List.length_map, List.length_range]
theorem lbs_s (v : Int64) (m : Nat) : lbs v (m + 1) = lbs v m ++ [lb v m] := by
  unfold lbs; rw [List.range_succ, List.map_append]; rfl
theorem ch_c2 : ∀ m, m < 256 → (nI m).toUInt32.toUInt16.toUInt32.toInt32 = nI m := by decide +kernel
theorem cq_ch2 {m : Nat} (hm : m < 256) : cq_ch (nI m) := by
  show Value.int (nI m).toUInt32.toUInt16.toUInt32.toInt32 = .int (nI m)
  rw [ch_c2 m hm]
theorem tyb_c : ∀ m, m < 256 → (nI m = 10 → tyb m = true) ∧ (¬ nI m = 10 → (nI m < 32 → tyb m = false) ∧ (¬ nI m < 32 → (126 < nI m → tyb m = false) ∧ (¬ 126 < nI m → tyb m = true))) := by decide +kernel
theorem tyb_r : ∀ m, m < 256 → tyb m = true → 1 ≤ m ∧ m < 128 := by decide +kernel
/-- what type makes of the text -/
def a_tp (tx : List Nat) (v : Int64) (a : Int32) : Option (List Nat) := if a < 1 ∨ 8 < a ∨ 160 < tx.length + a.toNatClampNeg ∨ typs v a.toNatClampNeg = false then none else some (tx ++ lbs v a.toNatClampNeg)
theorem txA_p {tx : List Nat} {f : Nat → Int32} {c : Nat} (h : txA tx f) {z : Int32} (hz : z = nI c) {k : Nat} (hk : k = tx.length) : txA (tx ++ [c]) (fun i => cond (Nat.beq i k) z (f i)) := by
  intro i hi
  rw [List.length_append] at hi
  have hi' : i < tx.length + 1 := hi
  rw [List.getD_eq_getElem?_getD]
  show cond (Nat.beq i k) z (f i) = _
  by_cases e : i = tx.length
  · rw [e, hk, Nat.beq_refl, List.getElem?_append_right (Nat.le_refl _), Nat.sub_self]; exact hz
  · rw [hk, show Nat.beq i tx.length = false by exact nb_f e, List.getElem?_append_left (by omega), ← List.getD_eq_getElem?_getD]
    exact h i (by omega)
section
variable {d : Nat} {I A : ja_I} {J : ja_J} {tx : List Nat} {t : Int32} {n : Nat} {rl mn : Nat → Int32} {dc : List pp_D} {frm : List Int32} {v : Int64} {m : Nat}
theorem cv_12 {i : Nat} (hi : i < 8) {w : ja_w} : ec_E (d + 1) 12 [.long v, .int (nI i)] w (.inl (some (.int (nI (lb v i))))) w := cl_12 (by_lb v hi) (cq_ch2 (lb_lt v i))
theorem cv_13 {b : Nat} (hb : b < 256) {w : ja_w} : ec_E (d + 1) 13 [.int (nI b)] w (.inl (some (.int (bI (tyb b))))) w := by
  obtain ⟨I, A, J⟩ := w
  have h := tyb_c b hb
  refine ec_13 (r := (_, _)) ⟨fun h1 => ?_, fun h1 => ⟨fun h2 => ?_, fun h2 => ⟨fun h3 => ?_, fun h3 => ?_⟩⟩⟩
  · rw [h.1 h1]; rfl
  · rw [(h.2 h1).1 h2]; rfl
  · rw [((h.2 h1).2 h2).1 h3]; rfl
  · rw [((h.2 h1).2 h2).2 h3]; rfl
theorem cv_28 (hm : m ≤ 8) : ∀ (k i : Nat), i + k = m → (∀ j, j < i → tyb (lb v j) = true) → (typs v m = true → ∀ r, ja_R (ja_code tc_0) (ec_E (d + 1)) r 57 [some (.ref 0), some (.long v), none, some (.int (nI m)), some (.int 0)] [] (I, A, J) → ja_R (ja_code tc_0) (ec_E (d + 1)) r 28 [some (.ref 0), some (.long v), none, some (.int (nI m)), some (.int (nI i))] [] (I, A, J)) ∧ (typs v m = false → ja_R (ja_code tc_0) (ec_E (d + 1)) (.inl (some (.int 0)), (I, A, J)) 28 [some (.ref 0), some (.long v), none, some (.int (nI m)), some (.int (nI i))] [] (I, A, J))
  | 0, i, hi, h => by
    obtain rfl : i = m := by omega
    refine ⟨fun _ r hr => bc_0_28 ⟨fun _ => hr, fun n => absurd (nI_le (Nat.le_refl _) (by omega)) n⟩, fun hf => ?_⟩
    rw [typs_f h] at hf
    cases hf
  | k + 1, i, hi, h => by
    have nle : ¬ nI m ≤ nI i := nI_ge (by omega) (by omega)
    have h13 := cv_13 (d := d) (lb_lt v i) (w := (I, A, J))
    cases hb : tyb (lb v i) with
    | true =>
      rw [hb] at h13
      have ih := cv_28 hm k (i + 1) (by omega) (fun j hj => by
        by_cases e : j = i
        · rw [e]; exact hb
        · exact h j (by omega))
      refine ⟨fun ht r hr => bc_0_28 ⟨fun n => absurd n nle, fun _ => ⟨_, I, A, J, cv_12 (by omega), _, I, A, J, h13, fun n => absurd n (by decide), fun _ => ?_⟩⟩, fun hf => bc_0_28 ⟨fun n => absurd n nle, fun _ => ⟨_, I, A, J, cv_12 (by omega), _, I, A, J, h13, fun n => absurd n (by decide), fun _ => ?_⟩⟩⟩
      · rw [nI_1]; exact ih.1 ht r hr
      · rw [nI_1]; exact ih.2 hf
    | false =>
      rw [hb] at h13
      refine ⟨fun ht => ?_, fun _ => bc_0_28 ⟨fun n => absurd n nle, fun _ => ⟨_, I, A, J, cv_12 (by omega), _, I, A, J, h13, fun _ => rfl, fun n => absurd rfl n⟩⟩⟩
      rw [typs_i ht i (by omega)] at hb
      cases hb
/-- what type leaves alone -/
theorem cV_t {tx' : List Nat} {I1 A1 : ja_I} (h : cV (tx, t, n, rl, mn, dc, frm) (I, A, J)) (ho : txO tx') (h1 : I1 0 1 = nI tx'.length) (h2 : txA tx' (A1 1)) (hI : ∀ p k, ¬ (p = 0 ∧ k = 1) → I1 p k = I p k) (hA : ∀ p, p ≠ 1 → A1 p = A p) : cV (tx', t, n, rl, mn, dc, frm) (I1, A1, J) := by
  obtain ⟨_, a2, a3, a4, a5, a6, tn, a7, a8, a9⟩ := h
  refine ⟨⟨ho, h1, h2⟩, ?_, ?_, ?_, ?_, a6, tn, a7, ?_, ?_⟩
  · show I1 0 3 = t
    rw [hI 0 3 (by omega)]; exact a2
  · show I1 0 2 = nI n ∧ n ≤ 160 ∧ ∀ i, i < n → A1 9 i = rl i ∧ A1 10 i = mn i
    rw [hI 0 2 (by omega), hA 9 (by decide), hA 10 (by decide)]; exact a3
  · show cq_F (I1 4 1) (A1 18) frm
    rw [hI 4 1 (by omega), hA 18 (by decide)]; exact a4
  · show I1 3 4 = nI dc.length
    rw [hI 3 4 (by omega)]; exact a5
  · show dc = [] ∨ I1 8 1 = nI tn
    rw [hI 8 1 (by omega)]; exact a8
  · show ∀ k x, dc[k]? = some x → A1 11 k = nI x.1 ∧ A1 12 k = nI x.2.2.1 ∧ A1 15 k = nI x.2.2.2.1 ∧ cq_G (A1 19) tn (A1 13 k) (A1 14 k) x.2.2.2.2
    rw [hA 11 (by decide), hA 12 (by decide), hA 15 (by decide), hA 19 (by decide), hA 13 (by decide), hA 14 (by decide)]; exact a9
theorem up_n {f : ja_I} {p k q j : Nat} {z : Int32} (h : ¬ (q = p ∧ j = k)) : ja_up f p k z q j = f q j := by
  show cond (Nat.beq q p && Nat.beq j k) z (f q j) = f q j
  by_cases e : q = p
  · rw [show Nat.beq j k = false by exact nb_f (fun e2 => h ⟨e, e2⟩), Bool.and_false]; rfl
  · rw [show Nat.beq q p = false by exact nb_f e]; rfl
theorem up_p {f : ja_I} {p k q : Nat} {z : Int32} (h : q ≠ p) : ja_up f p k z q = f q := by
  funext j
  exact up_n (fun e => h e.1)
theorem cv_57 (hm : m ≤ 8) (hl : tx.length + m ≤ 160) (hty : typs v m = true) : ∀ (k i : Nat) (I A : ja_I), i + k = m → I 0 1 = nI (tx ++ lbs v i).length → txA (tx ++ lbs v i) (A 1) → ∃ (I1 A1 : ja_I), ja_R (ja_code tc_0) (ec_E (d + 1)) (.inl (some (.int 1)), (I1, A1, J)) 57 [some (.ref 0), some (.long v), none, some (.int (nI m)), some (.int (nI i))] [] (I, A, J) ∧ I1 0 1 = nI (tx ++ lbs v m).length ∧ txA (tx ++ lbs v m) (A1 1) ∧ (∀ p k, ¬ (p = 0 ∧ k = 1) → I1 p k = I p k) ∧ ∀ p, p ≠ 1 → A1 p = A p
  | 0, i, I, A, hi, h1, h2 => by
    obtain rfl : i = m := by omega
    exact ⟨I, A, bc_0_57 ⟨fun _ => rfl, fun n => absurd (nI_le (Nat.le_refl _) (by omega)) n⟩, h1, h2, fun _ _ _ => rfl, fun _ _ => rfl⟩
  | k + 1, i, I, A, hi, h1, h2 => by
    have nle : ¬ nI m ≤ nI i := nI_ge (by omega) (by omega)
    have el : (tx ++ lbs v i).length = tx.length + i := by rw [List.length_append, lbs_l]
    have h1' : I 0 1 = nI (tx.length + i) := by rw [h1, el]
    have ck : (I 0 1).toNatClampNeg = tx.length + i := by rw [h1', nI_clamp (by omega)]
    have ea : tx ++ lbs v (i + 1) = (tx ++ lbs v i) ++ [lb v i] := by rw [lbs_s, List.append_assoc]
    obtain ⟨I1, A1, k1, k2, k3, k4, k5⟩ := cv_57 hm hl hty k (i + 1) (ja_up I 0 1 (I 0 1 + 1)) (ja_up A 1 (I 0 1).toNatClampNeg (vp_nar .char (nI (lb v i)))) (by omega) (by
      show I 0 1 + 1 = _
      rw [h1', nI_1, List.length_append, lbs_l]; rfl) (by
      rw [ea]
      exact txA_p h2 (cq_chn (cq_ch2 (lb_lt v i))) (by rw [ck, el]))
    refine ⟨I1, A1, bc_0_57 ⟨fun n => absurd n nle, fun _ => ⟨_, I, A, J, cv_12 (by omega), ?_, ?_⟩⟩, k2, k3, fun p q h => ?_, fun p h => ?_⟩
    · rw [h1']; exact vp_in_nI (by omega) (by omega)
    · rw [nI_1]; exact k1
    · rw [k4 p q h]; exact up_n h
    · rw [k5 p h]; exact up_p h
theorem txO_a (h : txO tx) (hl : tx.length + m ≤ 160) (hty : typs v m = true) : txO (tx ++ lbs v m) := by
  refine ⟨by rw [List.length_append, lbs_l]; exact hl, fun c hc => ?_⟩
  rcases List.mem_append.mp hc with h1 | h1
  · exact h.2 c h1
  · obtain ⟨i, hi, rfl⟩ := List.mem_map.mp h1
    exact tyb_r _ (lb_lt v i) (typs_i hty i (List.mem_range.mp hi))
/-- type, the class -/
theorem cv_0 (h : cV (tx, t, n, rl, mn, dc, frm) (I, A, J)) (v : Int64) (a : Int32) : ∃ (I1 A1 : ja_I) (J1 : ja_J), ec_E (d + 2) 0 [.ref 0, .long v, .int a] (I, A, J) (.inl (some (.int (bI (a_tp tx v a).isSome)))) (I1, A1, J1) ∧ cV ((a_tp tx v a).getD tx, t, n, rl, mn, dc, frm) (I1, A1, J1) := by
  have e : I 0 1 = nI tx.length := h.1.2.1
  have ho : txO tx := h.1.1
  have h160 := ho.1
  unfold a_tp
  by_cases h1 : a < 1
  · rw [if_pos (Or.inl h1)]
    exact ⟨I, A, J, ec_0 (r := (_, _)) ⟨fun _ => rfl, fun n => absurd h1 n⟩, h⟩
  by_cases h8 : 8 < a
  · rw [if_pos (Or.inr (Or.inl h8))]
    exact ⟨I, A, J, ec_0 (r := (_, _)) ⟨fun n => absurd n h1, fun _ => ⟨fun _ => rfl, fun n => absurd h8 n⟩⟩, h⟩
  obtain ⟨m, hm, rfl⟩ := nI_of (x := a) (fun n => h1 (Int32.lt_trans n (by decide)))
  have hm8 : m ≤ 8 := by
    have := (nI_leI (b := 8) hm (by decide)).mp (Int32.not_lt.mp h8)
    exact this
  rw [nI_clamp hm]
  by_cases hs : tx.length + m ≤ 160
  · have hle : I 0 1 + nI m ≤ 160 := by rw [e, nI_add]; exact nI_le (b := 160) hs (by decide)
    have h28 := cv_28 (d := d) (v := v) (I := I) (A := A) (J := J) hm8 m 0 (by omega) (fun j hj => absurd hj (Nat.not_lt_zero j))
    cases hty : typs v m with
    | true =>
      rw [if_neg (fun c => by
        rcases c with c | c | c | c
        · exact h1 c
        · exact h8 c
        · omega
        · cases c)]
      obtain ⟨I1, A1, k1, k2, k3, k4, k5⟩ := cv_57 (d := d) (J := J) hm8 hs hty m 0 I A (by omega) (by show I 0 1 = nI (tx ++ []).length; rw [List.append_nil]; exact e) (by show txA (tx ++ []) (A 1); rw [List.append_nil]; exact h.1.2.2)
      exact ⟨I1, A1, J, ec_0 (r := (_, _)) ⟨fun n => absurd n h1, fun _ => ⟨fun n => absurd n h8, fun _ => ⟨fun _ => h28.1 hty _ k1, fun n => absurd hle n⟩⟩⟩, cV_t h (txO_a ho hs hty) k2 k3 k4 k5⟩
    | false =>
      rw [if_pos (Or.inr (Or.inr (Or.inr rfl)))]
      exact ⟨I, A, J, ec_0 (r := (_, _)) ⟨fun n => absurd n h1, fun _ => ⟨fun n => absurd n h8, fun _ => ⟨fun _ => h28.2 hty, fun n => absurd hle n⟩⟩⟩, h⟩
  · have hle : ¬ I 0 1 + nI m ≤ 160 := by rw [e, nI_add]; exact nI_ge (a := 160) (by omega) (by omega)
    rw [if_pos (Or.inr (Or.inr (Or.inl (by omega))))]
    exact ⟨I, A, J, ec_0 (r := (_, _)) ⟨fun n => absurd n h1, fun _ => ⟨fun n => absurd n h8, fun _ => ⟨fun n => absurd n hle, fun _ => rfl⟩⟩⟩, h⟩
/-- cut, the class -/
def a_cu (tx : List Nat) (a : Int32) : Option (List Nat) := if a < 0 ∨ nI tx.length < a then none else some (tx.take a.toNatClampNeg)
theorem txA_k {f : Nat → Int32} (h : txA tx f) (k : Nat) : txA (tx.take k) f := by
  intro i hi
  rw [List.length_take] at hi
  rw [h i (by omega), List.getD_eq_getElem?_getD, List.getD_eq_getElem?_getD, List.getElem?_take, if_pos (by omega)]
theorem txO_k (h : txO tx) (k : Nat) : txO (tx.take k) := ⟨by rw [List.length_take]; have := h.1; omega, fun c hc => h.2 c (List.mem_of_mem_take hc)⟩
theorem cv_1 (h : cV (tx, t, n, rl, mn, dc, frm) (I, A, J)) (a : Int32) : ∃ (I1 A1 : ja_I) (J1 : ja_J), ec_E (d + 1) 1 [.ref 0, .int a] (I, A, J) (.inl (some (.int (bI (a_cu tx a).isSome)))) (I1, A1, J1) ∧ cV ((a_cu tx a).getD tx, t, n, rl, mn, dc, frm) (I1, A1, J1) := by
  have e : I 0 1 = nI tx.length := h.1.2.1
  have ho : txO tx := h.1.1
  have h160 := ho.1
  unfold a_cu
  by_cases h0 : a < 0
  · rw [if_pos (Or.inl h0)]
    exact ⟨I, A, J, ec_1 (r := (_, _)) ⟨fun _ => rfl, fun n => absurd h0 n⟩, h⟩
  by_cases h1 : nI tx.length < a
  · rw [if_pos (Or.inr h1)]
    exact ⟨I, A, J, ec_1 (r := (_, _)) ⟨fun n => absurd n h0, fun _ => ⟨fun n => absurd n (by rw [e]; exact Int32.not_le.mpr h1), fun _ => rfl⟩⟩, h⟩
  obtain ⟨k, hk, rfl⟩ := nI_of h0
  have hkl : k ≤ tx.length := (nI_leI hk (by omega)).mp (Int32.not_lt.mp h1)
  rw [if_neg (fun c => c.elim h0 h1), nI_clamp hk]
  refine ⟨_, _, _, ec_1 (r := (_, _)) ⟨fun n => absurd n h0, fun _ => ⟨fun _ => rfl, fun n => absurd (by rw [e]; exact Int32.not_lt.mp h1) n⟩⟩, ?_⟩
  refine cV_t h (txO_k ho k) ?_ (txA_k h.1.2.2 k) (fun p q hn => up_n hn) (fun _ _ => rfl)
  show nI k = nI (tx.take k).length
  rw [List.length_take, Nat.min_eq_left hkl]
/-! the reference -/
theorem rV_t {tx' : List Nat} {I1 A1 : ja_I} (h : rV (tx, t, n, rl, mn, dc, frm) (I, A, J)) (h1 : I1 0 2 = nI tx'.length) (h2 : txA tx' (A1 1)) (hI : ∀ k, k ≠ 2 → k ≠ 0 → I1 0 k = I 0 k) (hA : ∀ p, p ≠ 1 → A1 p = A p) : rV (tx', t, n, rl, mn, dc, frm) (I1, A1, J) := by
  obtain ⟨_, a2, a3, a4, a5, a6, a7⟩ := h
  refine ⟨⟨h1, h2⟩, ?_, ?_, ?_, ?_, a6, ?_⟩
  · show I1 0 10 = t
    rw [hI 10 (by decide) (by decide)]; exact a2
  · show ((I1 0 11 = 0 ∧ n = 0) ∨ (I1 0 11 = 1 ∧ I1 0 3 = nI n)) ∧ ∀ i, i < n → A1 5 i = rl i ∧ A1 6 i = mn i
    rw [hI 11 (by decide) (by decide), hI 3 (by decide) (by decide), hA 5 (by decide), hA 6 (by decide)]; exact a3
  · show I1 0 38 = nI frm.length ∧ cq_h (A1 20) 0 frm
    rw [hI 38 (by decide) (by decide), hA 20 (by decide)]; exact a4
  · show I1 0 20 = nI dc.length
    rw [hI 20 (by decide) (by decide)]; exact a5
  · show ∀ k x, dc[k]? = some x → A1 10 k = nI x.1 ∧ A1 12 k = nI x.2.2.1 ∧ A1 13 k = nI x.2.2.2.1 ∧ A1 14 k = nI (pp_tt (dc.take k)) ∧ A1 15 k = nI x.2.2.2.2.length ∧ cq_h (A1 16) (pp_tt (dc.take k)) x.2.2.2.2
    rw [hA 10 (by decide), hA 12 (by decide), hA 13 (by decide), hA 14 (by decide), hA 15 (by decide), hA 16 (by decide)]; exact a7
theorem rv_2z {C : ja_C} (m i : Int32) : ja_R (ja_code tr_2) C (.inl (some (.int 0)), (I, A, J)) 37 [some (.ref 0), some (.long v), none, some (.int m), some (.int 0), some (.int i), none] [] (I, A, J) := by
  have h99 : ja_R (ja_code tr_2) C (.inl (some (.int 0)), (I, A, J)) 99 [some (.ref 0), some (.long v), none, some (.int m), some (.int 0), some (.int 0), none] [] (I, A, J) := br_2_99 ⟨fun _ => ⟨Or.inl rfl, rfl⟩, fun _ => ⟨fun _ => ⟨Or.inl rfl, rfl⟩, fun n => absurd rfl n⟩⟩
  exact br_2_37 ⟨fun _ => h99, fun _ => ⟨fun _ => h99, fun n => absurd rfl n⟩⟩
theorem rv_37 {C : ja_C} (hm : m ≤ 8) : ∀ (k i : Nat), i + k = m → (∀ j, j < i → tyb (lb v j) = true) → (typs v m = true → ∀ r, ja_R (ja_code tr_2) C r 99 [some (.ref 0), some (.long v), none, some (.int (nI m)), some (.int 1), some (.int 0), none] [] (I, A, J) → ja_R (ja_code tr_2) C r 37 [some (.ref 0), some (.long v), none, some (.int (nI m)), some (.int 1), some (.int (nI i)), none] [] (I, A, J)) ∧ (typs v m = false → ja_R (ja_code tr_2) C (.inl (some (.int 0)), (I, A, J)) 37 [some (.ref 0), some (.long v), none, some (.int (nI m)), some (.int 1), some (.int (nI i)), none] [] (I, A, J))
  | 0, i, hi, h => by
    obtain rfl : i = m := by omega
    refine ⟨fun _ r hr => br_2_37 ⟨fun _ => hr, fun n => absurd (nI_le (Nat.le_refl _) (by omega)) n⟩, fun hf => ?_⟩
    rw [typs_f h] at hf
    cases hf
  | k + 1, i, hi, h => by
    have nle : ¬ nI m ≤ nI i := nI_ge (by omega) (by omega)
    have es := sar_lb v (i := i) (by omega)
    have hc := tyb_c _ (lb_lt v i)
    cases hb : tyb (lb v i) with
    | true =>
      rw [hb] at hc
      have ih := rv_37 (C := C) hm k (i + 1) (by omega) (fun j hj => by
        by_cases e : j = i
        · rw [e]; exact hb
        · exact h j (by omega))
      have step : ∀ r, ja_R (ja_code tr_2) C r 37 [some (.ref 0), some (.long v), none, some (.int (nI m)), some (.int 1), some (.int (nI i + 1)), none] [] (I, A, J) → ja_R (ja_code tr_2) C r 37 [some (.ref 0), some (.long v), none, some (.int (nI m)), some (.int 1), some (.int (nI i)), none] [] (I, A, J) := by
        intro r hr
        refine br_2_37 ⟨fun n => absurd n nle, fun _ => ⟨fun n => absurd n (by decide), fun _ => ?_⟩⟩
        rw [es]
        exact ⟨fun _ => hr, fun h1 => ⟨fun h2 => absurd ((hc.2 h1).1 h2) (by decide), fun h2 => ⟨fun h3 => absurd (((hc.2 h1).2 h2).1 h3) (by decide), fun _ => hr⟩⟩⟩
      exact ⟨fun ht r hr => step r (by rw [nI_1]; exact ih.1 ht r hr), fun hf => step _ (by rw [nI_1]; exact ih.2 hf)⟩
    | false =>
      rw [hb] at hc
      refine ⟨fun ht => ?_, fun _ => br_2_37 ⟨fun n => absurd n nle, fun _ => ⟨fun n => absurd n (by decide), fun _ => ?_⟩⟩⟩
      · rw [typs_i ht i (by omega)] at hb
        cases hb
      · rw [es]
        exact ⟨fun h1 => absurd (hc.1 h1) (by decide), fun h1 => ⟨fun _ => rv_2z _ _, fun h2 => ⟨fun _ => rv_2z _ _, fun h3 => absurd (((hc.2 h1).2 h2).2 h3) (by decide)⟩⟩⟩
theorem rv_99 {C : ja_C} (hm : m ≤ 8) (hl : tx.length + m ≤ 160) : ∀ (k i : Nat) (I A : ja_I), i + k = m → I 0 2 = nI (tx ++ lbs v i).length → txA (tx ++ lbs v i) (A 1) → ∃ (I1 A1 : ja_I), ja_R (ja_code tr_2) C (.inl (some (.int 1)), (I1, A1, J)) 99 [some (.ref 0), some (.long v), none, some (.int (nI m)), some (.int 1), some (.int (nI i)), none] [] (I, A, J) ∧ I1 0 2 = nI (tx ++ lbs v m).length ∧ txA (tx ++ lbs v m) (A1 1) ∧ (∀ k, k ≠ 2 → I1 0 k = I 0 k) ∧ ∀ p, p ≠ 1 → A1 p = A p
  | 0, i, I, A, hi, h1, h2 => by
    obtain rfl : i = m := by omega
    exact ⟨I, A, br_2_99 ⟨fun _ => ⟨Or.inr rfl, rfl⟩, fun n => absurd (nI_le (Nat.le_refl _) (by omega)) n⟩, h1, h2, fun _ _ => rfl, fun _ _ => rfl⟩
  | k + 1, i, I, A, hi, h1, h2 => by
    have nle : ¬ nI m ≤ nI i := nI_ge (by omega) (by omega)
    have el : (tx ++ lbs v i).length = tx.length + i := by rw [List.length_append, lbs_l]
    have h1' : I 0 2 = nI (tx.length + i) := by rw [h1, el]
    have ck : (I 0 2).toNatClampNeg = tx.length + i := by rw [h1', nI_clamp (by omega)]
    have ea : tx ++ lbs v (i + 1) = (tx ++ lbs v i) ++ [lb v i] := by rw [lbs_s, List.append_assoc]
    have es := sar_lb v (i := i) (by omega)
    obtain ⟨I1, A1, k1, k2, k3, k4, k5⟩ := rv_99 (C := C) hm hl k (i + 1) (ja_up I 0 2 (I 0 2 + 1)) (ja_up A 1 (I 0 2).toNatClampNeg (nI (lb v i))) (by omega) (by
      show I 0 2 + 1 = _
      rw [h1', nI_1, List.length_append, lbs_l]; rfl) (by
      rw [ea]
      exact txA_p h2 rfl (by rw [ck, el]))
    refine ⟨I1, A1, br_2_99 ⟨fun n => absurd n nle, fun _ => ⟨fun n => absurd n (by decide), fun _ => ⟨?_, ?_⟩⟩⟩, k2, k3, fun q h => ?_, fun p h => ?_⟩
    · rw [h1']; exact vp_in_nI (by omega) (by omega)
    · rw [es, nI_1 i]; exact k1
    · rw [k4 q h]; exact up_n (fun e => h e.2)
    · rw [k5 p h]; exact up_p h
theorem rv_2 (h : rV (tx, t, n, rl, mn, dc, frm) (I, A, J)) (h160 : tx.length ≤ 160) (v : Int64) (a : Int32) : ∃ (I1 A1 : ja_I) (J1 : ja_J), er_E (d + 1) 2 [.ref 0, .long v, .int a] (I, A, J) (.inl (some (.int (bI (a_tp tx v a).isSome)))) (I1, A1, J1) ∧ rV ((a_tp tx v a).getD tx, t, n, rl, mn, dc, frm) (I1, A1, J1) ∧ I1 0 0 = 0 := by
  have e : I 0 2 = nI tx.length := h.1.1
  have h0 : rV (tx, t, n, rl, mn, dc, frm) (ja_up I 0 0 0, A, J) := rV_0 h
  unfold a_tp
  by_cases h1 : a < 1
  · rw [if_pos (Or.inl h1)]
    have h1' : a ≤ 0 := by
      rw [Int32.le_iff_toInt_le]
      have := Int32.lt_iff_toInt_lt.mp h1
      have e1 : (1 : Int32).toInt = 1 := by decide
      have e0 : (0 : Int32).toInt = 0 := by decide
      omega
    exact ⟨_, _, _, er_2 (r := (_, _)) ⟨fun _ => rv_2z a 0, fun n => absurd h1' n⟩, h0, rfl⟩
  have h1' : ¬ a ≤ 0 := fun c => h1 (by
    rw [Int32.lt_iff_toInt_lt]
    have := Int32.le_iff_toInt_le.mp c
    have e1 : (1 : Int32).toInt = 1 := by decide
    have e0 : (0 : Int32).toInt = 0 := by decide
    omega)
  by_cases h8 : 8 < a
  · rw [if_pos (Or.inr (Or.inl h8))]
    have h9 : 9 ≤ a := by
      rw [Int32.le_iff_toInt_le]
      have := Int32.lt_iff_toInt_lt.mp h8
      have e1 : (8 : Int32).toInt = 8 := by decide
      have e0 : (9 : Int32).toInt = 9 := by decide
      omega
    exact ⟨_, _, _, er_2 (r := (_, _)) ⟨fun n => absurd n h1', fun _ => ⟨fun _ => rv_2z a 0, fun n => absurd h9 n⟩⟩, h0, rfl⟩
  have h9 : ¬ 9 ≤ a := fun c => h8 (Int32.lt_of_lt_of_le (by decide) c)
  obtain ⟨m, hm, rfl⟩ := nI_of (x := a) (fun n => h1 (Int32.lt_trans n (by decide)))
  have hm8 : m ≤ 8 := by
    have := (nI_leI (b := 8) hm (by decide)).mp (Int32.not_lt.mp h8)
    exact this
  rw [nI_clamp hm]
  by_cases hs : tx.length + m ≤ 160
  · have hle : ¬ 160 < I 0 2 + nI m := by rw [e, nI_add]; exact nI_nlt (a := 160) hs (by decide)
    have h28 := rv_37 (C := er_E d) (v := v) (I := ja_up I 0 0 0) (A := A) (J := J) hm8 m 0 (by omega) (fun j hj => absurd hj (Nat.not_lt_zero j))
    cases hty : typs v m with
    | true =>
      rw [if_neg (fun c => by
        rcases c with c | c | c | c
        · exact h1 c
        · exact h8 c
        · omega
        · cases c)]
      obtain ⟨I1, A1, k1, k2, k3, k4, k5⟩ := rv_99 (C := er_E d) (v := v) (J := J) hm8 hs m 0 (ja_up I 0 0 0) A (by omega) (by show I 0 2 = nI (tx ++ []).length; rw [List.append_nil]; exact e) (by show txA (tx ++ []) (A 1); rw [List.append_nil]; exact h.1.2)
      exact ⟨I1, A1, J, er_2 (r := (_, _)) ⟨fun n => absurd n h1', fun _ => ⟨fun n => absurd n h9, fun _ => ⟨fun n => absurd n hle, fun _ => h28.1 hty _ k1⟩⟩⟩, rV_t h k2 k3 (fun k a b => (k4 k a).trans (up_n (fun e => b e.2))) k5, k4 0 (by decide)⟩
    | false =>
      rw [if_pos (Or.inr (Or.inr (Or.inr rfl)))]
      exact ⟨_, _, _, er_2 (r := (_, _)) ⟨fun n => absurd n h1', fun _ => ⟨fun n => absurd n h9, fun _ => ⟨fun n => absurd n hle, fun _ => h28.2 hty⟩⟩⟩, h0, rfl⟩
  · have hle : 160 < I 0 2 + nI m := by rw [e, nI_add]; exact nI_lt (a := 160) (by omega) (by omega)
    rw [if_pos (Or.inr (Or.inr (Or.inl (by omega))))]
    exact ⟨_, _, _, er_2 (r := (_, _)) ⟨fun n => absurd n h1', fun _ => ⟨fun n => absurd n h9, fun _ => ⟨fun _ => rv_2z _ 0, fun n => absurd hle n⟩⟩⟩, h0, rfl⟩
theorem rv_3 (h : rV (tx, t, n, rl, mn, dc, frm) (I, A, J)) (h160 : tx.length ≤ 160) (a : Int32) : ∃ (I1 A1 : ja_I) (J1 : ja_J), er_E (d + 1) 3 [.ref 0, .int a] (I, A, J) (.inl (some (.int (bI (a_cu tx a).isSome)))) (I1, A1, J1) ∧ rV ((a_cu tx a).getD tx, t, n, rl, mn, dc, frm) (I1, A1, J1) ∧ I1 0 0 = 0 := by
  have e : I 0 2 = nI tx.length := h.1.1
  have hz : rV (tx, t, n, rl, mn, dc, frm) (ja_up I 0 0 0, A, J) := rV_0 h
  unfold a_cu
  by_cases h0 : a < 0
  · rw [if_pos (Or.inl h0)]
    exact ⟨_, _, _, er_3 (r := (_, _)) ⟨fun _ => rfl, fun n => absurd h0 n⟩, hz, rfl⟩
  by_cases h1 : nI tx.length < a
  · rw [if_pos (Or.inr h1)]
    exact ⟨_, _, _, er_3 (r := (_, _)) ⟨fun n => absurd n h0, fun _ => ⟨fun n => absurd n (by rw [e]; exact Int32.not_le.mpr h1), fun _ => rfl⟩⟩, hz, rfl⟩
  obtain ⟨k, hk, rfl⟩ := nI_of h0
  have hkl : k ≤ tx.length := (nI_leI hk (by omega)).mp (Int32.not_lt.mp h1)
  rw [if_neg (fun c => c.elim h0 h1), nI_clamp hk]
  refine ⟨_, _, _, er_3 (r := (_, _)) ⟨fun n => absurd n h0, fun _ => ⟨fun _ => rfl, fun n => absurd (by rw [e]; exact Int32.not_lt.mp h1) n⟩⟩, ?_, rfl⟩
  refine rV_t h ?_ (txA_k h.1.2 k) (fun p hp hq => (up_n (fun e => hp e.2)).trans (up_n (fun e => hq e.2))) (fun _ _ => rfl)
  show nI k = nI (tx.take k).length
  rw [List.length_take, Nat.min_eq_left hkl]
/-! read on both sides -/
theorem cv_rd (h : cV (tx, t, n, rl, mn, dc, frm) (I, A, J)) {x : Nat ⊕ (Nat × pp_S)} (hx : pp_prog (tsOf (sk ([], false) tx).1) 80 = some x) (hp : ∀ p, x = .inl p → p ≤ 160) : ∃ (o : ja_O) (w' : ja_w), crd o (I, A, J) w' ∧ (match x with
    | .inl p => o = .inr 0 ∧ cV (tx, nI p, 0, rl, mn, [], []) w'
    | .inr z => o = .inl (some (.int (nI (tsOf (sk ([], false) tx).1).length))) ∧ cV (tx, -1, (tsOf (sk ([], false) tx).1).length, pq_rl z.2, pq_mn z.2, pq_dc z.2, pq_frm z.2) w') := by
  obtain ⟨⟨ho, e1, hA⟩, _⟩ := h
  obtain ⟨o, w', k1, k2⟩ := cv_2 (I := I) (A := A) (J := J) (f1 := A 1) ho.2 ho.1 hA e1 rfl hx hp
  have hok := sk_ok tx [] false ho.2 (fun x h => by cases h)
  have h160 : tot (sk ([], false) tx).1 ≤ 160 := by
    have := hok.2
    have := ho.1
    have e : tot [] = 0 := rfl
    omega
  have hts := ts_ok hok.1 h160
  refine ⟨o, w', k1, ?_⟩
  cases x with
  | inl p =>
    obtain ⟨a1, a2, a3, a4, a5, a6, a7⟩ := k2
    refine ⟨a1, ⟨ho, a2, by rw [a5]; exact hA⟩, a4, ⟨a3, by decide, fun i h => absurd h (Nat.not_lt_zero i)⟩, ⟨a7, by decide, cq_h0 _ _, fun c h => by cases h⟩, a6, by decide, 0, by decide, Or.inl rfl, fun k x h => by cases h⟩
  | inr z =>
    obtain ⟨a1, a2, a3, a4, a5, a6, ⟨tn, a7, a8, a9, a10, a11⟩, a12⟩ := k2
    have h1 := hts.1
    refine ⟨a1, ⟨ho, a2, by rw [a5]; exact hA⟩, a4, ⟨a3, h1, fun i hi => a12 i (by omega)⟩, a6, a9, a10, tn, a7, Or.inr a8, fun k x hx => ?_⟩
    obtain ⟨b1, b2, b3, b4, b5, _⟩ := a11 k x hx
    exact ⟨b1, b3, b4, b5⟩
theorem rv_rd (h : rV (tx, t, n, rl, mn, dc, frm) (I, A, J)) (ho : txO tx) {x : Nat ⊕ (Nat × pp_S)} (hx : pp_prog (tsOf (sk ([], false) tx).1) 80 = some x) : ∃ (z : Int32) (w' : ja_w), er_E (d + 10) 67 [.ref 0] (I, A, J) (.inl (some (.int z))) w' ∧ (match x with
    | .inl p => z = 0 ∧ w'.1 0 0 = 1 ∧ p ≤ 160 ∧ rV (tx, nI p, 0, rl, mn, [], []) w'
    | .inr y => z = nI (tsOf (sk ([], false) tx).1).length ∧ w'.1 0 0 = 0 ∧ rV (tx, -1, (tsOf (sk ([], false) tx).1).length, pq_rl y.2, pq_mn y.2, pq_dc y.2, pq_frm y.2) w') := by
  obtain ⟨⟨e1, hA⟩, _⟩ := h
  obtain ⟨z, w', k1, k2⟩ := rv_67 (d := d) (I := I) (A := A) (J := J) (f1 := A 1) ho.2 ho.1 hA e1 rfl hx
  refine ⟨z, w', k1, ?_⟩
  cases x with
  | inl p =>
    obtain ⟨a1, a2, a3, a4, a5, a6, a7, a8, a9⟩ := k2
    exact ⟨a1, a2, a9, ⟨a3, by rw [a6]; exact hA⟩, a5, ⟨Or.inl ⟨a4, rfl⟩, fun i h => absurd h (Nat.not_lt_zero i)⟩, ⟨a8, cq_h0 _ _⟩, a7, by decide, fun k x h => by cases h⟩
  | inr y =>
    obtain ⟨a1, a2, a3, a4, a5, a6, a7, ⟨b1, b2, b3, b4, b5⟩, a9, a10⟩ := k2
    refine ⟨a1, a2, ⟨a3, by rw [a6]; exact hA⟩, a5, ⟨Or.inr ⟨a4, a7⟩, a10⟩, ⟨a9.1, a9.2.2.2⟩, b1, b4, fun k x hx => ?_⟩
    obtain ⟨c1, c2, c3, c4, c5, c6, c7, _⟩ := b5 k x hx
    exact ⟨c1, c3, c4, c5, c6, c7⟩
/-- the abstract reader answers -/
theorem prog_x (ho : txO tx) : ∃ x, pp_prog (tsOf (sk ([], false) tx).1) 80 = some x := by
  have hok := sk_ok tx [] false ho.2 (fun x h => by cases h)
  have h160 : tot (sk ([], false) tx).1 ≤ 160 := by
    have := hok.2
    have := ho.1
    have e : tot [] = 0 := rfl
    omega
  have h := tProg (ts_tl hok.1 h160)
  cases hx : pp_prog (tsOf (sk ([], false) tx).1) 80 with
  | none => rw [hx] at h; exact h.elim
  | some x => exact ⟨x, rfl⟩
end
