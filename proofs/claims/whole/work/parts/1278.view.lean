/-! The bytes of a long, as both sides take them. -/
def lb (v : Int64) (i : Nat) : Nat := v.toUInt64.toNat / 2 ^ (8 * i) % 256
theorem lb_lt (v : Int64) (i : Nat) : lb v i < 256 := Nat.mod_lt _ (by decide)
theorem lN_u (v : Int64) : lN v.toUInt64.toNat = v := by
  apply Int64.toBitVec_inj.mp
  apply BitVec.eq_of_toNat_eq
  show v.toUInt64.toNat % 2 ^ 64 = _
  exact Nat.mod_eq_of_lt (UInt64.toNat_lt v.toUInt64)
theorem by_lb (v : Int64) {i : Nat} (hi : i < 8) : cq_by v (nI i) = nI (lb v i) := by
  have := by_lN (N := v.toUInt64.toNat) (UInt64.toNat_lt v.toUInt64) hi
  rw [lN_u] at this
  exact this
theorem sar_k : ∀ k, k < 8 → ((8 * nI k).toInt64 &&& 63).toBitVec.smod 64 = BitVec.ofNat 64 (8 * k) := by decide +kernel
theorem b_i : ∀ b, b < 256 → (lN b).toInt32 = nI b := by decide +kernel
theorem sar_lb (v : Int64) {i : Nat} (hi : i < 8) : ((v >>> ((8 * nI i).toInt64 &&& 63)) &&& 255).toInt32 = nI (lb v i) := by
  have e : ((v >>> ((8 * nI i).toInt64 &&& 63)) &&& 255) = lN (lb v i) := by
    apply Int64.toBitVec_inj.mp
    rw [Int64.toBitVec_and, Int64.toBitVec_shiftRight, sar_k i hi]
    have h8 : (BitVec.ofNat 64 (8 * i)).toNat = 8 * i := by
      rw [BitVec.toNat_ofNat]
      exact Nat.mod_eq_of_lt (by have : (2 : Nat) ^ 64 = 18446744073709551616 := by decide
                                 omega)
    have e1 : (v.toBitVec.sshiftRight' (BitVec.ofNat 64 (8 * i)) &&& (255 : Int64).toBitVec) = (v.toBitVec >>> (8 * i)) &&& (255 : Int64).toBitVec := by
      apply BitVec.eq_of_getLsbD_eq
      intro k hk
      rw [BitVec.getLsbD_and, BitVec.getLsbD_and, BitVec.sshiftRight_eq', h8, BitVec.getLsbD_sshiftRight, BitVec.getLsbD_ushiftRight]
      by_cases hk8 : k < 8
      · rw [if_pos (by omega), decide_eq_false (show ¬ 64 ≤ k by omega)]
        simp
      · have : (255 : Int64).toBitVec.getLsbD k = false := by
          have e255 : (255 : Int64).toBitVec = BitVec.ofNat 64 (2 ^ 8 - 1) := by decide
          rw [e255, BitVec.getLsbD_ofNat, Nat.testBit_two_pow_sub_one, decide_eq_false hk8, Bool.and_false]
        rw [this, Bool.and_false, Bool.and_false]
    rw [e1]
    apply BitVec.eq_of_toNat_eq
    have e2 : (255 : Int64).toBitVec.toNat = 2 ^ 8 - 1 := by decide
    have e4 : (lN (lb v i)).toBitVec.toNat = lb v i := by
      show lb v i % 2 ^ 64 = _
      exact Nat.mod_eq_of_lt (Nat.lt_trans (lb_lt v i) (by decide))
    rw [BitVec.toNat_and, e2, e4, BitVec.toNat_ushiftRight, Nat.and_two_pow_sub_one_eq_mod, Nat.shiftRight_eq_div_pow]
    rfl
  rw [e]
  exact b_i _ (lb_lt v i)
/-! What both objects tell between the calls. -/
abbrev vU : Type := List Nat × Int32 × Nat × (Nat → Int32) × (Nat → Int32) × List pp_D × List Int32
abbrev txO (tx : List Nat) : Prop := tx.length ≤ 160 ∧ ∀ c ∈ tx, 1 ≤ c ∧ c < 128
abbrev txA (tx : List Nat) (f : Nat → Int32) : Prop := ∀ i, i < tx.length → f i = nI (tx.getD i 0)
def cV : vU → ja_w → Prop
  | (tx, t, n, rl, mn, dc, frm), w => (txO tx ∧ w.1 0 1 = nI tx.length ∧ txA tx (w.2.1 1)) ∧ w.1 0 3 = t ∧ (w.1 0 2 = nI n ∧ n ≤ 160 ∧ ∀ i, i < n → w.2.1 9 i = rl i ∧ w.2.1 10 i = mn i) ∧ cq_F (w.1 4 1) (w.2.1 18) frm ∧ w.1 3 4 = nI dc.length ∧ dc.length ≤ 80 ∧ ∃ tn, tn ≤ 640 ∧ (dc = [] ∨ w.1 8 1 = nI tn) ∧ ∀ k x, dc[k]? = some x → w.2.1 11 k = nI x.1 ∧ w.2.1 12 k = nI x.2.2.1 ∧ w.2.1 15 k = nI x.2.2.2.1 ∧ cq_G (w.2.1 19) tn (w.2.1 13 k) (w.2.1 14 k) x.2.2.2.2
def rV : vU → ja_w → Prop
  | (tx, t, n, rl, mn, dc, frm), w => (w.1 0 2 = nI tx.length ∧ txA tx (w.2.1 1)) ∧ w.1 0 10 = t ∧ (((w.1 0 11 = 0 ∧ n = 0) ∨ (w.1 0 11 = 1 ∧ w.1 0 3 = nI n)) ∧ ∀ i, i < n → w.2.1 5 i = rl i ∧ w.2.1 6 i = mn i) ∧ (w.1 0 38 = nI frm.length ∧ cq_h (w.2.1 20) 0 frm) ∧ w.1 0 20 = nI dc.length ∧ pp_tt dc ≤ 6000 ∧ ∀ k x, dc[k]? = some x → w.2.1 10 k = nI x.1 ∧ w.2.1 12 k = nI x.2.2.1 ∧ w.2.1 13 k = nI x.2.2.2.1 ∧ w.2.1 14 k = nI (pp_tt (dc.take k)) ∧ w.2.1 15 k = nI x.2.2.2.2.length ∧ cq_h (w.2.1 16) (pp_tt (dc.take k)) x.2.2.2.2
section
variable {d : Nat} {I A : ja_I} {J : ja_J} {tx : List Nat} {t : Int32} {n : Nat} {rl mn : Nat → Int32} {dc : List pp_D} {frm : List Int32} {u : vU}
theorem rV_0 {z : Int32} (h : rV u (I, A, J)) : rV u (ja_up I 0 0 z, A, J) := by
  obtain ⟨tx, t, n, rl, mn, dc, frm⟩ := u
  exact h
/-! at, declared, length -/
theorem cv_3 (h : cV (tx, t, n, rl, mn, dc, frm) (I, A, J)) : ec_E (d + 1) 3 [.ref 0] (I, A, J) (.inl (some (.int t))) (I, A, J) := by
  have e : I 0 3 = t := h.2.1
  rw [← e]; exact ec_3 (r := (_, _)) rfl
theorem rv_68 (h : rV (tx, t, n, rl, mn, dc, frm) (I, A, J)) : er_E (d + 1) 68 [.ref 0] (I, A, J) (.inl (some (.int t))) (ja_up I 0 0 0, A, J) := by
  have e : I 0 10 = t := h.2.1
  rw [← e]; exact er_68 (r := (_, _)) rfl
theorem cv_6 (h : cV (tx, t, n, rl, mn, dc, frm) (I, A, J)) : ec_E (d + 1) 6 [.ref 0] (I, A, J) (.inl (some (.int (nI dc.length)))) (I, A, J) := by
  have e : I 3 4 = nI dc.length := h.2.2.2.2.1
  rw [← e]; exact ec_6 (r := (_, _)) rfl
theorem rv_72 (h : rV (tx, t, n, rl, mn, dc, frm) (I, A, J)) : er_E (d + 1) 72 [.ref 0] (I, A, J) (.inl (some (.int (nI dc.length)))) (ja_up I 0 0 0, A, J) := by
  have e : I 0 20 = nI dc.length := h.2.2.2.2.1
  rw [← e]; exact er_72 (r := (_, _)) rfl
theorem cv_9 (h : cV (tx, t, n, rl, mn, dc, frm) (I, A, J)) : ec_E (d + 1) 9 [.ref 0] (I, A, J) (.inl (some (.int (nI frm.length)))) (I, A, J) := by
  have e : I 4 1 = nI frm.length := h.2.2.2.1.1
  rw [← e]; exact ec_9 (r := (_, _)) rfl
theorem rv_75 (h : rV (tx, t, n, rl, mn, dc, frm) (I, A, J)) : er_E (d + 1) 75 [.ref 0] (I, A, J) (.inl (some (.int (nI frm.length)))) (ja_up I 0 0 0, A, J) := by
  have e : I 0 38 = nI frm.length := h.2.2.2.1.1
  rw [← e]; exact er_75 (r := (_, _)) rfl
/-! role, meaning -/
/-- an index that lies inside -/
def ins (i : Int32) (n : Nat) : Bool := decide (0 ≤ i) && decide (i < nI n)
theorem ins_t {i : Int32} {n : Nat} (hn : n < 2 ^ 31) (h : ins i n = true) : ∃ k, k < n ∧ i = nI k := by
  unfold ins at h
  rw [Bool.and_eq_true] at h
  have h1 := of_decide_eq_true h.1
  have h2 := of_decide_eq_true h.2
  obtain ⟨k, hk, rfl⟩ := nI_of (Int32.not_lt.mpr h1)
  exact ⟨k, (nI_ltI hk hn).mp h2, rfl⟩
theorem ins_f {i : Int32} {n : Nat} (h : ins i n = false) : i < 0 ∨ (¬ i < 0 ∧ nI n ≤ i) := by
  unfold ins at h
  by_cases h0 : i < 0
  · exact Or.inl h0
  · rw [decide_eq_true (Int32.not_lt.mp h0), Bool.true_and] at h
    exact Or.inr ⟨h0, Int32.not_lt.mp (of_decide_eq_false h)⟩
theorem cv_11 (h : cV (tx, t, n, rl, mn, dc, frm) (I, A, J)) (i : Int32) : ec_E (d + 1) 11 [.ref 0, .int i] (I, A, J) (.inl (some (.int (bI (ins i n))))) (I, A, J) := by
  have e : I 0 2 = nI n := h.2.2.1.1
  have hn : n ≤ 160 := h.2.2.1.2.1
  cases hb : ins i n with
  | true =>
    obtain ⟨k, hk, rfl⟩ := ins_t (by omega) hb
    exact ec_11 (r := (_, _)) ⟨fun h => absurd h (nI_pos (by omega)), fun _ => ⟨fun h => absurd h (by rw [e]; exact nI_ge hk (by omega)), fun _ => rfl⟩⟩
  | false =>
    rcases ins_f hb with h0 | ⟨h0, h1⟩
    · exact ec_11 (r := (_, _)) ⟨fun _ => rfl, fun h => absurd h0 h⟩
    · exact ec_11 (r := (_, _)) ⟨fun h => absurd h h0, fun _ => ⟨fun _ => rfl, fun h => absurd (by rw [e]; exact h1) h⟩⟩
theorem rv_69 (h : rV (tx, t, n, rl, mn, dc, frm) (I, A, J)) (hn : n ≤ 160) (i : Int32) : er_E (d + 1) 69 [.ref 0, .int i] (I, A, J) (.inl (some (.int (bI (ins i n))))) (I, A, J) := by
  rcases h.2.2.1.1 with ⟨e, rfl⟩ | ⟨e, e3⟩
  · have e' : I 0 11 = 0 := e
    have hb : ins i 0 = false := by
      unfold ins
      by_cases h0 : (0 : Int32) ≤ i
      · rw [decide_eq_false (show ¬ i < nI 0 from Int32.not_lt.mpr h0), Bool.and_false]
      · rw [decide_eq_false h0, Bool.false_and]
    rw [hb]
    exact er_69 (r := (_, _)) ⟨fun _ => rfl, fun h => absurd e' h⟩
  · have e' : ¬ I 0 11 = 0 := by
      have : I 0 11 = 1 := e
      rw [this]; decide
    have e3' : I 0 3 = nI n := e3
    cases hb : ins i n with
    | true =>
      obtain ⟨k, hk, rfl⟩ := ins_t (by omega) hb
      exact er_69 (r := (_, _)) ⟨fun h => absurd h e', fun _ => ⟨fun h => absurd h (nI_pos (by omega)), fun _ => ⟨fun h => absurd h (by rw [e3']; exact nI_ge hk (by omega)), fun _ => rfl⟩⟩⟩
    | false =>
      rcases ins_f hb with h0 | ⟨h0, h1⟩
      · exact er_69 (r := (_, _)) ⟨fun h => absurd h e', fun _ => ⟨fun _ => rfl, fun h => absurd h0 h⟩⟩
      · exact er_69 (r := (_, _)) ⟨fun h => absurd h e', fun _ => ⟨fun h => absurd h h0, fun _ => ⟨fun _ => rfl, fun h => absurd (by rw [e3']; exact h1) h⟩⟩⟩
def a_rl (f : Nat → Int32) (n : Nat) (i : Int32) : Int32 := if ins i n then f i.toNatClampNeg else -1
theorem cv_4 (h : cV (tx, t, n, rl, mn, dc, frm) (I, A, J)) (i : Int32) : ec_E (d + 2) 4 [.ref 0, .int i] (I, A, J) (.inl (some (.int (a_rl rl n i)))) (I, A, J) := by
  have hn : n ≤ 160 := h.2.2.1.2.1
  have h11 := cv_11 (d := d) h i
  unfold a_rl
  cases hb : ins i n with
  | false =>
    rw [hb] at h11
    exact ec_4 (r := (_, _)) ⟨_, I, A, J, h11, fun _ => rfl, fun h => absurd rfl h⟩
  | true =>
    rw [hb] at h11
    obtain ⟨k, hk, rfl⟩ := ins_t (by omega) hb
    have e : A 9 k = rl k := (h.2.2.1.2.2 k hk).1
    refine ec_4 (r := (_, _)) ⟨_, I, A, J, h11, fun h => absurd h (by decide), fun _ => ⟨vp_in_nI (by omega) (by omega), ?_⟩⟩
    rw [if_pos rfl, nI_clamp (by omega), e]
theorem cv_5 (h : cV (tx, t, n, rl, mn, dc, frm) (I, A, J)) (i : Int32) : ec_E (d + 2) 5 [.ref 0, .int i] (I, A, J) (.inl (some (.int (a_rl mn n i)))) (I, A, J) := by
  have hn : n ≤ 160 := h.2.2.1.2.1
  have h11 := cv_11 (d := d) h i
  unfold a_rl
  cases hb : ins i n with
  | false =>
    rw [hb] at h11
    exact ec_5 (r := (_, _)) ⟨_, I, A, J, h11, fun _ => rfl, fun h => absurd rfl h⟩
  | true =>
    rw [hb] at h11
    obtain ⟨k, hk, rfl⟩ := ins_t (by omega) hb
    have e : A 10 k = mn k := (h.2.2.1.2.2 k hk).2
    refine ec_5 (r := (_, _)) ⟨_, I, A, J, h11, fun h => absurd h (by decide), fun _ => ⟨vp_in_nI (by omega) (by omega), ?_⟩⟩
    rw [if_pos rfl, nI_clamp (by omega), e]
theorem rv_70 (h : rV (tx, t, n, rl, mn, dc, frm) (I, A, J)) (hn : n ≤ 160) (i : Int32) : er_E (d + 2) 70 [.ref 0, .int i] (I, A, J) (.inl (some (.int (a_rl rl n i)))) (ja_up I 0 0 0, A, J) := by
  have h69 := rv_69 (d := d) (rV_0 (z := 0) h) hn i
  unfold a_rl
  cases hb : ins i n with
  | false =>
    rw [hb] at h69
    exact er_70 (r := (_, _)) ⟨_, _, _, _, h69, fun _ => rfl, fun h => absurd rfl h⟩
  | true =>
    rw [hb] at h69
    obtain ⟨k, hk, rfl⟩ := ins_t (by omega) hb
    have e : A 5 k = rl k := (h.2.2.1.2 k hk).1
    refine er_70 (r := (_, _)) ⟨_, _, _, _, h69, fun h => absurd h (by decide), fun _ => ⟨vp_in_nI (by omega) (by omega), ?_⟩⟩
    rw [if_pos rfl, nI_clamp (by omega), e]
theorem rv_71 (h : rV (tx, t, n, rl, mn, dc, frm) (I, A, J)) (hn : n ≤ 160) (i : Int32) : er_E (d + 2) 71 [.ref 0, .int i] (I, A, J) (.inl (some (.int (a_rl mn n i)))) (ja_up I 0 0 0, A, J) := by
  have h69 := rv_69 (d := d) (rV_0 (z := 0) h) hn i
  unfold a_rl
  cases hb : ins i n with
  | false =>
    rw [hb] at h69
    exact er_71 (r := (_, _)) ⟨_, _, _, _, h69, fun _ => rfl, fun h => absurd rfl h⟩
  | true =>
    rw [hb] at h69
    obtain ⟨k, hk, rfl⟩ := ins_t (by omega) hb
    have e : A 6 k = mn k := (h.2.2.1.2 k hk).2
    refine er_71 (r := (_, _)) ⟨_, _, _, _, h69, fun h => absurd h (by decide), fun _ => ⟨vp_in_nI (by omega) (by omega), ?_⟩⟩
    rw [if_pos rfl, nI_clamp (by omega), e]
/-! about, typeAt, form -/
theorem cv_14t {i : Int32} {n : Nat} (hn : n < 2 ^ 31) (h : ins i n = true) {w : ja_w} : ec_E (d + 1) 14 [.int i, .int (nI n)] w (.inl none) w := by
  obtain ⟨I, A, J⟩ := w
  obtain ⟨k, hk, rfl⟩ := ins_t hn h
  exact ec_14 (r := (_, _)) ⟨fun h => absurd h (nI_pos (by omega)), fun _ => ⟨fun _ => rfl, fun h => absurd (nI_lt hk hn) h⟩⟩
theorem cv_14f {i : Int32} {n : Nat} (h : ins i n = false) {w : ja_w} : ec_E (d + 1) 14 [.int i, .int (nI n)] w (.inr 1) w := by
  obtain ⟨I, A, J⟩ := w
  rcases ins_f h with h0 | ⟨h0, h1⟩
  · exact ec_14 (r := (_, _)) ⟨fun _ => rfl, fun h => absurd h0 h⟩
  · exact ec_14 (r := (_, _)) ⟨fun h => absurd h h0, fun _ => ⟨fun h => absurd h (Int32.not_lt.mpr h1), fun _ => rfl⟩⟩
/-- an answer, or none -/
def oA (x : Option Int32) : ja_O := match x with
  | none => .inr 1
  | some v => .inl (some (.int v))
def oR (x : Option Int32) : Int32 := match x with
  | none => 0
  | some v => v
def oT (x : Option Int32) : Int32 := match x with
  | none => 1
  | some _ => 0
def a_ab (dc : List pp_D) (k p : Int32) : Option Int32 := if ins k dc.length then (match dc[k.toNatClampNeg]? with
  | none => none
  | some x => if p = 0 then some (nI x.1) else if p = 1 then some (nI x.2.2.1) else if p = 2 then some (nI x.2.2.2.2.length) else if p = 3 then some (nI x.2.2.2.1) else none) else none
theorem cv_7 (h : cV (tx, t, n, rl, mn, dc, frm) (I, A, J)) (k p : Int32) : ec_E (d + 2) 7 [.ref 0, .int k, .int p] (I, A, J) (oA (a_ab dc k p)) (I, A, J) := by
  have e : I 3 4 = nI dc.length := h.2.2.2.2.1
  have h80 : dc.length ≤ 80 := h.2.2.2.2.2.1
  obtain ⟨tn, htn, _, hd⟩ := h.2.2.2.2.2.2
  unfold a_ab
  cases hb : ins k dc.length with
  | false =>
    have h14 := cv_14f (d := d) hb (w := (I, A, J))
    rw [← e] at h14
    exact ec_7 (r := (_, _)) (Or.inr ⟨1, (I, A, J), h14, rfl⟩)
  | true =>
    have h14 := cv_14t (d := d) (by omega) hb (w := (I, A, J))
    rw [← e] at h14
    obtain ⟨i, hi, rfl⟩ := ins_t (by omega) hb
    have v80 : vp_in (nI i) 80 := vp_in_nI (by omega) (by omega)
    have hx : dc[i]? = some dc[i] := List.getElem?_eq_getElem hi
    obtain ⟨e1, e2, e3, st, g1, g2, g3, g4, g5⟩ := hd i _ hx
    rw [if_pos rfl, nI_clamp (by omega), hx]
    generalize dc[i] = x at e1 e2 e3 g1 g2 g3 g4 g5
    have e1' : A 11 (nI i).toNatClampNeg = nI x.1 := by rw [nI_clamp (by omega)]; exact e1
    have e2' : A 12 (nI i).toNatClampNeg = nI x.2.2.1 := by rw [nI_clamp (by omega)]; exact e2
    have e3' : A 15 (nI i).toNatClampNeg = nI x.2.2.2.1 := by rw [nI_clamp (by omega)]; exact e3
    have e4' : A 14 (nI i).toNatClampNeg - A 13 (nI i).toNatClampNeg = nI x.2.2.2.2.length := by
      have g1' : A 13 i = nI st := g1
      have g2' : A 14 i = nI (st + x.2.2.2.2.length) := g2
      rw [nI_clamp (by omega), g1', g2', pk_sub (by omega)]
      congr 1; omega
    refine ec_7 (r := (_, _)) (Or.inl ⟨I, A, J, h14, ?_⟩)
    rw [e1', e2', e3', e4']
    refine ⟨fun p0 => ⟨v80, ?_⟩, fun p0 => ⟨fun p1 => ⟨v80, ?_⟩, fun p1 => ⟨fun p2 => ⟨v80, v80, ?_⟩, fun p2 => ⟨fun p3 => ⟨v80, ?_⟩, fun p3 => ?_⟩⟩⟩⟩
    · show (oA (if p = 0 then _ else _), _) = _
      rw [if_pos p0]; rfl
    · show (oA (if p = 0 then _ else _), _) = _
      rw [if_neg p0, if_pos p1]; rfl
    · show (oA (if p = 0 then _ else _), _) = _
      rw [if_neg p0, if_neg p1, if_pos p2]; rfl
    · show (oA (if p = 0 then _ else _), _) = _
      rw [if_neg p0, if_neg p1, if_neg p2, if_pos p3]; rfl
    · show (oA (if p = 0 then _ else _), _) = _
      rw [if_neg p0, if_neg p1, if_neg p2, if_neg p3]; rfl
theorem rv_73 (h : rV (tx, t, n, rl, mn, dc, frm) (I, A, J)) (h80 : dc.length ≤ 80) (k p : Int32) : er_E (d + 1) 73 [.ref 0, .int k, .int p] (I, A, J) (.inl (some (.int (oR (a_ab dc k p))))) (ja_up I 0 0 (oT (a_ab dc k p)), A, J) := by
  have e : I 0 20 = nI dc.length := h.2.2.2.2.1
  have hd := h.2.2.2.2.2.2
  cases hb : ins k dc.length with
  | false =>
    have key : a_ab dc k p = none := by unfold a_ab; rw [hb, if_neg (by decide)]
    rw [key]
    rcases ins_f hb with h0 | ⟨h0, h1⟩
    · exact er_73 (r := (_, _)) ⟨fun _ => ⟨fun h => absurd h (by decide), fun _ => rfl⟩, fun h => absurd h0 h⟩
    · exact er_73 (r := (_, _)) ⟨fun h => absurd h h0, fun _ => ⟨fun _ => ⟨fun h => absurd h (by decide), fun _ => rfl⟩, fun h => absurd (by rw [e]; exact h1) h⟩⟩
  | true =>
    obtain ⟨i, hi, rfl⟩ := ins_t (by omega) hb
    have v161 : vp_in (nI i) 161 := vp_in_nI (by omega) (by omega)
    have hx : dc[i]? = some dc[i] := List.getElem?_eq_getElem hi
    obtain ⟨e1, e2, e3, _, e5, _⟩ := hd i _ hx
    have key : a_ab dc (nI i) p = (if p = 0 then some (nI dc[i].1) else if p = 1 then some (nI dc[i].2.2.1) else if p = 2 then some (nI dc[i].2.2.2.2.length) else if p = 3 then some (nI dc[i].2.2.2.1) else none) := by unfold a_ab; rw [hb, if_pos rfl, nI_clamp (by omega), hx]
    rw [key]
    generalize dc[i] = x at e1 e2 e3 e5
    have e1' : A 10 (nI i).toNatClampNeg = nI x.1 := by rw [nI_clamp (by omega)]; exact e1
    have e2' : A 12 (nI i).toNatClampNeg = nI x.2.2.1 := by rw [nI_clamp (by omega)]; exact e2
    have e3' : A 13 (nI i).toNatClampNeg = nI x.2.2.2.1 := by rw [nI_clamp (by omega)]; exact e3
    have e5' : A 15 (nI i).toNatClampNeg = nI x.2.2.2.2.length := by rw [nI_clamp (by omega)]; exact e5
    refine er_73 (r := (_, _)) ⟨fun h => absurd h (nI_pos (by omega)), fun _ => ⟨fun h => absurd h (by rw [e]; exact nI_ge hi (by omega)), fun _ => ⟨fun hp => ⟨fun h => absurd h (by decide), fun _ => ?_⟩, fun hp => ⟨fun h3 => ⟨fun _ => ?_, fun h => absurd (by decide) h⟩, fun h3 => ⟨fun h => absurd h (by decide), fun _ => ?_⟩⟩⟩⟩⟩
    · have p0 : ¬ p = 0 := fun e => by rw [e] at hp; exact absurd hp (by decide)
      have p1 : ¬ p = 1 := fun e => by rw [e] at hp; exact absurd hp (by decide)
      have p2 : ¬ p = 2 := fun e => by rw [e] at hp; exact absurd hp (by decide)
      have p3 : ¬ p = 3 := fun e => by rw [e] at hp; exact absurd hp (by decide)
      rw [if_neg p0, if_neg p1, if_neg p2, if_neg p3]; rfl
    · rw [e1', e2', e3', e5']
      refine ⟨fun p0 => ⟨v161, ?_⟩, fun p0 => ⟨fun p1 => ⟨v161, ?_⟩, fun p1 => ⟨fun p2 => ⟨v161, ?_⟩, fun p2 => ⟨v161, ?_⟩⟩⟩⟩
      · rw [if_pos p0]; rfl
      · rw [if_neg p0, if_pos p1]; rfl
      · rw [if_neg p0, if_neg p1, if_pos p2]; rfl
      · have p3 : p = 3 := by
          have kk : ∀ m, m < 4 → ¬ nI m = 0 → ¬ nI m = 1 → ¬ nI m = 2 → nI m = 3 := by decide
          obtain ⟨m, hm, rfl⟩ := nI_of hp
          exact kk m (by have := (nI_leI hm (by decide : 3 < 2 ^ 31)).mp h3; omega) p0 p1 p2
        rw [if_neg p0, if_neg p1, if_neg p2, if_pos p3]; rfl
    · have p0 : ¬ p = 0 := fun e => by rw [e] at h3; exact absurd (by decide) h3
      have p1 : ¬ p = 1 := fun e => by rw [e] at h3; exact absurd (by decide) h3
      have p2 : ¬ p = 2 := fun e => by rw [e] at h3; exact absurd (by decide) h3
      have p3 : ¬ p = 3 := fun e => by rw [e] at h3; exact absurd (by decide) h3
      rw [if_neg p0, if_neg p1, if_neg p2, if_neg p3]; rfl
def a_fo (frm : List Int32) (i : Int32) : Option Int32 := if ins i frm.length then some (frm.getD i.toNatClampNeg 0) else none
theorem cv_10 (h : cV (tx, t, n, rl, mn, dc, frm) (I, A, J)) (i : Int32) : ec_E (d + 2) 10 [.ref 0, .int i] (I, A, J) (oA (a_fo frm i)) (I, A, J) := by
  obtain ⟨e, h640, hh, hc⟩ := h.2.2.2.1
  have e' : I 4 1 = nI frm.length := e
  unfold a_fo
  cases hb : ins i frm.length with
  | false =>
    have h14 := cv_14f (d := d) hb (w := (I, A, J))
    rw [← e'] at h14
    exact ec_10 (r := (_, _)) (Or.inr ⟨1, (I, A, J), h14, rfl⟩)
  | true =>
    have h14 := cv_14t (d := d) (by omega) hb (w := (I, A, J))
    rw [← e'] at h14
    obtain ⟨k, hk, rfl⟩ := ins_t (by omega) hb
    have ev : A 18 (nI k).toNatClampNeg = frm.getD k 0 := by
      have := hh k hk
      rw [nI_clamp (by omega)]
      rwa [Nat.zero_add] at this
    have hch : cq_ch (frm.getD k 0) := by
      rw [List.getD_eq_getElem?_getD, List.getElem?_eq_getElem hk]
      exact hc _ (List.getElem_mem hk)
    have h16 : ec_E (d + 1) 16 [.ref 4, .int (nI k)] (I, A, J) (.inl (some (.int (frm.getD k 0)))) (I, A, J) := by
      refine ec_16 (r := (_, _)) ⟨fun h => absurd h (nI_pos (by omega)), fun _ => ⟨fun h => absurd h (by rw [e']; exact nI_ge hk (by omega)), fun _ => ⟨vp_in_nI (by omega) (by omega), ?_, ?_⟩⟩⟩
      · rw [ev]; exact hch
      · rw [ev]
    rw [if_pos rfl, nI_clamp (by omega)]
    exact ec_10 (r := (_, _)) (Or.inl ⟨I, A, J, h14, _, I, A, J, h16, rfl⟩)
theorem rv_76 (h : rV (tx, t, n, rl, mn, dc, frm) (I, A, J)) (h640 : frm.length ≤ 640) (i : Int32) : er_E (d + 1) 76 [.ref 0, .int i] (I, A, J) (.inl (some (.int (oR (a_fo frm i))))) (ja_up I 0 0 (oT (a_fo frm i)), A, J) := by
  obtain ⟨e, hh⟩ := h.2.2.2.1
  have e' : I 0 38 = nI frm.length := e
  unfold a_fo
  cases hb : ins i frm.length with
  | false =>
    rcases ins_f hb with h0 | ⟨h0, h1⟩
    · exact er_76 (r := (_, _)) ⟨fun _ => ⟨fun h => absurd h (by decide), fun _ => rfl⟩, fun h => absurd h0 h⟩
    · exact er_76 (r := (_, _)) ⟨fun h => absurd h h0, fun _ => ⟨fun h => absurd h (by rw [e']; exact Int32.not_lt.mpr h1), fun _ => ⟨fun h => absurd h (by decide), fun _ => rfl⟩⟩⟩
  | true =>
    obtain ⟨k, hk, rfl⟩ := ins_t (by omega) hb
    have ev : A 20 (nI k).toNatClampNeg = frm.getD k 0 := by
      have := hh k hk
      rw [nI_clamp (by omega)]
      rwa [Nat.zero_add] at this
    refine er_76 (r := (_, _)) ⟨fun h => absurd h (nI_pos (by omega)), fun _ => ⟨fun _ => ⟨fun _ => ⟨vp_in_nI (by omega) (by omega), ?_⟩, fun h => absurd rfl h⟩, fun h => absurd (by rw [e']; exact nI_lt hk (by omega)) h⟩⟩
    rw [ev, if_pos rfl, nI_clamp (by omega)]; rfl
def a_ty (dc : List pp_D) (k i : Int32) : Option Int32 := if ins k dc.length then (match dc[k.toNatClampNeg]? with
  | none => none
  | some x => a_fo x.2.2.2.2 i) else none
theorem tt_take {k : Nat} {x : pp_D} (h : dc[k]? = some x) : pp_tt (dc.take k) + x.2.2.2.2.length ≤ pp_tt dc := by
  obtain ⟨hk, e⟩ := List.getElem?_eq_some_iff.mp h
  have hd : dc = dc.take k ++ (dc[k] :: dc.drop (k + 1)) := by
    rw [← List.drop_eq_getElem_cons hk, List.take_append_drop]
  rw [e] at hd
  conv => rhs; rw [hd]
  unfold pp_tt
  rw [List.map_append, List.sum_append, List.map_cons, List.sum_cons]
  omega
theorem cv_8 (h : cV (tx, t, n, rl, mn, dc, frm) (I, A, J)) (k i : Int32) : ec_E (d + 2) 8 [.ref 0, .int k, .int i] (I, A, J) (oA (a_ty dc k i)) (I, A, J) := by
  have e : I 3 4 = nI dc.length := h.2.2.2.2.1
  have h80 : dc.length ≤ 80 := h.2.2.2.2.2.1
  obtain ⟨tn, htn, h8, hd⟩ := h.2.2.2.2.2.2
  unfold a_ty
  cases hb : ins k dc.length with
  | false =>
    have h14 := cv_14f (d := d) hb (w := (I, A, J))
    rw [← e] at h14
    exact ec_8 (r := (_, _)) (Or.inr ⟨1, (I, A, J), h14, rfl⟩)
  | true =>
    have h14 := cv_14t (d := d) (by omega) hb (w := (I, A, J))
    rw [← e] at h14
    obtain ⟨j, hj, rfl⟩ := ins_t (by omega) hb
    have v80 : vp_in (nI j) 80 := vp_in_nI (by omega) (by omega)
    have hx : dc[j]? = some dc[j] := List.getElem?_eq_getElem hj
    have h8' : I 8 1 = nI tn := h8.resolve_left (fun e => by rw [e] at hj; exact absurd hj (Nat.not_lt_zero _))
    obtain ⟨_, _, _, st, g1, g2, g3, g4, g5⟩ := hd j _ hx
    rw [if_pos rfl, nI_clamp (by omega), hx]
    generalize dc[j] = x at g1 g2 g3 g4 g5
    have e13 : A 13 (nI j).toNatClampNeg = nI st := by rw [nI_clamp (by omega)]; exact g1
    have e4' : A 14 (nI j).toNatClampNeg - A 13 (nI j).toNatClampNeg = nI x.2.2.2.2.length := by
      have g1' : A 13 j = nI st := g1
      have g2' : A 14 j = nI (st + x.2.2.2.2.length) := g2
      rw [nI_clamp (by omega), g1', g2', pk_sub (by omega)]
      congr 1; omega
    show ec_E (d + 2) 8 [.ref 0, .int (nI j), .int i] (I, A, J) (oA (a_fo x.2.2.2.2 i)) (I, A, J)
    refine ec_8 (r := (_, _)) (Or.inl ⟨I, A, J, h14, v80, v80, ?_⟩)
    rw [e4']
    unfold a_fo
    cases hb2 : ins i x.2.2.2.2.length with
    | false => exact Or.inr ⟨1, (I, A, J), cv_14f (d := d) hb2, rfl⟩
    | true =>
      have h14' := cv_14t (d := d) (by omega) hb2 (w := (I, A, J))
      obtain ⟨m, hm, rfl⟩ := ins_t (by omega) hb2
      have ev : A 19 (st + m) = x.2.2.2.2.getD m 0 := g4 m hm
      have hch : cq_ch (x.2.2.2.2.getD m 0) := by
        rw [List.getD_eq_getElem?_getD, List.getElem?_eq_getElem hm]
        exact g5 _ (List.getElem_mem hm)
      have h16 := cl_16t (d := d) (I := I) (A := A) (J := J) h8' htn (i := st + m) (by omega) ev hch
      refine Or.inl ⟨I, A, J, h14', v80, ?_⟩
      rw [e13, nI_add]
      refine ⟨_, I, A, J, h16, ?_⟩
      rw [if_pos rfl, nI_clamp (by omega)]
theorem rv_74 (h : rV (tx, t, n, rl, mn, dc, frm) (I, A, J)) (h80 : dc.length ≤ 80) (k i : Int32) : er_E (d + 1) 74 [.ref 0, .int k, .int i] (I, A, J) (.inl (some (.int (oR (a_ty dc k i))))) (ja_up I 0 0 (oT (a_ty dc k i)), A, J) := by
  have e : I 0 20 = nI dc.length := h.2.2.2.2.1
  have h6 := h.2.2.2.2.2.1
  have hd := h.2.2.2.2.2.2
  unfold a_ty
  cases hb : ins k dc.length with
  | false =>
    rcases ins_f hb with h0 | ⟨h0, h1⟩
    · exact er_74 (r := (_, _)) ⟨fun _ => ⟨fun h => absurd h (by decide), fun _ => rfl⟩, fun h => absurd h0 h⟩
    · exact er_74 (r := (_, _)) ⟨fun h => absurd h h0, fun _ => ⟨fun _ => ⟨fun h => absurd h (by decide), fun _ => rfl⟩, fun h => absurd (by rw [e]; exact h1) h⟩⟩
  | true =>
    obtain ⟨j, hj, rfl⟩ := ins_t (by omega) hb
    have v161 : vp_in (nI j) 161 := vp_in_nI (by omega) (by omega)
    have hx : dc[j]? = some dc[j] := List.getElem?_eq_getElem hj
    obtain ⟨_, _, _, e14, e15, hh⟩ := hd j _ hx
    have htk := tt_take hx
    rw [if_pos rfl, nI_clamp (by omega), hx]
    generalize dc[j] = x at e14 e15 hh htk
    have e14' : A 14 (nI j).toNatClampNeg = nI (pp_tt (dc.take j)) := by rw [nI_clamp (by omega)]; exact e14
    have e15' : A 15 (nI j).toNatClampNeg = nI x.2.2.2.2.length := by rw [nI_clamp (by omega)]; exact e15
    show er_E (d + 1) 74 [.ref 0, .int (nI j), .int i] (I, A, J) (.inl (some (.int (oR (a_fo x.2.2.2.2 i))))) (ja_up I 0 0 (oT (a_fo x.2.2.2.2 i)), A, J)
    unfold a_fo
    refine er_74 (r := (_, _)) ⟨fun h => absurd h (nI_pos (by omega)), fun _ => ⟨fun h => absurd h (by rw [e]; exact nI_ge hj (by omega)), fun _ => ?_⟩⟩
    rw [e15', e14']
    cases hb2 : ins i x.2.2.2.2.length with
    | false =>
      rcases ins_f hb2 with h0 | ⟨h0, h1⟩
      · exact ⟨fun _ => ⟨fun h => absurd h (by decide), fun _ => rfl⟩, fun h => absurd h0 h⟩
      · exact ⟨fun h => absurd h h0, fun _ => ⟨v161, fun h => absurd h (Int32.not_lt.mpr h1), fun _ => ⟨fun h => absurd h (by decide), fun _ => rfl⟩⟩⟩
    | true =>
      obtain ⟨m, hm, rfl⟩ := ins_t (by omega) hb2
      refine ⟨fun h => absurd h (nI_pos (by omega)), fun _ => ⟨v161, fun _ => ⟨fun _ => ⟨v161, ?_, ?_⟩, fun h => absurd rfl h⟩, fun h => absurd (nI_lt hm (by omega)) h⟩⟩
      · rw [nI_add]; exact vp_in_nI (by omega) (by omega)
      · have ev : A 16 (pp_tt (dc.take j) + m) = x.2.2.2.2.getD m 0 := hh m hm
        rw [nI_add, if_pos rfl, nI_clamp (n := m) (by omega), nI_clamp (n := pp_tt (dc.take j) + m) (by omega), ev]; rfl
end
