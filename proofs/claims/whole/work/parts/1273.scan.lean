/-! The tokens of a text, without any machine. -/
/-- a word's characters as one number -/
def pkN : List Nat → Nat
  | [] => 0
  | m :: l => m + 256 * pkN l
theorem sh_k : ∀ k, k < 8 → ((8 * nI k).toInt64 &&& 63).toBitVec.smod 64 = BitVec.ofNat 64 (8 * k) := by decide +kernel
theorem sh_8 : ((8 : Int32).toInt64 &&& 63) = (8 * nI 1).toInt64 &&& 63 := by decide +kernel
theorem or_lN (k x y : Nat) (hk : k < 8) (hx : x < 2 ^ (8 * k)) : lN x ||| (lN y <<< ((8 * nI k).toInt64 &&& 63)) = lN (x + 2 ^ (8 * k) * y) := by
  apply Int64.toBitVec_inj.mp
  rw [Int64.toBitVec_or, Int64.toBitVec_shiftLeft, sh_k k hk]
  apply BitVec.eq_of_toNat_eq
  have e1 : (lN x).toBitVec = BitVec.ofNat 64 x := rfl
  have e2 : (lN y).toBitVec = BitVec.ofNat 64 y := rfl
  have e3 : (lN (x + 2 ^ (8 * k) * y)).toBitVec = BitVec.ofNat 64 (x + 2 ^ (8 * k) * y) := rfl
  have h8 : 8 * k < 2 ^ 64 := by have : (2 : Nat) ^ 64 = 18446744073709551616 := by decide
                                 omega
  rw [e1, e2, e3, BitVec.toNat_or, BitVec.shiftLeft_eq', BitVec.toNat_shiftLeft, BitVec.toNat_ofNat, BitVec.toNat_ofNat, BitVec.toNat_ofNat, BitVec.toNat_ofNat, Nat.mod_eq_of_lt h8, Nat.shiftLeft_eq]
  have hP : 0 < 2 ^ (8 * k) := Nat.two_pow_pos _
  have hPQ : 2 ^ 64 = 2 ^ (8 * k) * 2 ^ (64 - 8 * k) := by rw [← Nat.pow_add]; congr 1; omega
  have hxx : x % 2 ^ 64 = x := Nat.mod_eq_of_lt (Nat.lt_of_lt_of_le hx (Nat.pow_le_pow_right (by decide) (by omega)))
  have hy : y % 2 ^ 64 * 2 ^ (8 * k) % 2 ^ 64 = 2 ^ (8 * k) * (y % 2 ^ (64 - 8 * k)) := by
    rw [Nat.mod_mul_mod, Nat.mul_comm y, hPQ, Nat.mul_mod_mul_left]
  rw [hxx, hy, Nat.or_comm, ← Nat.two_pow_add_eq_or_of_lt hx]
  have hz : x + 2 ^ (8 * k) * y = x + 2 ^ (8 * k) * (y % 2 ^ (64 - 8 * k)) + 2 ^ 64 * (y / 2 ^ (64 - 8 * k)) := by
    rw [hPQ, Nat.mul_assoc, Nat.add_assoc, ← Nat.mul_add]
    congr 2
    exact (Nat.mod_add_div _ _).symm
  rw [hz, Nat.add_mul_mod_self_left]
  have hlt : x + 2 ^ (8 * k) * (y % 2 ^ (64 - 8 * k)) < 2 ^ 64 := by
    have hQ := Nat.mod_lt y (Nat.two_pow_pos (64 - 8 * k))
    rw [hPQ]
    calc x + 2 ^ (8 * k) * (y % 2 ^ (64 - 8 * k)) < 2 ^ (8 * k) + 2 ^ (8 * k) * (y % 2 ^ (64 - 8 * k)) := Nat.add_lt_add_right hx _
      _ = 2 ^ (8 * k) * (y % 2 ^ (64 - 8 * k) + 1) := by rw [Nat.mul_add, Nat.mul_one, Nat.add_comm]
      _ ≤ 2 ^ (8 * k) * 2 ^ (64 - 8 * k) := Nat.mul_le_mul_left _ hQ
  rw [Nat.mod_eq_of_lt hlt, Nat.add_comm]
theorem or_c (a b : Int64) : a ||| b = b ||| a := by
  apply Int64.toBitVec_inj.mp
  rw [Int64.toBitVec_or, Int64.toBitVec_or, BitVec.or_comm]
theorem pk_lN : ∀ (l : List Nat), (∀ c ∈ l, c < 128) → rq_pk (l.map nI) = lN (pkN l)
  | [], _ => rfl
  | m :: l, h => by
    have hm : m < 128 := h m List.mem_cons_self
    have ih := pk_lN l (fun c hc => h c (List.mem_cons_of_mem _ hc))
    show (rq_pk (l.map nI) <<< ((8 : Int32).toInt64 &&& 63)) ||| (nI m).toInt64 = lN (m + 256 * pkN l)
    rw [ih, nI_l (by omega), sh_8, or_c]
    exact or_lN 1 m (pkN l) (by decide) (by show m < 256; omega)
theorem pkN_lt : ∀ (l : List Nat), (∀ c ∈ l, c < 128) → pkN l < 2 ^ (8 * l.length)
  | [], _ => by decide
  | m :: l, h => by
    have hm : m < 128 := h m List.mem_cons_self
    have ih := pkN_lt l (fun c hc => h c (List.mem_cons_of_mem _ hc))
    show m + 256 * pkN l < 2 ^ (8 * (l.length + 1))
    rw [Nat.mul_add, Nat.pow_add]
    have : (2 : Nat) ^ (8 * 1) = 256 := by decide
    rw [this]
    omega
theorem pkN_app : ∀ (l : List Nat) (c : Nat), pkN (l ++ [c]) = pkN l + 2 ^ (8 * l.length) * c
  | [], c => by show c + 256 * 0 = 0 + 2 ^ (8 * 0) * c; simp
  | m :: l, c => by
    show m + 256 * pkN (l ++ [c]) = m + 256 * pkN l + 2 ^ (8 * (l.length + 1)) * c
    rw [pkN_app l c, Nat.mul_add 8, Nat.pow_add]
    have : (2 : Nat) ^ (8 * 1) = 256 := by decide
    rw [this, Nat.mul_add, Nat.add_assoc, Nat.mul_comm (2 ^ (8 * l.length)) 256, Nat.mul_assoc]
/-- a word grows -/
theorem pk_app {l : List Nat} {c : Nat} (h : ∀ c ∈ l, c < 128) (hc : c < 128) (hl : l.length < 8) : rq_pk ((l ++ [c]).map nI) = rq_pk (l.map nI) ||| ((nI c).toInt64 <<< ((8 * nI l.length).toInt64 &&& 63)) := by
  rw [pk_lN _ h, pk_lN (l ++ [c]) (fun x hx => by
    rcases List.mem_append.mp hx with h1 | h1
    · exact h x h1
    · rw [List.mem_singleton.mp h1]; exact hc), nI_l (by omega), or_lN _ _ _ hl (pkN_lt l h), pkN_app]
theorem pkN_by : ∀ (l : List Nat) (i : Nat), (∀ c ∈ l, c < 128) → pkN l / 2 ^ (8 * i) % 256 = l.getD i 0
  | [], i, _ => by show 0 / 2 ^ (8 * i) % 256 = 0; rw [Nat.zero_div]
  | m :: l, 0, h => by
    have hm : m < 128 := h m List.mem_cons_self
    show (m + 256 * pkN l) / 2 ^ (8 * 0) % 256 = m
    rw [Nat.mul_zero, Nat.pow_zero, Nat.div_one]
    omega
  | m :: l, i + 1, h => by
    have hm : m < 128 := h m List.mem_cons_self
    have ih := pkN_by l i (fun c hc => h c (List.mem_cons_of_mem _ hc))
    show (m + 256 * pkN l) / 2 ^ (8 * (i + 1)) % 256 = l.getD i 0
    rw [Nat.mul_add 8 i 1, Nat.add_comm (8 * i), Nat.pow_add, ← Nat.div_div_eq_div_mul]
    have : (m + 256 * pkN l) / 2 ^ (8 * 1) = pkN l := by
      rw [show (2 : Nat) ^ (8 * 1) = 256 by decide]; omega
    rw [this]
    exact ih
theorem by_s : ∀ i, i < 8 → (((8 * nI i).toInt64.toUInt64 &&& Int64.toUInt64 63)).toNat % 64 = 8 * i := by decide +kernel
theorem by_b : ∀ b, b < 256 → (((lN b).toInt32).toUInt32 % 65536).toInt32 = nI b := by decide +kernel
theorem by_lN {N i : Nat} (hN : N < 2 ^ 64) (hi : i < 8) : cq_by (lN N) (nI i) = nI (N / 2 ^ (8 * i) % 256) := by
  unfold cq_by
  have e : ((((lN N).toUInt64 >>> ((8 * nI i).toInt64.toUInt64 &&& Int64.toUInt64 63)).toInt64) &&& 255) = lN (N / 2 ^ (8 * i) % 256) := by
    apply Int64.toBitVec_inj.mp
    apply BitVec.eq_of_toNat_eq
    rw [Int64.toBitVec_and, BitVec.toNat_and]
    have e1 : ((lN N).toUInt64 >>> ((8 * nI i).toInt64.toUInt64 &&& Int64.toUInt64 63)).toInt64.toBitVec.toNat = ((lN N).toUInt64 >>> ((8 * nI i).toInt64.toUInt64 &&& Int64.toUInt64 63)).toNat := rfl
    have e2 : (255 : Int64).toBitVec.toNat = 2 ^ 8 - 1 := by decide
    have e3 : (lN N).toUInt64.toNat = N := by
      show N % 2 ^ 64 = N
      exact Nat.mod_eq_of_lt hN
    have e4 : (lN (N / 2 ^ (8 * i) % 256)).toBitVec.toNat = N / 2 ^ (8 * i) % 256 := by
      show N / 2 ^ (8 * i) % 256 % 2 ^ 64 = _
      exact Nat.mod_eq_of_lt (Nat.lt_trans (Nat.mod_lt _ (by decide)) (by decide))
    rw [e1, e2, e4, UInt64.toNat_shiftRight, by_s i hi, e3, Nat.and_two_pow_sub_one_eq_mod, Nat.shiftRight_eq_div_pow]
  rw [e]
  exact by_b _ (Nat.mod_lt _ (by decide))
theorem pk_by {l : List Nat} (h : ∀ c ∈ l, c < 128) (hl : l.length ≤ 8) {i : Nat} (hi : i < 8) : cq_by (rq_pk (l.map nI)) (nI i) = (l.map nI).getD i 0 := by
  rw [pk_lN l h, by_lN (Nat.lt_of_lt_of_le (pkN_lt l h) (Nat.pow_le_pow_right (by decide) (by omega))) hi, pkN_by l i h]
  by_cases hil : i < l.length
  · rw [List.getD_eq_getElem?_getD, List.getD_eq_getElem?_getD, List.getElem?_map, List.getElem?_eq_getElem hil]; rfl
  · rw [List.getD_eq_getElem?_getD, List.getD_eq_getElem?_getD, List.getElem?_map, List.getElem?_eq_none (by omega)]; rfl
/-! the tokens so far, the last first, and whether the next character touches the last -/
abbrev sk_T : Type := List (Int32 × List Nat)
def sk_c (k : Int32) (c : Nat) : Bool := if isD (nI c) then k == 2 || k == 3 else isL (nI c) && k == 2
def sk_b (c : Nat) : Bool := Nat.beq c 32 || Nat.beq c 10
def sk_n (l : sk_T) (c : Nat) : sk_T × Bool := if sk_b c then (l, false) else ((kdf c, [c]) :: l, true)
def sk_m (k : Int32) : Nat := if k = 2 then 8 else 4
def sk_s (x : sk_T × Bool) (c : Nat) : sk_T × Bool := match x with
  | ((k, w) :: l, true) => if sk_c k c then (if w.length < sk_m k then ((k, w ++ [c]) :: l, true) else ((1, [c]) :: (k, w) :: l, true)) else sk_n ((k, w) :: l) c
  | (l, _) => sk_n l c
def sk (x : sk_T × Bool) (t : List Nat) : sk_T × Bool := t.foldl sk_s x
def fk (x : Int32 × List Nat) : Int32 := if x.1 = 2 then wdf (rq_pk (x.2.map nI)) else x.1
def tsf (x : Int32 × List Nat) : pp_T := (fk x, x.2.map nI, rq_pk (x.2.map nI))
def tsOf (l : sk_T) : List pp_T := l.reverse.map tsf
/-- what holds of a token -/
abbrev tkO (x : Int32 × List Nat) : Prop := 1 ≤ x.2.length ∧ x.2.length ≤ 8 ∧ (∀ c ∈ x.2, 1 ≤ c ∧ c < 128) ∧ ∃ m, x.1 = nI m ∧ 1 ≤ m ∧ m < 128
def tot (l : sk_T) : Nat := (l.map (fun x => x.2.length)).sum
theorem kdf_k : ∀ m, m < 128 → kdf m = 1 ∨ kdf m = 2 ∨ kdf m = 3 ∨ (kdf m = nI m ∧ 33 ≤ m) := by decide +kernel
theorem tkO_1 {k : Int32} {c : Nat} (h0 : 1 ≤ c) (hc : c < 128) (hk : ∃ m, k = nI m ∧ 1 ≤ m ∧ m < 128) : tkO (k, [c]) :=
  ⟨Nat.le_refl _, by show 1 ≤ 8; decide, fun x hx => by rw [List.mem_singleton.mp hx]; exact ⟨h0, hc⟩, hk⟩
theorem kdf_m {c : Nat} (h0 : 1 ≤ c) (hc : c < 128) : ∃ m, kdf c = nI m ∧ 1 ≤ m ∧ m < 128 := by
  rcases kdf_k c hc with h | h | h | h
  · exact ⟨1, h, by decide, by decide⟩
  · exact ⟨2, h, by decide, by decide⟩
  · exact ⟨3, h, by decide, by decide⟩
  · exact ⟨c, h.1, h0, hc⟩
theorem sk_s_ok {l l' : sk_T} {t t' : Bool} {c : Nat} (h0 : 1 ≤ c) (hc : c < 128) (hl : ∀ x ∈ l, tkO x) (e : sk_s (l, t) c = (l', t')) : (∀ x ∈ l', tkO x) ∧ tot l' ≤ tot l + 1 := by
  have nk : sk_n l c = (l', t') → (∀ x ∈ l', tkO x) ∧ tot l' ≤ tot l + 1 := by
    intro e
    unfold sk_n at e
    split at e
    · cases e; exact ⟨hl, by omega⟩
    · cases e
      refine ⟨fun x hx => ?_, ?_⟩
      · rcases List.mem_cons.mp hx with h | h
        · rw [h]; exact tkO_1 h0 hc (kdf_m h0 hc)
        · exact hl x h
      · show tot ((kdf c, [c]) :: l) ≤ _
        unfold tot
        rw [List.map_cons, List.sum_cons]
        show 1 + _ ≤ _
        omega
  cases l with
  | nil => exact nk (by cases t <;> exact e)
  | cons x l =>
    obtain ⟨k, w⟩ := x
    cases t with
    | false => exact nk e
    | true =>
      have e : (if sk_c k c then (if w.length < sk_m k then ((k, w ++ [c]) :: l, true) else ((1, [c]) :: (k, w) :: l, true)) else sk_n ((k, w) :: l) c) = (l', t') := e
      split at e
      · have hx := hl (k, w) List.mem_cons_self
        split at e
        · rename_i hw
          cases e
          have hw8 : w.length < 8 := by
            unfold sk_m at hw
            split at hw <;> omega
          refine ⟨fun x hx' => ?_, ?_⟩
          · rcases List.mem_cons.mp hx' with h | h
            · rw [h]
              refine ⟨?_, ?_, fun y hy => ?_, hx.2.2.2⟩
              · show 1 ≤ (w ++ [c]).length
                rw [List.length_append]; show 1 ≤ w.length + 1; omega
              · show (w ++ [c]).length ≤ 8
                rw [List.length_append]; show w.length + 1 ≤ 8; omega
              · rcases List.mem_append.mp hy with h | h
                · exact hx.2.2.1 y h
                · rw [List.mem_singleton.mp h]; exact ⟨h0, hc⟩
            · exact hl x (List.mem_cons_of_mem _ h)
          · show tot ((k, w ++ [c]) :: l) ≤ tot ((k, w) :: l) + 1
            unfold tot
            rw [List.map_cons, List.sum_cons, List.map_cons, List.sum_cons]
            show (w ++ [c]).length + _ ≤ w.length + _ + 1
            rw [List.length_append]
            show w.length + 1 + _ ≤ _
            omega
        · cases e
          refine ⟨fun x hx' => ?_, ?_⟩
          · rcases List.mem_cons.mp hx' with h | h
            · rw [h]; exact tkO_1 h0 hc ⟨1, rfl, by decide, by decide⟩
            · exact hl x h
          · show tot ((1, [c]) :: (k, w) :: l) ≤ tot ((k, w) :: l) + 1
            unfold tot
            rw [List.map_cons, List.sum_cons]
            show 1 + _ ≤ _
            omega
      · exact nk e
theorem sk_ok : ∀ (t : List Nat) (l : sk_T) (b : Bool), (∀ c ∈ t, 1 ≤ c ∧ c < 128) → (∀ x ∈ l, tkO x) → (∀ x ∈ (sk (l, b) t).1, tkO x) ∧ tot (sk (l, b) t).1 ≤ tot l + t.length
  | [], l, b, _, hl => ⟨hl, by show tot l ≤ tot l + 0; omega⟩
  | c :: t, l, b, ht, hl => by
    have hc := ht c List.mem_cons_self
    cases e : sk_s (l, b) c with
    | mk l' b' =>
      have h1 := sk_s_ok hc.1 hc.2 hl e
      have h2 := sk_ok t l' b' (fun x hx => ht x (List.mem_cons_of_mem _ hx)) h1.1
      have es : sk (l, b) (c :: t) = sk (l', b') t := by
        show t.foldl sk_s (sk_s (l, b) c) = _
        rw [e]; rfl
      rw [es]
      refine ⟨h2.1, ?_⟩
      have := h1.2
      have := h2.2
      rw [List.length_cons]
      omega
theorem tot_le : ∀ (l : sk_T), (∀ x ∈ l, tkO x) → l.length ≤ tot l
  | [], _ => Nat.le_refl _
  | x :: l, h => by
    have h1 := (h x List.mem_cons_self).1
    have ih := tot_le l (fun y hy => h y (List.mem_cons_of_mem _ hy))
    show l.length + 1 ≤ tot (x :: l)
    unfold tot at *
    rw [List.map_cons, List.sum_cons]
    omega
theorem wdf_k (v : Int64) : ∃ m, wdf v = nI m ∧ 1 ≤ m ∧ m < 128 := by
  unfold wdf
  repeat' split
  all_goals first
    | exact ⟨4, rfl, by decide, by decide⟩
    | exact ⟨5, rfl, by decide, by decide⟩
    | exact ⟨6, rfl, by decide, by decide⟩
    | exact ⟨7, rfl, by decide, by decide⟩
    | exact ⟨8, rfl, by decide, by decide⟩
    | exact ⟨9, rfl, by decide, by decide⟩
    | exact ⟨10, rfl, by decide, by decide⟩
    | exact ⟨11, rfl, by decide, by decide⟩
    | exact ⟨12, rfl, by decide, by decide⟩
    | exact ⟨2, rfl, by decide, by decide⟩
theorem fk_m {x : Int32 × List Nat} (h : tkO x) : ∃ m, fk x = nI m ∧ 1 ≤ m ∧ m < 128 := by
  unfold fk
  split
  · exact wdf_k _
  · exact h.2.2.2
section
variable {l : sk_T}
theorem ts_len : (tsOf l).length = l.length := by unfold tsOf; rw [List.length_map, List.length_reverse]
theorem ts_at {i : Nat} (h : i < l.length) : (tsOf l)[i]? = some (tsf (l.reverse[i]'(by rw [List.length_reverse]; exact h))) := by
  unfold tsOf
  rw [List.getElem?_map, List.getElem?_eq_getElem (by rw [List.length_reverse]; exact h)]; rfl
theorem ts_ex {i : Nat} (h : i < l.length) : ∃ x ∈ l, (tsOf l)[i]? = some (tsf x) :=
  ⟨_, List.mem_reverse.mp (List.getElem_mem (by rw [List.length_reverse]; exact h)), ts_at h⟩
theorem ts_ok (hl : ∀ x ∈ l, tkO x) (ht : tot l ≤ 160) : pp_ok (tsOf l) := by
  have h1 := tot_le l hl
  refine ⟨by rw [ts_len]; omega, fun t h => ?_⟩
  rw [ts_len] at h
  obtain ⟨x, hx, e⟩ := ts_ex h
  have ho := hl x hx
  have ek : pp_k (tsOf l) t = fk x := by unfold pp_k; rw [e]; rfl
  have ec : pp_cs (tsOf l) t = x.2.map nI := by unfold pp_cs; rw [e]; rfl
  have ew : pp_wd (tsOf l) t = rq_pk (x.2.map nI) := by unfold pp_wd; rw [e]; rfl
  rw [ek, ec, ew, List.length_map]
  obtain ⟨m, hm, hm1, hm2⟩ := fk_m ho
  refine ⟨?_, ?_, ho.1, ho.2.1, ?_, ?_, rfl⟩
  · rw [hm]; exact nI_ne0 (by omega) (by omega)
  · rw [hm]; exact cq_chI hm2
  · intro c hc
    obtain ⟨y, hy, rfl⟩ := List.mem_map.mp hc
    exact ⟨cq_chI (ho.2.2.1 y hy).2, nI_ne0 (by have := (ho.2.2.1 y hy).1; omega) (by have := (ho.2.2.1 y hy).2; omega)⟩
  · intro i hi
    exact pk_by (fun c hc => (ho.2.2.1 c hc).2) ho.2.1 hi
theorem sum_rev (l : List Nat) : l.reverse.sum = l.sum := by
  induction l with
  | nil => rfl
  | cons x l ih => rw [List.reverse_cons, List.sum_append, List.sum_cons, List.sum_cons, List.sum_nil, ih]; omega
theorem ts_tl (hl : ∀ x ∈ l, tkO x) (ht : tot l ≤ 160) : tLen (tsOf l) := by
  have h := ts_ok hl ht
  refine ⟨h.1, fun t h1 => (h.2 t h1).2.2.1, ?_⟩
  unfold cr tsOf
  rw [List.drop_zero, List.map_map, List.map_reverse, sum_rev]
  have : l.map ((fun x : pp_T => x.2.1.length) ∘ tsf) = l.map (fun x => x.2.length) := by
    refine List.map_congr_left (fun x _ => ?_)
    show (x.2.map nI).length = x.2.length
    rw [List.length_map]
  rw [this]
  exact ht
end
