/-! the JDK's members over literals: what they answer -/
section
variable {code : Nat → ja_S} {C : ja_C} {r : ja_O × ja_w} {pc n : Nat} {L : ja_L} {st : List Value} {w : ja_w}
theorem jt_bret {x : Int32} (e : code pc = js_bret) (hz : narrow .byte (.int x) = .int x) (h : r = (.inl (some (.int x)), w)) : ja_R code C r pc L [.int x] w := ja_sq e ⟨hz, h⟩
theorem jt_ckI {j na q : Nat} {t as : List Value} {w1 : ja_w} {z : Int32} (e : code pc = js_ck j na n) (hs : st.drop na = .ref q :: t) (ha : .ref q :: (st.take na).reverse = as) (hq : ji_lk q = true) (hb : Nat.ble (t.map fun v => v.category).sum 8 = true) (hc : C j as w (.inl (some (.int z))) w1) (h : ja_R code C r n L (.int z :: t) w1) : ja_R code C r pc L st w :=
  ja_sq e (by unfold js_ck; simp only [hs]; exact ⟨hq, hb, some (.int z), w1, ha ▸ hc, h⟩)
theorem jt_max {x y : Int32} (e : code pc = js_max n) (hb : Nat.ble (st.map fun v => v.category).sum 8 = true) (h : ja_R code C r n L (.int (if x < y then y else x) :: st) w) : ja_R code C r pc L (.int y :: .int x :: st) w := ja_sq e ⟨hb, h⟩
end
section
variable {d i : Nat} {w : ja_w}
theorem lk_i (h : i < 10) : ji_lk (100 + i) = true := by
  unfold ji_lk
  rw [Bool.and_eq_true]
  exact ⟨Nat.ble_eq_true_of_le (by omega), Nat.ble_eq_true_of_le (by omega)⟩
theorem vk_i (h : i < 10) : ji_vk (100 + i + 100) = true := by
  unfold ji_vk
  rw [Bool.and_eq_true]
  exact ⟨Nat.ble_eq_true_of_le (by omega), Nat.ble_eq_true_of_le (by omega)⟩
theorem sh0_i : ∀ i, i < 10 → Int32.ofNat (ji_len.getD i 0) >>> ((0 : Int32) &&& 31) = nI (ji_len.getD i 0) := by decide
/-- isLatin1 -/
theorem ek_89 (h : i < 10) : ec_E (d + 1) 89 [.ref (100 + i)] w (.inl (some (.int 1))) w :=
  And.intro rfl (jt_sco kc_89_0 (jt_if kc_89_3 (fun h => absurd h (by decide)) (fun _ => jt_aload kc_89_6 rfl (jt_gco kc_89_7 (lk_i h) (jt_if kc_89_10 (fun _ => jt_ic kc_89_13 (jt_goto kc_89_14 (jt_zret kc_89_18 (Or.inr rfl) rfl))) (fun h => absurd rfl h))))))
/-- coder -/
theorem ek_91 (h : i < 10) : ec_E (d + 1) 91 [.ref (100 + i)] w (.inl (some (.int 0))) w :=
  And.intro rfl (jt_sco kc_91_0 (jt_if kc_91_3 (fun h => absurd h (by decide)) (fun _ => jt_aload kc_91_6 rfl (jt_gco kc_91_7 (lk_i h) (jt_goto kc_91_10 (jt_bret kc_91_14 rfl rfl))))))
/-- length -/
theorem ek_90 (h : i < 10) : ec_E (d + 2) 90 [.ref (100 + i)] w (.inl (some (.int (nI (ji_len.getD i 0))))) w := by
  refine And.intro rfl (jt_aload kc_90_0 rfl (jt_gva kc_90_1 (lk_i h) (jt_alk kc_90_4 (vk_i h) ?_)))
  rw [show 100 + i + 100 - 200 = i by omega]
  refine jt_aload kc_90_5 rfl (jt_ckI kc_90_6 rfl rfl (lk_i h) rfl (ek_91 h) (jt_ib kc_90_9 (jt_iret kc_90_10 ?_)))
  rw [sh0_i i h]
/-- canEncode -/
theorem ek_95 {c : Int32} (h0 : ¬ c < 0) (h1 : ¬ 255 < c) : ec_E (d + 1) 95 [.int c] w (.inl (some (.int 1))) w :=
  And.intro rfl (jt_iload kc_95_0 rfl (jt_if kc_95_1 (fun h => absurd h h0) (fun _ => jt_iload kc_95_4 rfl (jt_ic kc_95_5 (jt_icmp kc_95_8 (fun h => absurd h h1) (fun _ => jt_ic kc_95_11 (jt_goto kc_95_12 (jt_zret kc_95_16 (Or.inr rfl) rfl))))))))
/-- where a character stands in a row -/
def ixf (c : Int32) : List Int32 → Nat → Int32
  | [], _ => -1
  | x :: l, k => if x = c then nI k else ixf c l (k + 1)
abbrev sgn : List Int32 := ji_byt.getD 0 []
theorem sgn_l : sgn.length = 16 := rfl
/-- indexOfChar's loop -/
theorem ek_96l {C : ja_C} {c a : Int32} : ∀ (m k : Nat), k + m = 16 → ja_R (ja_code tc_96) C (.inl (some (.int (ixf c (sgn.drop k) k))), w) 7 [some (.ref 200), some (.int a), some (.int 0), some (.int 16), some (.int c), some (.int (nI k))] [] w
  | 0, k, hk => by
    obtain rfl : k = 16 := by omega
    exact jt_iload kc_96_7 rfl (jt_iload kc_96_9 rfl (jt_icmp kc_96_10 (fun _ => jt_ic kc_96_31 (jt_iret kc_96_32 rfl)) (fun h => absurd (show (16 : Int32) ≤ nI 16 by decide) h)))
  | m + 1, k, hk => by
    have ih := ek_96l (C := C) (c := c) (a := a) m (k + 1) (by omega)
    have hl : k < sgn.length := by rw [sgn_l]; omega
    have ev : sgn.getD k 0 = sgn[k] := by rw [List.getD_eq_getElem?_getD, List.getElem?_eq_getElem hl]; rfl
    rw [List.drop_eq_getElem_cons hl]
    refine jt_iload kc_96_7 rfl (jt_iload kc_96_9 rfl (jt_icmp kc_96_10 (fun h => absurd h (nI_ge (a := k) (b := 16) (by omega) (by omega))) (fun _ => jt_aload kc_96_13 rfl (jt_iload kc_96_14 rfl (jt_bal kc_96_16 rfl (vp_in_nI (n := k) (N := 16) (by omega) (by omega)) ?_)))))
    rw [nI_clamp (by omega)]
    have ev' : (ji_byt.getD (200 - 200) []).getD k 0 = sgn[k] := ev
    rw [ev']
    refine jt_iload kc_96_17 rfl (jt_icmp kc_96_19 (fun h => jt_iload kc_96_22 rfl (jt_iret kc_96_24 ?_)) (fun h => jt_iinc kc_96_25 rfl rfl (jt_goto kc_96_28 ?_)))
    · have h' : sgn[k] = c := h
      show _ = (_, _)
      rw [ixf, if_pos h']
    · have h' : ¬ sgn[k] = c := h
      rw [ixf, if_neg h']
      have e : nI k + 1 = nI (k + 1) := nI_1 k
      show ja_R _ _ _ 7 [some (.ref 200), some (.int a), some (.int 0), some (.int 16), some (.int c), some (.int (nI k + 1))] _ _
      rw [e]
      exact ih
theorem b_c : ∀ m, m < 128 → (nI m).toInt8.toInt32 = nI m := by decide +kernel
theorem ek_96 {m : Nat} (hm : m < 128) : ec_E (d + 1) 96 [.ref 200, .int (nI m), .int 0, .int 16] w (.inl (some (.int (ixf (nI m) sgn 0)))) w := by
  have h := ek_96l (w := w) (C := ec_E d) (c := nI m) (a := nI m) 16 0 rfl
  refine And.intro rfl (jt_iload kc_96_0 rfl (jt_i2b kc_96_1 (jt_istore kc_96_2 rfl (jt_iload kc_96_4 rfl (jt_istore kc_96_5 rfl ?_)))))
  rw [b_c m hm]
  exact h
theorem ek_94 {m : Nat} (hm : m < 128) : ec_E (d + 2) 94 [.ref 200, .int (nI m), .int 0, .int 16] w (.inl (some (.int (ixf (nI m) sgn 0)))) w :=
  And.intro rfl (jt_iload kc_94_0 rfl (jt_csI kc_94_1 rfl rfl rfl rfl (ek_95 (nI_pos (by omega)) (nI_nlt (a := 255) (b := m) (by omega) (by omega))) (jt_if kc_94_4 (fun h => absurd h (by decide)) (fun _ => jt_iload kc_94_9 rfl (jt_ic kc_94_10 (jt_max kc_94_11 rfl (jt_istore kc_94_14 rfl (jt_iload kc_94_15 rfl (jt_aload kc_94_16 rfl (jt_alk kc_94_17 rfl (jt_min kc_94_18 rfl (jt_istore kc_94_21 rfl (jt_iload kc_94_22 rfl (jt_iload kc_94_23 rfl (jt_icmp kc_94_24 (fun _ => jt_aload kc_94_29 rfl (jt_iload kc_94_30 rfl (jt_iload kc_94_31 rfl (jt_iload kc_94_32 rfl (jt_csI kc_94_33 rfl rfl rfl rfl (ek_96 hm) (jt_iret kc_94_36 rfl)))))) (fun h => absurd (show (if (0 : Int32) < 0 then (0 : Int32) else 0) < (if (Int32.ofNat (ji_len.getD (200 - 200) 0)) < (16 : Int32) then (Int32.ofNat (ji_len.getD (200 - 200) 0)) else 16) by decide) h))))))))))))))))
theorem ek_88 {m : Nat} (hm : m < 128) : ec_E (d + 3) 88 [.ref 100, .int (nI m), .int 0] w (.inl (some (.int (ixf (nI m) sgn 0)))) w :=
  And.intro rfl (jt_aload kc_88_0 rfl (jt_ckI kc_88_1 rfl rfl rfl rfl (ek_89 (i := 0) (by decide)) (jt_if kc_88_4 (fun h => absurd h (by decide)) (fun _ => jt_aload kc_88_7 rfl (jt_gva kc_88_8 rfl (jt_iload kc_88_11 rfl (jt_iload kc_88_12 rfl (jt_aload kc_88_13 rfl (jt_ckI kc_88_14 rfl rfl rfl rfl (ek_90 (i := 0) (by decide)) (jt_csI kc_88_17 rfl rfl rfl rfl (ek_94 hm) (jt_goto kc_88_20 (jt_iret kc_88_36 rfl))))))))))))
theorem ek_87 {m : Nat} (hm : m < 128) : ec_E (d + 4) 87 [.ref 100, .int (nI m)] w (.inl (some (.int (ixf (nI m) sgn 0)))) w :=
  And.intro rfl (jt_aload kc_87_0 rfl (jt_iload kc_87_1 rfl (jt_ic kc_87_2 (jt_ckI kc_87_3 rfl rfl rfl rfl (ek_88 hm) (jt_iret kc_87_6 rfl)))))
def isL (c : Int32) : Bool := decide (97 ≤ c) && decide (c ≤ 122)
def isD (c : Int32) : Bool := decide (48 ≤ c) && decide (c ≤ 57)
theorem cl_29 {c : Int32} : ec_E (d + 1) 29 [.int c] w (.inl (some (.int (bI (isL c))))) w := by
  obtain ⟨I, A, J⟩ := w
  unfold isL
  refine ec_29 (r := (_, _)) ⟨fun h => ?_, fun h => ⟨fun h2 => ?_, fun h2 => ?_⟩⟩
  · rw [decide_eq_false (show ¬ (97 : Int32) ≤ c from Int32.not_le.mpr h)]; rfl
  · rw [decide_eq_true (show (97 : Int32) ≤ c from Int32.not_lt.mp h), decide_eq_false (show ¬ c ≤ (122 : Int32) from Int32.not_le.mpr h2)]; rfl
  · rw [decide_eq_true (show (97 : Int32) ≤ c from Int32.not_lt.mp h), decide_eq_true (show c ≤ (122 : Int32) from Int32.not_lt.mp h2)]; rfl
theorem cl_30 {c : Int32} : ec_E (d + 1) 30 [.int c] w (.inl (some (.int (bI (isD c))))) w := by
  obtain ⟨I, A, J⟩ := w
  unfold isD
  refine ec_30 (r := (_, _)) ⟨fun h => ?_, fun h => ⟨fun h2 => ?_, fun h2 => ?_⟩⟩
  · rw [decide_eq_false (show ¬ (48 : Int32) ≤ c from Int32.not_le.mpr h)]; rfl
  · rw [decide_eq_true (show (48 : Int32) ≤ c from Int32.not_lt.mp h), decide_eq_false (show ¬ c ≤ (57 : Int32) from Int32.not_le.mpr h2)]; rfl
  · rw [decide_eq_true (show (48 : Int32) ≤ c from Int32.not_lt.mp h), decide_eq_true (show c ≤ (57 : Int32) from Int32.not_lt.mp h2)]; rfl
/-- what kindOf answers, over the characters -/
def kdf (m : Nat) : Int32 := if isL (nI m) then 2 else if isD (nI m) then 3 else if ixf (nI m) sgn 0 < 0 then 1 else nI m
theorem ek_28 {m : Nat} (hm : m < 128) : ec_E (d + 5) 28 [.int (nI m)] w (.inl (some (.int (kdf m)))) w := by
  unfold kdf
  refine And.intro rfl (jt_iload kc_28_0 rfl (jt_csI kc_28_1 rfl rfl rfl rfl cl_29 (jt_if kc_28_4 (fun h => ?_) (fun h => ?_))))
  · have hL : isL (nI m) = false := by
      cases e : isL (nI m) with
      | false => rfl
      | true => rw [e] at h; exact absurd h (by decide)
    rw [hL, if_neg (by decide)]
    refine jt_iload kc_28_9 rfl (jt_csI kc_28_10 rfl rfl rfl rfl cl_30 (jt_if kc_28_13 (fun h => ?_) (fun h => ?_)))
    · have hD : isD (nI m) = false := by
        cases e : isD (nI m) with
        | false => rfl
        | true => rw [e] at h; exact absurd h (by decide)
      rw [hD, if_neg (by decide)]
      refine jt_lds kc_28_18 (jt_iload kc_28_20 rfl (jt_ckI kc_28_21 rfl rfl rfl rfl (ek_87 hm) (jt_if kc_28_24 (fun h => jt_ic kc_28_31 (jt_iret kc_28_32 ?_)) (fun h => jt_iload kc_28_27 rfl (jt_goto kc_28_28 (jt_iret kc_28_32 ?_))))))
      · have h' : ixf (nI m) sgn 0 < 0 := h
        rw [if_pos h']
      · have h' : ¬ ixf (nI m) sgn 0 < 0 := h
        rw [if_neg h']
    · have hD : isD (nI m) = true := by
        cases e : isD (nI m) with
        | true => rfl
        | false => rw [e] at h; exact absurd rfl h
      rw [hD, if_pos rfl]
      exact jt_ic kc_28_16 (jt_iret kc_28_17 rfl)
  · have hL : isL (nI m) = true := by
      cases e : isL (nI m) with
      | true => rfl
      | false => rw [e] at h; exact absurd rfl h
    rw [hL, if_pos rfl]
    exact jt_ic kc_28_7 (jt_iret kc_28_8 rfl)
theorem kdf_e : ∀ m, m < 128 → kdf m = ec_kind (nI m) := by decide +kernel
/-- checkIndex -/
theorem ek_99 {k n : Nat} {v : Value} (hv : v.category = 1) (hk : k < n) (hn : n < 1000) : ec_E (d + 1) 99 [.int (nI k), .int (nI n), v] w (.inl (some (.int (nI k)))) w := by
  have e : ja_en1 [.int (nI k), .int (nI n), v] = [some (.int (nI k)), some (.int (nI n)), some v] := by
    simp only [ja_en1, hv]; rfl
  refine And.intro ?_ ?_
  · show Nat.ble (ja_en1 [.int (nI k), .int (nI n), v]).length 3 = true
    rw [e]; rfl
  · show ja_R (ja_code tc_99) _ _ 0 (ja_en 3 [.int (nI k), .int (nI n), v]) [] w
    unfold ja_en
    rw [e]
    exact jt_iload kc_99_0 rfl (jt_if kc_99_1 (fun h => absurd h (nI_pos (by omega))) (fun _ => jt_iload kc_99_4 rfl (jt_iload kc_99_5 rfl (jt_icmp kc_99_6 (fun _ => jt_iload kc_99_16 rfl (jt_iret kc_99_17 rfl)) (fun h => absurd (nI_lt hk (by omega)) h)))))
theorem ek_93 {k n : Nat} (hk : k < n) (hn : n < 1000) : ec_E (d + 2) 93 [.int (nI k), .int (nI n)] w (.inl none) w :=
  And.intro rfl (jt_iload kc_93_0 rfl (jt_iload kc_93_1 rfl (jt_sfm kc_93_2 (jt_csI kc_93_5 rfl rfl rfl rfl (ek_99 rfl hk hn) (jt_pop kc_93_8 (jt_ret kc_93_9 rfl))) (jt_csI kc_93_5 rfl rfl rfl rfl (ek_99 rfl hk hn) (jt_pop kc_93_8 (jt_ret kc_93_9 rfl))))))
abbrev lby (i k : Nat) : Int32 := (ji_byt.getD i []).getD k 0
theorem lby_c : ∀ i, i < 10 → ∀ k, k < ji_len.getD i 0 → ((lby i k &&& 255).toUInt32 % 65536).toInt32 = lby i k ∧ (lby i k).toNatClampNeg < 128 ∧ lby i k = nI (lby i k).toNatClampNeg := by decide +kernel
theorem len_c : ∀ i, i < 10 → ji_len.getD i 0 ≤ 16 := by decide
theorem ch_c : ∀ m, m < 128 → (nI m).toUInt32.toUInt16.toUInt32.toInt32 = nI m := by decide +kernel
theorem cq_chI {m : Nat} (hm : m < 128) : cq_ch (nI m) := by
  show Value.int (nI m).toUInt32.toUInt16.toUInt32.toInt32 = .int (nI m)
  rw [ch_c m hm]
theorem ek_97 {k : Nat} (hi : i < 10) (hk : k < ji_len.getD i 0) : ec_E (d + 3) 97 [.ref (100 + i + 100), .int (nI k)] w (.inl (some (.int (lby i k)))) w := by
  have h16 := len_c i hi
  have e : 100 + i + 100 - 200 = i := by omega
  obtain ⟨e1, e2, e3⟩ := lby_c i hi k hk
  refine And.intro rfl (jt_iload kc_97_0 rfl (jt_aload kc_97_1 rfl (jt_alk kc_97_2 (vk_i hi) ?_)))
  rw [e]
  refine jt_csV kc_97_3 rfl rfl rfl rfl (ek_93 hk (by omega)) (jt_aload kc_97_6 rfl (jt_iload kc_97_7 rfl (jt_bal kc_97_8 (vk_i hi) ?_ ?_)))
  · rw [e]; exact vp_in_nI hk (by omega)
  · rw [e, nI_clamp (by omega)]
    refine jt_ic kc_97_9 (jt_ib kc_97_12 (jt_i2c kc_97_13 ?_))
    show ja_R _ _ _ 14 _ [.int ((lby i k &&& 255).toUInt32 % 65536).toInt32] w
    rw [e1]
    exact jt_cret kc_97_14 (by rw [e3]; exact cq_chI e2) rfl
theorem ek_92 {k : Nat} (hi : i < 10) (hk : k < ji_len.getD i 0) : ec_E (d + 4) 92 [.ref (100 + i), .int (nI k)] w (.inl (some (.int (lby i k)))) w := by
  obtain ⟨e1, e2, e3⟩ := lby_c i hi k hk
  exact And.intro rfl (jt_aload kc_92_0 rfl (jt_ckI kc_92_1 rfl rfl (lk_i hi) rfl (ek_89 hi) (jt_if kc_92_4 (fun h => absurd h (by decide)) (fun _ => jt_aload kc_92_7 rfl (jt_gva kc_92_8 (lk_i hi) (jt_iload kc_92_11 rfl (jt_csI kc_92_12 rfl rfl rfl rfl (ek_97 hi hk) (jt_cret kc_92_15 (by rw [e3]; exact cq_chI e2) rfl))))))))
/-- a word as packed puts it together -/
def pka (i : Nat) : Nat → Int64
  | 0 => 0
  | k + 1 => pka i k ||| ((lby i k).toInt64 <<< ((8 * nI k).toInt64 &&& 63))
theorem ek_86l (hi : i < 10) : ∀ (m k : Nat), k + m = ji_len.getD i 0 → ja_R (ja_code tc_86) (ec_E (d + 4)) (.inl (some (.long (pka i (ji_len.getD i 0)))), w) 4 [some (.ref (100 + i)), some (.long (pka i k)), none, some (.int (nI k))] [] w
  | 0, k, hk => by
    have h16 := len_c i hi
    obtain rfl : k = ji_len.getD i 0 := by omega
    exact jt_iload kc_86_4 rfl (jt_aload kc_86_5 rfl (jt_ckI kc_86_6 rfl rfl (lk_i hi) rfl (ek_90 hi) (jt_icmp kc_86_9 (fun _ => jt_lload kc_86_32 rfl (jt_lret kc_86_33 rfl)) (fun h => absurd (nI_le (Nat.le_refl _) (by omega)) h))))
  | m + 1, k, hk => by
    have h16 := len_c i hi
    have ih := ek_86l hi m (k + 1) (by omega)
    refine jt_iload kc_86_4 rfl (jt_aload kc_86_5 rfl (jt_ckI kc_86_6 rfl rfl (lk_i hi) rfl (ek_90 hi) (jt_icmp kc_86_9 (fun h => absurd h (nI_ge (by omega) (by omega))) (fun _ => jt_lload kc_86_12 rfl (jt_aload kc_86_13 rfl (jt_iload kc_86_14 rfl (jt_ckI kc_86_15 rfl rfl (lk_i hi) rfl (ek_92 hi (by omega)) (jt_i2l kc_86_18 (jt_ic kc_86_19 (jt_iload kc_86_21 rfl (jt_ib kc_86_22 (jt_ls kc_86_23 (jt_lb kc_86_24 (jt_lstore kc_86_25 rfl (jt_iinc kc_86_26 rfl rfl (jt_goto kc_86_29 ?_))))))))))))))))
    have e : nI k + 1 = nI (k + 1) := nI_1 k
    show ja_R _ _ _ 4 [some (.ref (100 + i)), some (.long (pka i (k + 1))), none, some (.int (nI k + 1))] _ _
    rw [e]
    exact ih
theorem ek_86 (hi : i < 10) : ec_E (d + 5) 86 [.ref (100 + i)] w (.inl (some (.long (pka i (ji_len.getD i 0))))) w :=
  And.intro rfl (jt_lc kc_86_0 (jt_lstore kc_86_1 rfl (jt_ic kc_86_2 (jt_istore kc_86_3 rfl (ek_86l hi (ji_len.getD i 0) 0 (by omega))))))
abbrev pkw (i : Nat) : Int64 := pka i (ji_len.getD i 0)
/-- kindOfWord -/
def wdf (v : Int64) : Int32 := if v = pkw 1 then 4 else if v = pkw 2 then 5 else if v = pkw 3 then 6 else if v = pkw 4 then 7 else if v = pkw 5 then 8 else if v = pkw 6 then 9 else if v = pkw 7 then 10 else if v = pkw 8 then 11 else if v = pkw 9 then 12 else 2
theorem wdf_e (v : Int64) : wdf v = ec_word v := by
  unfold wdf ec_word
  rw [show pkw 1 = 28821929497491828 by decide +kernel, show pkw 2 = 7630441 by decide +kernel, show pkw 3 = 1918986339 by decide +kernel, show pkw 4 = 1684631414 by decide +kernel, show pkw 5 = 26217 by decide +kernel, show pkw 6 = 1702063205 by decide +kernel, show pkw 7 = 435610544247 by decide +kernel, show pkw 8 = 121437875889522 by decide +kernel, show pkw 9 = 112628629924211 by decide +kernel]
theorem ek_31 {v : Int64} : ec_E (d + 6) 31 [.long v] w (.inl (some (.int (wdf v)))) w := by
  unfold wdf
  refine And.intro rfl ?_
  refine jt_lload kc_31_0 rfl (jt_lds kc_31_1 (jt_csJ kc_31_3 rfl rfl rfl rfl (ek_86 (i := 1) (by decide)) (jt_lcmp kc_31_6 (jt_if kc_31_7 (fun h => jt_ic kc_31_10 (jt_iret kc_31_11 ?_)) (fun h1 => ?_)))))
  · have h : v = pkw 1 := (lg_cmp_eq _ _).mp h
    rw [if_pos h]
  have n1 : ¬ v = pkw 1 := fun e => h1 ((lg_cmp_eq _ _).mpr e)
  refine jt_lload kc_31_12 rfl (jt_lds kc_31_13 (jt_csJ kc_31_15 rfl rfl rfl rfl (ek_86 (i := 2) (by decide)) (jt_lcmp kc_31_18 (jt_if kc_31_19 (fun h => jt_ic kc_31_22 (jt_iret kc_31_23 ?_)) (fun h2 => ?_)))))
  · have h : v = pkw 2 := (lg_cmp_eq _ _).mp h
    rw [if_neg (n1), if_pos h]
  have n2 : ¬ v = pkw 2 := fun e => h2 ((lg_cmp_eq _ _).mpr e)
  refine jt_lload kc_31_24 rfl (jt_lds kc_31_25 (jt_csJ kc_31_27 rfl rfl rfl rfl (ek_86 (i := 3) (by decide)) (jt_lcmp kc_31_30 (jt_if kc_31_31 (fun h => jt_ic kc_31_34 (jt_iret kc_31_36 ?_)) (fun h3 => ?_)))))
  · have h : v = pkw 3 := (lg_cmp_eq _ _).mp h
    rw [if_neg (n1), if_neg (n2), if_pos h]
  have n3 : ¬ v = pkw 3 := fun e => h3 ((lg_cmp_eq _ _).mpr e)
  refine jt_lload kc_31_37 rfl (jt_lds kc_31_38 (jt_csJ kc_31_40 rfl rfl rfl rfl (ek_86 (i := 4) (by decide)) (jt_lcmp kc_31_43 (jt_if kc_31_44 (fun h => jt_ic kc_31_47 (jt_iret kc_31_49 ?_)) (fun h4 => ?_)))))
  · have h : v = pkw 4 := (lg_cmp_eq _ _).mp h
    rw [if_neg (n1), if_neg (n2), if_neg (n3), if_pos h]
  have n4 : ¬ v = pkw 4 := fun e => h4 ((lg_cmp_eq _ _).mpr e)
  refine jt_lload kc_31_50 rfl (jt_lds kc_31_51 (jt_csJ kc_31_53 rfl rfl rfl rfl (ek_86 (i := 5) (by decide)) (jt_lcmp kc_31_56 (jt_if kc_31_57 (fun h => jt_ic kc_31_60 (jt_iret kc_31_62 ?_)) (fun h5 => ?_)))))
  · have h : v = pkw 5 := (lg_cmp_eq _ _).mp h
    rw [if_neg (n1), if_neg (n2), if_neg (n3), if_neg (n4), if_pos h]
  have n5 : ¬ v = pkw 5 := fun e => h5 ((lg_cmp_eq _ _).mpr e)
  refine jt_lload kc_31_63 rfl (jt_lds kc_31_64 (jt_csJ kc_31_66 rfl rfl rfl rfl (ek_86 (i := 6) (by decide)) (jt_lcmp kc_31_69 (jt_if kc_31_70 (fun h => jt_ic kc_31_73 (jt_iret kc_31_75 ?_)) (fun h6 => ?_)))))
  · have h : v = pkw 6 := (lg_cmp_eq _ _).mp h
    rw [if_neg (n1), if_neg (n2), if_neg (n3), if_neg (n4), if_neg (n5), if_pos h]
  have n6 : ¬ v = pkw 6 := fun e => h6 ((lg_cmp_eq _ _).mpr e)
  refine jt_lload kc_31_76 rfl (jt_lds kc_31_77 (jt_csJ kc_31_79 rfl rfl rfl rfl (ek_86 (i := 7) (by decide)) (jt_lcmp kc_31_82 (jt_if kc_31_83 (fun h => jt_ic kc_31_86 (jt_iret kc_31_88 ?_)) (fun h7 => ?_)))))
  · have h : v = pkw 7 := (lg_cmp_eq _ _).mp h
    rw [if_neg (n1), if_neg (n2), if_neg (n3), if_neg (n4), if_neg (n5), if_neg (n6), if_pos h]
  have n7 : ¬ v = pkw 7 := fun e => h7 ((lg_cmp_eq _ _).mpr e)
  refine jt_lload kc_31_89 rfl (jt_lds kc_31_90 (jt_csJ kc_31_92 rfl rfl rfl rfl (ek_86 (i := 8) (by decide)) (jt_lcmp kc_31_95 (jt_if kc_31_96 (fun h => jt_ic kc_31_99 (jt_iret kc_31_101 ?_)) (fun h8 => ?_)))))
  · have h : v = pkw 8 := (lg_cmp_eq _ _).mp h
    rw [if_neg (n1), if_neg (n2), if_neg (n3), if_neg (n4), if_neg (n5), if_neg (n6), if_neg (n7), if_pos h]
  have n8 : ¬ v = pkw 8 := fun e => h8 ((lg_cmp_eq _ _).mpr e)
  refine jt_lload kc_31_102 rfl (jt_lds kc_31_103 (jt_csJ kc_31_105 rfl rfl rfl rfl (ek_86 (i := 9) (by decide)) (jt_lcmp kc_31_108 (jt_if kc_31_109 (fun h => jt_ic kc_31_112 (jt_goto kc_31_114 (jt_iret kc_31_118 ?_))) (fun h9 => ?_)))))
  · have h : v = pkw 9 := (lg_cmp_eq _ _).mp h
    rw [if_neg (n1), if_neg (n2), if_neg (n3), if_neg (n4), if_neg (n5), if_neg (n6), if_neg (n7), if_neg (n8), if_pos h]
  have n9 : ¬ v = pkw 9 := fun e => h9 ((lg_cmp_eq _ _).mpr e)
  refine jt_ic kc_31_117 (jt_iret kc_31_118 ?_)
  rw [if_neg (n1), if_neg (n2), if_neg (n3), if_neg (n4), if_neg (n5), if_neg (n6), if_neg (n7), if_neg (n8), if_neg (n9)]
end
