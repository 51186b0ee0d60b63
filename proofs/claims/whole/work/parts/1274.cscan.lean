/-! The class finds the tokens. -/
def scR (a6 : Nat → Int32) (j7 : Nat → Int64) : sk_T → Prop
  | [] => True
  | x :: l => a6 l.length = x.1 ∧ j7 l.length = rq_pk (x.2.map nI) ∧ scR a6 j7 l
theorem scR_u {a6 : Nat → Int32} {j7 : Nat → Int64} {n : Nat} {x : Int32} {y : Int64} : ∀ {l : sk_T}, l.length ≤ n → scR a6 j7 l → scR (fun i => cond (Nat.beq i n) x (a6 i)) (fun i => cond (Nat.beq i n) y (j7 i)) l
  | [], _, _ => trivial
  | q :: l, hn, h => by
    have hn' : l.length + 1 ≤ n := hn
    have e : Nat.beq l.length n = false := by exact nb_f (by omega)
    refine ⟨?_, ?_, scR_u (by omega) h.2.2⟩
    · show cond (Nat.beq l.length n) x (a6 l.length) = q.1
      rw [e]; exact h.1
    · show cond (Nat.beq l.length n) y (j7 l.length) = _
      rw [e]; exact h.2.1
theorem scR_v {a6 : Nat → Int32} {j7 : Nat → Int64} {n : Nat} {y : Int64} : ∀ {l : sk_T}, l.length ≤ n → scR a6 j7 l → scR a6 (fun i => cond (Nat.beq i n) y (j7 i)) l
  | [], _, _ => trivial
  | q :: l, hn, h => by
    have hn' : l.length + 1 ≤ n := hn
    have e : Nat.beq l.length n = false := by exact nb_f (by omega)
    refine ⟨h.1, ?_, scR_v (by omega) h.2.2⟩
    show cond (Nat.beq l.length n) y (j7 l.length) = _
    rw [e]; exact h.2.1
theorem pk_1 {c : Nat} (hc : c < 128) : (nI c).toInt64 = rq_pk ([c].map nI) := by
  rw [pk_lN [c] (fun x hx => by rw [List.mem_singleton.mp hx]; exact hc), nI_l (by omega)]
  rfl
abbrev kq (f0 f1 : Nat → Int32) (l : sk_T) (w : ja_w) : Prop := (w.1 2 2 = nI l.length ∧ scR (w.2.1 6) (w.2.2 7) l ∧ (∀ x r, l = x :: r → w.1 2 3 = nI x.2.length)) ∧ w.1 0 = f0 ∧ w.2.1 1 = f1
section
variable {f0 f1 : Nat → Int32} {d c : Nat} {l : sk_T} {I A : ja_I} {J : ja_J} {k : Int32} {u : List Nat}
/-- begin -/
theorem kq_27 (hw : kq f0 f1 l (I, A, J)) (hl : l.length < 160) (hc : c < 128) (k : Int32) : ∃ (I1 A1 : ja_I) (J1 : ja_J), ec_E (d + 1) 27 [.ref 2, .int k, .int (nI c)] (I, A, J) (.inl none) (I1, A1, J1) ∧ kq f0 f1 ((k, [c]) :: l) (I1, A1, J1) := by
  have e : I 2 2 = nI l.length := hw.1.1
  have ek : (I 2 2).toNatClampNeg = l.length := cn_cl e (by omega)
  have v : vp_in (I 2 2) 160 := cn_in e (by omega) (by omega)
  refine ⟨_, _, _, ec_27 (r := (_, _)) ⟨fun h => absurd h (by rw [e]; exact nI_ge (b := 160) hl (by omega)), fun _ => ⟨v, v, rfl⟩⟩, ⟨?_, ?_, ?_⟩, hw.2.1, hw.2.2⟩
  · show I 2 2 + 1 = nI ((k, [c]) :: l).length
    rw [e, nI_1]; rfl
  · show scR (fun i => cond (Nat.beq i (I 2 2).toNatClampNeg) k (A 6 i)) (fun i => cond (Nat.beq i (I 2 2).toNatClampNeg) (nI c).toInt64 (J 7 i)) ((k, [c]) :: l)
    rw [ek]
    refine ⟨?_, ?_, scR_u (Nat.le_refl _) hw.1.2.1⟩
    · show cond (Nat.beq l.length l.length) k _ = k
      rw [Nat.beq_refl]; rfl
    · show cond (Nat.beq l.length l.length) (nI c).toInt64 _ = _
      rw [Nat.beq_refl]; exact pk_1 hc
  · intro x r hx
    cases hx
    rfl
theorem kq_22 (hw : kq f0 f1 ((k, u) :: l) (I, A, J)) (hl : l.length < 160) : ec_E (d + 1) 22 [.ref 2, .int (I 2 2 - 1)] (I, A, J) (.inl (some (.int k))) (I, A, J) := by
  have e : I 2 2 = nI (l.length + 1) := hw.1.1
  have e1 : I 2 2 - 1 = nI l.length := by rw [e, nI_pred]
  refine ec_22 (r := (_, _)) ⟨fun h => absurd h (by rw [e1]; exact nI_pos (by omega)), fun _ => ⟨fun h => absurd h (by rw [e1, e]; exact nI_ge (by omega) (by omega)), fun _ => ⟨by rw [e1]; exact vp_in_nI (by omega) (by omega), ?_⟩⟩⟩
  rw [e1, nI_clamp (by omega)]
  have : A 6 l.length = k := hw.1.2.1.1
  rw [this]
theorem bI_0 {b : Bool} (h : bI b = 0) : b = false := by
  cases b with
  | false => rfl
  | true => exact absurd h (by decide)
theorem bI_1 {b : Bool} (h : ¬ bI b = 0) : b = true := by
  cases b with
  | true => rfl
  | false => exact absurd rfl h
/-- continuesLast -/
theorem kq_25 (hw : kq f0 f1 ((k, u) :: l) (I, A, J)) (hl : l.length < 160) : ec_E (d + 2) 25 [.ref 2, .int (nI c)] (I, A, J) (.inl (some (.int (bI (sk_c k c))))) (I, A, J) := by
  refine ec_25 (r := (_, _)) ⟨k, I, A, J, kq_22 hw hl, _, I, A, J, cl_30, fun h => ?_, fun h => ?_⟩
  · have hD := bI_0 h
    refine ⟨_, I, A, J, cl_29, fun h2 => ?_, fun h2 => ⟨fun h3 => ?_, fun h3 => ?_⟩⟩
    · have hL := bI_0 h2
      unfold sk_c
      rw [hD, hL]; rfl
    · have hL := bI_1 h2
      unfold sk_c
      rw [hD, hL, h3]; rfl
    · have hL := bI_1 h2
      unfold sk_c
      rw [hD, hL, show (k == 2) = false from beq_eq_false_iff_ne.mpr h3]; rfl
  · have hD := bI_1 h
    refine ⟨fun h3 => ?_, fun h3 => ⟨fun h4 => ?_, fun h4 => ?_⟩⟩
    · unfold sk_c
      rw [hD, h3]; rfl
    · unfold sk_c
      rw [hD, h4]; rfl
    · unfold sk_c
      rw [hD, show (k == 2) = false from beq_eq_false_iff_ne.mpr h3, show (k == 3) = false from beq_eq_false_iff_ne.mpr h4]; rfl
/-- the last token grows -/
theorem kq_g (hw : kq f0 f1 ((k, u) :: l) (I, A, J)) (hl : l.length < 160) (hu : ∀ x ∈ u, x < 128) (h8 : u.length < 8) (hc : c < 128) : kq f0 f1 ((k, u ++ [c]) :: l) (ja_up I 2 3 (I 2 3 + 1), A, ja_uL J 7 (I 2 2 - 1).toNatClampNeg (J 7 (I 2 2 - 1).toNatClampNeg ||| ((nI c).toInt64 <<< ((8 * I 2 3).toInt64 &&& 63)))) := by
  have e : I 2 2 = nI (l.length + 1) := hw.1.1
  have e1 : (I 2 2 - 1).toNatClampNeg = l.length := by rw [e, nI_pred, nI_clamp (by omega)]
  have e3 : I 2 3 = nI u.length := hw.1.2.2 _ _ rfl
  have ej : J 7 l.length = rq_pk (u.map nI) := hw.1.2.1.2.1
  refine ⟨⟨e, ?_, ?_⟩, hw.2.1, hw.2.2⟩
  · show scR (A 6) (fun i => cond (Nat.beq i (I 2 2 - 1).toNatClampNeg) (J 7 (I 2 2 - 1).toNatClampNeg ||| ((nI c).toInt64 <<< ((8 * I 2 3).toInt64 &&& 63))) (J 7 i)) _
    rw [e1, e3, ej, ← pk_app hu hc h8]
    refine ⟨hw.1.2.1.1, ?_, scR_v (Nat.le_refl _) hw.1.2.1.2.2⟩
    show cond (Nat.beq l.length l.length) _ _ = _
    rw [Nat.beq_refl]; rfl
  · intro x r hx
    cases hx
    show I 2 3 + 1 = nI (u ++ [c]).length
    rw [e3, nI_1, List.length_append]; rfl
/-- lengthenLast -/
theorem kq_26 (hw : kq f0 f1 ((k, u) :: l) (I, A, J)) (hl : l.length + 1 < 160) (hu : ∀ x ∈ u, x < 128) (h8 : u.length ≤ 8) (hc : c < 128) : ∃ (I1 A1 : ja_I) (J1 : ja_J), ec_E (d + 2) 26 [.ref 2, .int (nI c)] (I, A, J) (.inl none) (I1, A1, J1) ∧ kq f0 f1 (if u.length < sk_m k then (k, u ++ [c]) :: l else (1, [c]) :: (k, u) :: l) (I1, A1, J1) := by
  have e : I 2 2 = nI (l.length + 1) := hw.1.1
  have e3 : I 2 3 = nI u.length := hw.1.2.2 _ _ rfl
  have v : vp_in (I 2 2 - 1) 160 := by rw [e, nI_pred]; exact vp_in_nI (by omega) (by omega)
  have h22 := kq_22 (d := d) hw (by omega)
  obtain ⟨I2, A2, J2, hE2, hw2⟩ := kq_27 (d := d) hw (by show l.length + 1 < 160; omega) hc 1
  unfold sk_m
  by_cases hk : k = 2
  · rw [if_pos hk]
    by_cases h : u.length < 8
    · rw [if_pos h]
      refine ⟨_, _, _, ec_26 (r := (_, _)) ⟨k, I, A, J, h22, fun _ => ⟨fun h' => absurd h' (by rw [e3]; exact nI_ge (b := 8) h (by omega)), fun _ => ⟨v, v, rfl⟩⟩, fun h' => absurd hk h'⟩, ?_⟩
      exact kq_g hw (by omega) hu h hc
    · rw [if_neg h]
      exact ⟨I2, A2, J2, ec_26 (r := (_, _)) ⟨k, I, A, J, h22, fun _ => ⟨fun _ => ⟨I2, A2, J2, hE2, rfl⟩, fun h' => absurd (by rw [e3]; exact nI_le (a := 8) (by omega) (by omega)) h'⟩, fun h' => absurd hk h'⟩, hw2⟩
  · rw [if_neg hk]
    by_cases h : u.length < 4
    · rw [if_pos h]
      refine ⟨_, _, _, ec_26 (r := (_, _)) ⟨k, I, A, J, h22, fun h' => absurd h' hk, fun _ => ⟨fun h' => absurd h' (by rw [e3]; exact nI_ge (b := 4) h (by omega)), fun _ => ⟨v, v, rfl⟩⟩⟩, ?_⟩
      exact kq_g hw (by omega) hu (by omega) hc
    · rw [if_neg h]
      exact ⟨I2, A2, J2, ec_26 (r := (_, _)) ⟨k, I, A, J, h22, fun h' => absurd h' hk, fun _ => ⟨fun _ => ⟨I2, A2, J2, hE2, rfl⟩, fun h' => absurd (by rw [e3]; exact nI_le (a := 4) (by omega) (by omega)) h'⟩⟩, hw2⟩
theorem skb_c {c : Nat} (hc : c < 128) : sk_b c = true → (nI c = 32 ∨ nI c = 10) := by
  intro h
  unfold sk_b at h
  rw [Bool.or_eq_true] at h
  rcases h with h | h
  · exact Or.inl (by rw [Nat.eq_of_beq_eq_true h]; rfl)
  · exact Or.inr (by rw [Nat.eq_of_beq_eq_true h]; rfl)
theorem skb_n {c : Nat} (hc : c < 128) : sk_b c = false → (¬ nI c = 32 ∧ ¬ nI c = 10) := by
  intro h
  unfold sk_b at h
  rw [Bool.or_eq_false_iff] at h
  refine ⟨fun e => ?_, fun e => ?_⟩
  · rw [(nI_eq (b := 32) (by omega) (by omega)).mp e] at h
    exact absurd h.1 (by decide)
  · rw [(nI_eq (b := 10) (by omega) (by omega)).mp e] at h
    exact absurd h.2 (by decide)
theorem skc_b : ∀ c, c < 128 → sk_b c = true → isD (nI c) = false ∧ isL (nI c) = false := by decide +kernel
theorem skc_f {c : Nat} (hc : c < 128) (hb : sk_b c = true) (k : Int32) : sk_c k c = false := by
  obtain ⟨h1, h2⟩ := skc_b c hc hb
  unfold sk_c
  rw [h1, h2]; rfl
/-- the class's first loop -/
theorem kq_l {tx : List Nat} (htx : ∀ c ∈ tx, 1 ≤ c ∧ c < 128) (hn : tx.length ≤ 160) (hf : ∀ i, i < tx.length → f1 i = nI (tx.getD i 0)) : ∀ (m i : Nat) (l : sk_T) (t : Bool) (I A : ja_I) (J : ja_J), i + m = tx.length → kq f0 f1 l (I, A, J) → (∀ x ∈ l, tkO x) → tot l ≤ i → (t = true → l ≠ []) → ∃ w', kq f0 f1 (sk (l, t) (tx.drop i)).1 w' ∧ ∀ r, ja_R (ja_code tc_24) (ec_E (d + 6)) r 101 [some (.ref 2), none, none, none, some (.int 0), none, none] [] w' → ja_R (ja_code tc_24) (ec_E (d + 6)) r 10 [some (.ref 2), some (.ref 1), some (.int (nI tx.length)), some (.int (bI t)), some (.int (nI i)), none, none] [] (I, A, J)
  | 0, i, l, t, I, A, J, hi, hw, hl, htl, hne => by
    obtain rfl : i = tx.length := by omega
    rw [List.drop_length]
    exact ⟨(I, A, J), hw, fun r h => bc_24_10 ⟨fun _ => h, fun h' => absurd (nI_le (Nat.le_refl _) (by omega)) h'⟩⟩
  | m + 1, i, l, t, I, A, J, hi, hw, hl, htl, hne => by
    have hil : i < tx.length := by omega
    have hlen := tot_le l hl
    have hc := htx _ (List.getElem_mem hil)
    have ea : A 1 (nI i).toNatClampNeg = nI tx[i] := by
      have h1 : A 1 = f1 := hw.2.2
      rw [h1, nI_clamp (by omega), hf i hil, List.getD_eq_getElem?_getD, List.getElem?_eq_getElem hil]; rfl
    have vi : vp_in (nI i) 160 := vp_in_nI (by omega) (by omega)
    have nle : ¬ nI tx.length ≤ nI i := nI_ge hil (by omega)
    rw [List.drop_eq_getElem_cons hil]
    generalize tx[i] = c at hc ea
    have e1 : nI i + 1 = nI (i + 1) := nI_1 i
    have go : ∀ (l' : sk_T) (t' : Bool) (I1 A1 : ja_I) (J1 : ja_J), sk_s (l, t) c = (l', t') → kq f0 f1 l' (I1, A1, J1) → (t' = true → l' ≠ []) → (∀ r, ja_R (ja_code tc_24) (ec_E (d + 6)) r 10 [some (.ref 2), some (.ref 1), some (.int (nI tx.length)), some (.int (bI t')), some (.int (nI i + 1)), none, none] [] (I1, A1, J1) → ja_R (ja_code tc_24) (ec_E (d + 6)) r 10 [some (.ref 2), some (.ref 1), some (.int (nI tx.length)), some (.int (bI t)), some (.int (nI i)), none, none] [] (I, A, J)) → ∃ w', kq f0 f1 (sk (l, t) (c :: tx.drop (i + 1))).1 w' ∧ ∀ r, ja_R (ja_code tc_24) (ec_E (d + 6)) r 101 [some (.ref 2), none, none, none, some (.int 0), none, none] [] w' → ja_R (ja_code tc_24) (ec_E (d + 6)) r 10 [some (.ref 2), some (.ref 1), some (.int (nI tx.length)), some (.int (bI t)), some (.int (nI i)), none, none] [] (I, A, J) := by
      intro l' t' I1 A1 J1 es hw1 hne1 step
      obtain ⟨ho, ht1⟩ := sk_s_ok hc.1 hc.2 hl es
      obtain ⟨w', k1, k2⟩ := kq_l htx hn hf m (i + 1) l' t' I1 A1 J1 (by omega) hw1 ho (by omega) hne1
      refine ⟨w', ?_, fun r h => step r (by rw [e1]; exact k2 r h)⟩
      have : sk (l, t) (c :: tx.drop (i + 1)) = sk (l', t') (tx.drop (i + 1)) := by
        show List.foldl sk_s (sk_s (l, t) c) _ = _
        rw [es]; rfl
      rw [this]
      exact k1
    have hb28 := ek_28 (d := d + 1) (w := (I, A, J)) hc.2
    obtain ⟨I7, A7, J7, hE7, hw7⟩ := kq_27 (d := d + 5) hw (by omega) hc.2 (kdf c)
    by_cases hb : sk_b c = true
    · -- a blank
      have hs : sk_s (l, t) c = (l, false) := by
        have hn : sk_n l c = (l, false) := by unfold sk_n; rw [if_pos hb]
        cases l with
        | nil => cases t <;> exact hn
        | cons x l =>
          obtain ⟨k, u⟩ := x
          cases t with
          | false => exact hn
          | true =>
            show (if sk_c k c then _ else sk_n ((k, u) :: l) c) = _
            rw [skc_f hc.2 hb, if_neg (by decide)]; exact hn
      refine go l false I A J hs hw (fun h => by cases h) (fun r h => bc_24_10 ⟨fun h' => absurd h' nle, fun _ => ⟨vi, ?_⟩⟩)
      rw [ea]
      have mid : ∀ (P : Prop), ((bI t = 0 → P) ∧ (¬ bI t = 0 → ∃ (z3 : Int32) (I3 A3 : ja_I) (J3 : ja_J), ec_E (d + 6) 25 [.ref 2, .int (nI c)] (I, A, J) (.inl (some (.int z3))) (I3, A3, J3) ∧ (z3 = 0 ∧ (I3, A3, J3) = (I, A, J)))) ∨ ¬ P := by
        intro P
        by_cases hP : P
        · refine Or.inl ⟨fun _ => hP, fun ht => ?_⟩
          have ht := bI_1 ht
          cases l with
          | nil => exact absurd rfl (hne ht)
          | cons x l =>
            obtain ⟨k, u⟩ := x
            have h25 := kq_25 (d := d + 4) (c := c) hw (by have : l.length + 1 ≤ tot ((k, u) :: l) := hlen; omega)
            rw [skc_f hc.2 hb] at h25
            exact ⟨0, I, A, J, h25, rfl, rfl⟩
        · exact Or.inr hP
      refine ⟨fun _ => ⟨fun ht => ⟨fun e => absurd e (by decide), fun _ => ⟨fun e => absurd e (by decide), fun _ => h⟩⟩, fun ht => ?_⟩, fun h32 => ⟨fun _ => ⟨fun ht => ⟨fun e => absurd e (by decide), fun _ => ⟨fun e => absurd e (by decide), fun _ => h⟩⟩, fun ht => ?_⟩, fun h10 => ?_⟩⟩
      · obtain ⟨z3, I3, A3, J3, hE3, rfl, hw3⟩ := ((mid True).resolve_right (fun h => h trivial)).2 ht
        cases hw3
        exact ⟨0, I, A, J, hE3, fun _ => ⟨fun e => absurd e (by decide), fun _ => ⟨fun e => absurd e (by decide), fun _ => h⟩⟩, fun e => absurd rfl e⟩
      · obtain ⟨z3, I3, A3, J3, hE3, rfl, hw3⟩ := ((mid True).resolve_right (fun h => h trivial)).2 ht
        cases hw3
        exact ⟨0, I, A, J, hE3, fun _ => ⟨fun e => absurd e (by decide), fun _ => ⟨fun e => absurd e (by decide), fun _ => h⟩⟩, fun e => absurd rfl e⟩
      · rcases skb_c hc.2 hb with e | e
        · exact absurd e h32
        · exact absurd e h10
    · -- a character
      have hb : sk_b c = false := by cases hh : sk_b c with | false => rfl | true => exact absurd hh hb
      obtain ⟨n32, n10⟩ := skb_n hc.2 hb
      have hn : sk_n l c = ((kdf c, [c]) :: l, true) := by unfold sk_n; rw [hb, if_neg (by decide)]
      cases t with
      | false =>
        refine go ((kdf c, [c]) :: l) true I7 A7 J7 ?_ hw7 (fun _ => by intro h; cases h) (fun r h => bc_24_10 ⟨fun h' => absurd h' nle, fun _ => ⟨vi, ?_⟩⟩)
        · cases l with
          | nil => exact hn
          | cons x l => exact hn
        · rw [ea]
          exact ⟨fun e => absurd e n32, fun _ => ⟨fun e => absurd e n10, fun _ => ⟨fun _ => ⟨fun _ => ⟨_, I, A, J, hb28, I7, A7, J7, hE7, fun _ => h, fun e => absurd rfl e⟩, fun e => absurd rfl e⟩, fun e => absurd rfl e⟩⟩⟩
      | true =>
        cases l with
        | nil => exact absurd rfl (hne rfl)
        | cons x l =>
          obtain ⟨k, u⟩ := x
          have hlen' : l.length + 1 ≤ tot ((k, u) :: l) := hlen
          have h25 := kq_25 (d := d + 4) (c := c) hw (by omega)
          have hu := hl (k, u) List.mem_cons_self
          cases hk : sk_c k c with
          | false =>
            rw [hk] at h25
            refine go ((kdf c, [c]) :: (k, u) :: l) true I7 A7 J7 ?_ hw7 (fun _ => by intro h; cases h) (fun r h => bc_24_10 ⟨fun h' => absurd h' nle, fun _ => ⟨vi, ?_⟩⟩)
            · show (if sk_c k c then _ else sk_n ((k, u) :: l) c) = _
              rw [hk, if_neg (by decide)]; exact hn
            · rw [ea]
              exact ⟨fun e => absurd e n32, fun _ => ⟨fun e => absurd e n10, fun _ => ⟨fun e => absurd e (by decide), fun _ => ⟨0, I, A, J, h25, fun _ => ⟨fun _ => ⟨_, I, A, J, hb28, I7, A7, J7, hE7, fun _ => h, fun e => absurd rfl e⟩, fun e => absurd rfl e⟩, fun e => absurd rfl e⟩⟩⟩⟩
          | true =>
            rw [hk] at h25
            obtain ⟨I6, A6, J6, hE6, hw6⟩ := kq_26 (d := d + 4) hw (by omega) (fun x hx => (hu.2.2.1 x hx).2) hu.2.1 hc.2
            refine go _ true I6 A6 J6 ?_ hw6 (fun _ => by split <;> (intro h; cases h)) (fun r h => bc_24_10 ⟨fun h' => absurd h' nle, fun _ => ⟨vi, ?_⟩⟩)
            · show (if sk_c k c then (if u.length < sk_m k then ((k, u ++ [c]) :: l, true) else ((1, [c]) :: (k, u) :: l, true)) else sk_n ((k, u) :: l) c) = _
              rw [hk, if_pos rfl]
              split <;> rfl
            · rw [ea]
              exact ⟨fun e => absurd e n32, fun _ => ⟨fun e => absurd e n10, fun _ => ⟨fun e => absurd e (by decide), fun _ => ⟨1, I, A, J, h25, fun e => absurd e (by decide), fun _ => ⟨I6, A6, J6, hE6, fun _ => h, fun e => absurd rfl e⟩⟩⟩⟩⟩
/-- kinds: the first n are those of the end -/
def scF (ts : List pp_T) (l : sk_T) (n : Nat) (a6 : Nat → Int32) (j7 : Nat → Int64) : Prop := (∀ i, i < n → i < l.length → a6 i = pp_k ts i) ∧ (∀ i, n ≤ i → ∀ x, l.reverse[i]? = some x → a6 i = x.1) ∧ ∀ i, i < l.length → j7 i = pp_wd ts i
theorem scR_at {a6 : Nat → Int32} {j7 : Nat → Int64} : ∀ {l : sk_T}, scR a6 j7 l → ∀ (i : Nat) (x : Int32 × List Nat), l.reverse[i]? = some x → a6 i = x.1 ∧ j7 i = rq_pk (x.2.map nI)
  | [], _, i, x, h => by cases h
  | y :: l, hs, i, x, h => by
    rw [List.reverse_cons] at h
    by_cases hi : i < l.reverse.length
    · rw [List.getElem?_append_left hi] at h
      exact scR_at hs.2.2 i x h
    · rw [List.getElem?_append_right (by omega)] at h
      have hi2 : i - l.reverse.length = 0 := by
        cases hz : i - l.reverse.length with
        | zero => rfl
        | succ z => rw [hz] at h; cases h
      rw [hi2] at h
      cases h
      have e : i = l.length := by rw [List.length_reverse] at hi hi2; omega
      rw [e]
      exact ⟨hs.1, hs.2.1⟩
theorem ts_e {l : sk_T} {i : Nat} (h : i < l.length) : ∃ x, l.reverse[i]? = some x ∧ pp_k (tsOf l) i = fk x ∧ pp_wd (tsOf l) i = rq_pk (x.2.map nI) := by
  have e := ts_at h
  refine ⟨_, List.getElem?_eq_getElem (by rw [List.length_reverse]; exact h), ?_, ?_⟩
  · unfold pp_k; rw [e]; rfl
  · unfold pp_wd; rw [e]; rfl
/-- the class's second loop -/
theorem kq_l2 (hl : l.length ≤ 160) : ∀ (m i : Nat) (I A : ja_I) (J : ja_J), i + m = l.length → I 2 2 = nI l.length → I 0 = f0 → A 1 = f1 → scF (tsOf l) l i (A 6) (J 7) → ∃ (I1 A1 : ja_I) (J1 : ja_J), ja_R (ja_code tc_24) (ec_E (d + 6)) (.inl none, (I1, A1, J1)) 101 [some (.ref 2), none, none, none, some (.int (nI i)), none, none] [] (I, A, J) ∧ cq_T (tsOf l) (I1 2 2) (A1 6) (J1 7) ∧ I1 0 = f0 ∧ A1 1 = f1
  | 0, i, I, A, J, hi, hn, h0, h1, hs => by
    obtain rfl : i = l.length := by omega
    refine ⟨I, A, J, bc_24_101 ⟨fun _ => rfl, fun h => absurd (by rw [hn]; exact nI_le (Nat.le_refl _) (by omega)) h⟩, ⟨by rw [ts_len]; exact hn, fun j hj => ?_⟩, h0, h1⟩
    rw [ts_len] at hj
    exact ⟨hs.1 j hj hj, hs.2.2 j hj⟩
  | m + 1, i, I, A, J, hi, hn, h0, h1, hs => by
    have hil : i < l.length := by omega
    have vi : vp_in (nI i) 160 := vp_in_nI (by omega) (by omega)
    have ci : (nI i).toNatClampNeg = i := nI_clamp (by omega)
    obtain ⟨x, hx, ek, ew⟩ := ts_e hil
    have e6 : A 6 i = x.1 := hs.2.1 i (Nat.le_refl _) x hx
    have ej : J 7 i = rq_pk (x.2.map nI) := by rw [hs.2.2 i hil, ew]
    have e1 : nI i + 1 = nI (i + 1) := nI_1 i
    by_cases h2 : x.1 = 2
    · have ef : pp_k (tsOf l) i = wdf (J 7 i) := by rw [ek]; unfold fk; rw [if_pos h2, ej]
      have hs' : scF (tsOf l) l (i + 1) (fun j => cond (Nat.beq j i) (wdf (J 7 i)) (A 6 j)) (J 7) := by
        refine ⟨fun j hj hjl => ?_, fun j hj y hy => ?_, hs.2.2⟩
        · show cond (Nat.beq j i) _ _ = _
          by_cases e : j = i
          · rw [e, Nat.beq_refl]; exact ef.symm
          · rw [show Nat.beq j i = false by exact nb_f e]; exact hs.1 j (by omega) hjl
        · show cond (Nat.beq j i) _ _ = _
          rw [show Nat.beq j i = false by exact nb_f (by omega)]; exact hs.2.1 j (by omega) y hy
      obtain ⟨I1, A1, J1, k1, k2⟩ := kq_l2 hl m (i + 1) I (ja_up A 6 i (wdf (J 7 i))) J (by omega) hn h0 h1 hs'
      refine ⟨I1, A1, J1, bc_24_101 ⟨fun h => absurd h (by rw [hn]; exact nI_ge hil (by omega)), fun _ => ⟨vi, fun _ => ⟨vi, ?_⟩, fun h => absurd (by rw [ci, e6]; exact h2) h⟩⟩, k2⟩
      rw [ci, e1]
      exact ⟨_, I, A, J, ek_31, vi, k1⟩
    · have ef : pp_k (tsOf l) i = A 6 i := by rw [ek]; unfold fk; rw [if_neg h2, e6]
      have hs' : scF (tsOf l) l (i + 1) (A 6) (J 7) := by
        refine ⟨fun j hj hjl => ?_, fun j hj y hy => hs.2.1 j (by omega) y hy, hs.2.2⟩
        by_cases e : j = i
        · rw [e]; exact ef.symm
        · exact hs.1 j (by omega) hjl
      obtain ⟨I1, A1, J1, k1, k2⟩ := kq_l2 hl m (i + 1) I A J (by omega) hn h0 h1 hs'
      refine ⟨I1, A1, J1, bc_24_101 ⟨fun h => absurd h (by rw [hn]; exact nI_ge hil (by omega)), fun _ => ⟨vi, fun h => absurd (by rw [ci, e6] at h; exact h) h2, fun _ => ?_⟩⟩, k2⟩
      rw [e1]
      exact k1
/-- scan -/
theorem kq_24 {tx : List Nat} (htx : ∀ c ∈ tx, 1 ≤ c ∧ c < 128) (hn : tx.length ≤ 160) (hf : ∀ i, i < tx.length → f1 i = nI (tx.getD i 0)) (h0 : I 0 = f0) (h1 : A 1 = f1) : ∃ (I1 A1 : ja_I) (J1 : ja_J), ec_E (d + 7) 24 [.ref 2, .ref 1, .int (nI tx.length)] (I, A, J) (.inl none) (I1, A1, J1) ∧ cq_T (tsOf (sk ([], false) tx).1) (I1 2 2) (A1 6) (J1 7) ∧ I1 0 = f0 ∧ A1 1 = f1 := by
  have hw : kq f0 f1 [] (ja_up I 2 2 0, A, J) := ⟨⟨rfl, trivial, fun x r h => by cases h⟩, h0, h1⟩
  obtain ⟨w', k1, k2⟩ := kq_l (d := d) htx hn hf tx.length 0 [] false (ja_up I 2 2 0) A J (by omega) hw (fun x h => by cases h) (Nat.zero_le _) (fun h => by cases h)
  rw [List.drop_zero] at k1
  have hok := sk_ok tx [] false htx (fun x h => by cases h)
  have hlen := tot_le _ hok.1
  have h160 : (sk ([], false) tx).1.length ≤ 160 := by
    have := hok.2
    have e : tot [] = 0 := rfl
    omega
  generalize (sk ([], false) tx).1 = l at k1 h160
  obtain ⟨I2, A2, J2⟩ := w'
  obtain ⟨I1, A1, J1, q1, q2⟩ := kq_l2 (d := d) (f0 := f0) (f1 := f1) h160 l.length 0 I2 A2 J2 (by omega) k1.1.1 k1.2.1 k1.2.2 ⟨fun i h => absurd h (Nat.not_lt_zero i), fun i _ x hx => (scR_at k1.1.2.1 i x hx).1, fun i hi => by
    obtain ⟨x, hx, _, ew⟩ := ts_e hi
    rw [ew]; exact (scR_at k1.1.2.1 i x hx).2⟩
  exact ⟨I1, A1, J1, ec_24 (r := (_, _)) (k2 _ q1), q2⟩
end
