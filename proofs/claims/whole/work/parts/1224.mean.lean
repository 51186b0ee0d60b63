theorem oI_n {k : Nat} (h : k < 2 ^ 31) : ¬ nI k = -1 := by
  intro e
  have a := nI_toInt h
  rw [e, show (-1 : Int32).toInt = -1 from rfl] at a
  omega
theorem pp_mf_c (ts : List pp_T) (scs : List Nat) (v : Int64) (x : pp_D) (l : List pp_D) (k : Nat) (b : Option (Nat × Nat)) : pp_mf ts scs v (x :: l) k b = pp_mf ts scs v l (k + 1) (if x.2.2.1 ≤ scs.length ∧ 1 ≤ x.2.2.1 ∧ scs[x.2.2.1 - 1]? = some x.2.1 ∧ (match b with | none => true | some y => Nat.blt y.2 x.2.2.1) = true ∧ pp_wd ts x.1 = v then some (k, x.2.2.1) else b) := rfl
section
variable {ts : List pp_T} {f0 f1 : Nat → Int32} {d : Nat}
/-- the best so far is a declaration ahead of k -/
def cq_best (dc : List pp_D) (k : Nat) (b : Option (Nat × Nat)) : Prop := match b with
  | none => True
  | some y => y.1 < k ∧ ∃ x, dc[y.1]? = some x ∧ x.2.2.1 = y.2
def oB (b : Option (Nat × Nat)) : Int32 := match b with
  | none => -1
  | some y => nI y.1
theorem cl_45l (hts : pp_ok ts) {Q : List (Int32 × List Int32)} {s : pp_S} {I A : ja_I} {J : ja_J} (hw : cq ts f0 f1 Q (I, A, J) s) {t : Nat} (ht : t < ts.length) {C : ja_C} : ∀ (m k : Nat) (b : Option (Nat × Nat)), k + m = (pq_dc s).length → cq_best (pq_dc s) k b → ja_R (ja_code tc_45) C (.inl (some (.int (oB (pp_mf ts (pq_scs s) (pp_wd ts t) ((pq_dc s).drop k) k b)))), (I, A, J)) 4 [some (.ref 3), some (.int (nI t)), some (.int (oB b)), some (.int (nI k)), none, none] [] (I, A, J) := by
  have h160 := hts.1
  obtain ⟨hT, h0, hP, hF, hY, hN, hS, hL, hQ⟩ := hw
  have en : I 3 4 = nI (pq_dc s).length := hN.1
  have h80 : (pq_dc s).length ≤ 80 := hN.2.1
  have ed : I 3 12 = nI (pq_scs s).length := hS.1
  have h9 : (pq_scs s).length ≤ 9 := hS.2.2.1
  have et : J 7 (nI t).toNatClampNeg = pp_wd ts t := by rw [nI_clamp (by omega)]; exact (hT.2 t ht).2
  intro m
  induction m with
  | zero =>
    intro k b hk hb
    rw [List.drop_of_length_le (by omega)]
    exact bc_45_4 ⟨fun _ => rfl, fun h => absurd (by rw [en]; exact nI_le (by omega) (by omega)) h⟩
  | succ m ih =>
    intro k b hk hb
    have hkl : k < (pq_dc s).length := by omega
    have hx : (pq_dc s)[k]? = some (pq_dc s)[k] := List.getElem?_eq_getElem hkl
    obtain ⟨e11, e16, e12, e15, eG, l1, l2, l3, l4, l5⟩ := hN.2.2 k _ hx
    have ck : (nI k).toNatClampNeg = k := nI_clamp (by omega)
    rw [List.drop_eq_getElem_cons hkl]
    generalize (pq_dc s)[k] = x at hx e11 e16 e12 e15 eG l1 l2 l3 l4 l5
    have e11' : A 11 k = nI x.1 := e11
    have e12' : A 12 k = nI x.2.2.1 := e12
    have e16' : A 16 k = nI x.2.1 := e16
    have v80 : vp_in (nI k) 80 := vp_in_nI (by omega) (by omega)
    have v11 : vp_in (nI x.1) 160 := vp_in_nI (by omega) (by omega)
    have vt : vp_in (nI t) 160 := vp_in_nI (by omega) (by omega)
    have ew : J 7 (nI x.1).toNatClampNeg = pp_wd ts x.1 := by rw [nI_clamp (by omega)]; exact (hT.2 x.1 l1).2
    have next0 := ih (k + 1) b (by omega) (by
      cases b with
      | none => trivial
      | some y => exact ⟨by have := hb.1; omega, hb.2⟩)
    have next1 := ih (k + 1) (some (k, x.2.2.1)) (by omega) ⟨by show k < k + 1; omega, x, hx, rfl⟩
    rw [← nI_1] at next0 next1
    have skip : ∀ {c : Prop} [Decidable c], ¬ c → pp_mf ts (pq_scs s) (pp_wd ts t) ((pq_dc s).drop (k + 1)) (k + 1) (if c then some (k, x.2.2.1) else b) = pp_mf ts (pq_scs s) (pp_wd ts t) ((pq_dc s).drop (k + 1)) (k + 1) b := by
      intro c _ h; rw [if_neg h]
    have take : ∀ {c : Prop} [Decidable c], c → pp_mf ts (pq_scs s) (pp_wd ts t) ((pq_dc s).drop (k + 1)) (k + 1) (if c then some (k, x.2.2.1) else b) = pp_mf ts (pq_scs s) (pp_wd ts t) ((pq_dc s).drop (k + 1)) (k + 1) (some (k, x.2.2.1)) := by
      intro c _ h; rw [if_pos h]
    refine bc_45_4 ⟨fun h => absurd h (by rw [en]; exact nI_ge hkl (by omega)), fun _ => ⟨v80, ?_⟩⟩
    rw [ck, e11', e12', e16', ed, et, ew]
    rw [pp_mf_c]
    have no : ∀ {p : Prop}, (¬ (0 : Int32) = 0 → p) := fun h => absurd rfl h
    have n1 : ∀ {p : Prop}, ((1 : Int32) = 0 → p) := fun h => absurd h (by decide)
    refine ⟨fun h => ?_, fun h => ?_⟩
    · -- not at hand: too deep
      have h' : (pq_scs s).length < x.2.2.1 := (nI_ltI (by omega) (by omega)).mp h
      rw [skip (by intro c; omega)]
      refine ⟨fun _ => ⟨fun _ => next0, no⟩, fun hb1 => ⟨v80, ?_⟩⟩
      cases b with
      | none => exact absurd rfl hb1
      | some y =>
        refine ⟨vp_in_nI (by have := hb.1; omega) (by omega), ⟨fun _ => ⟨fun _ => next0, no⟩, fun _ => ⟨fun _ => next0, no⟩⟩⟩
    · have h' : x.2.2.1 ≤ (pq_scs s).length := by
        have := mt (nI_ltI (a := (pq_scs s).length) (b := x.2.2.1) (by omega) (by omega)).mpr h
        omega
      have hq : (pq_scs s)[x.2.2.1 - 1]? = some (pq_scs s)[x.2.2.1 - 1] := List.getElem?_eq_getElem (by omega)
      obtain ⟨e17, lq⟩ := hS.2.2.2.2 _ _ hq
      generalize (pq_scs s)[x.2.2.1 - 1] = q at hq e17 lq
      have e17' : A 17 (nI x.2.2.1).toNatClampNeg = nI q := by
        rw [nI_clamp (by omega), ← e17, show x.2.2.1 - 1 + 1 = x.2.2.1 by omega]
      rw [e17']
      refine ⟨v80, vp_in_nI (by omega) (by omega), v80, fun h => ?_, fun h => ?_⟩
      · have hqs : q = x.2.1 := (nI_eq (by omega) (by omega)).mp h
        subst hqs
        refine ⟨fun hb1 => ⟨n1, fun _ => ⟨n1, fun _ => ⟨v80, v11, vt, fun hc => ?_, fun hc => ?_⟩⟩⟩, fun hb1 => ⟨v80, ?_⟩⟩
        · cases b with
          | none =>
            rw [take ⟨h', l3, hq, rfl, (lg_cmp_eq _ _).mp hc⟩]
            exact next1
          | some y => exact absurd hb1 (oI_n (by have := hb.1; omega))
        · rw [skip (fun c => hc ((lg_cmp_eq _ _).mpr c.2.2.2.2))]
          exact next0
        · cases b with
          | none => exact absurd rfl hb1
          | some y =>
            obtain ⟨hy, xb, hxb, eb⟩ := hb
            have ey : (nI y.1).toNatClampNeg = y.1 := nI_clamp (by omega)
            have e12b : A 12 y.1 = nI xb.2.2.1 := (hN.2.2 y.1 xb hxb).2.2.1
            have l4b : xb.2.2.1 ≤ 9 := (hN.2.2 y.1 xb hxb).2.2.2.2.2.2.2.2.1
            have e12c : A 12 (oB (some y)).toNatClampNeg = nI y.2 := by
              show A 12 (nI y.1).toNatClampNeg = _
              rw [ey, e12b, eb]
            rw [e12c]
            refine ⟨vp_in_nI (by omega) (by omega), fun hc => ?_, fun hc => ?_⟩
            · have hc' : x.2.2.1 ≤ y.2 := (nI_leI (by omega) (by omega)).mp hc
              rw [skip (fun c => by have := Nat.blt_eq.mp c.2.2.2.1; omega)]
              exact ⟨n1, fun _ => ⟨fun _ => next0, no⟩⟩
            · have hc' : y.2 < x.2.2.1 := by
                have := mt (nI_leI (a := x.2.2.1) (b := y.2) (by omega) (by omega)).mpr hc
                omega
              refine ⟨n1, fun _ => ⟨n1, fun _ => ⟨v80, v11, vt, fun hd => ?_, fun hd => ?_⟩⟩⟩
              · rw [take ⟨h', l3, hq, Nat.blt_eq.mpr hc', (lg_cmp_eq _ _).mp hd⟩]
                exact next1
              · rw [skip (fun c => hd ((lg_cmp_eq _ _).mpr c.2.2.2.2))]
                exact next0
      · rw [skip (fun c => h (congrArg nI (Option.some.inj (hq.symm.trans c.2.2.1))))]
        refine ⟨fun _ => ⟨fun _ => next0, no⟩, fun hb1 => ⟨v80, ?_⟩⟩
        cases b with
        | none => exact absurd rfl hb1
        | some y =>
          refine ⟨vp_in_nI (by have := hb.1; omega) (by omega), ⟨fun _ => ⟨fun _ => next0, no⟩, fun _ => ⟨fun _ => next0, no⟩⟩⟩
theorem oB_oI (b : Option (Nat × Nat)) : oB b = oI (b.map (fun y => y.1)) := by
  cases b <;> rfl
theorem cl_45 (hts : pp_ok ts) {Q : List (Int32 × List Int32)} {s : pp_S} {I A : ja_I} {J : ja_J} (hw : cq ts f0 f1 Q (I, A, J) s) {t : Nat} (ht : t < ts.length) : ec_E (d + 1) 45 [.ref 3, .int (nI t)] (I, A, J) (.inl (some (.int (oI (pp_mc ts (pq_scs s) (pq_dc s) (pp_wd ts t)))))) (I, A, J) := by
  have h := cl_45l hts hw ht (C := ec_E d) (pq_dc s).length 0 none (by omega) trivial
  rw [List.drop_zero, oB_oI] at h
  exact ec_45 (r := (_, _)) h
theorem pp_ite {α : Type} {c : Prop} [Decidable c] {a b z : α} (h : (if c then a else b) = z) : a = z ∨ b = z := by
  by_cases hc : c
  · rw [if_pos hc] at h; exact Or.inl h
  · rw [if_neg hc] at h; exact Or.inr h
/-- a meaning is a declaration -/
theorem pp_mf_lt {scs : List Nat} {v : Int64} : ∀ {l : List pp_D} {k : Nat} {b : Option (Nat × Nat)} {y : Nat × Nat}, pp_mf ts scs v l k b = some y → b = some y ∨ (k ≤ y.1 ∧ y.1 < k + l.length)
  | [], _, _, _, h => Or.inl h
  | x :: l, k, b, y, h => by
    rw [pp_mf_c] at h
    rcases pp_mf_lt h with h | h
    · rcases pp_ite h with h | h
      · cases h
        exact Or.inr ⟨Nat.le_refl k, by rw [List.length_cons]; show k < _; omega⟩
      · exact Or.inl h
    · exact Or.inr ⟨by omega, by rw [List.length_cons]; omega⟩
theorem pp_mc_lt {scs : List Nat} {dc : List pp_D} {v : Int64} {k : Nat} (h : pp_mc ts scs dc v = some k) : k < dc.length := by
  unfold pp_mc at h
  cases hm : pp_mf ts scs v dc 0 none with
  | none => rw [hm] at h; cases h
  | some y =>
    rw [hm] at h
    have e : y.1 = k := Option.some.inj h
    rcases pp_mf_lt hm with h | h
    · cases h
    · omega
theorem pp_me_e {s : pp_S} {t : Nat} {m : Option Nat} (h : pp_me ts s t = some m) : m = pp_mc ts (pq_scs s) (pq_dc s) (pp_wd ts t) ∧ ∀ k, m = some k → k < (pq_dc s).length := by
  unfold pp_me at h
  split at h
  · cases h
    exact ⟨rfl, fun k hk => pp_mc_lt hk⟩
  · cases h
/-- the sort of a declaration in the program's world -/
theorem cl_so {Q : List (Int32 × List Int32)} {s : pp_S} {I A : ja_I} {J : ja_J} (hw : cq ts f0 f1 Q (I, A, J) s) {k : Nat} (hk : k < (pq_dc s).length) : A 15 (nI k).toNatClampNeg = nI (pp_so s k) ∧ pp_so s k < 3 := by
  obtain ⟨hT, h0, hP, hF, hY, hN, hS, hL, hQ⟩ := hw
  have h80 : (pq_dc s).length ≤ 80 := hN.2.1
  have hx : (pq_dc s)[k]? = some (pq_dc s)[k] := List.getElem?_eq_getElem hk
  have h := hN.2.2 k _ hx
  unfold pp_so
  rw [hx, nI_clamp (by omega)]
  exact ⟨h.2.2.2.1, h.2.2.2.2.2.2.2.2.2⟩
theorem cl_so1 {Q : List (Int32 × List Int32)} {s : pp_S} {I A : ja_I} {J : ja_J} (hw : cq ts f0 f1 Q (I, A, J) s) {k : Nat} (hk : k < (pq_dc s).length) : A 15 (nI k).toNatClampNeg = 1 ↔ pp_so s k = 1 := by
  obtain ⟨e, l⟩ := cl_so hw hk
  rw [e]
  exact nI_eq (b := 1) (by omega) (by omega)
theorem cl_46 (hts : pp_ok ts) {Q : List (Int32 × List Int32)} {s : pp_S} {I A : ja_I} {J : ja_J} (hw : cq ts f0 f1 Q (I, A, J) s) {t : Nat} (ht : t < 2 ^ 31) {b : Bool} (hb : pp_ib ts s t = some b) : ec_E (d + 2) 46 [.ref 3, .int (nI t)] (I, A, J) (.inl (some (.int (bI b)))) (I, A, J) := by
  refine ec_46 (r := (_, _)) ⟨pp_k ts t, I, A, J, cl_22w hts hw ht, ?_⟩
  unfold pp_ib at hb
  by_cases h2 : pp_k ts t = 2
  · rw [if_pos h2] at hb
    have htl : t < ts.length := by
      refine Nat.lt_of_not_le fun hle => ?_
      rw [pp_k_ge hle] at h2
      exact absurd h2 (by decide)
    refine ⟨fun _ => ⟨oI (pp_mc ts (pq_scs s) (pq_dc s) (pp_wd ts t)), I, A, J, cl_45 hts hw htl, ?_⟩, fun n => absurd h2 n⟩
    cases hm : pp_me ts s t with
    | none => rw [hm] at hb; cases hb
    | some m =>
      rw [hm] at hb
      obtain ⟨em, hl⟩ := pp_me_e hm
      rw [← em]
      have h80 : (pq_dc s).length ≤ 80 := hw.2.2.2.2.2.1.2.1
      cases m with
      | none =>
        cases hb
        exact ⟨fun _ => rfl, fun n => absurd rfl n⟩
      | some k =>
        have hk := hl k rfl
        cases hb
        refine ⟨fun n => absurd n (oI_n (by omega)), fun _ => ⟨vp_in_nI (by omega) (by omega), ?_⟩⟩
        show (A 15 (nI k).toNatClampNeg = 1 → _) ∧ (¬ A 15 (nI k).toNatClampNeg = 1 → _)
        rw [cl_so1 hw hk]
        refine ⟨fun h => ?_, fun h => ?_⟩
        · rw [h]; rfl
        · rw [show Nat.beq (pp_so s k) 1 = false by exact nb_f h]; rfl
  · rw [if_neg h2] at hb
    cases hb
    refine ⟨fun n => absurd n h2, fun _ => ⟨fun h => ?_, fun h5 => ⟨fun h => ?_, fun h6 => ⟨fun h => ?_, fun h7 => ?_⟩⟩⟩⟩
    · rw [h]; rfl
    · rw [h]; rfl
    · rw [h]; rfl
    · rw [show (pp_k ts t == 5 || pp_k ts t == 6 || pp_k ts t == 7) = false by simp [h5, h6, h7]]; rfl
theorem cl_47 (hts : pp_ok ts) {Q : List (Int32 × List Int32)} {s : pp_S} {I A : ja_I} {J : ja_J} (hw : cq ts f0 f1 Q (I, A, J) s) {t : Nat} (ht : t < ts.length) {b : Bool} (hb : pp_mt ts s t = some b) : ec_E (d + 2) 47 [.ref 3, .int (nI t)] (I, A, J) (.inl (some (.int (bI b)))) (I, A, J) := by
  refine ec_47 (r := (_, _)) ⟨oI (pp_mc ts (pq_scs s) (pq_dc s) (pp_wd ts t)), I, A, J, cl_45 hts hw ht, ?_⟩
  unfold pp_mt at hb
  cases hm : pp_me ts s t with
  | none => rw [hm] at hb; cases hb
  | some m =>
    rw [hm] at hb
    obtain ⟨em, hl⟩ := pp_me_e hm
    rw [← em]
    have h80 : (pq_dc s).length ≤ 80 := hw.2.2.2.2.2.1.2.1
    cases m with
    | none =>
      cases hb
      exact ⟨fun _ => rfl, fun n => absurd rfl n⟩
    | some k =>
      have hk := hl k rfl
      cases hb
      refine ⟨fun n => absurd n (oI_n (by omega)), fun _ => ⟨vp_in_nI (by omega) (by omega), ?_⟩⟩
      show (A 15 (nI k).toNatClampNeg = 1 → _) ∧ (¬ A 15 (nI k).toNatClampNeg = 1 → _)
      rw [cl_so1 hw hk]
      refine ⟨fun h => ?_, fun h => ?_⟩
      · rw [h]; rfl
      · rw [show Nat.beq (pp_so s k) 1 = false by exact nb_f h]; rfl
theorem cl_48 (hts : pp_ok ts) {Q : List (Int32 × List Int32)} {s : pp_S} {I A : ja_I} {J : ja_J} (hw : cq ts f0 f1 Q (I, A, J) s) {t : Nat} (ht : t < ts.length) {b : Bool} (hb : pp_cd ts s t = some b) : ec_E (d + 2) 48 [.ref 3, .int (nI t)] (I, A, J) (.inl (some (.int (bI b)))) (I, A, J) := by
  refine ec_48 (r := (_, _)) ⟨oI (pp_mc ts (pq_scs s) (pq_dc s) (pp_wd ts t)), I, A, J, cl_45 hts hw ht, ?_⟩
  unfold pp_cd at hb
  rw [if_neg (fun c => by rw [if_pos c] at hb; cases hb)] at hb
  cases hm : pp_me ts s t with
  | none => rw [hm] at hb; cases hb
  | some m =>
    rw [hm] at hb
    obtain ⟨em, hl⟩ := pp_me_e hm
    rw [← em]
    have h80 : (pq_dc s).length ≤ 80 := hw.2.2.2.2.2.1.2.1
    cases m with
    | none =>
      cases hb
      exact ⟨fun _ => rfl, fun n => absurd rfl n⟩
    | some k =>
      have hk := hl k rfl
      have hx : (pq_dc s)[k]? = some (pq_dc s)[k] := List.getElem?_eq_getElem hk
      simp only [hx] at hb
      split at hb
      rotate_left
      · cases hb
      cases hb
      have hh := hw.2.2.2.2.2.1.2.2 k _ hx
      have e12 : A 12 (nI k).toNatClampNeg = nI (pq_dc s)[k].2.2.1 := by
        rw [nI_clamp (by omega)]; exact hh.2.2.1
      have l9 : (pq_dc s)[k].2.2.1 ≤ 9 := hh.2.2.2.2.2.2.2.2.1
      have ed : I 3 12 = nI (pq_scs s).length := hw.2.2.2.2.2.2.1.1
      have h9 : (pq_scs s).length ≤ 9 := hw.2.2.2.2.2.2.1.2.2.1
      refine ⟨fun n => absurd n (oI_n (by omega)), fun _ => ⟨vp_in_nI (by omega) (by omega), ?_⟩⟩
      show (I 3 12 ≤ A 12 (nI k).toNatClampNeg → _) ∧ (¬ I 3 12 ≤ A 12 (nI k).toNatClampNeg → _)
      rw [e12, ed, nI_leI (by omega) (by omega)]
      refine ⟨fun h => ?_, fun h => ?_⟩
      · rw [show Nat.blt (pq_dc s)[k].2.2.1 (pq_scs s).length = false by
          rw [Bool.eq_false_iff]; intro c; have := Nat.blt_eq.mp c; omega]; rfl
      · rw [show Nat.blt (pq_dc s)[k].2.2.1 (pq_scs s).length = true from Nat.blt_eq.mpr (by omega)]; rfl
end
