section
variable {ts : List pp_T} {f2 : Int32} {f1 : Nat → Int32} {d : Nat} {T : rq_A} {X : rq_X} {I A : ja_I} {J : ja_J} {s : pp_S}
theorem nI_m1 (n : Nat) : nI n + -1 = nI n - 1 := (Int32.sub_eq_add_neg (nI n) 1).symm
theorem nI_m0 : nI 0 - 1 < 0 := by decide
theorem rl_7l {C : ja_C} {cs : List Int32} {fr : Nat} (hl : fr + cs.length ≤ 160) (hh : cq_h (A 1) fr cs) : ∀ m, m ≤ cs.length → ja_R (ja_code tr_7) C (.inl (some (.long (rq_pk cs))), (I, A, J)) 7 [some (.ref 0), some (.int (nI fr)), none, some (.long (rq_pk (cs.drop m))), none, some (.int (nI m - 1))] [] (I, A, J)
  | 0, _ => by
    rw [List.drop_zero]
    exact br_7_7 ⟨fun _ => rfl, fun n => absurd nI_m0 n⟩
  | m + 1, hm => by
    have h := rl_7l (C := C) hl hh m (by omega)
    rw [nI_pred]
    have hlt : m < cs.length := by omega
    have ev : A 1 (fr + m) = cs[m] := by rw [hh m hlt, gd_e hlt]
    refine br_7_7 ⟨fun n => absurd n (nI_pos (by omega)), fun _ => ⟨?_, ?_⟩⟩
    · rw [nI_add]; exact vp_in_nI (by omega) (by omega)
    · rw [nI_add, nI_clamp (by omega), ev, nI_m1]
      rw [List.drop_eq_getElem_cons hlt] at h
      exact h
theorem rl_7 {cs : List Int32} {fr : Nat} (hl : fr + cs.length ≤ 160) (hh : cq_h (A 1) fr cs) : er_E (d + 1) 7 [.ref 0, .int (nI fr), .int (nI cs.length)] (I, A, J) (.inl (some (.long (rq_pk cs)))) (I, A, J) := by
  have h := rl_7l (I := I) (J := J) (C := er_E d) hl hh cs.length (Nat.le_refl _)
  rw [List.drop_of_length_le (Nat.le_refl _)] at h
  exact er_7 (r := (_, _)) h
theorem rl_17i (hts : pp_ok ts) (hw : rq ts f2 f1 T X (I, A, J) s) {C : ja_C} {v : Int64} {m q : Nat} (hm : m < 9) (hq : (pq_scs s)[m]? = some q) {z : Int32}
    (next : pp_m1 ts v q (pq_dc s) 0 = none → ja_R (ja_code tr_17) C (.inl (some (.int z)), (I, A, J)) 25 [some (.ref 0), none, some (.long v), none, some (.int (nI m - 1)), none] [] (I, A, J)) (hz : ∀ k, pp_m1 ts v q (pq_dc s) 0 = some k → z = nI k) : ∀ (n k : Nat), k + n = (pq_dc s).length → pp_m1 ts v q (pq_dc s) 0 = pp_m1 ts v q ((pq_dc s).drop k) k → ja_R (ja_code tr_17) C (.inl (some (.int z)), (I, A, J)) 33 [some (.ref 0), none, some (.long v), none, some (.int (nI m)), some (.int (nI k))] [] (I, A, J) := by
  obtain ⟨hK, h0, hP, hT, hS, hN, hR⟩ := hw
  have en : I 0 20 = nI (pq_dc s).length := hN.1
  have h80 : (pq_dc s).length ≤ 80 := hN.2.1
  have e9 : A 9 (nI m).toNatClampNeg = nI q := by rw [nI_clamp (by omega)]; exact (hS.2.2.2.2 m q hq).1
  have lq : q < 1000 := (hS.2.2.2.2 m q hq).2
  intro n
  induction n with
  | zero =>
    intro k hk he
    rw [List.drop_of_length_le (by omega)] at he
    refine br_17_33 ⟨fun _ => ?_, fun h => absurd (by rw [en]; exact nI_le (by omega) (by omega)) h⟩
    rw [nI_m1]
    exact next he
  | succ n ih =>
    intro k hk he
    have hkl : k < (pq_dc s).length := by omega
    have hx : (pq_dc s)[k]? = some (pq_dc s)[k] := List.getElem?_eq_getElem hkl
    obtain ⟨_, e11, _, _, _, _, _, ej, _, l2, _⟩ := hN.2.2.2.2 k _ hx
    rw [List.drop_eq_getElem_cons hkl] at he
    simp only [pp_m1] at he
    generalize (pq_dc s)[k] = x at hx e11 ej l2 he
    have ck : (nI k).toNatClampNeg = k := nI_clamp (by omega)
    have e11' : A 11 k = nI x.2.1 := e11
    have ej' : J 17 k = pp_wd ts x.1 := ej
    have v161 : vp_in (nI k) 161 := vp_in_nI (by omega) (by omega)
    refine br_17_33 ⟨fun h => absurd h (by rw [en]; exact nI_ge hkl (by omega)), fun _ => ⟨v161, vp_in_nI (by omega) (by omega), ?_⟩⟩
    rw [ck, e9, e11', ej']
    refine ⟨fun h => ⟨v161, fun hc => ?_, fun hc => ?_⟩, fun h => ?_⟩
    · have h' : x.2.1 = q := (nI_eq (by omega) (by omega)).mp h
      rw [if_pos ⟨h', (lg_cmp_eq _ _).mp hc⟩] at he
      rw [hz k he]
    · rw [if_neg (fun c => hc ((lg_cmp_eq _ _).mpr c.2))] at he
      rw [nI_1]
      exact ih (k + 1) (by omega) he
    · rw [if_neg (fun c => h (congrArg nI c.1))] at he
      rw [nI_1]
      exact ih (k + 1) (by omega) he
theorem rl_17o (hts : pp_ok ts) (hw : rq ts f2 f1 T X (I, A, J) s) {C : ja_C} {v : Int64} : ∀ m, m ≤ (pq_scs s).length → ja_R (ja_code tr_17) C (.inl (some (.int (oI (pp_mr ts (pq_dc s) v ((pq_scs s).take m).reverse)))), (I, A, J)) 25 [some (.ref 0), none, some (.long v), none, some (.int (nI m - 1)), none] [] (I, A, J)
  | 0, _ => br_17_25 ⟨fun _ => rfl, fun n => absurd nI_m0 n⟩
  | m + 1, hm => by
    have h9 : (pq_scs s).length ≤ 9 := hw.2.2.2.2.1.2.2.1
    have ih := rl_17o hts hw (C := C) (v := v) m (by omega)
    have hml : m < (pq_scs s).length := by omega
    have hq : (pq_scs s)[m]? = some (pq_scs s)[m] := List.getElem?_eq_getElem hml
    rw [nI_pred]
    rw [List.take_succ_eq_append_getElem hml, List.reverse_append, List.reverse_singleton, List.singleton_append]
    refine br_17_25 ⟨fun n => absurd n (nI_pos (by omega)), fun _ => ?_⟩
    refine rl_17i hts hw (by omega) hq (fun h => ?_) (fun k h => ?_) (pq_dc s).length 0 (by omega) (by rw [List.drop_zero])
    · simp only [pp_mr, h]; exact ih
    · simp only [pp_mr, h]; rfl
/-- meant -/
theorem rl_17 (hts : pp_ok ts) (hw : rq ts f2 f1 T X (I, A, J) s) {t : Nat} (ht : t < ts.length) : er_E (d + 2) 17 [.ref 0, .int (nI t)] (I, A, J) (.inl (some (.int (oI (pp_mr ts (pq_dc s) (pp_wd ts t) (pq_scs s).reverse))))) (I, A, J) := by
  have h160 := hts.1
  obtain ⟨fr, e3, e4, l, hh⟩ := hw.1.2.2 t ht
  have ck : (nI t).toNatClampNeg = t := nI_clamp (by omega)
  have v161 : vp_in (nI t) 161 := vp_in_nI (by omega) (by omega)
  have e3' : A 3 t = nI fr := e3
  have e4' : A 4 t = nI (pp_cs ts t).length := e4
  have e18 : I 0 18 = nI (pq_scs s).length := hw.2.2.2.2.1.1
  refine er_17 (r := (_, _)) ⟨v161, v161, pp_wd ts t, I, A, J, ?_, ?_⟩
  · rw [ck, e3', e4', (hts.2 t ht).2.2.2.2.2.2]
    exact rl_7 l hh
  · rw [e18]
    have := rl_17o hts hw (C := er_E (d + 1)) (v := pp_wd ts t) (pq_scs s).length (Nat.le_refl _)
    rwa [List.take_length] at this
theorem pp_me_r {t : Nat} {m : Option Nat} (h : pp_me ts s t = some m) : pp_mr ts (pq_dc s) (pp_wd ts t) (pq_scs s).reverse = m ∧ ∀ k, m = some k → k < (pq_dc s).length := by
  have h2 := (pp_me_e h).2
  unfold pp_me at h
  split at h
  · rename_i e
    cases h
    exact ⟨e.symm, h2⟩
  · cases h
theorem oI_neg : oI none < 0 := by decide
theorem oI_pos {k : Nat} (h : k < 2 ^ 31) : ¬ oI (some k) < 0 := nI_pos h
/-- isType -/
theorem rl_18 (hts : pp_ok ts) (hw : rq ts f2 f1 T X (I, A, J) s) {t : Nat} (ht : t ≤ ts.length) {b : Bool} (hb : pp_ib ts s t = some b) (h5 : pp_k ts t ≠ 5) (h6 : pp_k ts t ≠ 6) (h7 : pp_k ts t ≠ 7) : er_E (d + 3) 18 [.ref 0, .int (nI t)] (I, A, J) (.inl (some (.int (bI b)))) (I, A, J) := by
  have h160 := hts.1
  have ck : (nI t).toNatClampNeg = t := nI_clamp (by omega)
  have v161 : vp_in (nI t) 161 := vp_in_nI (by omega) (by omega)
  have e2 : A 2 (nI t).toNatClampNeg = rk (pp_k ts t) := by rw [ck]; exact hw.1.2.1 t ht
  have h80 : (pq_dc s).length ≤ 80 := hw.2.2.2.2.2.1.2.1
  refine er_18 (r := (_, _)) ⟨v161, ?_⟩
  rw [e2, rk_1]
  unfold pp_ib at hb
  by_cases h2 : pp_k ts t = 2
  · rw [if_pos h2] at hb
    have htl : t < ts.length := by
      refine Nat.lt_of_not_le fun hle => ?_
      rw [pp_k_ge hle] at h2
      exact absurd h2 (by decide)
    refine ⟨fun _ => ⟨_, I, A, J, rl_17 hts hw htl, ?_⟩, fun n => absurd h2 n⟩
    cases hm : pp_me ts s t with
    | none => rw [hm] at hb; cases hb
    | some m =>
      rw [hm] at hb
      obtain ⟨em, hl⟩ := pp_me_r hm
      rw [em]
      cases m with
      | none =>
        cases hb
        exact ⟨fun _ => rfl, fun n => absurd oI_neg n⟩
      | some k =>
        have hk := hl k rfl
        cases hb
        have hx : (pq_dc s)[k]? = some (pq_dc s)[k] := List.getElem?_eq_getElem hk
        have hh := hw.2.2.2.2.2.1.2.2.2.2 k _ hx
        have e13 : A 13 (oI (some k)).toNatClampNeg = nI (pp_so s k) := by
          show A 13 (nI k).toNatClampNeg = _
          rw [nI_clamp (by omega)]
          unfold pp_so
          rw [hx]
          exact hh.2.2.2.1
        have l3 : pp_so s k < 3 := by
          unfold pp_so
          rw [hx]
          exact hh.2.2.2.2.2.2.2.2.2.2.2.2
        refine ⟨fun n => absurd n (oI_pos (by omega)), fun _ => ⟨vp_in_nI (by omega) (by omega), ?_⟩⟩
        have e1 : (nI (pp_so s k) = 1) = (pp_so s k = 1) := propext (nI_eq (b := 1) (by omega) (by omega))
        rw [e13, e1]
        refine ⟨fun h => ?_, fun h => ?_⟩
        · rw [h]; rfl
        · rw [show Nat.beq (pp_so s k) 1 = false by exact nb_f h]; rfl
  · rw [if_neg h2] at hb
    cases hb
    refine ⟨fun n => absurd n h2, fun _ => ⟨fun _ => ?_, fun n => absurd (by decide) n⟩⟩
    rw [show (pp_k ts t == 5 || pp_k ts t == 6 || pp_k ts t == 7) = false by simp [h5, h6, h7]]; rfl
/-- isBase -/
theorem rl_19 (hts : pp_ok ts) (hw : rq ts f2 f1 T X (I, A, J) s) {t : Nat} (ht : t ≤ ts.length) {b : Bool} (hb : pp_ib ts s t = some b) : er_E (d + 4) 19 [.ref 0, .int (nI t)] (I, A, J) (.inl (some (.int (bI b)))) (I, A, J) := by
  have h160 := hts.1
  have ck : (nI t).toNatClampNeg = t := nI_clamp (by omega)
  have v161 : vp_in (nI t) 161 := vp_in_nI (by omega) (by omega)
  have e2 : A 2 (nI t).toNatClampNeg = rk (pp_k ts t) := by rw [ck]; exact hw.1.2.1 t ht
  refine er_19 (r := (_, _)) ⟨v161, ?_⟩
  rw [e2, rk_o (by decide) (by decide) (by decide), rk_o (by decide) (by decide) (by decide), rk_o (by decide) (by decide) (by decide)]
  have kb : ∀ c : Int32, (c = 5 ∨ c = 6 ∨ c = 7) → pp_k ts t = c → b = true := by
    intro c hc h
    unfold pp_ib at hb
    rw [if_neg (by rw [h]; rcases hc with rfl | rfl | rfl <;> decide), h] at hb
    rcases hc with rfl | rfl | rfl <;> (cases hb; rfl)
  refine ⟨fun h => by rw [kb 5 (Or.inl rfl) h]; rfl, fun h5 => ⟨v161, fun h => by rw [kb 6 (Or.inr (Or.inl rfl)) h]; rfl, fun h6 => ⟨v161, fun h => by rw [kb 7 (Or.inr (Or.inr rfl)) h]; rfl, fun h7 => ⟨_, I, A, J, rl_18 hts hw ht hb h5 h6 h7, ?_⟩⟩⟩⟩
  cases b
  · exact ⟨fun _ => rfl, fun n => absurd rfl n⟩
  · exact ⟨fun n => absurd n (by decide), fun _ => rfl⟩
/-- canDeclare -/
theorem rl_20 (hts : pp_ok ts) (hw : rq ts f2 f1 T X (I, A, J) s) {t : Nat} (ht : t < ts.length) {b : Bool} (hb : pp_cd ts s t = some b) : er_E (d + 3) 20 [.ref 0, .int (nI t)] (I, A, J) (.inl (some (.int (bI b)))) (I, A, J) := by
  have h80 : (pq_dc s).length ≤ 80 := hw.2.2.2.2.2.1.2.1
  have e18 : I 0 18 = nI (pq_scs s).length := hw.2.2.2.2.1.1
  have h9 : (pq_scs s).length ≤ 9 := hw.2.2.2.2.1.2.2.1
  have hs : pq_scs s ≠ [] := fun c => by
    unfold pp_cd at hb
    rw [if_pos c] at hb
    cases hb
  have hp : 0 < (pq_scs s).length := List.length_pos_iff.mpr hs
  refine er_20 (r := (_, _)) ⟨_, I, A, J, rl_17 hts hw ht, ?_⟩
  unfold pp_cd at hb
  rw [if_neg hs] at hb
  cases hm : pp_me ts s t with
  | none => rw [hm] at hb; cases hb
  | some m =>
    rw [hm] at hb
    obtain ⟨em, hl⟩ := pp_me_r hm
    rw [em]
    cases m with
    | none =>
      cases hb
      exact ⟨fun _ => rfl, fun n => absurd oI_neg n⟩
    | some k =>
      have hk := hl k rfl
      have hx : (pq_dc s)[k]? = some (pq_dc s)[k] := List.getElem?_eq_getElem hk
      simp only [hx] at hb
      split at hb
      rotate_left
      · cases hb
      rename_i hg
      cases hb
      have hh := hw.2.2.2.2.2.1.2.2.2.2 k _ hx
      have e11 : A 11 (oI (some k)).toNatClampNeg = nI (pq_dc s)[k].2.1 := by
        show A 11 (nI k).toNatClampNeg = _
        rw [nI_clamp (by omega)]; exact hh.2.1
      have l1000 : (pq_dc s)[k].2.1 < 1000 := hh.2.2.2.2.2.2.2.2.2.1
      have hq : (pq_scs s)[(pq_scs s).length - 1]? = some ((pq_scs s).getLastD 0) := by
        rw [List.getLastD_eq_getLast?, List.getLast?_eq_getElem?, List.getElem?_eq_getElem (by omega)]; rfl
      obtain ⟨e9, lq⟩ := hw.2.2.2.2.1.2.2.2.2 _ _ hq
      have em1 : I 0 18 - 1 = nI ((pq_scs s).length - 1) := by
        rw [e18]
        obtain ⟨o, ho⟩ : ∃ o, (pq_scs s).length = o + 1 := ⟨(pq_scs s).length - 1, by omega⟩
        rw [ho]; exact nI_pred o
      have e9' : A 9 (I 0 18 - 1).toNatClampNeg = nI ((pq_scs s).getLastD 0) := by
        rw [em1, nI_clamp (by omega)]; exact e9
      refine ⟨fun n => absurd n (oI_pos (by omega)), fun _ => ⟨vp_in_nI (by omega) (by omega), by rw [em1]; exact vp_in_nI (by omega) (by omega), ?_⟩⟩
      rw [e11, e9', nI_eq (by omega) (by omega), hg]
      refine ⟨fun h => ?_, fun h => ?_⟩
      · rw [h, Nat.beq_refl]; rfl
      · rw [show Nat.beq (pq_dc s)[k].2.1 ((pq_scs s).getLastD 0) = false by exact nb_f h]; rfl
end
