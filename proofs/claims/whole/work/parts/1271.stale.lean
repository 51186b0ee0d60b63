/-! The reference's world before a first declarator: its signs are those of a reading before. -/
abbrev rq_G0 (tn : Nat) : Prop := True ∧ True ∧ tn ≤ 640 ∧ True
abbrev rq_W0 (I0 a19 : Nat → Int32) (X : rq_X) : Prop := I0 32 = X.1 ∧ I0 33 = X.2.1 ∧ True ∧ I0 35 = nI X.2.2.2.1.length ∧ X.2.2.2.1.length ≤ 2400 ∧ cq_h a19 0 X.2.2.2.1 ∧ I0 37 = X.2.2.2.2
abbrev rq0 (ts : List pp_T) (f2 : Int32) (f1 : Nat → Int32) (T : rq_A) (X : rq_X) (w : ja_w) (s : pp_S) : Prop :=
  rq_K ts (w.1 0 3) (w.2.1 1) (w.2.1 2) (w.2.1 3) (w.2.1 4) ∧ (w.1 0 2 = f2 ∧ w.2.1 1 = f1 ∧ w.1 0 11 = 0 ∧ w.1 0 0 = 0 ∧ w.1 0 10 = -1 ∧ ts.length ≤ 160) ∧ rq_P ts (w.1 0) (pq_pos s) (pq_op s) ∧
  (w.1 0 12 = nI T.length ∧ T.length ≤ 1200 ∧ rq_T (w.2.1 7) (w.2.1 8) T) ∧ rq_S (w.1 0 18) (w.1 0 17) (w.2.1 9) (pq_scs s) (pq_sd s) ∧
  rq_N ts (w.1 0 20) (w.1 0 27) (w.2.1 10) (w.2.1 11) (w.2.1 12) (w.2.1 13) (w.2.1 14) (w.2.1 15) (w.2.1 16) (w.2.2 17) (pq_dc s) ∧
  rq_G0 (pq_tn s) ∧ rq_G (w.1 0 38) (w.2.1 20) 640 (pq_frm s) ∧ (∀ i, i < ts.length → w.2.1 5 i = pq_rl s i ∧ w.2.1 6 i = pq_mn s i) ∧ rq_W0 (w.1 0) (w.2.1 19) X
section
variable {ts : List pp_T} {f2 : Int32} {f1 : Nat → Int32} {d : Nat} {T : rq_A} {X : rq_X} {I A : ja_I} {J : ja_J} {s s' s0 s1 s2 s3 s4 s5 : pp_S} {w w' : ja_w} {C C' : pp_C} {v : Nat} {sp a b : Int32} {G : ja_w → Prop}
theorem rq_w0 (h : rq ts f2 f1 T X w s) : rq0 ts f2 f1 T X w s := by
  obtain ⟨hK, h0, hP, hT, hS, hN, hG, hF, hL, h1, h2, _, h3⟩ := h
  exact ⟨hK, h0, hP, hT, hS, hN, ⟨trivial, trivial, hG.2.2.1, trivial⟩, hF, hL, h1, h2, trivial, h3⟩
theorem zrb_of (hw : rq0 ts f2 f1 T X (I, A, J) s) : rb f2 f1 (pq_pos s) (rbk I, A, J) ∧ True := by
  obtain ⟨hK, h0, hP, hR⟩ := hw
  exact ⟨⟨⟨h0.1, h0.2.1, h0.2.2.1, h0.2.2.2.1, Nat.le_trans hP.2.1 h0.2.2.2.2.2⟩, rfl, hP.1⟩, trivial⟩
theorem zO {x : Nat ⊕ (Nat × pp_S)} {wl : List Int32} (h : rG d w (rO f2 f1 x (fun _ s' w' => ∃ X' : rq_X, X'.2.2.2.1 = wl ∧ rq ts f2 f1 T X' w' s'))) : rG d w (rO f2 f1 x (fun _ s' w' => ∃ X' : rq_X, X'.2.2.2.1 = wl ∧ rq0 ts f2 f1 T X' w' s')) := by
  refine rG_m h (fun w' g => ?_)
  cases x with
  | inl p => exact g
  | inr z =>
    obtain ⟨X', g1, g2⟩ := g
    exact ⟨X', g1, rq_w0 g2⟩
theorem zrl_11 (hw : rq0 ts f2 f1 T X (I, A, J) s) (hl : T.length < 1200) (a b : Int32) : ∃ (I1 A1 : ja_I) (J1 : ja_J), er_E (d + 1) 11 [.ref 0, .int a, .int b] (I, A, J) (.inl none) (I1, A1, J1) ∧ rq0 ts f2 f1 ((a, b) :: T) X (I1, A1, J1) s := by
  obtain ⟨hK, h0, hP, hT, hR⟩ := hw
  have e : I 0 12 = nI T.length := hT.1
  have ek : (I 0 12).toNatClampNeg = T.length := cn_cl e (by omega)
  have v : vp_in (I 0 12) 1200 := cn_in e hl (by omega)
  refine ⟨_, _, _, er_11 (r := (_, _)) ⟨v, v, rfl⟩, hK, h0, hP, ⟨?_, ?_, ?_⟩, hR⟩
  · show I 0 12 + 1 = nI ((a, b) :: T).length
    rw [e, nI_1]; rfl
  · rw [List.length_cons]; omega
  · show rq_T (fun i => cond (Nat.beq i (I 0 12).toNatClampNeg) a (A 7 i)) (fun i => cond (Nat.beq i (I 0 12).toNatClampNeg) b (A 8 i)) ((a, b) :: T)
    rw [ek]
    refine ⟨?_, ?_, rq_Tu (Nat.le_refl _) hT.2.2⟩
    · show cond (Nat.beq T.length T.length) a _ = a
      rw [Nat.beq_refl]; rfl
    · show cond (Nat.beq T.length T.length) b _ = b
      rw [Nat.beq_refl]; rfl
theorem zrl_13 (hts : pp_ok ts) (hw : rq0 ts f2 f1 T X (I, A, J) s) (c : Int32) : ∃ z : Int32, er_E (d + 1) 13 [.ref 0, .int c] (I, A, J) (.inl (some (.int z))) (I, A, J) ∧ (rk (pp_at ts s) = c → z = 1) ∧ (¬ rk (pp_at ts s) = c → z = 0) := by
  have h160 := hts.1
  have e : I 0 9 = nI (pq_pos s) := hw.2.2.1.1
  have l : pq_pos s ≤ ts.length := hw.2.2.1.2.1
  have ek : A 2 (I 0 9).toNatClampNeg = rk (pp_at ts s) := by
    rw [cn_cl e (by omega)]; exact hw.1.2.1 _ l
  have v : vp_in (I 0 9) 161 := cn_in e (by omega) (by omega)
  by_cases h : rk (pp_at ts s) = c
  · exact ⟨1, er_13 (r := (_, _)) ⟨v, fun _ => rfl, fun n => absurd (ek.trans h) n⟩, fun _ => rfl, fun n => absurd h n⟩
  · exact ⟨0, er_13 (r := (_, _)) ⟨v, fun n => absurd (ek.symm.trans n) h, fun _ => rfl⟩, fun n => absurd n h, fun _ => rfl⟩
theorem zrl_17i (hts : pp_ok ts) (hw : rq0 ts f2 f1 T X (I, A, J) s) {C : ja_C} {v : Int64} {m q : Nat} (hm : m < 9) (hq : (pq_scs s)[m]? = some q) {z : Int32}
    (next : pp_m1 ts v q (pq_dc s) 0 = none → ja_R (ja_code tr_17) C (.inl (some (.int z)), (I, A, J)) 25 [some (.ref 0), none, some (.long v), none, some (.int (nI m - 1)), none] [] (I, A, J)) (hz : ∀ k, pp_m1 ts v q (pq_dc s) 0 = some k → z = nI k) : ∀ (n k : Nat), k + n = (pq_dc s).length → pp_m1 ts v q (pq_dc s) 0 = pp_m1 ts v q ((pq_dc s).drop k) k → ja_R (ja_code tr_17) C (.inl (some (.int z)), (I, A, J)) 33 [some (.ref 0), none, some (.long v), none, some (.int (nI m)), some (.int (nI k))] [] (I, A, J) := by
  obtain ⟨hK, h0, hP, hT, hS, hN, hR⟩ := hw
  have en : I 0 20 = nI (pq_dc s).length := hN.1
  have h80 : (pq_dc s).length ≤ 80 := hN.2.1
  have e9 : A 9 (nI m).toNatClampNeg = nI q := by rw [nI_clamp (by omega)]; exact (hS.2.2.2.2 m q hq).1
  have lq : q < 1000 := (hS.2.2.2.2 m q hq).2
  intro n
  induction n with
  | zero =>
    intro k hk he
    rw [List.drop_of_length_le (by omega)] at he
    refine br_17_33 ⟨fun _ => ?_, fun h => absurd (by rw [en]; exact nI_le (by omega) (by omega)) h⟩
    rw [nI_m1]
    exact next he
  | succ n ih =>
    intro k hk he
    have hkl : k < (pq_dc s).length := by omega
    have hx : (pq_dc s)[k]? = some (pq_dc s)[k] := List.getElem?_eq_getElem hkl
    obtain ⟨_, e11, _, _, _, _, _, ej, _, l2, _⟩ := hN.2.2.2.2 k _ hx
    rw [List.drop_eq_getElem_cons hkl] at he
    simp only [pp_m1] at he
    generalize (pq_dc s)[k] = x at hx e11 ej l2 he
    have ck : (nI k).toNatClampNeg = k := nI_clamp (by omega)
    have e11' : A 11 k = nI x.2.1 := e11
    have ej' : J 17 k = pp_wd ts x.1 := ej
    have v161 : vp_in (nI k) 161 := vp_in_nI (by omega) (by omega)
    refine br_17_33 ⟨fun h => absurd h (by rw [en]; exact nI_ge hkl (by omega)), fun _ => ⟨v161, vp_in_nI (by omega) (by omega), ?_⟩⟩
    rw [ck, e9, e11', ej']
    refine ⟨fun h => ⟨v161, fun hc => ?_, fun hc => ?_⟩, fun h => ?_⟩
    · have h' : x.2.1 = q := (nI_eq (by omega) (by omega)).mp h
      rw [if_pos ⟨h', (lg_cmp_eq _ _).mp hc⟩] at he
      rw [hz k he]
    · rw [if_neg (fun c => hc ((lg_cmp_eq _ _).mpr c.2))] at he
      rw [nI_1]
      exact ih (k + 1) (by omega) he
    · rw [if_neg (fun c => h (congrArg nI c.1))] at he
      rw [nI_1]
      exact ih (k + 1) (by omega) he
theorem zrl_17o (hts : pp_ok ts) (hw : rq0 ts f2 f1 T X (I, A, J) s) {C : ja_C} {v : Int64} : ∀ m, m ≤ (pq_scs s).length → ja_R (ja_code tr_17) C (.inl (some (.int (oI (pp_mr ts (pq_dc s) v ((pq_scs s).take m).reverse)))), (I, A, J)) 25 [some (.ref 0), none, some (.long v), none, some (.int (nI m - 1)), none] [] (I, A, J)
  | 0, _ => br_17_25 ⟨fun _ => rfl, fun n => absurd nI_m0 n⟩
  | m + 1, hm => by
    have h9 : (pq_scs s).length ≤ 9 := hw.2.2.2.2.1.2.2.1
    have ih := zrl_17o hts hw (C := C) (v := v) m (by omega)
    have hml : m < (pq_scs s).length := by omega
    have hq : (pq_scs s)[m]? = some (pq_scs s)[m] := List.getElem?_eq_getElem hml
    rw [nI_pred]
    rw [List.take_succ_eq_append_getElem hml, List.reverse_append, List.reverse_singleton, List.singleton_append]
    refine br_17_25 ⟨fun n => absurd n (nI_pos (by omega)), fun _ => ?_⟩
    refine zrl_17i hts hw (by omega) hq (fun h => ?_) (fun k h => ?_) (pq_dc s).length 0 (by omega) (by rw [List.drop_zero])
    · simp only [pp_mr, h]; exact ih
    · simp only [pp_mr, h]; rfl
theorem zrl_17 (hts : pp_ok ts) (hw : rq0 ts f2 f1 T X (I, A, J) s) {t : Nat} (ht : t < ts.length) : er_E (d + 2) 17 [.ref 0, .int (nI t)] (I, A, J) (.inl (some (.int (oI (pp_mr ts (pq_dc s) (pp_wd ts t) (pq_scs s).reverse))))) (I, A, J) := by
  have h160 := hts.1
  obtain ⟨fr, e3, e4, l, hh⟩ := hw.1.2.2 t ht
  have ck : (nI t).toNatClampNeg = t := nI_clamp (by omega)
  have v161 : vp_in (nI t) 161 := vp_in_nI (by omega) (by omega)
  have e3' : A 3 t = nI fr := e3
  have e4' : A 4 t = nI (pp_cs ts t).length := e4
  have e18 : I 0 18 = nI (pq_scs s).length := hw.2.2.2.2.1.1
  refine er_17 (r := (_, _)) ⟨v161, v161, pp_wd ts t, I, A, J, ?_, ?_⟩
  · rw [ck, e3', e4', (hts.2 t ht).2.2.2.2.2.2]
    exact rl_7 l hh
  · rw [e18]
    have := zrl_17o hts hw (C := er_E (d + 1)) (v := pp_wd ts t) (pq_scs s).length (Nat.le_refl _)
    rwa [List.take_length] at this
theorem zrl_18 (hts : pp_ok ts) (hw : rq0 ts f2 f1 T X (I, A, J) s) {t : Nat} (ht : t ≤ ts.length) {b : Bool} (hb : pp_ib ts s t = some b) (h5 : pp_k ts t ≠ 5) (h6 : pp_k ts t ≠ 6) (h7 : pp_k ts t ≠ 7) : er_E (d + 3) 18 [.ref 0, .int (nI t)] (I, A, J) (.inl (some (.int (bI b)))) (I, A, J) := by
  have h160 := hts.1
  have ck : (nI t).toNatClampNeg = t := nI_clamp (by omega)
  have v161 : vp_in (nI t) 161 := vp_in_nI (by omega) (by omega)
  have e2 : A 2 (nI t).toNatClampNeg = rk (pp_k ts t) := by rw [ck]; exact hw.1.2.1 t ht
  have h80 : (pq_dc s).length ≤ 80 := hw.2.2.2.2.2.1.2.1
  refine er_18 (r := (_, _)) ⟨v161, ?_⟩
  rw [e2, rk_1]
  unfold pp_ib at hb
  by_cases h2 : pp_k ts t = 2
  · rw [if_pos h2] at hb
    have htl : t < ts.length := by
      refine Nat.lt_of_not_le fun hle => ?_
      rw [pp_k_ge hle] at h2
      exact absurd h2 (by decide)
    refine ⟨fun _ => ⟨_, I, A, J, zrl_17 hts hw htl, ?_⟩, fun n => absurd h2 n⟩
    cases hm : pp_me ts s t with
    | none => rw [hm] at hb; cases hb
    | some m =>
      rw [hm] at hb
      obtain ⟨em, hl⟩ := pp_me_r hm
      rw [em]
      cases m with
      | none =>
        cases hb
        exact ⟨fun _ => rfl, fun n => absurd oI_neg n⟩
      | some k =>
        have hk := hl k rfl
        cases hb
        have hx : (pq_dc s)[k]? = some (pq_dc s)[k] := List.getElem?_eq_getElem hk
        have hh := hw.2.2.2.2.2.1.2.2.2.2 k _ hx
        have e13 : A 13 (oI (some k)).toNatClampNeg = nI (pp_so s k) := by
          show A 13 (nI k).toNatClampNeg = _
          rw [nI_clamp (by omega)]
          unfold pp_so
          rw [hx]
          exact hh.2.2.2.1
        have l3 : pp_so s k < 3 := by
          unfold pp_so
          rw [hx]
          exact hh.2.2.2.2.2.2.2.2.2.2.2.2
        refine ⟨fun n => absurd n (oI_pos (by omega)), fun _ => ⟨vp_in_nI (by omega) (by omega), ?_⟩⟩
        have e1 : (nI (pp_so s k) = 1) = (pp_so s k = 1) := propext (nI_eq (b := 1) (by omega) (by omega))
        rw [e13, e1]
        refine ⟨fun h => ?_, fun h => ?_⟩
        · rw [h]; rfl
        · rw [show Nat.beq (pp_so s k) 1 = false by exact nb_f h]; rfl
  · rw [if_neg h2] at hb
    cases hb
    refine ⟨fun n => absurd n h2, fun _ => ⟨fun _ => ?_, fun n => absurd (by decide) n⟩⟩
    rw [show (pp_k ts t == 5 || pp_k ts t == 6 || pp_k ts t == 7) = false by simp [h5, h6, h7]]; rfl
theorem zrl_19 (hts : pp_ok ts) (hw : rq0 ts f2 f1 T X (I, A, J) s) {t : Nat} (ht : t ≤ ts.length) {b : Bool} (hb : pp_ib ts s t = some b) : er_E (d + 4) 19 [.ref 0, .int (nI t)] (I, A, J) (.inl (some (.int (bI b)))) (I, A, J) := by
  have h160 := hts.1
  have ck : (nI t).toNatClampNeg = t := nI_clamp (by omega)
  have v161 : vp_in (nI t) 161 := vp_in_nI (by omega) (by omega)
  have e2 : A 2 (nI t).toNatClampNeg = rk (pp_k ts t) := by rw [ck]; exact hw.1.2.1 t ht
  refine er_19 (r := (_, _)) ⟨v161, ?_⟩
  rw [e2, rk_o (by decide) (by decide) (by decide), rk_o (by decide) (by decide) (by decide), rk_o (by decide) (by decide) (by decide)]
  have kb : ∀ c : Int32, (c = 5 ∨ c = 6 ∨ c = 7) → pp_k ts t = c → b = true := by
    intro c hc h
    unfold pp_ib at hb
    rw [if_neg (by rw [h]; rcases hc with rfl | rfl | rfl <;> decide), h] at hb
    rcases hc with rfl | rfl | rfl <;> (cases hb; rfl)
  refine ⟨fun h => by rw [kb 5 (Or.inl rfl) h]; rfl, fun h5 => ⟨v161, fun h => by rw [kb 6 (Or.inr (Or.inl rfl)) h]; rfl, fun h6 => ⟨v161, fun h => by rw [kb 7 (Or.inr (Or.inr rfl)) h]; rfl, fun h7 => ⟨_, I, A, J, zrl_18 hts hw ht hb h5 h6 h7, ?_⟩⟩⟩⟩
  cases b
  · exact ⟨fun _ => rfl, fun n => absurd rfl n⟩
  · exact ⟨fun n => absurd n (by decide), fun _ => rfl⟩
theorem zrq_tk (hw : rq0 ts f2 f1 T X (I, A, J) s) (hx : pp_tk ts s = some (.inr (v, s1))) (ho : pp_opens (pp_at ts s) = false) (hs : pp_shuts (pp_at ts s) = false) : rq0 ts f2 f1 T X (ja_up I 0 9 (I 0 9 + 1), A, J) s1 := by
  have e9 : I 0 9 = nI (pq_pos s) := hw.2.2.1.1
  obtain ⟨pos, op, cc, tn, tl, wt, pn, scs, sd, sig, frm, rl, mn, dc, fc⟩ := s
  have ho' : pp_opens (pp_k ts pos) = false := ho
  have hs' : pp_shuts (pp_k ts pos) = false := hs
  simp only [pp_tk, ho', hs'] at hx
  split at hx
  · cases hx
  · split at hx
    · cases hx
    · rw [if_neg (by decide), if_neg (by decide)] at hx
      cases hx
      obtain ⟨hK, h0, hP, hR⟩ := hw
      exact ⟨hK, h0, ⟨(congrArg (· + 1) e9).trans (nI_1 _), by show v + 1 ≤ ts.length; omega, hP.2.2⟩, hR⟩
theorem zrl_21 (hts : pp_ok ts) (hw : rq0 ts f2 f1 T X (I, A, J) s) {x : Nat ⊕ (Nat × pp_S)} (hx : pp_base ts s = some x) : ∃ (z : Int32) (I1 A1 : ja_I) (J1 : ja_J), er_E (d + 5) 21 [.ref 0] (I, A, J) (.inl (some (.int z))) (I1, A1, J1) ∧ rE (fun b s1 w => z = pp_bv ts s1 b ∧ rq0 ts f2 f1 T X w s1) s I A J x (I1, A1, J1) := by
  have h160 := hts.1
  have e9 : I 0 9 = nI (pq_pos s) := hw.2.2.1.1
  have lp : pq_pos s ≤ ts.length := hw.2.2.1.2.1
  have h16 : I 0 16 = 0 := hw.2.2.1.2.2.2.2
  have ek : A 2 (I 0 9).toNatClampNeg = rk (pp_at ts s) := by
    rw [cn_cl e9 (by omega)]; exact hw.1.2.1 _ lp
  have v161 : vp_in (I 0 9) 161 := cn_in e9 (by omega) (by omega)
  unfold pp_base at hx
  cases hb : pp_ib ts s (pq_pos s) with
  | none => rw [hb] at hx; cases hx
  | some b =>
    rw [hb] at hx
    have h19 := zrl_19 (d := d) hts hw lp hb
    rw [← e9] at h19
    cases b with
    | false =>
      cases hx
      exact ⟨-1, _, _, _, er_21 (r := (_, _)) ⟨fun _ => ⟨0, I, A, J, h19, fun _ => ⟨fun _ => ⟨_, _, _, rl_12, rfl⟩, fun n => absurd h16 n⟩, fun n => absurd rfl n⟩, fun n => absurd h16 n⟩, rfl, rfl⟩
    | true =>
      have hx' : (pp_b (pp_tk ts s) fun t s => if pp_k ts t = 2 then pp_use ts t s else pp_ret t s) = some x := hx
      have row := fun (r : ja_O × ja_w) (h : _) => er_21 (d := d + 4) (r := r) (I := I) (A := A) (J := J) ⟨fun _ => ⟨1, I, A, J, h19, fun n => absurd n (by decide), fun _ => ⟨v161, h⟩⟩, fun n => absurd h16 n⟩
      have hkk : pp_at ts s = 5 ∨ pp_at ts s = 6 ∨ pp_at ts s = 7 ∨ pp_at ts s = 2 := by
        by_cases h2 : pp_at ts s = 2
        · exact Or.inr (Or.inr (Or.inr h2))
        · unfold pp_ib at hb
          rw [if_neg (show ¬ pp_k ts (pq_pos s) = 2 from h2)] at hb
          have hb' : (pp_at ts s == 5 || pp_at ts s == 6 || pp_at ts s == 7) = true := by
            have := Option.some.inj hb
            exact this
          simp at hb'
          rcases hb' with (h | h) | h
          · exact Or.inl h
          · exact Or.inr (Or.inl h)
          · exact Or.inr (Or.inr (Or.inl h))
      have hop : pp_opens (pp_at ts s) = false := by rcases hkk with h | h | h | h <;> (rw [h]; rfl)
      have hsh : pp_shuts (pp_at ts s) = false := by rcases hkk with h | h | h | h <;> (rw [h]; rfl)
      rcases pp_bE hx' with ⟨p, hr, hp⟩ | ⟨t, s1, hr, hk⟩
      · exact absurd hr (pp_tk_n hop)
      · have hw1 := zrq_tk hw hr hop hsh
        have et := (pp_tk_e hr).1
        have lt := (pp_tk_e hr).2.1
        have ekt : pp_k ts t = pp_at ts s := pp_tk_k hr
        rw [ekt] at hk
        rcases hkk with h | h | h | h
        · rw [if_neg (by rw [h]; decide)] at hk
          cases hk
          refine ⟨105, _, _, _, row (_, _) ⟨fun _ => ⟨fun n => absurd (ek.symm.trans n) (by rw [h]; decide), fun _ => rfl⟩, fun n => absurd (ek.trans (by rw [h]; rfl)) n⟩, ?_, hw1⟩
          show 105 = pp_bv ts s1 t
          unfold pp_bv
          rw [ekt, if_pos h]
        · rw [if_neg (by rw [h]; decide)] at hk
          cases hk
          refine ⟨99, _, _, _, row (_, _) ⟨fun n => absurd (ek.symm.trans n) (by rw [h]; decide), fun _ => ⟨fun _ => ⟨fun n => absurd (ek.symm.trans n) (by rw [h]; decide), fun _ => rfl⟩, fun n => absurd (ek.trans (by rw [h]; rfl)) n⟩⟩, ?_, hw1⟩
          show 99 = pp_bv ts s1 t
          unfold pp_bv
          rw [ekt, if_neg (by rw [h]; decide), if_pos h]
        · rw [if_neg (by rw [h]; decide)] at hk
          cases hk
          refine ⟨118, _, _, _, row (_, _) ⟨fun n => absurd (ek.symm.trans n) (by rw [h]; decide), fun _ => ⟨fun n => absurd (ek.symm.trans n) (by rw [h]; decide), fun _ => ⟨fun _ => ⟨fun n => absurd (ek.symm.trans n) (by rw [h]; decide), fun _ => rfl⟩, fun n => absurd (ek.trans (by rw [h]; rfl)) n⟩⟩⟩, ?_, hw1⟩
          show 118 = pp_bv ts s1 t
          unfold pp_bv
          rw [ekt, if_neg (by rw [h]; decide), if_neg (by rw [h]; decide), if_pos h]
        · rw [if_pos h] at hk
          have hs1 := pp_tk_s hr
          unfold pp_use at hk
          rw [pp_me_s hs1.1 hs1.2.1] at hk
          have h2 : pp_k ts (pq_pos s) = 2 := h
          unfold pp_ib at hb
          rw [if_pos h2] at hb
          rw [et] at hk
          cases hm : pp_me ts s (pq_pos s) with
          | none => rw [hm] at hb; cases hb
          | some m =>
            rw [hm] at hb hk
            cases m with
            | none => cases hb
            | some k =>
              have hso : pp_so s k = 1 := by
                have := Option.some.inj hb
                exact Nat.eq_of_beq_eq_true this
              have hso1 : pp_so s1 k = 1 := by
                unfold pp_so; rw [hs1.2.1]; exact hso
              have em := (pp_me_r hm).1
              have h17 := zrl_17 (d := d + 2) hts hw (t := pq_pos s) (by rw [← et]; exact lt)
              rw [em, ← e9] at h17
              have e1000 : ∀ z : Int32, (1000 + z) - 1000 = z := fun z => by rw [Int32.add_comm, Int32.add_sub_cancel]
              obtain ⟨pos, op, cc, tn, tl, wt, pn, scs, sd, sig, frm, rl, mn, dc, fc⟩ := s1
              cases hk
              obtain ⟨hK, h0, hP, hT, hS, hN, hG, hF, hL, hX⟩ := hw1
              refine ⟨1000 + nI k, _, _, _, row (_, _) ⟨fun n => absurd (ek.symm.trans n) (by rw [h]; decide), fun _ => ⟨fun n => absurd (ek.symm.trans n) (by rw [h]; decide), fun _ => ⟨fun n => absurd (ek.symm.trans n) (by rw [h]; decide), fun _ => ⟨_, I, A, J, h17, fun _ => ⟨v161, v161, rfl⟩, fun n => absurd (ek.trans (by rw [h]; rfl)) n⟩⟩⟩⟩, ?_, hK, h0, hP, hT, hS, hN, hG, hF, ?_, hX⟩
              · show 1000 + nI k = pp_bv ts _ (pq_pos s)
                unfold pp_bv
                rw [h2, if_neg (by decide), if_neg (by decide), if_neg (by decide)]
                show 1000 + nI k = 1000 + pp_fu mn (pq_pos s) (Int32.ofNat k) (pq_pos s)
                unfold pp_fu
                rw [if_pos rfl]; rfl
              · rw [if_pos hso1]
                have := rq_Lu hL (t := pq_pos s) (x := 1) (y := (1000 + nI k) - 1000) (cn_cl e9 (by omega)) (cn_cl e9 (by omega))
                rw [e1000] at this
                show ∀ i, i < ts.length → (fun i => cond (Nat.beq i (I 0 9).toNatClampNeg) 1 (A 5 i)) i = _ ∧ (fun i => cond (Nat.beq i (I 0 9).toNatClampNeg) ((1000 + nI k) - 1000) (A 6 i)) i = _
                rw [e1000]
                exact this
theorem zrq_pop (hw : rq0 ts f2 f1 ((a, b) :: T) X (I, A, J) s) : rq0 ts f2 f1 T X (rpo I, A, J) s := by
  obtain ⟨hK, h0, hP, hT, hR⟩ := hw
  have e : I 0 12 = nI (T.length + 1) := hT.1
  have l : T.length + 1 ≤ 1200 := hT.2.1
  refine ⟨hK, h0, hP, ⟨?_, by omega, hT.2.2.2.2⟩, hR⟩
  show I 0 12 - 1 = nI T.length
  rw [e, nI_pred]
theorem zrs_row (hw : rq0 ts f2 f1 ((a, b) :: T) X (I, A, J) s) : ¬ (I 0 12 ≤ 0) ∧ I 0 16 = 0 ∧ vp_in (I 0 12 - 1) 1200 ∧ A 7 (I 0 12 - 1).toNatClampNeg = a ∧ A 8 (I 0 12 - 1).toNatClampNeg = b := by
  obtain ⟨hK, h0, hP, hT, hR⟩ := hw
  have e : I 0 12 = nI (T.length + 1) := hT.1
  have l : T.length + 1 ≤ 1200 := hT.2.1
  have e1 : I 0 12 - 1 = nI T.length := by rw [e, nI_pred]
  refine ⟨?_, hP.2.2.2.2, ?_, ?_, ?_⟩
  · rw [e]; exact nI_nle (by omega) (by omega)
  · rw [e1]; exact vp_in_nI (by omega) (by omega)
  · rw [e1, nI_clamp (by omega)]; exact hT.2.2.1
  · rw [e1, nI_clamp (by omega)]; exact hT.2.2.2.1
theorem zrs_63 (hw : rq0 ts f2 f1 ((a, b) :: T) X (I, A, J) s) (ha : ¬ (15 : Int32) ≤ a) (h : er_E d 63 [.ref 0, .int a, .int b] (rpo I, A, J) (.inl none) w') : rs d (I, A, J) w' := by
  obtain ⟨h1, h2, h3, h4, h5⟩ := zrs_row hw
  intro r hr
  refine br_67_19 ⟨fun n => absurd n h1, fun _ => ⟨fun _ => ⟨h3, h3, ?_⟩, fun n => absurd h2 n⟩⟩
  rw [h4, h5]
  exact ⟨fun n => absurd n ha, fun _ => ⟨w'.1, w'.2.1, w'.2.2, h, hr⟩⟩
theorem zrt_1 (hw : rq0 ts f2 f1 ((1, b) :: T) X (I, A, J) s) (h : ∃ (I1 A1 : ja_I) (J1 : ja_J), er_E d 61 [.ref 0] (rpo I, A, J) (.inl none) (I1, A1, J1) ∧ G (I1, A1, J1)) : rG (d + 1) (I, A, J) G := by
  obtain ⟨I1, A1, J1, hE, hG⟩ := h
  exact ⟨(I1, A1, J1), zrs_63 hw (by decide) (er_63 (r := (_, _)) ⟨fun _ => ⟨I1, A1, J1, hE, rfl⟩, fun n => absurd rfl n⟩), hG⟩
theorem zrt_2 (hw : rq0 ts f2 f1 ((2, b) :: T) X (I, A, J) s) (h : ∃ (I1 A1 : ja_I) (J1 : ja_J), er_E d 32 [.ref 0, .int b] (rpo I, A, J) (.inl none) (I1, A1, J1) ∧ G (I1, A1, J1)) : rG (d + 1) (I, A, J) G := by
  obtain ⟨I1, A1, J1, hE, hG⟩ := h
  exact ⟨(I1, A1, J1), zrs_63 hw (by decide) (er_63 (r := (_, _)) ⟨fun n => absurd n (by decide), fun _ => ⟨fun _ => ⟨I1, A1, J1, hE, rfl⟩, fun n => absurd rfl n⟩⟩), hG⟩
def zrM (ts : List pp_T) (f2 : Int32) (f1 : Nat → Int32) (d : Nat) (a b : Int32) (pre : pp_S → Prop) (T' : rq_A) (g : Nat → rq_X → rq_X → Prop) (C : pp_S → pp_R Nat) : Prop :=
  ∀ (s : pp_S) (T : rq_A) (X : rq_X) (w : ja_w), pre s → rq0 ts f2 f1 ((a, b) :: T) X w s → T.length ≤ (tw s).1 → X.2.2.2.1.length ≤ (tw s).2 → ∀ x, C s = some x → rG d w (rO f2 f1 x (fun v s' w' => ∃ X', g v X X' ∧ rq0 ts f2 f1 (T' ++ T) X' w' s'))
theorem zrM_c {a b : Int32} {pre : pp_S → Prop} {T' : rq_A} {g : Nat → rq_X → rq_X → Prop} {j p q m x : Nat} (h : zrM ts f2 f1 d a b pre T' g (C j p q)) (hp : ∀ tl wt, pre (pq_pos s, pq_op s, pq_c s, pq_tn s, tl, wt, s.2.2.2.2.2.2)) (hw : rq0 ts f2 f1 ((a, b) :: T) X w s) (hT : T.length ≤ (tw s).1 + m) (hX : X.2.2.2.1.length ≤ (tw s).2 + x) {y : Nat ⊕ (Nat × pp_S)} (hy : pp_c C j p q m x s = some y) : rG d w (rO f2 f1 y (fun v s' w' => ∃ X', g v X X' ∧ rq0 ts f2 f1 (T' ++ T) X' w' s')) := by
  obtain ⟨pos, op, cc, tn, tl, wt, r⟩ := s
  simp only [pp_c] at hy
  rcases pp_bE hy with ⟨p', hr, hp'⟩ | ⟨v, s3, hr, hk⟩
  · subst hp'
    exact h (pos, op, cc, tn, tl + m, wt + x, r) T X w (hp _ _) hw hT hX _ hr
  · have := h (pos, op, cc, tn, tl + m, wt + x, r) T X w (hp _ _) hw hT hX _ hr
    obtain ⟨pos1, op1, cc1, tn1, tl1, wt1, r1⟩ := s3
    cases hk
    exact this
theorem zrl_13t (hts : pp_ok ts) (hw : rq0 ts f2 f1 T X (I, A, J) s) {c : Int32} (h : rk (pp_at ts s) = c) : er_E (d + 1) 13 [.ref 0, .int c] (I, A, J) (.inl (some (.int 1))) (I, A, J) := by
  obtain ⟨z, hE, h1, h0⟩ := zrl_13 (d := d) hts hw c
  rw [h1 h] at hE; exact hE
theorem zrl_13f (hts : pp_ok ts) (hw : rq0 ts f2 f1 T X (I, A, J) s) {c : Int32} (h : ¬ rk (pp_at ts s) = c) : er_E (d + 1) 13 [.ref 0, .int c] (I, A, J) (.inl (some (.int 0))) (I, A, J) := by
  obtain ⟨z, hE, h1, h0⟩ := zrl_13 (d := d) hts hw c
  rw [h0 h] at hE; exact hE
theorem zrl_33 {st nm fs pl : Int32} {wl : List Int32} {sp : Int32} (hw : rq0 ts f2 f1 T (st, nm, fs, wl, pl) (I, A, J) s) (hl : T.length < 1190) : ∃ (I1 A1 : ja_I) (J1 : ja_J), er_E (d + 2) 33 [.ref 0, .int sp] (I, A, J) (.inl none) (I1, A1, J1) ∧ rq ts f2 f1 ((6, 0) :: (3, sp) :: T) (0, -1, fs, wl, pl) (I1, A1, J1) (pp_z0 s) := by
  have hw0 : rq ts f2 f1 T (0, -1, fs, wl, pl) (ja_up (ja_up (ja_up (ja_up I 0 30 0) 0 32 0) 0 33 (-1)) 0 34 (-1), A, J) (pp_z0 s) := by
    obtain ⟨pos, op, cc, tn, tl, wt, pn, scs, sd, sig, frm, rl, mn, dc, fc⟩ := s
    obtain ⟨hK, h0, hP, hT, hS, hN, hG, hF, hL, hX⟩ := hw
    exact ⟨hK, h0, hP, hT, hS, hN, ⟨rfl, Nat.zero_le _, hG.2.2.1, cq_h0 _ _⟩, hF, hL, rfl, rfl, by show (-1 : Int32) = nI 0 - 1; decide, hX.2.2.2⟩
  obtain ⟨I1, A1, J1, hE1, hw1⟩ := rl_11 (d := d) hw0 (by omega) 3 sp
  obtain ⟨I2, A2, J2, hE2, hw2⟩ := rl_11 (d := d) hw1 (by rw [List.length_cons]; omega) 6 0
  exact ⟨_, _, _, er_33 (r := (_, _)) ⟨_, _, _, hE1, _, _, _, hE2, rfl⟩, hw2⟩
theorem zr32_a (hts : pp_ok ts) {c : Prop} {a0 z2 : Int32} (hw : rq0 ts f2 f1 T X (I, A, J) s) (h59 : pp_at ts s = 59) (hx : pp_tk ts s = some (.inr (v, s1))) : ∃ y, r32t d c a0 z2 I A J y ∧ rP (fun w => rq0 ts f2 f1 T X w s1) y := by
  unfold r32t
  exact cg_I (zrl_13t hts hw (by rw [h59]; rfl)) (cg_f (by decide) (cg_r ⟨rfl, zrq_tk hw hx (by rw [h59]; rfl) (by rw [h59]; rfl)⟩))
theorem zr32_b (hts : pp_ok ts) {c : Prop} {z ty o : Nat} {st nm fs pl : Int32} {wl : List Int32} (hc : c ↔ ty = 0) (hty : ty ≤ 1) (ho : o ≤ 1) (hw : rq0 ts f2 f1 T (st, nm, fs, wl, pl) (I, A, J) s) (hl : T.length < 1190) (h59 : ¬ pp_at ts s = 59) : ∃ y, r32t d c (nI o) (nI z) I A J y ∧ rP (fun w => rq ts f2 f1 ((6, 0) :: (3, nI (spn z ty o 0)) :: T) (0, -1, fs, wl, pl) w (pp_z0 s)) y := by
  obtain ⟨I1, A1, J1, hE1, hw1⟩ := zrl_33 (d := d + 5) (sp := nI (spn z ty o 0)) hw hl
  unfold r32t
  refine cg_I (zrl_13f hts hw (rk_n h59)) (cg_t rfl ?_)
  have o1 : o = 0 ∨ o = 1 := by omega
  have t1 : ty = 0 ∨ ty = 1 := by omega
  rcases t1 with rfl | rfl
  · refine cg_t (hc.mpr rfl) ?_
    rcases o1 with rfl | rfl
    · rw [show nI (spn z 0 0 0) = ((4 * nI z) + 0) + 0 by rw [sp_v0]; rfl] at hE1
      exact cg_f (by decide) (cg_V hE1 (cg_r ⟨rfl, hw1⟩))
    · rw [show nI (spn z 0 1 0) = ((4 * nI z) + 0) + 1 by rw [sp_v1]; rfl] at hE1
      exact cg_t (by decide) (cg_t (hc.mpr rfl) (cg_V hE1 (cg_r ⟨rfl, hw1⟩)))
  · have hn : ¬ c := fun h => absurd (hc.mp h) (by decide)
    refine cg_f hn ?_
    have e : nI (spn z 1 o 0) = ((4 * nI z) + 2) + 0 := by
      rw [sp_v2]
      unfold spn
      rw [if_neg (fun h => absurd h.2.1 (by decide))]
    rw [e] at hE1
    rcases o1 with rfl | rfl
    · exact cg_f (by decide) (cg_V hE1 (cg_r ⟨rfl, hw1⟩))
    · exact cg_t (by decide) (cg_f hn (cg_V hE1 (cg_r ⟨rfl, hw1⟩)))
theorem zrr_78 (hts : pp_ok ts) (hC : rC C) (HD : rD ts f2 f1 (d + 9) C') (H : rM ts f2 f1 (d + 9) 22 0 any [] g63 (C 63 0 0)) (h54 : ∀ b ty s x, C 54 b ty s = some x → pp_54 ts C' b ty s = some x)
    (HB : ∀ (q : Nat) (s s0 : pp_S) (b : Int32) (T : rq_A) (X : rq_X) (w : ja_w), pp_at ts s = 123 → ((b = nI q ∧ sr s0 s) ∨ (b = -1 ∧ ∃ s1, pp_ns s0 = some (.inr (q, s1)) ∧ sr s1 s)) → rq ts f2 f1 ((15, b) :: T) X w s0 → T.length ≤ (tw s).1 → X.2.2.2.1.length ≤ (tw s).2 → ∀ x, C 81 q 0 s = some x → rG (d + 9) w (rO f2 f1 x (fun v s' w' => ∃ X', g63 v X X' ∧ rq ts f2 f1 T X' w' s')))
    {o : Nat} (ho : o ≤ 1) : zrM ts f2 f1 (d + 9) 2 (nI o) (fun s => (tw s).1 + 20 ≤ 1200) [] g63 (pp_78 ts C o) := by
  intro s T X w hg hw hT hX x hx
  have hlT : T.length + 20 ≤ 1200 := Nat.le_trans (Nat.add_le_add_right hT 20) hg
  obtain ⟨st, nm, fs, wl, pl⟩ := X
  obtain ⟨I, A, J⟩ := w
  have hX' : wl.length ≤ (tw s).2 := hX
  have hg' : (tw s).1 + 20 ≤ 1200 := hg
  have h0 := zrq_pop hw
  unfold pp_78 at hx
  -- behind the base
  have rest : ∀ (b : Nat) (s1 : pp_S) (I1 A1 : ja_I) (J1 : ja_J) (c : Prop), pp_79 ts s = some (.inr (b, s1)) → tw s1 = tw s → (c ↔ (if pq_pos s1 - pq_pos s = 2 then 1 else 0) = 0) → rq0 ts f2 f1 T (st, nm, fs, wl, pl) (I1, A1, J1) s1 →
      (∀ (G : ja_w → Prop), (∃ y, r32t d c (nI o) (pp_bv ts s1 b) I1 A1 J1 y ∧ rP G y) → rG (d + 9) (I, A, J) G) → rG (d + 9) (I, A, J) (rO f2 f1 x (fun v s' w' => ∃ X', g63 v (st, nm, fs, wl, pl) X' ∧ rq0 ts f2 f1 ([] ++ T) X' w' s')) := by
    intro b s1 I1 A1 J1 c h79 ht hc hw1 go
    rw [h79] at hx
    have hx1 : (if (pp_bv ts s1 b).toNatClampNeg < 2000 ∧ pp_bv ts s1 b = Int32.ofNat (pp_bv ts s1 b).toNatClampNeg then pp_b (pp_w (fun (a : Nat × Nat) _ => some (Nat.beq a.2 1)) (pp_78b ts C o b (if pq_pos s1 - pq_pos s = 2 then 1 else 0) (pp_bv ts s1 b)) 160 (0, if pp_at ts s1 = 59 then 0 else 1) s1) fun a s2 => if a.2 = 2 then pp_ret 0 s2 else pp_ex ts 59 s2 else none) = some x := hx
    split at hx1
    rotate_left
    · cases hx1
    rename_i hbv
    generalize hz : (pp_bv ts s1 b).toNatClampNeg = z at hbv
    have hbv2 : pp_bv ts s1 b = nI z := hbv.2
    rw [hbv2] at hx1 go
    by_cases h59 : pp_at ts s1 = 59
    · rw [if_pos h59] at hx1
      have hx2 : pp_ex ts 59 s1 = some x := hx1
      unfold pp_ex at hx2
      rw [if_pos (show pp_k ts (pq_pos s1) = 59 from h59)] at hx2
      cases x with
      | inl p => exact absurd hx2 (pp_tk_n (by rw [h59]; rfl))
      | inr zz =>
        obtain ⟨v2, s2⟩ := zz
        exact rG_m (go _ (zr32_a (d := d) hts hw1 h59 hx2)) (fun w' h => ⟨_, rfl, h⟩)
    · rw [if_neg h59] at hx1
      generalize hty : (if pq_pos s1 - pq_pos s = 2 then 1 else 0) = ty at hx1 hc
      have hty1 : ty ≤ 1 := by rw [← hty]; split <;> omega
      refine rG_t (go _ (zr32_b (d := d) hts hc hty1 ho hw1 (by omega) h59)) (fun w2 h2 => ?_)
      refine zO (rr_78l (m := 160) (i := 0) hts hC HD H h54 HB (z := z) (ty := ty) (o := o) (b := b) hbv.1 hty1 s1 fs pl w2 h2 hlT (by rw [ht]; exact hT) (by rw [ht]; exact hX') hx1)
  have e16 : ∀ {T : rq_A} {X : rq_X} {I A : ja_I} {J : ja_J} {s : pp_S}, rq0 ts f2 f1 T X (I, A, J) s → I 0 16 = 0 := fun h => h.2.2.1.2.2.2.2
  by_cases h4 : pp_at ts s = 4
  · -- typedef first
    have e79 : pp_79 ts s = pp_b (pp_tk ts s) fun _ s => pp_base ts s := by unfold pp_79; rw [if_pos h4]
    cases h79 : pp_79 ts s with
    | none => rw [h79] at hx; cases hx
    | some y =>
      rw [e79] at h79
      rcases pp_bE h79 with ⟨p, hr, hp⟩ | ⟨t, s1, hr, hk⟩
      · exact absurd hr (pp_tk_n (by rw [h4]; rfl))
      · have hw1 := zrq_tk h0 hr (by rw [h4]; rfl) (by rw [h4]; rfl)
        obtain ⟨z, I2, A2, J2, hE2, hw2⟩ := zrl_21 (d := d + 2) hts hw1 hk
        cases y with
        | inl p =>
          rw [← e79] at h79
          rw [h79] at hx
          cases hx
          obtain ⟨rfl, hw3⟩ := hw2
          cases hw3
          refine zrt_2 (d := d + 8) hw (rP_of (G := rO f2 f1 (.inl (pq_pos s1)) _) (cg_j (cg_I (zrl_13t hts h0 (by rw [h4]; rfl)) (cg_f (by decide) (cg_I hE2 (cg_f (by show ¬ (1 : Int32) = 0; decide) (cg_r ⟨rfl, (zrb_of hw1).1⟩))))) (fun y h => er_32 (r := y) h)))
        | inr bs =>
          obtain ⟨b, s2⟩ := bs
          obtain ⟨rfl, hw3⟩ := hw2
          rw [← e79] at h79
          refine rest b s2 I2 A2 J2 ((1 : Int32) = 0) h79 (by rw [pp_base_tw hk, pp_tk_tw hr]) ?_ hw3 (fun G hG => ?_)
          · rw [pp_base_p hk, pp_tk_p hr, if_pos (by omega)]
            exact ⟨fun e => absurd e (by decide), fun e => absurd e (by decide)⟩
          · refine zrt_2 (d := d + 8) hw (rP_of (G := G) (cg_j (cg_I (zrl_13t hts h0 (by rw [h4]; rfl)) (cg_f (by decide) (cg_I hE2 (cg_t (e16 hw3) (cg_f (by decide) hG))))) (fun y h => er_32 (r := y) h)))
  · have e79 : pp_79 ts s = pp_b (pp_base ts s) fun b s => if pp_at ts s = 4 then pp_b (pp_tk ts s) fun _ s => pp_ret b s else pp_ret b s := by unfold pp_79; rw [if_neg h4]
    cases h79 : pp_79 ts s with
    | none => rw [h79] at hx; cases hx
    | some y =>
      rw [e79] at h79
      rcases pp_bE h79 with ⟨p, hr, hp⟩ | ⟨b, s1, hr, hk⟩
      · obtain ⟨z, I2, A2, J2, hE2, hw2⟩ := zrl_21 (d := d + 2) hts h0 hr
        subst hp
        rw [← e79] at h79
        rw [h79] at hx
        cases hx
        obtain ⟨rfl, hw3⟩ := hw2
        cases hw3
        refine zrt_2 (d := d + 8) hw (rP_of (G := rO f2 f1 (.inl (pq_pos s)) _) (cg_j (cg_I (zrl_13f hts h0 (rk_n h4)) (cg_t rfl (cg_I hE2 (cg_f (by show ¬ (1 : Int32) = 0; decide) (cg_r ⟨rfl, (zrb_of h0).1⟩))))) (fun y h => er_32 (r := y) h)))
      · obtain ⟨z, I2, A2, J2, hE2, hw2⟩ := zrl_21 (d := d + 2) hts h0 hr
        obtain ⟨rfl, hw3⟩ := hw2
        by_cases h41 : pp_at ts s1 = 4
        · rw [if_pos h41] at hk
          rcases pp_bE hk with ⟨p, hr2, hp⟩ | ⟨t, s2, hr2, hk2⟩
          · exact absurd hr2 (pp_tk_n (by rw [h41]; rfl))
          · cases hk2
            rw [← e79] at h79
            have hw4 := zrq_tk hw3 hr2 (by rw [h41]; rfl) (by rw [h41]; rfl)
            refine rest b s2 _ A2 J2 ((1 : Int32) = 0) h79 (by rw [pp_tk_tw hr2, pp_base_tw hr]) ?_ hw4 (fun G hG => ?_)
            · rw [pp_tk_p hr2, pp_base_p hr, if_pos (by omega)]
              exact ⟨fun e => absurd e (by decide), fun e => absurd e (by decide)⟩
            · have ebv : pp_bv ts s2 b = pp_bv ts s1 b := by unfold pp_bv; rw [(pp_tk_s hr2).2.2.2.2.2.1]
              rw [ebv] at hG
              refine zrt_2 (d := d + 8) hw (rP_of (G := G) (cg_j (cg_I (zrl_13f hts h0 (rk_n h4)) (cg_t rfl (cg_I hE2 (cg_t (e16 hw3) (cg_t rfl (cg_I (zrl_13t hts hw3 (by rw [h41]; rfl)) (cg_f (by decide) hG))))))) (fun y h => er_32 (r := y) h)))
        · rw [if_neg h41] at hk
          cases hk
          rw [← e79] at h79
          refine rest b s1 I2 A2 J2 ((0 : Int32) = 0) h79 (by rw [pp_base_tw hr]) ?_ hw3 (fun G hG => ?_)
          · rw [pp_base_p hr, if_neg (by omega)]
            exact ⟨fun _ => rfl, fun _ => rfl⟩
          · refine zrt_2 (d := d + 8) hw (rP_of (G := G) (cg_j (cg_I (zrl_13f hts h0 (rk_n h4)) (cg_t rfl (cg_I hE2 (cg_t (e16 hw3) (cg_t rfl (cg_I (zrl_13f hts hw3 (rk_n h41)) (cg_t rfl hG))))))) (fun y h => er_32 (r := y) h)))
theorem zrM_u {a b : Int32} {T' : rq_A} {g : Nat → rq_X → rq_X → Prop} {j p q n : Nat} {B : pp_S → pp_R Nat} (e : ∀ s, pp_body ts (pp_run ts (n - 1)) j p q s = B s) (h : zrM ts f2 f1 d a b (fun s => (tw s).1 + 20 ≤ 1200) T' g B) : zrM ts f2 f1 d a b any T' g (pp_run ts n j p q) := by
  intro s T X w _ hw hT hX x hx
  obtain ⟨hg, hx⟩ := run_e hx
  rw [e] at hx
  exact h s T X w hg hw hT hX x hx
theorem zall (hts : pp_ok ts) : ∀ n, zrM ts f2 f1 (d + 9) 2 1 any [] g63 (pp_run ts n 78 1 0)
  | 0 => by intro s T X w _ _ _ _ x hx; cases hx
  | n + 1 => by
    obtain ⟨h, h1, _⟩ := rAl_n (f2 := f2) (f1 := f1) (d := d) hts n
    obtain ⟨H, HD, H55, H61, H82, H780, H781, HB⟩ := h
    exact zrM_u (n := n + 1) (fun _ => rfl) (zrr_78 hts (rC_run n) h1.2.1 H.2.1 (fun b ty s x hx => (run_e hx).2) HB (o := 1) (by decide))
theorem zrr_prog (hts : pp_ok ts) (n : Nat) : ∀ (m a : Nat) (s : pp_S) (X : rq_X) (w : ja_w), rq0 ts f2 f1 [(1, 0)] X w s → X.2.2.2.1.length ≤ (tw s).2 → ∀ x, pp_w (fun _ s => some (!(pp_at ts s == 0))) (fun _ s => pp_c (pp_run ts n) 78 1 0 1 0 s) m a s = some x → rG (d + 9) w (rO f2 f1 x (fun _ s' w' => ∃ X', rq0 ts f2 f1 [] X' w' s')) := by
  have h781 : zrM ts f2 f1 (d + 9) 2 1 any [] g63 (pp_run ts n 78 1 0) := zall hts n
  have fin : ∀ (a : Nat) (s : pp_S) (X : rq_X) (w : ja_w), rq0 ts f2 f1 [(1, 0)] X w s → pp_at ts s = 0 → rG (d + 9) w (rO f2 f1 (.inr (a, s)) (fun _ s' w' => ∃ X', rq0 ts f2 f1 [] X' w' s')) := by
    intro a s X w hw h0
    obtain ⟨I, A, J⟩ := w
    have hw0 := zrq_pop hw
    exact zrt_1 (d := d + 8) hw ⟨_, _, _, er_61 (r := (_, _)) ⟨1, _, _, _, zrl_13t hts hw0 (by rw [h0]; rfl), fun e => absurd e (by decide), fun _ => rfl⟩, X, hw0⟩
  intro m
  induction m with
  | zero =>
    intro a s X w hw hX x hx
    simp only [pp_w] at hx
    cases hb : (!(pp_at ts s == 0)) with
    | true => rw [hb] at hx; cases hx
    | false =>
      rw [hb] at hx
      cases hx
      exact fin a s X w hw (by simpa using hb)
  | succ m ih =>
    intro a s X w hw hX x hx
    simp only [pp_w] at hx
    cases hb : (!(pp_at ts s == 0)) with
    | false =>
      rw [hb] at hx
      cases hx
      exact fin a s X w hw (by simpa using hb)
    | true =>
      rw [hb] at hx
      have hx1 : pp_b (pp_c (pp_run ts n) 78 1 0 1 0 s) (pp_w (fun _ s => some (!(pp_at ts s == 0))) (fun _ s => pp_c (pp_run ts n) 78 1 0 1 0 s) m) = some x := hx
      have hn0 : ¬ pp_at ts s = 0 := by simpa using hb
      obtain ⟨I, A, J⟩ := w
      have h0 := zrq_pop hw
      obtain ⟨I1, A1, J1, hE1, hw1⟩ := zrl_11 (d := d + 6) h0 (by decide) 1 0
      obtain ⟨I2, A2, J2, hE2, hw2⟩ := zrl_11 (d := d + 6) hw1 (by decide) 2 1
      have e9 : I1 0 9 = nI (pq_pos s) := hw1.2.2.1.1
      have lp : pq_pos s ≤ ts.length := hw1.2.2.1.2.1
      have go : rG (d + 9) (I, A, J) (fun w => rq0 ts f2 f1 [(2, 1), (1, 0)] X w s) → rG (d + 9) (I, A, J) (rO f2 f1 x (fun _ s' w' => ∃ X', rq0 ts f2 f1 [] X' w' s')) := by
        intro hg
        refine rG_t hg (fun w1 h1 => ?_)
        refine rG_b hx1 (fun y hy => zrM_c h781 (fun _ _ => trivial) h1 (by rw [List.length_cons, List.length_nil]; omega) (by omega) hy) (fun v2 s2 w2 hr2 h2 hk2 => ?_)
        obtain ⟨X2, g2, h2⟩ := h2
        have e2 : X2.2.2.2.1 = X.2.2.2.1 := g2
        exact ih v2 s2 X2 w2 h2 (by rw [pp_c_tw hr2, e2]; exact hX) x hk2
      by_cases h4 : pp_at ts s = 4
      · exact go (zrt_1 (d := d + 8) hw ⟨_, _, _, er_61 (r := (_, _)) ⟨0, _, _, _, zrl_13f hts h0 (rk_n hn0), fun _ => ⟨_, _, _, hE1, 1, _, _, _, zrl_13t hts hw1 (by rw [h4]; rfl), fun e => absurd e (by decide), fun _ => ⟨_, _, _, hE2, rfl⟩⟩, fun e => absurd rfl e⟩, hw2⟩)
      · -- what a call asks
        have key : ∀ y, pp_c (pp_run ts n) 78 1 0 1 0 s = some y → pp_ib ts s (pq_pos s) = some true ∨ (pp_ib ts s (pq_pos s) = some false ∧ y = .inl (pq_pos s)) := by
          intro y hy
          obtain ⟨pos, op, cc, tn, tl, wt, r⟩ := s
          simp only [pp_c] at hy
          have hc : ∃ y', pp_run ts n 78 1 0 (pos, op, cc, tn, tl + 1, wt + 0, r) = some y' ∧ (∀ p, y' = .inl p → y = .inl p) := by
            rcases pp_bE hy with ⟨p, hr, hp⟩ | ⟨v, s1, hr, hk⟩
            · exact ⟨_, hr, fun p' e => by rw [hp]; cases e; rfl⟩
            · exact ⟨_, hr, fun p' e => by cases e⟩
          obtain ⟨y', hy', hp⟩ := hc
          have h78 : pp_78 ts (pp_run ts (n - 1)) 1 (pos, op, cc, tn, tl + 1, wt + 0, r) = some y' := (run_e hy').2
          have e79 : pp_79 ts (pos, op, cc, tn, tl + 1, wt + 0, r) = pp_b (pp_base ts (pos, op, cc, tn, tl + 1, wt + 0, r)) fun b s => if pp_at ts s = 4 then pp_b (pp_tk ts s) fun _ s => pp_ret b s else pp_ret b s := by
            unfold pp_79
            rw [if_neg (show ¬ pp_at ts (pos, op, cc, tn, tl + 1, wt + 0, r) = 4 from h4)]
          have eib : pp_ib ts (pos, op, cc, tn, tl + 1, wt + 0, r) pos = pp_ib ts (pos, op, cc, tn, tl, wt, r) pos := rfl
          unfold pp_78 at h78
          rw [e79] at h78
          unfold pp_base at h78
          rw [show pp_ib ts (pos, op, cc, tn, tl + 1, wt + 0, r) (pq_pos (pos, op, cc, tn, tl + 1, wt + 0, r)) = pp_ib ts (pos, op, cc, tn, tl, wt, r) (pq_pos (pos, op, cc, tn, tl, wt, r)) from rfl] at h78
          cases hib : pp_ib ts (pos, op, cc, tn, tl, wt, r) (pq_pos (pos, op, cc, tn, tl, wt, r)) with
          | none => rw [hib] at h78; cases h78
          | some b =>
            cases b with
            | true => exact Or.inl rfl
            | false =>
              rw [hib] at h78
              refine Or.inr ⟨rfl, ?_⟩
              have : some (.inl pos) = some y' := h78
              cases this
              exact hp _ rfl
        cases hc : pp_c (pp_run ts n) 78 1 0 1 0 s with
        | none => rw [hc] at hx1; cases hx1
        | some y =>
          rcases key y hc with hib | ⟨hib, hy⟩
          · have h19 := zrl_19 (d := d + 3) hts hw1 lp hib
            rw [← e9] at h19
            exact go (zrt_1 (d := d + 8) hw ⟨_, _, _, er_61 (r := (_, _)) ⟨0, _, _, _, zrl_13f hts h0 (rk_n hn0), fun _ => ⟨_, _, _, hE1, 0, _, _, _, zrl_13f hts hw1 (rk_n h4), fun _ => ⟨_, _, _, _, h19, fun e => absurd e (by decide), fun _ => ⟨_, _, _, hE2, rfl⟩⟩, fun e => absurd rfl e⟩, fun e => absurd rfl e⟩, hw2⟩)
          · have h19 := zrl_19 (d := d + 3) hts hw1 lp hib
            rw [← e9] at h19
            subst hy
            rw [hc] at hx1
            cases hx1
            exact zrt_1 (d := d + 8) hw ⟨_, _, _, er_61 (r := (_, _)) ⟨0, _, _, _, zrl_13f hts h0 (rk_n hn0), fun _ => ⟨_, _, _, hE1, 0, _, _, _, zrl_13f hts hw1 (rk_n h4), fun _ => ⟨_, _, _, _, h19, fun _ => ⟨_, _, _, rl_12, rfl⟩, fun e => absurd rfl e⟩, fun e => absurd rfl e⟩, fun e => absurd rfl e⟩, (zrb_of hw1).1⟩
end
