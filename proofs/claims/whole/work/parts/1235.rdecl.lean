theorem pp_tt_a (dc : List pp_D) (x : pp_D) : pp_tt (dc ++ [x]) = pp_tt dc + x.2.2.2.2.length := by
  unfold pp_tt
  rw [List.map_append, List.sum_append]; simp
section
variable {ts : List pp_T} {f2 : Int32} {f1 : Nat → Int32} {d : Nat} {T : rq_A} {X : rq_X} {I A : ja_I} {J : ja_J} {s s1 : pp_S} {v : Nat}
theorem rl_31l {C : ja_C} {b1 : Int32} {st tt L : Nat} {g : Nat → Int32} (h1 : st + L ≤ 1200) (h2 : tt + L ≤ 6000) : ∀ (m i : Nat) (I A : ja_I) (J : ja_J), i + m = L → I 0 30 = nI (st + L) → I 0 27 = nI (tt + i) → (∀ j, j < L → A 18 (st + j) = g j) → ∃ I' A' : ja_I, (∀ r, ja_R (ja_code tr_31) C r 149 [some (.ref 0), some (.int b1), some (.int (nI (st + L)))] [] (I', A', J) → ja_R (ja_code tr_31) C r 149 [some (.ref 0), some (.int b1), some (.int (nI (st + i)))] [] (I, A, J)) ∧ I' 0 27 = nI (tt + L) ∧ (∀ k, k ≠ 27 → I' 0 k = I 0 k) ∧ (∀ p, p ≠ 16 → A' p = A p) ∧ (∀ j, j < tt + i → A' 16 j = A 16 j) ∧ (∀ j, i ≤ j → j < L → A' 16 (tt + j) = g j) := by
  intro m
  induction m with
  | zero =>
    intro i I A J hi e30 e27 hg
    obtain rfl : i = L := by omega
    exact ⟨I, A, fun r h => h, e27, fun _ _ => rfl, fun _ _ => rfl, fun _ _ => rfl, fun j h1 h2 => absurd h2 (by omega)⟩
  | succ m ih =>
    intro i I A J hi e30 e27 hg
    have c27 : (I 0 27).toNatClampNeg = tt + i := cn_cl e27 (by omega)
    have cs : (nI (st + i)).toNatClampNeg = st + i := nI_clamp (by omega)
    obtain ⟨I', A', hr, a1, a2, a3, a4, a5⟩ := ih (i + 1) (ja_up I 0 27 (I 0 27 + 1)) (ja_up A 16 (tt + i) (A 18 (st + i))) J (by omega) e30 (by
      show I 0 27 + 1 = _
      rw [e27, nI_1, Nat.add_assoc]) hg
    refine ⟨I', A', fun r h => ?_, a1, ?_, ?_, ?_, ?_⟩
    · have h' := hr r h
      refine br_31_149 ⟨fun n => absurd n (by rw [e30]; exact nI_ge (by omega) (by omega)), fun _ => ⟨vp_in_nI (by omega) (by omega), cn_in e27 (by omega) (by omega), ?_⟩⟩
      rw [c27, cs, nI_1, Nat.add_assoc]
      exact h'
    · intro k hk
      rw [a2 k hk]
      show cond (Nat.beq 0 0 && Nat.beq k 27) _ (I 0 k) = I 0 k
      rw [show Nat.beq k 27 = false by exact nb_f hk]; rfl
    · intro p hp
      rw [a3 p hp]
      funext j
      show cond (Nat.beq p 16 && Nat.beq j (tt + i)) _ (A p j) = A p j
      rw [show Nat.beq p 16 = false by exact nb_f hp]; rfl
    · intro j hj
      rw [a4 j (by omega)]
      show cond (Nat.beq 16 16 && Nat.beq j (tt + i)) _ (A 16 j) = A 16 j
      rw [show Nat.beq j (tt + i) = false by exact nb_f (by omega)]; rfl
    · intro j h1 h2
      by_cases hj : j = i
      · subst hj
        rw [a4 (tt + j) (by omega)]
        show cond (Nat.beq (tt + j) (tt + j)) (A 18 (st + j)) _ = g j
        rw [Nat.beq_refl]
        exact hg j h2
      · exact a5 j (by omega) h2
theorem rq_Na {n tys y10 y11 y12 y13 y14 y15 : Int32} {a10 a11 a12 a13 a14 a15 a16 b16 : Nat → Int32} {j17 : Nat → Int64} {y17 : Int64} {k : Nat} {dc : List pp_D} {x : pp_D} (h : rq_N ts n tys a10 a11 a12 a13 a14 a15 a16 j17 dc) (hk : k = dc.length) (hl : dc.length < 80) (ht : pp_tt dc + x.2.2.2.2.length ≤ 6000) (h10 : y10 = nI x.1) (h11 : y11 = nI x.2.1) (h12 : y12 = nI x.2.2.1) (h13 : y13 = nI x.2.2.2.1) (h14 : y14 = nI (pp_tt dc)) (h15 : y15 = nI x.2.2.2.2.length) (h17 : y17 = pp_wd ts x.1) (hb : ∀ j, j < pp_tt dc → b16 j = a16 j) (hb2 : cq_h b16 (pp_tt dc) x.2.2.2.2) (hr : x.1 < ts.length ∧ x.2.1 < 1000 ∧ 1 ≤ x.2.2.1 ∧ x.2.2.1 ≤ 9 ∧ x.2.2.2.1 < 3) :
    rq_N ts (n + 1) (nI (pp_tt dc + x.2.2.2.2.length)) (fun i => cond (Nat.beq i k) y10 (a10 i)) (fun i => cond (Nat.beq i k) y11 (a11 i)) (fun i => cond (Nat.beq i k) y12 (a12 i)) (fun i => cond (Nat.beq i k) y13 (a13 i)) (fun i => cond (Nat.beq i k) y14 (a14 i)) (fun i => cond (Nat.beq i k) y15 (a15 i)) b16 (fun i => cond (Nat.beq i k) y17 (j17 i)) (dc ++ [x]) := by
  subst hk
  obtain ⟨h1, h2, h3, h4, h5⟩ := h
  have el : (dc ++ [x]).length = dc.length + 1 := by rw [List.length_append]; rfl
  refine ⟨by rw [h1, nI_1, el], by omega, by rw [pp_tt_a], by rw [pp_tt_a]; exact ht, fun i z hz => ?_⟩
  by_cases hi : i < dc.length
  · rw [List.getElem?_append_left hi] at hz
    have e := h5 i z hz
    simp only [show Nat.beq i dc.length = false by exact nb_f (by omega), cond_false]
    rw [List.take_append_of_le_length (by omega)]
    have hsp : pp_tt (dc.take i) + z.2.2.2.2.length ≤ pp_tt dc := by
      have hz' := List.getElem?_eq_some_iff.mp hz
      have e1 : dc.take (i + 1) = dc.take i ++ [z] := by rw [List.take_succ_eq_append_getElem hi, hz'.2]
      have e2 : pp_tt (dc.take (i + 1)) = pp_tt (dc.take i) + z.2.2.2.2.length := by rw [e1, pp_tt_a]
      have e3 : pp_tt dc = pp_tt (dc.take (i + 1)) + pp_tt (dc.drop (i + 1)) := by
        unfold pp_tt
        rw [← List.sum_append, ← List.map_append, List.take_append_drop]
      omega
    refine ⟨e.1, e.2.1, e.2.2.1, e.2.2.2.1, e.2.2.2.2.1, e.2.2.2.2.2.1, ?_, e.2.2.2.2.2.2.2⟩
    intro j hj
    rw [hb _ (by omega)]
    exact e.2.2.2.2.2.2.1 j hj
  · rw [List.getElem?_append_right (by omega)] at hz
    have hl2 : i = dc.length := by
      have : i - dc.length < [x].length := (List.getElem?_eq_some_iff.mp hz).1
      simp only [List.length_cons, List.length_nil] at this; omega
    subst hl2
    rw [Nat.sub_self] at hz
    have : x = z := by simpa using hz
    subst this
    simp only [Nat.beq_refl, cond_true]
    rw [List.take_append_of_le_length (Nat.le_refl _), List.take_length]
    exact ⟨h10, h11, h12, h13, h14, h15, hb2, h17, hr⟩
theorem rl_31 (hts : pp_ok ts) {t st tn0 ty : Nat} (hw : rq ts f2 f1 T X (I, A, J) s) (hst : X.1 = nI st) (hnm : X.2.1 = nI t) (hty : ty ≤ 1) (hx : pp_de ts t st tn0 ty s = some (.inr (v, s1))) : ∃ (I1 A1 : ja_I) (J1 : ja_J), er_E (d + 2) 31 [.ref 0, .int (nI ty)] (I, A, J) (.inl none) (I1, A1, J1) ∧ rq ts f2 f1 T X (I1, A1, J1) s1 := by
  have h160 := hts.1
  obtain ⟨pos, op, cc, tn, tl, wt, pn, scs, sd, sig, frm, rl, mn, dc, fc⟩ := s
  simp only [pp_de] at hx
  split at hx
  · rename_i hb
    obtain ⟨b1, b2, b3, b4, b5, b6⟩ := hb
    cases hx
    obtain ⟨hK, h0, hP, hT, hS, hN, hG, hF, hL, hX⟩ := hw
    have e20 : I 0 20 = nI dc.length := hN.1
    have e27 : I 0 27 = nI (pp_tt dc) := hN.2.2.1
    have e30 : I 0 30 = nI sig.length := hG.1
    have l640 : tn ≤ 640 := hG.2.2.1
    have lsig : sig.length ≤ tn := hG.2.1
    have hh : cq_h (A 18) 0 sig := hG.2.2.2
    have e33 : I 0 33 = nI t := hX.2.1.trans hnm
    have e32 : I 0 32 = nI st := hX.1.trans hst
    have e18 : I 0 18 = nI scs.length := hS.1
    have h9 : scs.length ≤ 9 := hS.2.2.1
    have hp : 0 < scs.length := List.length_pos_iff.mpr b2
    obtain ⟨fr, e3, e4, l, hcs⟩ := hK.2.2 t b4
    have e3' : A 3 (I 0 33).toNatClampNeg = nI fr := by rw [cn_cl e33 (by omega)]; exact e3
    have e4' : A 4 (I 0 33).toNatClampNeg = nI (pp_cs ts t).length := by rw [cn_cl e33 (by omega)]; exact e4
    have c20 : (I 0 20).toNatClampNeg = dc.length := cn_cl e20 (by omega)
    have v20 : vp_in (I 0 20) 161 := cn_in e20 (by omega) (by omega)
    have v33 : vp_in (I 0 33) 161 := cn_in e33 (by omega) (by omega)
    have em1 : I 0 18 - 1 = nI (scs.length - 1) := by
      rw [e18]
      obtain ⟨o, ho⟩ : ∃ o, scs.length = o + 1 := ⟨scs.length - 1, by omega⟩
      rw [ho]; exact nI_pred o
    have hq : scs[scs.length - 1]? = some (scs.getLastD 0) := by
      rw [List.getLastD_eq_getLast?, List.getLast?_eq_getElem?, List.getElem?_eq_getElem (by omega)]; rfl
    obtain ⟨e9, lq⟩ := hS.2.2.2.2 _ _ hq
    have e9' : A 9 (I 0 18 - 1).toNatClampNeg = nI (scs.getLastD 0) := by
      rw [em1, nI_clamp (by omega)]; exact e9
    have hd0 : st + (sig.drop st).length = sig.length := by rw [List.length_drop]; omega
    have hg : ∀ j, j < (sig.drop st).length → A 18 (st + j) = (sig.drop st).getD j 0 := by
      intro j hj
      have := hh (st + j) (by omega)
      rw [Nat.zero_add] at this
      rw [this, gd_e (by omega), gd_e hj, List.getElem_drop]
    have e18s : A 18 (I 0 32).toNatClampNeg = (sig.drop st).headD 0 := by
      rw [cn_cl e32 (by omega)]
      have := hg 0 (by omega)
      rw [Nat.add_zero] at this
      rw [this]
      cases sig.drop st <;> rfl
    have hso : (if ty = 1 then 1 else if (sig.drop st).headD 0 = 40 then 2 else 0) < 3 := by
      split
      · decide
      · split <;> decide
    have v32 : vp_in (I 0 32) 1200 := cn_in e32 (by omega) (by omega)
    -- the world before the types are copied
    have mid : ∀ (so : Int32) (A0 : ja_I), so = nI (if ty = 1 then 1 else if (sig.drop st).headD 0 = 40 then 2 else 0) →
        A0 = ja_up (ja_up (ja_up (ja_up (ja_up (ja_up A 10 (I 0 20).toNatClampNeg (I 0 33)) 11 (I 0 20).toNatClampNeg (A 9 (I 0 18 - 1).toNatClampNeg)) 12 (I 0 20).toNatClampNeg (I 0 18)) 13 (I 0 20).toNatClampNeg so) 14 (I 0 20).toNatClampNeg (I 0 27)) 15 (I 0 20).toNatClampNeg (I 0 30 - I 0 32) →
        ∃ y : ja_O × ja_w, ja_R (ja_code tr_31) (er_E (d + 1)) y 149 [some (.ref 0), some (.int (nI ty)), some (.int (I 0 32))] [] (I, A0, ja_uL J 17 (I 0 20).toNatClampNeg (rq_pk (pp_cs ts t))) ∧ rP (fun w => rq ts f2 f1 T X w (pos, op, cc, tn, tl, wt, pn, scs, sd, sig, frm, pp_fu rl t (if ty = 1 then 3 else 4), pp_fu mn t (Int32.ofNat dc.length), dc ++ [(t, scs.getLastD 0, scs.length, if ty = 1 then 1 else if (sig.drop st).headD 0 = 40 then 2 else 0, sig.drop st)], fc)) y := by
      intro so A0 hso' hA0
      have h18 : A0 18 = A 18 := by rw [hA0]; rfl
      obtain ⟨I', A', hr, a1, a2, a3, a4, a5⟩ := rl_31l (C := er_E (d + 1)) (b1 := nI ty) (st := st) (tt := pp_tt dc) (L := (sig.drop st).length) (g := fun j => (sig.drop st).getD j 0) (by omega) (by rw [List.length_drop]; omega) (sig.drop st).length 0 I A0 (ja_uL J 17 (I 0 20).toNatClampNeg (rq_pk (pp_cs ts t))) (by omega) (by rw [hd0]; exact e30) (by rw [Nat.add_zero]; exact e27) (by rw [h18]; exact hg)
      rw [hd0, show nI (st + 0) = I 0 32 from e32.symm] at hr
      have i30 : I' 0 30 = nI sig.length := (a2 30 (by decide)).trans e30
      have i33 : I' 0 33 = nI t := (a2 33 (by decide)).trans e33
      have i20 : I' 0 20 = nI dc.length := (a2 20 (by decide)).trans e20
      have w33 : vp_in (I' 0 33) 161 := cn_in i33 (by omega) (by omega)
      have hfin : ∀ role : Int32, role = (if ty = 1 then 3 else 4) → rq ts f2 f1 T X (ja_up I' 0 20 (I' 0 20 + 1), ja_up (ja_up A' 5 (I' 0 33).toNatClampNeg role) 6 (I' 0 33).toNatClampNeg (I' 0 20), ja_uL J 17 (I 0 20).toNatClampNeg (rq_pk (pp_cs ts t))) (pos, op, cc, tn, tl, wt, pn, scs, sd, sig, frm, pp_fu rl t (if ty = 1 then 3 else 4), pp_fu mn t (Int32.ofNat dc.length), dc ++ [(t, scs.getLastD 0, scs.length, if ty = 1 then 1 else if (sig.drop st).headD 0 = 40 then 2 else 0, sig.drop st)], fc) := by
        intro role hrole
        have p1 : A' 1 = A 1 := by rw [a3 1 (by decide), hA0]; rfl
        have p2 : A' 2 = A 2 := by rw [a3 2 (by decide), hA0]; rfl
        have p3 : A' 3 = A 3 := by rw [a3 3 (by decide), hA0]; rfl
        have p4 : A' 4 = A 4 := by rw [a3 4 (by decide), hA0]; rfl
        have p5 : A' 5 = A 5 := by rw [a3 5 (by decide), hA0]; rfl
        have p6 : A' 6 = A 6 := by rw [a3 6 (by decide), hA0]; rfl
        have p7 : A' 7 = A 7 := by rw [a3 7 (by decide), hA0]; rfl
        have p8 : A' 8 = A 8 := by rw [a3 8 (by decide), hA0]; rfl
        have p9 : A' 9 = A 9 := by rw [a3 9 (by decide), hA0]; rfl
        have p18 : A' 18 = A 18 := by rw [a3 18 (by decide), hA0]; rfl
        have p19 : A' 19 = A 19 := by rw [a3 19 (by decide), hA0]; rfl
        have p20 : A' 20 = A 20 := by rw [a3 20 (by decide), hA0]; rfl
        have p10 : A' 10 = fun i => cond (Nat.beq i (I 0 20).toNatClampNeg) (I 0 33) (A 10 i) := by rw [a3 10 (by decide), hA0]; rfl
        have p11 : A' 11 = fun i => cond (Nat.beq i (I 0 20).toNatClampNeg) (A 9 (I 0 18 - 1).toNatClampNeg) (A 11 i) := by rw [a3 11 (by decide), hA0]; rfl
        have p12 : A' 12 = fun i => cond (Nat.beq i (I 0 20).toNatClampNeg) (I 0 18) (A 12 i) := by rw [a3 12 (by decide), hA0]; rfl
        have p13 : A' 13 = fun i => cond (Nat.beq i (I 0 20).toNatClampNeg) so (A 13 i) := by rw [a3 13 (by decide), hA0]; rfl
        have p14 : A' 14 = fun i => cond (Nat.beq i (I 0 20).toNatClampNeg) (I 0 27) (A 14 i) := by rw [a3 14 (by decide), hA0]; rfl
        have p15 : A' 15 = fun i => cond (Nat.beq i (I 0 20).toNatClampNeg) (I 0 30 - I 0 32) (A 15 i) := by rw [a3 15 (by decide), hA0]; rfl
        have p16 : ∀ j, j < pp_tt dc → A' 16 j = A 16 j := by
          intro j hj
          rw [a4 j (by omega), hA0]; rfl
        have e15 : I 0 30 - I 0 32 = nI (sig.drop st).length := by
          rw [e30, e32, pk_sub (by omega), List.length_drop]
        refine ⟨?_, ?_, ?_, ?_, ?_, ?_, ?_, ?_, ?_, ?_⟩
        · show rq_K ts (I' 0 3) (A' 1) (A' 2) (A' 3) (A' 4)
          rw [a2 3 (by decide), p1, p2, p3, p4]; exact hK
        · show I' 0 2 = f2 ∧ A' 1 = f1 ∧ I' 0 11 = 0 ∧ I' 0 0 = 0 ∧ I' 0 10 = -1 ∧ ts.length ≤ 160
          rw [a2 2 (by decide), p1, a2 11 (by decide), a2 0 (by decide), a2 10 (by decide)]; exact h0
        · show I' 0 9 = nI pos ∧ pos ≤ ts.length ∧ I' 0 15 = nI op ∧ op ≤ 8 ∧ I' 0 16 = 0
          rw [a2 9 (by decide), a2 15 (by decide), a2 16 (by decide)]; exact hP
        · show I' 0 12 = nI T.length ∧ T.length ≤ 1200 ∧ rq_T (A' 7) (A' 8) T
          rw [a2 12 (by decide), p7, p8]; exact hT
        · show rq_S (I' 0 18) (I' 0 17) (A' 9) scs sd
          rw [a2 18 (by decide), a2 17 (by decide), p9]; exact hS
        · show rq_N ts (I' 0 20 + 1) (I' 0 27) (A' 10) (A' 11) (A' 12) (A' 13) (A' 14) (A' 15) (A' 16) (fun i => cond (Nat.beq i (I 0 20).toNatClampNeg) (rq_pk (pp_cs ts t)) (J 17 i)) (dc ++ [(t, scs.getLastD 0, scs.length, if ty = 1 then 1 else if (sig.drop st).headD 0 = 40 then 2 else 0, sig.drop st)])
          rw [a1, a2 20 (by decide), p10, p11, p12, p13, p14, p15]
          exact rq_Na (x := (t, scs.getLastD 0, scs.length, _, sig.drop st)) hN c20 b1 (by show pp_tt dc + (sig.drop st).length ≤ 6000; rw [List.length_drop]; exact b5) e33 e9' e18 hso' e27 e15 (hts.2 t b4).2.2.2.2.2.2.symm p16 (fun j hj => a5 j (Nat.zero_le _) hj) ⟨b4, lq, by show 1 ≤ scs.length; omega, h9, hso⟩
        · show rq_G (I' 0 30) (A' 18) tn sig
          rw [a2 30 (by decide), p18]; exact hG
        · show rq_G (I' 0 38) (A' 20) 640 frm
          rw [a2 38 (by decide), p20]; exact hF
        · show ∀ i, i < ts.length → (fun i => cond (Nat.beq i (I' 0 33).toNatClampNeg) role (A' 5 i)) i = _ ∧ (fun i => cond (Nat.beq i (I' 0 33).toNatClampNeg) (I' 0 20) (A' 6 i)) i = _
          rw [p5, p6, i20, hrole]
          exact rq_Lu hL (cn_cl i33 (by omega)) (cn_cl i33 (by omega))
        · show rq_W (ja_up I' 0 20 (I' 0 20 + 1) 0) (A' 19) fc X
          rw [p19]
          exact ⟨(a2 32 (by decide)).trans hX.1, (a2 33 (by decide)).trans hX.2.1, (a2 34 (by decide)).trans hX.2.2.1, (a2 35 (by decide)).trans hX.2.2.2.1, hX.2.2.2.2.1, hX.2.2.2.2.2.1, (a2 37 (by decide)).trans hX.2.2.2.2.2.2⟩
      have hend : I' 0 30 ≤ nI sig.length := by rw [i30]; exact nI_le (Nat.le_refl _) (by omega)
      by_cases h1 : ty = 1
      · refine ⟨(.inl none, _), hr _ (br_31_149 ⟨fun _ => ⟨fun n => absurd n (by rw [h1]; decide), fun _ => ⟨w33, w33, rfl⟩⟩, fun n => absurd hend n⟩), rfl, hfin 3 (by rw [if_pos h1])⟩
      · refine ⟨(.inl none, _), hr _ (br_31_149 ⟨fun _ => ⟨fun _ => ⟨w33, w33, rfl⟩, fun n => absurd (by rw [show ty = 0 by omega]; rfl) n⟩, fun n => absurd hend n⟩), rfl, hfin 4 (by rw [if_neg h1])⟩
    have h7 : er_E (d + 1) 7 [.ref 0, .int (A 3 (I 0 33).toNatClampNeg), .int (A 4 (I 0 33).toNatClampNeg)] (I, ja_up A 10 (I 0 20).toNatClampNeg (I 0 33), J) (.inl (some (.long (rq_pk (pp_cs ts t))))) (I, ja_up A 10 (I 0 20).toNatClampNeg (I 0 33), J) := by
      rw [e3', e4']
      exact rl_7 l hcs
    refine rP_of (G := fun w => rq ts f2 f1 T X w _) (cg_j (cg_a v20 (cg_a v33 (cg_a v33 (cg_L h7 (cg_a v20 (cg_a (by rw [em1]; exact vp_in_nI (by omega) (by omega)) (cg_a v20 (cg_a v20 ?_)))))))) (fun y h => er_31 (r := y) h))
    by_cases h1 : ty = 1
    · refine cg_f (by rw [h1]; decide) (cg_a v20 (cg_a v20 (cg_a v20 ?_)))
      exact mid 1 _ (by rw [if_pos h1]; rfl) rfl
    · refine cg_t (by rw [show ty = 0 by omega]; rfl) (cg_a v32 ?_)
      by_cases h40 : (sig.drop st).headD 0 = 40
      · refine cg_t (e18s.trans h40) (cg_a v20 (cg_a v20 (cg_a v20 ?_)))
        exact mid 2 _ (by rw [if_neg h1, if_pos h40]; rfl) rfl
      · refine cg_f (fun n => h40 (e18s.symm.trans n)) (cg_a v20 (cg_a v20 (cg_a v20 ?_)))
        exact mid 0 _ (by rw [if_neg h1, if_neg h40]; rfl) rfl
  · cases hx
end
