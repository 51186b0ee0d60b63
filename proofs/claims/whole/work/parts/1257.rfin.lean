section
variable {ts : List pp_T} {f2 : Int32} {f1 : Nat → Int32} {d : Nat} {T : rq_A} {X : rq_X} {I A : ja_I} {J : ja_J} {s s' s0 s1 s2 s3 s4 s5 : pp_S} {w : ja_w} {C C' : pp_C} {v : Nat} {sp : Int32} {G : ja_w → Prop}
/-- what finish does last -/
def r34 (d : Nat) (sp : Int32) (I A : ja_I) (J : ja_J) (y : ja_O × ja_w) : Prop := (∃ (z6 : Int32) (I6 A6 : ja_I) (J6 : ja_J), er_E (d + 6) 13 [.ref 0, .int 123] (I, A, J) (.inl (some (.int z6))) (I6, A6, J6) ∧ (((z6 = 0) → ∃ (I7 A7 : ja_I) (J7 : ja_J), er_E (d + 6) 11 [.ref 0, .int 5, .int (sp &&& (-2))] (I6, A6, J6) (.inl (none)) (I7, A7, J7) ∧ (∃ (z8 : Int32) (I8 A8 : ja_I) (J8 : ja_J), er_E (d + 6) 13 [.ref 0, .int 61] (I7, A7, J7) (.inl (some (.int z8))) (I8, A8, J8) ∧ (((z8 = 0) → y = (.inl none, (I8, A8, J8))) ∧ (¬ (z8 = 0) → ∃ (I9 A9 : ja_I) (J9 : ja_J), er_E (d + 6) 11 [.ref 0, .int 19, .int 61] ((ja_up I8 0 9 ((I8 0 9) + 1)), A8, J8) (.inl (none)) (I9, A9, J9) ∧ (∃ (I10 A10 : ja_I) (J10 : ja_J), er_E (d + 6) 11 [.ref 0, .int 22, .int 0] (I9, A9, J9) (.inl (none)) (I10, A10, J10) ∧ (y = (.inl none, (I10, A10, J10)))))))) ∧ (¬ (z6 = 0) → (((sp &&& 1) = 1) → vp_in ((I6 0 20) - 1) 161 ∧ ((((A6 13 ((I6 0 20) - 1).toNatClampNeg) = 2) → ∃ (I11 A11 : ja_I) (J11 : ja_J), er_E (d + 6) 11 [.ref 0, .int 15, .int (I6 0 34)] (I6, A6, J6) (.inl (none)) (I11, A11, J11) ∧ (y = (.inl none, (I11, A11, J11)))) ∧ (¬ ((A6 13 ((I6 0 20) - 1).toNatClampNeg) = 2) → ∃ (I12 A12 : ja_I) (J12 : ja_J), er_E (d + 6) 11 [.ref 0, .int 5, .int (sp &&& (-2))] (I6, A6, J6) (.inl (none)) (I12, A12, J12) ∧ (∃ (z13 : Int32) (I13 A13 : ja_I) (J13 : ja_J), er_E (d + 6) 13 [.ref 0, .int 61] (I12, A12, J12) (.inl (some (.int z13))) (I13, A13, J13) ∧ (((z13 = 0) → y = (.inl none, (I13, A13, J13))) ∧ (¬ (z13 = 0) → ∃ (I14 A14 : ja_I) (J14 : ja_J), er_E (d + 6) 11 [.ref 0, .int 19, .int 61] ((ja_up I13 0 9 ((I13 0 9) + 1)), A13, J13) (.inl (none)) (I14, A14, J14) ∧ (∃ (I15 A15 : ja_I) (J15 : ja_J), er_E (d + 6) 11 [.ref 0, .int 22, .int 0] (I14, A14, J14) (.inl (none)) (I15, A15, J15) ∧ (y = (.inl none, (I15, A15, J15)))))))))) ∧ (¬ ((sp &&& 1) = 1) → ∃ (I16 A16 : ja_I) (J16 : ja_J), er_E (d + 6) 11 [.ref 0, .int 5, .int (sp &&& (-2))] (I6, A6, J6) (.inl (none)) (I16, A16, J16) ∧ (∃ (z17 : Int32) (I17 A17 : ja_I) (J17 : ja_J), er_E (d + 6) 13 [.ref 0, .int 61] (I16, A16, J16) (.inl (some (.int z17))) (I17, A17, J17) ∧ (((z17 = 0) → y = (.inl none, (I17, A17, J17))) ∧ (¬ (z17 = 0) → ∃ (I18 A18 : ja_I) (J18 : ja_J), er_E (d + 6) 11 [.ref 0, .int 19, .int 61] ((ja_up I17 0 9 ((I17 0 9) + 1)), A17, J17) (.inl (none)) (I18, A18, J18) ∧ (∃ (I19 A19 : ja_I) (J19 : ja_J), er_E (d + 6) 11 [.ref 0, .int 22, .int 0] (I18, A18, J18) (.inl (none)) (I19, A19, J19) ∧ (y = (.inl none, (I19, A19, J19)))))))))))
theorem rl_34b (hts : pp_ok ts) (hw : rq ts f2 f1 T X (I, A, J) s) (hl : T.length < 1190) (h123 : pp_at ts s = 123) (hsp : (sp &&& 1) = 1) {q : pp_D} (hq : (pq_dc s)[(pq_dc s).length - 1]? = some q) (h2 : q.2.2.2.1 = 2) : ∃ y, r34 d sp I A J y ∧ rP (fun w => rq ts f2 f1 ((15, nI (pq_fc s) - 1) :: T) X w s) y := by
  have hlen : (pq_dc s).length - 1 < (pq_dc s).length := (List.getElem?_eq_some_iff.mp hq).1
  have h80 : (pq_dc s).length ≤ 80 := hw.2.2.2.2.2.1.2.1
  have e20 : I 0 20 = nI (pq_dc s).length := hw.2.2.2.2.2.1.1
  have em1 : I 0 20 - 1 = nI ((pq_dc s).length - 1) := by
    rw [e20]
    obtain ⟨o, ho⟩ : ∃ o, (pq_dc s).length = o + 1 := ⟨(pq_dc s).length - 1, by omega⟩
    rw [ho]; exact nI_pred o
  have e13 : A 13 (I 0 20 - 1).toNatClampNeg = 2 := by
    rw [em1, nI_clamp (by omega)]
    have := (hw.2.2.2.2.2.1.2.2.2.2 _ q hq).2.2.2.1
    rw [h2] at this
    exact this
  have e34 : I 0 34 = nI (pq_fc s) - 1 := hw.2.2.2.2.2.2.2.2.2.2.2.1
  obtain ⟨I1, A1, J1, hE1, hw1⟩ := rl_11 (d := d + 5) hw (by omega) 15 (nI (pq_fc s) - 1)
  rw [← e34] at hE1
  unfold r34
  exact cg_I (rl_13t hts hw (by rw [h123]; rfl)) (cg_f (by decide) (cg_t hsp (cg_a (by rw [em1]; exact vp_in_nI (by omega) (by omega)) (cg_t e13 (cg_V hE1 (cg_r ⟨rfl, hw1⟩))))))
/-- what comes where no block begins -/
def r34n (d : Nat) (sp : Int32) (I A : ja_I) (J : ja_J) (y : ja_O × ja_w) : Prop := ∃ (I7 A7 : ja_I) (J7 : ja_J), er_E (d + 6) 11 [.ref 0, .int 5, .int (sp &&& (-2))] (I, A, J) (.inl (none)) (I7, A7, J7) ∧ (∃ (z8 : Int32) (I8 A8 : ja_I) (J8 : ja_J), er_E (d + 6) 13 [.ref 0, .int 61] (I7, A7, J7) (.inl (some (.int z8))) (I8, A8, J8) ∧ (((z8 = 0) → y = (.inl none, (I8, A8, J8))) ∧ (¬ (z8 = 0) → ∃ (I9 A9 : ja_I) (J9 : ja_J), er_E (d + 6) 11 [.ref 0, .int 19, .int 61] ((ja_up I8 0 9 ((I8 0 9) + 1)), A8, J8) (.inl (none)) (I9, A9, J9) ∧ (∃ (I10 A10 : ja_I) (J10 : ja_J), er_E (d + 6) 11 [.ref 0, .int 22, .int 0] (I9, A9, J9) (.inl (none)) (I10, A10, J10) ∧ (y = (.inl none, (I10, A10, J10)))))))
theorem rl_34n (hts : pp_ok ts) (hw : rq ts f2 f1 T X (I, A, J) s) (hl : T.length < 1190) (hn : pp_at ts s = 123 → (sp &&& 1) = 1 → ∀ q, (pq_dc s)[(pq_dc s).length - 1]? = some q → ¬ q.2.2.2.1 = 2) (hne : pq_dc s ≠ []) {P : (ja_O × ja_w) → Prop} (h : ∃ y, r34n d sp I A J y ∧ P y) : ∃ y, r34 d sp I A J y ∧ P y := by
  have hp : 0 < (pq_dc s).length := List.length_pos_iff.mpr hne
  have h80 : (pq_dc s).length ≤ 80 := hw.2.2.2.2.2.1.2.1
  have e20 : I 0 20 = nI (pq_dc s).length := hw.2.2.2.2.2.1.1
  have em1 : I 0 20 - 1 = nI ((pq_dc s).length - 1) := by
    rw [e20]
    obtain ⟨o, ho⟩ : ∃ o, (pq_dc s).length = o + 1 := ⟨(pq_dc s).length - 1, by omega⟩
    rw [ho]; exact nI_pred o
  unfold r34
  by_cases h123 : pp_at ts s = 123
  · refine cg_I (rl_13t hts hw (by rw [h123]; rfl)) (cg_f (by decide) ?_)
    by_cases hsp : (sp &&& 1) = 1
    · have hq : (pq_dc s)[(pq_dc s).length - 1]? = some (pq_dc s)[(pq_dc s).length - 1] := List.getElem?_eq_getElem (by omega)
      have n2 := hn h123 hsp _ hq
      have hh := hw.2.2.2.2.2.1.2.2.2.2 _ _ hq
      have e13 : A 13 (I 0 20 - 1).toNatClampNeg = nI (pq_dc s)[(pq_dc s).length - 1].2.2.2.1 := by
        rw [em1, nI_clamp (by omega)]; exact hh.2.2.2.1
      have l3 := hh.2.2.2.2.2.2.2.2.2.2.2.2
      refine cg_t hsp (cg_a (by rw [em1]; exact vp_in_nI (by omega) (by omega)) (cg_f (fun e => n2 ((nI_eq (b := 2) (by omega) (by omega)).mp (e13.symm.trans e))) h))
    · exact cg_f hsp h
  · exact cg_I (rl_13f hts hw (rk_n h123)) (cg_t rfl h)
/-- finish -/
theorem rl_34 (hts : pp_ok ts) {fs pl : Int32} {wl : List Int32} {b nm tn0 ty k v3 v5 z : Nat} (hw : rq ts f2 f1 T (0, nI (nm - 1), fs, wl, pl) (I, A, J) s2) (hwb : pp_wb ts b s2 = some (.inr (v3, s3))) (hde : pp_de ts (nm - 1) 0 tn0 ty s3 = some (.inr (k, s4))) (h80 : pp_80 ts k s4 = some (.inr (v5, s5))) (hz : pp_bv ts s2 b = nI z) (hsh : sp >>> (2 &&& 31) = nI z) (hty : ty ≤ 1) (hs2 : (sp &&& 2) = 0 ↔ ty = 0)
    (tail : ∀ (I A : ja_I) (J : ja_J), rq ts f2 f1 T (0, nI (nm - 1), fs, wl, pl) (I, A, J) s5 → ∃ y, r34 d sp I A J y ∧ rP G y) : ∃ (I1 A1 : ja_I) (J1 : ja_J), er_E (d + 7) 34 [.ref 0, .int sp] (I, A, J) (.inl none) (I1, A1, J1) ∧ G (I1, A1, J1) := by
  have h160 := hts.1
  obtain ⟨I1, A1, J1, hE1, hw1⟩ := rl_25 (d := d + 4) hts hw hwb
  rw [hz, ← hsh] at hE1
  have lt := pp_de_e hde
  obtain ⟨I2, A2, J2, hE2, hw2⟩ := rl_31 (d := d + 4) hts hw1 (st := 0) rfl rfl hty hde
  have e33 : I2 0 33 = nI (nm - 1) := hw2.2.2.2.2.2.2.2.2.2.2.1
  -- the declaration
  have hx : ∃ so, (pq_dc s4)[k]? = some (nm - 1, so) ∧ so.2.2.1 = (if ty = 1 then 1 else if (pq_sig s4).headD 0 = 40 then 2 else 0) ∧ so.2.2.2 = pq_sig s4 := by
    obtain ⟨pos, op, cc, tn, tl, wt, pn, scs, sd, sig, frm, rl, mn, dc, fc⟩ := s3
    simp only [pp_de] at hde
    split at hde
    · cases hde
      refine ⟨(scs.getLastD 0, scs.length, if ty = 1 then 1 else if (sig.drop 0).headD 0 = 40 then 2 else 0, sig.drop 0), ?_, ?_, ?_⟩
      · show (dc ++ [_])[dc.length]? = _
        rw [List.getElem?_append_right (Nat.le_refl _), Nat.sub_self]; rfl
      · rw [List.drop_zero]
      · rw [List.drop_zero]
    · cases hde
  obtain ⟨so, hq, hso, hsig⟩ := hx
  unfold pp_80 at h80
  rw [hq] at h80
  have h80' : pp_pf ((if so.2.2.1 = 1 then [35] else []) ++ (pp_cs ts (nm - 1) ++ (58 :: so.2.2.2))) s4 = some (.inr (v5, s5)) := h80
  rw [hsig] at h80'
  have key : ∀ (s6 : pp_S) (I3 A3 : ja_I) (J3 : ja_J) (v6 : Nat), pq_sig s6 = pq_sig s4 → rq ts f2 f1 T (0, nI (nm - 1), fs, wl, pl) (I3, A3, J3) s6 → pp_pf (pp_cs ts (nm - 1) ++ (58 :: pq_sig s4)) s6 = some (.inr (v6, s5)) → ∃ I5 A5 J5 I6 A6 J6 I7 A7 J7, er_E (d + 6) 29 [.ref 0, .int (nI (nm - 1))] (I3, A3, J3) (.inl none) (I5, A5, J5) ∧ er_E (d + 6) 26 [.ref 0, .int 58] (I5, A5, J5) (.inl none) (I6, A6, J6) ∧ er_E (d + 6) 30 [.ref 0] (I6, A6, J6) (.inl none) (I7, A7, J7) ∧ rq ts f2 f1 T (0, nI (nm - 1), fs, wl, pl) (I7, A7, J7) s5 := by
    intro s6 I3 A3 J3 v6 es hw3 hp
    rw [pp_pf_a] at hp
    rcases pp_bE hp with ⟨p, hr, hp'⟩ | ⟨v7, s7, hr7, hk7⟩
    · cases hp'
    · obtain ⟨I5, A5, J5, hE5, hw5⟩ := rl_29 (d := d + 4) hts hw3 lt hr7
      rw [pp_pf_c] at hk7
      rcases pp_bE hk7 with ⟨p, hr, hp'⟩ | ⟨v8, s8, hr8, hk8⟩
      · cases hp'
      · obtain ⟨I6, A6, J6, ⟨hE6, _⟩, hw6⟩ := rl_26 (d := d + 5) hw5 hr8
        have sig_pf : ∀ {l : List Int32} {a b : pp_S} {v : Nat}, pp_pf l a = some (.inr (v, b)) → pq_sig b = pq_sig a := by
          intro l a b v h
          obtain ⟨pos, op, cc, tn, tl, wt, pn, scs, sd, sig, frm, rl, mn, dc, fc⟩ := a
          simp only [pp_pf] at h
          split at h
          · cases h; rfl
          · cases h
        have e8 : pq_sig s8 = pq_sig s4 := by rw [sig_pf hr8, sig_pf hr7, es]
        rw [← e8] at hk8
        obtain ⟨I7, A7, J7, hE7, hw7⟩ := rl_30 (d := d + 4) hw6 hk8
        exact ⟨I5, A5, J5, I6, A6, J6, I7, A7, J7, hE5, hE6, hE7, hw7⟩
  by_cases h1 : ty = 1
  · have hso1 : so.2.2.1 = 1 := by rw [hso, if_pos h1]
    rw [if_pos hso1, List.singleton_append, pp_pf_c] at h80'
    rcases pp_bE h80' with ⟨p, hr, hp'⟩ | ⟨v6, s6, hr6, hk6⟩
    · cases hp'
    · obtain ⟨I3, A3, J3, ⟨hE3, _⟩, hw3⟩ := rl_26 (d := d + 5) hw2 hr6
      have es : pq_sig s6 = pq_sig s4 := by
        obtain ⟨pos, op, cc, tn, tl, wt, pn, scs, sd, sig, frm, rl, mn, dc, fc⟩ := s4
        simp only [pp_pf] at hr6
        split at hr6
        · cases hr6; rfl
        · cases hr6
      obtain ⟨I5, A5, J5, I6, A6, J6, I7, A7, J7, hE5, hE6, hE7, hw7⟩ := key s6 I3 A3 J3 _ es hw3 hk6
      have e33' : I3 0 33 = nI (nm - 1) := hw3.2.2.2.2.2.2.2.2.2.2.1
      rw [← e33'] at hE5
      have hE2' : er_E (d + 6) 31 [.ref 0, .int 1] (I1, A1, J1) (.inl none) (I2, A2, J2) := by rw [h1] at hE2; exact hE2
      refine rP_of (G := G) (cg_j (cg_f (fun e => absurd (hs2.mp e) (by omega)) (cg_V hE1 (cg_V hE2' (cg_f (by decide) (cg_V hE3 (cg_V hE5 (cg_V hE6 (cg_V hE7 ?_)))))))) (fun y h => er_34 (r := y) h))
      exact tail I7 A7 J7 hw7
  · have h0 : ty = 0 := by omega
    have hso1 : ¬ so.2.2.1 = 1 := by
      rw [hso, if_neg h1]
      split <;> decide
    rw [if_neg hso1, List.nil_append] at h80'
    obtain ⟨I5, A5, J5, I6, A6, J6, I7, A7, J7, hE5, hE6, hE7, hw7⟩ := key s4 I2 A2 J2 _ rfl hw2 h80'
    rw [← e33] at hE5
    have hE2' : er_E (d + 6) 31 [.ref 0, .int 0] (I1, A1, J1) (.inl none) (I2, A2, J2) := by rw [h0] at hE2; exact hE2
    refine rP_of (G := G) (cg_j (cg_t (hs2.mpr h0) (cg_V hE1 (cg_V hE2' (cg_t rfl (cg_V hE5 (cg_V hE6 (cg_V hE7 ?_))))))) (fun y h => er_34 (r := y) h))
    exact tail I7 A7 J7 hw7
end
