section
variable {ts : List pp_T} {f2 : Int32} {f1 : Nat → Int32} {d : Nat} {T : rq_A} {X : rq_X} {I A : ja_I} {J : ja_J} {s s1 : pp_S} {v : Nat}
/-- where the reference's world stands behind a method without an answer -/
def rP (G : ja_w → Prop) (y : ja_O × ja_w) : Prop := y.1 = .inl none ∧ G y.2
theorem rP_of {E : ja_C} {j : Nat} {as : List Value} {w : ja_w} {G : ja_w → Prop} (h : ∃ y : ja_O × ja_w, E j as w y.1 y.2 ∧ rP G y) : ∃ (I1 A1 : ja_I) (J1 : ja_J), E j as w (.inl none) (I1, A1, J1) ∧ G (I1, A1, J1) := by
  obtain ⟨⟨o, I1, A1, J1⟩, hE, h1, h2⟩ := h
  obtain rfl : o = .inl none := h1
  exact ⟨I1, A1, J1, hE, h2⟩
theorem pp_pf_0r (hw : rq ts f2 f1 T X (I, A, J) s) : pp_pf [] s = some (.inr (0, s)) := by
  obtain ⟨pos, op, cc, tn, tl, wt, pn, scs, sd, sig, frm, rl, mn, dc, fc⟩ := s
  have : frm.length ≤ 640 := hw.2.2.2.2.2.2.2.1.2.1
  simp only [pp_pf, List.length_nil, List.append_nil]
  rw [if_pos (by omega)]
theorem pp_pt_0r (hw : rq ts f2 f1 T X (I, A, J) s) : pp_pt [] s = some (.inr (0, s)) := by
  obtain ⟨pos, op, cc, tn, tl, wt, pn, scs, sd, sig, frm, rl, mn, dc, fc⟩ := s
  have : tn ≤ 640 := hw.2.2.2.2.2.2.1.2.2.1
  simp only [pp_pt, List.length_nil, List.append_nil, Nat.add_zero]
  rw [if_pos (by omega)]
/-- sayToken -/
theorem rl_29l (hts : pp_ok ts) {t : Nat} (ht : t < ts.length) : ∀ (m i : Nat) (s : pp_S) (I A : ja_I) (J : ja_J), i + m = (pp_cs ts t).length → rq ts f2 f1 T X (I, A, J) s → pp_pf ((pp_cs ts t).drop i) s = some (.inr (v, s1)) → ∃ y, ja_R (ja_code tr_29) (er_E (d + 1)) y 2 [some (.ref 0), some (.int (nI t)), some (.int (nI i))] [] (I, A, J) ∧ rP (fun w => rq ts f2 f1 T X w s1) y := by
  have h160 := hts.1
  have ck : (nI t).toNatClampNeg = t := nI_clamp (by omega)
  have v161 : vp_in (nI t) 161 := vp_in_nI (by omega) (by omega)
  intro m
  induction m with
  | zero =>
    intro i s I A J hi hw hx
    obtain ⟨fr, e3, e4, l, hh⟩ := hw.1.2.2 t ht
    have e4' : A 4 t = nI (pp_cs ts t).length := e4
    rw [List.drop_of_length_le (by omega), pp_pf_0r hw] at hx
    cases hx
    refine cg_j (cg_a v161 ?_) (fun y h => br_29_2 h)
    rw [ck, e4']
    exact cg_t (nI_le (by omega) (by omega)) (cg_r ⟨rfl, hw⟩)
  | succ m ih =>
    intro i s I A J hi hw hx
    obtain ⟨fr, e3, e4, l, hh⟩ := hw.1.2.2 t ht
    have e3' : A 3 t = nI fr := e3
    have e4' : A 4 t = nI (pp_cs ts t).length := e4
    have hlt : i < (pp_cs ts t).length := by omega
    rw [List.drop_eq_getElem_cons hlt, pp_pf_c] at hx
    rcases pp_bE hx with ⟨p, hr, hp⟩ | ⟨v1, s2, hr, hk⟩
    · cases hp
    · obtain ⟨I1, A1, J1, ⟨hE, _⟩, hw1⟩ := rl_26 (d := d) hw hr
      have ev : A 1 (fr + i) = (pp_cs ts t)[i] := by
        have := hh i hlt
        rwa [gd_e hlt] at this
      refine cg_j (cg_a v161 ?_) (fun y h => br_29_2 h)
      rw [ck, e4', e3', nI_add]
      refine cg_f (nI_ge hlt (by omega)) (cg_a v161 (cg_a (vp_in_nI (by omega) (by omega)) ?_))
      rw [nI_clamp (by omega), ev]
      refine cg_V hE ?_
      rw [nI_1]
      exact ih (i + 1) s2 I1 A1 J1 (by omega) hw1 hk
theorem rl_29 (hts : pp_ok ts) (hw : rq ts f2 f1 T X (I, A, J) s) {t : Nat} (ht : t < ts.length) (hx : pp_pf (pp_cs ts t) s = some (.inr (v, s1))) : ∃ (I1 A1 : ja_I) (J1 : ja_J), er_E (d + 2) 29 [.ref 0, .int (nI t)] (I, A, J) (.inl none) (I1, A1, J1) ∧ rq ts f2 f1 T X (I1, A1, J1) s1 :=
  rP_of (cg_j (rl_29l hts ht (pp_cs ts t).length 0 s I A J (by omega) hw hx) (fun y h => er_29 (r := y) h))
/-- sayType -/
theorem rl_30l {g : List Int32} : ∀ (m i : Nat) (s : pp_S) (I A : ja_I) (J : ja_J), i + m = g.length → pq_sig s = g → rq ts f2 f1 T X (I, A, J) s → pp_pf (g.drop i) s = some (.inr (v, s1)) → ∃ y, ja_R (ja_code tr_30) (er_E (d + 1)) y 2 [some (.ref 0), some (.int (nI i))] [] (I, A, J) ∧ rP (fun w => rq ts f2 f1 T X w s1) y := by
  intro m
  induction m with
  | zero =>
    intro i s I A J hi hg hw hx
    have e : I 0 30 = nI (pq_sig s).length := hw.2.2.2.2.2.2.1.1
    rw [hg] at e
    have l : (pq_sig s).length ≤ pq_tn s := hw.2.2.2.2.2.2.1.2.1
    have l2 : pq_tn s ≤ 640 := hw.2.2.2.2.2.2.1.2.2.1
    rw [hg] at l
    rw [List.drop_of_length_le (by omega), pp_pf_0r hw] at hx
    cases hx
    exact cg_j (cg_t (by rw [e]; exact nI_le (by omega) (by omega)) (cg_r ⟨rfl, hw⟩)) (fun y h => br_30_2 h)
  | succ m ih =>
    intro i s I A J hi hg hw hx
    have e : I 0 30 = nI (pq_sig s).length := hw.2.2.2.2.2.2.1.1
    have hh : cq_h (A 18) 0 (pq_sig s) := hw.2.2.2.2.2.2.1.2.2.2
    have l : (pq_sig s).length ≤ pq_tn s := hw.2.2.2.2.2.2.1.2.1
    have l2 : pq_tn s ≤ 640 := hw.2.2.2.2.2.2.1.2.2.1
    rw [hg] at e hh l
    have hlt : i < g.length := by omega
    rw [List.drop_eq_getElem_cons hlt, pp_pf_c] at hx
    rcases pp_bE hx with ⟨p, hr, hp⟩ | ⟨v1, s2, hr, hk⟩
    · cases hp
    · obtain ⟨I1, A1, J1, ⟨hE, _⟩, hw1⟩ := rl_26 (d := d) hw hr
      have ev : A 18 (nI i).toNatClampNeg = g[i] := by
        have := hh i hlt
        rw [Nat.zero_add, gd_e hlt] at this
        rw [nI_clamp (by omega)]; exact this
      refine cg_j (cg_f (by rw [e]; exact nI_ge hlt (by omega)) (cg_a (vp_in_nI (by omega) (by omega)) ?_)) (fun y h => br_30_2 h)
      rw [ev]
      refine cg_V hE ?_
      rw [nI_1]
      have hs2 : pq_sig s2 = g := by
        rw [← hg]
        obtain ⟨pos, op, cc, tn, tl, wt, pn, scs, sd, sig, frm, rl, mn, dc, fc⟩ := s
        simp only [pp_pf] at hr
        split at hr
        · cases hr; rfl
        · cases hr
      exact ih (i + 1) s2 I1 A1 J1 (by omega) hs2 hw1 hk
theorem rl_30 (hw : rq ts f2 f1 T X (I, A, J) s) (hx : pp_pf (pq_sig s) s = some (.inr (v, s1))) : ∃ (I1 A1 : ja_I) (J1 : ja_J), er_E (d + 2) 30 [.ref 0] (I, A, J) (.inl none) (I1, A1, J1) ∧ rq ts f2 f1 T X (I1, A1, J1) s1 :=
  rP_of (cg_j (rl_30l (pq_sig s).length 0 s I A J (by omega) rfl hw hx) (fun y h => er_30 (r := y) h))
/-- sayNumber -/
theorem rn_1 : ∀ n, n < 100 → 48 + (nI n - nI n / 10 * 10) = nI (48 + n % 10) := by decide +kernel
theorem rn_2 : ∀ n, n < 100 → 48 + ((nI n / 10) - (nI n / 10) / 10 * 10) = nI (48 + n / 10) := by decide +kernel
theorem rl_27 (hw : rq ts f2 f1 T X (I, A, J) s) {n : Nat} (hn : n < 100) (hx : pp_pf (pp_dig n) s = some (.inr (v, s1))) : ∃ (I1 A1 : ja_I) (J1 : ja_J), er_E (d + 3) 27 [.ref 0, .int (nI n)] (I, A, J) (.inl none) (I1, A1, J1) ∧ rq ts f2 f1 T X (I1, A1, J1) s1 := by
  unfold pp_dig at hx
  by_cases h : 10 ≤ n
  · rw [if_pos h, pp_pf_c] at hx
    rcases pp_bE hx with ⟨p, hr, hp⟩ | ⟨v1, s2, hr, hk⟩
    · cases hp
    · obtain ⟨I1, A1, J1, ⟨hE, _⟩, hw1⟩ := rl_26 (d := d) hw hr
      obtain ⟨I2, A2, J2, ⟨hE2, _⟩, hw2⟩ := rl_26 (d := d) hw1 hk
      refine ⟨I2, A2, J2, er_27 (r := (_, _)) ⟨fun n9 => absurd n9 (nI_ge (a := 9) (by omega) (by omega)), fun _ => ⟨I2, A2, J2, er_28 (r := (_, _)) ⟨fun _ => ⟨I1, A1, J1, ?_, I2, A2, J2, ?_, rfl⟩, fun n99 => absurd (nI_le (b := 99) (by omega) (by omega)) n99⟩, rfl⟩⟩, hw2⟩
      · rw [rn_2 n hn]; exact hE
      · rw [rn_1 n hn]; exact hE2
  · rw [if_neg h] at hx
    obtain ⟨I1, A1, J1, ⟨hE, _⟩, hw1⟩ := rl_26 (d := d + 1) hw hx
    refine ⟨I1, A1, J1, er_27 (r := (_, _)) ⟨fun _ => ⟨I1, A1, J1, ?_, rfl⟩, fun n9 => absurd (nI_le (b := 9) (by omega) (by omega)) n9⟩, hw1⟩
    rw [show (48 : Int32) + nI n = nI (48 + n) from nI_add 48 n]
    exact hE
/-- markBase -/
theorem rn_3 : ∀ n, n < 100 → 48 + ((nI n / 1) - (nI n / 1) / 10 * 10) = nI (48 + n % 10) := by decide +kernel
theorem rl_25 (hts : pp_ok ts) (hw : rq ts f2 f1 T X (I, A, J) s) {t : Nat} (hx : pp_wb ts t s = some (.inr (v, s1))) : ∃ (I1 A1 : ja_I) (J1 : ja_J), er_E (d + 2) 25 [.ref 0, .int (pp_bv ts s t)] (I, A, J) (.inl none) (I1, A1, J1) ∧ rq ts f2 f1 T X (I1, A1, J1) s1 := by
  unfold pp_wb at hx
  unfold pp_bv
  by_cases h5 : pp_k ts t = 5
  · rw [if_pos h5] at hx
    rw [if_pos h5]
    obtain ⟨I1, A1, J1, hE, hw1⟩ := rl_24 (d := d) hw hx
    exact ⟨I1, A1, J1, er_25 (r := (_, _)) ⟨fun n => absurd n (by decide), fun _ => ⟨I1, A1, J1, hE, rfl⟩⟩, hw1⟩
  · rw [if_neg h5] at hx
    rw [if_neg h5]
    by_cases h6 : pp_k ts t = 6
    · rw [if_pos h6] at hx
      rw [if_pos h6]
      obtain ⟨I1, A1, J1, hE, hw1⟩ := rl_24 (d := d) hw hx
      exact ⟨I1, A1, J1, er_25 (r := (_, _)) ⟨fun n => absurd n (by decide), fun _ => ⟨I1, A1, J1, hE, rfl⟩⟩, hw1⟩
    · rw [if_neg h6] at hx
      rw [if_neg h6]
      by_cases h7 : pp_k ts t = 7
      · rw [if_pos h7] at hx
        rw [if_pos h7]
        obtain ⟨I1, A1, J1, hE, hw1⟩ := rl_24 (d := d) hw hx
        exact ⟨I1, A1, J1, er_25 (r := (_, _)) ⟨fun n => absurd n (by decide), fun _ => ⟨I1, A1, J1, hE, rfl⟩⟩, hw1⟩
      · rw [if_neg h7] at hx
        rw [if_neg h7]
        split at hx
        · rename_i hb
          obtain ⟨hn, hm⟩ := hb
          generalize (pq_mn s t).toNatClampNeg = n at hn hm hx
          rw [hm]
          have e1000 : (1000 + Int32.ofNat n) - 1000 = nI n := by rw [Int32.add_comm, Int32.add_sub_cancel]; rfl
          have hge : (1000 : Int32) ≤ 1000 + Int32.ofNat n := by
            rw [show (1000 : Int32) + Int32.ofNat n = nI (1000 + n) from nI_add 1000 n]
            exact nI_le (a := 1000) (by omega) (by omega)
          rw [pp_pt_a] at hx
          rcases pp_bE hx with ⟨p, hr, hp⟩ | ⟨v1, s2, hr, hk⟩
          · cases hp
          · have last : ∀ (I2 A2 : ja_I) (J2 : ja_J), rq ts f2 f1 T X (I2, A2, J2) s2 → ∃ y, ja_R (ja_code tr_25) (er_E (d + 1)) y 22 [some (.ref 0), none, some (.int (nI n)), some (.int (1 / 10))] [] (I2, A2, J2) ∧ rP (fun w => rq ts f2 f1 T X w s1) y := by
              intro I2 A2 J2 hw2
              obtain ⟨I3, A3, J3, hE3, hw3⟩ := rl_24 (d := d) hw2 hk
              exact cg_j (cg_t (by decide) (cg_V hE3 (cg_r ⟨rfl, hw3⟩))) (fun y h => br_25_22 h)
            refine rP_of (G := fun w => rq ts f2 f1 T X w s1) (cg_j (cg_t hge ?_) (fun y h => er_25 (r := y) h))
            rw [e1000]
            refine cg_j (cg_f (by decide) (cg_f (nI_ge (b := 100) hn (by omega)) (cg_f (by decide) ?_))) (fun y h => br_25_22 h)
            rw [show (100 : Int32) / 10 = 10 by decide]
            unfold pp_dig at hr
            by_cases h10 : 10 ≤ n
            · rw [if_pos h10, pp_pt_c] at hr
              rcases pp_bE hr with ⟨p, hr2, hp⟩ | ⟨v2, s3, hr2, hk2⟩
              · cases hp
              · obtain ⟨I1, A1, J1, hE1, hw1⟩ := rl_24 (d := d) hw hr2
                obtain ⟨I2, A2, J2, hE2, hw2⟩ := rl_24 (d := d) hw1 hk2
                refine cg_j (cg_f (by decide) (cg_t (nI_le (a := 10) h10 (by omega)) (cg_a (by decide) ?_))) (fun y h => br_25_22 h)
                rw [rn_2 n hn]
                refine cg_V hE1 ?_
                rw [show (10 : Int32) / 10 = 1 by decide]
                refine cg_j (cg_f (by decide) (cg_t (nI_le (a := 1) (by omega) (by omega)) (cg_a (by decide) ?_))) (fun y h => br_25_22 h)
                rw [rn_3 n hn]
                exact cg_V hE2 (last I2 A2 J2 hw2)
            · rw [if_neg h10] at hr
              obtain ⟨I2, A2, J2, hE2, hw2⟩ := rl_24 (d := d) hw hr
              refine cg_j (cg_f (by decide) (cg_f (nI_ge (b := 10) (by omega) (by omega)) (cg_f (by decide) ?_))) (fun y h => br_25_22 h)
              rw [show (10 : Int32) / 10 = 1 by decide]
              have e10 : n % 10 = n := Nat.mod_eq_of_lt (by omega)
              by_cases h0 : 1 ≤ n
              · refine cg_j (cg_f (by decide) (cg_t (nI_le (a := 1) (by omega) (by omega)) (cg_a (by decide) ?_))) (fun y h => br_25_22 h)
                rw [rn_3 n hn, e10]
                exact cg_V hE2 (last I2 A2 J2 hw2)
              · refine cg_j (cg_f (by decide) (cg_f (nI_ge (b := 1) (by omega) (by omega)) (cg_t rfl (cg_a (by decide) ?_)))) (fun y h => br_25_22 h)
                rw [rn_3 n hn, e10]
                exact cg_V hE2 (last I2 A2 J2 hw2)
        · cases hx
end
