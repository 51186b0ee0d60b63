/-! The class reads. -/
/-- what clear leaves -/
abbrev clr (I A : ja_I) (J : ja_J) (I1 A1 : ja_I) (J1 : ja_J) : Prop := (I1 3 4 = 0 ∧ I1 3 12 = 0 ∧ I1 3 13 = 0 ∧ I1 8 1 = 0 ∧ I1 22 8 = 0 ∧ I1 4 1 = 0) ∧ (∀ i, i < 160 → A1 9 i = 0 ∧ A1 10 i = -1) ∧ I1 0 = I 0 ∧ I1 2 = I 2 ∧ I1 20 = I 20 ∧ A1 1 = A 1 ∧ A1 6 = A 6 ∧ J1 = J
section
variable {ts : List pp_T} {f0 f1 : Nat → Int32} {d : Nat} {I A : ja_I} {J : ja_J}
theorem cv_40l {C : ja_C} : ∀ (m i : Nat) (A : ja_I), i + m = 160 → (∀ j, j < i → A 9 j = 0 ∧ A 10 j = -1) → ∃ A1, ja_R (ja_code tc_40) C (.inl none, (I, A1, J)) 24 [some (.ref 3), some (.int (nI i))] [] (I, A, J) ∧ (∀ j, j < 160 → A1 9 j = 0 ∧ A1 10 j = -1) ∧ ∀ p, p ≠ 9 → p ≠ 10 → A1 p = A p
  | 0, i, A, hi, h => by
    obtain rfl : i = 160 := by omega
    exact ⟨A, bc_40_24 ⟨fun _ => rfl, fun n => absurd (show (160 : Int32) ≤ nI 160 by decide) n⟩, h, fun _ _ _ => rfl⟩
  | m + 1, i, A, hi, h => by
    have vi : vp_in (nI i) 160 := vp_in_nI (by omega) (by omega)
    have ci : (nI i).toNatClampNeg = i := nI_clamp (by omega)
    obtain ⟨A1, k1, k2, k3⟩ := cv_40l (C := C) m (i + 1) (ja_up (ja_up A 9 i 0) 10 i (-1)) (by omega) (fun j hj => by
      show cond (Nat.beq j i) 0 (A 9 j) = 0 ∧ cond (Nat.beq j i) (-1) (A 10 j) = -1
      by_cases e : j = i
      · rw [e, Nat.beq_refl]; exact ⟨rfl, rfl⟩
      · rw [show Nat.beq j i = false by exact nb_f e]; exact h j (by omega))
    refine ⟨A1, bc_40_24 ⟨fun n => absurd n (nI_ge (b := 160) (by omega) (by omega)), fun _ => ⟨vi, vi, ?_⟩⟩, k2, fun p h9 h10 => ?_⟩
    · rw [ci, nI_1]; exact k1
    · rw [k3 p h9 h10]
      funext j
      show cond (Nat.beq p 10 && _) _ (cond (Nat.beq p 9 && _) _ _) = _
      rw [show Nat.beq p 10 = false by exact nb_f h10, show Nat.beq p 9 = false by exact nb_f h9]; rfl
theorem cv_40 : ∃ (I1 A1 : ja_I) (J1 : ja_J), ec_E (d + 2) 40 [.ref 3] (I, A, J) (.inl none) (I1, A1, J1) ∧ (I1 3 4 = 0 ∧ I1 3 12 = 0 ∧ I1 3 13 = 0 ∧ I1 8 1 = 0) ∧ (∀ i, i < 160 → A1 9 i = 0 ∧ A1 10 i = -1) ∧ I1 0 = I 0 ∧ I1 2 = I 2 ∧ I1 20 = I 20 ∧ A1 1 = A 1 ∧ A1 6 = A 6 ∧ J1 = J := by
  obtain ⟨A1, k1, k2, k3⟩ := cv_40l (I := ja_up (ja_up (ja_up (ja_up I 8 1 0) 3 4 0) 3 12 0) 3 13 0) (J := J) (C := ec_E (d + 1)) 160 0 A (by omega) (fun j hj => absurd hj (Nat.not_lt_zero j))
  exact ⟨_, A1, J, ec_40 (r := (_, _)) ⟨_, _, _, ec_15t (r := (_, _)) rfl, k1⟩, ⟨rfl, rfl, rfl, rfl⟩, k2, rfl, rfl, rfl, k3 1 (by decide) (by decide), k3 6 (by decide) (by decide), rfl⟩
/-- clear -/
theorem cv_77 : ∃ (I1 A1 : ja_I) (J1 : ja_J), ec_E (d + 3) 77 [.ref 5] (I, A, J) (.inl none) (I1, A1, J1) ∧ clr I A J I1 A1 J1 := by
  obtain ⟨I1, A1, J1, h1, ⟨a1, a2, a3, a4⟩, b, c1, c2, c3, c4, c5, c6⟩ := cv_40 (d := d) (I := I) (A := A) (J := J)
  exact ⟨ja_up (ja_up I1 22 8 0) 4 1 0, A1, J1, ec_77 (r := (_, _)) ⟨I1, A1, J1, h1, ja_up I1 22 8 0, A1, J1, ec_62 (r := (_, _)) rfl, _, _, _, ec_15 (r := (_, _)) rfl, rfl⟩, ⟨a1, a2, a3, a4, rfl, rfl⟩, b, c1, c2, c3, c4, c5, c6⟩
/-- before the first declaration -/
theorem cv_start (hts : pp_ok ts) (hT : cq_T ts (I 2 2) (A 6) (J 7)) (h0 : I 0 = f0) (h1 : A 1 = f1) : ∃ (I4 A4 : ja_I) (J4 : ja_J), cq ts f0 f1 [] (I4, A4, J4) pp_s0 ∧ ∀ r, ja_R (ja_code tc_76) (ec_E (d + 3)) r 27 [some (.ref 5), some (.int 0)] [] (I4, A4, J4) → ja_R (ja_code tc_76) (ec_E (d + 3)) r 0 [some (.ref 5), none] [] (I, A, J) := by
  obtain ⟨I1, A1, J1, hE, ⟨a1, a2, a3, a4, a5, a6⟩, b, c1, c2, c3, c4, c5, c6⟩ := cv_77 (d := d) (I := I) (A := A) (J := J)
  have hT1 : cq_T ts ((ja_up (ja_up I1 20 1 0) 20 3 0) 2 2) (A1 6) (J1 7) := by
    show cq_T ts (I1 2 2) (A1 6) (J1 7)
    rw [c2, c5, c6]; exact hT
  have h22 := cl_22 (d := d + 1) (I := ja_up (ja_up I1 20 1 0) 20 3 0) (A := A1) (J := J1) hts hT1 (t := 0) (by decide)
  let I2 : ja_I := ja_up (ja_up (ja_up I1 20 1 0) 20 3 0) 20 2 (pp_k ts 0)
  have hE2 : ec_E (d + 3) 32 [.ref 20] (I1, A1, J1) (.inl none) (I2, A1, J1) := ec_32 (r := (_, _)) ⟨_, _, _, _, h22, rfl⟩
  have e13 : I2 3 13 = 0 := a3
  have e12 : I2 3 12 = 0 := a2
  let I3 : ja_I := ja_up I2 3 13 (I2 3 13 + 1)
  have hE3 : ec_E (d + 3) 42 [.ref 3] (I2, A1, J1) (.inl (some (.int 0))) (I3, A1, J1) := by
    have := ec_42 (d := d + 2) (r := (.inl (some (.int (I2 3 13 + 1 - 1))), (I3, A1, J1))) (I := I2) (A := A1) (J := J1) rfl
    have e : I2 3 13 + 1 - 1 = 0 := by rw [e13]; decide
    rw [e] at this
    exact this
  have e12' : I3 3 12 = 0 := e12
  let I4 : ja_I := ja_up I3 3 12 (I3 3 12 + 1)
  let A4 : ja_I := ja_up A1 17 (I3 3 12 + 1).toNatClampNeg 0
  have hE4 : ec_E (d + 3) 43 [.ref 3, .int 0] (I3, A1, J1) (.inl none) (I4, A4, J1) := ec_43 (r := (_, _)) ⟨fun h => absurd h (by rw [e12']; decide), fun _ => ⟨by rw [e12']; exact vp_in_nI (n := 1) (N := 10) (by decide) (by decide), rfl⟩⟩
  refine ⟨I4, A4, J1, ⟨hT1, ⟨c1.trans h0, c4.trans h1⟩, ?_, ?_, ?_, ?_, ?_, ?_, ?_⟩, fun r h => bc_76_0 ⟨I1, A1, J1, hE, I2, A1, J1, hE2, 0, I3, A1, J1, hE3, I4, A4, J1, hE4, h⟩⟩
  · exact ⟨rfl, rfl, rfl, Nat.zero_le _, by decide⟩
  · exact ⟨a6, by decide, cq_h0 _ _, fun c h => by cases h⟩
  · exact ⟨a4, by decide, Nat.le_refl _, cq_h0 _ _, fun c h => by cases h⟩
  · exact ⟨a1, by decide, fun k x h => by cases h⟩
  · refine ⟨?_, ?_, by decide, by decide, fun i q h => ?_⟩
    · show I3 3 12 + 1 = nI 1
      rw [e12']; decide
    · show I2 3 13 + 1 = nI 1
      rw [e13]; decide
    · cases i with
      | succ i => cases h
      | zero =>
        cases h
        refine ⟨?_, by decide⟩
        show cond (Nat.beq (0 + 1) (I3 3 12 + 1).toNatClampNeg) 0 (A1 17 (0 + 1)) = nI 0
        rw [e12']; rfl
  · exact fun i hi => b i hi
  · exact ⟨a5, rfl, by decide, trivial⟩
def cvO (ts : List pp_T) (f0 f1 : Nat → Int32) (x : Nat ⊕ (Nat × pp_S)) (v : Int32) (w : ja_w) : Prop := match x with
  | .inl p => v = nI p ∧ w.1 0 = f0 ∧ w.2.1 1 = f1 ∧ w.1 3 4 = 0 ∧ w.1 4 1 = 0
  | .inr z => v = -1 ∧ cq ts f0 f1 [] w z.2
theorem cv_76l (hts : pp_ok ts) {n : Nat} : ∀ (m i a : Nat) (s : pp_S) (I A : ja_I) (J : ja_J), i + m = 160 → cq ts f0 f1 [] (I, A, J) s → ∀ x, pp_w (fun _ s => some (!(pp_at ts s == 0))) (fun _ s => pp_c (pp_run ts n) 78 1 0 1 0 s) m a s = some x → ∃ (v : Int32) (w' : ja_w), ja_R (ja_code tc_76) (ec_E (n + 6)) (.inl (some (.int v)), w') 27 [some (.ref 5), some (.int (nI i))] [] (I, A, J) ∧ cvO ts f0 f1 x v w'
  | 0, i, a, s, I, A, J, hi, hw, x, hx => by
    obtain rfl : i = 160 := by omega
    simp only [pp_w] at hx
    cases hb : (!(pp_at ts s == 0)) with
    | true => rw [hb] at hx; cases hx
    | false =>
      rw [hb] at hx
      cases hx
      exact ⟨-1, (I, A, J), bc_76_27 ⟨fun _ => rfl, fun h => absurd (show (160 : Int32) ≤ nI 160 by decide) h⟩, rfl, hw⟩
  | m + 1, i, a, s, I, A, J, hi, hw, x, hx => by
    have n160 : ¬ (160 : Int32) ≤ nI i := nI_ge (b := 160) (by omega) (by omega)
    have h35 := cl_35 (d := n + 5) hw 0
    simp only [pp_w] at hx
    cases hb : (!(pp_at ts s == 0)) with
    | false =>
      rw [hb] at hx
      cases hx
      have e : (pp_at ts s == 0) = true := by simpa using hb
      rw [e] at h35
      exact ⟨-1, (I, A, J), bc_76_27 ⟨fun h => absurd h n160, fun _ => ⟨_, I, A, J, h35, fun h => absurd h (by decide), fun _ => rfl⟩⟩, rfl, hw⟩
    | true =>
      rw [hb] at hx
      have e : (pp_at ts s == 0) = false := by simpa using hb
      rw [e] at h35
      have hx1 : pp_b (pp_c (pp_run ts n) 78 1 0 1 0 s) (pp_w (fun _ s => some (!(pp_at ts s == 0))) (fun _ s => pp_c (pp_run ts n) 78 1 0 1 0 s) m) = some x := hx
      have M := cq_c (fun s => (cl_all (f0 := f0) (f1 := f1) hts n).2.2.2.2.2.2.2.2.2.2.2.2.2.1 1 s (by decide)) 1 0 s
      rcases pp_bE hx1 with ⟨p, hr, hp⟩ | ⟨v, s1, hr, hk⟩
      · obtain ⟨⟨o, ⟨I3, A3, J3⟩⟩, hE, ho⟩ := M [] (I, A, J) hw _ hr
        obtain ⟨h1, h2⟩ := ho
        obtain rfl : o = .inr 0 := h1
        subst hp
        obtain ⟨I4, A4, J4, hE4, ⟨a1, a2, a3, a4, a5, a6⟩, b, c1, c2, c3, c4, c5, c6⟩ := cv_77 (d := n + 3) (I := I3) (A := A3) (J := J3)
        refine ⟨I4 20 1, (I4, A4, J4), bc_76_27 ⟨fun h => absurd h n160, fun _ => ⟨_, I, A, J, h35, fun _ => Or.inr ⟨I3, A3, J3, hE, I4, A4, J4, hE4, rfl⟩, fun h => absurd rfl h⟩⟩, ?_, c1.trans h2.1, c4.trans h2.2.1, a1, a6⟩
        show I4 20 1 = nI p
        rw [c3]; exact h2.2.2
      · obtain ⟨⟨o, ⟨I3, A3, J3⟩⟩, hE, ho⟩ := M [] (I, A, J) hw _ hr
        obtain ⟨h1, h2⟩ := ho
        obtain rfl : o = .inl none := h1
        obtain ⟨v', w', k1, k2⟩ := cv_76l hts m (i + 1) v s1 I3 A3 J3 (by omega) h2 x hk
        rw [← nI_1] at k1
        exact ⟨v', w', bc_76_27 ⟨fun h => absurd h n160, fun _ => ⟨_, I, A, J, h35, fun _ => Or.inl ⟨I3, A3, J3, hE, k1⟩, fun h => absurd rfl h⟩⟩, k2⟩
/-- firstUnfit -/
theorem cv_76 (hts : pp_ok ts) {n : Nat} (hT : cq_T ts (I 2 2) (A 6) (J 7)) (h0 : I 0 = f0) (h1 : A 1 = f1) {x : Nat ⊕ (Nat × pp_S)} (hx : pp_prog ts n = some x) : ∃ (v : Int32) (w' : ja_w), ja_R (ja_code tc_76) (ec_E (n + 6)) (.inl (some (.int v)), w') 0 [some (.ref 5), none] [] (I, A, J) ∧ cvO ts f0 f1 x v w' := by
  obtain ⟨I4, A4, J4, hw, go⟩ := cv_start (d := n + 3) hts hT h0 h1
  obtain ⟨v, w', k1, k2⟩ := cv_76l hts 160 0 0 pp_s0 I4 A4 J4 (by omega) hw x hx
  exact ⟨v, w', go _ k1, k2⟩
/-- the calls of read -/
def jCr : ja_C := fun j as w o w1 => (j = 24 ∧ ec_E 87 24 as w o w1) ∨ (j = 76 ∧ as = [.ref 5] ∧ ja_R (ja_code tc_76) (ec_E 86) (o, w1) 0 [some (.ref 5), none] [] w)
def crd (o : ja_O) (w w' : ja_w) : Prop := ja_R (ja_code tc_2) jCr (o, w') 0 [some (.ref 0)] [] w
/-- what read answers and leaves -/
def cvR (ts : List pp_T) (f1 : Nat → Int32) (n : Int32) (x : Nat ⊕ (Nat × pp_S)) (o : ja_O) (w : ja_w) : Prop := match x with
  | .inl p => o = .inr 0 ∧ w.1 0 1 = n ∧ w.1 0 2 = 0 ∧ w.1 0 3 = nI p ∧ w.2.1 1 = f1 ∧ w.1 3 4 = 0 ∧ w.1 4 1 = 0
  | .inr z => o = .inl (some (.int (nI ts.length))) ∧ w.1 0 1 = n ∧ w.1 0 2 = nI ts.length ∧ w.1 0 3 = -1 ∧ w.2.1 1 = f1 ∧ cq_F (w.1 4 1) (w.2.1 18) (pq_frm z.2) ∧ (∃ tn, tn ≤ 640 ∧ w.1 8 1 = nI tn ∧ cq_N ts (w.1 3 4) (w.2.1 11) (w.2.1 12) (w.2.1 13) (w.2.1 14) (w.2.1 15) (w.2.1 16) (w.2.1 19) tn (pq_dc z.2)) ∧ cq_L (w.2.1 9) (w.2.1 10) (pq_rl z.2) (pq_mn z.2)
theorem cv_2 {tx : List Nat} (htx : ∀ c ∈ tx, 1 ≤ c ∧ c < 128) (hn : tx.length ≤ 160) (hf : ∀ i, i < tx.length → f1 i = nI (tx.getD i 0)) (h1 : I 0 1 = nI tx.length) (hA : A 1 = f1) {x : Nat ⊕ (Nat × pp_S)} (hx : pp_prog (tsOf (sk ([], false) tx).1) 80 = some x) (hp : ∀ p, x = .inl p → p ≤ 160) : ∃ (o : ja_O) (w' : ja_w), crd o (I, A, J) w' ∧ cvR (tsOf (sk ([], false) tx).1) f1 (nI tx.length) x o w' := by
  obtain ⟨I1, A1, J1, hE, hT, g0, g1⟩ := kq_24 (d := 80) (I := I) (A := A) (J := J) (f0 := I 0) htx hn hf rfl hA
  have hok := sk_ok tx [] false htx (fun x h => by cases h)
  have h160 : tot (sk ([], false) tx).1 ≤ 160 := by
    have := hok.2
    have e : tot [] = 0 := rfl
    omega
  have hts := ts_ok hok.1 h160
  generalize tsOf (sk ([], false) tx).1 = ts at hT hts hx
  obtain ⟨v, ⟨I2, A2, J2⟩, k1, k2⟩ := cv_76 hts hT g0 g1 hx
  have c24 : jCr 24 [.ref 2, .ref 1, .int (I 0 1)] (I, A, J) (.inl none) (I1, A1, J1) := Or.inl ⟨rfl, by rw [h1]; exact hE⟩
  have c76 : jCr 76 [.ref 5] (I1, A1, J1) (.inl (some (.int v))) (I2, A2, J2) := Or.inr ⟨rfl, rfl, k1⟩
  cases x with
  | inl p =>
    obtain ⟨e1, e2, e3, e4, e5⟩ := k2
    have hv : ¬ v = -1 := by
      rw [e1]
      intro e
      have := hp p rfl
      have h2 := congrArg Int32.toInt e
      rw [nI_toInt (by omega)] at h2
      have h3 : ((p : Int)) = -1 := h2
      omega
    refine ⟨.inr 0, _, bc_2_0 ⟨I1, A1, J1, c24, v, I2, A2, J2, c76, fun h => absurd h hv, fun _ => rfl⟩, rfl, ?_, rfl, ?_, e3, e4, e5⟩
    · show I2 0 1 = nI tx.length
      have e2' : I2 0 = I 0 := e2
      rw [e2']; exact h1
    · exact e1
  | inr z =>
    obtain ⟨e1, hw⟩ := k2
    subst e1
    have hw' : cq ts (I 0) f1 [] (I2, A2, J2) z.2 := hw
    have e22 : I2 2 2 = nI ts.length := hw'.1.1
    refine ⟨.inl (some (.int (I2 2 2))), _, bc_2_0 ⟨I1, A1, J1, c24, -1, I2, A2, J2, c76, fun _ => rfl, fun h => absurd rfl h⟩, by rw [e22], ?_, e22, rfl, hw'.2.1.2, hw'.2.2.2.1, ⟨pq_tn z.2, hw'.2.2.2.2.1.2.1, hw'.2.2.2.2.1.1, hw'.2.2.2.2.2.1⟩, hw'.2.2.2.2.2.2.2.1⟩
    show I2 0 1 = nI tx.length
    have e2' : I2 0 = I 0 := hw'.2.1.1
    rw [e2']; exact h1
end
