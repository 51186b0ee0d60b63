/-! The reference reads. -/
/-- what read answers and leaves -/
def rvR (ts : List pp_T) (f1 : Nat → Int32) (n : Int32) (x : Nat ⊕ (Nat × pp_S)) (z : Int32) (w : ja_w) : Prop := match x with
  | .inl p => z = 0 ∧ w.1 0 0 = 1 ∧ w.1 0 2 = n ∧ w.1 0 11 = 0 ∧ w.1 0 10 = nI p ∧ w.2.1 1 = f1 ∧ w.1 0 20 = 0 ∧ w.1 0 38 = 0 ∧ p ≤ 160
  | .inr y => z = nI ts.length ∧ w.1 0 0 = 0 ∧ w.1 0 2 = n ∧ w.1 0 11 = 1 ∧ w.1 0 10 = -1 ∧ w.2.1 1 = f1 ∧ w.1 0 3 = nI ts.length ∧ rq_N ts (w.1 0 20) (w.1 0 27) (w.2.1 10) (w.2.1 11) (w.2.1 12) (w.2.1 13) (w.2.1 14) (w.2.1 15) (w.2.1 16) (w.2.2 17) (pq_dc y.2) ∧ rq_G (w.1 0 38) (w.2.1 20) 640 (pq_frm y.2) ∧ (∀ i, i < ts.length → w.2.1 5 i = pq_rl y.2 i ∧ w.2.1 6 i = pq_mn y.2 i)
section
variable {f1 : Nat → Int32} {d : Nat} {I A : ja_I} {J : ja_J}
theorem rv_1 (w : ja_w) : er_E (d + 1) 1 [.ref 0, .int 1] w (.inl (some (.int 0))) (ja_up w.1 0 0 1, w.2.1, w.2.2) := by
  obtain ⟨I, A, J⟩ := w
  exact er_1 (r := (_, _)) rfl
theorem rv_67 {tx : List Nat} (htx : ∀ c ∈ tx, 1 ≤ c ∧ c < 128) (hn : tx.length ≤ 160) (hf : ∀ i, i < tx.length → f1 i = nI (tx.getD i 0)) (h2 : I 0 2 = nI tx.length) (hA : A 1 = f1) {x : Nat ⊕ (Nat × pp_S)} {n : Nat} (hx : pp_prog (tsOf (sk ([], false) tx).1) n = some x) : ∃ (z : Int32) (w' : ja_w), er_E (d + 10) 67 [.ref 0] (I, A, J) (.inl (some (.int z))) w' ∧ rvR (tsOf (sk ([], false) tx).1) f1 (nI tx.length) x z w' := by
  obtain ⟨I1, A1, J1, hE1, hT⟩ := tq_10 (d := d + 7) (I := ja_up I 0 0 0) (A := A) (J := J) htx hn hf h2 hA rfl
  have hok := sk_ok tx [] false htx (fun x h => by cases h)
  have h160 : tot (sk ([], false) tx).1 ≤ 160 := by
    have := hok.2
    have e : tot [] = 0 := rfl
    omega
  have hts := ts_ok hok.1 h160
  obtain ⟨hK, hL⟩ := tE_K hT
  obtain ⟨⟨_, hT2, hT1, hT0⟩, _⟩ := hT
  generalize tsOf (sk ([], false) tx).1 = ts at hK hL hts hx
  let I2 : ja_I := ja_up (ja_up (ja_up (ja_up (ja_up (ja_up (ja_up (ja_up (ja_up (ja_up (ja_up (ja_up I1 0 11 0) 0 10 (-1)) 0 20 0) 0 27 0) 0 38 0) 0 17 1) 0 18 1) 0 15 0) 0 9 0) 0 12 0) 0 35 0) 0 16 0
  let A2 : ja_I := ja_up A1 9 (0 : Int32).toNatClampNeg 0
  have hE2 : er_E (d + 9) 66 [.ref 0] (I1, A1, J1) (.inl none) (I2, A2, J1) := er_66 (r := (_, _)) ⟨vp_in_nI (n := 0) (N := 24) (by decide) (by decide), rfl⟩
  have hw : rq0 ts (nI tx.length) f1 [] (I2 0 32, I2 0 33, 0, [], I2 0 37) (I2, A2, J1) pp_s0 := by
    refine ⟨hK, ⟨hT2, hT1, rfl, hT0, rfl, hts.1⟩, ⟨rfl, Nat.zero_le _, rfl, by decide, rfl⟩, ⟨rfl, by decide, trivial⟩, ⟨rfl, rfl, by decide, by decide, fun i q h => ?_⟩, ⟨rfl, by decide, rfl, by decide, fun k x h => by cases h⟩, ⟨trivial, trivial, by decide, trivial⟩, ⟨rfl, by decide, by decide, cq_h0 _ _⟩, hL, rfl, rfl, trivial, rfl, Nat.zero_le _, cq_h0 _ _, rfl⟩
    cases i with
    | succ i => cases h
    | zero =>
      cases h
      exact ⟨rfl, by decide⟩
  obtain ⟨I3, A3, J3, hE3, hw3⟩ := zrl_11 (d := d + 8) hw (by decide) 1 0
  obtain ⟨w4, hrs, h4⟩ := zrr_prog (d := d) hts n 160 0 pp_s0 _ (I3, A3, J3) hw3 (Nat.zero_le _) x hx
  have fin : ∀ z w', LH (d + 9) w4 (.inl (some (.int z)), w') → er_E (d + 10) 67 [.ref 0] (I, A, J) (.inl (some (.int z))) w' := fun z w' h => er_67 (r := (_, _)) ⟨I1, A1, J1, hE1, I2, A2, J1, hE2, I3, A3, J3, hE3, hrs _ h⟩
  obtain ⟨I4, A4, J4⟩ := w4
  cases x with
  | inl p =>
    obtain ⟨⟨b1, b2, b3, b4, b5⟩, b6, b7⟩ := h4
    have e16 : ¬ I4 0 16 = 0 := by
      have e : I4 0 16 = 1 := b6
      rw [e]; decide
    have hr := rv_1 (d := d + 8) (ja_up (ja_up I4 0 20 0) 0 38 0, A4, J4)
    refine ⟨0, _, fin _ _ (br_67_19 ⟨fun _ => ⟨fun h => absurd h e16, fun _ => ⟨0, _, _, _, hr, rfl⟩⟩, fun _ => ⟨fun h => absurd h e16, fun _ => ⟨fun h => absurd h e16, fun _ => ⟨0, _, _, _, hr, rfl⟩⟩⟩⟩), rfl, rfl, b1, b3, b7, b2, rfl, rfl, b5⟩
  | inr y =>
    obtain ⟨X', h4⟩ := h4
    have h4' : rq0 ts (nI tx.length) f1 [] X' (I4, A4, J4) y.2 := h4
    obtain ⟨hK4, ⟨a1, a2, a3, a4, a5, a6⟩, hP, hTk, hS, hN, hG, hF, hL4, hX⟩ := h4'
    have e12 : I4 0 12 ≤ 0 := by
      have e : I4 0 12 = nI 0 := hTk.1
      rw [e]; decide
    have e16 : I4 0 16 = 0 := hP.2.2.2.2
    have e3 : I4 0 3 = nI ts.length := hK4.1
    refine ⟨I4 0 3, _, fin _ _ (br_67_19 ⟨fun _ => ⟨fun _ => rfl, fun h => absurd e16 h⟩, fun h => absurd e12 h⟩), e3, a4, a1, rfl, a5, a2, e3, hN, hF, hL4⟩
end
