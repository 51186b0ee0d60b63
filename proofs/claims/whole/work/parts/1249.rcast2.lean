section
variable {ts : List pp_T} {f2 : Int32} {f1 : Nat → Int32} {d : Nat} {T : rq_A} {X : rq_X} {I A : ja_I} {J : ja_J} {s s1 s2 s3 : pp_S} {w : ja_w} {C C' : pp_C} {v : Nat}
/-- isTypeName -/
theorem rl_51t (hts : pp_ok ts) (hw : rq ts f2 f1 T X (I, A, J) s) (h40 : pp_at ts s = 40) {b : Bool} (hb : pp_ib ts s (pq_pos s + 1) = some b) : er_E (d + 5) 51 [.ref 0] (I, A, J) (.inl (some (.int (bI b)))) (I, A, J) := by
  have h160 := hts.1
  have hl : pq_pos s < ts.length := by
    refine Nat.lt_of_not_le fun hle => ?_
    have : pp_at ts s = 0 := pp_k_ge hle
    exact absurd (this.symm.trans h40) (by decide)
  have e9 : I 0 9 = nI (pq_pos s) := hw.2.2.1.1
  have h19 := rl_19 (d := d) hts hw (t := pq_pos s + 1) (by omega) hb
  rw [← nI_1, ← e9] at h19
  refine er_51 (r := (_, _)) ⟨1, _, _, _, rl_13t hts hw (by rw [h40]; rfl), fun n => absurd n (by decide), fun _ => ⟨_, _, _, _, h19, ?_⟩⟩
  cases b
  · exact ⟨fun _ => rfl, fun n => absurd rfl n⟩
  · exact ⟨fun n => absurd n (by decide), fun _ => rfl⟩
theorem rl_51f (hts : pp_ok ts) (hw : rq ts f2 f1 T X (I, A, J) s) (h40 : ¬ pp_at ts s = 40) : er_E (d + 5) 51 [.ref 0] (I, A, J) (.inl (some (.int 0))) (I, A, J) :=
  er_51 (r := (_, _)) ⟨0, _, _, _, rl_13f hts hw (fun c => h40 ((rk_o (by decide) (by decide) (by decide) _).mp c)), fun _ => rfl, fun n => absurd rfl n⟩
/-- the base does not look at the signs -/
def mz (x : Nat ⊕ (Nat × pp_S)) : Nat ⊕ (Nat × pp_S) := match x with
  | .inl p => .inl p
  | .inr z => .inr (z.1, pp_z z.2)
theorem pp_base_z (s : pp_S) : pp_base ts (pp_z s) = (pp_base ts s).map mz := by
  obtain ⟨pos, op, cc, tn, tl, wt, pn, scs, sd, sig, frm, rl, mn, dc, fc⟩ := s
  unfold pp_base
  have e1 : pp_ib ts (pp_z (pos, op, cc, tn, tl, wt, pn, scs, sd, sig, frm, rl, mn, dc, fc)) (pq_pos (pp_z (pos, op, cc, tn, tl, wt, pn, scs, sd, sig, frm, rl, mn, dc, fc))) = pp_ib ts (pos, op, cc, tn, tl, wt, pn, scs, sd, sig, frm, rl, mn, dc, fc) (pq_pos (pos, op, cc, tn, tl, wt, pn, scs, sd, sig, frm, rl, mn, dc, fc)) := rfl
  rw [e1]
  cases pp_ib ts (pos, op, cc, tn, tl, wt, pn, scs, sd, sig, frm, rl, mn, dc, fc) (pq_pos (pos, op, cc, tn, tl, wt, pn, scs, sd, sig, frm, rl, mn, dc, fc)) with
  | none => rfl
  | some b =>
    cases b with
    | false => rfl
    | true =>
      show pp_b (pp_tk ts (pp_z (pos, op, cc, tn, tl, wt, pn, scs, sd, sig, frm, rl, mn, dc, fc))) _ = (pp_b (pp_tk ts (pos, op, cc, tn, tl, wt, pn, scs, sd, sig, frm, rl, mn, dc, fc)) _).map mz
      have use_z : ∀ (t : Nat) (p1 o1 c1 : Nat), (if pp_k ts t = 2 then pp_use ts t ((p1, o1, c1, tn, tl, wt, pn, scs, sd, [], frm, rl, mn, dc, fc) : pp_S) else pp_ret t (p1, o1, c1, tn, tl, wt, pn, scs, sd, [], frm, rl, mn, dc, fc)) = (if pp_k ts t = 2 then pp_use ts t ((p1, o1, c1, tn, tl, wt, pn, scs, sd, sig, frm, rl, mn, dc, fc) : pp_S) else pp_ret t (p1, o1, c1, tn, tl, wt, pn, scs, sd, sig, frm, rl, mn, dc, fc)).map mz := by
        intro t p1 o1 c1
        split
        · unfold pp_use
          have e2 : pp_me ts ((p1, o1, c1, tn, tl, wt, pn, scs, sd, [], frm, rl, mn, dc, fc) : pp_S) t = pp_me ts ((p1, o1, c1, tn, tl, wt, pn, scs, sd, sig, frm, rl, mn, dc, fc) : pp_S) t := rfl
          rw [e2]
          cases pp_me ts ((p1, o1, c1, tn, tl, wt, pn, scs, sd, sig, frm, rl, mn, dc, fc) : pp_S) t with
          | none => rfl
          | some m =>
            cases m with
            | none => rfl
            | some k => rfl
        · rfl
      have e3 : pp_z (pos, op, cc, tn, tl, wt, pn, scs, sd, sig, frm, rl, mn, dc, fc) = (pos, op, cc, tn, tl, wt, pn, scs, sd, [], frm, rl, mn, dc, fc) := rfl
      rw [e3, pp_tk_t3, pp_tk_t3]
      cases t3 ts pos op cc with
      | none => rfl
      | some y =>
        cases y with
        | inl p => rfl
        | inr z => exact use_z pos z.1 z.2.1 z.2.2
theorem rq_z {st nm fs pl : Int32} {wl : List Int32} (hw : rq ts f2 f1 T (st, nm, fs, wl, pl) (I, A, J) s) : rq ts f2 f1 T (0, -1, fs, wl, pl) (ja_up (ja_up (ja_up I 0 30 0) 0 32 0) 0 33 (-1), A, J) (pp_z s) := by
  obtain ⟨pos, op, cc, tn, tl, wt, pn, scs, sd, sig, frm, rl, mn, dc, fc⟩ := s
  obtain ⟨hK, h0, hP, hT, hS, hN, hG, hF, hL, hX⟩ := hw
  exact ⟨hK, h0, hP, hT, hS, hN, ⟨rfl, Nat.zero_le _, hG.2.2.1, cq_h0 _ _⟩, hF, hL, rfl, rfl, hX.2.2⟩
/-- typeName: then is the task that ends it -/
theorem rl_52 (hts : pp_ok ts) {a : Int32} {st nm fs pl : Int32} {wl : List Int32} (hw : rq ts f2 f1 T (st, nm, fs, wl, pl) (I, A, J) s) (hl : T.length < 1190) (h40 : pp_at ts s = 40) {x : Nat ⊕ (Nat × pp_S)} (hx : (pp_b (pp_tk ts s) fun _ s => pp_base ts (pp_z s)) = some x) : ∃ (I1 A1 : ja_I) (J1 : ja_J), er_E (d + 6) 52 [.ref 0, .int a] (I, A, J) (.inl none) (I1, A1, J1) ∧ rO f2 f1 x (fun b s2 w => rq ts f2 f1 ((6, 2) :: (a, pp_bv ts s2 b) :: T) (0, -1, fs, wl, pl) w s2) (I1, A1, J1) := by
  have z1 : ∀ {p : Prop}, ((1 : Int32) = 0 → p) := fun h => absurd h (by decide)
  rcases pp_bE hx with ⟨p, hr, hp⟩ | ⟨t, s1, hr, hk⟩
  · obtain ⟨I3, A3, J3, hE3, hw3⟩ := rl_15 (d := d + 3) hts hw (by rw [h40]; rfl) hr
    obtain ⟨rfl, e⟩ := hw3
    subst hp
    cases e
    obtain ⟨b0, n0⟩ := rb_of hw
    have hE4 : er_E (d + 5) 21 [.ref 0] (rbk I, A, J) (.inl (some (.int (-1)))) (rbk I, A, J) := er_21 (r := (_, _)) ⟨fun c => z1 c, fun _ => ⟨fun c => z1 c, fun _ => rfl⟩⟩
    have b1 : rb f2 f1 (pq_pos s) (ja_up (ja_up (ja_up (rbk I) 0 30 0) 0 32 0) 0 33 (-1), A, J) := b0
    have n1 : rbn T.length 640 640 (ja_up (ja_up (ja_up (rbk I) 0 30 0) 0 32 0) 0 33 (-1), A, J) := ⟨n0.1, ⟨0, rfl, by omega⟩, n0.2.2⟩
    obtain ⟨I5, A5, J5, hE5, b5, n5⟩ := rl_11b (d := d + 4) b1 n1 (by omega) a (-1)
    obtain ⟨I6, A6, J6, hE6, b6, n6⟩ := rl_11b (d := d + 4) b5 n5 (by omega) 6 2
    exact ⟨_, _, _, er_52 (r := (_, _)) ⟨_, _, _, hE3, _, _, _, _, hE4, _, _, _, hE5, _, _, _, hE6, rfl⟩, b6⟩
  · obtain ⟨I3, A3, J3, hE3, hw3⟩ := rl_15 (d := d + 3) hts hw (by rw [h40]; rfl) hr
    have hw3' : rq ts f2 f1 T (st, nm, fs, wl, pl) (I3, A3, J3) s1 := hw3
    rw [pp_base_z] at hk
    cases hb : pp_base ts s1 with
    | none => rw [hb] at hk; cases hk
    | some y =>
      rw [hb] at hk
      obtain ⟨z, I4, A4, J4, hE4, hw4⟩ := rl_21 (d := d) hts hw3' hb
      cases y with
      | inl p =>
        cases hk
        obtain ⟨rfl, e⟩ := hw4
        cases e
        obtain ⟨b0, n0⟩ := rb_of hw3'
        have b1 : rb f2 f1 (pq_pos s1) (ja_up (ja_up (ja_up (rbk I3) 0 30 0) 0 32 0) 0 33 (-1), A3, J3) := b0
        have n1 : rbn T.length 640 640 (ja_up (ja_up (ja_up (rbk I3) 0 30 0) 0 32 0) 0 33 (-1), A3, J3) := ⟨n0.1, ⟨0, rfl, by omega⟩, n0.2.2⟩
        obtain ⟨I5, A5, J5, hE5, b5, n5⟩ := rl_11b (d := d + 4) b1 n1 (by omega) a z
        obtain ⟨I6, A6, J6, hE6, b6, n6⟩ := rl_11b (d := d + 4) b5 n5 (by omega) 6 2
        exact ⟨_, _, _, er_52 (r := (_, _)) ⟨_, _, _, hE3, _, _, _, _, hE4, _, _, _, hE5, _, _, _, hE6, rfl⟩, b6⟩
      | inr y =>
        cases hk
        obtain ⟨hz, hw4⟩ := hw4
        have hw5 := rq_z hw4
        obtain ⟨I5, A5, J5, hE5, hw6⟩ := rl_11 (d := d + 4) hw5 (by omega) a z
        obtain ⟨I6, A6, J6, hE6, hw7⟩ := rl_11 (d := d + 4) hw6 (by rw [List.length_cons]; omega) 6 2
        have ez : pp_bv ts (pp_z y.2) y.1 = z := by
          rw [hz]
          obtain ⟨b, pos, op, cc, tn, tl, wt, pn, scs, sd, sig, frm, rl, mn, dc, fc⟩ := y
          rfl
        refine ⟨_, _, _, er_52 (r := (_, _)) ⟨_, _, _, hE3, _, _, _, _, hE4, _, _, _, hE5, _, _, _, hE6, rfl⟩, ?_⟩
        show rq ts f2 f1 ((6, 2) :: (a, pp_bv ts (pp_z y.2) y.1) :: T) (0, -1, fs, wl, pl) (I6, A6, J6) (pp_z y.2)
        rw [ez]
        exact hw7
/-- the signs are laid aside -/
theorem rl_54l {Cc : ja_C} {W L : Nat} {g : Nat → Int32} (h1 : L ≤ 1200) (h2 : W + L < 2400) : ∀ (m i : Nat) (I A : ja_I) (J : ja_J), i + m = L → I 0 30 = nI L → I 0 35 = nI (W + i) → (∀ j, j < L → A 18 j = g j) → ∃ I' A' : ja_I, ja_R (ja_code tr_54) Cc (.inl none, (I', A', J)) 14 [some (.ref 0), none, some (.int (nI i))] [] (I, A, J) ∧ I' 0 35 = nI (W + L + 1) ∧ (∀ k, k ≠ 35 → I' 0 k = I 0 k) ∧ (∀ p, p ≠ 19 → A' p = A p) ∧ (∀ j, j < W + i → A' 19 j = A 19 j) ∧ (∀ j, i ≤ j → j < L → A' 19 (W + j) = g j) ∧ A' 19 (W + L) = nI L := by
  intro m
  induction m with
  | zero =>
    intro i I A J hi e30 e35 hg
    obtain rfl : i = L := by omega
    have c35 : (I 0 35).toNatClampNeg = W + i := cn_cl e35 (by omega)
    refine ⟨ja_up I 0 35 (I 0 35 + 1), ja_up A 19 (I 0 35).toNatClampNeg (I 0 30), br_54_14 ⟨fun _ => ⟨cn_in e35 (by omega) (by omega), rfl⟩, fun n => absurd (by rw [e30]; exact nI_le (Nat.le_refl _) (by omega)) n⟩, ?_, ?_, ?_, ?_, ?_, ?_⟩
    · show I 0 35 + 1 = _
      rw [e35, nI_1]
    · intro k hk
      show cond (Nat.beq 0 0 && Nat.beq k 35) _ (I 0 k) = I 0 k
      rw [show Nat.beq k 35 = false by exact nb_f hk]; rfl
    · intro p hp
      funext j
      show cond (Nat.beq p 19 && Nat.beq j _) _ (A p j) = A p j
      rw [show Nat.beq p 19 = false by exact nb_f hp]; rfl
    · intro j hj
      show cond (Nat.beq 19 19 && Nat.beq j _) _ (A 19 j) = A 19 j
      rw [c35, show Nat.beq j (W + i) = false by exact nb_f (by omega)]; rfl
    · intro j a b
      omega
    · show cond (Nat.beq (W + i) (I 0 35).toNatClampNeg) (I 0 30) _ = nI i
      rw [c35, Nat.beq_refl]
      exact e30
  | succ m ih =>
    intro i I A J hi e30 e35 hg
    have c35 : (I 0 35).toNatClampNeg = W + i := cn_cl e35 (by omega)
    have ci : (nI i).toNatClampNeg = i := nI_clamp (by omega)
    obtain ⟨I', A', hr, a1, a2, a3, a4, a5, a6⟩ := ih (i + 1) (ja_up I 0 35 (I 0 35 + 1)) (ja_up A 19 (W + i) (A 18 i)) J (by omega) e30 (by
      show I 0 35 + 1 = _
      rw [e35, nI_1, Nat.add_assoc]) hg
    refine ⟨I', A', ?_, a1, ?_, ?_, ?_, ?_, a6⟩
    · refine br_54_14 ⟨fun n => absurd n (by rw [e30]; exact nI_ge (by omega) (by omega)), fun _ => ⟨vp_in_nI (by omega) (by omega), cn_in e35 (by omega) (by omega), ?_⟩⟩
      rw [c35, ci, nI_1]
      exact hr
    · intro k hk
      rw [a2 k hk]
      show cond (Nat.beq 0 0 && Nat.beq k 35) _ (I 0 k) = I 0 k
      rw [show Nat.beq k 35 = false by exact nb_f hk]; rfl
    · intro p hp
      rw [a3 p hp]
      funext j
      show cond (Nat.beq p 19 && Nat.beq j (W + i)) _ (A p j) = A p j
      rw [show Nat.beq p 19 = false by exact nb_f hp]; rfl
    · intro j hj
      rw [a4 j (by omega)]
      show cond (Nat.beq 19 19 && Nat.beq j (W + i)) _ (A 19 j) = A 19 j
      rw [show Nat.beq j (W + i) = false by exact nb_f (by omega)]; rfl
    · intro j b1 b2
      by_cases hj : j = i
      · subst hj
        rw [a4 (W + j) (by omega)]
        show cond (Nat.beq (W + j) (W + j)) (A 18 j) _ = g j
        rw [Nat.beq_refl]
        exact hg j b2
      · exact a5 j (by omega) b2
/-- CAST_TYPE -/
theorem rl_54 (hts : pp_ok ts) {st nm fs pl : Int32} {wl : List Int32} {t : Nat} (hw : rq ts f2 f1 T (st, nm, fs, wl, pl) (I, A, J) s) (hwl : wl.length + 700 ≤ 2400) (hwb : pp_wb ts t s = some (.inr (v, s1))) {x : Nat ⊕ (Nat × pp_S)} (hx : pp_ex ts 41 s1 = some x) : ∃ (I1 A1 : ja_I) (J1 : ja_J), er_E (d + 4) 54 [.ref 0, .int (pp_bv ts s t)] (I, A, J) (.inl none) (I1, A1, J1) ∧ rO f2 f1 x (fun _ s2 w => rq ts f2 f1 T (st, nm, fs, wl ++ (pq_sig s2 ++ [nI (pq_sig s2).length]), pl) w s2) (I1, A1, J1) := by
  obtain ⟨I1, A1, J1, hE1, hw1⟩ := rl_25 (d := d + 1) hts hw hwb
  obtain ⟨I2, A2, J2, hE2, hw2⟩ := rl_16 (d := d + 1) hts hw1 (k := 41) (f := 1) (Or.inl ⟨rfl, rfl, rfl⟩) rfl hx
  cases x with
  | inl p =>
    obtain ⟨rfl, e⟩ := hw2
    cases e
    have e30 : (rbk I1) 0 30 = nI (pq_sig s1).length := hw1.2.2.2.2.2.2.1.1
    have e35 : (rbk I1) 0 35 = nI (wl.length + 0) := hw1.2.2.2.2.2.2.2.2.2.2.2.2.1
    have l1 : (pq_sig s1).length ≤ 640 := Nat.le_trans hw1.2.2.2.2.2.2.1.2.1 hw1.2.2.2.2.2.2.1.2.2.1
    obtain ⟨I', A', hr, a1, a2, a3, _⟩ := rl_54l (Cc := er_E (d + 3)) (W := wl.length) (L := (pq_sig s1).length) (g := fun j => A1 18 j) (by omega) (by omega) (pq_sig s1).length 0 (rbk I1) A1 J1 (by omega) e30 e35 (fun _ _ => rfl)
    have b0 := (rb_of hw1).1
    refine ⟨I', A', J1, er_54 (r := (_, _)) ⟨_, _, _, hE1, _, _, _, hE2, hr⟩, ⟨?_, ?_, ?_, ?_, b0.1.2.2.2.2⟩, ?_, ?_⟩
    · exact (a2 2 (by decide)).trans b0.1.1
    · exact (congrArg (fun f => f) (a3 1 (by decide))).trans b0.1.2.1
    · exact (a2 11 (by decide)).trans b0.1.2.2.1
    · exact (a2 0 (by decide)).trans b0.1.2.2.2.1
    · exact (a2 16 (by decide)).trans b0.2.1
    · exact (a2 10 (by decide)).trans b0.2.2
  | inr z =>
    have hw2' : rq ts f2 f1 T (st, nm, fs, wl, pl) (I2, A2, J2) z.2 := hw2
    obtain ⟨hK, h0, hP, hT, hS, hN, hG, hF, hL, hX⟩ := hw2'
    have e30 : I2 0 30 = nI (pq_sig z.2).length := hG.1
    have e35 : I2 0 35 = nI (wl.length + 0) := hX.2.2.2.1
    have l1 : (pq_sig z.2).length ≤ 640 := Nat.le_trans hG.2.1 hG.2.2.1
    have hg : ∀ j, j < (pq_sig z.2).length → A2 18 j = (pq_sig z.2).getD j 0 := by
      intro j hj
      have := hG.2.2.2 j hj
      rwa [Nat.zero_add] at this
    obtain ⟨I', A', hr, a1, a2, a3, a4, a5, a6⟩ := rl_54l (Cc := er_E (d + 3)) (W := wl.length) (L := (pq_sig z.2).length) (g := fun j => (pq_sig z.2).getD j 0) (by omega) (by omega) (pq_sig z.2).length 0 I2 A2 J2 (by omega) e30 e35 hg
    refine ⟨I', A', J2, er_54 (r := (_, _)) ⟨_, _, _, hE1, _, _, _, hE2, hr⟩, ?_⟩
    show rq ts f2 f1 T (st, nm, fs, wl ++ (pq_sig z.2 ++ [nI (pq_sig z.2).length]), pl) (I', A', J2) z.2
    refine ⟨?_, ?_, ?_, ?_, ?_, ?_, ?_, ?_, ?_, ?_⟩
    · show rq_K ts (I' 0 3) (A' 1) (A' 2) (A' 3) (A' 4)
      rw [a2 3 (by decide), a3 1 (by decide), a3 2 (by decide), a3 3 (by decide), a3 4 (by decide)]; exact hK
    · show I' 0 2 = f2 ∧ A' 1 = f1 ∧ I' 0 11 = 0 ∧ I' 0 0 = 0 ∧ I' 0 10 = -1 ∧ ts.length ≤ 160
      rw [a2 2 (by decide), a3 1 (by decide), a2 11 (by decide), a2 0 (by decide), a2 10 (by decide)]; exact h0
    · show I' 0 9 = nI (pq_pos z.2) ∧ pq_pos z.2 ≤ ts.length ∧ I' 0 15 = nI (pq_op z.2) ∧ pq_op z.2 ≤ 8 ∧ I' 0 16 = 0
      rw [a2 9 (by decide), a2 15 (by decide), a2 16 (by decide)]; exact hP
    · show I' 0 12 = nI T.length ∧ T.length ≤ 1200 ∧ rq_T (A' 7) (A' 8) T
      rw [a2 12 (by decide), a3 7 (by decide), a3 8 (by decide)]; exact hT
    · show rq_S (I' 0 18) (I' 0 17) (A' 9) (pq_scs z.2) (pq_sd z.2)
      rw [a2 18 (by decide), a2 17 (by decide), a3 9 (by decide)]; exact hS
    · show rq_N ts (I' 0 20) (I' 0 27) (A' 10) (A' 11) (A' 12) (A' 13) (A' 14) (A' 15) (A' 16) (J2 17) (pq_dc z.2)
      rw [a2 20 (by decide), a2 27 (by decide), a3 10 (by decide), a3 11 (by decide), a3 12 (by decide), a3 13 (by decide), a3 14 (by decide), a3 15 (by decide), a3 16 (by decide)]; exact hN
    · show rq_G (I' 0 30) (A' 18) (pq_tn z.2) (pq_sig z.2)
      rw [a2 30 (by decide), a3 18 (by decide)]; exact hG
    · show rq_G (I' 0 38) (A' 20) 640 (pq_frm z.2)
      rw [a2 38 (by decide), a3 20 (by decide)]; exact hF
    · show ∀ i, i < ts.length → A' 5 i = pq_rl z.2 i ∧ A' 6 i = pq_mn z.2 i
      rw [a3 5 (by decide), a3 6 (by decide)]; exact hL
    · have el : (wl ++ (pq_sig z.2 ++ [nI (pq_sig z.2).length])).length = wl.length + (pq_sig z.2).length + 1 := by
        rw [List.length_append, List.length_append, List.length_cons, List.length_nil]; omega
      refine ⟨(a2 32 (by decide)).trans hX.1, (a2 33 (by decide)).trans hX.2.1, (a2 34 (by decide)).trans hX.2.2.1, ?_, ?_, ?_, (a2 37 (by decide)).trans hX.2.2.2.2.2.2⟩
      · show I' 0 35 = nI (wl ++ (pq_sig z.2 ++ [nI (pq_sig z.2).length])).length
        rw [a1, el]
      · show (wl ++ (pq_sig z.2 ++ [nI (pq_sig z.2).length])).length ≤ 2400
        omega
      · show cq_h (A' 19) 0 (wl ++ (pq_sig z.2 ++ [nI (pq_sig z.2).length]))
        refine cq_ha.mpr ⟨fun i hi => ?_, cq_ha.mpr ⟨fun i hi => ?_, fun i hi => ?_⟩⟩
        · rw [Nat.zero_add, a4 i (by omega)]
          have := hX.2.2.2.2.2.1 i hi
          rwa [Nat.zero_add] at this
        · rw [Nat.zero_add]
          exact a5 i (Nat.zero_le _) hi
        · have : i = 0 := by simp at hi; exact hi
          subst this
          rw [Nat.zero_add, Nat.add_zero]
          exact a6
end
