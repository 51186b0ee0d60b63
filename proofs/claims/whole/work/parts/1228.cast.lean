section
variable {ts : List pp_T} {f0 f1 : Nat → Int32} {d : Nat} {C : pp_C}
theorem cl_67 (hts : pp_ok ts) {Q : List (Int32 × List Int32)} {s : pp_S} {I A : ja_I} {J : ja_J} (hw : cq ts f0 f1 Q (I, A, J) s) {b : Bool} (hb : pp_67 ts s = some b) : ec_E (d + 3) 67 [.ref 22] (I, A, J) (.inl (some (.int (bI b)))) (I, A, J) := by
  have h160 := hts.1
  have hp : pq_pos s ≤ ts.length := hw.2.2.1.2.2.2.1
  have e1 : I 20 1 = nI (pq_pos s) := hw.2.2.1.1
  refine ec_67 (r := (_, _)) ⟨pp_at ts s, I, A, J, cl_33 hw, ?_⟩
  unfold pp_67 at hb
  by_cases h1 : pp_at ts s = 45 ∨ pp_at ts s = 42 ∨ pp_at ts s = 38 ∨ pp_at ts s = 33 ∨ pp_at ts s = 12
  · rw [if_pos h1] at hb
    cases hb
    refine ⟨fun _ => rfl, fun n12 => ⟨fun _ => rfl, fun n33 => ⟨fun _ => rfl, fun n38 => ⟨fun n40 => ?_, fun _ => ⟨fun _ => rfl, fun n42 => ⟨fun _ => rfl, fun n45 => ?_⟩⟩⟩⟩⟩⟩
    · rcases h1 with h | h | h | h | h <;> exact absurd (h.symm.trans n40) (by decide)
    · rcases h1 with h | h | h | h | h
      · exact absurd h n45
      · exact absurd h n42
      · exact absurd h n38
      · exact absurd h n33
      · exact absurd h n12
  · rw [if_neg h1] at hb
    refine ⟨fun h => absurd (Or.inr (Or.inr (Or.inr (Or.inr h)))) h1, fun _ => ⟨fun h => absurd (Or.inr (Or.inr (Or.inr (Or.inl h)))) h1, fun _ => ⟨fun h => absurd (Or.inr (Or.inr (Or.inl h))) h1, fun _ => ⟨fun h => ?_, fun h => ⟨fun h => absurd (Or.inr (Or.inl h)) h1, fun _ => ⟨fun h => absurd (Or.inl h) h1, fun _ => ?_⟩⟩⟩⟩⟩⟩
    · rw [if_pos h] at hb
      refine ⟨bI b, I, A, J, ?_, ?_, rfl⟩
      · rw [e1, nI_1]
        exact cl_46 hts hw (by omega) hb
      · cases b
        · exact Or.inl rfl
        · exact Or.inr rfl
    · rw [if_neg h] at hb
      cases hb
      rfl
theorem cl_68 {k : Int32} (hk : cq_ch k) {w : ja_w} : ec_E (d + 1) 68 [.int k] w (.inl (some (.int (pp_68 k)))) w := by
  obtain ⟨I, A, J⟩ := w
  unfold pp_68
  refine ec_68 (r := (_, _)) ⟨fun h => ?_, fun n12 => ⟨fun h => ?_, fun n40 => ⟨fun h => ?_, fun n42 => ⟨fun h => ?_, fun n45 => ?_⟩⟩⟩⟩
  · rw [h]; rfl
  · rw [h]; rfl
  · rw [h]; rfl
  · rw [h]; rfl
  · rw [if_neg n40, if_neg n45, if_neg n42, if_neg n12, cq_i2c hk]
    exact ⟨hk, rfl⟩
theorem pp_68_ch {k : Int32} (hk : cq_ch k) : cq_ch (pp_68 k) := by
  unfold pp_68
  repeat' split
  all_goals first
    | exact hk
    | rfl
theorem cq_Qu {a23 a24 a25 f : Nat → Int32} {tn n : Nat} {x y z : Int32} : ∀ {Q : List (Int32 × List Int32)}, Q.length ≤ n → cq_Q a23 a24 a25 f tn Q → cq_Q (fun i => cond (Nat.beq i n) x (a23 i)) (fun i => cond (Nat.beq i n) y (a24 i)) (fun i => cond (Nat.beq i n) z (a25 i)) f tn Q
  | [], _, _ => trivial
  | q :: l, hn, h => by
    have hn' : l.length + 1 ≤ n := hn
    have e : Nat.beq l.length n = false := by exact nb_f (by omega)
    refine ⟨?_, ?_, h.2.2.1, cq_Qu (by omega) h.2.2.2⟩
    · show cond (Nat.beq l.length n) x (a23 l.length) = q.1
      rw [e]; exact h.1
    · show q.1 = 91 → cq_G f tn (cond (Nat.beq l.length n) y (a24 l.length)) (cond (Nat.beq l.length n) z (a25 l.length)) q.2
      rw [e]; exact h.2.1
theorem cl_69 {Q : List (Int32 × List Int32)} {s s1 : pp_S} {v : Nat} {I A : ja_I} {J : ja_J} (hw : cq ts f0 f1 Q (I, A, J) s) (hr : pp_pu s = some (.inr (v, s1))) {c a1 a2 : Int32} {ty : List Int32} (hc : cq_ch c) (hG : c = 91 → cq_G (A 19) (pq_tn s) a1 a2 ty) : ∃ (I1 A1 : ja_I) (J1 : ja_J), ec_E (d + 1) 69 [.ref 22, .int c, .int a1, .int a2] (I, A, J) (.inl none) (I1, A1, J1) ∧ cq ts f0 f1 ((c, ty) :: Q) (I1, A1, J1) s1 := by
  obtain ⟨pos, op, cc, tn, tl, wt, pn, scs, sd, sig, frm, rl, mn, dc, fc⟩ := s
  simp only [pp_pu] at hr
  split at hr
  · rename_i hb
    cases hr
    obtain ⟨hT, h0, hP, hF, hY, hN, hS, hL, hQ⟩ := hw
    have e : I 22 8 = nI Q.length := hQ.1
    have ep : Q.length = pn := hQ.2.1
    have ek : (I 22 8).toNatClampNeg = Q.length := cn_cl e (by omega)
    have v160 : vp_in (I 22 8) 160 := cn_in e (by omega) (by omega)
    refine ⟨_, _, _, ec_69 (r := (_, _)) ⟨fun h => absurd h ?_, fun _ => ⟨v160, v160, v160, rfl⟩⟩, hT, h0, hP, hF, hY, hN, hS, hL, ?_, ?_, ?_, ?_⟩
    · rw [e]; exact nI_ge (b := 160) (by omega) (by omega)
    · show I 22 8 + 1 = nI ((c, ty) :: Q).length
      rw [e, nI_1]; rfl
    · show ((c, ty) :: Q).length = pn + 1
      rw [List.length_cons, ep]
    · rw [List.length_cons]; omega
    · show cq_Q (fun i => cond (Nat.beq i (I 22 8).toNatClampNeg) (vp_nar .char c) (A 23 i)) (fun i => cond (Nat.beq i (I 22 8).toNatClampNeg) a1 (A 24 i)) (fun i => cond (Nat.beq i (I 22 8).toNatClampNeg) a2 (A 25 i)) (A 19) tn ((c, ty) :: Q)
      rw [ek, cq_chn hc]
      refine ⟨?_, ?_, hc, cq_Qu (Nat.le_refl _) hQ.2.2.2⟩
      · show cond (Nat.beq Q.length Q.length) c _ = c
        rw [Nat.beq_refl]; rfl
      · show c = 91 → cq_G (A 19) tn (cond (Nat.beq Q.length Q.length) a1 _) (cond (Nat.beq Q.length Q.length) a2 _) ty
        rw [Nat.beq_refl]; exact hG
  · cases hr
theorem cq_Qat {a23 a24 a25 f : Nat → Int32} {tn : Nat} {x : Int32 × List Int32} {l : List (Int32 × List Int32)} : ∀ {m : List (Int32 × List Int32)}, cq_Q a23 a24 a25 f tn (m ++ x :: l) → cq_Q a23 a24 a25 f tn (x :: l)
  | [], h => h
  | _ :: _, h => cq_Qat h.2.2.2
theorem cl_70l {Q : List (Int32 × List Int32)} : ∀ (l m : List (Int32 × List Int32)) (s : pp_S) (I A : ja_I) (J : ja_J), cq ts f0 f1 (m ++ (l ++ Q)) (I, A, J) s → ∀ x, pp_pf (pp_ou l) s = some x → ∃ y, ja_R (ja_code tc_70) (ec_E (d + 3)) y 7 [some (.ref 22), some (.int (nI Q.length)), some (.int (nI (l.length + Q.length) - 1))] [] (I, A, J) ∧ (∀ z, x = .inr z → y.1 = .inl none ∧ cq ts f0 f1 Q y.2 (pp_po Q.length z.2)) := by
  intro l
  induction l with
  | nil =>
    intro m s I A J hw x hx
    have hl : (m ++ ([] ++ Q)).length ≤ 160 := hw.2.2.2.2.2.2.2.2.2.2.1
    rw [List.length_append, List.nil_append] at hl
    have hx' : pp_pf [] s = some x := hx
    rw [pp_pf_0 hw] at hx'
    cases hx'
    refine cg_j (cg_t ?_ (cg_r ?_)) (fun y h => bc_70_7 h)
    · rw [List.length_nil, Nat.zero_add]
      rcases hq : Q.length with _ | n
      · decide
      · rw [nI_pred]; exact nI_lt (by omega) (by omega)
    · intro z hz
      cases hz
      obtain ⟨pos, op, cc, tn, tl, wt, pn, scs, sd, sig, frm, rl, mn, dc, fc⟩ := s
      obtain ⟨hT, h0, hP, hF, hY, hN, hS, hL, hQ⟩ := hw
      refine ⟨rfl, hT, h0, hP, hF, hY, hN, hS, hL, rfl, rfl, by omega, ?_⟩
      have := hQ.2.2.2
      rw [List.nil_append] at this
      cases Q with
      | nil => trivial
      | cons a b => exact cq_Qat this
  | cons q l ih =>
    intro m s I A J hw x hx
    have hl : (m ++ (q :: l ++ Q)).length ≤ 160 := hw.2.2.2.2.2.2.2.2.2.2.1
    rw [List.length_append, List.length_append, List.length_cons] at hl
    have e2 : nI ((q :: l).length + Q.length) - 1 = nI (l.length + Q.length) := by
      rw [List.length_cons, show l.length + 1 + Q.length = l.length + Q.length + 1 by omega, nI_pred]
    rw [e2]
    have ek : (nI (l.length + Q.length)).toNatClampNeg = (l ++ Q).length := by rw [nI_clamp (by omega), List.length_append]
    have v160 : vp_in (nI (l.length + Q.length)) 160 := vp_in_nI (by omega) (by omega)
    have at_ : ∀ {s : pp_S} {I A : ja_I} {J : ja_J}, cq ts f0 f1 (m ++ (q :: l ++ Q)) (I, A, J) s → cq_Q (A 23) (A 24) (A 25) (A 19) (pq_tn s) (q :: (l ++ Q)) := fun h => cq_Qat (m := m) h.2.2.2.2.2.2.2.2.2.2.2
    have hx' : pp_pf (q.1 :: ((if q.1 = 91 then q.2 ++ [93] else []) ++ pp_ou l)) s = some x := hx
    rw [pp_pf_c] at hx'
    have hc : cq_ch q.1 := (at_ hw).2.2.1
    have e23 : A 23 (nI (l.length + Q.length)).toNatClampNeg = q.1 := by rw [ek]; exact (at_ hw).1
    rcases pp_bE hx' with ⟨p, hr, hp⟩ | ⟨v, s1, hr, hk⟩
    · exact absurd hr (pp_pf_n _ _ _)
    · obtain ⟨I1, A1, J1, hE, hw1⟩ := (cl_17 (f0 := f0) (f1 := f1) (d := d + 2) hc s).2 _ _ hw v s1 hr
      refine cg_j (cg_f (nI_nlt (by omega) (by omega)) (cg_a v160 ?_)) (fun y h => bc_70_7 h)
      rw [e23]
      refine cg_V hE (cg_a v160 ?_)
      have e23' : A1 23 (nI (l.length + Q.length)).toNatClampNeg = q.1 := by rw [ek]; exact (at_ hw1).1
      rw [e23']
      have en : nI (l.length + Q.length) + -1 = nI (l.length + Q.length) - 1 := (Int32.sub_eq_add_neg _ _).symm
      have assoc : m ++ (q :: l ++ Q) = (m ++ [q]) ++ (l ++ Q) := by simp
      by_cases h91 : q.1 = 91
      · rw [if_pos h91, List.append_assoc, pp_pf_a] at hk
        refine cg_t h91 (cg_a v160 (cg_a v160 ?_))
        have hG := (at_ hw1).2.1 h91
        rcases pp_bE hk with ⟨p, hr2, hp⟩ | ⟨v2, s2, hr2, hk2⟩
        · exact absurd hr2 (pp_pf_n _ _ _)
        · obtain ⟨⟨o, w2⟩, hE2, ho⟩ := cl_19 (d := d + 1) (st := 0) hG hw1 hr2
          obtain ⟨h1, hw2⟩ := ho
          obtain rfl : o = .inl none := h1
          obtain ⟨I2, A2, J2⟩ := w2
          rw [List.singleton_append, pp_pf_c] at hk2
          rw [ek]
          refine cg_V hE2 ?_
          rcases pp_bE hk2 with ⟨p, hr3, hp⟩ | ⟨v3, s3, hr3, hk3⟩
          · exact absurd hr3 (pp_pf_n _ _ _)
          · obtain ⟨I3, A3, J3, hE3, hw3⟩ := (cl_17 (f0 := f0) (f1 := f1) (d := d + 2) (c := 93) rfl s2).2 _ _ hw2 v3 s3 hr3
            refine cg_V hE3 ?_
            rw [en]
            rw [assoc] at hw3
            exact ih (m ++ [q]) s3 I3 A3 J3 hw3 x hk3
      · rw [if_neg h91] at hk
        refine cg_f h91 ?_
        rw [en]
        rw [assoc] at hw1
        exact ih (m ++ [q]) s1 I1 A1 J1 hw1 x hk
theorem cl_70 {Q l : List (Int32 × List Int32)} {s : pp_S} {I A : ja_I} {J : ja_J} (hw : cq ts f0 f1 (l ++ Q) (I, A, J) s) {x : Nat × pp_S} (hx : pp_pf (pp_ou l) s = some (.inr x)) : ∃ (I1 A1 : ja_I) (J1 : ja_J), ec_E (d + 4) 70 [.ref 22, .int (nI Q.length)] (I, A, J) (.inl none) (I1, A1, J1) ∧ cq ts f0 f1 Q (I1, A1, J1) (pp_po Q.length x.2) := by
  obtain ⟨⟨o, I1, A1, J1⟩, h, k⟩ := cl_70l (d := d) (Q := Q) l [] s I A J hw _ hx
  obtain ⟨h1, h2⟩ := k x rfl
  obtain rfl : o = .inl none := h1
  have e : I 22 8 = nI (l.length + Q.length) := by
    have := hw.2.2.2.2.2.2.2.2.1
    rw [List.length_append] at this
    exact this
  rw [← e] at h
  exact ⟨I1, A1, J1, ec_70 (r := (_, _)) h, h2⟩
theorem cl_66a {Q l : List (Int32 × List Int32)} {p : Nat} {s : pp_S} {I A : ja_I} {J : ja_J} (hw : cq ts f0 f1 (l ++ Q) (I, A, J) s) {x : Nat ⊕ (Nat × pp_S)} (hx : (pp_b (pp_pf (pp_ou l) s) fun _ s => pp_ret (match l.getLast? with | none => p | some x => if x.1 = 64 then 1 else 0) (pp_po Q.length s)) = some x) : ∃ y : ja_O × ja_w, ((((I 22 8) ≤ (nI Q.length)) → ∃ (I1 A1 : ja_I) (J1 : ja_J), ec_E (d + 6) 70 [.ref 22, .int (nI Q.length)] (I, A, J) (.inl (none)) (I1, A1, J1) ∧ (y = (.inl (some (.int (nI p))), (I1, A1, J1)))) ∧ (¬ ((I 22 8) ≤ (nI Q.length)) → vp_in (nI Q.length) 160 ∧ ((((A 23 (nI Q.length).toNatClampNeg) = 64) → ∃ (I2 A2 : ja_I) (J2 : ja_J), ec_E (d + 6) 70 [.ref 22, .int (nI Q.length)] (I, A, J) (.inl (none)) (I2, A2, J2) ∧ (y = (.inl (some (.int 1)), (I2, A2, J2)))) ∧ (¬ ((A 23 (nI Q.length).toNatClampNeg) = 64) → ∃ (I3 A3 : ja_I) (J3 : ja_J), ec_E (d + 6) 70 [.ref 22, .int (nI Q.length)] (I, A, J) (.inl (none)) (I3, A3, J3) ∧ (y = (.inl (some (.int 0)), (I3, A3, J3))))))) ∧ cq_o ts f0 f1 Q vI x y := by
  rcases pp_bE hx with ⟨p', hr, hp⟩ | ⟨v, s1, hr, hk⟩
  · exact absurd hr (pp_pf_n _ _ _)
  · obtain ⟨I1, A1, J1, hE, hw1⟩ := cl_70 (d := d + 2) hw hr
    have e : I 22 8 = nI (l ++ Q).length := hw.2.2.2.2.2.2.2.2.1
    have h160 : (l ++ Q).length ≤ 160 := hw.2.2.2.2.2.2.2.2.2.2.1
    rw [List.length_append] at e h160
    cases hk
    cases hl : l.getLast? with
    | none =>
      obtain rfl : l = [] := List.getLast?_eq_none_iff.mp hl
      refine cg_t (by rw [e]; exact nI_le (by simp) (by omega)) (cg_V hE (cg_r ⟨rfl, hw1⟩))
    | some q =>
      obtain ⟨m, rfl⟩ : ∃ m, l = m ++ [q] := by
        obtain ⟨m, hm⟩ := List.getLast?_eq_some_iff.mp hl
        exact ⟨m, hm⟩
      have hq : cq_Q (A 23) (A 24) (A 25) (A 19) (pq_tn s) (q :: Q) := by
        have := hw.2.2.2.2.2.2.2.2.2.2.2
        rw [List.append_assoc] at this
        exact cq_Qat this
      have e23 : A 23 (nI Q.length).toNatClampNeg = q.1 := by rw [nI_clamp (by omega)]; exact hq.1
      rw [List.length_append, List.length_singleton] at e h160
      refine cg_f (by rw [e]; exact nI_ge (by omega) (by omega)) (cg_a (vp_in_nI (by omega) (by omega)) ?_)
      rw [e23]
      by_cases h64 : q.1 = 64
      · exact cg_t h64 (cg_V hE (cg_r ⟨by simp only [hl, h64]; rfl, hw1⟩))
      · exact cg_f h64 (cg_V hE (cg_r ⟨by simp only [hl, if_neg h64]; rfl, hw1⟩))
theorem cq_z {Q : List (Int32 × List Int32)} {w : ja_w} {s : pp_S} (hw : cq ts f0 f1 Q w s) : cq ts f0 f1 Q w (pp_z s) := by
  obtain ⟨pos, op, cc, tn, tl, wt, pn, scs, sd, sig, frm, rl, mn, dc, fc⟩ := s
  obtain ⟨hT, h0, hP, hF, hY, hN, hS, hL, hQ⟩ := hw
  exact ⟨hT, h0, hP, hF, ⟨hY.1, hY.2.1, Nat.zero_le _, cq_h0 _ _, fun c hc => absurd hc List.not_mem_nil⟩, hN, hS, hL, hQ⟩
theorem cl_66t (H : cq_H ts f0 f1 (ec_E (d + 6)) C) {Q l : List (Int32 × List Int32)} {b : Bool} {m n : Nat} {s : pp_S} {I A : ja_I} {J : ja_J} (hw : cq ts f0 f1 (l ++ Q) (I, A, J) s) {x : Nat ⊕ (Nat × pp_S)} (hx : (pp_b (if b then pp_c C 71 0 0 m n s else pp_ret 0 s) fun p s => pp_01 p <| pp_b (pp_pf (pp_ou l) s) fun _ s => pp_ret (match l.getLast? with | none => p | some x => if x.1 = 64 then 1 else 0) (pp_po Q.length s)) = some x) : ∃ y : ja_O × ja_w, ((((bI b) = 0) → (((I 22 8) ≤ (nI Q.length)) → ∃ (I1 A1 : ja_I) (J1 : ja_J), ec_E (d + 6) 70 [.ref 22, .int (nI Q.length)] (I, A, J) (.inl (none)) (I1, A1, J1) ∧ (y = (.inl (some (.int 0)), (I1, A1, J1)))) ∧ (¬ ((I 22 8) ≤ (nI Q.length)) → vp_in (nI Q.length) 160 ∧ ((((A 23 (nI Q.length).toNatClampNeg) = 64) → ∃ (I2 A2 : ja_I) (J2 : ja_J), ec_E (d + 6) 70 [.ref 22, .int (nI Q.length)] (I, A, J) (.inl (none)) (I2, A2, J2) ∧ (y = (.inl (some (.int 1)), (I2, A2, J2)))) ∧ (¬ ((A 23 (nI Q.length).toNatClampNeg) = 64) → ∃ (I3 A3 : ja_I) (J3 : ja_J), ec_E (d + 6) 70 [.ref 22, .int (nI Q.length)] (I, A, J) (.inl (none)) (I3, A3, J3) ∧ (y = (.inl (some (.int 0)), (I3, A3, J3))))))) ∧ (¬ ((bI b) = 0) → (∃ (z4 : Int32) (I4 A4 : ja_I) (J4 : ja_J), ec_E (d + 6) 71 [.ref 22] (I, A, J) (.inl (some (.int z4))) (I4, A4, J4) ∧ (((z4 = 0) → (((I4 22 8) ≤ (nI Q.length)) → ∃ (I5 A5 : ja_I) (J5 : ja_J), ec_E (d + 6) 70 [.ref 22, .int (nI Q.length)] (I4, A4, J4) (.inl (none)) (I5, A5, J5) ∧ (y = (.inl (some (.int 0)), (I5, A5, J5)))) ∧ (¬ ((I4 22 8) ≤ (nI Q.length)) → vp_in (nI Q.length) 160 ∧ ((((A4 23 (nI Q.length).toNatClampNeg) = 64) → ∃ (I6 A6 : ja_I) (J6 : ja_J), ec_E (d + 6) 70 [.ref 22, .int (nI Q.length)] (I4, A4, J4) (.inl (none)) (I6, A6, J6) ∧ (y = (.inl (some (.int 1)), (I6, A6, J6)))) ∧ (¬ ((A4 23 (nI Q.length).toNatClampNeg) = 64) → ∃ (I7 A7 : ja_I) (J7 : ja_J), ec_E (d + 6) 70 [.ref 22, .int (nI Q.length)] (I4, A4, J4) (.inl (none)) (I7, A7, J7) ∧ (y = (.inl (some (.int 0)), (I7, A7, J7))))))) ∧ (¬ (z4 = 0) → (((I4 22 8) ≤ (nI Q.length)) → ∃ (I8 A8 : ja_I) (J8 : ja_J), ec_E (d + 6) 70 [.ref 22, .int (nI Q.length)] (I4, A4, J4) (.inl (none)) (I8, A8, J8) ∧ (y = (.inl (some (.int 1)), (I8, A8, J8)))) ∧ (¬ ((I4 22 8) ≤ (nI Q.length)) → vp_in (nI Q.length) 160 ∧ ((((A4 23 (nI Q.length).toNatClampNeg) = 64) → ∃ (I9 A9 : ja_I) (J9 : ja_J), ec_E (d + 6) 70 [.ref 22, .int (nI Q.length)] (I4, A4, J4) (.inl (none)) (I9, A9, J9) ∧ (y = (.inl (some (.int 1)), (I9, A9, J9)))) ∧ (¬ ((A4 23 (nI Q.length).toNatClampNeg) = 64) → ∃ (I10 A10 : ja_I) (J10 : ja_J), ec_E (d + 6) 70 [.ref 22, .int (nI Q.length)] (I4, A4, J4) (.inl (none)) (I10, A10, J10) ∧ (y = (.inl (some (.int 0)), (I10, A10, J10))))))))) ∨ (∃ (x11 : Nat) (w11 : ja_w), ec_E (d + 6) 71 [.ref 22] (I, A, J) (.inr x11) w11 ∧ y = (.inr x11, w11)))) ∧ cq_o ts f0 f1 Q vI x y := by
  cases b with
  | false =>
    refine cg_t rfl ?_
    exact cl_66a (p := 0) hw hx
  | true =>
    refine cg_f (by decide) (cg_bI (cq_c H.2.2.2.2.2.2.2.2.2.1 m n s) hw hx fun p s1 I1 A1 J1 _ hw1 hx => ?_)
    unfold pp_01 at hx
    split at hx
    · rename_i hp
      rcases p with _ | p
      · exact cg_t rfl (cl_66a (p := 0) hw1 hx)
      · obtain rfl : p = 0 := by omega
        exact cg_f (by decide) (cl_66a (p := 1) hw1 hx)
    · cases hx
theorem pp_k_ch (hts : pp_ok ts) (t : Nat) : cq_ch (pp_k ts t) := by
  by_cases h : t < ts.length
  · exact (hts.2 t h).2.1
  · rw [pp_k_ge (by omega)]; rfl
theorem cl_66l (hts : pp_ok ts) (H : cq_H ts f0 f1 (ec_E (d + 6)) C) {Q : List (Int32 × List Int32)} : ∀ (m i : Nat) (l : List (Int32 × List Int32)) (bs b : Bool) (s : pp_S) (I A : ja_I) (J : ja_J), i + m = 160 → cq ts f0 f1 (l ++ Q) (I, A, J) s → ∀ x, pp_b (pp_w (fun (a : pp_A) s => if a.2.2 then pp_67 ts s else some false) (pp_66b ts C) m (l, bs, b) s) (fun a s => pp_b (if a.2.2 then pp_c C 71 0 0 (2 * a.1.length) (pp_wl a.1) s else pp_ret 0 s) fun p s => pp_01 p <| pp_b (pp_pf (pp_ou a.1) s) fun _ s => pp_ret (match a.1.getLast? with | none => p | some x => if x.1 = 64 then 1 else 0) (pp_po Q.length s)) = some x → ∃ y, ja_R (ja_code tc_66) (ec_E (d + 6)) y 12 [some (.ref 22), some (.int (nI Q.length)), some (.int (bI bs)), some (.int (bI b)), some (.int (nI i)), none, none] [] (I, A, J) ∧ cq_o ts f0 f1 Q vI x y := by
  intro m
  induction m with
  | zero =>
    intro i l bs b s I A J hi hw x hx
    simp only [pp_w] at hx
    refine cg_j (cg_t (nI_le (a := 160) (by omega) (by omega)) ?_) (fun y h => bc_66_12 h)
    cases hb : (if b then pp_67 ts s else some false) with
    | none => rw [hb] at hx; cases hx
    | some c =>
      rw [hb] at hx
      cases c with
      | true => cases hx
      | false => exact cl_66t H hw hx
  | succ m ih =>
    intro i l bs b s I A J hi hw x hx
    simp only [pp_w] at hx
    refine cg_j (cg_f (nI_ge (b := 160) (by omega) (by omega)) ?_) (fun y h => bc_66_12 h)
    cases b with
    | false => exact cg_t rfl (cl_66t (b := false) (m := 0) (n := 0) H hw hx)
    | true =>
      refine cg_f (by decide) ?_
      simp only [if_true] at hx
      cases hb : pp_67 ts s with
      | none => rw [hb] at hx; cases hx
      | some c =>
        rw [hb] at hx
        refine cg_I (cl_67 hts hw hb) ?_
        cases c with
        | false => exact cg_t rfl (cl_66t (b := true) H hw hx)
        | true =>
          refine cg_f (by decide) (cg_I (cl_33 hw) (cg_I (cl_68 (pp_k_ch hts _)) ?_))
          simp only at hx
          rw [pp_bb] at hx
          unfold pp_66b at hx
          split at hx
          rotate_left
          · cases hx
          rw [pp_bb] at hx
          have e8 : ∀ {I A : ja_I} {J : ja_J} {Q : List (Int32 × List Int32)} {s : pp_S}, cq ts f0 f1 Q (I, A, J) s → I 8 1 = nI (pq_tn s) := fun h => h.2.2.2.2.1.1
          by_cases h91 : pp_68 (pp_at ts s) = 91
          · have h12 : ¬ pp_at ts s = 12 := fun h => by rw [h] at h91; exact absurd h91 (by decide)
            refine cg_t h91 ?_
            have key : ∀ (g : Bool), (!bs) = g → ∃ y : ja_O × ja_w, (∃ (z37 : Int32) (I37 A37 : ja_I) (J37 : ja_J), ec_E (d + 6) 35 [.ref 20, .int 12] (I, A, J) (.inl (some (.int z37))) (I37, A37, J37) ∧ ((∃ (z38 : Int32) (I38 A38 : ja_I) (J38 : ja_J), ec_E (d + 6) 37 [.ref 20] (I37, A37, J37) (.inl (some (.int z38))) (I38, A38, J38) ∧ ((((pp_68 (pp_at ts s)) = 91) → (∃ (I39 A39 : ja_I) (J39 : ja_J), ec_E (d + 6) 55 [.ref 21, .int 2] (I38, A38, J38) (.inl (none)) (I39, A39, J39) ∧ ((∃ (z40 : Int32) (I40 A40 : ja_I) (J40 : ja_J), ec_E (d + 6) 38 [.ref 20, .int 41] (I39, A39, J39) (.inl (some (.int z40))) (I40, A40, J40) ∧ (∃ (I41 A41 : ja_I) (J41 : ja_J), ec_E (d + 6) 69 [.ref 22, .int (pp_68 (pp_at ts s)), .int (I38 8 1), .int (I40 8 1)] (I40, A40, J40) (.inl (none)) (I41, A41, J41) ∧ (ja_R (ja_code tc_66) (ec_E (d + 6)) y 12 [some (.ref 22), some (.int (nI Q.length)), some (.int z37), some (.int (bI g)), some (.int ((nI i) + 1)), none, none] [] (I41, A41, J41)))) ∨ (∃ (x42 : Nat) (w42 : ja_w), ec_E (d + 6) 38 [.ref 20, .int 41] (I39, A39, J39) (.inr x42) w42 ∧ y = (.inr x42, w42)))) ∨ (∃ (x43 : Nat) (w43 : ja_w), ec_E (d + 6) 55 [.ref 21, .int 2] (I38, A38, J38) (.inr x43) w43 ∧ y = (.inr x43, w43))) ∧ (¬ ((pp_68 (pp_at ts s)) = 91) → ∃ (I44 A44 : ja_I) (J44 : ja_J), ec_E (d + 6) 69 [.ref 22, .int (pp_68 (pp_at ts s)), .int (I38 8 1), .int (I38 8 1)] (I38, A38, J38) (.inl (none)) (I44, A44, J44) ∧ (ja_R (ja_code tc_66) (ec_E (d + 6)) y 12 [some (.ref 22), some (.int (nI Q.length)), some (.int z37), some (.int (bI g)), some (.int ((nI i) + 1)), none, none] [] (I44, A44, J44))))) ∨ (∃ (x45 : Nat) (w45 : ja_w), ec_E (d + 6) 37 [.ref 20] (I37, A37, J37) (.inr x45) w45 ∧ y = (.inr x45, w45)))) ∧ cq_o ts f0 f1 Q vI x y := by
              intro g hg
              have h35 := cl_35 (d := d + 5) hw 12
              rw [show (pp_at ts s == 12) = false from beq_eq_false_iff_ne.mpr h12] at h35
              refine cg_I h35 (cg_bI (cl_37 hts s) hw hx fun t s1 I1 A1 J1 hr1 hw1 hx => ?_)
              rw [pp_tk_k hr1, if_pos h91] at hx
              refine cg_t h91 ?_
              split at hx
              · rw [pp_bb] at hx
                refine cg_bV (cq_c (fun s => H.2.1 2 s (by omega)) _ _ (pp_z s1)) (cq_z hw1) hx fun _ s2 I2 A2 J2 _ hw2 hx => ?_
                rw [pp_bb] at hx
                refine cg_bI (cl_38 hts 41 s2) hw2 hx fun _ s3 I3 A3 J3 _ hw3 hx => ?_
                split at hx
                · rename_i hg2
                  rw [pp_bb] at hx
                  rcases pp_bE hx with ⟨p, hr, hp⟩ | ⟨v, s4, hr, hk⟩
                  · obtain ⟨pos, op, cc, tn, tl, wt, pn, r⟩ := s3
                    simp only [pp_pu] at hr
                    split at hr <;> cases hr
                  · have hY := hw3.2.2.2.2.1
                    have hG : cq_G (A3 19) (pq_tn s3) (I1 8 1) (I3 8 1) (pq_sig s3) := by
                      refine ⟨pq_tn s1, e8 hw1, by rw [e8 hw3, hg2], by rw [hg2]; exact Nat.le_refl _, ?_, hY.2.2.2.2⟩
                      have := hY.2.2.2.1
                      rwa [hg2, Nat.add_sub_cancel] at this
                    obtain ⟨I4, A4, J4, hE4, hw4⟩ := cl_69 (d := d + 5) hw3 hr (c := pp_68 (pp_at ts s)) (a1 := I1 8 1) (a2 := I3 8 1) (ty := pq_sig s3) (by rw [h91]; rfl) (fun _ => hG)
                    refine cg_V hE4 ?_
                    rw [nI_1]
                    rw [h91] at hw4
                    have hsig : pq_sig s4 = pq_sig s3 := by
                      obtain ⟨pos, op, cc, tn, tl, wt, pn, r⟩ := s3
                      simp only [pp_pu] at hr
                      split at hr
                      · cases hr; rfl
                      · cases hr
                    rw [hsig, hg] at hk
                    exact ih (i + 1) ((91, pq_sig s3) :: l) false g s4 I4 A4 J4 (by omega) hw4 x hk
                · cases hx
              · cases hx
            cases bs with
            | false => exact cg_t rfl (key true rfl)
            | true => exact cg_f (by decide) (key false rfl)
          · refine cg_f h91 ?_
            refine cg_I (cl_35 hw 12) (cg_bI (cl_37 hts s) hw hx fun t s1 I1 A1 J1 hr1 hw1 hx => ?_)
            rw [pp_tk_k hr1, if_neg h91, pp_bb] at hx
            refine cg_f h91 ?_
            rcases pp_bE hx with ⟨p, hr, hp⟩ | ⟨v, s4, hr, hk⟩
            · obtain ⟨pos, op, cc, tn, tl, wt, pn, r⟩ := s1
              simp only [pp_pu] at hr
              split at hr <;> cases hr
            · obtain ⟨I4, A4, J4, hE4, hw4⟩ := cl_69 (d := d + 5) hw1 hr (c := pp_68 (pp_at ts s)) (a1 := I1 8 1) (a2 := I1 8 1) (ty := []) (pp_68_ch (pp_k_ch hts _)) (fun h => absurd h h91)
              refine cg_V hE4 ?_
              rw [nI_1]
              exact ih (i + 1) ((pp_68 (pp_at ts s), []) :: l) (pp_at ts s == 12) true s4 I4 A4 J4 (by omega) hw4 x hk
theorem cl_66 (hts : pp_ok ts) (H : cq_H ts f0 f1 (ec_E (d + 6)) C) (s : pp_S) : cq_M ts f0 f1 (ec_E (d + 7)) 66 [.ref 22] vI s (pp_66 ts C s) := by
  rintro Q ⟨I, A, J⟩ hw x hx
  have e : I 22 8 = nI Q.length := hw.2.2.2.2.2.2.2.2.1
  have ep : Q.length = pq_pn s := hw.2.2.2.2.2.2.2.2.2.1
  refine cg_j ?_ (fun y h => ec_66 (r := y) h)
  rw [e]
  unfold pp_66 at hx
  rw [← ep] at hx
  exact cl_66l hts H 160 0 [] false true s I A J (by omega) hw x hx
end
