theorem rq_Lu {n : Nat} {a9 a10 rl mn : Nat → Int32} (h : ∀ i, i < n → a9 i = rl i ∧ a10 i = mn i) {t k k' : Nat} {x y : Int32} (hk : k = t) (hk' : k' = t) : ∀ i, i < n → (fun i => cond (Nat.beq i k) x (a9 i)) i = pp_fu rl t x i ∧ (fun i => cond (Nat.beq i k') y (a10 i)) i = pp_fu mn t y i := by
  subst hk; subst hk'
  intro i hi
  show cond (Nat.beq i k') x (a9 i) = (if i = k' then x else rl i) ∧ cond (Nat.beq i k') y (a10 i) = (if i = k' then y else mn i)
  by_cases e : i = k'
  · rw [if_pos e, if_pos e, e, Nat.beq_refl]; exact ⟨rfl, rfl⟩
  · rw [if_neg e, if_neg e, show Nat.beq i k' = false by exact nb_f e]; exact h i hi
theorem rq_Gp {n c : Int32} {f : Nat → Int32} {l : List Int32} {k tn : Nat} (h : rq_G n f tn l) (hl : tn + 1 ≤ 640) (hk : k = l.length) : rq_G (n + 1) (fun i => cond (Nat.beq i k) c (f i)) (tn + 1) (l ++ [c]) := by
  obtain ⟨h1, h2, h3, h4⟩ := h
  exact ⟨by rw [h1, nI_1, List.length_append]; rfl, by rw [List.length_append]; simp only [List.length_cons, List.length_nil]; omega, hl, cq_ha.mpr ⟨cq_hu h4 (by omega), cq_h1 (by omega)⟩⟩
theorem rq_Ga {n c : Int32} {f : Nat → Int32} {l : List Int32} {k tn : Nat} (h : rq_G n f tn l) (hl : l.length + 1 ≤ tn) (hk : k = l.length) : rq_G (n + 1) (fun i => cond (Nat.beq i k) c (f i)) tn (l ++ [c]) := by
  obtain ⟨h1, h2, h3, h4⟩ := h
  exact ⟨by rw [h1, nI_1, List.length_append]; rfl, by rw [List.length_append]; simp only [List.length_cons, List.length_nil]; omega, h3, cq_ha.mpr ⟨cq_hu h4 (by omega), cq_h1 (by omega)⟩⟩
section
variable {ts : List pp_T} {f2 : Int32} {f1 : Nat → Int32} {d : Nat} {T : rq_A} {X : rq_X} {I A : ja_I} {J : ja_J} {s s1 : pp_S} {v : Nat}
/-- a token of its own kind is passed -/
theorem rq_tk (hw : rq ts f2 f1 T X (I, A, J) s) (hx : pp_tk ts s = some (.inr (v, s1))) (ho : pp_opens (pp_at ts s) = false) (hs : pp_shuts (pp_at ts s) = false) : rq ts f2 f1 T X (ja_up I 0 9 (I 0 9 + 1), A, J) s1 := by
  have e9 : I 0 9 = nI (pq_pos s) := hw.2.2.1.1
  obtain ⟨pos, op, cc, tn, tl, wt, pn, scs, sd, sig, frm, rl, mn, dc, fc⟩ := s
  have ho' : pp_opens (pp_k ts pos) = false := ho
  have hs' : pp_shuts (pp_k ts pos) = false := hs
  simp only [pp_tk, ho', hs'] at hx
  split at hx
  · cases hx
  · split at hx
    · cases hx
    · rw [if_neg (by decide), if_neg (by decide)] at hx
      cases hx
      obtain ⟨hK, h0, hP, hR⟩ := hw
      exact ⟨hK, h0, ⟨(congrArg (· + 1) e9).trans (nI_1 _), by show v + 1 ≤ ts.length; omega, hP.2.2⟩, hR⟩
theorem pp_tk_n {p : Nat} (ho : pp_opens (pp_at ts s) = false) : pp_tk ts s ≠ some (.inl p) := by
  obtain ⟨pos, op, cc, tn, tl, wt, pn, scs, sd, sig, frm, rl, mn, dc, fc⟩ := s
  have ho' : pp_opens (pp_k ts pos) = false := ho
  intro h
  simp only [pp_tk, ho'] at h
  repeat' split at h
  all_goals first
    | (cases h; done)
    | contradiction
/-- say -/
theorem rl_26 (hw : rq ts f2 f1 T X (I, A, J) s) {c : Int32} (hx : pp_pf [c] s = some (.inr (v, s1))) : ∃ (I1 A1 : ja_I) (J1 : ja_J), (er_E (d + 1) 26 [.ref 0, .int c] (I, A, J) (.inl none) (I1, A1, J1) ∧ A1 1 = A 1 ∧ A1 18 = A 18 ∧ A1 19 = A 19) ∧ rq ts f2 f1 T X (I1, A1, J1) s1 := by
  obtain ⟨pos, op, cc, tn, tl, wt, pn, scs, sd, sig, frm, rl, mn, dc, fc⟩ := s
  simp only [pp_pf, List.length_cons, List.length_nil] at hx
  split at hx
  · rename_i hb
    cases hx
    obtain ⟨hK, h0, hP, hT, hS, hN, hG, hF, hL, hX⟩ := hw
    have e : I 0 38 = nI frm.length := hF.1
    refine ⟨_, _, _, ⟨er_26 (r := (_, _)) ⟨cn_in e (by omega) (by omega), rfl⟩, rfl, rfl, rfl⟩, hK, h0, hP, hT, hS, hN, hG, ?_, hL, hX⟩
    exact rq_Ga hF (by show frm.length + 1 ≤ 640; omega) (cn_cl e (by omega))
  · cases hx
/-- mark -/
theorem rl_24 (hw : rq ts f2 f1 T X (I, A, J) s) {c : Int32} (hx : pp_pt [c] s = some (.inr (v, s1))) : ∃ (I1 A1 : ja_I) (J1 : ja_J), er_E (d + 1) 24 [.ref 0, .int c] (I, A, J) (.inl none) (I1, A1, J1) ∧ rq ts f2 f1 T X (I1, A1, J1) s1 := by
  obtain ⟨pos, op, cc, tn, tl, wt, pn, scs, sd, sig, frm, rl, mn, dc, fc⟩ := s
  simp only [pp_pt, List.length_cons, List.length_nil] at hx
  split at hx
  · rename_i hb
    cases hx
    obtain ⟨hK, h0, hP, hT, hS, hN, hG, hF, hL, hX⟩ := hw
    have e : I 0 30 = nI sig.length := hG.1
    have l1 : sig.length ≤ tn := hG.2.1
    refine ⟨_, _, _, er_24 (r := (_, _)) ⟨cn_in e (by omega) (by omega), rfl⟩, hK, h0, hP, hT, hS, hN, ?_, hF, hL, hX⟩
    exact rq_Gp hG (by omega) (cn_cl e (by omega))
  · cases hx
theorem rl_24b {p a b c : Nat} (hw : rb f2 f1 p (I, A, J)) (hn : rbn a b c (I, A, J)) (hl : b < 1200) (x : Int32) : ∃ (I1 A1 : ja_I) (J1 : ja_J), er_E (d + 1) 24 [.ref 0, .int x] (I, A, J) (.inl none) (I1, A1, J1) ∧ rb f2 f1 p (I1, A1, J1) ∧ rbn a (b + 1) c (I1, A1, J1) := by
  obtain ⟨h1, ⟨m, e, l⟩, h3⟩ := hn
  have e' : I 0 30 = nI m := e
  refine ⟨_, _, _, er_24 (r := (_, _)) ⟨cn_in e' (by omega) (by omega), rfl⟩, hw, h1, ⟨m + 1, ?_, by omega⟩, h3⟩
  show I 0 30 + 1 = nI (m + 1)
  rw [e', nI_1]
theorem rl_26b {p a b c : Nat} (hw : rb f2 f1 p (I, A, J)) (hn : rbn a b c (I, A, J)) (hl : c < 4000) (x : Int32) : ∃ (I1 A1 : ja_I) (J1 : ja_J), er_E (d + 1) 26 [.ref 0, .int x] (I, A, J) (.inl none) (I1, A1, J1) ∧ rb f2 f1 p (I1, A1, J1) ∧ rbn a b (c + 1) (I1, A1, J1) := by
  obtain ⟨h1, h2, ⟨m, e, l⟩⟩ := hn
  have e' : I 0 38 = nI m := e
  refine ⟨_, _, _, er_26 (r := (_, _)) ⟨cn_in e' (by omega) (by omega), rfl⟩, hw, h1, h2, ⟨m + 1, ?_, by omega⟩⟩
  show I 0 38 + 1 = nI (m + 1)
  rw [e', nI_1]
/-- openScope -/
theorem rl_22 (hw : rq ts f2 f1 T X (I, A, J) s) {q : Nat} (hx : pp_os q s = some (.inr (v, s1))) : ∃ (I1 A1 : ja_I) (J1 : ja_J), er_E (d + 1) 22 [.ref 0, .int (nI q)] (I, A, J) (.inl none) (I1, A1, J1) ∧ rq ts f2 f1 T X (I1, A1, J1) s1 := by
  obtain ⟨pos, op, cc, tn, tl, wt, pn, scs, sd, sig, frm, rl, mn, dc, fc⟩ := s
  simp only [pp_os] at hx
  split at hx
  · rename_i hb
    cases hx
    obtain ⟨hK, h0, hP, hT, hS, hN, hR⟩ := hw
    have e : I 0 18 = nI scs.length := hS.1
    have ek : (I 0 18).toNatClampNeg = scs.length := cn_cl e (by omega)
    have el : (scs ++ [q]).length = scs.length + 1 := by rw [List.length_append]; rfl
    refine ⟨_, _, _, er_22 (r := (_, _)) ⟨cn_in e (by omega) (by omega), rfl⟩, hK, h0, hP, hT, ⟨?_, hS.2.1, ?_, hS.2.2.2.1, ?_⟩, hN, hR⟩
    · show I 0 18 + 1 = _
      rw [e, nI_1]; exact congrArg nI el.symm
    · show (scs ++ [q]).length ≤ 9
      omega
    · intro i q' hi
      show cond (Nat.beq i (I 0 18).toNatClampNeg) (nI q) (A 9 i) = nI q' ∧ q' < 1000
      rw [ek]
      have hi' : (scs ++ [q])[i]? = some q' := hi
      by_cases hl : i < scs.length
      · rw [List.getElem?_append_left hl] at hi'
        rw [show Nat.beq i scs.length = false by exact nb_f (by omega)]
        exact hS.2.2.2.2 i q' hi'
      · rw [List.getElem?_append_right (by omega)] at hi'
        have hl2 : i = scs.length := by
          have : i - scs.length < [q].length := (List.getElem?_eq_some_iff.mp hi').1
          simp only [List.length_cons, List.length_nil] at this; omega
        subst hl2
        rw [Nat.sub_self] at hi'
        have : q = q' := by simpa using hi'
        subst this
        rw [Nat.beq_refl]
        exact ⟨rfl, hb.2⟩
  · cases hx
/-- newScope -/
theorem rl_23 (hw : rq ts f2 f1 T X (I, A, J) s) (hx : pp_ns s = some (.inr (v, s1))) : ∃ (I1 A1 : ja_I) (J1 : ja_J), er_E (d + 1) 23 [.ref 0] (I, A, J) (.inl (some (.int (nI v)))) (I1, A1, J1) ∧ rq ts f2 f1 T X (I1, A1, J1) s1 := by
  obtain ⟨pos, op, cc, tn, tl, wt, pn, scs, sd, sig, frm, rl, mn, dc, fc⟩ := s
  simp only [pp_ns] at hx
  split at hx
  · rename_i hb
    cases hx
    obtain ⟨hK, h0, hP, hT, hS, hN, hR⟩ := hw
    have e : I 0 17 = nI sd.length := hS.2.1
    have e2 : (I 0 17 + 1) - 1 = nI sd.length := by rw [e, nI_1, nI_pred]
    refine ⟨ja_up I 0 17 ((I 0 17) + 1), A, J, er_23 (r := (_, _)) (by rw [e2]), hK, h0, hP, hT, ⟨hS.1, ?_, hS.2.2.1, ?_, hS.2.2.2.2⟩, hN, hR⟩
    · show I 0 17 + 1 = _
      rw [e, nI_1]
      exact congrArg nI (List.length_append (as := sd) (bs := [scs.length + 1])).symm
    · show (sd ++ [scs.length + 1]).length ≤ 1000
      rw [List.length_append]; simp only [List.length_cons, List.length_nil]; omega
  · cases hx
theorem pp_me_s {s s1 : pp_S} (h1 : pq_scs s1 = pq_scs s) (h2 : pq_dc s1 = pq_dc s) (t : Nat) : pp_me ts s1 t = pp_me ts s t := by
  unfold pp_me; rw [h1, h2]
theorem pp_tk_s (h : pp_tk ts s = some (.inr (v, s1))) : pq_scs s1 = pq_scs s ∧ pq_dc s1 = pq_dc s ∧ pq_sd s1 = pq_sd s ∧ pq_frm s1 = pq_frm s ∧ pq_rl s1 = pq_rl s ∧ pq_mn s1 = pq_mn s ∧ pq_tl s1 = pq_tl s ∧ pq_wt s1 = pq_wt s ∧ pq_pn s1 = pq_pn s := by
  obtain ⟨pos, op, cc, tn, tl, wt, pn, scs, sd, sig, frm, rl, mn, dc, fc⟩ := s
  simp only [pp_tk] at h
  repeat' split at h
  all_goals first
    | (cases h; done)
    | (cases h; exact ⟨rfl, rfl, rfl, rfl, rfl, rfl, rfl, rfl, rfl⟩)
/-- takeBase -/
theorem rl_21 (hts : pp_ok ts) (hw : rq ts f2 f1 T X (I, A, J) s) {x : Nat ⊕ (Nat × pp_S)} (hx : pp_base ts s = some x) : ∃ (z : Int32) (I1 A1 : ja_I) (J1 : ja_J), er_E (d + 5) 21 [.ref 0] (I, A, J) (.inl (some (.int z))) (I1, A1, J1) ∧ rE (fun b s1 w => z = pp_bv ts s1 b ∧ rq ts f2 f1 T X w s1) s I A J x (I1, A1, J1) := by
  have h160 := hts.1
  have e9 : I 0 9 = nI (pq_pos s) := hw.2.2.1.1
  have lp : pq_pos s ≤ ts.length := hw.2.2.1.2.1
  have h16 : I 0 16 = 0 := hw.2.2.1.2.2.2.2
  have ek : A 2 (I 0 9).toNatClampNeg = rk (pp_at ts s) := by
    rw [cn_cl e9 (by omega)]; exact hw.1.2.1 _ lp
  have v161 : vp_in (I 0 9) 161 := cn_in e9 (by omega) (by omega)
  unfold pp_base at hx
  cases hb : pp_ib ts s (pq_pos s) with
  | none => rw [hb] at hx; cases hx
  | some b =>
    rw [hb] at hx
    have h19 := rl_19 (d := d) hts hw lp hb
    rw [← e9] at h19
    cases b with
    | false =>
      cases hx
      exact ⟨-1, _, _, _, er_21 (r := (_, _)) ⟨fun _ => ⟨0, I, A, J, h19, fun _ => ⟨fun _ => ⟨_, _, _, rl_12, rfl⟩, fun n => absurd h16 n⟩, fun n => absurd rfl n⟩, fun n => absurd h16 n⟩, rfl, rfl⟩
    | true =>
      have hx' : (pp_b (pp_tk ts s) fun t s => if pp_k ts t = 2 then pp_use ts t s else pp_ret t s) = some x := hx
      have row := fun (r : ja_O × ja_w) (h : _) => er_21 (d := d + 4) (r := r) (I := I) (A := A) (J := J) ⟨fun _ => ⟨1, I, A, J, h19, fun n => absurd n (by decide), fun _ => ⟨v161, h⟩⟩, fun n => absurd h16 n⟩
      have hkk : pp_at ts s = 5 ∨ pp_at ts s = 6 ∨ pp_at ts s = 7 ∨ pp_at ts s = 2 := by
        by_cases h2 : pp_at ts s = 2
        · exact Or.inr (Or.inr (Or.inr h2))
        · unfold pp_ib at hb
          rw [if_neg (show ¬ pp_k ts (pq_pos s) = 2 from h2)] at hb
          have hb' : (pp_at ts s == 5 || pp_at ts s == 6 || pp_at ts s == 7) = true := by
            have := Option.some.inj hb
            exact this
          simp at hb'
          rcases hb' with (h | h) | h
          · exact Or.inl h
          · exact Or.inr (Or.inl h)
          · exact Or.inr (Or.inr (Or.inl h))
      have hop : pp_opens (pp_at ts s) = false := by rcases hkk with h | h | h | h <;> (rw [h]; rfl)
      have hsh : pp_shuts (pp_at ts s) = false := by rcases hkk with h | h | h | h <;> (rw [h]; rfl)
      rcases pp_bE hx' with ⟨p, hr, hp⟩ | ⟨t, s1, hr, hk⟩
      · exact absurd hr (pp_tk_n hop)
      · have hw1 := rq_tk hw hr hop hsh
        have et := (pp_tk_e hr).1
        have lt := (pp_tk_e hr).2.1
        have ekt : pp_k ts t = pp_at ts s := pp_tk_k hr
        rw [ekt] at hk
        rcases hkk with h | h | h | h
        · rw [if_neg (by rw [h]; decide)] at hk
          cases hk
          refine ⟨105, _, _, _, row (_, _) ⟨fun _ => ⟨fun n => absurd (ek.symm.trans n) (by rw [h]; decide), fun _ => rfl⟩, fun n => absurd (ek.trans (by rw [h]; rfl)) n⟩, ?_, hw1⟩
          show 105 = pp_bv ts s1 t
          unfold pp_bv
          rw [ekt, if_pos h]
        · rw [if_neg (by rw [h]; decide)] at hk
          cases hk
          refine ⟨99, _, _, _, row (_, _) ⟨fun n => absurd (ek.symm.trans n) (by rw [h]; decide), fun _ => ⟨fun _ => ⟨fun n => absurd (ek.symm.trans n) (by rw [h]; decide), fun _ => rfl⟩, fun n => absurd (ek.trans (by rw [h]; rfl)) n⟩⟩, ?_, hw1⟩
          show 99 = pp_bv ts s1 t
          unfold pp_bv
          rw [ekt, if_neg (by rw [h]; decide), if_pos h]
        · rw [if_neg (by rw [h]; decide)] at hk
          cases hk
          refine ⟨118, _, _, _, row (_, _) ⟨fun n => absurd (ek.symm.trans n) (by rw [h]; decide), fun _ => ⟨fun n => absurd (ek.symm.trans n) (by rw [h]; decide), fun _ => ⟨fun _ => ⟨fun n => absurd (ek.symm.trans n) (by rw [h]; decide), fun _ => rfl⟩, fun n => absurd (ek.trans (by rw [h]; rfl)) n⟩⟩⟩, ?_, hw1⟩
          show 118 = pp_bv ts s1 t
          unfold pp_bv
          rw [ekt, if_neg (by rw [h]; decide), if_neg (by rw [h]; decide), if_pos h]
        · rw [if_pos h] at hk
          have hs1 := pp_tk_s hr
          unfold pp_use at hk
          rw [pp_me_s hs1.1 hs1.2.1] at hk
          have h2 : pp_k ts (pq_pos s) = 2 := h
          unfold pp_ib at hb
          rw [if_pos h2] at hb
          rw [et] at hk
          cases hm : pp_me ts s (pq_pos s) with
          | none => rw [hm] at hb; cases hb
          | some m =>
            rw [hm] at hb hk
            cases m with
            | none => cases hb
            | some k =>
              have hso : pp_so s k = 1 := by
                have := Option.some.inj hb
                exact Nat.eq_of_beq_eq_true this
              have hso1 : pp_so s1 k = 1 := by
                unfold pp_so; rw [hs1.2.1]; exact hso
              have em := (pp_me_r hm).1
              have h17 := rl_17 (d := d + 2) hts hw (t := pq_pos s) (by rw [← et]; exact lt)
              rw [em, ← e9] at h17
              have e1000 : ∀ z : Int32, (1000 + z) - 1000 = z := fun z => by rw [Int32.add_comm, Int32.add_sub_cancel]
              obtain ⟨pos, op, cc, tn, tl, wt, pn, scs, sd, sig, frm, rl, mn, dc, fc⟩ := s1
              cases hk
              obtain ⟨hK, h0, hP, hT, hS, hN, hG, hF, hL, hX⟩ := hw1
              refine ⟨1000 + nI k, _, _, _, row (_, _) ⟨fun n => absurd (ek.symm.trans n) (by rw [h]; decide), fun _ => ⟨fun n => absurd (ek.symm.trans n) (by rw [h]; decide), fun _ => ⟨fun n => absurd (ek.symm.trans n) (by rw [h]; decide), fun _ => ⟨_, I, A, J, h17, fun _ => ⟨v161, v161, rfl⟩, fun n => absurd (ek.trans (by rw [h]; rfl)) n⟩⟩⟩⟩, ?_, hK, h0, hP, hT, hS, hN, hG, hF, ?_, hX⟩
              · show 1000 + nI k = pp_bv ts _ (pq_pos s)
                unfold pp_bv
                rw [h2, if_neg (by decide), if_neg (by decide), if_neg (by decide)]
                show 1000 + nI k = 1000 + pp_fu mn (pq_pos s) (Int32.ofNat k) (pq_pos s)
                unfold pp_fu
                rw [if_pos rfl]; rfl
              · rw [if_pos hso1]
                have := rq_Lu hL (t := pq_pos s) (x := 1) (y := (1000 + nI k) - 1000) (cn_cl e9 (by omega)) (cn_cl e9 (by omega))
                rw [e1000] at this
                show ∀ i, i < ts.length → (fun i => cond (Nat.beq i (I 0 9).toNatClampNeg) 1 (A 5 i)) i = _ ∧ (fun i => cond (Nat.beq i (I 0 9).toNatClampNeg) ((1000 + nI k) - 1000) (A 6 i)) i = _
                rw [e1000]
                exact this
end
