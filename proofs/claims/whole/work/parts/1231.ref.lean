/-- the reference's numbers of the kinds -/
def rk (k : Int32) : Int32 := if k = 2 then 1 else if k = 3 then 2 else if k = 1 then 3 else k
theorem rk_1 (k : Int32) : rk k = 1 ↔ k = 2 := by
  unfold rk
  by_cases h2 : k = 2
  · simp [h2]
  · by_cases h3 : k = 3
    · simp [h3]
    · by_cases h1 : k = 1
      · simp [h1]
      · simp [h2, h3, h1]
theorem rk_2 (k : Int32) : rk k = 2 ↔ k = 3 := by
  unfold rk
  by_cases h2 : k = 2
  · simp [h2]
  · by_cases h3 : k = 3
    · simp [h3]
    · by_cases h1 : k = 1
      · simp [h1]
      · simp [h2, h3, h1]
theorem rk_o {c : Int32} (c1 : c ≠ 1) (c2 : c ≠ 2) (c3 : c ≠ 3) (k : Int32) : rk k = c ↔ k = c := by
  unfold rk
  by_cases h2 : k = 2
  · subst h2
    simp only [if_pos]
    exact ⟨fun h => absurd h.symm c1, fun h => absurd h.symm c2⟩
  · by_cases h3 : k = 3
    · subst h3
      rw [if_neg h2, if_pos rfl]
      exact ⟨fun h => absurd h.symm c2, fun h => absurd h.symm c3⟩
    · by_cases h1 : k = 1
      · subst h1
        rw [if_neg h2, if_neg h3, if_pos rfl]
        exact ⟨fun h => absurd h.symm c3, fun h => absurd h.symm c1⟩
      · rw [if_neg h2, if_neg h3, if_neg h1]
theorem rk_inj {a b : Int32} (h : rk a = rk b) : a = b := by
  by_cases h1 : rk b = 1
  · rw [(rk_1 b).mp h1, (rk_1 a).mp (h.trans h1)]
  · by_cases h2 : rk b = 2
    · rw [(rk_2 b).mp h2, (rk_2 a).mp (h.trans h2)]
    · by_cases h3 : rk b = 3
      · have key : ∀ k : Int32, rk k = 3 → k = 1 := by
          intro k hk
          by_cases k2 : k = 2
          · rw [(rk_1 k).mpr k2] at hk; exact absurd hk (by decide)
          · by_cases k3 : k = 3
            · rw [(rk_2 k).mpr k3] at hk; exact absurd hk (by decide)
            · by_cases k1 : k = 1
              · exact k1
              · unfold rk at hk
                rw [if_neg k2, if_neg k3, if_neg k1] at hk
                exact absurd hk k3
        rw [key b h3, key a (h.trans h3)]
      · have hb := (rk_o h1 h2 h3 b).mp rfl
        have ha := (rk_o h1 h2 h3 a).mp h
        rw [ha, ← hb]
/-- start, named, nothing, waiting, place -/
abbrev rq_X : Type := Int32 × Int32 × Int32 × List Int32 × Int32
abbrev rq_A : Type := List (Int32 × Int32)
def rq_T (a7 a8 : Nat → Int32) : rq_A → Prop
  | [] => True
  | x :: l => a7 l.length = x.1 ∧ a8 l.length = x.2 ∧ rq_T a7 a8 l
abbrev rq_K (ts : List pp_T) (n : Int32) (a1 a2 a3 a4 : Nat → Int32) : Prop := n = nI ts.length ∧ (∀ i, i ≤ ts.length → a2 i = rk (pp_k ts i)) ∧ ∀ i, i < ts.length → ∃ fr, a3 i = nI fr ∧ a4 i = nI (pp_cs ts i).length ∧ fr + (pp_cs ts i).length ≤ 160 ∧ cq_h a1 fr (pp_cs ts i)
abbrev rq_P (ts : List pp_T) (I0 : Nat → Int32) (pos op : Nat) : Prop := I0 9 = nI pos ∧ pos ≤ ts.length ∧ I0 15 = nI op ∧ op ≤ 8 ∧ I0 16 = 0
abbrev rq_N (ts : List pp_T) (n tys : Int32) (a10 a11 a12 a13 a14 a15 a16 : Nat → Int32) (j17 : Nat → Int64) (dc : List pp_D) : Prop := n = nI dc.length ∧ dc.length ≤ 80 ∧ tys = nI (pp_tt dc) ∧ pp_tt dc ≤ 6000 ∧ ∀ k x, dc[k]? = some x → a10 k = nI x.1 ∧ a11 k = nI x.2.1 ∧ a12 k = nI x.2.2.1 ∧ a13 k = nI x.2.2.2.1 ∧ a14 k = nI (pp_tt (dc.take k)) ∧ a15 k = nI x.2.2.2.2.length ∧ cq_h a16 (pp_tt (dc.take k)) x.2.2.2.2 ∧ j17 k = pp_wd ts x.1 ∧ x.1 < ts.length ∧ x.2.1 < 1000 ∧ 1 ≤ x.2.2.1 ∧ x.2.2.1 ≤ 9 ∧ x.2.2.2.1 < 3
abbrev rq_S (d m : Int32) (a9 : Nat → Int32) (scs sd : List Nat) : Prop := d = nI scs.length ∧ m = nI sd.length ∧ scs.length ≤ 9 ∧ sd.length ≤ 1000 ∧ ∀ i q, scs[i]? = some q → a9 i = nI q ∧ q < 1000
abbrev rq_G (n : Int32) (f : Nat → Int32) (tn : Nat) (l : List Int32) : Prop := n = nI l.length ∧ l.length ≤ tn ∧ tn ≤ 640 ∧ cq_h f 0 l
abbrev rq_W (I0 a19 : Nat → Int32) (fc : Nat) (X : rq_X) : Prop := I0 32 = X.1 ∧ I0 33 = X.2.1 ∧ I0 34 = nI fc - 1 ∧ I0 35 = nI X.2.2.2.1.length ∧ X.2.2.2.1.length ≤ 2400 ∧ cq_h a19 0 X.2.2.2.1 ∧ I0 37 = X.2.2.2.2
abbrev rq (ts : List pp_T) (f2 : Int32) (f1 : Nat → Int32) (T : rq_A) (X : rq_X) (w : ja_w) (s : pp_S) : Prop :=
  rq_K ts (w.1 0 3) (w.2.1 1) (w.2.1 2) (w.2.1 3) (w.2.1 4) ∧ (w.1 0 2 = f2 ∧ w.2.1 1 = f1 ∧ w.1 0 11 = 0 ∧ w.1 0 0 = 0 ∧ w.1 0 10 = -1 ∧ ts.length ≤ 160) ∧ rq_P ts (w.1 0) (pq_pos s) (pq_op s) ∧
  (w.1 0 12 = nI T.length ∧ T.length ≤ 1200 ∧ rq_T (w.2.1 7) (w.2.1 8) T) ∧ rq_S (w.1 0 18) (w.1 0 17) (w.2.1 9) (pq_scs s) (pq_sd s) ∧
  rq_N ts (w.1 0 20) (w.1 0 27) (w.2.1 10) (w.2.1 11) (w.2.1 12) (w.2.1 13) (w.2.1 14) (w.2.1 15) (w.2.1 16) (w.2.2 17) (pq_dc s) ∧
  rq_G (w.1 0 30) (w.2.1 18) (pq_tn s) (pq_sig s) ∧ rq_G (w.1 0 38) (w.2.1 20) 640 (pq_frm s) ∧ (∀ i, i < ts.length → w.2.1 5 i = pq_rl s i ∧ w.2.1 6 i = pq_mn s i) ∧ rq_W (w.1 0) (w.2.1 19) (pq_fc s) X
/-- broken at p; tasks, signs and length are at most a, b, c -/
abbrev rb (f2 : Int32) (f1 : Nat → Int32) (p : Nat) (w : ja_w) : Prop := (w.1 0 2 = f2 ∧ w.2.1 1 = f1 ∧ w.1 0 11 = 0 ∧ w.1 0 0 = 0 ∧ p ≤ 160) ∧ w.1 0 16 = 1 ∧ w.1 0 10 = nI p
abbrev rbn (a b c : Nat) (w : ja_w) : Prop := (∃ n, w.1 0 12 = nI n ∧ n ≤ a) ∧ (∃ n, w.1 0 30 = nI n ∧ n ≤ b) ∧ (∃ n, w.1 0 38 = nI n ∧ n ≤ c)
section
variable {ts : List pp_T} {f2 : Int32} {f1 : Nat → Int32} {d : Nat} {T : rq_A} {X : rq_X} {I A : ja_I} {J : ja_J} {s : pp_S}
theorem rq_Tu {a7 a8 : Nat → Int32} {n : Nat} {x y : Int32} : ∀ {T : rq_A}, T.length ≤ n → rq_T a7 a8 T → rq_T (fun i => cond (Nat.beq i n) x (a7 i)) (fun i => cond (Nat.beq i n) y (a8 i)) T
  | [], _, _ => trivial
  | q :: l, hn, h => by
    have hn' : l.length + 1 ≤ n := hn
    have e : Nat.beq l.length n = false := by exact nb_f (by omega)
    refine ⟨?_, ?_, rq_Tu (by omega) h.2.2⟩
    · show cond (Nat.beq l.length n) x (a7 l.length) = q.1
      rw [e]; exact h.1
    · show cond (Nat.beq l.length n) y (a8 l.length) = q.2
      rw [e]; exact h.2.1
/-- todo -/
theorem rl_11 (hw : rq ts f2 f1 T X (I, A, J) s) (hl : T.length < 1200) (a b : Int32) : ∃ (I1 A1 : ja_I) (J1 : ja_J), er_E (d + 1) 11 [.ref 0, .int a, .int b] (I, A, J) (.inl none) (I1, A1, J1) ∧ rq ts f2 f1 ((a, b) :: T) X (I1, A1, J1) s := by
  obtain ⟨hK, h0, hP, hT, hR⟩ := hw
  have e : I 0 12 = nI T.length := hT.1
  have ek : (I 0 12).toNatClampNeg = T.length := cn_cl e (by omega)
  have v : vp_in (I 0 12) 1200 := cn_in e hl (by omega)
  refine ⟨_, _, _, er_11 (r := (_, _)) ⟨v, v, rfl⟩, hK, h0, hP, ⟨?_, ?_, ?_⟩, hR⟩
  · show I 0 12 + 1 = nI ((a, b) :: T).length
    rw [e, nI_1]; rfl
  · rw [List.length_cons]; omega
  · show rq_T (fun i => cond (Nat.beq i (I 0 12).toNatClampNeg) a (A 7 i)) (fun i => cond (Nat.beq i (I 0 12).toNatClampNeg) b (A 8 i)) ((a, b) :: T)
    rw [ek]
    refine ⟨?_, ?_, rq_Tu (Nat.le_refl _) hT.2.2⟩
    · show cond (Nat.beq T.length T.length) a _ = a
      rw [Nat.beq_refl]; rfl
    · show cond (Nat.beq T.length T.length) b _ = b
      rw [Nat.beq_refl]; rfl
/-- todo, where it is broken -/
theorem rl_11b {p n b c : Nat} (hw : rb f2 f1 p (I, A, J)) (hn : rbn n b c (I, A, J)) (hl : n < 1200) (x y : Int32) : ∃ (I1 A1 : ja_I) (J1 : ja_J), er_E (d + 1) 11 [.ref 0, .int x, .int y] (I, A, J) (.inl none) (I1, A1, J1) ∧ rb f2 f1 p (I1, A1, J1) ∧ rbn (n + 1) b c (I1, A1, J1) := by
  obtain ⟨⟨m, e, l⟩, h2⟩ := hn
  have e' : I 0 12 = nI m := e
  have v : vp_in (I 0 12) 1200 := cn_in e' (by omega) (by omega)
  refine ⟨_, _, _, er_11 (r := (_, _)) ⟨v, v, rfl⟩, hw, ⟨m + 1, ?_, by omega⟩, h2⟩
  show I 0 12 + 1 = nI (m + 1)
  rw [e', nI_1]
/-- the world behind breakHere -/
abbrev rbk (I : ja_I) : ja_I := ja_up (ja_up I 0 16 1) 0 10 (I 0 9)
theorem rl_12 : er_E (d + 1) 12 [.ref 0] (I, A, J) (.inl none) (rbk I, A, J) := er_12 (r := (_, _)) rfl
theorem rb_of (hw : rq ts f2 f1 T X (I, A, J) s) : rb f2 f1 (pq_pos s) (rbk I, A, J) ∧ rbn T.length 640 640 (rbk I, A, J) := by
  obtain ⟨hK, h0, hP, hT, hS, hN, hG, hF, hR⟩ := hw
  exact ⟨⟨⟨h0.1, h0.2.1, h0.2.2.1, h0.2.2.2.1, Nat.le_trans hP.2.1 h0.2.2.2.2.2⟩, rfl, hP.1⟩, ⟨T.length, hT.1, Nat.le_refl _⟩, ⟨_, hG.1, by have := hG.2.1; have := hG.2.2.1; omega⟩, ⟨_, hF.1, hF.2.1⟩⟩
/-- how a step that may break ends -/
abbrev rE (f : Nat → pp_S → ja_w → Prop) (s : pp_S) (I A : ja_I) (J : ja_J) (x : Nat ⊕ (Nat × pp_S)) (w : ja_w) : Prop := match x with
  | .inl p => p = pq_pos s ∧ w = (rbk I, A, J)
  | .inr z => f z.1 z.2 w
/-- is -/
theorem rl_13 (hts : pp_ok ts) (hw : rq ts f2 f1 T X (I, A, J) s) (c : Int32) : ∃ z : Int32, er_E (d + 1) 13 [.ref 0, .int c] (I, A, J) (.inl (some (.int z))) (I, A, J) ∧ (rk (pp_at ts s) = c → z = 1) ∧ (¬ rk (pp_at ts s) = c → z = 0) := by
  have h160 := hts.1
  have e : I 0 9 = nI (pq_pos s) := hw.2.2.1.1
  have l : pq_pos s ≤ ts.length := hw.2.2.1.2.1
  have ek : A 2 (I 0 9).toNatClampNeg = rk (pp_at ts s) := by
    rw [cn_cl e (by omega)]; exact hw.1.2.1 _ l
  have v : vp_in (I 0 9) 161 := cn_in e (by omega) (by omega)
  by_cases h : rk (pp_at ts s) = c
  · exact ⟨1, er_13 (r := (_, _)) ⟨v, fun _ => rfl, fun n => absurd (ek.trans h) n⟩, fun _ => rfl, fun n => absurd h n⟩
  · exact ⟨0, er_13 (r := (_, _)) ⟨v, fun n => absurd (ek.symm.trans n) h, fun _ => rfl⟩, fun n => absurd n h, fun _ => rfl⟩
/-- behind, where a token is here -/
theorem rl_14 (hts : pp_ok ts) (hw : rq ts f2 f1 T X (I, A, J) s) : er_E (d + 1) 14 [.ref 0] (I, A, J) (.inl (some (.int (rk (pp_nx ts s))))) (I, A, J) := by
  have h160 := hts.1
  have e : I 0 9 = nI (pq_pos s) := hw.2.2.1.1
  have l : pq_pos s ≤ ts.length := hw.2.2.1.2.1
  have en : I 0 3 = nI ts.length := hw.1.1
  refine er_14 (r := (_, _)) ⟨fun h => ?_, fun h => ⟨?_, ?_⟩⟩
  · rw [e, en, nI_leI (by omega) (by omega)] at h
    rw [show rk (pp_nx ts s) = 0 by unfold pp_nx; rw [pp_k_ge (by omega)]; rfl]
  · rw [e, en, nI_leI (by omega) (by omega)] at h
    rw [e, nI_1]; exact vp_in_nI (by omega) (by omega)
  · rw [e, en, nI_leI (by omega) (by omega)] at h
    have e2 : A 2 (pq_pos s + 1) = rk (pp_k ts (pq_pos s + 1)) := hw.1.2.1 _ (by omega)
    rw [e, nI_1, nI_clamp (by omega), e2]; rfl
/-- enter -/
theorem rl_15 (hts : pp_ok ts) (hw : rq ts f2 f1 T X (I, A, J) s) (ho : pp_opens (pp_at ts s) = true) {x : Nat ⊕ (Nat × pp_S)} (hx : pp_tk ts s = some x) : ∃ (I1 A1 : ja_I) (J1 : ja_J), er_E (d + 2) 15 [.ref 0] (I, A, J) (.inl none) (I1, A1, J1) ∧ rE (fun _ s1 w => rq ts f2 f1 T X w s1) s I A J x (I1, A1, J1) := by
  have h160 := hts.1
  have e : I 0 15 = nI (pq_op s) := hw.2.2.1.2.2.1
  have l : pq_op s ≤ 8 := hw.2.2.1.2.2.2.1
  have e9 : I 0 9 = nI (pq_pos s) := hw.2.2.1.1
  obtain ⟨pos, op, cc, tn, tl, wt, pn, scs, sd, sig, frm, rl, mn, dc, fc⟩ := s
  have ho' : pp_opens (pp_k ts pos) = true := ho
  simp only [pp_tk, ho', if_true] at hx
  split at hx
  · cases hx
  · split at hx
    · cases hx
    · split at hx
      · rename_i h8
        cases hx
        refine ⟨_, _, _, er_15 (r := (_, _)) ⟨fun _ => ⟨_, _, _, rl_12, rfl⟩, fun n => absurd ?_ n⟩, rfl, rfl⟩
        rw [e]; exact congrArg nI h8
      · rename_i h8
        cases hx
        obtain ⟨hK, h0, hP, hR⟩ := hw
        refine ⟨_, _, _, er_15 (r := (_, _)) ⟨fun n => absurd ?_ h8, fun _ => rfl⟩, hK, h0, ⟨?_, ?_, ?_, ?_, hP.2.2.2.2⟩, hR⟩
        · rw [e] at n; exact (nI_eq (b := 8) (by show op < _; have : op ≤ 8 := l; omega) (by omega)).mp n
        · show I 0 9 + 1 = nI (pos + 1)
          rw [e9, nI_1]
        · show pos + 1 ≤ ts.length
          omega
        · show I 0 15 + 1 = nI (op + 1)
          rw [e, nI_1]
        · show op + 1 ≤ 8
          have : op ≤ 8 := l
          omega
/-- pass, of a sign that shuts (f = 1) or not (f = 0) -/
theorem rl_16 (hts : pp_ok ts) (hw : rq ts f2 f1 T X (I, A, J) s) {k f : Int32} (hk : (f = 1 ∧ pp_shuts k = true ∧ pp_opens k = false) ∨ (f = 0 ∧ pp_shuts k = false ∧ pp_opens k = false)) (hr : rk k = k) {x : Nat ⊕ (Nat × pp_S)} (hx : pp_ex ts k s = some x) : ∃ (I1 A1 : ja_I) (J1 : ja_J), er_E (d + 2) 16 [.ref 0, .int k, .int f] (I, A, J) (.inl none) (I1, A1, J1) ∧ rE (fun _ s1 w => rq ts f2 f1 T X w s1) s I A J x (I1, A1, J1) := by
  have h160 := hts.1
  have e : I 0 15 = nI (pq_op s) := hw.2.2.1.2.2.1
  have e9 : I 0 9 = nI (pq_pos s) := hw.2.2.1.1
  have h16 : I 0 16 = 0 := hw.2.2.1.2.2.2.2
  obtain ⟨z, hE, hz1, hz0⟩ := rl_13 (d := d) hts hw k
  unfold pp_ex at hx
  by_cases h : pp_k ts (pq_pos s) = k
  · rw [if_pos h] at hx
    have hz : z = 1 := hz1 (by rw [show pp_at ts s = k from h]; exact hr)
    subst hz
    obtain ⟨pos, op, cc, tn, tl, wt, pn, scs, sd, sig, frm, rl, mn, dc, fc⟩ := s
    have hk' : pp_k ts pos = k := h
    rcases hk with ⟨rfl, hs, ho⟩ | ⟨rfl, hs, ho⟩
    · simp only [pp_tk, hk', ho, hs, if_true] at hx
      split at hx
      · cases hx
      · split at hx
        · cases hx
        · rw [if_neg (by decide)] at hx
          split at hx
          · cases hx
          · rename_i hop
            cases hx
            obtain ⟨hK, h0, hP, hR⟩ := hw
            refine ⟨_, _, _, er_16 (r := (_, _)) ⟨fun _ => ⟨1, I, A, J, hE, fun n => absurd n (by decide), fun _ => ⟨fun n => absurd n (by decide), fun _ => rfl⟩⟩, fun n => absurd h16 n⟩, hK, h0, ⟨?_, ?_, ?_, ?_, hP.2.2.2.2⟩, hR⟩
            · show I 0 9 + 1 = nI (pos + 1)
              rw [e9, nI_1]
            · show pos + 1 ≤ ts.length
              omega
            · show I 0 15 - 1 = nI (op - 1)
              rw [e]
              show nI op - 1 = nI (op - 1)
              obtain ⟨o, rfl⟩ : ∃ o, op = o + 1 := ⟨op - 1, by omega⟩
              exact nI_pred o
            · show op - 1 ≤ 8
              have : op ≤ 8 := hP.2.2.2.1
              omega
    · simp only [pp_tk, hk', ho, hs, if_true] at hx
      split at hx
      · cases hx
      · split at hx
        · cases hx
        · rw [if_neg (by decide), if_neg (by decide)] at hx
          cases hx
          obtain ⟨hK, h0, hP, hR⟩ := hw
          refine ⟨_, _, _, er_16 (r := (_, _)) ⟨fun _ => ⟨1, I, A, J, hE, fun n => absurd n (by decide), fun _ => ⟨fun _ => rfl, fun n => absurd rfl n⟩⟩, fun n => absurd h16 n⟩, hK, h0, ⟨?_, ?_, hP.2.2.1, hP.2.2.2.1, hP.2.2.2.2⟩, hR⟩
          · show I 0 9 + 1 = nI (pos + 1)
            rw [e9, nI_1]
          · show pos + 1 ≤ ts.length
            omega
  · rw [if_neg h] at hx
    cases hx
    have hz : z = 0 := hz0 (fun c => h (by
      have hc : rk (pp_at ts s) = rk k := c.trans hr.symm
      exact rk_inj hc))
    subst hz
    exact ⟨_, _, _, er_16 (r := (_, _)) ⟨fun _ => ⟨0, I, A, J, hE, fun _ => ⟨_, _, _, rl_12, rfl⟩, fun n => absurd rfl n⟩, fun n => absurd h16 n⟩, rfl, rfl⟩
end
