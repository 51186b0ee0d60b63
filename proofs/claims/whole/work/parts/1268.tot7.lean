section
variable {ts : List pp_T} {n g e : Nat}
theorem qF_app {pos : Nat} {op : Nat} {c : Nat} {tn : Nat} {tl : Nat} {wt : Nat} {pn : Nat} {scs : List Nat} {sd : List Nat} {sig : List Int32} {frm : List Int32} {rl : Nat → Int32} {mn : Nat → Int32} {dc : List pp_D} {fc : Nat} {pos' op' c' tn' tl' wt' pn' : Nat} {scs' : List Nat} {frm' l : List Int32} {rl' mn' : Nat → Int32} {dc' : List pp_D} (hx : l.head? ≠ some 40) : qF (pos, op, c, tn, tl, wt, pn, scs, sd, sig, frm, rl, mn, dc, fc) (pos', op', c', tn', tl', wt', pn', scs', sd, sig ++ l, frm', rl', mn', dc', fc) :=
  ⟨⟨l, rfl⟩, fun _ => rfl, fun _ _ => rfl, fun a b => by
    rw [a] at b
    exact absurd b hx⟩
theorem mul8 {g a b : Nat} (hg : g ≤ 8) (h : a ≤ b) : g * b + 8 * a ≤ g * a + 8 * b := by
  obtain ⟨k, rfl⟩ : ∃ k, b = a + k := ⟨b - a, by omega⟩
  rw [Nat.mul_add, Nat.mul_add]
  have := Nat.mul_le_mul_right k hg
  omega
theorem y56 (hl : tLen ts) (H8 : dS6 ts n 58 1) (H1 : dS61 ts n) : dS6 ts (n + 1) 56 2 := by
  intro s m hI hS hr ht hm
  obtain ⟨pos, op, c, tn, tl, wt, pn, scs, sd, sig, frm, rl, mn, dc, fc⟩ := s
  have hI := qI_d hI
  have hS' := qS_d hS
  have hr : 2 + 72 ≤ n + 1 + 9 * op := hr
  have ht : tl + 4 * (n + 1) ≤ 322 + 2 * pos := ht
  have h160 := hl.1
  refine tr_run (show tl + 20 ≤ 1200 by omega) ?_
  show tr _ (pp_56 ts (pp_run ts n) m (pos, op, c, tn, tl, wt, pn, scs, sd, sig, frm, rl, mn, dc, fc))
  unfold pp_56 pp_57
  refine tr_b (tr_w (N := ts.length) (J := fun (a : Nat) s => qG ts (8 - op) a (pos, op, c, tn, tl, wt, pn, scs, sd, sig, frm, rl, mn, dc, fc) s ∧ qT (pos, op, c, tn, tl, wt, pn, scs, sd, sig, frm, rl, mn, dc, fc) s ∧ qF (pos, op, c, tn, tl, wt, pn, scs, sd, sig, frm, rl, mn, dc, fc) s) (fun k s h => ⟨_, rfl, at_b (by decide)⟩) (fun a s h hc => ?_) (fun a s h _ => ?_) 160 _ _ (show ts.length ≤ 160 + pos by omega) ⟨by refine ⟨?_, ?_, ?_, ?_, ?_, ?_, ?_, ?_, ?_, ?_, ?_, ?_, ?_, ?_, ?_, ?_⟩ <;> omega, qT_r hS, qF_r⟩)
  · obtain ⟨pos1, op1, c1, tn1, tl1, wt1, pn1, scs1, sd1, sig1, frm1, rl1, mn1, dc1, fc1⟩ := s
    obtain ⟨g1, g2, g3⟩ := h
    have g1 := qG_d g1
    have h42 : pp_k ts pos1 = 42 := by simpa [pp_at] using hc
    refine tr_b (tr_tkn hl (by rw [h42]; rfl) (by rw [h42]; rfl) (by rw [h42]; decide) (by omega) (fun hL3 l3 e3 => tr_r ⟨⟨by refine ⟨?_, ?_, ?_, ?_, ?_, ?_, ?_, ?_, ?_, ?_, ?_, ?_, ?_, ?_, ?_, ?_⟩ <;> omega, ?_, g3⟩, ?_⟩))
    · exact qT_t g2 (show qT (pos1, op1, c1, tn1, tl1, wt1, pn1, scs1, sd1, sig1, frm1, rl1, mn1, dc1, fc1) _ from ⟨rfl, qT_S g2, fun _ _ h => h, fun _ _ => rfl⟩) (show pos ≤ pos1 by omega)
    · show pos1 < pos1 + 1; omega
  · obtain ⟨pos1, op1, c1, tn1, tl1, wt1, pn1, scs1, sd1, sig1, frm1, rl1, mn1, dc1, fc1⟩ := s
    obtain ⟨g1, g2, g3⟩ := h
    have g1 := qG_d g1
    have hS1 := qT_S g2
    have gs := (qT_d g2).1
    refine tr_b (tr_c (H8 (pos1, op1, c1, tn1, tl1 + 2, wt1 + 0, pn1, scs1, sd1, sig1, frm1, rl1, mn1, dc1, fc1) m ?_ hS1 (show 1 + 72 ≤ n + 9 * op1 by omega) (show tl1 + 2 + 4 * n ≤ 322 + 2 * pos1 by omega) hm) (fun nm pos2 op2 c2 tn2 tl2 wt2 pn2 scs2 sd2 sig2 frm2 rl2 mn2 dc2 fc2 h => ?_))
    · subst gs
      exact by refine ⟨?_, ?_, ?_, ?_, ?_, ?_, ?_, ?_, ?_, ?_, ?_, ?_⟩ <;> omega
    · obtain ⟨hn, hT, hF, hM⟩ := h
      have hn : qG ts (8 - op1) (enm ts nm) (pos1, op1, c1, tn1, tl1 + 2, wt1 + 0, pn1, scs1, sd1, sig1, frm1, rl1, mn1, dc1, fc1) (pos2, op2, c2, tn2, tl2, wt2, pn2, scs2, sd2, sig2, frm2, rl2, mn2, dc2, fc2) := hn
      rw [show 8 - op1 = 8 - op by omega] at hn
      have hn := qG_d hn
      have hT : qT (pos1, op1, c1, tn1, tl1, wt1, pn1, scs1, sd1, sig1, frm1, rl1, mn1, dc1, fc1) (pos2, op2, c2, tn2, tl1, wt1, pn2, scs2, sd2, sig2, frm2, rl2, mn2, dc2, fc2) := hT
      refine tr_b (tr_w (N := ts.length) (J := fun (_ : Nat) s => qG ts (8 - op) (a + enm ts nm) (pos, op, c, tn, tl, wt, pn, scs, sd, sig, frm, rl, mn, dc, fc) s ∧ qT (pos, op, c, tn, tl, wt, pn, scs, sd, sig, frm, rl, mn, dc, fc) s ∧ qF (pos, op, c, tn, tl, wt, pn, scs, sd, sig, frm, rl, mn, dc, fc) s ∧ pos2 ≤ pq_pos s) (fun k s h => ⟨_, rfl, at_b2 (by decide) (by decide)⟩) (fun _ s h hc => ?_) (fun _ s h _ => ?_) 160 _ _ (show ts.length ≤ 160 + pos2 by omega) ⟨by refine ⟨?_, ?_, ?_, ?_, ?_, ?_, ?_, ?_, ?_, ?_, ?_, ?_, ?_, ?_, ?_, ?_⟩ <;> omega, qT_t g2 hT (show pos ≤ pos1 by omega), qF_t g2 hT g3 hF, Nat.le_refl _⟩)
      · obtain ⟨pos3, op3, c3, tn3, tl3, wt3, pn3, scs3, sd3, sig3, frm3, rl3, mn3, dc3, fc3⟩ := s
        obtain ⟨f1, f2, f3, f4⟩ := h
        have f1 := qG_d f1
        have f4 : pos2 ≤ pos3 := f4
        have hS3 := qT_S f2
        have gs3 := (qT_d f2).1
        refine tr_i (fun h91 => ?_) (fun h91 => ?_)
        · refine tr_m (y60 hl (by subst gs3; exact by refine ⟨?_, ?_, ?_, ?_, ?_, ?_, ?_, ?_, ?_, ?_, ?_, ?_⟩ <;> omega) hS3 (8 - op)) (fun _ s' h => ?_)
          obtain ⟨pos4, op4, c4, tn4, tl4, wt4, pn4, scs4, sd4, sig4, frm4, rl4, mn4, dc4, fc4⟩ := s'
          obtain ⟨k1, k2, k3, k4⟩ := h
          have k1 := qG_d k1
          have k2 : pos3 < pos4 := k2
          exact ⟨⟨by refine ⟨?_, ?_, ?_, ?_, ?_, ?_, ?_, ?_, ?_, ?_, ?_, ?_, ?_, ?_, ?_, ?_⟩ <;> omega, qT_t f2 k3 (show pos ≤ pos3 by omega), qF_t f2 k3 f3 k4, show pos2 ≤ pos4 by omega⟩, k2⟩
        · refine tr_c (H1 (pos3, op3, c3, tn3, tl3 + 1, wt3 + 0, pn3, scs3, sd3, sig3, frm3, rl3, mn3, dc3, fc3) (by subst gs3; exact by refine ⟨?_, ?_, ?_, ?_, ?_, ?_, ?_, ?_, ?_, ?_, ?_, ?_⟩ <;> omega) hS3 (show 1 + 72 ≤ n + 9 * op3 by omega) (show tl3 + 1 + 4 * n ≤ 322 + 2 * pos3 by omega)) (fun _ pos4 op4 c4 tn4 tl4 wt4 pn4 scs4 sd4 sig4 frm4 rl4 mn4 dc4 fc4 h => ?_)
          obtain ⟨k1, k2, k3, k4⟩ := h
          have k1 : qG ts (8 - op3) 0 (pos3, op3, c3, tn3, tl3 + 1, wt3 + 0, pn3, scs3, sd3, sig3, frm3, rl3, mn3, dc3, fc3) (pos4, op4, c4, tn4, tl4, wt4, pn4, scs4, sd4, sig4, frm4, rl4, mn4, dc4, fc4) := k1
          rw [show 8 - op3 = 8 - op by omega] at k1
          have k1 := qG_d k1
          have k2 : pos3 < pos4 := k2
          have k3 : qT (pos3, op3, c3, tn3, tl3, wt3, pn3, scs3, sd3, sig3, frm3, rl3, mn3, dc3, fc3) (pos4, op4, c4, tn4, tl3, wt3, pn4, scs4, sd4, sig4, frm4, rl4, mn4, dc4, fc4) := k3
          exact ⟨⟨by refine ⟨?_, ?_, ?_, ?_, ?_, ?_, ?_, ?_, ?_, ?_, ?_, ?_, ?_, ?_, ?_, ?_⟩ <;> omega, qT_t f2 k3 (show pos ≤ pos3 by omega), qF_t f2 k3 f3 k4, show pos2 ≤ pos4 by omega⟩, k2⟩
      · obtain ⟨pos3, op3, c3, tn3, tl3, wt3, pn3, scs3, sd3, sig3, frm3, rl3, mn3, dc3, fc3⟩ := s
        obtain ⟨f1, f2, f3, f4⟩ := h
        have f1 := qG_d f1
        have f4 : pos2 ≤ pos3 := f4
        have er : (List.replicate a (42 : Int32)).length = a := List.length_replicate
        refine tr_b (tr_pt (by rw [er]; omega) (tr_r ⟨?_, ?_, ?_, ?_⟩))
        · have eg : (sig3 ++ List.replicate a (42 : Int32)).length = sig3.length + a := by rw [List.length_append, er]
          have em := Nat.mul_le_mul_left (8 - op) (show tn3 ≤ tn3 + a by omega)
          rw [er]
          show qG ts (8 - op) (enm ts nm) (pos, op, c, tn, tl, wt, pn, scs, sd, sig, frm, rl, mn, dc, fc) (pos3, op3, c3, tn3 + a, tl3, wt3, pn3, scs3, sd3, sig3 ++ List.replicate a 42, frm3, rl3, mn3, dc3, fc3)
          exact by refine ⟨?_, ?_, ?_, ?_, ?_, ?_, ?_, ?_, ?_, ?_, ?_, ?_, ?_, ?_, ?_, ?_⟩ <;> omega
        · exact qT_t f2 (show qT (pos3, op3, c3, tn3, tl3, wt3, pn3, scs3, sd3, sig3, frm3, rl3, mn3, dc3, fc3) _ from ⟨rfl, qT_S f2, fun _ _ h => h, fun _ _ => rfl⟩) (show pos ≤ pos3 by omega)
        · refine qF_t f2 (show qT (pos3, op3, c3, tn3, tl3, wt3, pn3, scs3, sd3, sig3, frm3, rl3, mn3, dc3, fc3) _ from ⟨rfl, qT_S f2, fun _ _ h => h, fun _ _ => rfl⟩) f3 (qF_app ?_)
          cases a with
          | zero => intro e; cases e
          | succ a => intro e; exact absurd (Option.some.inj e) (by decide)
        · refine ⟨hM.1, hM.2.1, fun e => ?_⟩
          obtain ⟨h1, h2⟩ := hM.2.2 e
          have h1 : pos1 ≤ nm - 1 := h1
          have h2 : nm - 1 < pos2 := h2
          exact ⟨show pos ≤ nm - 1 by omega, show nm - 1 < pos3 by omega⟩
/-- a base that can be written -/
def bOk (ts : List pp_T) (mn : Nat → Int32) (b : Nat) : Prop := (pp_k ts b = 5 ∨ pp_k ts b = 6 ∨ pp_k ts b = 7) ∨ (pp_k ts b = 2 ∧ ∃ k, k < 80 ∧ mn b = Int32.ofNat k)
theorem tr_base (hl : tLen ts) {pos : Nat} {op : Nat} {c : Nat} {tn : Nat} {tl : Nat} {wt : Nat} {pn : Nat} {scs : List Nat} {sd : List Nat} {sig : List Int32} {frm : List Int32} {rl : Nat → Int32} {mn : Nat → Int32} {dc : List pp_D} {fc : Nat} {Q : Nat → pp_S → Prop} (hS : qS (pos, op, c, tn, tl, wt, pn, scs, sd, sig, frm, rl, mn, dc, fc)) (ho : op ≤ 8) (hd : dc.length ≤ 80) (K : ∀ rl' mn', (∀ t, t ≠ pos → mn' t = mn t) → bOk ts mn' pos → pos < ts.length → 1 ≤ (pp_cs ts pos).length → cr ts pos = (pp_cs ts pos).length + cr ts (pos + 1) → Q pos (pos + 1, op, c + (pp_cs ts pos).length, tn, tl, wt, pn, scs, sd, sig, frm, rl', mn', dc, fc)) : tr Q (pp_base ts (pos, op, c, tn, tl, wt, pn, scs, sd, sig, frm, rl, mn, dc, fc)) := by
  have hS' := qS_d hS
  unfold pp_base
  obtain ⟨b, hb, h1, h2⟩ := ib_ok (ts := ts) (s := (pos, op, c, tn, tl, wt, pn, scs, sd, sig, frm, rl, mn, dc, fc)) hS'.2.2 hS'.2.1 pos
  refine tr_if ⟨b, hb, fun e => ?_, fun _ => tr_x⟩
  have hk := h2 e
  have hk2 : pp_opens (pp_k ts pos) = false ∧ pp_shuts (pp_k ts pos) = false ∧ pp_k ts pos ≠ 0 := by
    rcases hk with h | h | h | h <;> rw [h] <;> decide
  refine tr_b (tr_tkn hl hk2.2.1 hk2.1 hk2.2.2 ho (fun hL l1 e1 => tr_i (fun h => ?_) (fun h => tr_r ?_)))
  · obtain ⟨k, hme, hkl⟩ := h1 e h
    have hkl : k < dc.length := hkl
    refine tr_use (k := k) hme (fun v => K _ _ (fun t ht => ?_) (Or.inr ⟨h, k, by omega, ?_⟩) hL l1 e1)
    · unfold pp_fu; rw [if_neg ht]
    · unfold pp_fu; rw [if_pos rfl]
  · exact K _ _ (fun _ _ => rfl) (Or.inl (hk.resolve_left h)) hL l1 e1
theorem tr_wb {pos : Nat} {op : Nat} {c : Nat} {tn : Nat} {tl : Nat} {wt : Nat} {pn : Nat} {scs : List Nat} {sd : List Nat} {sig : List Int32} {frm : List Int32} {rl : Nat → Int32} {mn : Nat → Int32} {dc : List pp_D} {fc : Nat} {Q : Nat → pp_S → Prop} {b : Nat} (hb : bOk ts mn b) (ht : tn + 3 ≤ 640) (K : ∀ l : List Int32, 1 ≤ l.length → l.length ≤ 3 → l.head? ≠ some 40 → Q 0 (pos, op, c, tn + l.length, tl, wt, pn, scs, sd, sig ++ l, frm, rl, mn, dc, fc)) : tr Q (pp_wb ts b (pos, op, c, tn, tl, wt, pn, scs, sd, sig, frm, rl, mn, dc, fc)) := by
  unfold pp_wb
  have l1 : ∀ x : Int32, [x].length = 1 := fun _ => rfl
  have one : ∀ x : Int32, x ≠ 40 → tr Q (pp_pt [x] (pos, op, c, tn, tl, wt, pn, scs, sd, sig, frm, rl, mn, dc, fc)) := fun x hx => tr_pt (by rw [l1]; omega) (K [x] (by rw [l1]; decide) (by rw [l1]; decide) (fun e => hx (Option.some.inj e)))
  refine tr_i (fun _ => one _ (by decide)) (fun h5 => tr_i (fun _ => one _ (by decide)) (fun h6 => tr_i (fun _ => one _ (by decide)) (fun h7 => ?_)))
  rcases hb with (h | h | h) | ⟨_, k, hk, he⟩
  · exact absurd h h5
  · exact absurd h h6
  · exact absurd h h7
  · have ek : (mn b).toNatClampNeg = k := by rw [he]; exact nI_clamp (by omega)
    have hd := dig_len k
    have el : (pp_dig k ++ [(46 : Int32)]).length = (pp_dig k).length + 1 := by rw [List.length_append]; rfl
    show tr Q (if (mn b).toNatClampNeg < 100 ∧ mn b = Int32.ofNat (mn b).toNatClampNeg then pp_pt (pp_dig (mn b).toNatClampNeg ++ [46]) (pos, op, c, tn, tl, wt, pn, scs, sd, sig, frm, rl, mn, dc, fc) else none)
    rw [ek]
    refine tr_g ⟨by omega, he⟩ (tr_pt (by rw [el]; omega) (K _ (by rw [el]; omega) (by rw [el]; omega) ?_))
    intro h
    unfold pp_dig at h
    split at h
    · have h' : Int32.ofNat (48 + k / 10) = 40 := Option.some.inj h
      have := (nI_eq (a := 48 + k / 10) (b := 40) (by omega) (by omega)).mp h'
      omega
    · have h' : Int32.ofNat (48 + k) = 40 := Option.some.inj h
      have := (nI_eq (a := 48 + k) (b := 40) (by omega) (by omega)).mp h'
      omega
theorem tr_de {pos : Nat} {op : Nat} {c : Nat} {tn : Nat} {tl : Nat} {wt : Nat} {pn : Nat} {scs : List Nat} {sd : List Nat} {sig : List Int32} {frm : List Int32} {rl : Nat → Int32} {mn : Nat → Int32} {dc : List pp_D} {fc : Nat} {Q : Nat → pp_S → Prop} {t st tn0 ty : Nat} (h : dc.length < 80 ∧ scs ≠ [] ∧ st < sig.length ∧ t < ts.length ∧ pp_tt dc + (sig.length - st) ≤ 6000 ∧ tn0 + (sig.length - st) = tn) (K : ∀ v, Q dc.length (pos, op, c, tn, tl, wt, pn, scs, sd, sig, frm, pp_fu rl t v, pp_fu mn t (Int32.ofNat dc.length),
        dc ++ [(t, scs.getLastD 0, scs.length, if ty = 1 then 1 else if (sig.drop st).headD 0 = 40 then 2 else 0, sig.drop st)], fc)) : tr Q (pp_de ts t st tn0 ty (pos, op, c, tn, tl, wt, pn, scs, sd, sig, frm, rl, mn, dc, fc)) := by
  simp only [pp_de]
  rw [if_pos h]
  exact K _
theorem tt_app {dc : List pp_D} {x : pp_D} : pp_tt (dc ++ [x]) = pp_tt dc + x.2.2.2.2.length := by
  unfold pp_tt
  rw [List.map_append, List.sum_append, List.map_cons, List.map_nil, List.sum_cons, List.sum_nil, Nat.add_zero]
theorem iD_app {scs sd : List Nat} {dc : List pp_D} {t so : Nat} {ty : List Int32} (hn : scs ≠ []) (hc : iC sd scs) (hd : iD sd dc) : iD sd (dc ++ [(t, scs.getLastD 0, scs.length, so, ty)]) := by
  intro x hx
  rcases List.mem_append.mp hx with h | h
  · exact hd x h
  · rw [List.mem_singleton] at h
    subst h
    have hp : 0 < scs.length := List.length_pos_iff.mpr hn
    have hlast : scs[scs.length - 1]? = some (scs.getLastD 0) := by
      rw [← List.getLast?_eq_getElem?, List.getLastD_eq_getLast?, List.getLast?_eq_some_getLast hn]; rfl
    have := hc _ _ hlast
    show sd[scs.getLastD 0]? = some scs.length
    rw [this]
    congr 1
    omega
end
