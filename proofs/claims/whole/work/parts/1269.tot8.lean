section
variable {ts : List pp_T} {n g e : Nat}
theorem bv_eq {ts : List pp_T} {s s' : pp_S} {b : Nat} (h : pq_mn s b = pq_mn s' b) : pp_bv ts s b = pp_bv ts s' b := by
  unfold pp_bv; rw [h]
theorem bOk_eq {mn mn' : Nat → Int32} {b : Nat} (h : bOk ts mn b) (e : mn' b = mn b) : bOk ts mn' b := by
  unfold bOk at *; rw [e]; exact h
theorem y55 (hl : tLen ts) (H : dS6 ts n 56 2) : dS5 ts (n + 1) := by
  intro s m hI hS hr ht hm1 hm
  obtain ⟨pos, op, c, tn, tl, wt, pn, scs, sd, sig, frm, rl, mn, dc, fc⟩ := s
  have hI := qI_d hI
  have hS' := qS_d hS
  have hr : 3 + 72 ≤ n + 1 + 9 * op := hr
  have ht : tl + 4 * (n + 1) ≤ 322 + 2 * pos := ht
  have h160 := hl.1
  refine tr_run (show tl + 20 ≤ 1200 by omega) ?_
  show tr _ (pp_55 ts (pp_run ts n) m (pos, op, c, tn, tl, wt, pn, scs, sd, sig, frm, rl, mn, dc, fc))
  unfold pp_55
  refine tr_b (tr_base hl hS (by omega) (by omega) (fun rl1 mn1 hmn hb hL l1 e1 => ?_))
  refine tr_b (tr_c (H (pos + 1, op, c + (pp_cs ts pos).length, tn, tl + 4, wt + 0, pn, scs, sd, sig, frm, rl1, mn1, dc, fc) m ?_ hS (show 2 + 72 ≤ n + 9 * op by omega) (show tl + 4 + 4 * n ≤ 322 + 2 * (pos + 1) by omega) hm) (fun nm pos2 op2 c2 tn2 tl2 wt2 pn2 scs2 sd2 sig2 frm2 rl2 mn2 dc2 fc2 h => ?_))
  · exact by refine ⟨?_, ?_, ?_, ?_, ?_, ?_, ?_, ?_, ?_, ?_, ?_, ?_⟩ <;> omega
  · obtain ⟨hn, hT, hF, hM⟩ := h
    have hn : qG ts (8 - op) (enm ts nm) (pos + 1, op, c + (pp_cs ts pos).length, tn, tl + 4, wt + 0, pn, scs, sd, sig, frm, rl1, mn1, dc, fc) (pos2, op2, c2, tn2, tl2, wt2, pn2, scs2, sd2, sig2, frm2, rl2, mn2, dc2, fc2) := hn
    have hn := qG_d hn
    obtain ⟨t1, t2, t3, t4⟩ := qT_d hT
    have emn : mn2 pos = mn1 pos := t4 pos (by omega)
    have e9 : ∀ x, (9 - op) * x = (8 - op) * x + x := fun x => by rw [show 9 - op = (8 - op) + 1 by omega, Nat.succ_mul]
    refine tr_g ⟨bv_eq emn, hM.2.1⟩ ?_
    refine tr_b (tr_wb (bOk_eq hb emn) (by omega) (fun l hl1 hl3 hl40 => ?_))
    have eg : (sig2 ++ l).length = sig2.length + l.length := List.length_append
    have em := Nat.mul_le_mul_left (8 - op) (show tn2 ≤ tn2 + l.length by omega)
    have em8 := mul8 (g := 8 - op) (a := tn) (b := tn2) (by omega) (by omega)
    have f1 := e9 tn
    have f2 := e9 (tn2 + l.length)
    have hF2 : sig ≠ [] → qF (pos, op, c, tn, tl, wt, pn, scs, sd, sig, frm, rl, mn, dc, fc) (pos2, op2, c2, tn2 + l.length, tl, wt, pn2, scs2, sd2, sig2 ++ l, frm2, rl2, mn2, dc2, fc2) := by
      intro h
      have hF : qF (pos, op, c, tn, tl, wt, pn, scs, sd, sig, frm, rl, mn, dc, fc) (pos2, op2, c2, tn2, tl2, wt2, pn2, scs2, sd2, sig2, frm2, rl2, mn2, dc2, fc2) := hF
      obtain ⟨⟨e, he⟩, hf, _⟩ := qF_d hF
      exact ⟨⟨e ++ l, by rw [he, List.append_assoc]⟩, fun _ => hf h, fun h0 => absurd h0 h, fun h0 => absurd h0 h⟩
    refine tr_i (fun h0 => tr_r ⟨?_, ?_, ?_⟩) (fun h0 => ?_)
    · have ee : enm ts nm = 0 := by unfold enm; rw [if_pos h0]
      show qD5 ts (pos, op, c, tn, tl, wt, pn, scs, sd, sig, frm, rl, mn, dc, fc) (pos2, op2, c2, tn2 + l.length, tl, wt, pn2, scs2, sd2, sig2 ++ l, frm2, rl2, mn2, dc2, fc2)
      exact by refine ⟨?_, ?_, ?_, ?_, ?_, ?_, ?_, ?_, ?_, ?_, ?_, ?_, ?_, ?_, ?_, ?_⟩ <;> omega
    · exact ⟨t1, t2, t3, fun t ht => (t4 t (by omega)).trans (hmn t (by omega))⟩
    · exact hF2
    · obtain ⟨m1, m2⟩ := hM.2.2 h0
      have m1 : pos + 1 ≤ nm - 1 := m1
      have m2 : nm - 1 < pos2 := m2
      have ee : enm ts nm = (pp_cs ts (nm - 1)).length := by unfold enm; rw [if_neg h0]
      have l2 := hl.2.1 (nm - 1) (by omega)
      refine tr_b (tr_de (st := sig.length) (tn0 := tn) ⟨by omega, t2.1, by omega, by omega, by omega, by omega⟩ (fun v => tr_r ⟨?_, ?_, ?_⟩))
      · have ed : (dc2 ++ [(nm - 1, scs2.getLastD 0, scs2.length, if 0 = 1 then 1 else if ((sig2 ++ l).drop sig.length).headD 0 = 40 then 2 else 0, (sig2 ++ l).drop sig.length)]).length = dc2.length + 1 := by rw [List.length_append]; rfl
        have et : pp_tt (dc2 ++ [(nm - 1, scs2.getLastD 0, scs2.length, if 0 = 1 then 1 else if ((sig2 ++ l).drop sig.length).headD 0 = 40 then 2 else 0, (sig2 ++ l).drop sig.length)]) = pp_tt dc2 + ((sig2 ++ l).length - sig.length) := by rw [tt_app]; show _ + ((sig2 ++ l).drop sig.length).length = _; rw [List.length_drop]
        generalize hdc : (dc2 ++ [(nm - 1, scs2.getLastD 0, scs2.length, if 0 = 1 then 1 else if ((sig2 ++ l).drop sig.length).headD 0 = 40 then 2 else 0, (sig2 ++ l).drop sig.length)]) = dc3 at ed et
        exact by refine ⟨?_, ?_, ?_, ?_, ?_, ?_, ?_, ?_, ?_, ?_, ?_, ?_, ?_, ?_, ?_, ?_⟩ <;> omega
      · refine ⟨t1, ⟨t2.1, t2.2.1, iD_app t2.1 t2.2.1 t2.2.2⟩, t3, fun t ht => ?_⟩
        show pp_fu mn2 (nm - 1) _ t = mn t
        unfold pp_fu
        rw [if_neg (by omega)]
        exact (t4 t (by omega)).trans (hmn t (by omega))
      · exact hF2
/-- a named declarator -/
def q54 (ts : List pp_T) (k : Nat) : pp_S → pp_S → Prop
  | (pos, op, c, tn, tl, wt, pn, scs, sd, sig, frm, rl, mn, dc, fc), (pos1, op1, c1, tn1, tl1, wt1, pn1, scs1, sd1, sig1, frm1, rl1, mn1, dc1, fc1) => (pos < pos1 ∧ pos1 ≤ ts.length ∧ op1 = op ∧ c1 + cr ts pos1 = c + cr ts pos ∧ c + pos1 ≤ c1 + pos ∧ pn1 = pn ∧ tl1 = tl ∧ wt1 = wt ∧ sd1.length + pos ≤ sd.length + pos1 ∧ 2 * dc1.length + c ≤ 2 * dc.length + c1 + 1 ∧ tn1 + 3 * c ≤ tn + 3 * c1 ∧ tn ≤ tn1 ∧ pp_tt dc1 + 9 * tn ≤ pp_tt dc + 9 * tn1 ∧ frm1.length = frm.length) ∧
    ∃ x, dc1[k]? = some x ∧ x.2.2.2.2.length + 3 * c + 3 * (pp_cs ts x.1).length ≤ 3 * c1 + 3 ∧ 1 ≤ (pp_cs ts x.1).length ∧ (x.2.2.2.1 = 2 → fc1 = sd.length + 1 ∧ sd1[sd.length]? = some (scs.length + 1))
theorem q54_d {k : Nat} {pos : Nat} {op : Nat} {c : Nat} {tn : Nat} {tl : Nat} {wt : Nat} {pn : Nat} {scs : List Nat} {sd : List Nat} {sig : List Int32} {frm : List Int32} {rl : Nat → Int32} {mn : Nat → Int32} {dc : List pp_D} {fc : Nat} {pos1 : Nat} {op1 : Nat} {c1 : Nat} {tn1 : Nat} {tl1 : Nat} {wt1 : Nat} {pn1 : Nat} {scs1 : List Nat} {sd1 : List Nat} {sig1 : List Int32} {frm1 : List Int32} {rl1 : Nat → Int32} {mn1 : Nat → Int32} {dc1 : List pp_D} {fc1 : Nat} (h : q54 ts k (pos, op, c, tn, tl, wt, pn, scs, sd, sig, frm, rl, mn, dc, fc) (pos1, op1, c1, tn1, tl1, wt1, pn1, scs1, sd1, sig1, frm1, rl1, mn1, dc1, fc1)) : (pos < pos1 ∧ pos1 ≤ ts.length ∧ op1 = op ∧ c1 + cr ts pos1 = c + cr ts pos ∧ c + pos1 ≤ c1 + pos ∧ pn1 = pn ∧ tl1 = tl ∧ wt1 = wt ∧ sd1.length + pos ≤ sd.length + pos1 ∧ 2 * dc1.length + c ≤ 2 * dc.length + c1 + 1 ∧ tn1 + 3 * c ≤ tn + 3 * c1 ∧ tn ≤ tn1 ∧ pp_tt dc1 + 9 * tn ≤ pp_tt dc + 9 * tn1 ∧ frm1.length = frm.length) ∧
    ∃ x, dc1[k]? = some x ∧ x.2.2.2.2.length + 3 * c + 3 * (pp_cs ts x.1).length ≤ 3 * c1 + 3 ∧ 1 ≤ (pp_cs ts x.1).length ∧ (x.2.2.2.1 = 2 → fc1 = sd.length + 1 ∧ sd1[sd.length]? = some (scs.length + 1)) := h
def dS54 (ts : List pp_T) (n : Nat) : Prop := ∀ s b ty, qI ts s → qS s → 3 + 72 ≤ n + 9 * pq_op s → pq_tl s + 4 * n ≤ 322 + 2 * pq_pos s → 2 * (pq_dc s).length + 1 ≤ pq_c s → b < pq_pos s → bOk ts (pq_mn s) b → tr (fun k s' => q54 ts k s s' ∧ qT s s') (pp_run ts n 54 b ty s)
theorem y54 (hl : tLen ts) (H : dS6 ts n 56 2) : dS54 ts (n + 1) := by
  intro s b ty hI hS hr ht hdc hbp hb
  obtain ⟨pos, op, c, tn, tl, wt, pn, scs, sd, sig, frm, rl, mn, dc, fc⟩ := s
  have hI := qI_d hI
  have hS' := qS_d hS
  have hr : 3 + 72 ≤ n + 1 + 9 * op := hr
  have ht : tl + 4 * (n + 1) ≤ 322 + 2 * pos := ht
  have hdc : 2 * dc.length + 1 ≤ c := hdc
  have hbp : b < pos := hbp
  have hb : bOk ts mn b := hb
  have h160 := hl.1
  refine tr_run (show tl + 20 ≤ 1200 by omega) ?_
  show tr _ (pp_54 ts (pp_run ts n) b ty (pos, op, c, tn, tl, wt, pn, scs, sd, sig, frm, rl, mn, dc, fc))
  unfold pp_54
  dsimp only [pp_z0]
  have l0 : ([] : List Int32).length = 0 := rfl
  refine tr_b (tr_c (H (pos, op, c, tn, tl + 1, wt + 0, pn, scs, sd, [], frm, rl, mn, dc, 0) 0 ?_ hS (show 2 + 72 ≤ n + 9 * op by omega) (show tl + 1 + 4 * n ≤ 322 + 2 * pos by omega) (by decide)) (fun nm pos2 op2 c2 tn2 tl2 wt2 pn2 scs2 sd2 sig2 frm2 rl2 mn2 dc2 fc2 h => ?_))
  · exact by refine ⟨?_, ?_, ?_, ?_, ?_, ?_, ?_, ?_, ?_, ?_, ?_, ?_⟩ <;> omega
  · obtain ⟨hn, hT, hF, hM⟩ := h
    have hn : qG ts (8 - op) (enm ts nm) (pos, op, c, tn, tl + 1, wt + 0, pn, scs, sd, [], frm, rl, mn, dc, 0) (pos2, op2, c2, tn2, tl2, wt2, pn2, scs2, sd2, sig2, frm2, rl2, mn2, dc2, fc2) := hn
    have hn := qG_d hn
    obtain ⟨t1, t2, t3, t4⟩ := qT_d hT
    obtain ⟨f1, f2, f3, f4⟩ := qF_d hF
    have h0 := hM.1 rfl
    have emn : mn2 b = mn b := t4 b hbp
    obtain ⟨m1, m2⟩ := hM.2.2 h0
    have m1 : pos ≤ nm - 1 := m1
    have m2 : nm - 1 < pos2 := m2
    have ee : enm ts nm = (pp_cs ts (nm - 1)).length := by unfold enm; rw [if_neg h0]
    have l2 := hl.2.1 (nm - 1) (by omega)
    refine tr_g ⟨bv_eq emn, h0⟩ ?_
    refine tr_b (tr_wb (bOk_eq hb emn) (by omega) (fun l hl1 hl3 hl40 => ?_))
    have eg : (sig2 ++ l).length = sig2.length + l.length := List.length_append
    have em8 := mul8 (g := 8 - op) (a := tn) (b := tn2) (by omega) (by omega)
    refine tr_de (st := 0) (tn0 := tn) ⟨by omega, t2.1, by omega, by omega, by omega, show tn + _ = _ by omega⟩ (fun v => ⟨⟨?_, ?_⟩, ?_⟩)
    · have ed : (dc2 ++ [(nm - 1, scs2.getLastD 0, scs2.length, if ty = 1 then 1 else if ((sig2 ++ l).drop 0).headD 0 = 40 then 2 else 0, (sig2 ++ l).drop 0)]).length = dc2.length + 1 := by rw [List.length_append]; rfl
      have et : pp_tt (dc2 ++ [(nm - 1, scs2.getLastD 0, scs2.length, if ty = 1 then 1 else if ((sig2 ++ l).drop 0).headD 0 = 40 then 2 else 0, (sig2 ++ l).drop 0)]) = pp_tt dc2 + (sig2 ++ l).length := by rw [tt_app]; rfl
      rw [ed, et]
      exact by refine ⟨?_, ?_, ?_, ?_, ?_, ?_, ?_, ?_, ?_, ?_, ?_, ?_, ?_, ?_⟩ <;> omega
    · refine ⟨_, by rw [List.getElem?_append_right (Nat.le_refl _), Nat.sub_self]; rfl, ?_, l2, fun h2 => ?_⟩
      · show (sig2 ++ l).length + 3 * c + 3 * (pp_cs ts (nm - 1)).length ≤ 3 * c2 + 3
        omega
      · have hh : (sig2 ++ l).head? = some 40 := by
          have h2 : (if ty = 1 then 1 else if (sig2 ++ l).headD 0 = 40 then 2 else 0) = 2 := h2
          split at h2
          · cases h2
          · split at h2
            · rename_i h3
              cases hs : sig2 ++ l with
              | nil => rw [hs] at h3; exact absurd h3 (by decide)
              | cons y ys => rw [hs] at h3; exact congrArg some h3
            · cases h2
        cases hs : sig2 with
        | nil => rw [hs] at hh; exact absurd hh hl40
        | cons y ys =>
          have : sig2.head? = some 40 := by rw [hs] at hh ⊢; exact hh
          exact f4 rfl this
    · refine ⟨t1, ⟨t2.1, t2.2.1, iD_app t2.1 t2.2.1 t2.2.2⟩, t3, fun t ht => ?_⟩
      show pp_fu mn2 (nm - 1) _ t = mn t
      unfold pp_fu
      rw [if_neg (by omega)]
      exact t4 t ht
end
