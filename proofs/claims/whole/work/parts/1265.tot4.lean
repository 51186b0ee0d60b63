section
variable {ts : List pp_T} {n : Nat}
theorem p67_ok {s : pp_S} (hS : qS s) : ∃ y, pp_67 ts s = some y ∧ (y = true → pp_at ts s = 40 ∨ (pp_at ts s = 45 ∨ pp_at ts s = 42 ∨ pp_at ts s = 38 ∨ pp_at ts s = 33 ∨ pp_at ts s = 12)) := by
  unfold pp_67
  by_cases h : pp_at ts s = 45 ∨ pp_at ts s = 42 ∨ pp_at ts s = 38 ∨ pp_at ts s = 33 ∨ pp_at ts s = 12
  · rw [if_pos h]; exact ⟨true, rfl, fun _ => Or.inr h⟩
  · rw [if_neg h]
    by_cases h40 : pp_at ts s = 40
    · rw [if_pos h40]
      obtain ⟨pos, op, c, tn, tl, wt, pn, scs, sd, sig, frm, rl, mn, dc, fc⟩ := s
      obtain ⟨b, hb, _⟩ := ib_ok (ts := ts) (s := (pos, op, c, tn, tl, wt, pn, scs, sd, sig, frm, rl, mn, dc, fc)) hS.2.2 hS.2.1 (pos + 1)
      exact ⟨b, hb, fun _ => Or.inl h40⟩
    · rw [if_neg h40]; exact ⟨false, rfl, fun e => (nomatch e)⟩
theorem ou_c {x : Int32} {t : List Int32} {l : List (Int32 × List Int32)} : (pp_ou ((x, t) :: l)).length = 1 + (if x = 91 then t.length + 1 else 0) + (pp_ou l).length := by
  unfold pp_ou
  rw [List.flatMap_cons, List.length_append]
  by_cases h : x = 91
  · simp only [if_pos h, List.length_cons, List.length_append, List.length_nil]; omega
  · simp only [if_neg h, List.length_cons, List.length_nil]
theorem wl_c {x : Int32} {t : List Int32} {l : List (Int32 × List Int32)} : pp_wl ((x, t) :: l) = t.length + 1 + pp_wl l := by
  unfold pp_wl
  rw [List.map_cons, List.sum_cons]
theorem x66 (hl : tLen ts) (H5 : dS5 ts n) (H1 : xS ts n 71 2) : xS ts (n + 1) 66 3 := by
  intro s hI hS hr ht
  obtain ⟨pos, op, c, tn, tl, wt, pn, scs, sd, sig, frm, rl, mn, dc, fc⟩ := s
  have hI := qI_d hI
  have hr : 3 + 72 ≤ n + 1 + 9 * op := hr
  have ht : tl + 4 * (n + 1) ≤ 322 + 2 * pos := ht
  have h160 := hl.1
  refine tr_run (show tl + 20 ≤ 1200 by omega) ?_
  show tr _ (pp_66 ts (pp_run ts n) (pos, op, c, tn, tl, wt, pn, scs, sd, sig, frm, rl, mn, dc, fc))
  unfold pp_66
  refine tr_b (tr_w (N := ts.length) (J := fun (a : pp_A) s => (a.2.2 = true ∨ a.1 ≠ []) ∧ a.1.length + pos ≤ pq_pos s ∧ pp_wl a.1 + 4 * c ≤ 4 * pq_c s ∧ qL ts (pp_ou a.1).length a.1.length (pos, op, c, tn, tl, wt, pn, scs, sd, sig, frm, rl, mn, dc, fc) s ∧ qT (pos, op, c, tn, tl, wt, pn, scs, sd, sig, frm, rl, mn, dc, fc) s) (fun a s h => ?_) (fun a s h hc => ?_) (fun a s h _ => ?_) 160 _ _ (show ts.length ≤ 160 + pos by omega) ⟨Or.inl rfl, show 0 + pos ≤ pos by omega, show 0 + 4 * c ≤ 4 * c by omega, ?_, qT_r hS⟩)
  · obtain ⟨y, hy, hy1⟩ := p67_ok (ts := ts) (qT_S h.2.2.2.2)
    by_cases ha : a.2.2 = true
    · simp only [if_pos ha]
      refine ⟨y, hy, fun e => at_lt ?_⟩
      have := hy1 e
      unfold pp_at at this
      intro e0
      rw [e0] at this
      exact absurd this (by decide)
    · simp only [if_neg ha]
      exact ⟨false, rfl, fun e => (nomatch e)⟩
  · obtain ⟨pos2, op2, c2, tn2, tl2, wt2, pn2, scs2, sd2, sig2, frm2, rl2, mn2, dc2, fc2⟩ := s
    obtain ⟨l, b1, b2⟩ := a
    obtain ⟨_, g0, g1, g2, g3⟩ := h
    have g0 : l.length + pos ≤ pos2 := g0
    have g1 : pp_wl l + 4 * c ≤ 4 * c2 := g1
    have g2 : qL ts (pp_ou l).length l.length (pos, op, c, tn, tl, wt, pn, scs, sd, sig, frm, rl, mn, dc, fc) (pos2, op2, c2, tn2, tl2, wt2, pn2, scs2, sd2, sig2, frm2, rl2, mn2, dc2, fc2) := g2
    have g2 := qL_d g2
    have hS2 := qT_S g3
    obtain ⟨es, _⟩ := qT_d g3
    have hk : pp_k ts pos2 = 40 ∨ (pp_k ts pos2 = 45 ∨ pp_k ts pos2 = 42 ∨ pp_k ts pos2 = 38 ∨ pp_k ts pos2 = 33 ∨ pp_k ts pos2 = 12) := by
      obtain ⟨y, hy, hy1⟩ := p67_ok (ts := ts) hS2
      have hc : (if b2 then pp_67 ts (pos2, op2, c2, tn2, tl2, wt2, pn2, scs2, sd2, sig2, frm2, rl2, mn2, dc2, fc2) else some false) = some true := hc
      cases b2 with
      | false => cases hc
      | true =>
        rw [if_pos rfl, hy] at hc
        exact hy1 (Option.some.inj hc)
    unfold pp_66b
    refine tr_g (show tl2 + 2 * l.length + 30 ≤ 1200 by omega) ?_
    rcases hk with h40 | hk
    · refine tr_b (tr_tko hl (by rw [h40]; rfl) (by omega) (fun o8 hL3 l3 e3 => ?_))
      rw [if_pos (show pp_68 (pp_k ts pos2) = 91 by rw [h40]; rfl)]
      have hwt : wt2 + pp_wl l + 700 ≤ 2400 := by omega
      dsimp only [pq_wt, pp_z]
      rw [if_pos hwt]
      refine tr_b (tr_c (m := 2 * l.length + 3) (x := pp_wl l) (H5 (pos2 + 1, op2 + 1, c2 + (pp_cs ts pos2).length, tn2, tl2 + (2 * l.length + 3), wt2 + pp_wl l, pn2, scs2, sd2, [], frm2, rl2, mn2, dc2, fc2) 2 ?_ hS2 (show 3 + 72 ≤ n + 9 * (op2 + 1) by omega) (show tl2 + (2 * l.length + 3) + 4 * n ≤ 322 + 2 * (pos2 + 1) by omega) (by decide) (by decide)) (fun v pos3 op3 c3 tn3 tl3 wt3 pn3 scs3 sd3 sig3 frm3 rl3 mn3 dc3 fc3 h => ?_))
      · subst es
        exact by refine ⟨?_, ?_, ?_, ?_, ?_, ?_, ?_, ?_, ?_, ?_, ?_, ?_⟩ <;> omega
      · obtain ⟨hn3, hT3, _⟩ := h
        have hn3 := qD5_d hn3
        have hs3 : sig3.length + tn2 = 0 + tn3 := hn3.2.2.2.2.2.2.2.2.2.2.2.2.2.2.1
        refine tr_b (tr_exs hl rfl rfl (by omega) (by omega) (fun _ hL4 l4 e4 => ?_))
        refine tr_g (show tn3 = tn2 + sig3.length by omega) ?_
        refine tr_b (tr_pu (by omega) (tr_r ⟨⟨Or.inr (by intro e; cases e), ?_, ?_, ?_, ?_⟩, ?_⟩))
        · show l.length + 1 + pos ≤ pos3 + 1; omega
        · have e : pp_wl ((91, sig3) :: l) = sig3.length + 1 + pp_wl l := wl_c
          show pp_wl ((91, sig3) :: l) + 4 * c ≤ 4 * (c3 + (pp_cs ts pos3).length)
          omega
        · have e : (pp_ou ((91, sig3) :: l)).length = 1 + (sig3.length + 1) + (pp_ou l).length := by rw [ou_c, if_pos rfl]
          show qL ts (pp_ou ((91, sig3) :: l)).length (l.length + 1) (pos, op, c, tn, tl, wt, pn, scs, sd, sig, frm, rl, mn, dc, fc) (pos3 + 1, op3 - 1, c3 + (pp_cs ts pos3).length, tn3, tl2, wt2, pn3 + 1, scs3, sd3, sig3, frm3, rl3, mn3, dc3, fc3)
          rw [e]
          exact by refine ⟨?_, ?_, ?_, ?_, ?_, ?_, ?_, ?_, ?_, ?_, ?_, ?_, ?_, ?_⟩ <;> omega
        · exact qT_t g3 (show qT (pos2, op2, c2, tn2, tl2, wt2, pn2, scs2, sd2, sig2, frm2, rl2, mn2, dc2, fc2) _ from ⟨(qT_d hT3).1, (qT_d hT3).2.1, (qT_d hT3).2.2.1, fun t ht => (qT_d hT3).2.2.2 t (by omega)⟩) (show pos ≤ pos2 by omega)
        · show pos2 < pos3 + 1; omega
    · have hk2 : pp_opens (pp_k ts pos2) = false ∧ pp_shuts (pp_k ts pos2) = false ∧ pp_k ts pos2 ≠ 0 ∧ ¬ pp_68 (pp_k ts pos2) = 91 := by
        rcases hk with h | h | h | h | h <;> rw [h] <;> decide
      refine tr_b (tr_tkn hl hk2.2.1 hk2.1 hk2.2.2.1 (by omega) (fun hL3 l3 e3 => ?_))
      rw [if_neg hk2.2.2.2]
      refine tr_b (tr_pu (by omega) (tr_r ⟨⟨Or.inr (by intro e; cases e), ?_, ?_, ?_, ?_⟩, ?_⟩))
      · show l.length + 1 + pos ≤ pos2 + 1; omega
      · have e : pp_wl ((pp_68 (pp_k ts pos2), []) :: l) = 0 + 1 + pp_wl l := wl_c
        show pp_wl ((pp_68 (pp_k ts pos2), []) :: l) + 4 * c ≤ 4 * (c2 + (pp_cs ts pos2).length)
        omega
      · have e : (pp_ou ((pp_68 (pp_k ts pos2), []) :: l)).length = 1 + 0 + (pp_ou l).length := by rw [ou_c, if_neg hk2.2.2.2]
        show qL ts (pp_ou ((pp_68 (pp_k ts pos2), []) :: l)).length (l.length + 1) (pos, op, c, tn, tl, wt, pn, scs, sd, sig, frm, rl, mn, dc, fc) (pos2 + 1, op2, c2 + (pp_cs ts pos2).length, tn2, tl2, wt2, pn2 + 1, scs2, sd2, sig2, frm2, rl2, mn2, dc2, fc2)
        rw [e]
        exact by refine ⟨?_, ?_, ?_, ?_, ?_, ?_, ?_, ?_, ?_, ?_, ?_, ?_, ?_, ?_⟩ <;> omega
      · exact qT_t g3 (show qT (pos2, op2, c2, tn2, tl2, wt2, pn2, scs2, sd2, sig2, frm2, rl2, mn2, dc2, fc2) _ from ⟨rfl, hS2, fun _ _ h => h, fun _ _ => rfl⟩) (show pos ≤ pos2 by omega)
      · show pos2 < pos2 + 1; omega
  · obtain ⟨pos2, op2, c2, tn2, tl2, wt2, pn2, scs2, sd2, sig2, frm2, rl2, mn2, dc2, fc2⟩ := s
    obtain ⟨l, b1, b2⟩ := a
    obtain ⟨gb, g0, g1, g2, g3⟩ := h
    have g0 : l.length + pos ≤ pos2 := g0
    have g1 : pp_wl l + 4 * c ≤ 4 * c2 := g1
    have g2 : qL ts (pp_ou l).length l.length (pos, op, c, tn, tl, wt, pn, scs, sd, sig, frm, rl, mn, dc, fc) (pos2, op2, c2, tn2, tl2, wt2, pn2, scs2, sd2, sig2, frm2, rl2, mn2, dc2, fc2) := g2
    have g2' := g2
    have g2 := qL_d g2
    have hS2 := qT_S g3
    obtain ⟨es, _⟩ := qT_d g3
    refine tr_b (tr_m (Q := fun p s => p ≤ 1 ∧ pos < pq_pos s ∧ qL ts (pp_ou l).length l.length (pos, op, c, tn, tl, wt, pn, scs, sd, sig, frm, rl, mn, dc, fc) s ∧ qT (pos, op, c, tn, tl, wt, pn, scs, sd, sig, frm, rl, mn, dc, fc) s) (tr_i (fun hb => ?_) (fun hb => tr_r ⟨by decide, ?_, g2', g3⟩)) (fun p s h => ?_))
    · refine tr_c (H1 (pos2, op2, c2, tn2, tl2 + 2 * l.length, wt2 + pp_wl l, pn2, scs2, sd2, sig2, frm2, rl2, mn2, dc2, fc2) ?_ hS2 (show 2 + 72 ≤ n + 9 * op2 by omega) (show tl2 + 2 * l.length + 4 * n ≤ 322 + 2 * pos2 by omega)) (fun v pos3 op3 c3 tn3 tl3 wt3 pn3 scs3 sd3 sig3 frm3 rl3 mn3 dc3 fc3 h => ?_)
      · subst es
        exact by refine ⟨?_, ?_, ?_, ?_, ?_, ?_, ?_, ?_, ?_, ?_, ?_, ?_⟩ <;> omega
      · obtain ⟨hn3, hp3, hT3, hv3⟩ := h
        have hp3 : pos2 < pos3 := hp3
        have hn3 := qL_d hn3
        refine ⟨hv3, show pos < pos3 by omega, ?_, qT_t g3 hT3 (show pos ≤ pos2 by omega)⟩
        exact by refine ⟨?_, ?_, ?_, ?_, ?_, ?_, ?_, ?_, ?_, ?_, ?_, ?_, ?_, ?_⟩ <;> omega
    · rcases gb with e | e
      · exact absurd e hb
      · have : 1 ≤ l.length := List.length_pos_iff.mpr e
        show pos < pos2; omega
    · obtain ⟨pos4, op4, c4, tn4, tl4, wt4, pn4, scs4, sd4, sig4, frm4, rl4, mn4, dc4, fc4⟩ := s
      obtain ⟨f0, f1, f2, f3⟩ := h
      have f1 : pos < pos4 := f1
      have f2 := qL_d f2
      refine tr_01 f0 (tr_b (tr_pf (show frm4.length + (pp_ou l).length ≤ 640 by omega) (tr_r ⟨?_, f1, ?_, ?_⟩)))
      · have e : (frm4 ++ pp_ou l).length = frm4.length + (pp_ou l).length := List.length_append
        show qL ts 0 0 (pos, op, c, tn, tl, wt, pn, scs, sd, sig, frm, rl, mn, dc, fc) (pos4, op4, c4, tn4, tl4, wt4, pn, scs4, sd4, sig4, frm4 ++ pp_ou l, rl4, mn4, dc4, fc4)
        exact by refine ⟨?_, ?_, ?_, ?_, ?_, ?_, ?_, ?_, ?_, ?_, ?_, ?_, ?_, ?_⟩ <;> omega
      · exact qT_t f3 (show qT (pos4, op4, c4, tn4, tl4, wt4, pn4, scs4, sd4, sig4, frm4, rl4, mn4, dc4, fc4) _ from ⟨rfl, qT_S f3, fun _ _ h => h, fun _ _ => rfl⟩) (show pos ≤ pos4 by omega)
      · split
        · exact f0
        · split <;> decide
  · show qL ts 0 0 (pos, op, c, tn, tl, wt, pn, scs, sd, sig, frm, rl, mn, dc, fc) (pos, op, c, tn, tl, wt, pn, scs, sd, sig, frm, rl, mn, dc, fc)
    exact by refine ⟨?_, ?_, ?_, ?_, ?_, ?_, ?_, ?_, ?_, ?_, ?_, ?_, ?_, ?_⟩ <;> omega
end
