section
variable {ts : List pp_T} {n : Nat} {α : Type} {Q : α → pp_S → Prop}
theorem at_b {s : pp_S} {k : Int32} (hk : k ≠ 0) (e : (pp_at ts s == k) = true) : pq_pos s < ts.length := at_lt (by rw [show pp_k ts (pq_pos s) = k from beq_iff_eq.mp e]; exact hk)
theorem at_b2 {s : pp_S} {k l : Int32} (hk : k ≠ 0) (hl : l ≠ 0) (e : (pp_at ts s == k || pp_at ts s == l) = true) : pq_pos s < ts.length := by
  rw [Bool.or_eq_true] at e
  rcases e with e | e
  · exact at_b hk e
  · exact at_b hl e
theorem dig_len (n : Nat) : (pp_dig n).length ≤ 2 ∧ 1 ≤ (pp_dig n).length := by
  unfold pp_dig
  split
  · exact ⟨Nat.le_refl 2, show 1 ≤ 2 by decide⟩
  · exact ⟨show 1 ≤ 2 by decide, Nat.le_refl 1⟩
theorem x73 (hl : tLen ts) (H : xS ts n 63 6) : xS ts (n + 1) 73 1 := by
  intro s hI hS hr ht
  obtain ⟨pos, op, c, tn, tl, wt, pn, scs, sd, sig, frm, rl, mn, dc, fc⟩ := s
  have hI := qI_d hI
  have hr : 1 + 72 ≤ n + 1 + 9 * op := hr
  have ht : tl + 4 * (n + 1) ≤ 322 + 2 * pos := ht
  have h160 := hl.1
  refine tr_run (show tl + 20 ≤ 1200 by omega) ?_
  show tr _ (pp_73 ts (pp_run ts n) (pos, op, c, tn, tl, wt, pn, scs, sd, sig, frm, rl, mn, dc, fc))
  unfold pp_73
  refine tr_b (tr_exo hl rfl (by omega) (fun _ o8 hL l1 e1 => ?_))
  refine tr_b (tr_m (Q := fun (k : Nat) s => 2 * k + pos ≤ pq_pos s ∧ qL ts 0 0 (pos + 1, op + 1, c + (pp_cs ts pos).length, tn, tl, wt, pn, scs, sd, sig, frm, rl, mn, dc, fc) s ∧ qT (pos, op, c, tn, tl, wt, pn, scs, sd, sig, frm, rl, mn, dc, fc) s) (tr_i (fun h41 => tr_r ⟨?_, ?_, qT_r hS⟩) (fun h41 => tr_b (tr_c (H _ ?_ hS (show 6 + 72 ≤ n + 9 * (op + 1) by omega) (show tl + 3 + 4 * n ≤ 322 + 2 * (pos + 1) by omega)) (fun v pos1 op1 c1 tn1 tl1 wt1 pn1 scs1 sd1 sig1 frm1 rl1 mn1 dc1 fc1 h => ?_)))) (fun k s h => ?_))
  · show 2 * 0 + pos ≤ pos + 1; omega
  · exact by refine ⟨?_, ?_, ?_, ?_, ?_, ?_, ?_, ?_, ?_, ?_, ?_, ?_, ?_, ?_⟩ <;> omega
  · exact by refine ⟨?_, ?_, ?_, ?_, ?_, ?_, ?_, ?_, ?_, ?_, ?_, ?_⟩ <;> omega
  · obtain ⟨hn, hp, hT, hv⟩ := h
    have hp : pos + 1 < pos1 := hp
    have hn := qL_d hn
    refine tr_w (N := ts.length) (J := fun (k : Nat) s => 2 * k + pos ≤ pq_pos s ∧ qL ts 0 0 (pos + 1, op + 1, c + (pp_cs ts pos).length, tn, tl, wt, pn, scs, sd, sig, frm, rl, mn, dc, fc) s ∧ qT (pos, op, c, tn, tl, wt, pn, scs, sd, sig, frm, rl, mn, dc, fc) s) (fun k s h => ⟨_, rfl, at_b (by decide)⟩) (fun k s h hc => ?_) (fun k s h _ => h) 160 1 _ (show ts.length ≤ 160 + pos1 by omega) ⟨?_, ?_, ?_⟩
    · obtain ⟨pos2, op2, c2, tn2, tl2, wt2, pn2, scs2, sd2, sig2, frm2, rl2, mn2, dc2, fc2⟩ := s
      obtain ⟨g1, g2, g3⟩ := h
      have g1 : 2 * k + pos ≤ pos2 := g1
      have g2 := qL_d g2
      have hS2 := qT_S g3
      have h44 : pp_k ts pos2 = 44 := by simpa [pp_at] using hc
      refine tr_b (tr_tkn hl (by rw [h44]; rfl) (by rw [h44]; rfl) (by rw [h44]; decide) (by omega) (fun hL3 l3 e3 => ?_))
      refine tr_b (tr_c (H _ ?_ hS2 (show 6 + 72 ≤ n + 9 * op2 by omega) (show tl2 + 3 + 4 * n ≤ 322 + 2 * (pos2 + 1) by omega)) (fun v pos3 op3 c3 tn3 tl3 wt3 pn3 scs3 sd3 sig3 frm3 rl3 mn3 dc3 fc3 h => tr_r ⟨⟨?_, ?_, ?_⟩, ?_⟩))
      · obtain ⟨e, _⟩ := qT_d g3
        subst e
        exact by refine ⟨?_, ?_, ?_, ?_, ?_, ?_, ?_, ?_, ?_, ?_, ?_, ?_⟩ <;> omega
      all_goals obtain ⟨hn3, hp3, hT3, hv3⟩ := h
      all_goals have hp3 : pos2 + 1 < pos3 := hp3
      all_goals have hn3 := qL_d hn3
      · show 2 * (k + 1) + pos ≤ pos3; omega
      · exact by refine ⟨?_, ?_, ?_, ?_, ?_, ?_, ?_, ?_, ?_, ?_, ?_, ?_, ?_, ?_⟩ <;> omega
      · exact qT_t g3 (show qT (pos2, op2, c2, tn2, tl2, wt2, pn2, scs2, sd2, sig2, frm2, rl2, mn2, dc2, fc2) _ from ⟨(qT_d hT3).1, (qT_d hT3).2.1, (qT_d hT3).2.2.1, fun t ht => (qT_d hT3).2.2.2 t (by omega)⟩) (show pos ≤ pos2 by omega)
      · show pos2 < pos3; omega
    · show 2 * 1 + pos ≤ pos1; omega
    · exact by refine ⟨?_, ?_, ?_, ?_, ?_, ?_, ?_, ?_, ?_, ?_, ?_, ?_, ?_, ?_⟩ <;> omega
    · exact ⟨(qT_d hT).1, (qT_d hT).2.1, (qT_d hT).2.2.1, fun t ht => (qT_d hT).2.2.2 t (by omega)⟩
  · obtain ⟨pos1, op1, c1, tn1, tl1, wt1, pn1, scs1, sd1, sig1, frm1, rl1, mn1, dc1, fc1⟩ := s
    obtain ⟨g1, g2, g3⟩ := h
    have g1 : 2 * k + pos ≤ pos1 := g1
    have g2 := qL_d g2
    refine tr_b (tr_exs hl rfl rfl (by omega) (by omega) (fun _ hL2 l2 e2 => tr_g (show k < 100 by omega) (tr_pf ?_ ⟨?_, ?_, ?_, by decide⟩)))
    · have := (dig_len k).1
      show frm1.length + ((pp_dig k ++ [41]).length + 1) ≤ 640
      rw [List.length_append]
      show frm1.length + ((pp_dig k).length + 1 + 1) ≤ 640
      omega
    · have := (dig_len k).1
      have e : (frm1 ++ 40 :: (pp_dig k ++ [41])).length = frm1.length + (pp_dig k).length + 2 := by simp only [List.length_append, List.length_cons, List.length_nil]; omega
      exact by refine ⟨?_, ?_, ?_, ?_, ?_, ?_, ?_, ?_, ?_, ?_, ?_, ?_, ?_, ?_⟩ <;> omega
    · show pos < pos1 + 1; omega
    · exact qT_t g3 (show qT (pos1, op1, c1, tn1, tl1, wt1, pn1, scs1, sd1, sig1, frm1, rl1, mn1, dc1, fc1) _ from ⟨rfl, qT_S g3, fun _ _ h => h, fun _ _ => rfl⟩) (show pos ≤ pos1 by omega)
theorem x71 (hl : tLen ts) (H4 : xS ts n 74 1) (H2 : xS ts n 72 1) (H3 : xS ts n 73 1) : xS ts (n + 1) 71 2 := by
  intro s hI hS hr ht
  obtain ⟨pos, op, c, tn, tl, wt, pn, scs, sd, sig, frm, rl, mn, dc, fc⟩ := s
  have hI0 := hI
  have hI := qI_d hI
  have hr : 2 + 72 ≤ n + 1 + 9 * op := hr
  have ht : tl + 4 * (n + 1) ≤ 322 + 2 * pos := ht
  have h160 := hl.1
  refine tr_run (show tl + 20 ≤ 1200 by omega) ?_
  show tr _ (pp_71 ts (pp_run ts n) (pos, op, c, tn, tl, wt, pn, scs, sd, sig, frm, rl, mn, dc, fc))
  unfold pp_71
  refine tr_b (tr_c (H4 _ ?_ hS (show 1 + 72 ≤ n + 9 * op by omega) (show tl + 1 + 4 * n ≤ 322 + 2 * pos by omega)) (fun v pos1 op1 c1 tn1 tl1 wt1 pn1 scs1 sd1 sig1 frm1 rl1 mn1 dc1 fc1 h => ?_))
  · exact by refine ⟨?_, ?_, ?_, ?_, ?_, ?_, ?_, ?_, ?_, ?_, ?_, ?_⟩ <;> omega
  · obtain ⟨hn, hp, hT, hv⟩ := h
    have hp : pos < pos1 := hp
    have hn := qL_d hn
    refine tr_01 hv (tr_w (N := ts.length) (J := fun (k : Nat) s => k ≤ 1 ∧ pos < pq_pos s ∧ qL ts 0 0 (pos, op, c, tn, tl, wt, pn, scs, sd, sig, frm, rl, mn, dc, fc) s ∧ qT (pos, op, c, tn, tl, wt, pn, scs, sd, sig, frm, rl, mn, dc, fc) s) (fun k s h => ⟨_, rfl, at_b2 (by decide) (by decide)⟩) (fun k s h hc => ?_) (fun k s h _ => ⟨h.2.2.1, h.2.1, h.2.2.2, h.1⟩) 160 _ _ (show ts.length ≤ 160 + pos1 by omega) ⟨hv, hp, ?_, hT⟩)
    · obtain ⟨pos2, op2, c2, tn2, tl2, wt2, pn2, scs2, sd2, sig2, frm2, rl2, mn2, dc2, fc2⟩ := s
      obtain ⟨g0, g1, g2, g3⟩ := h
      have g1 : pos < pos2 := g1
      have g2 := qL_d g2
      have hS2 := qT_S g3
      have key : tr (fun v s' => qL ts 0 0 (pos2, op2, c2, tn2, tl2 + 0, wt2 + 0, pn2, scs2, sd2, sig2, frm2, rl2, mn2, dc2, fc2) s' ∧ pos2 < pq_pos s' ∧ qT (pos2, op2, c2, tn2, tl2, wt2, pn2, scs2, sd2, sig2, frm2, rl2, mn2, dc2, fc2) s' ∧ v ≤ 1) (if pp_at ts (pos2, op2, c2, tn2, tl2, wt2, pn2, scs2, sd2, sig2, frm2, rl2, mn2, dc2, fc2) = 91 then pp_run ts n 72 0 0 (pos2, op2, c2, tn2, tl2 + 0, wt2 + 0, pn2, scs2, sd2, sig2, frm2, rl2, mn2, dc2, fc2) else pp_run ts n 73 0 0 (pos2, op2, c2, tn2, tl2 + 0, wt2 + 0, pn2, scs2, sd2, sig2, frm2, rl2, mn2, dc2, fc2)) := by
        obtain ⟨e, _⟩ := qT_d g3
        subst e
        exact tr_i (fun _ => H2 _ (by refine ⟨?_, ?_, ?_, ?_, ?_, ?_, ?_, ?_, ?_, ?_, ?_, ?_⟩ <;> omega) hS2 (show 1 + 72 ≤ n + 9 * op2 by omega) (show tl2 + 0 + 4 * n ≤ 322 + 2 * pos2 by omega)) (fun _ => H3 _ (by refine ⟨?_, ?_, ?_, ?_, ?_, ?_, ?_, ?_, ?_, ?_, ?_, ?_⟩ <;> omega) hS2 (show 1 + 72 ≤ n + 9 * op2 by omega) (show tl2 + 0 + 4 * n ≤ 322 + 2 * pos2 by omega))
      have ec : (if pp_at ts (pos2, op2, c2, tn2, tl2, wt2, pn2, scs2, sd2, sig2, frm2, rl2, mn2, dc2, fc2) = 91 then pp_c (pp_run ts n) 72 0 0 0 0 (pos2, op2, c2, tn2, tl2, wt2, pn2, scs2, sd2, sig2, frm2, rl2, mn2, dc2, fc2) else pp_c (pp_run ts n) 73 0 0 0 0 (pos2, op2, c2, tn2, tl2, wt2, pn2, scs2, sd2, sig2, frm2, rl2, mn2, dc2, fc2)) = pp_c (fun j a b s => if pp_at ts (pos2, op2, c2, tn2, tl2, wt2, pn2, scs2, sd2, sig2, frm2, rl2, mn2, dc2, fc2) = 91 then pp_run ts n 72 0 0 s else pp_run ts n 73 0 0 s) 72 0 0 0 0 (pos2, op2, c2, tn2, tl2, wt2, pn2, scs2, sd2, sig2, frm2, rl2, mn2, dc2, fc2) := by
        by_cases h : pp_at ts (pos2, op2, c2, tn2, tl2, wt2, pn2, scs2, sd2, sig2, frm2, rl2, mn2, dc2, fc2) = 91
        · rw [if_pos h]; simp only [pp_c, if_pos h]
        · rw [if_neg h]; simp only [pp_c, if_neg h]
      refine tr_b ?_
      rw [ec]
      refine tr_c key (fun v pos3 op3 c3 tn3 tl3 wt3 pn3 scs3 sd3 sig3 frm3 rl3 mn3 dc3 fc3 h => tr_r ⟨⟨Nat.le_refl _, ?_, ?_, ?_⟩, ?_⟩)
      all_goals obtain ⟨hn3, hp3, hT3, hv3⟩ := h
      all_goals have hp3 : pos2 < pos3 := hp3
      all_goals have hn3 := qL_d hn3
      · show pos < pos3; omega
      · exact by refine ⟨?_, ?_, ?_, ?_, ?_, ?_, ?_, ?_, ?_, ?_, ?_, ?_, ?_, ?_⟩ <;> omega
      · exact qT_t g3 hT3 (show pos ≤ pos2 by omega)
      · exact hp3
    · exact by refine ⟨?_, ?_, ?_, ?_, ?_, ?_, ?_, ?_, ?_, ?_, ?_, ?_, ?_, ?_⟩ <;> omega
theorem x64 (hl : tLen ts) {j r : Nat} {x y : Int32} (hx : pp_opens x = false ∧ pp_shuts x = false ∧ x ≠ 0) (hy : pp_opens y = false ∧ pp_shuts y = false ∧ y ≠ 0) (H : xS ts n j r) {s : pp_S} (hI : qI ts s) (hS : qS s) (hr : r + 1 + 72 ≤ n + 1 + 9 * pq_op s) (ht : pq_tl s + 4 * (n + 1) ≤ 322 + 2 * pq_pos s) : tr (fun v s' => qL ts 0 0 s s' ∧ pq_pos s < pq_pos s' ∧ qT s s' ∧ v ≤ 1) (pp_64 ts (pp_run ts n) j x y s) := by
  obtain ⟨pos, op, c, tn, tl, wt, pn, scs, sd, sig, frm, rl, mn, dc, fc⟩ := s
  have hI := qI_d hI
  have hr : r + 1 + 72 ≤ n + 1 + 9 * op := hr
  have ht : tl + 4 * (n + 1) ≤ 322 + 2 * pos := ht
  have h160 := hl.1
  unfold pp_64
  refine tr_b (tr_c (H _ ?_ hS (show r + 72 ≤ n + 9 * op by omega) (show tl + 1 + 4 * n ≤ 322 + 2 * pos by omega)) (fun v pos1 op1 c1 tn1 tl1 wt1 pn1 scs1 sd1 sig1 frm1 rl1 mn1 dc1 fc1 h => ?_))
  · exact by refine ⟨?_, ?_, ?_, ?_, ?_, ?_, ?_, ?_, ?_, ?_, ?_, ?_⟩ <;> omega
  · obtain ⟨hn, hp, hT, hv⟩ := h
    have hp : pos < pos1 := hp
    have hn := qL_d hn
    refine tr_01 hv (tr_w (N := ts.length) (J := fun (k : Nat) s => k ≤ 1 ∧ pos < pq_pos s ∧ qL ts 0 0 (pos, op, c, tn, tl, wt, pn, scs, sd, sig, frm, rl, mn, dc, fc) s ∧ qT (pos, op, c, tn, tl, wt, pn, scs, sd, sig, frm, rl, mn, dc, fc) s) (fun k s h => ⟨_, rfl, at_b2 hx.2.2 hy.2.2⟩) (fun k s h hc => ?_) (fun k s h _ => ⟨h.2.2.1, h.2.1, h.2.2.2, h.1⟩) 160 _ _ (show ts.length ≤ 160 + pos1 by omega) ⟨hv, hp, ?_, hT⟩)
    · obtain ⟨pos2, op2, c2, tn2, tl2, wt2, pn2, scs2, sd2, sig2, frm2, rl2, mn2, dc2, fc2⟩ := s
      obtain ⟨g0, g1, g2, g3⟩ := h
      have g1 : pos < pos2 := g1
      have g2 := qL_d g2
      have hS2 := qT_S g3
      have hxy : pp_k ts pos2 = x ∨ pp_k ts pos2 = y := by simpa [pp_at] using hc
      have hk : pp_opens (pp_k ts pos2) = false ∧ pp_shuts (pp_k ts pos2) = false ∧ pp_k ts pos2 ≠ 0 := by
        rcases hxy with h | h
        · rw [h]; exact hx
        · rw [h]; exact hy
      refine tr_b (tr_tkn hl hk.2.1 hk.1 hk.2.2 (by omega) (fun hL3 l3 e3 => ?_))
      refine tr_b (tr_c (H _ ?_ hS2 (show r + 72 ≤ n + 9 * op2 by omega) (show tl2 + 2 + 4 * n ≤ 322 + 2 * (pos2 + 1) by omega)) (fun v pos3 op3 c3 tn3 tl3 wt3 pn3 scs3 sd3 sig3 frm3 rl3 mn3 dc3 fc3 h => tr_b (tr_pf ?_ (tr_r ⟨⟨by decide, ?_, ?_, ?_⟩, ?_⟩))))
      · obtain ⟨e, _⟩ := qT_d g3
        subst e
        exact by refine ⟨?_, ?_, ?_, ?_, ?_, ?_, ?_, ?_, ?_, ?_, ?_, ?_⟩ <;> omega
      all_goals obtain ⟨hn3, hp3, hT3, hv3⟩ := h
      all_goals have hp3 : pos2 + 1 < pos3 := hp3
      all_goals have hn3 := qL_d hn3
      · show frm3.length + 1 ≤ 640; omega
      · show pos < pos3; omega
      · have e : (frm3 ++ [pp_k ts pos2]).length = frm3.length + 1 := by rw [List.length_append]; rfl
        exact by refine ⟨?_, ?_, ?_, ?_, ?_, ?_, ?_, ?_, ?_, ?_, ?_, ?_, ?_, ?_⟩ <;> omega
      · exact qT_t g3 (show qT (pos2, op2, c2, tn2, tl2, wt2, pn2, scs2, sd2, sig2, frm2, rl2, mn2, dc2, fc2) _ from ⟨(qT_d hT3).1, (qT_d hT3).2.1, (qT_d hT3).2.2.1, fun t ht => (qT_d hT3).2.2.2 t (by omega)⟩) (show pos ≤ pos2 by omega)
      · show pos2 < pos3; omega
    · exact by refine ⟨?_, ?_, ?_, ?_, ?_, ?_, ?_, ?_, ?_, ?_, ?_, ?_, ?_, ?_⟩ <;> omega
theorem x645 (hl : tLen ts) (H : xS ts n 65 4) : xS ts (n + 1) 64 5 := by
  intro s hI hS hr ht
  refine tr_run ?_ (x64 hl (by decide) (by decide) H hI hS hr ht)
  obtain ⟨pos, op, c, tn, tl, wt, pn, scs, sd, sig, frm, rl, mn, dc, fc⟩ := s
  have hI := qI_d hI
  have ht : tl + 4 * (n + 1) ≤ 322 + 2 * pos := ht
  have h160 := hl.1
  show tl + 20 ≤ 1200; omega
theorem x656 (hl : tLen ts) (H : xS ts n 66 3) : xS ts (n + 1) 65 4 := by
  intro s hI hS hr ht
  refine tr_run ?_ (x64 hl (by decide) (by decide) H hI hS hr ht)
  obtain ⟨pos, op, c, tn, tl, wt, pn, scs, sd, sig, frm, rl, mn, dc, fc⟩ := s
  have hI := qI_d hI
  have ht : tl + 4 * (n + 1) ≤ 322 + 2 * pos := ht
  have h160 := hl.1
  show tl + 20 ≤ 1200; omega
theorem x63 (hl : tLen ts) (H : xS ts n 64 5) : xS ts (n + 1) 63 6 := by
  intro s hI hS hr ht
  obtain ⟨pos, op, c, tn, tl, wt, pn, scs, sd, sig, frm, rl, mn, dc, fc⟩ := s
  have hI := qI_d hI
  have hr : 6 + 72 ≤ n + 1 + 9 * op := hr
  have ht : tl + 4 * (n + 1) ≤ 322 + 2 * pos := ht
  have h160 := hl.1
  refine tr_run (show tl + 20 ≤ 1200 by omega) ?_
  show tr _ (pp_63 ts (pp_run ts n) (pos, op, c, tn, tl, wt, pn, scs, sd, sig, frm, rl, mn, dc, fc))
  unfold pp_63
  refine tr_b (tr_c (H _ ?_ hS (show 5 + 72 ≤ n + 9 * op by omega) (show tl + 1 + 4 * n ≤ 322 + 2 * pos by omega)) (fun v pos1 op1 c1 tn1 tl1 wt1 pn1 scs1 sd1 sig1 frm1 rl1 mn1 dc1 fc1 h => ?_))
  · exact by refine ⟨?_, ?_, ?_, ?_, ?_, ?_, ?_, ?_, ?_, ?_, ?_, ?_⟩ <;> omega
  · obtain ⟨hn, hp, hT, hv⟩ := h
    have hp : pos < pos1 := hp
    have hn := qL_d hn
    refine tr_01 hv (tr_b (tr_w (N := ts.length) (J := fun (k : Nat × Nat) s => k.2 ≤ 1 ∧ k.1 + pos < pq_pos s ∧ qL ts k.1 0 (pos, op, c, tn, tl, wt, pn, scs, sd, sig, frm, rl, mn, dc, fc) s ∧ qT (pos, op, c, tn, tl, wt, pn, scs, sd, sig, frm, rl, mn, dc, fc) s) (fun k s h => ⟨_, rfl, fun e => at_b (k := 61) (by decide) (by rw [Bool.and_eq_true] at e; exact e.2)⟩) (fun k s h hc => ?_) (fun k s h _ => ?_) 160 _ _ (show ts.length ≤ 160 + pos1 by omega) ⟨hv, show 0 + pos < pos1 by omega, ?_, hT⟩))
    · obtain ⟨pos2, op2, c2, tn2, tl2, wt2, pn2, scs2, sd2, sig2, frm2, rl2, mn2, dc2, fc2⟩ := s
      obtain ⟨a, p⟩ := k
      obtain ⟨g0, g1, g2, g3⟩ := h
      have g1 : a + pos < pos2 := g1
      have g2 := qL_d g2
      have hS2 := qT_S g3
      have h61 : pp_k ts pos2 = 61 := by
        have hc : some (Nat.beq p 1 && pp_at ts (pos2, op2, c2, tn2, tl2, wt2, pn2, scs2, sd2, sig2, frm2, rl2, mn2, dc2, fc2) == 61) = some true := hc
        have hc := Option.some.inj hc
        rw [Bool.and_eq_true] at hc
        simpa [pp_at] using hc.2
      refine tr_b (tr_tkn hl (by rw [h61]; rfl) (by rw [h61]; rfl) (by rw [h61]; decide) (by omega) (fun hL3 l3 e3 => ?_))
      refine tr_b (tr_c (H _ ?_ hS2 (show 5 + 72 ≤ n + 9 * op2 by omega) (show tl2 + (a + 2) + 4 * n ≤ 322 + 2 * (pos2 + 1) by omega)) (fun v pos3 op3 c3 tn3 tl3 wt3 pn3 scs3 sd3 sig3 frm3 rl3 mn3 dc3 fc3 h => ?_))
      · obtain ⟨e, _⟩ := qT_d g3
        subst e
        exact by refine ⟨?_, ?_, ?_, ?_, ?_, ?_, ?_, ?_, ?_, ?_, ?_, ?_⟩ <;> omega
      obtain ⟨hn3, hp3, hT3, hv3⟩ := h
      have hp3 : pos2 + 1 < pos3 := hp3
      have hn3 := qL_d hn3
      refine tr_01 hv3 (tr_r ⟨⟨hv3, ?_, ?_, ?_⟩, ?_⟩)
      · show a + 1 + pos < pos3; omega
      · exact by refine ⟨?_, ?_, ?_, ?_, ?_, ?_, ?_, ?_, ?_, ?_, ?_, ?_, ?_, ?_⟩ <;> omega
      · exact qT_t g3 (show qT (pos2, op2, c2, tn2, tl2, wt2, pn2, scs2, sd2, sig2, frm2, rl2, mn2, dc2, fc2) _ from ⟨(qT_d hT3).1, (qT_d hT3).2.1, (qT_d hT3).2.2.1, fun t ht => (qT_d hT3).2.2.2 t (by omega)⟩) (show pos ≤ pos2 by omega)
      · show pos2 < pos3; omega
    · obtain ⟨pos2, op2, c2, tn2, tl2, wt2, pn2, scs2, sd2, sig2, frm2, rl2, mn2, dc2, fc2⟩ := s
      obtain ⟨a, p⟩ := k
      obtain ⟨g0, g1, g2, g3⟩ := h
      have g1 : a + pos < pos2 := g1
      have g2' := g2
      have g2 := qL_d g2
      have hS2 := qT_S g3
      refine tr_b (tr_m (Q := fun _ s => a + pos < pq_pos s ∧ qL ts a 0 (pos, op, c, tn, tl, wt, pn, scs, sd, sig, frm, rl, mn, dc, fc) s ∧ qT (pos, op, c, tn, tl, wt, pn, scs, sd, sig, frm, rl, mn, dc, fc) s) (tr_i (fun h60 => ?_) (fun _ => tr_r ⟨g1, g2', g3⟩)) (fun _ s h => ?_))
      · have h60 : pp_k ts pos2 = 60 := h60
        refine tr_b (tr_tkn hl (by rw [h60]; rfl) (by rw [h60]; rfl) (by rw [h60]; decide) (by omega) (fun hL3 l3 e3 => ?_))
        refine tr_b (tr_c (H _ ?_ hS2 (show 5 + 72 ≤ n + 9 * op2 by omega) (show tl2 + (a + 1) + 4 * n ≤ 322 + 2 * (pos2 + 1) by omega)) (fun v pos3 op3 c3 tn3 tl3 wt3 pn3 scs3 sd3 sig3 frm3 rl3 mn3 dc3 fc3 h => tr_pf ?_ ⟨?_, ?_, ?_⟩))
        · obtain ⟨e, _⟩ := qT_d g3
          subst e
          exact by refine ⟨?_, ?_, ?_, ?_, ?_, ?_, ?_, ?_, ?_, ?_, ?_, ?_⟩ <;> omega
        all_goals obtain ⟨hn3, hp3, hT3, hv3⟩ := h
        all_goals have hp3 : pos2 + 1 < pos3 := hp3
        all_goals have hn3 := qL_d hn3
        · show frm3.length + 1 ≤ 640; omega
        · show a + pos < pos3; omega
        · have e : (frm3 ++ [(60 : Int32)]).length = frm3.length + 1 := by rw [List.length_append]; rfl
          exact by refine ⟨?_, ?_, ?_, ?_, ?_, ?_, ?_, ?_, ?_, ?_, ?_, ?_, ?_, ?_⟩ <;> omega
        · exact qT_t g3 (show qT (pos2, op2, c2, tn2, tl2, wt2, pn2, scs2, sd2, sig2, frm2, rl2, mn2, dc2, fc2) _ from ⟨(qT_d hT3).1, (qT_d hT3).2.1, (qT_d hT3).2.2.1, fun t ht => (qT_d hT3).2.2.2 t (by omega)⟩) (show pos ≤ pos2 by omega)
      · obtain ⟨pos4, op4, c4, tn4, tl4, wt4, pn4, scs4, sd4, sig4, frm4, rl4, mn4, dc4, fc4⟩ := s
        obtain ⟨f1, f2, f3⟩ := h
        have f1 : a + pos < pos4 := f1
        have f2 := qL_d f2
        refine tr_pf ?_ ⟨?_, ?_, ?_, by decide⟩
        · rw [List.length_replicate]
          show frm4.length + a ≤ 640; omega
        · have e : (frm4 ++ List.replicate (a, p).1 (61 : Int32)).length = frm4.length + a := by rw [List.length_append, List.length_replicate]
          exact by refine ⟨?_, ?_, ?_, ?_, ?_, ?_, ?_, ?_, ?_, ?_, ?_, ?_, ?_, ?_⟩ <;> omega
        · show pos < pos4; omega
        · exact qT_t f3 (show qT (pos4, op4, c4, tn4, tl4, wt4, pn4, scs4, sd4, sig4, frm4, rl4, mn4, dc4, fc4) _ from ⟨rfl, qT_S f3, fun _ _ h => h, fun _ _ => rfl⟩) (show pos ≤ pos4 by omega)
    · show qL ts 0 0 (pos, op, c, tn, tl, wt, pn, scs, sd, sig, frm, rl, mn, dc, fc) (pos1, op1, c1, tn1, tl, wt, pn1, scs1, sd1, sig1, frm1, rl1, mn1, dc1, fc1)
      exact by refine ⟨?_, ?_, ?_, ?_, ?_, ?_, ?_, ?_, ?_, ?_, ?_, ?_, ?_, ?_⟩ <;> omega
end
