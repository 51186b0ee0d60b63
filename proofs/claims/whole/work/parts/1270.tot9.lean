section
variable {ts : List pp_T} {n : Nat}
/-- specifiers -/
theorem y79 (hl : tLen ts) {pos : Nat} {op : Nat} {c : Nat} {tn : Nat} {tl : Nat} {wt : Nat} {pn : Nat} {scs : List Nat} {sd : List Nat} {sig : List Int32} {frm : List Int32} {rl : Nat → Int32} {mn : Nat → Int32} {dc : List pp_D} {fc : Nat} {Q : Nat → pp_S → Prop} (hS : qS (pos, op, c, tn, tl, wt, pn, scs, sd, sig, frm, rl, mn, dc, fc)) (ho : op ≤ 8) (hd : dc.length ≤ 80) (K : ∀ b pos1 c1 rl1 mn1, pos < pos1 → pos1 ≤ ts.length → b < pos1 → pos ≤ b → (∀ t, t < pos → mn1 t = mn t) → bOk ts mn1 b → c1 + cr ts pos1 = c + cr ts pos → c + pos1 ≤ c1 + pos → Q b (pos1, op, c1, tn, tl, wt, pn, scs, sd, sig, frm, rl1, mn1, dc, fc)) : tr Q (pp_79 ts (pos, op, c, tn, tl, wt, pn, scs, sd, sig, frm, rl, mn, dc, fc)) := by
  unfold pp_79
  refine tr_i (fun h4 => ?_) (fun _ => ?_)
  · have h4 : pp_k ts pos = 4 := h4
    refine tr_b (tr_tkn hl (by rw [h4]; rfl) (by rw [h4]; rfl) (by rw [h4]; decide) ho (fun hL l1 e1 => ?_))
    exact tr_base hl hS ho hd (fun rl' mn' h1 h2 h3 h4 h5 => K _ _ _ _ _ (by omega) (by omega) (by omega) (by omega) (fun t ht => h1 t (by omega)) h2 (by omega) (by omega))
  · refine tr_b (tr_base hl hS ho hd (fun rl' mn' h1 h2 h3 l1 e1 => tr_i (fun h4 => ?_) (fun _ => tr_r (K _ _ _ _ _ (by omega) (by omega) (by omega) (by omega) (fun t ht => h1 t (by omega)) h2 (by omega) (by omega)))))
    have h4 : pp_k ts (pos + 1) = 4 := h4
    exact tr_b (tr_tkn hl (by rw [h4]; rfl) (by rw [h4]; rfl) (by rw [h4]; decide) ho (fun hL l2 e2 => tr_r (K _ _ _ _ _ (by omega) (by omega) (by omega) (by omega) (fun t ht => h1 t (by omega)) h2 (by omega) (by omega))))
theorem bv_lt {s : pp_S} {b : Nat} (hb : bOk ts (pq_mn s) b) : (pp_bv ts s b).toNatClampNeg < 2000 ∧ pp_bv ts s b = Int32.ofNat (pp_bv ts s b).toNatClampNeg := by
  unfold pp_bv
  rcases hb with (h | h | h) | ⟨h, k, hk, he⟩
  · rw [h, if_pos rfl]; decide
  · rw [h, if_neg (by decide), if_pos rfl]; decide
  · rw [h, if_neg (by decide), if_neg (by decide), if_pos rfl]; decide
  · rw [h, if_neg (by decide), if_neg (by decide), if_neg (by decide), he]
    have e : (1000 : Int32) + Int32.ofNat k = nI (1000 + k) := (Int32.ofNat_add 1000 k).symm
    rw [e, nI_clamp (by omega)]
    exact ⟨by omega, rfl⟩
theorem tr_80 {pos : Nat} {op : Nat} {c : Nat} {tn : Nat} {tl : Nat} {wt : Nat} {pn : Nat} {scs : List Nat} {sd : List Nat} {sig : List Int32} {frm : List Int32} {rl : Nat → Int32} {mn : Nat → Int32} {dc : List pp_D} {fc : Nat} {Q : Nat → pp_S → Prop} {k : Nat} {x : pp_D} (hx : dc[k]? = some x) (h : frm.length + (2 + (pp_cs ts x.1).length + x.2.2.2.2.length) ≤ 640) (K : ∀ l : List Int32, l.length ≤ 2 + (pp_cs ts x.1).length + x.2.2.2.2.length → Q 0 (pos, op, c, tn, tl, wt, pn, scs, sd, sig, frm ++ l, rl, mn, dc, fc)) : tr Q (pp_80 ts k (pos, op, c, tn, tl, wt, pn, scs, sd, sig, frm, rl, mn, dc, fc)) := by
  unfold pp_80
  have hx' : (pq_dc (pos, op, c, tn, tl, wt, pn, scs, sd, sig, frm, rl, mn, dc, fc))[k]? = some x := hx
  rw [hx']
  have e : ((if x.2.2.2.1 = 1 then [(35 : Int32)] else []) ++ (pp_cs ts x.1 ++ (58 :: x.2.2.2.2))).length ≤ 2 + (pp_cs ts x.1).length + x.2.2.2.2.length := by
    rw [List.length_append, List.length_append]
    show _ + (_ + (x.2.2.2.2.length + 1)) ≤ _
    by_cases h1 : x.2.2.2.1 = 1
    · rw [if_pos h1]; show 1 + _ ≤ _; omega
    · rw [if_neg h1]; show 0 + _ ≤ _; omega
  exact tr_pf (by omega) (K _ e)
/-- a statement or declaration always answers -/
def sS (ts : List pp_T) (n j r a : Nat) : Prop := ∀ s, qI ts s → qS s → r + 72 ≤ n + 9 * pq_op s → pq_tl s + 4 * n ≤ 322 + 2 * pq_pos s → tr (fun _ s' => qL ts 0 0 s s' ∧ pq_pos s < pq_pos s' ∧ qT s s') (pp_run ts n j a 0 s)
def dS81 (ts : List pp_T) (n : Nat) : Prop := ∀ pos op c tn tl wt pn scs sd sig frm rl mn dc fc q, qI ts (pos, op, c, tn, tl, wt, pn, scs, [], sig, frm, rl, mn, dc, fc) → sd.length ≤ pos + 2 → qS (pos, op, c, tn, tl, wt, pn, scs, sd, sig, frm, rl, mn, dc, fc) → sd[q]? = some (scs.length + 1) → 1 + 72 ≤ n + 9 * op → tl + 4 * n ≤ 322 + 2 * pos → tr (fun _ s' => qL ts 0 0 (pos, op, c, tn, tl, wt, pn, scs, sd, sig, frm, rl, mn, dc, fc) s' ∧ pos < pq_pos s' ∧ (pq_sd s').length + pos < sd.length + pq_pos s' ∧ qT (pos, op, c, tn, tl, wt, pn, scs, sd, sig, frm, rl, mn, dc, fc) s') (pp_run ts n 81 q 0 (pos, op, c, tn, tl, wt, pn, scs, sd, sig, frm, rl, mn, dc, fc))
def dS85 (ts : List pp_T) (n : Nat) : Prop := ∀ pos op c tn tl wt pn scs sd sig frm rl mn dc fc a, qI ts (pos, op + 1, c, tn, tl, wt, pn, scs, sd, sig, frm, rl, mn, dc, fc) → qS (pos, op, c, tn, tl, wt, pn, scs, sd, sig, frm, rl, mn, dc, fc) → scs.length ≤ op + 1 → 8 + 72 ≤ n + 9 * (op + 1) → tl + 4 * n ≤ 322 + 2 * pos → tr (fun _ s' => qL ts 0 0 (pos, op, c, tn, tl, wt, pn, scs, sd, sig, frm, rl, mn, dc, fc) s' ∧ pos < pq_pos s' ∧ qT (pos, op, c, tn, tl, wt, pn, scs, sd, sig, frm, rl, mn, dc, fc) s') (pp_run ts n 85 a 0 (pos, op + 1, c, tn, tl, wt, pn, scs, sd, sig, frm, rl, mn, dc, fc))
theorem so_eq {s : pp_S} {k : Nat} {x : pp_D} (h : (pq_dc s)[k]? = some x) : pp_so s k = x.2.2.2.1 := by
  unfold pp_so; rw [h]
theorem y78 (hl : tLen ts) {o : Nat} (H54 : dS54 ts n) (H63 : xS ts n 63 6) (H81 : dS81 ts n) : sS ts (n + 1) 78 7 o := by
  intro s hI hS hr ht
  obtain ⟨pos, op, c, tn, tl, wt, pn, scs, sd, sig, frm, rl, mn, dc, fc⟩ := s
  have hI := qI_d hI
  have hr : 7 + 72 ≤ n + 1 + 9 * op := hr
  have ht : tl + 4 * (n + 1) ≤ 322 + 2 * pos := ht
  have h160 := hl.1
  refine tr_run (show tl + 20 ≤ 1200 by omega) ?_
  show tr _ (pp_78 ts (pp_run ts n) o (pos, op, c, tn, tl, wt, pn, scs, sd, sig, frm, rl, mn, dc, fc))
  unfold pp_78
  refine tr_b (y79 hl hS (by omega) (by omega) (fun b pos1 c1 rl1 mn1 p1 p2 b1 b2 hmn hb e1 e2 => ?_))
  have hv := bv_lt (ts := ts) (s := (pos1, op, c1, tn, tl, wt, pn, scs, sd, sig, frm, rl1, mn1, dc, fc)) hb
  generalize hV : pp_bv ts (pos1, op, c1, tn, tl, wt, pn, scs, sd, sig, frm, rl1, mn1, dc, fc) b = v at hv ⊢
  rw [if_pos hv]
  refine tr_b (tr_w (N := ts.length + 1) (J := fun (k : Nat × Nat) s => (qL ts 0 0 (pos, op, c, tn, tl, wt, pn, scs, sd, sig, frm, rl, mn, dc, fc) s ∧ pos < pq_pos s ∧ qT (pos, op, c, tn, tl, wt, pn, scs, sd, sig, frm, rl, mn, dc, fc) s) ∧ (k.2 = 1 → (pq_frm s).length + 4 + 4 * c ≤ frm.length + 4 * pq_c s ∧ 2 * (pq_dc s).length + 1 + c ≤ 2 * dc.length + pq_c s) ∧ b < pq_pos s ∧ pq_mn s b = mn1 b) (fun k s h => ⟨_, rfl, fun _ => ?_⟩) (fun k s h hc => ?_) (fun k s h _ => ?_) 160 _ _ (show ts.length + 1 ≤ 160 + pos1 by omega) ⟨⟨?_, p1, ?_⟩, fun _ => ⟨?_, ?_⟩, b1, rfl⟩)
  · obtain ⟨pos2, op2, c2, tn2, tl2, wt2, pn2, scs2, sd2, sig2, frm2, rl2, mn2, dc2, fc2⟩ := s
    have := qL_d h.1.1
    show pos2 < ts.length + 1; omega
  · obtain ⟨pos2, op2, c2, tn2, tl2, wt2, pn2, scs2, sd2, sig2, frm2, rl2, mn2, dc2, fc2⟩ := s
    obtain ⟨⟨g1, g2, g3⟩, g4, g5, g6⟩ := h
    have g1 := qL_d g1
    have g2 : pos < pos2 := g2
    have g5 : b < pos2 := g5
    have g6 : mn2 b = mn1 b := g6
    obtain ⟨g4a, g4b⟩ : frm2.length + 4 + 4 * c ≤ frm.length + 4 * c2 ∧ 2 * dc2.length + 1 + c ≤ 2 * dc.length + c2 := g4 (Nat.eq_of_beq_eq_true (Option.some.inj hc))
    have hS2 := qT_S g3
    have gs := (qT_d g3).1
    unfold pp_78b
    rw [if_pos (show pp_bv ts (pos2, op2, c2, tn2, tl2, wt2, pn2, scs2, sd2, sig2, frm2, rl2, mn2, dc2, fc2) b = v from (bv_eq (show mn2 b = mn1 b from g6)).trans hV)]
    refine tr_b (tr_c (H54 (pos2, op2, c2, tn2, tl2 + 1, wt2 + 0, pn2, scs2, sd2, sig2, frm2, rl2, mn2, dc2, fc2) b _ ?_ hS2 (show 3 + 72 ≤ n + 9 * op2 by omega) (show tl2 + 1 + 4 * n ≤ 322 + 2 * pos2 by omega) (show 2 * dc2.length + 1 ≤ c2 by omega) g5 (bOk_eq hb g6)) (fun k' pos3 op3 c3 tn3 tl3 wt3 pn3 scs3 sd3 sig3 frm3 rl3 mn3 dc3 fc3 h => ?_))
    · rw [gs]
      exact by refine ⟨?_, ?_, ?_, ?_, ?_, ?_, ?_, ?_, ?_, ?_, ?_, ?_⟩ <;> omega
    obtain ⟨q1, x, hx, hx2, hx3, hx4⟩ := q54_d h.1
    have hT3 : qT (pos2, op2, c2, tn2, tl2, wt2, pn2, scs2, sd2, sig2, frm2, rl2, mn2, dc2, fc2) (pos3, op3, c3, tn3, tl3, wt3, pn3, scs3, sd3, sig3, frm3, rl3, mn3, dc3, fc3) := h.2
    have hT := qT_t g3 hT3 (show pos ≤ pos2 by omega)
    have hS3 := qT_S hT
    have gs3 := (qT_d hT).1
    have gm3 : mn3 b = mn1 b := ((qT_d hT3).2.2.2 b g5).trans g6
    refine tr_b (tr_80 hx (by omega) (fun l hll => ?_))
    have el : (frm3 ++ l).length = frm3.length + l.length := List.length_append
    refine tr_i (fun hB => ?_) (fun hB => ?_)
    · have hso : x.2.2.2.1 = 2 := (so_eq hx).symm.trans hB.2.2.2
      obtain ⟨f1, f2⟩ := hx4 hso
      rw [if_pos (show fc3 = sd2.length + 1 from f1)]
      refine tr_b (tr_c (H81 pos3 op3 c3 tn3 (tl2 + 1) (wt2 + 0) pn3 scs3 sd3 sig3 (frm3 ++ l) rl3 mn3 dc3 fc3 sd2.length ?_ (by omega) hS3 (by rw [gs3, f2, gs]) (by omega) (by omega)) (fun v' pos4 op4 c4 tn4 tl4 wt4 pn4 scs4 sd4 sig4 frm4 rl4 mn4 dc4 fc4 h4 => tr_r ⟨⟨⟨?_, ?_, ?_⟩, ?_, ?_, ?_⟩, ?_⟩))
      · have e0 : ([] : List Nat).length = 0 := rfl
        rw [gs3]
        exact by refine ⟨?_, ?_, ?_, ?_, ?_, ?_, ?_, ?_, ?_, ?_, ?_, ?_⟩ <;> omega
      all_goals obtain ⟨hn4, hp4, _, hT4⟩ := h4
      all_goals have hp4 : pos3 < pos4 := hp4
      all_goals have hn4 := qL_d hn4
      · exact by refine ⟨?_, ?_, ?_, ?_, ?_, ?_, ?_, ?_, ?_, ?_, ?_, ?_, ?_, ?_⟩ <;> omega
      · show pos < pos4; omega
      · exact qT_t hT hT4 (show pos ≤ pos3 by omega)
      · intro h; exact absurd h (by decide)
      · show b < pos4; omega
      · exact ((qT_d hT4).2.2.2 b (by omega)).trans gm3
      · show pos2 < pos4; omega
    · refine tr_b (tr_m (Q := fun _ s => qL ts 1 0 (pos, op, c, tn, tl, wt, pn, scs, sd, sig, frm, rl, mn, dc, fc) s ∧ pos2 < pq_pos s ∧ qT (pos, op, c, tn, tl, wt, pn, scs, sd, sig, frm, rl, mn, dc, fc) s ∧ pq_mn s b = mn1 b) (tr_i (fun h61 => ?_) (fun _ => tr_r ⟨?_, ?_, hT, gm3⟩)) (fun _ s h => ?_))
      · have h61 : pp_k ts pos3 = 61 := h61
        refine tr_b (tr_tkn hl (by rw [h61]; rfl) (by rw [h61]; rfl) (by rw [h61]; decide) (by omega) (fun hL4 l4 e4 => ?_))
        refine tr_b (tr_c (H63 _ ?_ hS3 (show 6 + 72 ≤ n + 9 * op3 by omega) (show tl2 + 2 + 4 * n ≤ 322 + 2 * (pos3 + 1) by omega)) (fun v' pos4 op4 c4 tn4 tl4 wt4 pn4 scs4 sd4 sig4 frm4 rl4 mn4 dc4 fc4 h4 => tr_pf ?_ ⟨?_, ?_, ?_, ?_⟩))
        · rw [gs3]
          exact by refine ⟨?_, ?_, ?_, ?_, ?_, ?_, ?_, ?_, ?_, ?_, ?_, ?_⟩ <;> omega
        all_goals obtain ⟨hn4, hp4, hT4, _⟩ := h4
        all_goals have hp4 : pos3 + 1 < pos4 := hp4
        all_goals have hn4 := qL_d hn4
        · show frm4.length + 1 ≤ 640; omega
        · have e : (frm4 ++ [(61 : Int32)]).length = frm4.length + 1 := by rw [List.length_append]; rfl
          exact by refine ⟨?_, ?_, ?_, ?_, ?_, ?_, ?_, ?_, ?_, ?_, ?_, ?_, ?_, ?_⟩ <;> omega
        · show pos2 < pos4; omega
        · exact qT_t hT (show qT (pos3, op3, c3, tn3, tl3, wt3, pn3, scs3, sd3, sig3, frm3, rl3, mn3, dc3, fc3) _ from ⟨(qT_d hT4).1, (qT_d hT4).2.1, (qT_d hT4).2.2.1, fun t ht => (qT_d hT4).2.2.2 t (by omega)⟩) (show pos ≤ pos3 by omega)
        · exact ((qT_d hT4).2.2.2 b (by omega)).trans gm3
      · exact by refine ⟨?_, ?_, ?_, ?_, ?_, ?_, ?_, ?_, ?_, ?_, ?_, ?_, ?_, ?_⟩ <;> omega
      · show pos2 < pos3; omega
      · obtain ⟨pos4, op4, c4, tn4, tl4, wt4, pn4, scs4, sd4, sig4, frm4, rl4, mn4, dc4, fc4⟩ := s
        obtain ⟨k1, k2, k3, k4⟩ := h
        have k1 := qL_d k1
        have k2 : pos2 < pos4 := k2
        have e : (frm4 ++ [(59 : Int32)]).length = frm4.length + 1 := by rw [List.length_append]; rfl
        refine tr_b (tr_pf (show frm4.length + 1 ≤ 640 by omega) ?_)
        refine tr_i (fun h44 => ?_) (fun _ => tr_r ⟨⟨⟨?_, ?_, ?_⟩, ?_, ?_, ?_⟩, ?_⟩)
        · have h44 : pp_k ts pos4 = 44 := h44
          refine tr_b (tr_tkn hl (by rw [h44]; rfl) (by rw [h44]; rfl) (by rw [h44]; decide) (by omega) (fun hL5 l5 e5 => tr_r ⟨⟨⟨?_, ?_, ?_⟩, fun _ => ⟨?_, ?_⟩, ?_, ?_⟩, ?_⟩))
          · exact by refine ⟨?_, ?_, ?_, ?_, ?_, ?_, ?_, ?_, ?_, ?_, ?_, ?_, ?_, ?_⟩ <;> omega
          · show pos < pos4 + 1; omega
          · exact k3
          · show (frm4 ++ [(59 : Int32)]).length + 4 + 4 * c ≤ frm.length + 4 * (c4 + (pp_cs ts pos4).length); omega
          · show 2 * dc4.length + 1 + c ≤ 2 * dc.length + (c4 + (pp_cs ts pos4).length); omega
          · show b < pos4 + 1; omega
          · exact k4
          · show pos2 < pos4 + 1; omega
        · exact by refine ⟨?_, ?_, ?_, ?_, ?_, ?_, ?_, ?_, ?_, ?_, ?_, ?_, ?_, ?_⟩ <;> omega
        · show pos < pos4; omega
        · exact k3
        · exact fun h => absurd (show (0 : Nat) = 1 from h) (by decide)
        · show b < pos4; omega
        · exact k4
        · exact k2
  · obtain ⟨pos2, op2, c2, tn2, tl2, wt2, pn2, scs2, sd2, sig2, frm2, rl2, mn2, dc2, fc2⟩ := s
    obtain ⟨⟨g1, g2, g3⟩, _⟩ := h
    have g1' := qL_d g1
    have g2 : pos < pos2 := g2
    refine tr_i (fun _ => tr_r ⟨g1, g2, g3⟩) (fun _ => tr_exn hl rfl rfl (by decide) (by omega) (fun _ hL5 l5 e5 => ⟨?_, ?_, g3⟩))
    · exact by refine ⟨?_, ?_, ?_, ?_, ?_, ?_, ?_, ?_, ?_, ?_, ?_, ?_, ?_, ?_⟩ <;> omega
    · show pos < pos2 + 1; omega
  · exact by refine ⟨?_, ?_, ?_, ?_, ?_, ?_, ?_, ?_, ?_, ?_, ?_, ?_, ?_, ?_⟩ <;> omega
  · exact ⟨rfl, hS, fun _ _ h => h, hmn⟩
  · show frm.length + 4 + 4 * c ≤ frm.length + 4 * c1; omega
  · show 2 * dc.length + 1 + c ≤ 2 * dc.length + c1; omega
theorem y81 (hl : tLen ts) (H78 : sS ts n 78 7 0) (H82 : sS ts n 82 7 0) : dS81 ts (n + 1) := by
  intro pos op c tn tl wt pn scs sd sig frm rl mn dc fc q hI hsd hS hq hr ht
  have hI := qI_d hI
  have e0 : ([] : List Nat).length = 0 := rfl
  have hS' := qS_d hS
  have h160 := hl.1
  have hql : q < sd.length := (List.getElem?_eq_some_iff.mp hq).1
  refine tr_run (show tl + 20 ≤ 1200 by omega) ?_
  show tr _ (pp_81 ts (pp_run ts n) q (pos, op, c, tn, tl, wt, pn, scs, sd, sig, frm, rl, mn, dc, fc))
  unfold pp_81
  have es : (scs ++ [q]).length = scs.length + 1 := by rw [List.length_append]; rfl
  have ef : (frm ++ [(123 : Int32)]).length = frm.length + 1 := by rw [List.length_append]; rfl
  refine tr_b (tr_exo hl rfl (by omega) (fun _ o8 hL l1 e1 => tr_b (tr_os ⟨by omega, by omega⟩ (tr_b (tr_pf (show frm.length + 1 ≤ 640 by omega) ?_)))))
  have hSB : qS (pos + 1, op + 1, c + (pp_cs ts pos).length, tn, tl, wt, pn, scs ++ [q], sd, sig, frm ++ [123], rl, mn, dc, fc) :=
    ⟨by intro e; exact absurd (List.append_eq_nil_iff.mp e).2 (by intro e; cases e), iC_os hS'.2.1 hq, hS'.2.2⟩
  refine tr_b (tr_w (N := ts.length + 1) (J := fun (_ : Nat) s => qL ts 0 0 (pos + 1, op + 1, c + (pp_cs ts pos).length, tn, tl, wt, pn, scs ++ [q], sd, sig, frm ++ [123], rl, mn, dc, fc) s ∧ qT (pos + 1, op + 1, c + (pp_cs ts pos).length, tn, tl, wt, pn, scs ++ [q], sd, sig, frm ++ [123], rl, mn, dc, fc) s) (fun k s h => ⟨_, rfl, fun _ => ?_⟩) (fun k s h hc => ?_) (fun k s h _ => ?_) 160 _ _ (show ts.length + 1 ≤ 160 + (pos + 1) by omega) ⟨?_, qT_r hSB⟩)
  · obtain ⟨pos2, op2, c2, tn2, tl2, wt2, pn2, scs2, sd2, sig2, frm2, rl2, mn2, dc2, fc2⟩ := s
    have := qL_d h.1
    show pos2 < ts.length + 1; omega
  · obtain ⟨pos2, op2, c2, tn2, tl2, wt2, pn2, scs2, sd2, sig2, frm2, rl2, mn2, dc2, fc2⟩ := s
    obtain ⟨g1, g3⟩ := h
    have g1 := qL_d g1
    have hS2 := qT_S g3
    have hS2' := qS_d hS2
    have gs := (qT_d g3).1
    have I2 : qI ts (pos2, op2, c2, tn2, tl2 + 1, wt2 + 0, pn2, scs2, sd2, sig2, frm2, rl2, mn2, dc2, fc2) := by
      rw [gs]
      exact by refine ⟨?_, ?_, ?_, ?_, ?_, ?_, ?_, ?_, ?_, ?_, ?_, ?_⟩ <;> omega
    have cond : ∃ y, (if pp_at ts (pos2, op2, c2, tn2, tl2, wt2, pn2, scs2, sd2, sig2, frm2, rl2, mn2, dc2, fc2) = 4 then some true else pp_ib ts (pos2, op2, c2, tn2, tl2, wt2, pn2, scs2, sd2, sig2, frm2, rl2, mn2, dc2, fc2) (pq_pos (pos2, op2, c2, tn2, tl2, wt2, pn2, scs2, sd2, sig2, frm2, rl2, mn2, dc2, fc2))) = some y := by
      by_cases h4 : pp_at ts (pos2, op2, c2, tn2, tl2, wt2, pn2, scs2, sd2, sig2, frm2, rl2, mn2, dc2, fc2) = 4
      · rw [if_pos h4]; exact ⟨_, rfl⟩
      · rw [if_neg h4]
        obtain ⟨b, hb, _⟩ := ib_ok (ts := ts) (s := (pos2, op2, c2, tn2, tl2, wt2, pn2, scs2, sd2, sig2, frm2, rl2, mn2, dc2, fc2)) hS2'.2.2 hS2'.2.1 pos2
        exact ⟨b, hb⟩
    obtain ⟨y, hy⟩ := cond
    have step : ∀ j, sS ts n j 7 0 → tr (fun (a' : Nat) s' => (qL ts 0 0 (pos + 1, op + 1, c + (pp_cs ts pos).length, tn, tl, wt, pn, scs ++ [q], sd, sig, frm ++ [123], rl, mn, dc, fc) s' ∧ qT (pos + 1, op + 1, c + (pp_cs ts pos).length, tn, tl, wt, pn, scs ++ [q], sd, sig, frm ++ [123], rl, mn, dc, fc) s') ∧ pq_pos (pos2, op2, c2, tn2, tl2, wt2, pn2, scs2, sd2, sig2, frm2, rl2, mn2, dc2, fc2) < pq_pos s') (pp_c (pp_run ts n) j 0 0 1 0 (pos2, op2, c2, tn2, tl2, wt2, pn2, scs2, sd2, sig2, frm2, rl2, mn2, dc2, fc2)) := by
      intro j H
      refine tr_c (H _ I2 hS2 (show 7 + 72 ≤ n + 9 * op2 by omega) (show tl2 + 1 + 4 * n ≤ 322 + 2 * pos2 by omega)) (fun v pos3 op3 c3 tn3 tl3 wt3 pn3 scs3 sd3 sig3 frm3 rl3 mn3 dc3 fc3 h => ⟨⟨?_, ?_⟩, ?_⟩)
      all_goals obtain ⟨hn3, hp3, hT3⟩ := h
      all_goals have hp3 : pos2 < pos3 := hp3
      all_goals have hn3 := qL_d hn3
      · exact by refine ⟨?_, ?_, ?_, ?_, ?_, ?_, ?_, ?_, ?_, ?_, ?_, ?_, ?_, ?_⟩ <;> omega
      · exact qT_t g3 hT3 (show pos + 1 ≤ pos2 by omega)
      · exact hp3
    exact tr_if ⟨y, hy, fun _ => step 78 H78, fun _ => step 82 H82⟩
  · obtain ⟨pos2, op2, c2, tn2, tl2, wt2, pn2, scs2, sd2, sig2, frm2, rl2, mn2, dc2, fc2⟩ := s
    obtain ⟨g1, g3⟩ := h
    have g1 := qL_d g1
    obtain ⟨t1, t2, t3, t4⟩ := qT_d g3
    have e : (frm2 ++ [(125 : Int32)]).length = frm2.length + 1 := by rw [List.length_append]; rfl
    refine tr_b (tr_exs hl rfl rfl (by omega) (by omega) (fun _ hL2 l2 e2 => tr_b (tr_pf (show frm2.length + 1 ≤ 640 by omega) (tr_xs t2.1 ⟨?_, ?_, ?_, ?_⟩))))
    · exact by refine ⟨?_, ?_, ?_, ?_, ?_, ?_, ?_, ?_, ?_, ?_, ?_, ?_, ?_, ?_⟩ <;> omega
    · show pos < pos2 + 1; omega
    · show sd2.length + pos < sd.length + (pos2 + 1); omega
    · have e3 : scs2.dropLast = scs := by rw [t1, List.dropLast_concat]
      refine ⟨e3, ⟨by rw [e3]; exact hS'.1, ?_, t2.2.2⟩, t3, fun t ht => t4 t (by omega)⟩
      rw [e3]
      have := t2.2.1
      rw [t1] at this
      exact iC_xs this
  · exact by refine ⟨?_, ?_, ?_, ?_, ?_, ?_, ?_, ?_, ?_, ?_, ?_, ?_, ?_, ?_⟩ <;> omega
theorem tr_83 (hl : tLen ts) {pos : Nat} {op : Nat} {c : Nat} {tn : Nat} {tl : Nat} {wt : Nat} {pn : Nat} {scs : List Nat} {sd : List Nat} {sig : List Int32} {frm : List Int32} {rl : Nat → Int32} {mn : Nat → Int32} {dc : List pp_D} {fc : Nat} {Q : Nat → pp_S → Prop} {x : Int32} (ho : op ≤ 8) (hf : 1 ≤ (pp_cs ts pos).length → cr ts pos = (pp_cs ts pos).length + cr ts (pos + 1) → frm.length + 1 ≤ 640) (K : pos < ts.length → 1 ≤ (pp_cs ts pos).length → cr ts pos = (pp_cs ts pos).length + cr ts (pos + 1) → (frm ++ [x]).length = frm.length + 1 → Q 0 (pos + 1, op, c + (pp_cs ts pos).length, tn, tl, wt, pn, scs, sd, sig, frm ++ [x], rl, mn, dc, fc)) : tr Q (pp_83 ts x (pos, op, c, tn, tl, wt, pn, scs, sd, sig, frm, rl, mn, dc, fc)) :=
  tr_b (tr_exn hl rfl rfl (by decide) ho (fun _ hL l1 e1 => tr_pf (hf l1 e1) (K hL l1 e1 (by rw [List.length_append]; rfl))))
theorem y82 (hl : tLen ts) (H81 : dS81 ts n) (H84 : sS ts n 84 1 0) (H85 : dS85 ts n) (H63 : xS ts n 63 6) : sS ts (n + 1) 82 7 0 := by
  intro s hI hS hr ht
  obtain ⟨pos, op, c, tn, tl, wt, pn, scs, sd, sig, frm, rl, mn, dc, fc⟩ := s
  have hI0 := hI
  have hI := qI_d hI
  have hS' := qS_d hS
  have hr : 7 + 72 ≤ n + 1 + 9 * op := hr
  have ht : tl + 4 * (n + 1) ≤ 322 + 2 * pos := ht
  have h160 := hl.1
  refine tr_run (show tl + 20 ≤ 1200 by omega) ?_
  show tr _ (pp_82 ts (pp_run ts n) (pos, op, c, tn, tl, wt, pn, scs, sd, sig, frm, rl, mn, dc, fc))
  unfold pp_82
  have fin : ∀ pos2 op2 c2 tn2 tl2 wt2 pn2 scs2 sd2 sig2 frm2 rl2 mn2 dc2 fc2 (x : Int32), qL ts 0 0 (pos, op, c, tn, tl, wt, pn, scs, sd, sig, frm, rl, mn, dc, fc) (pos2, op2, c2, tn2, tl2, wt2, pn2, scs2, sd2, sig2, frm2, rl2, mn2, dc2, fc2) → qT (pos, op, c, tn, tl, wt, pn, scs, sd, sig, frm, rl, mn, dc, fc) (pos2, op2, c2, tn2, tl2, wt2, pn2, scs2, sd2, sig2, frm2, rl2, mn2, dc2, fc2) → tr (fun _ s' => qL ts 0 0 (pos, op, c, tn, tl, wt, pn, scs, sd, sig, frm, rl, mn, dc, fc) s' ∧ pq_pos (pos, op, c, tn, tl, wt, pn, scs, sd, sig, frm, rl, mn, dc, fc) < pq_pos s' ∧ qT (pos, op, c, tn, tl, wt, pn, scs, sd, sig, frm, rl, mn, dc, fc) s') (pp_83 ts x (pos2, op2, c2, tn2, tl2, wt2, pn2, scs2, sd2, sig2, frm2, rl2, mn2, dc2, fc2)) := by
    intro pos2 op2 c2 tn2 tl2 wt2 pn2 scs2 sd2 sig2 frm2 rl2 mn2 dc2 fc2 x g1 g3
    have g1 := qL_d g1
    refine tr_83 hl (by omega) (fun _ _ => by omega) (fun hL l1 e1 e2 => ⟨?_, ?_, g3⟩)
    · exact by refine ⟨?_, ?_, ?_, ?_, ?_, ?_, ?_, ?_, ?_, ?_, ?_, ?_, ?_, ?_⟩ <;> omega
    · show pos < pos2 + 1; omega
  refine tr_i (fun h123 => ?_) (fun _ => tr_i (fun h59 => ?_) (fun _ => tr_i (fun h8 => ?_) (fun _ => tr_i (fun h10 => ?_) (fun _ => tr_i (fun h11 => ?_) (fun _ => ?_)))))
  · have ed : (sd ++ [scs.length + 1]).length = sd.length + 1 := by rw [List.length_append]; rfl
    refine tr_b (tr_ns (by omega) ?_)
    refine tr_c (H81 pos op c tn (tl + 0) (wt + 0) pn scs (sd ++ [scs.length + 1]) sig frm rl mn dc fc sd.length ?_ (by omega) ⟨hS'.1, iC_up hS'.2.1 sd_up, iD_up hS'.2.2 sd_up⟩ (by rw [List.getElem?_append_right (Nat.le_refl _), Nat.sub_self]; rfl) (by omega) (by omega)) (fun v pos2 op2 c2 tn2 tl2 wt2 pn2 scs2 sd2 sig2 frm2 rl2 mn2 dc2 fc2 h => ⟨?_, h.2.1, ?_⟩)
    · have e0 : ([] : List Nat).length = 0 := rfl
      exact by refine ⟨?_, ?_, ?_, ?_, ?_, ?_, ?_, ?_, ?_, ?_, ?_, ?_⟩ <;> omega
    · obtain ⟨h1, h2, h3, h4⟩ := h
      have h1 := qL_d h1
      have h3 : sd2.length + pos < (sd ++ [scs.length + 1]).length + pos2 := h3
      exact by refine ⟨?_, ?_, ?_, ?_, ?_, ?_, ?_, ?_, ?_, ?_, ?_, ?_, ?_, ?_⟩ <;> omega
    · obtain ⟨t1, t2, t3, t4⟩ := qT_d h.2.2.2
      exact ⟨t1, t2, fun q y e => t3 q y (sd_up q y e), t4⟩
  · exact fin _ _ _ _ _ _ _ _ _ _ _ _ _ _ _ _ (by refine ⟨?_, ?_, ?_, ?_, ?_, ?_, ?_, ?_, ?_, ?_, ?_, ?_, ?_, ?_⟩ <;> omega) (qT_r hS)
  · refine tr_c (H84 _ (show qI ts (pos, op, c, tn, tl + 0, wt + 0, pn, scs, sd, sig, frm, rl, mn, dc, fc) from hI0) hS (show 1 + 72 ≤ n + 9 * op by omega) (show tl + 0 + 4 * n ≤ 322 + 2 * pos by omega)) (fun v pos2 op2 c2 tn2 tl2 wt2 pn2 scs2 sd2 sig2 frm2 rl2 mn2 dc2 fc2 h => ⟨?_, h.2.1, h.2.2⟩)
    have h1 := qL_d h.1
    exact by refine ⟨?_, ?_, ?_, ?_, ?_, ?_, ?_, ?_, ?_, ?_, ?_, ?_, ?_, ?_⟩ <;> omega
  · have h10 : pp_k ts pos = 10 := h10
    refine tr_b (tr_tko hl (by rw [h10]; rfl) (by omega) (fun o8 hL l1 e1 => ?_))
    refine tr_c (H85 (pos + 1) op (c + (pp_cs ts pos).length) tn (tl + 1) (wt + 0) pn scs sd sig frm rl mn dc fc 37 ?_ hS (by omega) (by omega) (by omega)) (fun v pos2 op2 c2 tn2 tl2 wt2 pn2 scs2 sd2 sig2 frm2 rl2 mn2 dc2 fc2 h => ⟨?_, ?_, ?_⟩)
    · exact by refine ⟨?_, ?_, ?_, ?_, ?_, ?_, ?_, ?_, ?_, ?_, ?_, ?_⟩ <;> omega
    all_goals obtain ⟨hn3, hp3, hT3⟩ := h
    all_goals have hp3 : pos + 1 < pos2 := hp3
    all_goals have hn3 := qL_d hn3
    · exact by refine ⟨?_, ?_, ?_, ?_, ?_, ?_, ?_, ?_, ?_, ?_, ?_, ?_, ?_, ?_⟩ <;> omega
    · show pos < pos2; omega
    · exact ⟨(qT_d hT3).1, (qT_d hT3).2.1, (qT_d hT3).2.2.1, fun t ht => (qT_d hT3).2.2.2 t (by omega)⟩
  · have h11 : pp_k ts pos = 11 := h11
    refine tr_b (tr_tkn hl (by rw [h11]; rfl) (by rw [h11]; rfl) (by rw [h11]; decide) (by omega) (fun hL l1 e1 => ?_))
    refine tr_b (tr_m (Q := fun _ s => qL ts 0 0 (pos, op, c, tn, tl, wt, pn, scs, sd, sig, frm, rl, mn, dc, fc) s ∧ qT (pos, op, c, tn, tl, wt, pn, scs, sd, sig, frm, rl, mn, dc, fc) s) (tr_i (fun _ => tr_r ⟨by refine ⟨?_, ?_, ?_, ?_, ?_, ?_, ?_, ?_, ?_, ?_, ?_, ?_, ?_, ?_⟩ <;> omega, ⟨rfl, hS, fun _ _ h => h, fun _ _ => rfl⟩⟩) (fun _ => ?_)) (fun _ s h => ?_))
    · refine tr_c (H63 _ ?_ hS (show 6 + 72 ≤ n + 9 * op by omega) (show tl + 2 + 4 * n ≤ 322 + 2 * (pos + 1) by omega)) (fun v pos2 op2 c2 tn2 tl2 wt2 pn2 scs2 sd2 sig2 frm2 rl2 mn2 dc2 fc2 h => ⟨?_, ?_⟩)
      · exact by refine ⟨?_, ?_, ?_, ?_, ?_, ?_, ?_, ?_, ?_, ?_, ?_, ?_⟩ <;> omega
      all_goals obtain ⟨hn3, hp3, hT3, _⟩ := h
      all_goals have hp3 : pos + 1 < pos2 := hp3
      all_goals have hn3 := qL_d hn3
      · exact by refine ⟨?_, ?_, ?_, ?_, ?_, ?_, ?_, ?_, ?_, ?_, ?_, ?_, ?_, ?_⟩ <;> omega
      · exact ⟨(qT_d hT3).1, (qT_d hT3).2.1, (qT_d hT3).2.2.1, fun t ht => (qT_d hT3).2.2.2 t (by omega)⟩
    · obtain ⟨pos2, op2, c2, tn2, tl2, wt2, pn2, scs2, sd2, sig2, frm2, rl2, mn2, dc2, fc2⟩ := s
      exact fin _ _ _ _ _ _ _ _ _ _ _ _ _ _ _ _ h.1 h.2
  · refine tr_b (tr_c (H63 _ ?_ hS (show 6 + 72 ≤ n + 9 * op by omega) (show tl + 2 + 4 * n ≤ 322 + 2 * pos by omega)) (fun v pos2 op2 c2 tn2 tl2 wt2 pn2 scs2 sd2 sig2 frm2 rl2 mn2 dc2 fc2 h => ?_))
    · exact by refine ⟨?_, ?_, ?_, ?_, ?_, ?_, ?_, ?_, ?_, ?_, ?_, ?_⟩ <;> omega
    · have h1 := qL_d h.1
      exact fin _ _ _ _ _ _ _ _ _ _ _ _ _ _ _ _ (by refine ⟨?_, ?_, ?_, ?_, ?_, ?_, ?_, ?_, ?_, ?_, ?_, ?_, ?_, ?_⟩ <;> omega) h.2.2.1
theorem y85 (hl : tLen ts) (H63 : xS ts n 63 6) (H82 : sS ts n 82 7 0) : dS85 ts (n + 1) := by
  intro pos op c tn tl wt pn scs sd sig frm rl mn dc fc a hI hS hsc hr ht
  have hI := qI_d hI
  have hS' := qS_d hS
  have h160 := hl.1
  refine tr_run (show tl + 20 ≤ 1200 by omega) ?_
  show tr _ (pp_85 ts (pp_run ts n) a (pos, op + 1, c, tn, tl, wt, pn, scs, sd, sig, frm, rl, mn, dc, fc))
  unfold pp_85
  refine tr_b (tr_exo hl rfl (by omega) (fun _ o8 hL l1 e1 => ?_))
  refine tr_b (tr_c (H63 _ ?_ hS (show 6 + 72 ≤ n + 9 * (op + 1 + 1) by omega) (show tl + 4 + 4 * n ≤ 322 + 2 * (pos + 1) by omega)) (fun v pos2 op2 c2 tn2 tl2 wt2 pn2 scs2 sd2 sig2 frm2 rl2 mn2 dc2 fc2 h => ?_))
  · exact by refine ⟨?_, ?_, ?_, ?_, ?_, ?_, ?_, ?_, ?_, ?_, ?_, ?_⟩ <;> omega
  obtain ⟨hn2, hp2, hT2, _⟩ := h
  have hp2 : pos + 1 < pos2 := hp2
  have hn2 := qL_d hn2
  have hS2 := qT_S hT2
  have gs2 := (qT_d hT2).1
  have e : (frm2 ++ [Int32.ofNat a]).length = frm2.length + 1 := by rw [List.length_append]; rfl
  refine tr_b (tr_exs hl rfl rfl (by omega) (by omega) (fun _ hL3 l3 e3 => tr_b (tr_pf (show frm2.length + 1 ≤ 640 by omega) ?_)))
  refine tr_b (tr_c (H82 _ ?_ hS2 (show 7 + 72 ≤ n + 9 * (op2 - 1) by omega) (show tl + 1 + 4 * n ≤ 322 + 2 * (pos2 + 1) by omega)) (fun v pos4 op4 c4 tn4 tl4 wt4 pn4 scs4 sd4 sig4 frm4 rl4 mn4 dc4 fc4 h => ?_))
  · rw [gs2]
    exact by refine ⟨?_, ?_, ?_, ?_, ?_, ?_, ?_, ?_, ?_, ?_, ?_, ?_⟩ <;> omega
  obtain ⟨hn4, hp4, hT4⟩ := h
  have hp4 : pos2 + 1 < pos4 := hp4
  have hn4 := qL_d hn4
  refine tr_es (by omega) ⟨?_, ?_, ?_⟩
  · exact by refine ⟨?_, ?_, ?_, ?_, ?_, ?_, ?_, ?_, ?_, ?_, ?_, ?_, ?_, ?_⟩ <;> omega
  · show pos < pos4; omega
  · refine qT_t (s' := (pos2, op2, c2, tn2, tl2, wt2, pn2, scs2, sd2, sig2, frm2, rl2, mn2, dc2, fc2)) (show qT (pos, op, c, tn, tl, wt, pn, scs, sd, sig, frm, rl, mn, dc, fc) (pos2, op2, c2, tn2, tl2, wt2, pn2, scs2, sd2, sig2, frm2, rl2, mn2, dc2, fc2) from ⟨(qT_d hT2).1, (qT_d hT2).2.1, (qT_d hT2).2.2.1, fun t ht => (qT_d hT2).2.2.2 t (by omega)⟩) (show qT (pos2, op2, c2, tn2, tl2, wt2, pn2, scs2, sd2, sig2, frm2, rl2, mn2, dc2, fc2) _ from ⟨(qT_d hT4).1, (qT_d hT4).2.1, (qT_d hT4).2.2.1, fun t ht => (qT_d hT4).2.2.2 t (by omega)⟩) (show pos ≤ pos2 by omega)
theorem y84 (hl : tLen ts) (H85 : dS85 ts n) (H82 : sS ts n 82 7 0) : sS ts (n + 1) 84 1 0 := by
  intro s hI hS hr ht
  obtain ⟨pos, op, c, tn, tl, wt, pn, scs, sd, sig, frm, rl, mn, dc, fc⟩ := s
  have hI := qI_d hI
  have hS' := qS_d hS
  have hr : 1 + 72 ≤ n + 1 + 9 * op := hr
  have ht : tl + 4 * (n + 1) ≤ 322 + 2 * pos := ht
  have h160 := hl.1
  refine tr_run (show tl + 20 ≤ 1200 by omega) ?_
  show tr _ (pp_84 ts (pp_run ts n) (pos, op, c, tn, tl, wt, pn, scs, sd, sig, frm, rl, mn, dc, fc))
  unfold pp_84
  refine tr_b (tr_exo hl rfl (by omega) (fun _ o8 hL l1 e1 => ?_))
  refine tr_b (tr_c (H85 (pos + 1) op (c + (pp_cs ts pos).length) tn (tl + 1) (wt + 0) pn scs sd sig frm rl mn dc fc 63 ?_ hS (by omega) (by omega) (by omega)) (fun v pos2 op2 c2 tn2 tl2 wt2 pn2 scs2 sd2 sig2 frm2 rl2 mn2 dc2 fc2 h => ?_))
  · exact by refine ⟨?_, ?_, ?_, ?_, ?_, ?_, ?_, ?_, ?_, ?_, ?_, ?_⟩ <;> omega
  obtain ⟨hn2, hp2, hT2⟩ := h
  have hp2 : pos + 1 < pos2 := hp2
  have hn2 := qL_d hn2
  have hS2 := qT_S hT2
  have gs2 := (qT_d hT2).1
  have hT2' : qT (pos, op, c, tn, tl, wt, pn, scs, sd, sig, frm, rl, mn, dc, fc) (pos2, op2, c2, tn2, tl2, wt2, pn2, scs2, sd2, sig2, frm2, rl2, mn2, dc2, fc2) := ⟨(qT_d hT2).1, (qT_d hT2).2.1, (qT_d hT2).2.2.1, fun t ht => (qT_d hT2).2.2.2 t (by omega)⟩
  refine tr_i (fun h9 => ?_) (fun _ => tr_r ⟨?_, ?_, hT2'⟩)
  · have h9 : pp_k ts pos2 = 9 := h9
    have e : (frm2 ++ [(58 : Int32)]).length = frm2.length + 1 := by rw [List.length_append]; rfl
    refine tr_b (tr_tko hl (by rw [h9]; rfl) (by omega) (fun o9 hL3 l3 e3 => tr_b (tr_pf (show frm2.length + 1 ≤ 640 by omega) ?_)))
    refine tr_b (tr_c (H82 _ ?_ hS2 (show 7 + 72 ≤ n + 9 * (op2 + 1) by omega) (show tl + 1 + 4 * n ≤ 322 + 2 * (pos2 + 1) by omega)) (fun v pos4 op4 c4 tn4 tl4 wt4 pn4 scs4 sd4 sig4 frm4 rl4 mn4 dc4 fc4 h => ?_))
    · rw [gs2]
      exact by refine ⟨?_, ?_, ?_, ?_, ?_, ?_, ?_, ?_, ?_, ?_, ?_, ?_⟩ <;> omega
    obtain ⟨hn4, hp4, hT4⟩ := h
    have hp4 : pos2 + 1 < pos4 := hp4
    have hn4 := qL_d hn4
    refine tr_es (by omega) ⟨?_, ?_, ?_⟩
    · exact by refine ⟨?_, ?_, ?_, ?_, ?_, ?_, ?_, ?_, ?_, ?_, ?_, ?_, ?_, ?_⟩ <;> omega
    · show pos < pos4; omega
    · exact qT_t hT2' (show qT (pos2, op2, c2, tn2, tl2, wt2, pn2, scs2, sd2, sig2, frm2, rl2, mn2, dc2, fc2) _ from ⟨(qT_d hT4).1, (qT_d hT4).2.1, (qT_d hT4).2.2.1, fun t ht => (qT_d hT4).2.2.2 t (by omega)⟩) (show pos ≤ pos2 by omega)
  · exact by refine ⟨?_, ?_, ?_, ?_, ?_, ?_, ?_, ?_, ?_, ?_, ?_, ?_, ?_, ?_⟩ <;> omega
  · show pos < pos2; omega
end
section
variable {ts : List pp_T} {n : Nat}
theorem qI_o {s : pp_S} (h : qI ts s) : pq_op s ≤ 8 := by
  obtain ⟨pos, op, c, tn, tl, wt, pn, scs, sd, sig, frm, rl, mn, dc, fc⟩ := s
  exact (qI_d h).2.1
abbrev tAll (ts : List pp_T) (n : Nat) : Prop := dS5 ts n ∧ dS6 ts n 58 1 ∧ dS6 ts n 56 2 ∧ dS61 ts n ∧ dS54 ts n ∧ xS ts n 72 1 ∧ xS ts n 73 1 ∧ xS ts n 74 1 ∧ xS ts n 71 2 ∧ xS ts n 66 3 ∧ xS ts n 65 4 ∧ xS ts n 64 5 ∧ xS ts n 63 6 ∧ (∀ o, sS ts n 78 7 o) ∧ dS81 ts n ∧ sS ts n 82 7 0 ∧ sS ts n 84 1 0 ∧ dS85 ts n
theorem tAll_n (hl : tLen ts) : ∀ n, tAll ts n
  | 0 => by
    have x0 : ∀ j r, 1 ≤ r → xS ts 0 j r := fun j r h1 s hI _ hr _ => by have := qI_o hI; omega
    have d0 : ∀ j r, 1 ≤ r → dS6 ts 0 j r := fun j r h1 s m hI _ hr _ => by have := qI_o hI; omega
    have s0 : ∀ j r a, 1 ≤ r → sS ts 0 j r a := fun j r a h1 s hI _ hr _ => by have := qI_o hI; omega
    refine ⟨fun s m hI _ hr _ => ?_, d0 _ _ (by decide), d0 _ _ (by decide), fun s hI _ hr _ => ?_, fun s b ty hI _ hr _ => ?_, x0 _ _ (by decide), x0 _ _ (by decide), x0 _ _ (by decide), x0 _ _ (by decide), x0 _ _ (by decide), x0 _ _ (by decide), x0 _ _ (by decide), x0 _ _ (by decide), fun o => s0 _ _ _ (by decide), ?_, s0 _ _ _ (by decide), s0 _ _ _ (by decide), ?_⟩
    · have := qI_o hI; omega
    · have := qI_o hI; omega
    · have := qI_o hI; omega
    · intro pos op c tn tl wt pn scs sd sig frm rl mn dc fc q hI _ _ _ hr
      have := (qI_d hI).2.1; omega
    · intro pos op c tn tl wt pn scs sd sig frm rl mn dc fc a hI _ _ hr
      have := (qI_d hI).2.1; omega
  | n + 1 => by
    obtain ⟨h55, h58, h56, h61, h54, h72, h73, h74, h71, h66, h65, h64, h63, h78, h81, h82, h84, h85⟩ := tAll_n hl n
    exact ⟨y55 hl h56, y58 hl h56, y56 hl h58 h61, y61 hl h55, y54 hl h56, x72 hl h63, x73 hl h63, x74 hl h63, x71 hl h74 h72 h73, x66 hl h55 h71, x656 hl h66, x645 hl h65, x63 hl h64, fun o => y78 hl h54 h63 h81, y81 hl (h78 0) h82, y82 hl h81 h84 h85 h63, y84 hl h85 h82, y85 hl h63 h82⟩
theorem tProg (hl : tLen ts) : tr (fun _ s => qL ts 0 0 pp_s0 s ∧ qT pp_s0 s ∧ pp_at ts s = 0) (pp_prog ts 80) := by
  have H := (tAll_n hl 80).2.2.2.2.2.2.2.2.2.2.2.2.2.1 1
  have h160 := hl.1
  have hcr := hl.2.2
  have l0 : ([] : List Int32).length = 0 := rfl
  have ld : ([] : List pp_D).length = 0 := rfl
  have l1 : [(0 : Nat)].length = 1 := rfl
  have l2 : [(1 : Nat)].length = 1 := rfl
  have lt : pp_tt [] = 0 := rfl
  have hS : qS pp_s0 := by
    refine ⟨(by intro e; cases e), ?_, fun x hx => (by cases hx)⟩
    intro i q h
    cases i with
    | zero => cases h; rfl
    | succ i => cases h
  unfold pp_prog
  refine tr_w (N := ts.length) (J := fun (_ : Nat) s => qL ts 0 0 pp_s0 s ∧ qT pp_s0 s) (fun k s h => ⟨_, rfl, fun e => at_lt (fun e0 => ?_)⟩) (fun k s h hc => ?_) (fun k s h hc => ⟨h.1, h.2, ?_⟩) 160 0 _ (show ts.length ≤ 160 + 0 by omega) ⟨?_, qT_r hS⟩
  · rw [show pp_at ts s = 0 from e0] at e; exact absurd e (by decide)
  · obtain ⟨pos2, op2, c2, tn2, tl2, wt2, pn2, scs2, sd2, sig2, frm2, rl2, mn2, dc2, fc2⟩ := s
    obtain ⟨g1, g3⟩ := h
    unfold pp_s0 at g1 g3
    have g1 := qL_d g1
    have hS2 := qT_S g3
    have gs := (qT_d g3).1
    refine tr_c (H _ ?_ hS2 (show 7 + 72 ≤ 80 + 9 * op2 by omega) (show tl2 + 1 + 4 * 80 ≤ 322 + 2 * pos2 by omega)) (fun v pos3 op3 c3 tn3 tl3 wt3 pn3 scs3 sd3 sig3 frm3 rl3 mn3 dc3 fc3 h => ⟨⟨?_, ?_⟩, ?_⟩)
    · rw [gs]
      exact by refine ⟨?_, ?_, ?_, ?_, ?_, ?_, ?_, ?_, ?_, ?_, ?_, ?_⟩ <;> omega
    all_goals obtain ⟨hn3, hp3, hT3⟩ := h
    all_goals have hp3 : pos2 < pos3 := hp3
    all_goals have hn3 := qL_d hn3
    · unfold pp_s0
      exact by refine ⟨?_, ?_, ?_, ?_, ?_, ?_, ?_, ?_, ?_, ?_, ?_, ?_, ?_, ?_⟩ <;> omega
    · exact qT_t g3 hT3 (show 0 ≤ pos2 by omega)
    · exact hp3
  · unfold pp_s0
    exact by refine ⟨?_, ?_, ?_, ?_, ?_, ?_, ?_, ?_, ?_, ?_, ?_, ?_, ?_, ?_⟩ <;> omega
  · have hc : some (!(pp_at ts s == 0)) = some false := hc
    have hc := Option.some.inj hc
    simpa using hc
end
