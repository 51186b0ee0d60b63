section
variable {ts : List pp_T} {n g e : Nat}
theorem qF_pt {pos : Nat} {op : Nat} {c : Nat} {tn : Nat} {tl : Nat} {wt : Nat} {pn : Nat} {scs : List Nat} {sd : List Nat} {sig : List Int32} {frm : List Int32} {rl : Nat → Int32} {mn : Nat → Int32} {dc : List pp_D} {fc : Nat} {pos' op' c' tn' tl' wt' pn' : Nat} {scs' : List Nat} {frm' : List Int32} {rl' mn' : Nat → Int32} {dc' : List pp_D} {x : Int32} (hx : x ≠ 40) (hn : sig ≠ []) : qF (pos, op, c, tn, tl, wt, pn, scs, sd, sig, frm, rl, mn, dc, fc) (pos', op', c', tn', tl', wt', pn', scs', sd, sig ++ [x], frm', rl', mn', dc', fc) :=
  ⟨⟨[x], rfl⟩, fun _ => rfl, fun _ _ => rfl, fun a _ => absurd a hn⟩
theorem sd_up {sd : List Nat} {x : Nat} (q y : Nat) (h : sd[q]? = some y) : (sd ++ [x])[q]? = some y := by
  rw [List.getElem?_append_left (by exact (List.getElem?_eq_some_iff.mp h).1)]; exact h
theorem iC_os {scs sd : List Nat} {q : Nat} (h : iC sd scs) (hq : sd[q]? = some (scs.length + 1)) : iC sd (scs ++ [q]) := by
  intro i q' hi
  by_cases h1 : i < scs.length
  · rw [List.getElem?_append_left h1] at hi
    exact h i q' hi
  · rw [List.getElem?_append_right (by omega)] at hi
    by_cases h2 : i = scs.length
    · rw [h2, Nat.sub_self] at hi
      rw [h2, ← Option.some.inj hi]; exact hq
    · obtain ⟨k, hk⟩ : ∃ k, i - scs.length = k + 1 := ⟨i - scs.length - 1, by omega⟩
      rw [hk] at hi
      cases hi
theorem iC_xs {scs sd : List Nat} {q : Nat} (h : iC sd (scs ++ [q])) : iC sd scs := by
  intro i q' hi
  refine h i q' ?_
  rw [List.getElem?_append_left (by exact (List.getElem?_eq_some_iff.mp hi).1)]; exact hi
theorem iC_up {scs sd sd' : List Nat} (h : iC sd scs) (hm : ∀ (q y : Nat), sd[q]? = some y → sd'[q]? = some y) : iC sd' scs := fun i q hi => hm _ _ (h i q hi)
theorem iD_up {sd sd' : List Nat} {dc : List pp_D} (h : iD sd dc) (hm : ∀ (q y : Nat), sd[q]? = some y → sd'[q]? = some y) : iD sd' dc := fun x hx => hm _ _ (h x hx)
theorem y61 (hl : tLen ts) (H5 : dS5 ts n) : dS61 ts (n + 1) := by
  intro s hI hS hr ht
  obtain ⟨pos, op, c, tn, tl, wt, pn, scs, sd, sig, frm, rl, mn, dc, fc⟩ := s
  have hI := qI_d hI
  have hS' := qS_d hS
  have hr : 1 + 72 ≤ n + 1 + 9 * op := hr
  have ht : tl + 4 * (n + 1) ≤ 322 + 2 * pos := ht
  have h160 := hl.1
  refine tr_run (show tl + 20 ≤ 1200 by omega) ?_
  show tr _ (pp_61 ts (pp_run ts n) (pos, op, c, tn, tl, wt, pn, scs, sd, sig, frm, rl, mn, dc, fc))
  unfold pp_61
  have l1 : ∀ x : Int32, [x].length = 1 := fun _ => rfl
  refine tr_b (tr_exo hl rfl (by omega) (fun _ o8 hL l1' e1 => ?_))
  refine tr_b (tr_pt (by rw [l1]; omega) ?_)
  refine tr_b (tr_ns (by omega) ?_)
  dsimp only [pp_sf, pq_sig]
  rw [l1]
  refine tr_b (tr_os ⟨by omega, by omega⟩ ?_)
  generalize hfB : cond sig.isEmpty (sd.length + 1) fc = fcB
  have hf1 : sig ≠ [] → fcB = fc := by
    intro h
    cases sig with
    | nil => exact absurd rfl h
    | cons x l => exact hfB.symm
  have hf2 : sig = [] → fcB = sd.length + 1 := by
    intro h
    rw [h] at hfB
    exact hfB.symm
  have es : (scs ++ [sd.length]).length = scs.length + 1 := by rw [List.length_append]; rfl
  have ed : (sd ++ [scs.length + 1]).length = sd.length + 1 := by rw [List.length_append]; rfl
  have eg : (sig ++ [(40 : Int32)]).length = sig.length + 1 := by rw [List.length_append]; rfl
  have hq : (sd ++ [scs.length + 1])[sd.length]? = some (scs.length + 1) := by
    rw [List.getElem?_append_right (Nat.le_refl _), Nat.sub_self]; rfl
  have hSB : qS (pos + 1, op + 1, c + (pp_cs ts pos).length, tn + 1, tl, wt, pn, scs ++ [sd.length], sd ++ [scs.length + 1], sig ++ [40], frm, rl, mn, dc, fcB) :=
    ⟨by intro e; exact absurd (List.append_eq_nil_iff.mp e).2 (by intro e; cases e), iC_os (iC_up hS'.2.1 sd_up) hq, iD_up hS'.2.2 sd_up⟩
  have hgn : sig ++ [(40 : Int32)] ≠ [] := by intro e; exact absurd (List.append_eq_nil_iff.mp e).2 (by intro e; cases e)
  refine tr_b (tr_m (Q := fun (_ : Nat) s => qG ts (8 - op) 0 (pos + 1, op + 1, c + (pp_cs ts pos).length, tn + 1, tl, wt, pn, scs ++ [sd.length], sd ++ [scs.length + 1], sig ++ [40], frm, rl, mn, dc, fcB) s ∧ qT (pos + 1, op + 1, c + (pp_cs ts pos).length, tn + 1, tl, wt, pn, scs ++ [sd.length], sd ++ [scs.length + 1], sig ++ [40], frm, rl, mn, dc, fcB) s ∧ qF (pos + 1, op + 1, c + (pp_cs ts pos).length, tn + 1, tl, wt, pn, scs ++ [sd.length], sd ++ [scs.length + 1], sig ++ [40], frm, rl, mn, dc, fcB) s) ?_ (fun _ s h => ?_))
  · refine tr_i (fun h7 => ?_) (fun h7 => tr_i (fun h41 => tr_r ⟨by refine ⟨?_, ?_, ?_, ?_, ?_, ?_, ?_, ?_, ?_, ?_, ?_, ?_, ?_, ?_, ?_, ?_⟩ <;> omega, qT_r hSB, qF_r⟩) (fun h41 => ?_))
    · have hk : pp_k ts (pos + 1) = 7 := h7.1
      refine tr_tkn hl (by rw [hk]; rfl) (by rw [hk]; rfl) (by rw [hk]; decide) (by omega) (fun hL2 l2 e2 => ⟨by refine ⟨?_, ?_, ?_, ?_, ?_, ?_, ?_, ?_, ?_, ?_, ?_, ?_, ?_, ?_, ?_, ?_⟩ <;> omega, ⟨rfl, hSB, fun _ _ h => h, fun _ _ => rfl⟩, ⟨⟨[], (List.append_nil _).symm⟩, fun _ => rfl, fun _ _ => rfl, fun a b => by rw [a] at b; cases b⟩⟩)
    · have call : ∀ pos2 op2 c2 tn2 tl2 wt2 pn2 scs2 sd2 sig2 frm2 rl2 mn2 dc2 fc2, qG ts (8 - op) 0 (pos + 1, op + 1, c + (pp_cs ts pos).length, tn + 1, tl, wt, pn, scs ++ [sd.length], sd ++ [scs.length + 1], sig ++ [40], frm, rl, mn, dc, fcB) (pos2, op2, c2, tn2, tl2, wt2, pn2, scs2, sd2, sig2, frm2, rl2, mn2, dc2, fc2) → qT (pos + 1, op + 1, c + (pp_cs ts pos).length, tn + 1, tl, wt, pn, scs ++ [sd.length], sd ++ [scs.length + 1], sig ++ [40], frm, rl, mn, dc, fcB) (pos2, op2, c2, tn2, tl2, wt2, pn2, scs2, sd2, sig2, frm2, rl2, mn2, dc2, fc2) → qF (pos + 1, op + 1, c + (pp_cs ts pos).length, tn + 1, tl, wt, pn, scs ++ [sd.length], sd ++ [scs.length + 1], sig ++ [40], frm, rl, mn, dc, fcB) (pos2, op2, c2, tn2, tl2, wt2, pn2, scs2, sd2, sig2, frm2, rl2, mn2, dc2, fc2) → tr (fun _ s => pos2 < pq_pos s ∧ qG ts (8 - op) 0 (pos + 1, op + 1, c + (pp_cs ts pos).length, tn + 1, tl, wt, pn, scs ++ [sd.length], sd ++ [scs.length + 1], sig ++ [40], frm, rl, mn, dc, fcB) s ∧ qT (pos + 1, op + 1, c + (pp_cs ts pos).length, tn + 1, tl, wt, pn, scs ++ [sd.length], sd ++ [scs.length + 1], sig ++ [40], frm, rl, mn, dc, fcB) s ∧ qF (pos + 1, op + 1, c + (pp_cs ts pos).length, tn + 1, tl, wt, pn, scs ++ [sd.length], sd ++ [scs.length + 1], sig ++ [40], frm, rl, mn, dc, fcB) s) (pp_c (pp_run ts n) 55 1 0 2 0 (pos2, op2, c2, tn2, tl2, wt2, pn2, scs2, sd2, sig2, frm2, rl2, mn2, dc2, fc2)) := by
        intro pos2 op2 c2 tn2 tl2 wt2 pn2 scs2 sd2 sig2 frm2 rl2 mn2 dc2 fc2 g1 g2 g3
        have g1 := qG_d g1
        have gs := (qT_d g2).1
        have hS2 := qT_S g2
        have gn : sig2 ≠ [] := by
          obtain ⟨⟨e, he⟩, _⟩ := qF_d g3
          rw [he]
          intro h
          exact hgn (List.append_eq_nil_iff.mp h).1
        refine tr_c (H5 (pos2, op2, c2, tn2, tl2 + 2, wt2 + 0, pn2, scs2, sd2, sig2, frm2, rl2, mn2, dc2, fc2) 1 ?_ hS2 (show 3 + 72 ≤ n + 9 * op2 by omega) (show tl2 + 2 + 4 * n ≤ 322 + 2 * pos2 by omega) (by decide) (by decide)) (fun v pos3 op3 c3 tn3 tl3 wt3 pn3 scs3 sd3 sig3 frm3 rl3 mn3 dc3 fc3 h => ?_)
        · have es2 : scs2.length = scs.length + 1 := by rw [gs]; exact es
          exact by refine ⟨?_, ?_, ?_, ?_, ?_, ?_, ?_, ?_, ?_, ?_, ?_, ?_⟩ <;> omega
        · obtain ⟨hn, hT, hF⟩ := h
          have hF := hF gn
          have hn := qD5_d hn
          have hg := hn.2.2.2.2.2.2.2.2.2.2.2.2.2.2.2
          rw [show 9 - op2 = 8 - op by omega] at hg
          have hT' : qT (pos2, op2, c2, tn2, tl2, wt2, pn2, scs2, sd2, sig2, frm2, rl2, mn2, dc2, fc2) (pos3, op3, c3, tn3, tl2, wt2, pn3, scs3, sd3, sig3, frm3, rl3, mn3, dc3, fc3) := hT
          exact ⟨hn.1, by refine ⟨?_, ?_, ?_, ?_, ?_, ?_, ?_, ?_, ?_, ?_, ?_, ?_, ?_, ?_, ?_, ?_⟩ <;> omega, qT_t g2 hT' (show pos + 1 ≤ pos2 by omega), qF_t g2 hT' g3 hF⟩
      refine tr_b (tr_m (call _ _ _ _ _ _ _ _ _ _ _ _ _ _ _ (by refine ⟨?_, ?_, ?_, ?_, ?_, ?_, ?_, ?_, ?_, ?_, ?_, ?_, ?_, ?_, ?_, ?_⟩ <;> omega) (qT_r hSB) qF_r) (fun v s h => ?_))
      have hp : pos + 1 < pq_pos s := h.1
      refine tr_w (N := ts.length) (J := fun (_ : Nat) s => qG ts (8 - op) 0 (pos + 1, op + 1, c + (pp_cs ts pos).length, tn + 1, tl, wt, pn, scs ++ [sd.length], sd ++ [scs.length + 1], sig ++ [40], frm, rl, mn, dc, fcB) s ∧ qT (pos + 1, op + 1, c + (pp_cs ts pos).length, tn + 1, tl, wt, pn, scs ++ [sd.length], sd ++ [scs.length + 1], sig ++ [40], frm, rl, mn, dc, fcB) s ∧ qF (pos + 1, op + 1, c + (pp_cs ts pos).length, tn + 1, tl, wt, pn, scs ++ [sd.length], sd ++ [scs.length + 1], sig ++ [40], frm, rl, mn, dc, fcB) s) (fun k s h => ⟨_, rfl, at_b (by decide)⟩) (fun k s h hc => ?_) (fun k s h _ => h) 160 _ _ (by omega) h.2
      obtain ⟨pos2, op2, c2, tn2, tl2, wt2, pn2, scs2, sd2, sig2, frm2, rl2, mn2, dc2, fc2⟩ := s
      obtain ⟨g1, g2, g3⟩ := h
      have g1 := qG_d g1
      have h44 : pp_k ts pos2 = 44 := by simpa [pp_at] using hc
      have gn : sig2 ≠ [] := by
        obtain ⟨⟨e, he⟩, _⟩ := qF_d g3
        rw [he]
        intro h
        exact hgn (List.append_eq_nil_iff.mp h).1
      refine tr_b (tr_tkn hl (by rw [h44]; rfl) (by rw [h44]; rfl) (by rw [h44]; decide) (by omega) (fun hL3 l3 e3 => ?_))
      refine tr_b (tr_pt (by rw [l1]; omega) ?_)
      rw [l1]
      have eg2 : (sig2 ++ [(44 : Int32)]).length = sig2.length + 1 := by rw [List.length_append]; rfl
      have em := Nat.mul_le_mul_left (8 - op) (show tn2 ≤ tn2 + 1 by omega)
      have hT2 : qT (pos2, op2, c2, tn2, tl2, wt2, pn2, scs2, sd2, sig2, frm2, rl2, mn2, dc2, fc2) (pos2 + 1, op2, c2 + (pp_cs ts pos2).length, tn2 + 1, tl2, wt2, pn2, scs2, sd2, sig2 ++ [44], frm2, rl2, mn2, dc2, fc2) := ⟨rfl, qT_S g2, fun _ _ h => h, fun _ _ => rfl⟩
      refine tr_m (call _ _ _ _ _ _ _ _ _ _ _ _ _ _ _ (by refine ⟨?_, ?_, ?_, ?_, ?_, ?_, ?_, ?_, ?_, ?_, ?_, ?_, ?_, ?_, ?_, ?_⟩ <;> omega) (qT_t g2 hT2 (show pos + 1 ≤ pos2 by omega)) (qF_t g2 hT2 g3 (qF_pt (by decide) gn))) (fun v s h => ⟨h.2, ?_⟩)
      have h1 : pos2 + 1 < pq_pos s := h.1
      show pos2 < pq_pos s
      omega
  · obtain ⟨pos2, op2, c2, tn2, tl2, wt2, pn2, scs2, sd2, sig2, frm2, rl2, mn2, dc2, fc2⟩ := s
    obtain ⟨g1, g2, g3⟩ := h
    have g1 := qG_d g1
    have hS2 := qS_d (qT_S g2)
    obtain ⟨gs, _, gm, gmn⟩ := qT_d g2
    subst gs
    refine tr_b (tr_xs hS2.1 (tr_b (tr_exs hl rfl rfl (by omega) (by omega) (fun _ hL2 l2 e2 => tr_pt (by rw [l1]; omega) ⟨?_, ?_, ?_, ?_⟩))))
    · have eg2 : (sig2 ++ [(41 : Int32)]).length = sig2.length + 1 := by rw [List.length_append]; rfl
      have em := Nat.mul_le_mul_left (8 - op) (show tn2 ≤ tn2 + 1 by omega)
      have em2 := Nat.mul_le_mul_left (8 - op) (show tn ≤ tn + 1 by omega)
      rw [l1]
      show qG ts (8 - op) 0 (pos, op, c, tn, tl, wt, pn, scs, sd, sig, frm, rl, mn, dc, fc) (pos2 + 1, op2 - 1, c2 + (pp_cs ts pos2).length, tn2 + 1, tl2, wt2, pn2, (scs ++ [sd.length]).dropLast, sd2, sig2 ++ [41], frm2, rl2, mn2, dc2, fc2)
      exact by refine ⟨?_, ?_, ?_, ?_, ?_, ?_, ?_, ?_, ?_, ?_, ?_, ?_, ?_, ?_, ?_, ?_⟩ <;> omega
    · show pos < pos2 + 1; omega
    · refine ⟨List.dropLast_concat, ⟨?_, ?_, hS2.2.2⟩, fun q y h => gm q y (sd_up q y h), fun t ht => gmn t (by omega)⟩
      · rw [List.dropLast_concat]; exact hS'.1
      · rw [List.dropLast_concat]; exact iC_xs hS2.2.1
    · obtain ⟨⟨e, he⟩, hf, _⟩ := qF_d g3
      refine ⟨⟨[40] ++ e ++ [41], by rw [he]; simp only [List.append_assoc]⟩, fun h => (hf hgn).trans (hf1 h), fun h h2 => ?_, fun h _ => ⟨(hf hgn).trans (hf2 h), gm _ _ hq⟩⟩
      exact absurd (List.append_eq_nil_iff.mp h2).2 (by intro e; cases e)
end
