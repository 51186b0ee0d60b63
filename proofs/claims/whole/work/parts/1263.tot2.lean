/-! numbers and scopes of a state, and what a piece of reading does to them -/
def qI (ts : List pp_T) : pp_S → Prop
  | (pos, op, c, tn, tl, wt, pn, scs, sd, sig, frm, rl, mn, dc, fc) => pos ≤ ts.length ∧ op ≤ 8 ∧ c + cr ts pos ≤ 160 ∧ pos ≤ c ∧ scs.length ≤ op + 1 ∧ sd.length ≤ pos + 1 ∧ 2 * dc.length ≤ c ∧ tn ≤ 3 * c ∧ pp_tt dc ≤ 9 * tn ∧ frm.length ≤ 4 * c ∧ pn ≤ pos ∧ wt ≤ 4 * c
def qS : pp_S → Prop
  | (pos, op, c, tn, tl, wt, pn, scs, sd, sig, frm, rl, mn, dc, fc) => scs ≠ [] ∧ iC sd scs ∧ iD sd dc
def qL (ts : List pp_T) (k h : Nat) : pp_S → pp_S → Prop
  | (pos, op, c, tn, tl, wt, pn, scs, sd, sig, frm, rl, mn, dc, fc), (pos1, op1, c1, tn1, tl1, wt1, pn1, scs1, sd1, sig1, frm1, rl1, mn1, dc1, fc1) => pos ≤ pos1 ∧ pos1 ≤ ts.length ∧ op1 = op ∧ c1 + cr ts pos1 = c + cr ts pos ∧ c + pos1 ≤ c1 + pos ∧ pn1 = pn + h ∧ tl1 = tl ∧ wt1 = wt ∧ sd1.length + pos ≤ sd.length + pos1 ∧ 2 * dc1.length + c ≤ 2 * dc.length + c1 ∧ tn1 + 3 * c ≤ tn + 3 * c1 ∧ tn ≤ tn1 ∧ pp_tt dc1 + 9 * tn ≤ pp_tt dc + 9 * tn1 ∧ frm1.length + k + 4 * c ≤ frm.length + 4 * c1
def qT : pp_S → pp_S → Prop
  | (pos, op, c, tn, tl, wt, pn, scs, sd, sig, frm, rl, mn, dc, fc), (pos1, op1, c1, tn1, tl1, wt1, pn1, scs1, sd1, sig1, frm1, rl1, mn1, dc1, fc1) => scs1 = scs ∧ (scs1 ≠ [] ∧ iC sd1 scs1 ∧ iD sd1 dc1) ∧ (∀ (q y : Nat), sd[q]? = some y → sd1[q]? = some y) ∧ ∀ t, t < pos → mn1 t = mn t
section
variable {ts : List pp_T} {pos : Nat} {op : Nat} {c : Nat} {tn : Nat} {tl : Nat} {wt : Nat} {pn : Nat} {scs : List Nat} {sd : List Nat} {sig : List Int32} {frm : List Int32} {rl : Nat → Int32} {mn : Nat → Int32} {dc : List pp_D} {fc : Nat} {pos1 : Nat} {op1 : Nat} {c1 : Nat} {tn1 : Nat} {tl1 : Nat} {wt1 : Nat} {pn1 : Nat} {scs1 : List Nat} {sd1 : List Nat} {sig1 : List Int32} {frm1 : List Int32} {rl1 : Nat → Int32} {mn1 : Nat → Int32} {dc1 : List pp_D} {fc1 : Nat} {pos2 : Nat} {op2 : Nat} {c2 : Nat} {tn2 : Nat} {tl2 : Nat} {wt2 : Nat} {pn2 : Nat} {scs2 : List Nat} {sd2 : List Nat} {sig2 : List Int32} {frm2 : List Int32} {rl2 : Nat → Int32} {mn2 : Nat → Int32} {dc2 : List pp_D} {fc2 : Nat}
theorem qI_d (h : qI ts (pos, op, c, tn, tl, wt, pn, scs, sd, sig, frm, rl, mn, dc, fc)) : pos ≤ ts.length ∧ op ≤ 8 ∧ c + cr ts pos ≤ 160 ∧ pos ≤ c ∧ scs.length ≤ op + 1 ∧ sd.length ≤ pos + 1 ∧ 2 * dc.length ≤ c ∧ tn ≤ 3 * c ∧ pp_tt dc ≤ 9 * tn ∧ frm.length ≤ 4 * c ∧ pn ≤ pos ∧ wt ≤ 4 * c := h
theorem qL_d {k h : Nat} (e : qL ts k h (pos, op, c, tn, tl, wt, pn, scs, sd, sig, frm, rl, mn, dc, fc) (pos1, op1, c1, tn1, tl1, wt1, pn1, scs1, sd1, sig1, frm1, rl1, mn1, dc1, fc1)) : pos ≤ pos1 ∧ pos1 ≤ ts.length ∧ op1 = op ∧ c1 + cr ts pos1 = c + cr ts pos ∧ c + pos1 ≤ c1 + pos ∧ pn1 = pn + h ∧ tl1 = tl ∧ wt1 = wt ∧ sd1.length + pos ≤ sd.length + pos1 ∧ 2 * dc1.length + c ≤ 2 * dc.length + c1 ∧ tn1 + 3 * c ≤ tn + 3 * c1 ∧ tn ≤ tn1 ∧ pp_tt dc1 + 9 * tn ≤ pp_tt dc + 9 * tn1 ∧ frm1.length + k + 4 * c ≤ frm.length + 4 * c1 := e
theorem qT_d (e : qT (pos, op, c, tn, tl, wt, pn, scs, sd, sig, frm, rl, mn, dc, fc) (pos1, op1, c1, tn1, tl1, wt1, pn1, scs1, sd1, sig1, frm1, rl1, mn1, dc1, fc1)) : scs1 = scs ∧ (scs1 ≠ [] ∧ iC sd1 scs1 ∧ iD sd1 dc1) ∧ (∀ (q y : Nat), sd[q]? = some y → sd1[q]? = some y) ∧ ∀ t, t < pos → mn1 t = mn t := e
theorem qS_d (h : qS (pos, op, c, tn, tl, wt, pn, scs, sd, sig, frm, rl, mn, dc, fc)) : scs ≠ [] ∧ iC sd scs ∧ iD sd dc := h
end
theorem qT_r {s : pp_S} (h : qS s) : qT s s := by
  obtain ⟨pos, op, c, tn, tl, wt, pn, scs, sd, sig, frm, rl, mn, dc, fc⟩ := s
  exact ⟨rfl, h, fun _ _ h => h, fun _ _ => rfl⟩
theorem qL_p {ts : List pp_T} {k h : Nat} {s s' : pp_S} (e : qL ts k h s s') : pq_pos s ≤ pq_pos s' := by
  obtain ⟨pos, op, c, tn, tl, wt, pn, scs, sd, sig, frm, rl, mn, dc, fc⟩ := s; obtain ⟨pos1, op1, c1, tn1, tl1, wt1, pn1, scs1, sd1, sig1, frm1, rl1, mn1, dc1, fc1⟩ := s'
  exact (qL_d e).1
theorem qT_S {s s' : pp_S} (e : qT s s') : qS s' := by
  obtain ⟨pos, op, c, tn, tl, wt, pn, scs, sd, sig, frm, rl, mn, dc, fc⟩ := s; obtain ⟨pos1, op1, c1, tn1, tl1, wt1, pn1, scs1, sd1, sig1, frm1, rl1, mn1, dc1, fc1⟩ := s'
  exact (qT_d e).2.1
theorem qT_t {s s' s'' : pp_S} (a : qT s s') (b : qT s' s'') (h : pq_pos s ≤ pq_pos s') : qT s s'' := by
  obtain ⟨pos, op, c, tn, tl, wt, pn, scs, sd, sig, frm, rl, mn, dc, fc⟩ := s; obtain ⟨pos1, op1, c1, tn1, tl1, wt1, pn1, scs1, sd1, sig1, frm1, rl1, mn1, dc1, fc1⟩ := s'; obtain ⟨pos2, op2, c2, tn2, tl2, wt2, pn2, scs2, sd2, sig2, frm2, rl2, mn2, dc2, fc2⟩ := s''
  obtain ⟨a1, a2, a3, a4⟩ := a
  obtain ⟨b1, b2, b3, b4⟩ := b
  have h' : pos ≤ pos1 := h
  exact ⟨b1.trans a1, b2, fun q y e => b3 q y (a3 q y e), fun t ht => (b4 t (by omega)).trans (a4 t ht)⟩
section
variable {ts : List pp_T} {n : Nat} {α : Type} {Q : α → pp_S → Prop}
theorem tr_run {Q : Nat → pp_S → Prop} {j a b : Nat} {s : pp_S} (hg : pq_tl s + 20 ≤ 1200) (h : tr Q (pp_body ts (pp_run ts n) j a b s)) : tr Q (pp_run ts (n + 1) j a b s) := by
  unfold pp_run; rw [if_pos hg]; exact h
theorem tr_use {pos : Nat} {op : Nat} {c : Nat} {tn : Nat} {tl : Nat} {wt : Nat} {pn : Nat} {scs : List Nat} {sd : List Nat} {sig : List Int32} {frm : List Int32} {rl : Nat → Int32} {mn : Nat → Int32} {dc : List pp_D} {fc : Nat} {t k : Nat} {Q : Nat → pp_S → Prop} (h : pp_me ts (pos, op, c, tn, tl, wt, pn, scs, sd, sig, frm, rl, mn, dc, fc) t = some (some k)) (K : ∀ v, Q t (pos, op, c, tn, tl, wt, pn, scs, sd, sig, frm, pp_fu rl t v, pp_fu mn t (Int32.ofNat k), dc, fc)) : tr Q (pp_use ts t (pos, op, c, tn, tl, wt, pn, scs, sd, sig, frm, rl, mn, dc, fc)) := use_ok h K
/-- an expression's piece always answers -/
def xS (ts : List pp_T) (n j r : Nat) : Prop := ∀ s, qI ts s → qS s → r + 72 ≤ n + 9 * pq_op s → pq_tl s + 4 * n ≤ 322 + 2 * pq_pos s → tr (fun v s' => qL ts 0 0 s s' ∧ pq_pos s < pq_pos s' ∧ qT s s' ∧ v ≤ 1) (pp_run ts n j 0 0 s)
/-- a typed declarator always answers -/
def qD5 (ts : List pp_T) : pp_S → pp_S → Prop
  | (pos, op, c, tn, tl, wt, pn, scs, sd, sig, frm, rl, mn, dc, fc), (pos1, op1, c1, tn1, tl1, wt1, pn1, scs1, sd1, sig1, frm1, rl1, mn1, dc1, fc1) => pos < pos1 ∧ pos1 ≤ ts.length ∧ op1 = op ∧ c1 + cr ts pos1 = c + cr ts pos ∧ c + pos1 ≤ c1 + pos ∧ pn1 = pn ∧ tl1 = tl ∧ wt1 = wt ∧ sd1.length + pos ≤ sd.length + pos1 ∧ 2 * dc1.length + c ≤ 2 * dc.length + c1 ∧ tn1 + 3 * c ≤ tn + 3 * c1 ∧ tn < tn1 ∧ pp_tt dc1 + 9 * tn ≤ pp_tt dc + 9 * tn1 ∧ frm1.length = frm.length ∧ sig1.length + tn = sig.length + tn1 ∧ pp_tt dc1 + (9 - op) * tn ≤ pp_tt dc + (9 - op) * tn1
theorem qD5_d {pos : Nat} {op : Nat} {c : Nat} {tn : Nat} {tl : Nat} {wt : Nat} {pn : Nat} {scs : List Nat} {sd : List Nat} {sig : List Int32} {frm : List Int32} {rl : Nat → Int32} {mn : Nat → Int32} {dc : List pp_D} {fc : Nat} {pos1 : Nat} {op1 : Nat} {c1 : Nat} {tn1 : Nat} {tl1 : Nat} {wt1 : Nat} {pn1 : Nat} {scs1 : List Nat} {sd1 : List Nat} {sig1 : List Int32} {frm1 : List Int32} {rl1 : Nat → Int32} {mn1 : Nat → Int32} {dc1 : List pp_D} {fc1 : Nat} (h : qD5 ts (pos, op, c, tn, tl, wt, pn, scs, sd, sig, frm, rl, mn, dc, fc) (pos1, op1, c1, tn1, tl1, wt1, pn1, scs1, sd1, sig1, frm1, rl1, mn1, dc1, fc1)) : pos < pos1 ∧ pos1 ≤ ts.length ∧ op1 = op ∧ c1 + cr ts pos1 = c + cr ts pos ∧ c + pos1 ≤ c1 + pos ∧ pn1 = pn ∧ tl1 = tl ∧ wt1 = wt ∧ sd1.length + pos ≤ sd.length + pos1 ∧ 2 * dc1.length + c ≤ 2 * dc.length + c1 ∧ tn1 + 3 * c ≤ tn + 3 * c1 ∧ tn < tn1 ∧ pp_tt dc1 + 9 * tn ≤ pp_tt dc + 9 * tn1 ∧ frm1.length = frm.length ∧ sig1.length + tn = sig.length + tn1 ∧ pp_tt dc1 + (9 - op) * tn ≤ pp_tt dc + (9 - op) * tn1 := h
/-- the first piece of a type, its scope -/
def qF : pp_S → pp_S → Prop
  | (pos, op, c, tn, tl, wt, pn, scs, sd, sig, frm, rl, mn, dc, fc), (pos1, op1, c1, tn1, tl1, wt1, pn1, scs1, sd1, sig1, frm1, rl1, mn1, dc1, fc1) => (∃ e, sig1 = sig ++ e) ∧ (sig ≠ [] → fc1 = fc) ∧ (sig = [] → sig1 = [] → sd1 = sd) ∧ (sig = [] → sig1.head? = some 40 → fc1 = sd.length + 1 ∧ sd1[sd.length]? = some (scs.length + 1))
def dS5 (ts : List pp_T) (n : Nat) : Prop := ∀ s m, qI ts s → qS s → 3 + 72 ≤ n + 9 * pq_op s → pq_tl s + 4 * n ≤ 322 + 2 * pq_pos s → 1 ≤ m → m ≤ 2 → tr (fun _ s' => qD5 ts s s' ∧ qT s s' ∧ (pq_sig s ≠ [] → qF s s')) (pp_run ts n 55 m 0 s)
theorem x74 (hl : tLen ts) (H : xS ts n 63 6) : xS ts (n + 1) 74 1 := by
  intro s hI hS hr ht
  obtain ⟨pos, op, c, tn, tl, wt, pn, scs, sd, sig, frm, rl, mn, dc, fc⟩ := s
  have hI := qI_d hI
  have hS' := qS_d hS
  have hr : 1 + 72 ≤ n + 1 + 9 * op := hr
  have ht : tl + 4 * (n + 1) ≤ 322 + 2 * pos := ht
  have h160 := hl.1
  refine tr_run (show tl + 20 ≤ 1200 by omega) ?_
  show tr _ (pp_74 ts (pp_run ts n) (pos, op, c, tn, tl, wt, pn, scs, sd, sig, frm, rl, mn, dc, fc))
  unfold pp_74
  refine tr_i (fun h40 => ?_) (fun h40 => tr_i (fun h2 => ?_) (fun h2 => ?_))
  · have h40 : pp_k ts pos = 40 := h40
    refine tr_b (tr_tko hl (by rw [h40]; rfl) (by omega) (fun o8 hL l1 e1 => ?_))
    refine tr_b (tr_c (H _ ?_ hS (show 6 + 72 ≤ n + 9 * (op + 1) by omega) (show tl + 3 + 4 * n ≤ 322 + 2 * (pos + 1) by omega)) (fun v pos1 op1 c1 tn1 tl1 wt1 pn1 scs1 sd1 sig1 frm1 rl1 mn1 dc1 fc1 h => ?_))
    · exact by refine ⟨?_, ?_, ?_, ?_, ?_, ?_, ?_, ?_, ?_, ?_, ?_, ?_⟩ <;> omega
    · obtain ⟨hn, hp, hT, hv⟩ := h
      have hn := qL_d hn
      refine tr_b (tr_exs hl rfl rfl (by omega) (by omega) (fun _ hL2 l2 e2 => tr_r ⟨?_, ?_, ?_, by decide⟩))
      · exact by refine ⟨?_, ?_, ?_, ?_, ?_, ?_, ?_, ?_, ?_, ?_, ?_, ?_, ?_, ?_⟩ <;> omega
      · show pos < pos1 + 1; omega
      · obtain ⟨a1, a2, a3, a4⟩ := qT_d hT
        exact ⟨a1, a2, a3, fun t ht => a4 t (by omega)⟩
  · have h2 : pp_k ts pos = 2 := h2
    obtain ⟨b, hb, hb1⟩ := mt_ok (ts := ts) (s := (pos, op, c, tn, tl, wt, pn, scs, sd, sig, frm, rl, mn, dc, fc)) hS'.2.2 hS'.2.1 pos
    refine tr_if ⟨b, hb, fun e => ?_, fun _ => tr_x⟩
    obtain ⟨k, hk, _⟩ := hb1 e
    refine tr_b (tr_use hk (fun v => ?_))
    refine tr_b (tr_tkn hl (by rw [h2]; rfl) (by rw [h2]; rfl) (by rw [h2]; decide) (by omega) (fun hL l1 e1 => ?_))
    refine tr_b (tr_pf ?_ (tr_r ⟨?_, ?_, ?_, by decide⟩))
    · show frm.length + (pp_cs ts pos ++ [32]).length ≤ 640
      rw [List.length_append]
      show frm.length + ((pp_cs ts pos).length + 1) ≤ 640
      omega
    · have e : (frm ++ (pp_cs ts pos ++ [32])).length = frm.length + (pp_cs ts pos).length + 1 := by simp only [List.length_append]; rfl
      exact by refine ⟨?_, ?_, ?_, ?_, ?_, ?_, ?_, ?_, ?_, ?_, ?_, ?_, ?_, ?_⟩ <;> omega
    · show pos < pos + 1; omega
    · refine ⟨rfl, hS, fun _ _ h => h, fun t ht => ?_⟩
      show pp_fu mn pos _ t = mn t
      unfold pp_fu; rw [if_neg (by omega)]
  · refine tr_b (tr_exn hl rfl rfl (by decide) (by omega) (fun h3 hL l1 e1 => tr_b (tr_pf ?_ (tr_r ⟨?_, ?_, ?_, by decide⟩))))
    · rw [List.length_append]
      show frm.length + ((pp_cs ts pos).length + 1) ≤ 640
      omega
    · have e : (frm ++ (pp_cs ts pos ++ [32])).length = frm.length + (pp_cs ts pos).length + 1 := by simp only [List.length_append]; rfl
      exact by refine ⟨?_, ?_, ?_, ?_, ?_, ?_, ?_, ?_, ?_, ?_, ?_, ?_, ?_, ?_⟩ <;> omega
    · show pos < pos + 1; omega
    · exact ⟨rfl, hS, fun _ _ h => h, fun t ht => rfl⟩
theorem x72 (hl : tLen ts) (H : xS ts n 63 6) : xS ts (n + 1) 72 1 := by
  intro s hI hS hr ht
  obtain ⟨pos, op, c, tn, tl, wt, pn, scs, sd, sig, frm, rl, mn, dc, fc⟩ := s
  have hI := qI_d hI
  have hS' := qS_d hS
  have hr : 1 + 72 ≤ n + 1 + 9 * op := hr
  have ht : tl + 4 * (n + 1) ≤ 322 + 2 * pos := ht
  have h160 := hl.1
  refine tr_run (show tl + 20 ≤ 1200 by omega) ?_
  show tr _ (pp_72 ts (pp_run ts n) (pos, op, c, tn, tl, wt, pn, scs, sd, sig, frm, rl, mn, dc, fc))
  unfold pp_72
  refine tr_b (tr_exo hl rfl (by omega) (fun _ o8 hL l1 e1 => ?_))
  refine tr_b (tr_c (H _ ?_ hS (show 6 + 72 ≤ n + 9 * (op + 1) by omega) (show tl + 4 + 4 * n ≤ 322 + 2 * (pos + 1) by omega)) (fun v pos1 op1 c1 tn1 tl1 wt1 pn1 scs1 sd1 sig1 frm1 rl1 mn1 dc1 fc1 h => ?_))
  · exact by refine ⟨?_, ?_, ?_, ?_, ?_, ?_, ?_, ?_, ?_, ?_, ?_, ?_⟩ <;> omega
  · obtain ⟨hn, hp, hT, hv⟩ := h
    have hn := qL_d hn
    refine tr_b (tr_exs hl rfl rfl (by omega) (by omega) (fun _ hL2 l2 e2 => tr_pf ?_ ⟨?_, ?_, ?_, by decide⟩))
    · show frm1.length + 1 ≤ 640
      omega
    · have e : (frm1 ++ [(93 : Int32)]).length = frm1.length + 1 := by rw [List.length_append]; rfl
      exact by refine ⟨?_, ?_, ?_, ?_, ?_, ?_, ?_, ?_, ?_, ?_, ?_, ?_, ?_, ?_⟩ <;> omega
    · show pos < pos1 + 1; omega
    · obtain ⟨a1, a2, a3, a4⟩ := qT_d hT
      exact ⟨a1, a2, a3, fun t ht => a4 t (by omega)⟩
end
