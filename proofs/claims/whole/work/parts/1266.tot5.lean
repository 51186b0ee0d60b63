/-- what a piece of a declarator does: g times its signs is what it may add to the types, e characters are not used up -/
def qG (ts : List pp_T) (g e : Nat) : pp_S → pp_S → Prop
  | (pos, op, c, tn, tl, wt, pn, scs, sd, sig, frm, rl, mn, dc, fc), (pos1, op1, c1, tn1, tl1, wt1, pn1, scs1, sd1, sig1, frm1, rl1, mn1, dc1, fc1) => pos ≤ pos1 ∧ pos1 ≤ ts.length ∧ op1 = op ∧ c1 + cr ts pos1 = c + cr ts pos ∧ c + pos1 ≤ c1 + pos ∧ pn1 = pn ∧ tl1 = tl ∧ wt1 = wt ∧ sd1.length + pos ≤ sd.length + pos1 ∧ 2 * dc1.length + c + e ≤ 2 * dc.length + c1 ∧ tn1 + 3 * c + 3 * e ≤ tn + 3 * c1 ∧ tn ≤ tn1 ∧ pp_tt dc1 + 9 * tn ≤ pp_tt dc + 9 * tn1 ∧ frm1.length = frm.length ∧ sig1.length + tn = sig.length + tn1 ∧ pp_tt dc1 + g * tn ≤ pp_tt dc + g * tn1
section
variable {ts : List pp_T} {n g e : Nat} {pos : Nat} {op : Nat} {c : Nat} {tn : Nat} {tl : Nat} {wt : Nat} {pn : Nat} {scs : List Nat} {sd : List Nat} {sig : List Int32} {frm : List Int32} {rl : Nat → Int32} {mn : Nat → Int32} {dc : List pp_D} {fc : Nat} {pos1 : Nat} {op1 : Nat} {c1 : Nat} {tn1 : Nat} {tl1 : Nat} {wt1 : Nat} {pn1 : Nat} {scs1 : List Nat} {sd1 : List Nat} {sig1 : List Int32} {frm1 : List Int32} {rl1 : Nat → Int32} {mn1 : Nat → Int32} {dc1 : List pp_D} {fc1 : Nat}
theorem qG_d (h : qG ts g e (pos, op, c, tn, tl, wt, pn, scs, sd, sig, frm, rl, mn, dc, fc) (pos1, op1, c1, tn1, tl1, wt1, pn1, scs1, sd1, sig1, frm1, rl1, mn1, dc1, fc1)) : pos ≤ pos1 ∧ pos1 ≤ ts.length ∧ op1 = op ∧ c1 + cr ts pos1 = c + cr ts pos ∧ c + pos1 ≤ c1 + pos ∧ pn1 = pn ∧ tl1 = tl ∧ wt1 = wt ∧ sd1.length + pos ≤ sd.length + pos1 ∧ 2 * dc1.length + c + e ≤ 2 * dc.length + c1 ∧ tn1 + 3 * c + 3 * e ≤ tn + 3 * c1 ∧ tn ≤ tn1 ∧ pp_tt dc1 + 9 * tn ≤ pp_tt dc + 9 * tn1 ∧ frm1.length = frm.length ∧ sig1.length + tn = sig.length + tn1 ∧ pp_tt dc1 + g * tn ≤ pp_tt dc + g * tn1 := h
theorem qF_d (h : qF (pos, op, c, tn, tl, wt, pn, scs, sd, sig, frm, rl, mn, dc, fc) (pos1, op1, c1, tn1, tl1, wt1, pn1, scs1, sd1, sig1, frm1, rl1, mn1, dc1, fc1)) : (∃ e, sig1 = sig ++ e) ∧ (sig ≠ [] → fc1 = fc) ∧ (sig = [] → sig1 = [] → sd1 = sd) ∧ (sig = [] → sig1.head? = some 40 → fc1 = sd.length + 1 ∧ sd1[sd.length]? = some (scs.length + 1)) := h
end
theorem qF_r {s : pp_S} : qF s s := by
  obtain ⟨pos, op, c, tn, tl, wt, pn, scs, sd, sig, frm, rl, mn, dc, fc⟩ := s
  exact ⟨⟨[], (List.append_nil _).symm⟩, fun _ => rfl, fun _ _ => rfl, fun a b => by rw [a] at b; cases b⟩
theorem qF_t {s s' s'' : pp_S} (hT : qT s s') (hT' : qT s' s'') (a : qF s s') (b : qF s' s'') : qF s s'' := by
  obtain ⟨pos, op, c, tn, tl, wt, pn, scs, sd, sig, frm, rl, mn, dc, fc⟩ := s; obtain ⟨pos1, op1, c1, tn1, tl1, wt1, pn1, scs1, sd1, sig1, frm1, rl1, mn1, dc1, fc1⟩ := s'; obtain ⟨pos2, op2, c2, tn2, tl2, wt2, pn2, scs2, sd2, sig2, frm2, rl2, mn2, dc2, fc2⟩ := s''
  obtain ⟨⟨e1, a1⟩, a2, a3, a4⟩ := qF_d a
  obtain ⟨⟨e2, b1⟩, b2, b3, b4⟩ := qF_d b
  have hs := (qT_d hT).1
  have hm := (qT_d hT').2.2.1
  refine ⟨⟨e1 ++ e2, by rw [b1, a1, List.append_assoc]⟩, fun h => ?_, fun h h2 => ?_, fun h h2 => ?_⟩
  · rw [b2 (by rw [a1]; intro e; exact h (List.append_eq_nil_iff.mp e).1), a2 h]
  · rw [b1] at h2
    have h1 := (List.append_eq_nil_iff.mp h2).1
    rw [b3 h1 (by rw [b1]; exact h2), a3 h h1]
  · by_cases h1 : sig1 = []
    · have e := a3 h h1
      obtain ⟨f1, f2⟩ := b4 h1 h2
      rw [e] at f1 f2
      rw [hs] at f2
      exact ⟨f1, f2⟩
    · have e : sig1.head? = some 40 := by
        rw [b1] at h2
        cases sig1 with
        | nil => exact absurd rfl h1
        | cons x l => exact h2
      obtain ⟨f1, f2⟩ := a4 h e
      exact ⟨(b2 h1).trans f1, hm _ _ f2⟩
section
variable {ts : List pp_T} {n g e : Nat}
theorem mulup {g a b x y : Nat} (h : x + g * a ≤ y + g * b) (hab : a ≤ b) : x + (g + 1) * a ≤ y + (g + 1) * b := by
  rw [Nat.succ_mul, Nat.succ_mul]; omega
/-- dimension -/
theorem y60 (hl : tLen ts) {pos : Nat} {op : Nat} {c : Nat} {tn : Nat} {tl : Nat} {wt : Nat} {pn : Nat} {scs : List Nat} {sd : List Nat} {sig : List Int32} {frm : List Int32} {rl : Nat → Int32} {mn : Nat → Int32} {dc : List pp_D} {fc : Nat} (hI : qI ts (pos, op, c, tn, tl, wt, pn, scs, sd, sig, frm, rl, mn, dc, fc)) (hS : qS (pos, op, c, tn, tl, wt, pn, scs, sd, sig, frm, rl, mn, dc, fc)) (g : Nat) : tr (fun _ s' => qG ts g 0 (pos, op, c, tn, tl, wt, pn, scs, sd, sig, frm, rl, mn, dc, fc) s' ∧ pos < pq_pos s' ∧ qT (pos, op, c, tn, tl, wt, pn, scs, sd, sig, frm, rl, mn, dc, fc) s' ∧ qF (pos, op, c, tn, tl, wt, pn, scs, sd, sig, frm, rl, mn, dc, fc) s') (pp_60 ts (pos, op, c, tn, tl, wt, pn, scs, sd, sig, frm, rl, mn, dc, fc)) := by
  have hI := qI_d hI
  unfold pp_60
  have l1 : ∀ x : Int32, [x].length = 1 := fun _ => rfl
  refine tr_b (tr_exo hl rfl (by omega) (fun _ o8 hL l1' e1 => tr_b (tr_pt (by rw [l1]; omega) ?_)))
  rw [l1]
  have fin : ∀ (posx cx lx : Nat) (e : List Int32), tr (fun _ s' => qG ts g 0 (pos, op, c, tn, tl, wt, pn, scs, sd, sig, frm, rl, mn, dc, fc) s' ∧ pos < pq_pos s' ∧ qT (pos, op, c, tn, tl, wt, pn, scs, sd, sig, frm, rl, mn, dc, fc) s' ∧ qF (pos, op, c, tn, tl, wt, pn, scs, sd, sig, frm, rl, mn, dc, fc) s') (pp_b (pp_pt [93] (posx, op + 1, cx, tn + 1 + lx, tl, wt, pn, scs, sd, sig ++ [91] ++ e, frm, rl, mn, dc, fc)) fun _ s => pp_b (pp_ex ts 93 s) fun _ s => pp_ret 0 s) ∨ ¬ (e.length = lx ∧ pos + 1 ≤ posx ∧ posx ≤ ts.length ∧ cx + cr ts posx = c + cr ts pos ∧ c + lx + 1 ≤ cx ∧ c + posx ≤ cx + pos) := by
    intro posx cx lx e
    by_cases h : e.length = lx ∧ pos + 1 ≤ posx ∧ posx ≤ ts.length ∧ cx + cr ts posx = c + cr ts pos ∧ c + lx + 1 ≤ cx ∧ c + posx ≤ cx + pos
    · refine Or.inl (tr_b (tr_pt (by rw [l1]; omega) (tr_b (tr_exs hl rfl rfl (by omega) (by omega) (fun _ hL2 l2 e2 => tr_r ⟨?_, ?_, ?_, ?_⟩)))))
      · have e1 : (sig ++ [91] ++ e ++ [93]).length = sig.length + e.length + 2 := by simp only [List.length_append, List.length_cons, List.length_nil]; omega
        have e2 := Nat.mul_le_mul_left g (show tn ≤ tn + 1 + lx + [(93 : Int32)].length by omega)
        have e3 : [(93 : Int32)].length = 1 := rfl
        exact by refine ⟨?_, ?_, ?_, ?_, ?_, ?_, ?_, ?_, ?_, ?_, ?_, ?_, ?_, ?_, ?_, ?_⟩ <;> omega
      · show pos < posx + 1; omega
      · exact ⟨rfl, hS, fun _ _ h => h, fun _ _ => rfl⟩
      · refine ⟨⟨[91] ++ e ++ [93], by simp only [List.append_assoc]⟩, fun _ => rfl, fun _ _ => rfl, fun h0 h2 => ?_⟩
        rw [h0] at h2
        exact absurd h2 (by show ¬ some (91 : Int32) = some 40; decide)
    · exact Or.inr h
  refine tr_b (tr_i (fun h3 => ?_) (fun h3 => tr_r ?_))
  · have h3 : pp_k ts (pos + 1) = 3 := h3
    refine tr_b (tr_tkn hl (by rw [h3]; rfl) (by rw [h3]; rfl) (by rw [h3]; decide) (by omega) (fun hL2 l2 e2 => tr_pt (by omega) ?_))
    exact (fin _ _ _ _).resolve_right (fun h => h ⟨rfl, by omega, by omega, by omega, by omega, by omega⟩)
  · have := fin (pos + 1) (c + (pp_cs ts pos).length) 0 []
    rw [List.append_nil] at this
    exact this.resolve_right (fun h => h ⟨rfl, by omega, by omega, by omega, by omega, by omega⟩)
/-- the name's characters -/
def enm (ts : List pp_T) (nm : Nat) : Nat := if nm = 0 then 0 else (pp_cs ts (nm - 1)).length
abbrev qM (m nm pos pos1 : Nat) : Prop := (m = 0 → nm ≠ 0) ∧ (m = 2 → nm = 0) ∧ (nm ≠ 0 → pos ≤ nm - 1 ∧ nm - 1 < pos1)
def dS6 (ts : List pp_T) (n j r : Nat) : Prop := ∀ s m, qI ts s → qS s → r + 72 ≤ n + 9 * pq_op s → pq_tl s + 4 * n ≤ 322 + 2 * pq_pos s → m ≤ 2 → tr (fun nm s' => qG ts (8 - pq_op s) (enm ts nm) s s' ∧ qT s s' ∧ qF s s' ∧ qM m nm (pq_pos s) (pq_pos s')) (pp_run ts n j m 0 s)
def dS61 (ts : List pp_T) (n : Nat) : Prop := ∀ s, qI ts s → qS s → 1 + 72 ≤ n + 9 * pq_op s → pq_tl s + 4 * n ≤ 322 + 2 * pq_pos s → tr (fun _ s' => qG ts (8 - pq_op s) 0 s s' ∧ pq_pos s < pq_pos s' ∧ qT s s' ∧ qF s s') (pp_run ts n 61 0 0 s)
theorem p59_ok {s : pp_S} (hS : qS s) (m : Nat) : ∃ y, pp_59 ts m s = some y ∧ (y = false → m ≠ 0) := by
  unfold pp_59
  by_cases h0 : m = 0
  · rw [if_pos h0]; exact ⟨true, rfl, fun e => (nomatch e)⟩
  · rw [if_neg h0]
    by_cases h1 : pp_nx ts s = 42 ∨ pp_nx ts s = 40 ∨ pp_nx ts s = 91
    · rw [if_pos h1]; exact ⟨true, rfl, fun e => (nomatch e)⟩
    · rw [if_neg h1]
      by_cases h2 : pp_nx ts s = 2 ∧ m = 1
      · rw [if_pos h2]
        obtain ⟨pos, op, c, tn, tl, wt, pn, scs, sd, sig, frm, rl, mn, dc, fc⟩ := s
        obtain ⟨b, hb, _⟩ := ib_ok (ts := ts) (s := (pos, op, c, tn, tl, wt, pn, scs, sd, sig, frm, rl, mn, dc, fc)) hS.2.2 hS.2.1 (pos + 1)
        have hb' : pp_ib ts (pos, op, c, tn, tl, wt, pn, scs, sd, sig, frm, rl, mn, dc, fc) (pq_pos (pos, op, c, tn, tl, wt, pn, scs, sd, sig, frm, rl, mn, dc, fc) + 1) = some b := hb
        rw [hb']
        exact ⟨!b, rfl, fun _ => h0⟩
      · rw [if_neg h2]; exact ⟨false, rfl, fun _ => h0⟩
theorem y58 (hl : tLen ts) (H : dS6 ts n 56 2) : dS6 ts (n + 1) 58 1 := by
  intro s m hI hS hr ht hm
  obtain ⟨pos, op, c, tn, tl, wt, pn, scs, sd, sig, frm, rl, mn, dc, fc⟩ := s
  have hI := qI_d hI
  have hS' := qS_d hS
  have hr : 1 + 72 ≤ n + 1 + 9 * op := hr
  have ht : tl + 4 * (n + 1) ≤ 322 + 2 * pos := ht
  have h160 := hl.1
  refine tr_run (show tl + 20 ≤ 1200 by omega) ?_
  show tr _ (pp_58 ts (pp_run ts n) m (pos, op, c, tn, tl, wt, pn, scs, sd, sig, frm, rl, mn, dc, fc))
  unfold pp_58
  have triv : m ≠ 0 → tr (fun nm s' => qG ts (8 - pq_op (pos, op, c, tn, tl, wt, pn, scs, sd, sig, frm, rl, mn, dc, fc)) (enm ts nm) (pos, op, c, tn, tl, wt, pn, scs, sd, sig, frm, rl, mn, dc, fc) s' ∧ qT (pos, op, c, tn, tl, wt, pn, scs, sd, sig, frm, rl, mn, dc, fc) s' ∧ qF (pos, op, c, tn, tl, wt, pn, scs, sd, sig, frm, rl, mn, dc, fc) s' ∧ qM m nm (pq_pos (pos, op, c, tn, tl, wt, pn, scs, sd, sig, frm, rl, mn, dc, fc)) (pq_pos s')) (pp_ret 0 (pos, op, c, tn, tl, wt, pn, scs, sd, sig, frm, rl, mn, dc, fc)) := by
    intro h0
    refine tr_r ⟨?_, qT_r hS, qF_r, fun e => absurd e h0, fun _ => rfl, fun e => absurd rfl e⟩
    show qG ts (8 - op) 0 (pos, op, c, tn, tl, wt, pn, scs, sd, sig, frm, rl, mn, dc, fc) (pos, op, c, tn, tl, wt, pn, scs, sd, sig, frm, rl, mn, dc, fc)
    exact by refine ⟨?_, ?_, ?_, ?_, ?_, ?_, ?_, ?_, ?_, ?_, ?_, ?_, ?_, ?_, ?_, ?_⟩ <;> omega
  refine tr_i (fun h2 => ?_) (fun h2 => tr_i (fun h40 => ?_) (fun h40 => tr_i (fun _ => tr_x) (fun h0 => triv h0)))
  · have hk : pp_k ts pos = 2 := h2.1
    obtain ⟨b, hb⟩ := cd_ok (ts := ts) (s := (pos, op, c, tn, tl, wt, pn, scs, sd, sig, frm, rl, mn, dc, fc)) hS'.2.2 hS'.2.1 hS'.1 pos
    refine tr_if ⟨b, hb, fun _ => ?_, fun _ => tr_x⟩
    refine tr_b (tr_tkn hl (by rw [hk]; rfl) (by rw [hk]; rfl) (by rw [hk]; decide) (by omega) (fun hL l1 e1 => tr_r ⟨?_, ?_, ?_, ?_⟩))
    · show qG ts (8 - op) (pp_cs ts pos).length (pos, op, c, tn, tl, wt, pn, scs, sd, sig, frm, rl, mn, dc, fc) _
      exact by refine ⟨?_, ?_, ?_, ?_, ?_, ?_, ?_, ?_, ?_, ?_, ?_, ?_, ?_, ?_, ?_, ?_⟩ <;> omega
    · exact ⟨rfl, hS, fun _ _ h => h, fun _ _ => rfl⟩
    · exact ⟨⟨[], (List.append_nil _).symm⟩, fun _ => rfl, fun _ _ => rfl, fun a b => by rw [a] at b; cases b⟩
    · exact ⟨fun _ => by omega, fun e => absurd e h2.2, fun _ => ⟨show pos ≤ pos + 1 - 1 by omega, show pos + 1 - 1 < pos + 1 by omega⟩⟩
  · have hk : pp_k ts pos = 40 := h40
    obtain ⟨y, hy, hy0⟩ := p59_ok (ts := ts) hS m
    refine tr_if ⟨y, hy, fun _ => ?_, fun e => triv (hy0 e)⟩
    refine tr_b (tr_tko hl (by rw [hk]; rfl) (by omega) (fun o8 hL l1 e1 => ?_))
    refine tr_b (tr_c (H (pos + 1, op + 1, c + (pp_cs ts pos).length, tn, tl + 3, wt + 0, pn, scs, sd, sig, frm, rl, mn, dc, fc) m ?_ hS (show 2 + 72 ≤ n + 9 * (op + 1) by omega) (show tl + 3 + 4 * n ≤ 322 + 2 * (pos + 1) by omega) hm) (fun nm pos1 op1 c1 tn1 tl1 wt1 pn1 scs1 sd1 sig1 frm1 rl1 mn1 dc1 fc1 h => ?_))
    · exact by refine ⟨?_, ?_, ?_, ?_, ?_, ?_, ?_, ?_, ?_, ?_, ?_, ?_⟩ <;> omega
    · obtain ⟨hn, hT, hF, hM⟩ := h
      have hn : qG ts (8 - (op + 1)) (enm ts nm) (pos + 1, op + 1, c + (pp_cs ts pos).length, tn, tl + 3, wt + 0, pn, scs, sd, sig, frm, rl, mn, dc, fc) (pos1, op1, c1, tn1, tl1, wt1, pn1, scs1, sd1, sig1, frm1, rl1, mn1, dc1, fc1) := hn
      have hn := qG_d hn
      have hg := mulup hn.2.2.2.2.2.2.2.2.2.2.2.2.2.2.2 hn.2.2.2.2.2.2.2.2.2.2.2.1
      rw [show 8 - (op + 1) + 1 = 8 - op by omega] at hg
      refine tr_b (tr_exs hl rfl rfl (by omega) (by omega) (fun _ hL2 l2 e2 => tr_r ⟨?_, ?_, ?_, ?_⟩))
      · show qG ts (8 - op) (enm ts nm) (pos, op, c, tn, tl, wt, pn, scs, sd, sig, frm, rl, mn, dc, fc) _
        exact by refine ⟨?_, ?_, ?_, ?_, ?_, ?_, ?_, ?_, ?_, ?_, ?_, ?_, ?_, ?_, ?_, ?_⟩ <;> omega
      · exact ⟨(qT_d hT).1, (qT_d hT).2.1, (qT_d hT).2.2.1, fun t ht => (qT_d hT).2.2.2 t (by omega)⟩
      · exact hF
      · refine ⟨hM.1, hM.2.1, fun e => ?_⟩
        have := hM.2.2 e
        have h1 : pos + 1 ≤ nm - 1 := this.1
        have h2 : nm - 1 < pos1 := this.2
        exact ⟨show pos ≤ nm - 1 by omega, show nm - 1 < pos1 + 1 by omega⟩
end
