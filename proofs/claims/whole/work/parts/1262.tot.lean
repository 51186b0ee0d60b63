/-! The third pass: the abstract reader always answers. -/
def tr {α : Type} (Q : α → pp_S → Prop) : pp_R α → Prop
  | none => False
  | some (.inl _) => True
  | some (.inr z) => Q z.1 z.2
section
variable {α β : Type} {ts : List pp_T} {Q : α → pp_S → Prop} {P : β → pp_S → Prop} {pos op c tn tl wt pn fc : Nat} {scs sd : List Nat} {sig frm : List Int32} {rl mn : Nat → Int32} {dc : List pp_D}
theorem tr_b {x : pp_R α} {f : α → pp_S → pp_R β} (h : tr (fun a s => tr P (f a s)) x) : tr P (pp_b x f) := by
  cases x with
  | none => exact h
  | some x => cases x with
    | inl p => trivial
    | inr z => exact h
theorem tr_m {Q' : α → pp_S → Prop} {x : pp_R α} (h : tr Q x) (k : ∀ a s, Q a s → Q' a s) : tr Q' x := by
  cases x with
  | none => exact h
  | some x => cases x with
    | inl p => trivial
    | inr z => exact k _ _ h
theorem tr_r {a : α} {s : pp_S} (h : Q a s) : tr Q (pp_ret a s) := h
theorem tr_x {s : pp_S} : tr Q (pp_bad s) := trivial
theorem tr_if {x : Option Bool} {a b : pp_R α} (h : ∃ y, x = some y ∧ (y = true → tr Q a) ∧ (y = false → tr Q b)) : tr Q (pp_if x a b) := by
  obtain ⟨y, rfl, h1, h2⟩ := h
  cases y with
  | true => exact h1 rfl
  | false => exact h2 rfl
theorem tr_i {p : Prop} [Decidable p] {a b : pp_R α} (h1 : p → tr Q a) (h2 : ¬ p → tr Q b) : tr Q (if p then a else b) := by
  by_cases h : p
  · rw [if_pos h]; exact h1 h
  · rw [if_neg h]; exact h2 h
theorem tr_g {p : Prop} [Decidable p] {a : pp_R α} (h : p) (h1 : tr Q a) : tr Q (if p then a else none) := by
  rw [if_pos h]; exact h1
theorem tr_01 {p : Nat} {x : pp_R α} (hp : p ≤ 1) (h : tr Q x) : tr Q (pp_01 p x) := by
  unfold pp_01; rw [if_pos hp]; exact h
/-- the characters that are still to come -/
def cr (ts : List pp_T) (p : Nat) : Nat := ((ts.drop p).map (fun x => x.2.1.length)).sum
theorem cr_s {p : Nat} (h : p < ts.length) : cr ts p = (pp_cs ts p).length + cr ts (p + 1) := by
  unfold cr pp_cs
  rw [List.drop_eq_getElem_cons h, List.map_cons, List.sum_cons, List.getElem?_eq_getElem h]
abbrev tLen (ts : List pp_T) : Prop := ts.length ≤ 160 ∧ (∀ t, t < ts.length → 1 ≤ (pp_cs ts t).length) ∧ cr ts 0 ≤ 160
theorem at_lt {p : Nat} (h : pp_k ts p ≠ 0) : p < ts.length := by
  by_cases hp : p < ts.length
  · exact hp
  · exact absurd (pp_k_ge (by omega)) h
abbrev pp_Sr : Type := Nat × Nat × Nat × Nat × List Nat × List Nat × List Int32 × List Int32 × (Nat → Int32) × (Nat → Int32) × List pp_D × Nat
theorem tr_tko {Q : Nat → pp_S → Prop} {r : pp_Sr} (hl : tLen ts) (hk : pp_opens (pp_k ts pos) = true) (ho : op ≤ 8) (K : op < 8 → pos < ts.length → 1 ≤ (pp_cs ts pos).length → cr ts pos = (pp_cs ts pos).length + cr ts (pos + 1) → Q pos (pos + 1, op + 1, c + (pp_cs ts pos).length, r)) : tr Q (pp_tk ts (pos, op, c, r)) := by
  have hL : pos < ts.length := at_lt (fun e => by rw [e] at hk; exact absurd hk (by decide))
  simp only [pp_tk]
  rw [if_neg (by omega), if_neg (by omega), if_pos hk]
  by_cases h8 : op = 8
  · rw [if_pos h8]; trivial
  · rw [if_neg h8]; exact K (by omega) hL (hl.2.1 _ hL) (cr_s hL)
theorem tr_tks {Q : Nat → pp_S → Prop} {r : pp_Sr} (hl : tLen ts) (hk : pp_shuts (pp_k ts pos) = true) (hn : pp_opens (pp_k ts pos) = false) (ho : op ≤ 8) (h0 : 1 ≤ op) (K : pos < ts.length → 1 ≤ (pp_cs ts pos).length → cr ts pos = (pp_cs ts pos).length + cr ts (pos + 1) → Q pos (pos + 1, op - 1, c + (pp_cs ts pos).length, r)) : tr Q (pp_tk ts (pos, op, c, r)) := by
  have hL : pos < ts.length := at_lt (fun e => by rw [e] at hk; exact absurd hk (by decide))
  simp only [pp_tk]
  rw [if_neg (by omega), if_neg (by omega), if_neg (by rw [hn]; decide), if_pos hk, if_neg (by omega)]
  exact K hL (hl.2.1 _ hL) (cr_s hL)
theorem tr_tkn {Q : Nat → pp_S → Prop} {r : pp_Sr} (hl : tLen ts) (hk : pp_shuts (pp_k ts pos) = false) (hn : pp_opens (pp_k ts pos) = false) (h0 : pp_k ts pos ≠ 0) (ho : op ≤ 8) (K : pos < ts.length → 1 ≤ (pp_cs ts pos).length → cr ts pos = (pp_cs ts pos).length + cr ts (pos + 1) → Q pos (pos + 1, op, c + (pp_cs ts pos).length, r)) : tr Q (pp_tk ts (pos, op, c, r)) := by
  have hL : pos < ts.length := at_lt h0
  simp only [pp_tk]
  rw [if_neg (by omega), if_neg (by omega), if_neg (by rw [hn]; decide), if_neg (by rw [hk]; decide)]
  exact K hL (hl.2.1 _ hL) (cr_s hL)
theorem tr_exo {Q : Nat → pp_S → Prop} {r : pp_Sr} {k : Int32} (hl : tLen ts) (hk : pp_opens k = true) (ho : op ≤ 8) (K : pp_k ts pos = k → op < 8 → pos < ts.length → 1 ≤ (pp_cs ts pos).length → cr ts pos = (pp_cs ts pos).length + cr ts (pos + 1) → Q pos (pos + 1, op + 1, c + (pp_cs ts pos).length, r)) : tr Q (pp_ex ts k (pos, op, c, r)) :=
  tr_i (fun e => tr_tko hl (by rw [show pp_k ts pos = k from e]; exact hk) ho (K e)) (fun _ => trivial)
theorem tr_exs {Q : Nat → pp_S → Prop} {r : pp_Sr} {k : Int32} (hl : tLen ts) (hk : pp_shuts k = true) (hn : pp_opens k = false) (ho : op ≤ 8) (h0 : 1 ≤ op) (K : pp_k ts pos = k → pos < ts.length → 1 ≤ (pp_cs ts pos).length → cr ts pos = (pp_cs ts pos).length + cr ts (pos + 1) → Q pos (pos + 1, op - 1, c + (pp_cs ts pos).length, r)) : tr Q (pp_ex ts k (pos, op, c, r)) :=
  tr_i (fun e => tr_tks hl (by rw [show pp_k ts pos = k from e]; exact hk) (by rw [show pp_k ts pos = k from e]; exact hn) ho h0 (K e)) (fun _ => trivial)
theorem tr_exn {Q : Nat → pp_S → Prop} {r : pp_Sr} {k : Int32} (hl : tLen ts) (hk : pp_shuts k = false) (hn : pp_opens k = false) (h0 : k ≠ 0) (ho : op ≤ 8) (K : pp_k ts pos = k → pos < ts.length → 1 ≤ (pp_cs ts pos).length → cr ts pos = (pp_cs ts pos).length + cr ts (pos + 1) → Q pos (pos + 1, op, c + (pp_cs ts pos).length, r)) : tr Q (pp_ex ts k (pos, op, c, r)) :=
  tr_i (fun e => tr_tkn hl (by rw [show pp_k ts pos = k from e]; exact hk) (by rw [show pp_k ts pos = k from e]; exact hn) (by rw [show pp_k ts pos = k from e]; exact h0) ho (K e)) (fun _ => trivial)
theorem tr_pf {Q : Nat → pp_S → Prop} {l : List Int32} (h : frm.length + l.length ≤ 640) (K : Q 0 (pos, op, c, tn, tl, wt, pn, scs, sd, sig, frm ++ l, rl, mn, dc, fc)) : tr Q (pp_pf l (pos, op, c, tn, tl, wt, pn, scs, sd, sig, frm, rl, mn, dc, fc)) := by
  simp only [pp_pf]; rw [if_pos h]; exact K
theorem tr_pt {Q : Nat → pp_S → Prop} {l : List Int32} (h : tn + l.length ≤ 640) (K : Q 0 (pos, op, c, tn + l.length, tl, wt, pn, scs, sd, sig ++ l, frm, rl, mn, dc, fc)) : tr Q (pp_pt l (pos, op, c, tn, tl, wt, pn, scs, sd, sig, frm, rl, mn, dc, fc)) := by
  simp only [pp_pt]; rw [if_pos h]; exact K
theorem tr_os {Q : Nat → pp_S → Prop} {q : Nat} (h : scs.length ≤ 8 ∧ q < 1000) (K : Q 0 (pos, op, c, tn, tl, wt, pn, scs ++ [q], sd, sig, frm, rl, mn, dc, fc)) : tr Q (pp_os q (pos, op, c, tn, tl, wt, pn, scs, sd, sig, frm, rl, mn, dc, fc)) := by
  simp only [pp_os]; rw [if_pos h]; exact K
theorem tr_ns {Q : Nat → pp_S → Prop} (h : sd.length < 1000) (K : Q sd.length (pos, op, c, tn, tl, wt, pn, scs, sd ++ [scs.length + 1], sig, frm, rl, mn, dc, fc)) : tr Q (pp_ns (pos, op, c, tn, tl, wt, pn, scs, sd, sig, frm, rl, mn, dc, fc)) := by
  simp only [pp_ns]; rw [if_pos h]; exact K
theorem tr_xs {Q : Nat → pp_S → Prop} (h : scs ≠ []) (K : Q 0 (pos, op, c, tn, tl, wt, pn, scs.dropLast, sd, sig, frm, rl, mn, dc, fc)) : tr Q (pp_xs (pos, op, c, tn, tl, wt, pn, scs, sd, sig, frm, rl, mn, dc, fc)) := by
  simp only [pp_xs]; rw [if_neg h]; exact K
theorem tr_es {Q : Nat → pp_S → Prop} {r : pp_Sr} (h : 1 ≤ op) (K : Q 0 (pos, op - 1, c, r)) : tr Q (pp_es (pos, op, c, r)) := by
  obtain ⟨tn, tl, wt, pn, scs, sd, sig, frm, rl, mn, dc, fc⟩ := r
  simp only [pp_es]; rw [if_neg (by omega)]; exact K
theorem tr_pu {Q : Nat → pp_S → Prop} {r : List Nat × List Nat × List Int32 × List Int32 × (Nat → Int32) × (Nat → Int32) × List pp_D × Nat} (h : pn < 160) (K : Q 0 (pos, op, c, tn, tl, wt, pn + 1, r)) : tr Q (pp_pu (pos, op, c, tn, tl, wt, pn, r)) := by
  simp only [pp_pu]; rw [if_pos h]; exact K
theorem tr_c {C : pp_C} {Q P : Nat → pp_S → Prop} {j a b m x : Nat} {r : Nat × List Nat × List Nat × List Int32 × List Int32 × (Nat → Int32) × (Nat → Int32) × List pp_D × Nat} (H : tr P (C j a b (pos, op, c, tn, tl + m, wt + x, r)))
    (K : ∀ v pos' op' c' tn' tl' wt' pn' scs' sd' sig' frm' rl' mn' dc' fc', P v (pos', op', c', tn', tl', wt', pn', scs', sd', sig', frm', rl', mn', dc', fc') → Q v (pos', op', c', tn', tl, wt, pn', scs', sd', sig', frm', rl', mn', dc', fc')) : tr Q (pp_c C j a b m x (pos, op, c, tn, tl, wt, r)) := by
  simp only [pp_c]
  refine tr_b (tr_m H (fun v s h => ?_))
  obtain ⟨pos', op', c', tn', tl', wt', pn', scs', sd', sig', frm', rl', mn', dc', fc'⟩ := s
  exact K _ _ _ _ _ _ _ _ _ _ _ _ _ _ _ _ h
/-- a loop -/
theorem tr_w {cd : α → pp_S → Option Bool} {bd : α → pp_S → pp_R α} {N : Nat} {J : α → pp_S → Prop} (h0 : ∀ a s, J a s → ∃ y, cd a s = some y ∧ (y = true → pq_pos s < N)) (hs : ∀ a s, J a s → cd a s = some true → tr (fun a' s' => J a' s' ∧ pq_pos s < pq_pos s') (bd a s)) (hQ : ∀ a s, J a s → cd a s = some false → Q a s) : ∀ (m : Nat) (a : α) (s : pp_S), N ≤ m + pq_pos s → J a s → tr Q (pp_w cd bd m a s)
  | 0, a, s, hm, hJ => by
    obtain ⟨y, hy, h1⟩ := h0 a s hJ
    cases y with
    | true => exact absurd (h1 rfl) (by omega)
    | false =>
      simp only [pp_w]
      rw [hy]
      exact hQ a s hJ hy
  | m + 1, a, s, hm, hJ => by
    obtain ⟨y, hy, h1⟩ := h0 a s hJ
    cases y with
    | true =>
      simp only [pp_w]
      rw [hy]
      refine tr_b (tr_m (hs a s hJ hy) (fun a' s' h => tr_w h0 hs hQ m a' s' (by have := h.2; omega) h.1))
    | false =>
      simp only [pp_w]
      rw [hy]
      exact hQ a s hJ hy
end
/-! What a name means: both ways agree. -/
def iD (sd : List Nat) (dc : List pp_D) : Prop := ∀ x ∈ dc, sd[x.2.1]? = some x.2.2.1
def iC (sd scs : List Nat) : Prop := ∀ (i q : Nat), scs[i]? = some q → sd[q]? = some (i + 1)
section
variable {ts : List pp_T} {scs sd : List Nat} {v : Int64} {q : Nat}
def mfb (b : Option (Nat × Nat)) (d : Nat) : Bool := match b with | none => true | some y => Nat.blt y.2 d
theorem mf_c {x : pp_D} {l : List pp_D} {k : Nat} {b : Option (Nat × Nat)} : pp_mf ts scs v (x :: l) k b = pp_mf ts scs v l (k + 1) (if x.2.2.1 ≤ scs.length ∧ 1 ≤ x.2.2.1 ∧ scs[x.2.2.1 - 1]? = some x.2.1 ∧ mfb b x.2.2.1 = true ∧ pp_wd ts x.1 = v then some (k, x.2.2.1) else b) := rfl
theorem mf_keep : ∀ (l : List pp_D) (k : Nat) (y : Nat × Nat), scs.length ≤ y.2 → pp_mf ts scs v l k (some y) = some y
  | [], _, _, _ => rfl
  | x :: l, k, y, h => by
    rw [mf_c]
    rw [if_neg (fun c => absurd c.2.2.2.1 (by
      have h1 := c.1
      show ¬ Nat.blt y.2 x.2.2.1 = true
      rw [Nat.blt_eq]
      omega))]
    exact mf_keep l (k + 1) y h
theorem mf_some (hq : sd[q]? = some (scs.length + 1)) : ∀ (l : List pp_D) (k : Nat) (b : Option (Nat × Nat)) (j : Nat), iD sd l → (∀ y, b = some y → y.2 ≤ scs.length) → pp_m1 ts v q l k = some j → pp_mf ts (scs ++ [q]) v l k b = some (j, scs.length + 1)
  | [], _, _, _, _, _, h => by cases h
  | x :: l, k, b, j, hd, hb, h => by
    unfold pp_m1 at h
    rw [mf_c]
    have hx := hd x List.mem_cons_self
    have hd' : iD sd l := fun y hy => hd y (List.mem_cons_of_mem _ hy)
    by_cases hc : x.2.1 = q ∧ pp_wd ts x.1 = v
    · rw [if_pos hc] at h
      cases h
      have e : x.2.2.1 = scs.length + 1 := by
        rw [hc.1, hq] at hx
        exact (Option.some.inj hx).symm
      have hcond : x.2.2.1 ≤ (scs ++ [q]).length ∧ 1 ≤ x.2.2.1 ∧ (scs ++ [q])[x.2.2.1 - 1]? = some x.2.1 ∧ mfb b x.2.2.1 = true ∧ pp_wd ts x.1 = v := by
        refine ⟨by rw [List.length_append, e]; exact Nat.le_refl _, by omega, ?_, ?_, hc.2⟩
        · rw [e, Nat.add_sub_cancel, List.getElem?_append_right (Nat.le_refl _), Nat.sub_self, hc.1]; rfl
        · cases b with
          | none => rfl
          | some y =>
            have := hb y rfl
            show Nat.blt y.2 x.2.2.1 = true
            rw [Nat.blt_eq]; omega
      rw [if_pos hcond, e]
      exact mf_keep l (k + 1) (k, scs.length + 1) (by rw [List.length_append]; exact Nat.le_refl _)
    · rw [if_neg hc] at h
      refine mf_some hq l (k + 1) _ j hd' ?_ h
      intro y hy
      by_cases hv : x.2.2.1 ≤ (scs ++ [q]).length ∧ 1 ≤ x.2.2.1 ∧ (scs ++ [q])[x.2.2.1 - 1]? = some x.2.1 ∧ mfb b x.2.2.1 = true ∧ pp_wd ts x.1 = v
      · rw [if_pos hv] at hy
        cases hy
        show x.2.2.1 ≤ scs.length
        have h1 := hv.1
        rw [List.length_append] at h1
        have h1' : x.2.2.1 ≤ scs.length + 1 := h1
        by_cases e : x.2.2.1 = scs.length + 1
        · exfalso
          have h3 := hv.2.2.1
          rw [e, Nat.add_sub_cancel, List.getElem?_append_right (Nat.le_refl _), Nat.sub_self] at h3
          exact hc ⟨(Option.some.inj h3).symm, hv.2.2.2.2⟩
        · omega
      · rw [if_neg hv] at hy
        exact hb y hy
theorem mf_none : ∀ (l : List pp_D) (k : Nat) (b : Option (Nat × Nat)), pp_m1 ts v q l k = none → pp_mf ts (scs ++ [q]) v l k b = pp_mf ts scs v l k b
  | [], _, _, _ => rfl
  | x :: l, k, b, h => by
    unfold pp_m1 at h
    rw [mf_c]
    by_cases hc : x.2.1 = q ∧ pp_wd ts x.1 = v
    · rw [if_pos hc] at h; cases h
    · rw [if_neg hc] at h
      have e : (x.2.2.1 ≤ (scs ++ [q]).length ∧ 1 ≤ x.2.2.1 ∧ (scs ++ [q])[x.2.2.1 - 1]? = some x.2.1 ∧ mfb b x.2.2.1 = true ∧ pp_wd ts x.1 = v) ↔ (x.2.2.1 ≤ scs.length ∧ 1 ≤ x.2.2.1 ∧ scs[x.2.2.1 - 1]? = some x.2.1 ∧ mfb b x.2.2.1 = true ∧ pp_wd ts x.1 = v) := by
        constructor
        · rintro ⟨h1, h2, h3, h4, h5⟩
          rw [List.length_append] at h1
          have h1' : x.2.2.1 ≤ scs.length + 1 := h1
          by_cases e : x.2.2.1 = scs.length + 1
          · exfalso
            rw [e, Nat.add_sub_cancel, List.getElem?_append_right (Nat.le_refl _), Nat.sub_self] at h3
            exact hc ⟨(Option.some.inj h3).symm, h5⟩
          · refine ⟨by omega, h2, ?_, h4, h5⟩
            rw [List.getElem?_append_left (by omega)] at h3
            exact h3
        · rintro ⟨h1, h2, h3, h4, h5⟩
          refine ⟨by rw [List.length_append]; omega, h2, ?_, h4, h5⟩
          rw [List.getElem?_append_left (by omega)]
          exact h3
      rw [show (if x.2.2.1 ≤ (scs ++ [q]).length ∧ 1 ≤ x.2.2.1 ∧ (scs ++ [q])[x.2.2.1 - 1]? = some x.2.1 ∧ mfb b x.2.2.1 = true ∧ pp_wd ts x.1 = v then some (k, x.2.2.1) else b) = (if x.2.2.1 ≤ scs.length ∧ 1 ≤ x.2.2.1 ∧ scs[x.2.2.1 - 1]? = some x.2.1 ∧ mfb b x.2.2.1 = true ∧ pp_wd ts x.1 = v then some (k, x.2.2.1) else b) from by
        by_cases hv : (x.2.2.1 ≤ scs.length ∧ 1 ≤ x.2.2.1 ∧ scs[x.2.2.1 - 1]? = some x.2.1 ∧ mfb b x.2.2.1 = true ∧ pp_wd ts x.1 = v)
        · rw [if_pos hv, if_pos (e.mpr hv)]
        · rw [if_neg hv, if_neg (fun h => hv (e.mp h))]]
      exact mf_none l (k + 1) _ h
theorem mf_nil : ∀ (l : List pp_D) (k : Nat) (b : Option (Nat × Nat)), pp_mf ts [] v l k b = b
  | [], _, _ => rfl
  | x :: l, k, b => by
    rw [mf_c]
    rw [if_neg (fun c => by have h1 : x.2.2.1 ≤ 0 := c.1; have h2 := c.2.1; omega)]
    exact mf_nil l (k + 1) b
theorem m1_lt : ∀ (l : List pp_D) (k j : Nat), pp_m1 ts v q l k = some j → ∃ i x, j = k + i ∧ l[i]? = some x ∧ x.2.1 = q
  | [], _, _, h => by cases h
  | x :: l, k, j, h => by
    unfold pp_m1 at h
    by_cases hc : x.2.1 = q ∧ pp_wd ts x.1 = v
    · rw [if_pos hc] at h
      cases h
      exact ⟨0, x, rfl, rfl, hc.1⟩
    · rw [if_neg hc] at h
      obtain ⟨i, y, h1, h2, h3⟩ := m1_lt l (k + 1) j h
      exact ⟨i + 1, y, by omega, h2, h3⟩
theorem me_eq {dc : List pp_D} (hd : iD sd dc) : ∀ (l : List Nat), iC sd l.reverse → pp_mc ts l.reverse dc v = pp_mr ts dc v l ∧ ∀ k, pp_mr ts dc v l = some k → ∃ x, dc[k]? = some x ∧ 1 ≤ x.2.2.1 ∧ l.reverse[x.2.2.1 - 1]? = some x.2.1
  | [], _ => by
    refine ⟨?_, fun k h => by cases h⟩
    unfold pp_mc
    rw [List.reverse_nil, mf_nil]
    rfl
  | q :: l, hC => by
    rw [List.reverse_cons] at hC ⊢
    have hq : sd[q]? = some (l.reverse.length + 1) := hC l.reverse.length q (by rw [List.getElem?_append_right (Nat.le_refl _), Nat.sub_self]; rfl)
    have hC' : iC sd l.reverse := fun i q' h => hC i q' (by
      rw [List.getElem?_append_left (by exact (List.getElem?_eq_some_iff.mp h).1)]; exact h)
    obtain ⟨i1, i2⟩ := me_eq hd l hC'
    unfold pp_mr
    cases h1 : pp_m1 ts v q dc 0 with
    | some j =>
      refine ⟨?_, ?_⟩
      · unfold pp_mc
        rw [mf_some hq dc 0 none j hd (fun y h => by cases h) h1]
        rfl
      · intro k hk
        cases hk
        obtain ⟨i, x, e, hx, hxq⟩ := m1_lt dc 0 j h1
        rw [Nat.zero_add] at e
        subst e
        have hxd := hd x (List.mem_of_getElem? hx)
        rw [hxq, hq] at hxd
        have e := (Option.some.inj hxd).symm
        refine ⟨x, hx, by omega, ?_⟩
        rw [e, Nat.add_sub_cancel, List.getElem?_append_right (Nat.le_refl _), Nat.sub_self, hxq]; rfl
    | none =>
      refine ⟨?_, ?_⟩
      · unfold pp_mc
        rw [mf_none dc 0 none h1]
        exact i1
      · intro k hk
        obtain ⟨x, hx, h1, h2⟩ := i2 k hk
        refine ⟨x, hx, h1, ?_⟩
        rw [List.getElem?_append_left (by exact (List.getElem?_eq_some_iff.mp h2).1)]; exact h2
theorem me_ok {s : pp_S} (hd : iD (pq_sd s) (pq_dc s)) (hc : iC (pq_sd s) (pq_scs s)) (t : Nat) : ∃ m, pp_me ts s t = some m ∧ ∀ k, m = some k → ∃ x, (pq_dc s)[k]? = some x ∧ 1 ≤ x.2.2.1 ∧ (pq_scs s)[x.2.2.1 - 1]? = some x.2.1 := by
  have := me_eq (ts := ts) (v := pp_wd ts t) hd (pq_scs s).reverse (by rw [List.reverse_reverse]; exact hc)
  rw [List.reverse_reverse] at this
  unfold pp_me
  rw [if_pos this.1]
  exact ⟨_, rfl, fun k hk => this.2 k (this.1 ▸ hk)⟩
theorem ib_ok {s : pp_S} (hd : iD (pq_sd s) (pq_dc s)) (hc : iC (pq_sd s) (pq_scs s)) (t : Nat) : ∃ b, pp_ib ts s t = some b ∧ (b = true → pp_k ts t = 2 → ∃ k, pp_me ts s t = some (some k) ∧ k < (pq_dc s).length) ∧ (b = true → pp_k ts t = 2 ∨ pp_k ts t = 5 ∨ pp_k ts t = 6 ∨ pp_k ts t = 7) := by
  unfold pp_ib
  by_cases h2 : pp_k ts t = 2
  · rw [if_pos h2]
    obtain ⟨m, hm, h⟩ := me_ok (ts := ts) hd hc t
    rw [hm]
    cases m with
    | none => exact ⟨false, rfl, fun e => (nomatch e), fun e => (nomatch e)⟩
    | some k =>
      obtain ⟨x, hx, _⟩ := h k rfl
      exact ⟨_, rfl, fun _ _ => ⟨k, rfl, (List.getElem?_eq_some_iff.mp hx).1⟩, fun _ => Or.inl h2⟩
  · rw [if_neg h2]
    refine ⟨_, rfl, fun _ e => absurd e h2, fun e => ?_⟩
    simp only [Bool.or_eq_true, beq_iff_eq] at e
    rcases e with (e | e) | e
    · exact Or.inr (Or.inl e)
    · exact Or.inr (Or.inr (Or.inl e))
    · exact Or.inr (Or.inr (Or.inr e))
theorem mt_ok {s : pp_S} (hd : iD (pq_sd s) (pq_dc s)) (hc : iC (pq_sd s) (pq_scs s)) (t : Nat) : ∃ b, pp_mt ts s t = some b ∧ (b = true → ∃ k, pp_me ts s t = some (some k) ∧ k < (pq_dc s).length) := by
  unfold pp_mt
  obtain ⟨m, hm, h⟩ := me_ok (ts := ts) hd hc t
  rw [hm]
  cases m with
  | none => exact ⟨false, rfl, fun e => (nomatch e)⟩
  | some k =>
    obtain ⟨x, hx, _⟩ := h k rfl
    exact ⟨_, rfl, fun _ => ⟨k, rfl, (List.getElem?_eq_some_iff.mp hx).1⟩⟩
theorem cd_ok {s : pp_S} (hd : iD (pq_sd s) (pq_dc s)) (hc : iC (pq_sd s) (pq_scs s)) (hn : pq_scs s ≠ []) (t : Nat) : ∃ b, pp_cd ts s t = some b := by
  unfold pp_cd
  rw [if_neg hn]
  obtain ⟨m, hm, h⟩ := me_ok (ts := ts) hd hc t
  rw [hm]
  cases m with
  | none => exact ⟨true, rfl⟩
  | some k =>
    obtain ⟨x, hx, h1, h2⟩ := h k rfl
    have hl : x.2.2.1 - 1 < (pq_scs s).length := (List.getElem?_eq_some_iff.mp h2).1
    have hlast : (pq_scs s)[(pq_scs s).length - 1]? = some ((pq_scs s).getLastD 0) := by
      rw [← List.getLast?_eq_getElem?, List.getLastD_eq_getLast?, List.getLast?_eq_some_getLast hn]; rfl
    have hp : 0 < (pq_scs s).length := by omega
    simp only [hx]
    have e : Nat.blt x.2.2.1 (pq_scs s).length = !(Nat.beq x.2.1 ((pq_scs s).getLastD 0)) := by
      by_cases e : x.2.2.1 = (pq_scs s).length
      · rw [e] at h2
        rw [h2] at hlast
        have e2 := Option.some.inj hlast
        rw [← e2, Nat.beq_refl, e]
        cases hb : Nat.blt (pq_scs s).length (pq_scs s).length with
        | false => rfl
        | true => rw [Nat.blt_eq] at hb; omega
      · have e1 : Nat.blt x.2.2.1 (pq_scs s).length = true := by rw [Nat.blt_eq]; omega
        have e2 : Nat.beq x.2.1 ((pq_scs s).getLastD 0) = false := by
          cases hb : Nat.beq x.2.1 ((pq_scs s).getLastD 0) with
          | false => rfl
          | true =>
            exfalso
            have hb' := Nat.eq_of_beq_eq_true hb
            have a1 := hc _ _ h2
            have a2 := hc _ _ hlast
            rw [← hb', a1] at a2
            have := Option.some.inj a2
            omega
        rw [e1, e2]; rfl
    rw [if_pos e]
    exact ⟨_, rfl⟩
theorem use_ok {s : pp_S} {t k : Nat} (h : pp_me ts s t = some (some k)) {Q : Nat → pp_S → Prop} (K : ∀ v, Q t (pq_pos s, pq_op s, pq_c s, pq_tn s, pq_tl s, pq_wt s, pq_pn s, pq_scs s, pq_sd s, pq_sig s, pq_frm s, pp_fu (pq_rl s) t v, pp_fu (pq_mn s) t (Int32.ofNat k), pq_dc s, pq_fc s)) : tr Q (pp_use ts t s) := by
  obtain ⟨pos, op, cc, tn, tl, wt, pn, scs, sd, sig, frm, rl, mn, dc, fc⟩ := s
  unfold pp_use
  rw [h]
  exact K _
end
