section
variable {ts : List pp_T} {f2 : Int32} {f1 : Nat → Int32} {d : Nat} {T : rq_A} {X : rq_X} {I A : ja_I} {J : ja_J} {s s1 s2 s3 : pp_S} {w : ja_w} {C : pp_C} {v : Nat}
/-- the order of what parameters begin with -/
theorem pp_par {s0 sA sB sC : pp_S} {v1 v2 q : Nat} {e : Bool} (h1 : pp_pt [40] s0 = some (.inr (v1, sA))) (h2 : pp_ns sA = some (.inr (q, sB))) (h3 : pp_os q (pp_sf e (q + 1) sB) = some (.inr (v2, sC))) : ∃ sB' sC' v3, pp_ns s0 = some (.inr (q, sB')) ∧ pp_os q (pp_sf e (q + 1) sB') = some (.inr (v2, sC')) ∧ pp_pt [40] sC' = some (.inr (v3, sC)) := by
  obtain ⟨pos, op, cc, tn, tl, wt, pn, scs, sd, sig, frm, rl, mn, dc, fc⟩ := s0
  simp only [pp_pt] at h1
  split at h1
  · rename_i b1
    cases h1
    simp only [pp_ns] at h2
    split at h2
    · rename_i b2
      cases h2
      have h3' : pp_os sd.length (pos, op, cc, tn + [(40 : Int32)].length, tl, wt, pn, scs, sd ++ [scs.length + 1], sig ++ [40], frm, rl, mn, dc, cond e (sd.length + 1) fc) = some (.inr (v2, sC)) := h3
      simp only [pp_os] at h3'
      split at h3'
      · rename_i b3
        cases h3'
        refine ⟨(pos, op, cc, tn, tl, wt, pn, scs, sd ++ [scs.length + 1], sig, frm, rl, mn, dc, fc), (pos, op, cc, tn, tl, wt, pn, scs ++ [sd.length], sd ++ [scs.length + 1], sig, frm, rl, mn, dc, cond e (sd.length + 1) fc), 0, ?_, ?_, ?_⟩
        · simp only [pp_ns]; rw [if_pos b2]
        · show pp_os sd.length (pos, op, cc, tn, tl, wt, pn, scs, sd ++ [scs.length + 1], sig, frm, rl, mn, dc, cond e (sd.length + 1) fc) = _
          simp only [pp_os]; rw [if_pos b3]
        · simp only [pp_pt]; rw [if_pos b1]
      · cases h3'
    · cases h2
  · cases h1
theorem pp_os_n {q p : Nat} : pp_os q s ≠ some (.inl p) := by
  obtain ⟨pos, op, cc, tn, tl, wt, pn, scs, sd, sig, frm, rl, mn, dc, fc⟩ := s
  intro h; simp only [pp_os] at h; split at h <;> cases h
theorem pp_ns_n {p : Nat} : pp_ns s ≠ some (.inl p) := by
  obtain ⟨pos, op, cc, tn, tl, wt, pn, scs, sd, sig, frm, rl, mn, dc, fc⟩ := s
  intro h; simp only [pp_ns] at h; split at h <;> cases h
/-- where going on leads -/
def t3 (ts : List pp_T) (pos op cc : Nat) : Option (Nat ⊕ (Nat × Nat × Nat)) :=
  if ts.length ≤ pos then none else if 8 < op then none else
    if pp_opens (pp_k ts pos) then (if op = 8 then some (.inl pos) else some (.inr (pos + 1, op + 1, cc + (pp_cs ts pos).length)))
    else if pp_shuts (pp_k ts pos) then (if op = 0 then none else some (.inr (pos + 1, op - 1, cc + (pp_cs ts pos).length)))
    else some (.inr (pos + 1, op, cc + (pp_cs ts pos).length))
def t3m (pos : Nat) (r : Nat × Nat × Nat × Nat × List Nat × List Nat × List Int32 × List Int32 × (Nat → Int32) × (Nat → Int32) × List pp_D × Nat) (x : Option (Nat ⊕ (Nat × Nat × Nat))) : pp_R Nat := match x with
  | none => none
  | some (.inl p) => some (.inl p)
  | some (.inr z) => some (.inr (pos, z.1, z.2.1, z.2.2, r))
theorem pp_tk_t3 (pos op cc : Nat) (r : Nat × Nat × Nat × Nat × List Nat × List Nat × List Int32 × List Int32 × (Nat → Int32) × (Nat → Int32) × List pp_D × Nat) : pp_tk ts (pos, op, cc, r) = t3m pos r (t3 ts pos op cc) := by
  obtain ⟨tn, tl, wt, pn, scs, sd, sig, frm, rl, mn, dc, fc⟩ := r
  simp only [pp_tk, t3]
  by_cases h1 : ts.length ≤ pos
  · rw [if_pos h1, if_pos h1]; rfl
  · rw [if_neg h1, if_neg h1]
    by_cases h2 : 8 < op
    · rw [if_pos h2, if_pos h2]; rfl
    · rw [if_neg h2, if_neg h2]
      by_cases h3 : pp_opens (pp_k ts pos) = true
      · rw [if_pos h3, if_pos h3]
        by_cases h4 : op = 8
        · rw [if_pos h4, if_pos h4]; rfl
        · rw [if_neg h4, if_neg h4]; rfl
      · rw [if_neg h3, if_neg h3]
        by_cases h4 : pp_shuts (pp_k ts pos) = true
        · rw [if_pos h4, if_pos h4]
          by_cases h5 : op = 0
          · rw [if_pos h5, if_pos h5]; rfl
          · rw [if_neg h5, if_neg h5]; rfl
        · rw [if_neg h4, if_neg h4]; rfl
theorem pp_xs_ex {k : Int32} (h1 : pp_xs s = some (.inr (v, s1))) {x : Nat ⊕ (Nat × pp_S)} (h : (pp_b (pp_ex ts k s1) fun _ s => pp_pt [41] s) = some x) : (∃ p, x = .inl p ∧ pp_ex ts k s = some (.inl p)) ∨ (∃ v2 s2 v3 s3 z, pp_ex ts k s = some (.inr (v2, s2)) ∧ pp_pt [41] s2 = some (.inr (v3, s3)) ∧ pp_xs s3 = some (.inr (0, z.2)) ∧ x = .inr z) := by
  obtain ⟨pos, op, cc, tn, tl, wt, pn, scs, sd, sig, frm, rl, mn, dc, fc⟩ := s
  simp only [pp_xs] at h1
  split at h1
  · cases h1
  · rename_i hb
    cases h1
    unfold pp_ex at h ⊢
    by_cases hkk : pp_k ts pos = k
    · rw [if_pos (show pp_k ts (pq_pos (pos, op, cc, tn, tl, wt, pn, scs.dropLast, sd, sig, frm, rl, mn, dc, fc)) = k from hkk), pp_tk_t3] at h
      rw [if_pos (show pp_k ts (pq_pos (pos, op, cc, tn, tl, wt, pn, scs, sd, sig, frm, rl, mn, dc, fc)) = k from hkk), pp_tk_t3]
      cases ht : t3 ts pos op cc with
      | none => rw [ht] at h; cases h
      | some y =>
        rw [ht] at h
        cases y with
        | inl p =>
          cases h
          exact Or.inl ⟨p, rfl, rfl⟩
        | inr z =>
          have h' : pp_pt [41] (z.1, z.2.1, z.2.2, tn, tl, wt, pn, scs.dropLast, sd, sig, frm, rl, mn, dc, fc) = some x := h
          simp only [pp_pt] at h'
          split at h'
          · rename_i hb2
            cases h'
            refine Or.inr ⟨pos, (z.1, z.2.1, z.2.2, tn, tl, wt, pn, scs, sd, sig, frm, rl, mn, dc, fc), 0, (z.1, z.2.1, z.2.2, tn + [(41 : Int32)].length, tl, wt, pn, scs, sd, sig ++ [41], frm, rl, mn, dc, fc), _, rfl, ?_, ?_, rfl⟩
            · simp only [pp_pt]; rw [if_pos hb2]
            · simp only [pp_xs]; rw [if_neg hb]
          · cases h'
    · rw [if_neg (show ¬ pp_k ts (pq_pos (pos, op, cc, tn, tl, wt, pn, scs.dropLast, sd, sig, frm, rl, mn, dc, fc)) = k from hkk)] at h
      rw [if_neg (show ¬ pp_k ts (pq_pos (pos, op, cc, tn, tl, wt, pn, scs, sd, sig, frm, rl, mn, dc, fc)) = k from hkk)]
      cases h
      exact Or.inl ⟨_, rfl, rfl⟩
/-- PARAMETERS_END -/
theorem rt_14s (hts : pp_ok ts) {b : Int32} (hw : rq ts f2 f1 ((14, b) :: T) X (I, A, J) s) {x : Nat ⊕ (Nat × pp_S)} (hx : (pp_b (pp_xs s) fun _ s => pp_b (pp_ex ts 41 s) fun _ s => pp_pt [41] s) = some x) : rG (d + 5) (I, A, J) (rO f2 f1 x (fun _ s1 w => rq ts f2 f1 T X w s1)) := by
  have h0 := rq_pop hw
  rcases pp_bE hx with ⟨p, hr, hp⟩ | ⟨v1, s1, hr, hk⟩
  · obtain ⟨pos, op, cc, tn, tl, wt, pn, scs, sd, sig, frm, rl, mn, dc, fc⟩ := s
    simp only [pp_xs] at hr
    split at hr <;> cases hr
  · rcases pp_xs_ex hr hk with ⟨p, rfl, he⟩ | ⟨v2, s2, v3, s3, z, he, hp, hxs, rfl⟩
    · obtain ⟨I1, A1, J1, hE1, hw1⟩ := rl_16 (d := d + 1) hts h0 (k := 41) (f := 1) (Or.inl ⟨rfl, rfl, rfl⟩) rfl he
      obtain ⟨rfl, e⟩ := hw1
      cases e
      obtain ⟨b0, n0⟩ := rb_of h0
      obtain ⟨I4, A4, J4, hE4, b4, n4⟩ := rl_24b (d := d + 2) b0 n0 (by omega) 41
      exact rt_14 hw ⟨_, _, _, er_43 (r := (_, _)) ⟨_, _, _, hE1, _, _, _, hE4, rfl⟩, b4⟩
    · obtain ⟨I1, A1, J1, hE1, hw1⟩ := rl_16 (d := d + 1) hts h0 (k := 41) (f := 1) (Or.inl ⟨rfl, rfl, rfl⟩) rfl he
      have hw1' : rq ts f2 f1 T X (I1, A1, J1) s2 := hw1
      obtain ⟨I2, A2, J2, hE2, hw2⟩ := rl_24 (d := d + 2) hw1' hp
      refine rt_14 hw ⟨_, _, _, er_43 (r := (_, _)) ⟨_, _, _, hE1, _, _, _, hE2, rfl⟩, ?_⟩
      obtain ⟨pos, op, cc, tn, tl, wt, pn, scs, sd, sig, frm, rl, mn, dc, fc⟩ := s3
      obtain ⟨z1, z2⟩ := z
      simp only [pp_xs] at hxs
      split at hxs
      · cases hxs
      · rename_i hb
        cases hxs
        obtain ⟨hK, h0, hP, hT, hS, hR⟩ := hw2
        have e : I2 0 18 = nI scs.length := hS.1
        have hl : 0 < scs.length := List.length_pos_iff.mpr hb
        have h9 : scs.length ≤ 9 := hS.2.2.1
        refine ⟨hK, h0, hP, hT, ⟨?_, hS.2.1, ?_, hS.2.2.2.1, ?_⟩, hR⟩
        · show I2 0 18 - 1 = nI scs.dropLast.length
          rw [e, List.length_dropLast]
          obtain ⟨o, ho⟩ : ∃ o, scs.length = o + 1 := ⟨scs.length - 1, by omega⟩
          rw [ho]; exact nI_pred o
        · show scs.dropLast.length ≤ 9
          rw [List.length_dropLast]; omega
        · intro i q' hi
          have hi' : scs.dropLast[i]? = some q' := hi
          rw [List.getElem?_dropLast] at hi'
          split at hi'
          · exact hS.2.2.2.2 i q' hi'
          · cases hi'
end
