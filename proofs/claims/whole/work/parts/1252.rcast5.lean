/-- the same but for the room -/
def sr (s s' : pp_S) : Prop := s'.1 = s.1 ∧ s'.2.1 = s.2.1 ∧ s'.2.2.1 = s.2.2.1 ∧ s'.2.2.2.1 = s.2.2.2.1 ∧ s'.2.2.2.2.2.2.2 = s.2.2.2.2.2.2.2
def xr (x x' : Nat ⊕ (Nat × pp_S)) : Prop := (∃ p, x = .inl p ∧ x' = .inl p) ∨ (∃ v s s', x = .inr (v, s) ∧ x' = .inr (v, s') ∧ sr s s')
section
variable {ts : List pp_T} {f2 : Int32} {f1 : Nat → Int32} {d : Nat} {T : rq_A} {X : rq_X} {I A : ja_I} {J : ja_J} {s s' s1 s2 s3 : pp_S} {w : ja_w} {C C' : pp_C} {v : Nat}
theorem sr_0 (s : pp_S) : sr s s := ⟨rfl, rfl, rfl, rfl, rfl⟩
theorem sr_t (h : sr s s1) (k : sr s1 s2) : sr s s2 := ⟨k.1.trans h.1, k.2.1.trans h.2.1, k.2.2.1.trans h.2.2.1, k.2.2.2.1.trans h.2.2.2.1, k.2.2.2.2.trans h.2.2.2.2⟩
theorem sr_s (h : sr s s1) : sr s1 s := ⟨h.1.symm, h.2.1.symm, h.2.2.1.symm, h.2.2.2.1.symm, h.2.2.2.2.symm⟩
theorem sr_sh (m n : Nat) (s : pp_S) : sr s (sh m n s) := by
  obtain ⟨pos, op, cc, tn, tl, wt, r⟩ := s
  exact ⟨rfl, rfl, rfl, rfl, rfl⟩
theorem sr_pu (h : pp_pu s = some (.inr (v, s1))) : sr s s1 := by
  obtain ⟨pos, op, cc, tn, tl, wt, pn, r⟩ := s
  simp only [pp_pu] at h
  split at h
  · cases h; exact ⟨rfl, rfl, rfl, rfl, rfl⟩
  · cases h
theorem rq_sr (h : sr s s') (hw : rq ts f2 f1 T X w s) : rq ts f2 f1 T X w s' := by
  obtain ⟨pos, op, cc, tn, tl, wt, pn, r⟩ := s
  obtain ⟨pos', op', cc', tn', tl', wt', pn', r'⟩ := s'
  obtain ⟨h1, h2, h3, h4, h5⟩ := h
  cases h1; cases h2; cases h3; cases h4; cases h5
  exact hw
theorem tk_sr (h : sr s s') {x : Nat ⊕ (Nat × pp_S)} (hx : pp_tk ts s = some x) : ∃ x', pp_tk ts s' = some x' ∧ xr x x' := by
  obtain ⟨pos, op, cc, tn, tl, wt, pn, r⟩ := s
  obtain ⟨pos', op', cc', tn', tl', wt', pn', r'⟩ := s'
  obtain ⟨h1, h2, h3, h4, h5⟩ := h
  cases h1; cases h2; cases h3; cases h4; cases h5
  rw [pp_tk_t3] at hx ⊢
  cases ht : t3 ts pos op cc with
  | none => rw [ht] at hx; cases hx
  | some y =>
    rw [ht] at hx
    cases y with
    | inl p =>
      cases hx
      exact ⟨_, rfl, Or.inl ⟨p, rfl, rfl⟩⟩
    | inr z =>
      cases hx
      exact ⟨_, rfl, Or.inr ⟨pos, _, _, rfl, rfl, rfl, rfl, rfl, rfl, rfl⟩⟩
theorem ex_sr (h : sr s s') {k : Int32} {x : Nat ⊕ (Nat × pp_S)} (hx : pp_ex ts k s = some x) : ∃ x', pp_ex ts k s' = some x' ∧ xr x x' := by
  have hp : pq_pos s' = pq_pos s := h.1
  unfold pp_ex at hx ⊢
  rw [hp]
  split at hx
  · rename_i hk
    rw [if_pos hk]
    exact tk_sr h hx
  · rename_i hk
    rw [if_neg hk]
    cases hx
    exact ⟨_, rfl, Or.inl ⟨pq_pos s, rfl, congrArg Sum.inl hp⟩⟩
theorem pf_sr (h : sr s s') {l : List Int32} {x : Nat ⊕ (Nat × pp_S)} (hx : pp_pf l s = some x) : ∃ x', pp_pf l s' = some x' ∧ xr x x' := by
  obtain ⟨pos, op, cc, tn, tl, wt, pn, scs, sd, sig, frm, rl, mn, dc, fc⟩ := s
  obtain ⟨pos', op', cc', tn', tl', wt', pn', r'⟩ := s'
  obtain ⟨h1, h2, h3, h4, h5⟩ := h
  cases h1; cases h2; cases h3; cases h4; cases h5
  simp only [pp_pf] at hx
  split at hx
  · rename_i hb
    cases hx
    refine ⟨.inr (0, pos, op, cc, tn, tl', wt', pn', scs, sd, sig, frm ++ l, rl, mn, dc, fc), ?_, Or.inr ⟨0, _, _, rfl, rfl, rfl, rfl, rfl, rfl, rfl⟩⟩
    simp only [pp_pf]
    rw [if_pos hb]
  · cases hx
theorem sr_sig (h : sr s s') : pq_sig s' = pq_sig s ∧ pp_at ts s' = pp_at ts s ∧ (∀ b, rtn ts s b → rtn ts s' b) ∧ sr (pp_z s) (pp_z s') := by
  obtain ⟨pos, op, cc, tn, tl, wt, pn, scs, sd, sig, frm, rl, mn, dc, fc⟩ := s
  obtain ⟨pos', op', cc', tn', tl', wt', pn', r'⟩ := s'
  obtain ⟨h1, h2, h3, h4, h5⟩ := h
  cases h1; cases h2; cases h3; cases h4; cases h5
  exact ⟨rfl, rfl, fun _ h => h, ⟨rfl, rfl, rfl, rfl, rfl⟩⟩
/-- typed of an abstract behind its bracket: up to the shutting one. s is where the bracket stands, s' the same with the room of the call -/
theorem rr_66c (H : rD ts f2 f1 (d + 9) C') (h55 : ∀ s x, C 55 2 0 s = some x → pp_55 ts C' 2 s = some x) {a : Int32} {fs pl : Int32} {wl : List Int32} {m n : Nat}
    (hT : T.length + 1 ≤ (tw s).1 + m + 4) (hX : wl.length ≤ (tw s).2 + n)
    (first : ∀ s' x, sr s s' → (pp_b (pp_tk ts s') fun _ s => pp_base ts (pp_z s)) = some x → rG (d + 9) w (rO f2 f1 x (fun b s2 w => rq ts f2 f1 ((6, 2) :: (a, pp_bv ts s2 b) :: T) (0, -1, fs, wl, pl) w s2)))
    {k : Nat → pp_S → pp_S → pp_R Nat} {x : Nat ⊕ (Nat × pp_S)} (hx : (pp_b (pp_tk ts s) fun _ s1 => pp_b (pp_c C 55 2 0 m n (pp_z s1)) fun v s2 => k v s1 s2) = some x) {G : ja_w → Prop}
    (bad : ∀ p w1, x = .inl p → rb f2 f1 p w1 → G w1)
    (good : ∀ (b v t : Nat) (s1 s2 s3 s4 : pp_S) (fs2 : Int32) (w1 : ja_w), pp_tk ts s = some (.inr (t, s1)) → pp_wb ts b s2 = some (.inr (v, s3)) → sr s3 s4 → tw s4 = tw s → k 0 s1 s4 = some x → rq ts f2 f1 ((a, pp_bv ts s2 b) :: T) (0, nI 0 - 1, fs2, wl, pl) w1 s2 → rG (d + 9) w1 G) : rG (d + 9) w G := by
  rcases pp_bE hx with ⟨p, hr, hp⟩ | ⟨t, s1, hr, hk⟩
  · refine rG_m (first s (.inl p) (sr_0 s) (by rw [hr]; rfl)) (fun w1 h1 => bad p w1 hp h1)
  · have hsh : pp_tk ts (sh m n s) = some (.inr (t, sh m n s1)) := by rw [pp_tk_sh, hr]; rfl
    have ez := (sh_at (ts := ts) (s := s1) (m := m) (n := n)).2.2
    have t1 := pp_tk_tw hr
    -- what the call says
    have hc : ∀ y0, C 55 2 0 (sh m n (pp_z s1)) = some y0 → rG (d + 9) w (rO f2 f1 y0 (fun v0 s3 w' => v0 = 0 ∧ ∃ b v s2 fs2, pp_wb ts b s2 = some (.inr (v, s3)) ∧ rq ts f2 f1 ((a, pp_bv ts s2 b) :: T) (0, nI 0 - 1, fs2, wl, pl) w' s2)) := by
      intro y0 hy0
      have h5 := h55 _ _ hy0
      have tz : tw (sh m n (pp_z s1)) = ((tw s).1 + m, (tw s).2 + n) := by
        rw [← t1]
        obtain ⟨pos, op, cc, tn, tl, wt, pn, scs, sd, sig, frm, rl, mn, dc, fc⟩ := s1
        rfl
      refine rr_55a (T := T) (fs := fs) H h5 (by rw [tz]; exact hT) (by rw [tz]; exact hX) (fun x' hb => ?_)
      exact first (sh m n s) x' (sr_sh m n s) (by rw [hsh]; show pp_base ts (pp_z (sh m n s1)) = some x'; rw [ez]; exact hb)
    generalize hz : pp_z s1 = sz at hk hc
    obtain ⟨pos, op, cc, tn, tl, wt, r⟩ := sz
    simp only [pp_c] at hk
    rw [pp_bb] at hk
    rcases pp_bE hk with ⟨p, hr2, hp⟩ | ⟨v0, s3, hr2, hk2⟩
    · exact rG_m (hc _ hr2) (fun w1 h1 => bad p w1 hp h1)
    · refine rG_t (hc _ hr2) (fun w1 h1 => ?_)
      obtain ⟨rfl, b, v, s2, fs2, hwb, hw2⟩ := h1
      obtain ⟨pos3, op3, cc3, tn3, tl3, wt3, r3⟩ := s3
      refine good b v t s1 s2 _ (pos3, op3, cc3, tn3, tl, wt, r3) fs2 w1 hr hwb ⟨rfl, rfl, rfl, rfl, rfl⟩ ?_ hk2 hw2
      rw [← t1]
      have : tw (pp_z s1) = tw s1 := by
        obtain ⟨pos, op, cc, tn, tl, wt, pn, scs, sd, sig, frm, rl, mn, dc, fc⟩ := s1
        rfl
      rw [← this, hz]
end
