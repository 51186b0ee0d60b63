section
variable {ts : List pp_T} {f2 : Int32} {f1 : Nat → Int32} {d : Nat} {T : rq_A} {X : rq_X} {I A : ja_I} {J : ja_J} {s s' s0 s1 s2 s3 : pp_S} {w : ja_w} {C C' : pp_C} {v : Nat}
theorem ns_tk {q : Nat} {x : Nat ⊕ (Nat × pp_S)} (hn : pp_ns s0 = some (.inr (q, s1))) (h : sr s1 s) (hx : pp_tk ts s = some x) : (∃ p, x = .inl p ∧ pp_tk ts s0 = some (.inl p)) ∨ ∃ t s2 s0' s2', x = .inr (t, s2) ∧ pp_tk ts s0 = some (.inr (t, s0')) ∧ pp_ns s0' = some (.inr (q, s2')) ∧ sr s2' s2 := by
  obtain ⟨pos, op, cc, tn, tl, wt, pn, scs, sd, sig, frm, rl, mn, dc, fc⟩ := s0
  simp only [pp_ns] at hn
  split at hn
  · rename_i hb
    cases hn
    obtain ⟨pos', op', cc', tn', tl', wt', pn', r'⟩ := s
    obtain ⟨h1, h2, h3, h4, h5⟩ := h
    cases h1; cases h2; cases h3; cases h4; cases h5
    rw [pp_tk_t3] at hx ⊢
    cases ht : t3 ts pos op cc with
    | none => rw [ht] at hx; cases hx
    | some y =>
      rw [ht] at hx
      cases y with
      | inl p =>
        cases hx
        exact Or.inl ⟨p, rfl, rfl⟩
      | inr z =>
        cases hx
        refine Or.inr ⟨_, _, _, (z.1, z.2.1, z.2.2, tn, tl, wt, pn, scs, sd ++ [scs.length + 1], sig, frm, rl, mn, dc, fc), rfl, rfl, ?_, ⟨rfl, rfl, rfl, rfl, rfl⟩⟩
        simp only [pp_ns]
        rw [if_pos hb]
  · cases hn
theorem os_sr {q : Nat} (h : sr s s') {x : Nat ⊕ (Nat × pp_S)} (hx : pp_os q s = some x) : ∃ x', pp_os q s' = some x' ∧ xr x x' := by
  obtain ⟨pos, op, cc, tn, tl, wt, pn, scs, sd, sig, frm, rl, mn, dc, fc⟩ := s
  obtain ⟨pos', op', cc', tn', tl', wt', pn', r'⟩ := s'
  obtain ⟨h1, h2, h3, h4, h5⟩ := h
  cases h1; cases h2; cases h3; cases h4; cases h5
  simp only [pp_os] at hx
  split at hx
  · rename_i hb
    cases hx
    refine ⟨.inr (0, pos, op, cc, tn, tl', wt', pn', scs ++ [q], sd, sig, frm, rl, mn, dc, fc), ?_, Or.inr ⟨0, _, _, rfl, rfl, rfl, rfl, rfl, rfl, rfl⟩⟩
    simp only [pp_os]
    rw [if_pos hb]
  · cases hx
/-- a scope shuts -/
theorem rq_xs (hw : rq ts f2 f1 T X (I, A, J) s) (hx : pp_xs s = some (.inr (v, s1))) : rq ts f2 f1 T X (ja_up I 0 18 (I 0 18 - 1), A, J) s1 := by
  obtain ⟨pos, op, cc, tn, tl, wt, pn, scs, sd, sig, frm, rl, mn, dc, fc⟩ := s
  simp only [pp_xs] at hx
  split at hx
  · cases hx
  · rename_i hb
    cases hx
    obtain ⟨hK, h0, hP, hT, hS, hR⟩ := hw
    have e : I 0 18 = nI scs.length := hS.1
    have hl : 0 < scs.length := List.length_pos_iff.mpr hb
    have h9 : scs.length ≤ 9 := hS.2.2.1
    refine ⟨hK, h0, hP, hT, ⟨?_, hS.2.1, ?_, hS.2.2.2.1, ?_⟩, hR⟩
    · show I 0 18 - 1 = nI scs.dropLast.length
      rw [e, List.length_dropLast]
      obtain ⟨o, ho⟩ : ∃ o, scs.length = o + 1 := ⟨scs.length - 1, by omega⟩
      rw [ho]; exact nI_pred o
    · show scs.dropLast.length ≤ 9
      rw [List.length_dropLast]; omega
    · intro i q' hi
      have hi' : scs.dropLast[i]? = some q' := hi
      rw [List.getElem?_dropLast] at hi'
      split at hi'
      · exact hS.2.2.2.2 i q' hi'
      · cases hi'
theorem pp_xs_n {p : Nat} : pp_xs s ≠ some (.inl p) := by
  obtain ⟨pos, op, cc, tn, tl, wt, pn, scs, sd, sig, frm, rl, mn, dc, fc⟩ := s
  intro h; simp only [pp_xs] at h; split at h <;> cases h
/-- the items of a block -/
theorem rr_81l (hts : pp_ok ts) (hC : rC C) (HD : rM ts f2 f1 (d + 9) 2 0 any [] g63 (C 78 0 0)) (HS : rM ts f2 f1 (d + 9) 17 0 any [] g63 (C 82 0 0)) : ∀ (m a : Nat) (s : pp_S) (X : rq_X) (w : ja_w), rq ts f2 f1 ((16, 0) :: T) X w s → T.length + 20 ≤ 1200 → T.length ≤ (tw s).1 → X.2.2.2.1.length ≤ (tw s).2 → ∀ x, pp_b (pp_w (fun _ s => some (!(pp_at ts s == 125))) (fun _ s => pp_if (if pp_at ts s = 4 then some true else pp_ib ts s (pq_pos s)) (pp_c C 78 0 0 1 0 s) (pp_c C 82 0 0 1 0 s)) m a s) (fun _ s => pp_b (pp_ex ts 125 s) fun _ s => pp_b (pp_pf [125] s) fun _ s => pp_xs s) = some x → rG (d + 9) w (rO f2 f1 x (fun v s' w' => ∃ X', g63 v X X' ∧ rq ts f2 f1 T X' w' s')) := by
  have h160 := hts.1
  have fin : ∀ (s : pp_S) (X : rq_X) (w : ja_w), rq ts f2 f1 ((16, 0) :: T) X w s → (!(pp_at ts s == 125)) = false → ∀ x, (pp_b (pp_ex ts 125 s) fun _ s => pp_b (pp_pf [125] s) fun _ s => pp_xs s) = some x → rG (d + 9) w (rO f2 f1 x (fun v s' w' => ∃ X', g63 v X X' ∧ rq ts f2 f1 T X' w' s')) := by
    intro s X w hw hb x hx
    obtain ⟨I, A, J⟩ := w
    have h125 : pp_at ts s = 125 := by simpa using hb
    have h0 := rq_pop hw
    rcases pp_bE hx with ⟨p, hr, hp⟩ | ⟨v1, s1, hr, hk⟩
    · unfold pp_ex at hr
      rw [if_pos (show pp_k ts (pq_pos s) = 125 from h125)] at hr
      exact absurd hr (pp_tk_n (by rw [h125]; rfl))
    · obtain ⟨I1, A1, J1, hE1, hw1⟩ := rl_16 (d := d + 5) hts h0 (k := 125) (f := 1) (Or.inl ⟨rfl, rfl, rfl⟩) rfl hr
      have hw1' : rq ts f2 f1 T X (I1, A1, J1) s1 := hw1
      rcases pp_bE hk with ⟨p, hr2, hp⟩ | ⟨v2, s2, hr2, hk2⟩
      · exact absurd hr2 (pp_pf_n _ _ _)
      · obtain ⟨I2, A2, J2, ⟨hE2, _⟩, hw2⟩ := rl_26 (d := d + 6) hw1' hr2
        cases x with
        | inl p => exact absurd hk2 pp_xs_n
        | inr z => exact rt_16 (d := d + 8) hw ⟨_, _, _, er_45 (r := (_, _)) ⟨1, _, _, _, rl_13t hts h0 (by rw [h125]; rfl), fun e => absurd e (by decide), fun _ => ⟨_, _, _, hE1, _, _, _, hE2, rfl⟩⟩, X, rfl, rq_xs hw2 hk2⟩
  intro m
  induction m with
  | zero =>
    intro a s X w hw hl hT hX x hx
    simp only [pp_w] at hx
    cases hb : (!(pp_at ts s == 125)) with
    | true => rw [hb] at hx; cases hx
    | false => rw [hb] at hx; exact fin s X w hw hb x hx
  | succ m ih =>
    intro a s X w hw hl hT hX x hx
    simp only [pp_w] at hx
    cases hb : (!(pp_at ts s == 125)) with
    | false => rw [hb] at hx; exact fin s X w hw hb x hx
    | true =>
      rw [hb] at hx
      simp only at hx
      rw [pp_bb] at hx
      have h125 : ¬ pp_at ts s = 125 := by simpa using hb
      obtain ⟨I, A, J⟩ := w
      have h0 := rq_pop hw
      have e9 : (rpo I) 0 9 = nI (pq_pos s) := h0.2.2.1.1
      have lp : pq_pos s ≤ ts.length := h0.2.2.1.2.1
      obtain ⟨I1, A1, J1, hE1, hw1⟩ := rl_11 (d := d + 6) h0 (by omega) 16 0
      have e9' : I1 0 9 = nI (pq_pos s) := hw1.2.2.1.1
      obtain ⟨I2, A2, J2, hE2, hw2⟩ := rl_11 (d := d + 6) hw1 (by rw [List.length_cons]; omega) 2 0
      obtain ⟨I3, A3, J3, hE3, hw3⟩ := rl_11 (d := d + 6) hw1 (by rw [List.length_cons]; omega) 17 0
      have goon : ∀ (v2 : Nat) (s2 : pp_S) (w2 : ja_w), tw s2 = tw s → (∃ X', g63 v2 X X' ∧ rq ts f2 f1 ([] ++ (16, 0) :: T) X' w2 s2) → pp_b (pp_w (fun _ s => some (!(pp_at ts s == 125))) (fun _ s => pp_if (if pp_at ts s = 4 then some true else pp_ib ts s (pq_pos s)) (pp_c C 78 0 0 1 0 s) (pp_c C 82 0 0 1 0 s)) m v2 s2) (fun _ s => pp_b (pp_ex ts 125 s) fun _ s => pp_b (pp_pf [125] s) fun _ s => pp_xs s) = some x → rG (d + 9) w2 (rO f2 f1 x (fun v s' w' => ∃ X', g63 v X X' ∧ rq ts f2 f1 T X' w' s')) := by
        rintro v2 s2 w2 t2 ⟨X', hg, h2⟩ hk
        refine rG_m (ih v2 s2 X' w2 h2 hl (by rw [t2]; exact hT) (by rw [t2, hg]; exact hX) x hk) (fun w' h => ?_)
        cases x with
        | inl p => exact h
        | inr z =>
          obtain ⟨X'', g, h⟩ := h
          exact ⟨X'', g.trans hg, h⟩
      have toD : ∀ w1, rq ts f2 f1 ((2, 0) :: (16, 0) :: T) X w1 s → (pp_b (pp_c C 78 0 0 1 0 s) fun a s => pp_b (pp_w (fun _ s => some (!(pp_at ts s == 125))) (fun _ s => pp_if (if pp_at ts s = 4 then some true else pp_ib ts s (pq_pos s)) (pp_c C 78 0 0 1 0 s) (pp_c C 82 0 0 1 0 s)) m a s) (fun _ s => pp_b (pp_ex ts 125 s) fun _ s => pp_b (pp_pf [125] s) fun _ s => pp_xs s)) = some x → rG (d + 9) w1 (rO f2 f1 x (fun v s' w' => ∃ X', g63 v X X' ∧ rq ts f2 f1 T X' w' s')) := fun w1 h1 hk => rG_b hk (fun y hy => rM_c HD (fun _ _ => trivial) h1 (by rw [List.length_cons]; omega) (by omega) hy) (fun v2 s2 w2 hr2 h2 hk2 => goon v2 s2 w2 (pp_c_tw hr2) h2 hk2)
      by_cases h4 : pp_at ts s = 4
      · rw [if_pos h4] at hx
        refine rG_t (rt_16 (d := d + 8) (G := fun w => rq ts f2 f1 ((2, 0) :: (16, 0) :: T) X w s) hw ⟨_, _, _, er_45 (r := (_, _)) ⟨0, _, _, _, rl_13f hts h0 (rk_n h125), fun _ => ⟨_, _, _, hE1, 1, _, _, _, rl_13t hts hw1 (by rw [h4]; rfl), fun e => absurd e (by decide), fun _ => ⟨_, _, _, hE2, rfl⟩⟩, fun e => absurd rfl e⟩, hw2⟩) (fun w1 h1 => toD w1 h1 hx)
      · rw [if_neg h4] at hx
        cases hib : pp_ib ts s (pq_pos s) with
        | none => rw [hib] at hx; cases hx
        | some b =>
          rw [hib] at hx
          have h19 := rl_19 (d := d + 3) hts hw1 lp hib
          rw [← e9'] at h19
          cases b with
          | true =>
            refine rG_t (rt_16 (d := d + 8) (G := fun w => rq ts f2 f1 ((2, 0) :: (16, 0) :: T) X w s) hw ⟨_, _, _, er_45 (r := (_, _)) ⟨0, _, _, _, rl_13f hts h0 (rk_n h125), fun _ => ⟨_, _, _, hE1, 0, _, _, _, rl_13f hts hw1 (rk_n h4), fun _ => ⟨_, _, _, _, h19, fun e => absurd e (by decide), fun _ => ⟨_, _, _, hE2, rfl⟩⟩, fun e => absurd rfl e⟩, fun e => absurd rfl e⟩, hw2⟩) (fun w1 h1 => toD w1 h1 hx)
          | false =>
            refine rG_t (rt_16 (d := d + 8) (G := fun w => rq ts f2 f1 ((17, 0) :: (16, 0) :: T) X w s) hw ⟨_, _, _, er_45 (r := (_, _)) ⟨0, _, _, _, rl_13f hts h0 (rk_n h125), fun _ => ⟨_, _, _, hE1, 0, _, _, _, rl_13f hts hw1 (rk_n h4), fun _ => ⟨_, _, _, _, h19, fun _ => ⟨_, _, _, hE3, rfl⟩, fun e => absurd rfl e⟩, fun e => absurd rfl e⟩, fun e => absurd rfl e⟩, hw3⟩) (fun w1 h1 => ?_)
            have hx' : (pp_b (pp_c C 82 0 0 1 0 s) fun a s => pp_b (pp_w (fun _ s => some (!(pp_at ts s == 125))) (fun _ s => pp_if (if pp_at ts s = 4 then some true else pp_ib ts s (pq_pos s)) (pp_c C 78 0 0 1 0 s) (pp_c C 82 0 0 1 0 s)) m a s) (fun _ s => pp_b (pp_ex ts 125 s) fun _ s => pp_b (pp_pf [125] s) fun _ s => pp_xs s)) = some x := hx
            exact rG_b hx' (fun y hy => rM_c HS (fun _ _ => trivial) h1 (by rw [List.length_cons]; omega) (by omega) hy) (fun v2 s2 w2 hr2 h2 hk2 => goon v2 s2 w2 (pp_c_tw hr2) h2 hk2)
end
