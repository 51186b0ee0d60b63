section
variable {ts : List pp_T} {f2 : Int32} {f1 : Nat → Int32} {d : Nat} {T : rq_A} {X : rq_X} {I A : ja_I} {J : ja_J} {s s' s0 s1 s2 s3 s4 s5 : pp_S} {w : ja_w} {C C' : pp_C} {v : Nat} {sp : Int32} {G : ja_w → Prop}
/-- a declaration's number -/
def spn (z ty o i : Nat) : Nat := 4 * z + 2 * ty + (if o = 1 ∧ ty = 0 ∧ i = 0 then 1 else 0)
theorem spn_f {z ty o i : Nat} (hz : z < 2000) (hty : ty ≤ 1) : nI (spn z ty o i) >>> (2 &&& 31) = nI z ∧ ((nI (spn z ty o i) &&& 2) = 0 ↔ ty = 0) ∧ ((nI (spn z ty o i) &&& 1) = 1 ↔ (o = 1 ∧ ty = 0 ∧ i = 0)) ∧ nI (spn z ty o i) &&& (-2) = nI (spn z ty o 1) := by
  have e1 : spn z ty o 1 = 4 * z + 2 * ty := by
    unfold spn
    rw [if_neg (fun c => absurd c.2.2 (by decide))]
    rfl
  rw [e1]
  by_cases h : o = 1 ∧ ty = 0 ∧ i = 0
  · have e : spn z ty o i = 4 * z + 1 := by unfold spn; rw [if_pos h, h.2.1]
    obtain ⟨a, b, c, d⟩ := sp_1 z hz
    rw [e, h.2.1]
    exact ⟨b, ⟨fun _ => rfl, fun _ => a⟩, ⟨fun _ => ⟨h.1, rfl, h.2.2⟩, fun _ => c⟩, d⟩
  · rcases ty with _ | ty
    · have e : spn z 0 o i = 4 * z := by unfold spn; rw [if_neg h]; rfl
      obtain ⟨a, b, c, d⟩ := sp_0 z hz
      rw [e]
      exact ⟨b, ⟨fun _ => rfl, fun _ => a⟩, ⟨fun e => absurd (c.symm.trans e) (by decide), fun e => absurd e h⟩, d⟩
    · obtain rfl : ty = 0 := by omega
      have e : spn z 1 o i = 4 * z + 2 := by unfold spn; rw [if_neg h]
      obtain ⟨a, b, c, d⟩ := sp_2 z hz
      rw [e]
      exact ⟨b, ⟨fun e => absurd (a.symm.trans e) (by decide), fun e => absurd e (by decide)⟩, ⟨fun e => absurd (c.symm.trans e) (by decide), fun e => absurd e h⟩, d⟩
theorem sp_v0 (z : Nat) : ((4 * nI z) + 0) + 0 = nI (4 * z) := by
  rw [show (4 : Int32) * nI z = nI (4 * z) from pk_mul 4 z, Int32.add_zero, Int32.add_zero]
theorem sp_v1 (z : Nat) : ((4 * nI z) + 0) + 1 = nI (4 * z + 1) := by
  rw [show (4 : Int32) * nI z = nI (4 * z) from pk_mul 4 z, Int32.add_zero]; exact nI_1 _
theorem sp_v2 (z : Nat) : ((4 * nI z) + 2) + 0 = nI (4 * z + 2) := by
  rw [show (4 : Int32) * nI z = nI (4 * z) from pk_mul 4 z, Int32.add_zero]; exact nI_add _ 2
theorem z0_sr (h : sr s s') : sr (pp_z0 s) (pp_z0 s') := by
  obtain ⟨pos, op, cc, tn, tl, wt, pn, scs, sd, sig, frm, rl, mn, dc, fc⟩ := s
  obtain ⟨pos', op', cc', tn', tl', wt', pn', r'⟩ := s'
  obtain ⟨h1, h2, h3, h4, h5⟩ := h
  cases h1; cases h2; cases h3; cases h4; cases h5
  exact ⟨rfl, rfl, rfl, rfl, rfl⟩
theorem dc_sr (h : sr s s') : pq_dc s' = pq_dc s ∧ pq_fc s' = pq_fc s ∧ pq_sd s' = pq_sd s := by
  have h5 := h.2.2.2.2
  exact ⟨congrArg (fun r => r.2.2.2.2.2.2.1) h5, congrArg (fun r => r.2.2.2.2.2.2.2) h5, congrArg (fun r => r.2.1) h5⟩
theorem e80_sr {k : Nat} (h : sr s s') {x : Nat ⊕ (Nat × pp_S)} (hx : pp_80 ts k s = some x) : ∃ x', pp_80 ts k s' = some x' ∧ xr x x' := by
  unfold pp_80 at hx ⊢
  rw [(dc_sr h).1]
  split at hx
  · exact pf_sr h hx
  · cases hx
/-- NEXT -/
theorem rr_5 (hts : pp_ok ts) {o b ty z m i : Nat} {st nm fs pl : Int32} {wl : List Int32} (hw : rq ts f2 f1 ((5, nI (spn z ty o 1)) :: T) (st, nm, fs, wl, pl) w s) (hl : T.length < 1190) {x : Nat ⊕ (Nat × pp_S)}
    (ih : ∀ (s : pp_S) (fs pl : Int32) (w : ja_w), rq ts f2 f1 ((6, 0) :: (3, nI (spn z ty o (i + 1))) :: T) (0, -1, fs, wl, pl) w (pp_z0 s) → tw s = tw s0 → pp_78l ts C o b ty (nI z) m (i + 1, 1) s = some x → rG (d + 9) w (rO f2 f1 x (fun _ s' w' => ∃ X' : rq_X, X'.2.2.2.1 = wl ∧ rq ts f2 f1 T X' w' s'))) (ht : tw s = tw s0)
    (hx : (pp_b (pp_pf [59] s) fun _ s1 => pp_b (if pp_at ts s1 = 44 then pp_b (pp_tk ts s1) fun _ s1 => pp_ret (i + 1, 1) s1 else pp_ret (i + 1, 0) s1) fun a s2 => pp_78l ts C o b ty (nI z) m a s2) = some x) : rG (d + 9) w (rO f2 f1 x (fun _ s' w' => ∃ X' : rq_X, X'.2.2.2.1 = wl ∧ rq ts f2 f1 T X' w' s')) := by
  obtain ⟨I, A, J⟩ := w
  have h0 := rq_pop hw
  rcases pp_bE hx with ⟨p, hr, hp⟩ | ⟨v1, s1, hr, hk⟩
  · exact absurd hr (pp_pf_n _ _ _)
  · obtain ⟨I1, A1, J1, ⟨hE1, _⟩, hw1⟩ := rl_26 (d := d + 6) h0 hr
    have e0 : spn z ty o (i + 1) = spn z ty o 1 := by
      unfold spn
      rw [if_neg (fun c => absurd c.2.2 (by omega)), if_neg (fun c => absurd c.2.2 (by omega))]
    by_cases h44 : pp_at ts s1 = 44
    · rw [if_pos h44, pp_bb] at hk
      rcases pp_bE hk with ⟨p, hr2, hp⟩ | ⟨t, s2, hr2, hk2⟩
      · exact absurd hr2 (pp_tk_n (by rw [h44]; rfl))
      · have h2 := rq_tk hw1 hr2 (by rw [h44]; rfl) (by rw [h44]; rfl)
        obtain ⟨I3, A3, J3, hE3, hw3⟩ := rl_33 (d := d + 5) (sp := nI (spn z ty o 1)) h2 hl
        refine rG_t (rt_5 (d := d + 8) (G := fun w => rq ts f2 f1 ((6, 0) :: (3, nI (spn z ty o (i + 1))) :: T) (0, -1, fs, wl, pl) w (pp_z0 s2)) hw ⟨_, _, _, er_35 (r := (_, _)) ⟨_, _, _, hE1, 1, _, _, _, rl_13t hts hw1 (by rw [h44]; rfl), fun e => absurd e (by decide), fun _ => ⟨_, _, _, hE3, rfl⟩⟩, by rw [e0]; exact hw3⟩) (fun w1 h1 => ?_)
        exact ih s2 fs pl w1 h1 (by rw [pp_tk_tw hr2, pp_pf_tw hr, ht]) hk2
    · rw [if_neg h44] at hk
      have hk' : pp_ex ts 59 s1 = some x := by
        have : pp_78l ts C o b ty (nI z) m (i + 1, 0) s1 = some x := hk
        unfold pp_78l at this
        rw [show pp_w (fun (a : Nat × Nat) _ => some (Nat.beq a.2 1)) (pp_78b ts C o b ty (nI z)) m (i + 1, 0) s1 = pp_ret (i + 1, 0) s1 by cases m <;> rfl] at this
        exact this
      obtain ⟨I2, A2, J2, hE2, hw2⟩ := rl_16 (d := d + 5) hts hw1 (k := 59) (f := 0) (Or.inr ⟨rfl, rfl, rfl⟩) rfl hk'
      refine rt_5 (d := d + 8) hw ⟨_, _, _, er_35 (r := (_, _)) ⟨_, _, _, hE1, 0, _, _, _, rl_13f hts hw1 (rk_n h44), fun _ => ⟨_, _, _, hE2, rfl⟩, fun e => absurd rfl e⟩, ?_⟩
      cases x with
      | inl p =>
        obtain ⟨rfl, e⟩ := hw2
        rw [e]
        exact (rb_of hw1).1
      | inr z => exact ⟨_, rfl, hw2⟩
end
