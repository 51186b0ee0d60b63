section
variable {ts : List pp_T} {f2 : Int32} {f1 : Nat → Int32} {d : Nat} {T : rq_A} {X : rq_X} {I A : ja_I} {J : ja_J} {s s' s0 s1 s2 s3 s4 s5 : pp_S} {w : ja_w} {C C' : pp_C} {v : Nat} {sp : Int32} {G : ja_w → Prop}
/-- what a declaration does behind its base -/
def r32t (d : Nat) (c : Prop) (a0 z2 : Int32) (I A : ja_I) (J : ja_J) (y : ja_O × ja_w) : Prop := ∃ (z4 : Int32) (I4 A4 : ja_I) (J4 : ja_J), er_E (d + 7) 13 [.ref 0, .int 59] (I, A, J) (.inl (some (.int z4))) (I4, A4, J4) ∧ (((z4 = 0) → (c → ((a0 = 1) → (c → ∃ (I5 A5 : ja_I) (J5 : ja_J), er_E (d + 7) 33 [.ref 0, .int (((4 * z2) + 0) + 1)] (I4, A4, J4) (.inl (none)) (I5, A5, J5) ∧ (y = (.inl none, (I5, A5, J5)))) ∧ (¬ c → ∃ (I5 A5 : ja_I) (J5 : ja_J), er_E (d + 7) 33 [.ref 0, .int (((4 * z2) + 0) + 0)] (I4, A4, J4) (.inl (none)) (I5, A5, J5) ∧ (y = (.inl none, (I5, A5, J5))))) ∧ (¬ (a0 = 1) → ∃ (I5 A5 : ja_I) (J5 : ja_J), er_E (d + 7) 33 [.ref 0, .int (((4 * z2) + 0) + 0)] (I4, A4, J4) (.inl (none)) (I5, A5, J5) ∧ (y = (.inl none, (I5, A5, J5))))) ∧ (¬ c → ((a0 = 1) → (c → ∃ (I5 A5 : ja_I) (J5 : ja_J), er_E (d + 7) 33 [.ref 0, .int (((4 * z2) + 2) + 1)] (I4, A4, J4) (.inl (none)) (I5, A5, J5) ∧ (y = (.inl none, (I5, A5, J5)))) ∧ (¬ c → ∃ (I5 A5 : ja_I) (J5 : ja_J), er_E (d + 7) 33 [.ref 0, .int (((4 * z2) + 2) + 0)] (I4, A4, J4) (.inl (none)) (I5, A5, J5) ∧ (y = (.inl none, (I5, A5, J5))))) ∧ (¬ (a0 = 1) → ∃ (I5 A5 : ja_I) (J5 : ja_J), er_E (d + 7) 33 [.ref 0, .int (((4 * z2) + 2) + 0)] (I4, A4, J4) (.inl (none)) (I5, A5, J5) ∧ (y = (.inl none, (I5, A5, J5)))))) ∧ (¬ (z4 = 0) → y = (.inl none, ((ja_up I4 0 9 ((I4 0 9) + 1)), A4, J4))))
theorem r32_a (hts : pp_ok ts) {c : Prop} {a0 z2 : Int32} (hw : rq ts f2 f1 T X (I, A, J) s) (h59 : pp_at ts s = 59) (hx : pp_tk ts s = some (.inr (v, s1))) : ∃ y, r32t d c a0 z2 I A J y ∧ rP (fun w => rq ts f2 f1 T X w s1) y := by
  unfold r32t
  exact cg_I (rl_13t hts hw (by rw [h59]; rfl)) (cg_f (by decide) (cg_r ⟨rfl, rq_tk hw hx (by rw [h59]; rfl) (by rw [h59]; rfl)⟩))
theorem r32_b (hts : pp_ok ts) {c : Prop} {z ty o : Nat} {st nm fs pl : Int32} {wl : List Int32} (hc : c ↔ ty = 0) (hty : ty ≤ 1) (ho : o ≤ 1) (hw : rq ts f2 f1 T (st, nm, fs, wl, pl) (I, A, J) s) (hl : T.length < 1190) (h59 : ¬ pp_at ts s = 59) : ∃ y, r32t d c (nI o) (nI z) I A J y ∧ rP (fun w => rq ts f2 f1 ((6, 0) :: (3, nI (spn z ty o 0)) :: T) (0, -1, fs, wl, pl) w (pp_z0 s)) y := by
  obtain ⟨I1, A1, J1, hE1, hw1⟩ := rl_33 (d := d + 5) (sp := nI (spn z ty o 0)) hw hl
  unfold r32t
  refine cg_I (rl_13f hts hw (rk_n h59)) (cg_t rfl ?_)
  have o1 : o = 0 ∨ o = 1 := by omega
  have t1 : ty = 0 ∨ ty = 1 := by omega
  rcases t1 with rfl | rfl
  · refine cg_t (hc.mpr rfl) ?_
    rcases o1 with rfl | rfl
    · rw [show nI (spn z 0 0 0) = ((4 * nI z) + 0) + 0 by rw [sp_v0]; rfl] at hE1
      exact cg_f (by decide) (cg_V hE1 (cg_r ⟨rfl, hw1⟩))
    · rw [show nI (spn z 0 1 0) = ((4 * nI z) + 0) + 1 by rw [sp_v1]; rfl] at hE1
      exact cg_t (by decide) (cg_t (hc.mpr rfl) (cg_V hE1 (cg_r ⟨rfl, hw1⟩)))
  · have hn : ¬ c := fun h => absurd (hc.mp h) (by decide)
    refine cg_f hn ?_
    have e : nI (spn z 1 o 0) = ((4 * nI z) + 2) + 0 := by
      rw [sp_v2]
      unfold spn
      rw [if_neg (fun h => absurd h.2.1 (by decide))]
    rw [e] at hE1
    rcases o1 with rfl | rfl
    · exact cg_f (by decide) (cg_V hE1 (cg_r ⟨rfl, hw1⟩))
    · exact cg_t (by decide) (cg_f hn (cg_V hE1 (cg_r ⟨rfl, hw1⟩)))
/-- a declaration -/
theorem rr_78 (hts : pp_ok ts) (hC : rC C) (HD : rD ts f2 f1 (d + 9) C') (H : rM ts f2 f1 (d + 9) 22 0 any [] g63 (C 63 0 0)) (h54 : ∀ b ty s x, C 54 b ty s = some x → pp_54 ts C' b ty s = some x)
    (HB : ∀ (q : Nat) (s s0 : pp_S) (b : Int32) (T : rq_A) (X : rq_X) (w : ja_w), pp_at ts s = 123 → ((b = nI q ∧ sr s0 s) ∨ (b = -1 ∧ ∃ s1, pp_ns s0 = some (.inr (q, s1)) ∧ sr s1 s)) → rq ts f2 f1 ((15, b) :: T) X w s0 → T.length ≤ (tw s).1 → X.2.2.2.1.length ≤ (tw s).2 → ∀ x, C 81 q 0 s = some x → rG (d + 9) w (rO f2 f1 x (fun v s' w' => ∃ X', g63 v X X' ∧ rq ts f2 f1 T X' w' s')))
    {o : Nat} (ho : o ≤ 1) : rM ts f2 f1 (d + 9) 2 (nI o) (fun s => (tw s).1 + 20 ≤ 1200) [] g63 (pp_78 ts C o) := by
  intro s T X w hg hw hT hX x hx
  have hlT : T.length + 20 ≤ 1200 := Nat.le_trans (Nat.add_le_add_right hT 20) hg
  obtain ⟨st, nm, fs, wl, pl⟩ := X
  obtain ⟨I, A, J⟩ := w
  have hX' : wl.length ≤ (tw s).2 := hX
  have hg' : (tw s).1 + 20 ≤ 1200 := hg
  have h0 := rq_pop hw
  unfold pp_78 at hx
  -- behind the base
  have rest : ∀ (b : Nat) (s1 : pp_S) (I1 A1 : ja_I) (J1 : ja_J) (c : Prop), pp_79 ts s = some (.inr (b, s1)) → tw s1 = tw s → (c ↔ (if pq_pos s1 - pq_pos s = 2 then 1 else 0) = 0) → rq ts f2 f1 T (st, nm, fs, wl, pl) (I1, A1, J1) s1 →
      (∀ (G : ja_w → Prop), (∃ y, r32t d c (nI o) (pp_bv ts s1 b) I1 A1 J1 y ∧ rP G y) → rG (d + 9) (I, A, J) G) → rG (d + 9) (I, A, J) (rO f2 f1 x (fun v s' w' => ∃ X', g63 v (st, nm, fs, wl, pl) X' ∧ rq ts f2 f1 ([] ++ T) X' w' s')) := by
    intro b s1 I1 A1 J1 c h79 ht hc hw1 go
    rw [h79] at hx
    have hx1 : (if (pp_bv ts s1 b).toNatClampNeg < 2000 ∧ pp_bv ts s1 b = Int32.ofNat (pp_bv ts s1 b).toNatClampNeg then pp_b (pp_w (fun (a : Nat × Nat) _ => some (Nat.beq a.2 1)) (pp_78b ts C o b (if pq_pos s1 - pq_pos s = 2 then 1 else 0) (pp_bv ts s1 b)) 160 (0, if pp_at ts s1 = 59 then 0 else 1) s1) fun a s2 => if a.2 = 2 then pp_ret 0 s2 else pp_ex ts 59 s2 else none) = some x := hx
    split at hx1
    rotate_left
    · cases hx1
    rename_i hbv
    generalize hz : (pp_bv ts s1 b).toNatClampNeg = z at hbv
    have hbv2 : pp_bv ts s1 b = nI z := hbv.2
    rw [hbv2] at hx1 go
    by_cases h59 : pp_at ts s1 = 59
    · rw [if_pos h59] at hx1
      have hx2 : pp_ex ts 59 s1 = some x := hx1
      unfold pp_ex at hx2
      rw [if_pos (show pp_k ts (pq_pos s1) = 59 from h59)] at hx2
      cases x with
      | inl p => exact absurd hx2 (pp_tk_n (by rw [h59]; rfl))
      | inr zz =>
        obtain ⟨v2, s2⟩ := zz
        exact rG_m (go _ (r32_a (d := d) hts hw1 h59 hx2)) (fun w' h => ⟨_, rfl, h⟩)
    · rw [if_neg h59] at hx1
      generalize hty : (if pq_pos s1 - pq_pos s = 2 then 1 else 0) = ty at hx1 hc
      have hty1 : ty ≤ 1 := by rw [← hty]; split <;> omega
      refine rG_t (go _ (r32_b (d := d) hts hc hty1 ho hw1 (by omega) h59)) (fun w2 h2 => ?_)
      exact rr_78l (m := 160) (i := 0) hts hC HD H h54 HB (z := z) (ty := ty) (o := o) (b := b) hbv.1 hty1 s1 fs pl w2 h2 hlT (by rw [ht]; exact hT) (by rw [ht]; exact hX') hx1
  have e16 : ∀ {T : rq_A} {X : rq_X} {I A : ja_I} {J : ja_J} {s : pp_S}, rq ts f2 f1 T X (I, A, J) s → I 0 16 = 0 := fun h => h.2.2.1.2.2.2.2
  by_cases h4 : pp_at ts s = 4
  · -- typedef first
    have e79 : pp_79 ts s = pp_b (pp_tk ts s) fun _ s => pp_base ts s := by unfold pp_79; rw [if_pos h4]
    cases h79 : pp_79 ts s with
    | none => rw [h79] at hx; cases hx
    | some y =>
      rw [e79] at h79
      rcases pp_bE h79 with ⟨p, hr, hp⟩ | ⟨t, s1, hr, hk⟩
      · exact absurd hr (pp_tk_n (by rw [h4]; rfl))
      · have hw1 := rq_tk h0 hr (by rw [h4]; rfl) (by rw [h4]; rfl)
        obtain ⟨z, I2, A2, J2, hE2, hw2⟩ := rl_21 (d := d + 2) hts hw1 hk
        cases y with
        | inl p =>
          rw [← e79] at h79
          rw [h79] at hx
          cases hx
          obtain ⟨rfl, hw3⟩ := hw2
          cases hw3
          refine rt_2 (d := d + 8) hw (rP_of (G := rO f2 f1 (.inl (pq_pos s1)) _) (cg_j (cg_I (rl_13t hts h0 (by rw [h4]; rfl)) (cg_f (by decide) (cg_I hE2 (cg_f (by show ¬ (1 : Int32) = 0; decide) (cg_r ⟨rfl, (rb_of hw1).1⟩))))) (fun y h => er_32 (r := y) h)))
        | inr bs =>
          obtain ⟨b, s2⟩ := bs
          obtain ⟨rfl, hw3⟩ := hw2
          rw [← e79] at h79
          refine rest b s2 I2 A2 J2 ((1 : Int32) = 0) h79 (by rw [pp_base_tw hk, pp_tk_tw hr]) ?_ hw3 (fun G hG => ?_)
          · rw [pp_base_p hk, pp_tk_p hr, if_pos (by omega)]
            exact ⟨fun e => absurd e (by decide), fun e => absurd e (by decide)⟩
          · refine rt_2 (d := d + 8) hw (rP_of (G := G) (cg_j (cg_I (rl_13t hts h0 (by rw [h4]; rfl)) (cg_f (by decide) (cg_I hE2 (cg_t (e16 hw3) (cg_f (by decide) hG))))) (fun y h => er_32 (r := y) h)))
  · have e79 : pp_79 ts s = pp_b (pp_base ts s) fun b s => if pp_at ts s = 4 then pp_b (pp_tk ts s) fun _ s => pp_ret b s else pp_ret b s := by unfold pp_79; rw [if_neg h4]
    cases h79 : pp_79 ts s with
    | none => rw [h79] at hx; cases hx
    | some y =>
      rw [e79] at h79
      rcases pp_bE h79 with ⟨p, hr, hp⟩ | ⟨b, s1, hr, hk⟩
      · obtain ⟨z, I2, A2, J2, hE2, hw2⟩ := rl_21 (d := d + 2) hts h0 hr
        subst hp
        rw [← e79] at h79
        rw [h79] at hx
        cases hx
        obtain ⟨rfl, hw3⟩ := hw2
        cases hw3
        refine rt_2 (d := d + 8) hw (rP_of (G := rO f2 f1 (.inl (pq_pos s)) _) (cg_j (cg_I (rl_13f hts h0 (rk_n h4)) (cg_t rfl (cg_I hE2 (cg_f (by show ¬ (1 : Int32) = 0; decide) (cg_r ⟨rfl, (rb_of h0).1⟩))))) (fun y h => er_32 (r := y) h)))
      · obtain ⟨z, I2, A2, J2, hE2, hw2⟩ := rl_21 (d := d + 2) hts h0 hr
        obtain ⟨rfl, hw3⟩ := hw2
        by_cases h41 : pp_at ts s1 = 4
        · rw [if_pos h41] at hk
          rcases pp_bE hk with ⟨p, hr2, hp⟩ | ⟨t, s2, hr2, hk2⟩
          · exact absurd hr2 (pp_tk_n (by rw [h41]; rfl))
          · cases hk2
            rw [← e79] at h79
            have hw4 := rq_tk hw3 hr2 (by rw [h41]; rfl) (by rw [h41]; rfl)
            refine rest b s2 _ A2 J2 ((1 : Int32) = 0) h79 (by rw [pp_tk_tw hr2, pp_base_tw hr]) ?_ hw4 (fun G hG => ?_)
            · rw [pp_tk_p hr2, pp_base_p hr, if_pos (by omega)]
              exact ⟨fun e => absurd e (by decide), fun e => absurd e (by decide)⟩
            · have ebv : pp_bv ts s2 b = pp_bv ts s1 b := by unfold pp_bv; rw [(pp_tk_s hr2).2.2.2.2.2.1]
              rw [ebv] at hG
              refine rt_2 (d := d + 8) hw (rP_of (G := G) (cg_j (cg_I (rl_13f hts h0 (rk_n h4)) (cg_t rfl (cg_I hE2 (cg_t (e16 hw3) (cg_t rfl (cg_I (rl_13t hts hw3 (by rw [h41]; rfl)) (cg_f (by decide) hG))))))) (fun y h => er_32 (r := y) h)))
        · rw [if_neg h41] at hk
          cases hk
          rw [← e79] at h79
          refine rest b s1 I2 A2 J2 ((0 : Int32) = 0) h79 (by rw [pp_base_tw hr]) ?_ hw3 (fun G hG => ?_)
          · rw [pp_base_p hr, if_neg (by omega)]
            exact ⟨fun _ => rfl, fun _ => rfl⟩
          · refine rt_2 (d := d + 8) hw (rP_of (G := G) (cg_j (cg_I (rl_13f hts h0 (rk_n h4)) (cg_t rfl (cg_I hE2 (cg_t (e16 hw3) (cg_t rfl (cg_I (rl_13f hts hw3 (rk_n h41)) (cg_t rfl hG))))))) (fun y h => er_32 (r := y) h)))
end
