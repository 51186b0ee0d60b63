section
variable {ts : List pp_T} {f2 : Int32} {f1 : Nat → Int32} {d : Nat} {T : rq_A} {X : rq_X} {I A : ja_I} {J : ja_J} {s s' s0 s1 s2 s3 s4 s5 : pp_S} {w : ja_w} {C C' : pp_C} {v : Nat} {sp : Int32} {G : ja_w → Prop}
theorem pp_de_n {t st tn0 ty p : Nat} : pp_de ts t st tn0 ty s ≠ some (.inl p) := by
  obtain ⟨pos, op, cc, tn, tl, wt, pn, scs, sd, sig, frm, rl, mn, dc, fc⟩ := s
  intro h; simp only [pp_de] at h; split at h <;> cases h
theorem pp_wb_n {t p : Nat} : pp_wb ts t s ≠ some (.inl p) := by
  intro h
  unfold pp_wb at h
  repeat' split at h
  all_goals first
    | exact absurd h (pp_pt_n _ _ _)
    | (cases h; done)
theorem pp_80_n {k p : Nat} : pp_80 ts k s ≠ some (.inl p) := by
  intro h
  unfold pp_80 at h
  split at h
  · exact absurd h (pp_pf_n _ _ _)
  · cases h
theorem pp_80_tw {k : Nat} (h : pp_80 ts k s = some (.inr (v, s1))) : tw s1 = tw s := by
  unfold pp_80 at h
  split at h
  · exact pp_pf_tw h
  · cases h
theorem pp_80_dc {k : Nat} (h : pp_80 ts k s = some (.inr (v, s1))) : pq_dc s1 = pq_dc s := by
  unfold pp_80 at h
  split at h
  · exact pp_pf_dc h
  · cases h
/-- a declaration's turns -/
theorem rr_78l (hts : pp_ok ts) (hC : rC C) (HD : rD ts f2 f1 (d + 9) C') (H : rM ts f2 f1 (d + 9) 22 0 any [] g63 (C 63 0 0)) (h54 : ∀ b ty s x, C 54 b ty s = some x → pp_54 ts C' b ty s = some x)
    (HB : ∀ (q : Nat) (s s0 : pp_S) (b : Int32) (T : rq_A) (X : rq_X) (w : ja_w), pp_at ts s = 123 → ((b = nI q ∧ sr s0 s) ∨ (b = -1 ∧ ∃ s1, pp_ns s0 = some (.inr (q, s1)) ∧ sr s1 s)) → rq ts f2 f1 ((15, b) :: T) X w s0 → T.length ≤ (tw s).1 → X.2.2.2.1.length ≤ (tw s).2 → ∀ x, C 81 q 0 s = some x → rG (d + 9) w (rO f2 f1 x (fun v s' w' => ∃ X', g63 v X X' ∧ rq ts f2 f1 T X' w' s')))
    {o b ty z : Nat} (hz : z < 2000) (hty : ty ≤ 1) {wl : List Int32} {x : Nat ⊕ (Nat × pp_S)} : ∀ (m i : Nat) (s : pp_S) (fs pl : Int32) (w : ja_w), rq ts f2 f1 ((6, 0) :: (3, nI (spn z ty o i)) :: T) (0, -1, fs, wl, pl) w (pp_z0 s) → T.length + 20 ≤ 1200 → T.length ≤ (tw s).1 → wl.length ≤ (tw s).2 → pp_78l ts C o b ty (nI z) m (i, 1) s = some x → rG (d + 9) w (rO f2 f1 x (fun _ s' w' => ∃ X' : rq_X, X'.2.2.2.1 = wl ∧ rq ts f2 f1 T X' w' s')) := by
  intro m
  induction m with
  | zero =>
    intro i s fs pl w hw hl hT hX hx
    unfold pp_78l at hx
    simp only [pp_w] at hx
    cases hx
  | succ m ih =>
    intro i s fs pl w hw hl hT hX hx
    unfold pp_78l at hx
    simp only [pp_w] at hx
    have hx' : pp_b (pp_b (pp_78b ts C o b ty (nI z) (i, 1) s) (pp_w (fun (a : Nat × Nat) _ => some (Nat.beq a.2 1)) (pp_78b ts C o b ty (nI z)) m)) (fun a s2 => if a.2 = 2 then pp_ret 0 s2 else pp_ex ts 59 s2) = some x := hx
    rw [pp_bb] at hx'
    unfold pp_78b at hx'
    split at hx'
    rotate_left
    · cases hx'
    rename_i hbv
    rw [pp_bb] at hx'
    obtain ⟨f1', f2', f3', f4'⟩ := spn_f (z := z) (ty := ty) (o := o) (i := i) hz hty
    -- the declarator
    have hwz : rq ts f2 f1 ((6, nI 0) :: (3, nI (spn z ty o i)) :: T) (0, -1, fs, wl, pl) w (pp_z0 (sh 1 0 s)) := rq_sr (z0_sr (sr_sh 1 0 s)) hw
    have tz : tw (pp_z0 (sh 1 0 s)) = ((tw s).1 + 1, (tw s).2 + 0) := by
      obtain ⟨pos, op, cc, tn, tl, wt, pn, scs, sd, sig, frm, rl, mn, dc, fc⟩ := s
      rfl
    have decl : ∀ y, pp_c C' 56 0 0 1 0 (pp_z0 (sh 1 0 s)) = some y → rG (d + 9) w (rO f2 f1 y (fun nm s' w' => ∃ X' : rq_X, (X'.1 = 0 ∧ X'.2.1 = nI nm - 1 ∧ X'.2.2.2 = (wl, pl)) ∧ rq ts f2 f1 ((3, nI (spn z ty o i)) :: T) X' w' s')) := fun y hy => rD_c (m := 0) HD (by omega) hwz rfl (by rw [List.length_cons, tz]; show T.length + 1 ≤ (tw s).1 + 1 + 1; omega) (by rw [tz]; show wl.length ≤ (tw s).2 + 0 + 0; omega) hy
    rcases pp_cE hx' with ⟨p, hc, hp⟩ | ⟨k, s4, s5, hc, h45, t5, hk5⟩
    · have h5 := h54 _ _ _ _ hc
      unfold pp_54 at h5
      subst hp
      rcases pp_bE h5 with ⟨p', hr, hp'⟩ | ⟨nm, s2, hr, hk⟩
      · cases hp'
        exact decl _ hr
      · split at hk
        · rcases pp_bE hk with ⟨p', hr3, hp'⟩ | ⟨v3, s3, hr3, hk3⟩
          · exact absurd hr3 pp_wb_n
          · exact absurd hk3 pp_de_n
        · cases hk
    · have h5 := h54 _ _ _ _ hc
      unfold pp_54 at h5
      rcases pp_bE h5 with ⟨p', hr, hp'⟩ | ⟨nm, s2, hr, hk⟩
      · cases hp'
      · split at hk
        rotate_left
        · cases hk
        rename_i hg
        rcases pp_bE hk with ⟨p', hr3, hp'⟩ | ⟨v3, s3, hr3, hde⟩
        · cases hp'
        · refine rG_t (decl _ hr) (fun w1 h1 => ?_)
          obtain ⟨⟨a1, a2, fs2, a4⟩, ⟨g1, g2, g3⟩, hw1⟩ := h1
          obtain rfl : a1 = 0 := g1
          obtain rfl : a2 = nI nm - 1 := g2
          obtain rfl : a4 = (wl, pl) := g3
          rw [vN_s hg.2] at hw1
          have hz2 : pp_bv ts s2 b = nI z := by
            rw [hg.1, ← hbv]
            obtain ⟨pos, op, cc, tn, tl, wt, pn, scs, sd, sig, frm, rl, mn, dc, fc⟩ := s
            rfl
          rw [pp_bb] at hk5
          rcases pp_bE hk5 with ⟨p', hr6, hp'⟩ | ⟨v6, s6, hr6, hk6⟩
          · exact absurd hr6 pp_80_n
          · obtain ⟨y6, hy6, hxr6⟩ := e80_sr (sr_s h45) hr6
            rcases hxr6 with ⟨_, e1, _⟩ | ⟨v6', s6a, s6', e1, e2, h66⟩
            · cases e1
            · cases e1
              subst e2
              obtain ⟨I1, A1, J1⟩ := w1
              have t6 : tw s6 = tw s := by rw [pp_80_tw hr6, t5]
              have hdc6 : pq_dc s6' = pq_dc s4 := pp_80_dc hy6
              have hdc4 : (pq_dc s4).length = k + 1 ∧ k = (pq_dc s3).length := by
                obtain ⟨pos, op, cc, tn, tl, wt, pn, scs, sd, sig, frm, rl, mn, dc, fc⟩ := s3
                simp only [pp_de] at hde
                split at hde
                · cases hde
                  exact ⟨by show (dc ++ [_]).length = _; rw [List.length_append]; rfl, rfl⟩
                · cases hde
              have hne : pq_dc s6' ≠ [] := by
                rw [hdc6]
                intro e
                rw [e] at hdc4
                exact absurd hdc4.1 (by simp)
              have eso : ∀ q, (pq_dc s6')[(pq_dc s6').length - 1]? = some q → pp_so s6 k = q.2.2.2.1 := by
                intro q hq
                rw [hdc6, hdc4.1, Nat.add_sub_cancel] at hq
                unfold pp_so
                rw [(dc_sr (sr_s h66)).1, hdc6, hq]
              have at6 : pp_at ts s6' = pp_at ts s6 := (sr_sig (ts := ts) h66).2.1
              have fin34 := fun (G : ja_w → Prop) (tail : ∀ (I A : ja_I) (J : ja_J), rq ts f2 f1 T (0, nI (nm - 1), fs2, wl, pl) (I, A, J) s6' → ∃ y, r34 (d + 1) (nI (spn z ty o i)) I A J y ∧ rP G y) => rt_3 (d := d + 8) (G := G) hw1 (rl_34 (d := d + 1) hts (rq_pop hw1) hr3 hde hy6 hz2 f1' hty f2' tail)
              by_cases hblk : o = 1 ∧ (i, 1).1 = 0 ∧ pp_at ts s6 = 123 ∧ pp_so s6 k = 2
              · -- a block
                have hk7 := hk6
                rw [if_pos hblk] at hk7
                split at hk7
                rotate_left
                · cases hk7
                rename_i hfc
                have hlen : (pq_dc s6').length - 1 < (pq_dc s6').length := by
                  have := List.length_pos_iff.mpr hne
                  omega
                have hq : (pq_dc s6')[(pq_dc s6').length - 1]? = some (pq_dc s6')[(pq_dc s6').length - 1] := List.getElem?_eq_getElem hlen
                have hq2 : (pq_dc s6')[(pq_dc s6').length - 1].2.2.2.1 = 2 := by rw [← eso _ hq]; exact hblk.2.2.2
                have hty0 : ty = 0 := by
                  rcases ty with _ | ty
                  · rfl
                  · obtain rfl : ty = 0 := by omega
                    -- a type is no function
                    exfalso
                    have hx1 : pp_so s6 k = 1 := by
                      unfold pp_so
                      rw [(dc_sr (sr_s h66)).1, hdc6]
                      obtain ⟨pos, op, cc, tn, tl, wt, pn, scs, sd, sig, frm, rl, mn, dc, fc⟩ := s3
                      simp only [pp_de] at hde
                      split at hde
                      · cases hde
                        show (match (dc ++ [_])[dc.length]? with | some x => x.2.2.2.1 | none => 0) = 1
                        rw [List.getElem?_append_right (Nat.le_refl _), Nat.sub_self]; rfl
                      · cases hde
                    rw [hx1] at hblk
                    exact absurd hblk.2.2.2 (by decide)
                have hsp1 : (nI (spn z ty o i) &&& 1) = 1 := f3'.mpr ⟨hblk.1, hty0, hblk.2.1⟩
                refine rG_t (fin34 (fun w => rq ts f2 f1 ((15, nI (pq_fc s6') - 1) :: T) (0, nI (nm - 1), fs2, wl, pl) w s6') (fun I A J h => rl_34b hts h (by omega) (by rw [at6]; exact hblk.2.2.1) hsp1 hq hq2)) (fun w2 h2 => ?_)
                have efc : nI (pq_fc s6') - 1 = nI (pq_sd s).length := by
                  rw [(dc_sr h66).2.1, hfc, nI_pred]
                rw [efc] at h2
                rw [pp_bb] at hk7
                rcases pp_cE hk7 with ⟨p, hc8, hp8⟩ | ⟨v8, s8, s9, hc8, h89, t9, hk9⟩
                · subst hp8
                  refine rG_m (HB (pq_sd s).length (sh 1 0 s6) s6' _ T _ w2 ((sh_at (ts := ts)).1.trans hblk.2.2.1) (Or.inl ⟨rfl, sr_t (sr_s h66) (sr_sh 1 0 s6)⟩) h2 (by rw [tw_sh, t6]; show T.length ≤ (tw s).1 + 1; omega) (by rw [tw_sh, t6]; show wl.length ≤ (tw s).2 + 0; omega) _ hc8) (fun w' h => h)
                · refine rG_m (HB (pq_sd s).length (sh 1 0 s6) s6' _ T _ w2 ((sh_at (ts := ts)).1.trans hblk.2.2.1) (Or.inl ⟨rfl, sr_t (sr_s h66) (sr_sh 1 0 s6)⟩) h2 (by rw [tw_sh, t6]; show T.length ≤ (tw s).1 + 1; omega) (by rw [tw_sh, t6]; show wl.length ≤ (tw s).2 + 0; omega) _ hc8) (fun w' h => ?_)
                  obtain ⟨X', g, h⟩ := h
                  have hk10 : pp_b (pp_w (fun (a : Nat × Nat) _ => some (Nat.beq a.2 1)) (pp_78b ts C o b ty (nI z)) m (1, 2) s9) (fun a s2 => if a.2 = 2 then pp_ret 0 s2 else pp_ex ts 59 s2) = some x := hk9
                  rw [show pp_w (fun (a : Nat × Nat) _ => some (Nat.beq a.2 1)) (pp_78b ts C o b ty (nI z)) m (1, 2) s9 = pp_ret (1, 2) s9 by cases m <;> rfl] at hk10
                  cases hk10
                  exact ⟨X', g, rq_sr h89 h⟩
              · rw [if_neg hblk] at hk6
                rw [pp_bb] at hk6
                have hn : pp_at ts s6' = 123 → (nI (spn z ty o i) &&& 1) = 1 → ∀ q, (pq_dc s6')[(pq_dc s6').length - 1]? = some q → ¬ q.2.2.2.1 = 2 := by
                  intro e1 e2 q hq e3
                  obtain ⟨a, b, c⟩ := f3'.mp e2
                  exact hblk ⟨a, c, by rw [← at6]; exact e1, by rw [eso q hq]; exact e3⟩
                have next : ∀ (s9 : pp_S) (st nm fs pl : Int32) (w9 : ja_w), rq ts f2 f1 ((5, nI (spn z ty o 1)) :: T) (st, nm, fs, wl, pl) w9 s9 → tw s9 = tw s → (pp_b (pp_pf [59] s9) fun _ s1 => pp_b (if pp_at ts s1 = 44 then pp_b (pp_tk ts s1) fun _ s1 => pp_ret (i + 1, 1) s1 else pp_ret (i + 1, 0) s1) fun a s2 => pp_78l ts C o b ty (nI z) m a s2) = some x → rG (d + 9) w9 (rO f2 f1 x (fun _ s' w' => ∃ X' : rq_X, X'.2.2.2.1 = wl ∧ rq ts f2 f1 T X' w' s')) := fun s9 st nm fs pl w9 h9 t9 hx9 => rr_5 (s0 := s) hts h9 (by omega) (fun s fs pl w h ht hx => ih (i + 1) s fs pl w h hl (by rw [ht]; exact hT) (by rw [ht]; exact hX) hx) t9 hx9
                by_cases h61 : pp_at ts s6 = 61
                · rw [if_pos h61, pp_bb] at hk6
                  rcases pp_bE hk6 with ⟨p', hr7, hp'⟩ | ⟨t7, s7, hr7, hk7⟩
                  · exact absurd hr7 (pp_tk_n (by rw [h61]; rfl))
                  · obtain ⟨y7, hy7, hxr7⟩ := tk_sr h66 hr7
                    rcases hxr7 with ⟨_, e1, _⟩ | ⟨v7', s7a, s7', e1, e2, h77⟩
                    · cases e1
                    · cases e1
                      subst e2
                      refine rG_t (fin34 (fun w => rq ts f2 f1 ((22, 0) :: (19, 61) :: (5, nI (spn z ty o 1)) :: T) (0, nI (nm - 1), fs2, wl, pl) w s7') (fun I A J h => rl_34n hts h (by omega) hn hne ?_)) (fun w2 h2 => ?_)
                      · obtain ⟨I2, A2, J2, hE2, hw2⟩ := rl_11 (d := d + 6) h (by omega) 5 (nI (spn z ty o 1))
                        rw [← f4'] at hE2
                        have hw3 := rq_tk hw2 hy7 (by rw [at6, h61]; rfl) (by rw [at6, h61]; rfl)
                        obtain ⟨I4, A4, J4, hE4, hw4⟩ := rl_11 (d := d + 6) hw3 (by rw [List.length_cons]; omega) 19 61
                        obtain ⟨I5, A5, J5, hE5, hw5⟩ := rl_11 (d := d + 6) hw4 (by rw [List.length_cons, List.length_cons]; omega) 22 0
                        unfold r34n
                        exact cg_V hE2 (cg_I (rl_13t hts hw2 (by rw [at6, h61]; rfl)) (cg_f (by decide) (cg_V hE4 (cg_V hE5 (cg_r ⟨rfl, hw5⟩)))))
                      · have t7' : tw s7 = tw s := by rw [pp_tk_tw hr7, t6]
                        rw [pp_bb] at hk7
                        refine rG_b hk7 (fun y hy => rM_c H (fun _ _ => trivial) (rq_sr (sr_s h77) h2) (by rw [List.length_cons, List.length_cons, t7']; omega) (by rw [t7']; omega) hy) (fun v8 s8 w8 hr8 h8 hk8 => ?_)
                        obtain ⟨⟨b1, b2, b3, b4, b5⟩, g8, hw8⟩ := h8
                        obtain rfl : b4 = wl := g8
                        rcases pp_bE hk8 with ⟨p', hr9, hp'⟩ | ⟨v9, s9, hr9, hk9⟩
                        · exact absurd hr9 (pp_pf_n _ _ _)
                        · obtain ⟨I8, A8, J8⟩ := w8
                          refine rG_t (rt_19s (d := d + 7) hw8 hr9) (fun w9 h9 => ?_)
                          refine next s9 _ _ _ _ w9 h9 (by rw [pp_pf_tw hr9, pp_c_tw hr8, t7']) ?_
                          rw [pp_bb] at hk9
                          exact hk9
                · rw [if_neg h61] at hk6
                  refine rG_t (fin34 (fun w => rq ts f2 f1 ((5, nI (spn z ty o 1)) :: T) (0, nI (nm - 1), fs2, wl, pl) w s6') (fun I A J h => rl_34n hts h (by omega) hn hne ?_)) (fun w2 h2 => ?_)
                  · obtain ⟨I2, A2, J2, hE2, hw2⟩ := rl_11 (d := d + 6) h (by omega) 5 (nI (spn z ty o 1))
                    rw [← f4'] at hE2
                    unfold r34n
                    exact cg_V hE2 (cg_I (rl_13f hts hw2 (rk_n (by rw [at6]; exact h61))) (cg_t rfl (cg_r ⟨rfl, hw2⟩)))
                  · refine next s6 _ _ _ _ w2 (rq_sr (sr_s h66) h2) t6 ?_
                    have hk7 : (pp_b (pp_b (pp_pf [59] s6) fun _ s1 => if pp_at ts s1 = 44 then pp_b (pp_tk ts s1) fun _ s1 => pp_ret ((i, 1).1 + 1, 1) s1 else pp_ret ((i, 1).1 + 1, 0) s1) fun a s2 => pp_78l ts C o b ty (nI z) m a s2) = some x := hk6
                    rw [pp_bb] at hk7
                    exact hk7
end
