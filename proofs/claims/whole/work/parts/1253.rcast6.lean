section
variable {ts : List pp_T} {f2 : Int32} {f1 : Nat → Int32} {d : Nat} {T : rq_A} {X : rq_X} {I A : ja_I} {J : ja_J} {s s' s1 s2 s3 : pp_S} {w : ja_w} {C C' : pp_C} {v : Nat}
theorem rtn_67 {b : Bool} (h : pp_67 ts s = some b) (h1 : ¬ (pp_at ts s = 45 ∨ pp_at ts s = 42 ∨ pp_at ts s = 38 ∨ pp_at ts s = 33 ∨ pp_at ts s = 12)) : rtn ts s b := by
  unfold pp_67 at h
  rw [if_neg h1] at h
  refine ⟨fun h40 => ?_, fun h40 => ?_⟩
  · rw [if_pos h40] at h; exact h
  · rw [if_neg h40] at h; cases h; rfl
theorem rtn_op {c : Int32} (h : pp_at ts s = c) (hc : c ≠ 40 := by decide) : rtn ts s false := ⟨fun h40 => absurd (h.symm.trans h40) hc, fun _ => rfl⟩
theorem pp_68_91 {k : Int32} (h : k = 45 ∨ k = 42 ∨ k = 38 ∨ k = 33 ∨ k = 12 ∨ k = 40) : pp_68 k = 91 ↔ k = 40 := by
  rcases h with h | h | h | h | h | h <;> (rw [h]; decide)
/-- going on from a state with another room -/
theorem tk_back {t : Nat} (hr : pp_tk ts s = some (.inr (t, s1))) (h : sr s1 s') : ∃ s0, sr s s0 ∧ pp_tk ts s0 = some (.inr (t, s')) := by
  obtain ⟨pos, op, cc, tn, tl, wt, pn, r⟩ := s
  rw [pp_tk_t3] at hr
  cases ht : t3 ts pos op cc with
  | none => rw [ht] at hr; cases hr
  | some y =>
    rw [ht] at hr
    cases y with
    | inl p => cases hr
    | inr z =>
      cases hr
      obtain ⟨pos', op', cc', tn', tl', wt', pn', r'⟩ := s'
      obtain ⟨h1, h2, h3, h4, h5⟩ := h
      cases h1; cases h2; cases h3; cases h4; cases h5
      refine ⟨(t, op, cc, tn, tl', wt', pn', r), ⟨rfl, rfl, rfl, rfl, rfl⟩, ?_⟩
      rw [pp_tk_t3, ht]; rfl
/-- the loop of a cast -/
theorem rr_66l (hts : pp_ok ts) (H : rH ts f2 f1 (d + 9) C) (HD : rD ts f2 f1 (d + 9) C') (h55 : ∀ s x, C 55 2 0 s = some x → pp_55 ts C' 2 s = some x) {n : Nat} : ∀ (m : Nat) (l : List (Int32 × List Int32)) (bs : Bool) (s : pp_S) (st nm fs pl : Int32) (wl : List Int32) (w : ja_w), ((bs = false ∧ rq ts f2 f1 ((28, 0) :: (rq_ps l ++ T)) (st, nm, fs, wl ++ rq_wt l, pl) w s) ∨ (rtn ts s false ∧ rq ts f2 f1 ((31, 0) :: (rq_ps l ++ T)) (st, nm, fs, wl ++ rq_wt l, pl) w s)) → T.length ≤ (tw s).1 → wl.length ≤ (tw s).2 → ∀ x, pp_b (pp_w (fun (a : pp_A) s => if a.2.2 then pp_67 ts s else some false) (pp_66b ts C) m (l, bs, true) s) (p66 ts C n) = some x → rG (d + 9) w (rO f2 f1 x (fun v s' w' => ∃ X' : rq_X, (X'.2.2.2.1 = wl ∧ X'.2.2.2.2 = nI v) ∧ rq ts f2 f1 T X' w' s')) := by
  have toU : ∀ (l : List (Int32 × List Int32)) (bs : Bool) (s : pp_S) (X : rq_X) (w : ja_w), ((bs = false ∧ rq ts f2 f1 ((28, 0) :: (rq_ps l ++ T)) X w s) ∨ (rtn ts s false ∧ rq ts f2 f1 ((31, 0) :: (rq_ps l ++ T)) X w s)) → rtn ts s false → (rq_ps l ++ T).length < 1190 → rG (d + 9) w (fun w => rq ts f2 f1 ((31, 0) :: (rq_ps l ++ T)) X w s) := by
    intro l bs s X w h hn hl
    rcases h with ⟨_, h⟩ | ⟨_, h⟩
    · obtain ⟨I, A, J⟩ := w
      exact rt_28b (d := d + 2) hts h hl hn
    · exact rG_0 h
  have done : ∀ (l : List (Int32 × List Int32)) (bs : Bool) (s : pp_S) (st nm fs pl : Int32) (wl : List Int32) (w : ja_w), ((bs = false ∧ rq ts f2 f1 ((28, 0) :: (rq_ps l ++ T)) (st, nm, fs, wl ++ rq_wt l, pl) w s) ∨ (rtn ts s false ∧ rq ts f2 f1 ((31, 0) :: (rq_ps l ++ T)) (st, nm, fs, wl ++ rq_wt l, pl) w s)) → T.length ≤ (tw s).1 → wl.length ≤ (tw s).2 → pp_67 ts s = some false → ∀ x, p66 ts C n (l, bs, true) s = some x → rG (d + 9) w (rO f2 f1 x (fun v s' w' => ∃ X' : rq_X, (X'.2.2.2.1 = wl ∧ X'.2.2.2.2 = nI v) ∧ rq ts f2 f1 T X' w' s')) := by
    intro l bs s st nm fs pl wl w hw hT hX hk x hx
    have hx' : (pp_b (pp_c C 71 0 0 (2 * l.length) (pp_wl l) s) fun p s => pp_01 p <| pp_b (pp_pf (pp_ou l) s) fun _ s => pp_ret (match l.getLast? with | none => p | some x => if x.1 = 64 then 1 else 0) (pp_po n s)) = some x := hx
    have hl := rC_b H.1 hx'
    have hps := rq_ps_l l
    have hlen : (rq_ps l ++ T).length = (rq_ps l).length + T.length := List.length_append
    have h1 : ¬ (pp_at ts s = 45 ∨ pp_at ts s = 42 ∨ pp_at ts s = 38 ∨ pp_at ts s = 33 ∨ pp_at ts s = 12) := fun c => by
      unfold pp_67 at hk
      rw [if_pos c] at hk; cases hk
    refine rG_t (toU l bs s _ w hw (rtn_67 hk h1) (by omega)) (fun w1 h => ?_)
    exact rr_66e hts H h hk hT hX hx
  intro m
  induction m with
  | zero =>
    intro l bs s st nm fs pl wl w hw hT hX x hx
    simp only [pp_w, if_true] at hx
    cases hk : pp_67 ts s with
    | none => rw [hk] at hx; cases hx
    | some c =>
      rw [hk] at hx
      cases c with
      | true => cases hx
      | false => exact done l bs s st nm fs pl wl w hw hT hX hk x hx
  | succ m ih =>
    intro l bs s st nm fs pl wl w hw hT hX x hx
    simp only [pp_w, if_true] at hx
    cases hk : pp_67 ts s with
    | none => rw [hk] at hx; cases hx
    | some c =>
      rw [hk] at hx
      cases c with
      | false => exact done l bs s st nm fs pl wl w hw hT hX hk x hx
      | true =>
        simp only at hx
        rw [pp_bb] at hx
        unfold pp_66b at hx
        split at hx
        rotate_left
        · cases hx
        rename_i hroom
        have hroom' : (tw s).1 + 2 * l.length + 30 ≤ 1200 := hroom
        rw [pp_bb] at hx
        have hps := rq_ps_l l
        have hwt := rq_wt_l l
        have hlen : (rq_ps l ++ T).length = (rq_ps l).length + T.length := List.length_append
        have room : (rq_ps l ++ T).length < 1175 := by omega
        have room' : (rq_ps l ++ T).length < 1190 := by omega
        have hK : pp_at ts s = 45 ∨ pp_at ts s = 42 ∨ pp_at ts s = 38 ∨ pp_at ts s = 33 ∨ pp_at ts s = 12 ∨ pp_at ts s = 40 := by
          unfold pp_67 at hk
          by_cases h1 : pp_at ts s = 45 ∨ pp_at ts s = 42 ∨ pp_at ts s = 38 ∨ pp_at ts s = 33 ∨ pp_at ts s = 12
          · rcases h1 with h | h | h | h | h
            · exact Or.inl h
            · exact Or.inr (Or.inl h)
            · exact Or.inr (Or.inr (Or.inl h))
            · exact Or.inr (Or.inr (Or.inr (Or.inl h)))
            · exact Or.inr (Or.inr (Or.inr (Or.inr (Or.inl h))))
          · rw [if_neg h1] at hk
            by_cases h40 : pp_at ts s = 40
            · exact Or.inr (Or.inr (Or.inr (Or.inr (Or.inr h40))))
            · rw [if_neg h40] at hk; cases hk
        by_cases h40 : pp_at ts s = 40
        · -- a cast
          have hn : rtn ts s true := rtn_67 hk (by rw [h40]; decide)
          have hb : bs = false ∧ rq ts f2 f1 ((28, 0) :: (rq_ps l ++ T)) (st, nm, fs, wl ++ rq_wt l, pl) w s := by
            rcases hw with h | ⟨h, _⟩
            · exact h
            · have a := h.1 h40
              have b := hn.1 h40
              rw [a] at b
              cases b
          obtain ⟨rfl, hwc⟩ := hb
          obtain ⟨I, A, J⟩ := w
          have h91 : pp_68 (pp_at ts s) = 91 := (pp_68_91 hK).mpr h40
          have first : ∀ s' x', sr s s' → (pp_b (pp_tk ts s') fun _ s => pp_base ts (pp_z s)) = some x' → rG (d + 9) (I, A, J) (rO f2 f1 x' (fun b s2 w => rq ts f2 f1 ((6, 2) :: (29, pp_bv ts s2 b) :: (28, 0) :: (30, 0) :: (rq_ps l ++ T)) (0, -1, fs, wl ++ rq_wt l, pl) w s2)) := fun s' x' h hy => rt_28a (d := d + 1) hts (rq_sr h hwc) (by omega) ((sr_sig h).2.2.1 _ hn) hy
          rcases pp_bE hx with ⟨p, hr, hp⟩ | ⟨t, s1, hr, hk1⟩
          · subst hp
            exact first s (.inl p) (sr_0 s) (by rw [hr]; rfl)
          · rw [pp_tk_k hr, if_pos h91] at hk1
            split at hk1
            · rename_i hg
              rw [pp_bb] at hk1
              have t1 := pp_tk_tw hr
              have hg' : (tw s).2 + pp_wl l + 700 ≤ 2400 := by rw [← t1]; exact hg
              have hx2 : (pp_b (pp_tk ts s) fun _ s1 => pp_b (pp_c C 55 2 0 (2 * l.length + 3) (pp_wl l) (pp_z s1)) fun _ s2 => pp_b (pp_ex ts 41 s2) fun _ s3 => pp_b (if pq_tn s3 = pq_tn s1 + (pq_sig s3).length then pp_b (pp_pu s3) fun _ s4 => pp_ret ((91, pq_sig s4) :: l, false, true) s4 else none) fun a s5 => pp_b (pp_w (fun (a : pp_A) s => if a.2.2 then pp_67 ts s else some false) (pp_66b ts C) m a s5) (p66 ts C n)) = some x := by
                rw [hr]
                show (pp_b (pp_c C 55 2 0 (2 * l.length + 3) (pp_wl l) (pp_z s1)) fun _ s2 => pp_b (pp_ex ts 41 s2) fun _ s3 => pp_b (if pq_tn s3 = pq_tn s1 + (pq_sig s3).length then pp_b (pp_pu s3) fun _ s4 => pp_ret ((91, pq_sig s4) :: l, false, true) s4 else none) fun a s5 => pp_b (pp_w (fun (a : pp_A) s => if a.2.2 then pp_67 ts s else some false) (pp_66b ts C) m a s5) (p66 ts C n)) = some x
                rw [← hk1]
                congr 1
                funext _ s2
                rw [pp_bb]
                rfl
              refine rr_66c (T := (28, 0) :: (30, 0) :: (rq_ps l ++ T)) (fs := fs) (pl := pl) HD h55 (by rw [List.length_cons, List.length_cons]; omega) (by rw [List.length_append]; omega) first hx2 (fun p w1 hp h => by rw [hp]; exact h) (fun b v t s1 s2 s3 s4 fs2 w1 hr1 hwb hsr htw hk2 hw2 => ?_)
              obtain ⟨I1, A1, J1⟩ := w1
              rcases pp_bE hk2 with ⟨p, hr5, hp⟩ | ⟨t5, s5, hr5, hk5⟩
              · obtain ⟨y', hy', hxr⟩ := ex_sr (sr_s hsr) hr5
                obtain ⟨I2, A2, J2, hE2, hw3⟩ := rl_54 (d := d + 4) hts (rq_pop hw2) (by rw [List.length_append]; omega) hwb hy'
                rcases hxr with ⟨p', e1, e2⟩ | ⟨_, _, _, e1, _⟩
                · cases e1
                  subst e2
                  subst hp
                  exact rt_29 hw2 ⟨_, _, _, hE2, hw3⟩
                · cases e1
              · obtain ⟨y', hy', hxr⟩ := ex_sr (sr_s hsr) hr5
                obtain ⟨I2, A2, J2, hE2, hw3⟩ := rl_54 (d := d + 4) hts (rq_pop hw2) (by rw [List.length_append]; omega) hwb hy'
                rcases hxr with ⟨p', e1, e2⟩ | ⟨v5, s5a, s5', e1, e2, h5⟩
                · cases e1
                · cases e1
                  subst e2
                  split at hk5
                  · rw [pp_bb] at hk5
                    rcases pp_bE hk5 with ⟨p, hr6, hp⟩ | ⟨v6, s6, hr6, hk6⟩
                    · obtain ⟨pos, op, cc, tn, tl, wt, pn, r⟩ := s5
                      simp only [pp_pu] at hr6
                      split at hr6 <;> cases hr6
                    · have hw4 : rq ts f2 f1 ((28, 0) :: (30, 0) :: (rq_ps l ++ T)) (0, nI 0 - 1, fs2, (wl ++ rq_wt l) ++ (pq_sig s5' ++ [nI (pq_sig s5').length]), pl) (I2, A2, J2) s5' := hw3
                      have esig : pq_sig s6 = pq_sig s5' := by
                        rw [(pp_pu_at (ts := ts) hr6).2.1, (sr_sig (ts := ts) h5).1]
                      have etw : tw s6 = tw s := by rw [pp_pu_tw hr6, pp_ex_tw hr5, htw]
                      refine rG_t (rt_29 (d := d + 8) (G := fun w => rq ts f2 f1 ((28, 0) :: (rq_ps ((91, pq_sig s6) :: l) ++ T)) (0, nI 0 - 1, fs2, wl ++ rq_wt ((91, pq_sig s6) :: l), pl) w s6) hw2 ⟨_, _, _, hE2, ?_⟩) (fun w3 h3 => ?_)
                      · have e1 : rq_ps ((91, pq_sig s6) :: l) ++ T = (30, 0) :: (rq_ps l ++ T) := rfl
                        have e2 : wl ++ rq_wt ((91, pq_sig s6) :: l) = (wl ++ rq_wt l) ++ (pq_sig s5' ++ [nI (pq_sig s5').length]) := by
                          rw [esig, List.append_assoc]; rfl
                        rw [e1, e2]
                        exact rq_sr (sr_t (sr_s h5) (sr_pu hr6)) hw4
                      · exact ih ((91, pq_sig s6) :: l) false s6 _ _ _ _ wl w3 (Or.inl ⟨rfl, h3⟩) (by rw [etw]; exact hT) (by rw [etw]; exact hX) x hk6
                  · cases hk5
            · cases hk1
        · have hn : rtn ts s false := ⟨fun h => absurd h h40, fun _ => rfl⟩
          have h91 : ¬ pp_68 (pp_at ts s) = 91 := fun c => h40 ((pp_68_91 hK).mp c)
          rcases pp_bE hx with ⟨p, hr, hp⟩ | ⟨t, s1, hr, hk1⟩
          · refine absurd hr (pp_tk_n ?_)
            rcases hK with h | h | h | h | h | h
            all_goals first
              | exact absurd h h40
              | (rw [h]; rfl)
          · rw [pp_tk_k hr, if_neg h91, pp_bb] at hk1
            have t1 := pp_tk_tw hr
            rcases pp_bE hk1 with ⟨p, hr2, hp⟩ | ⟨v2, s2, hr2, hk2⟩
            · obtain ⟨pos, op, cc, tn, tl, wt, pn, r⟩ := s1
              simp only [pp_pu] at hr2
              split at hr2 <;> cases hr2
            · have t2 := pp_pu_tw hr2
              have hk2' : pp_b (pp_w (fun (a : pp_A) s => if a.2.2 then pp_67 ts s else some false) (pp_66b ts C) m ((pp_68 (pp_at ts s), []) :: l, pp_at ts s == 12, true) s2) (p66 ts C n) = some x := hk2
              have hwt2 : rq_wt ((pp_68 (pp_at ts s), []) :: l) = rq_wt l := by simp only [rq_wt, if_neg h91, List.append_nil]
              by_cases h12 : pp_at ts s = 12
              · -- sizeof
                have e36 : pp_68 (pp_at ts s) = 36 := by rw [h12]; rfl
                rw [e36, h12] at hk2'
                have hk3 : pp_b (pp_w (fun (a : pp_A) s => if a.2.2 then pp_67 ts s else some false) (pp_66b ts C) m ((36, []) :: l, true, true) s2) (p66 ts C n) = some x := hk2'
                have hwt3 : rq_wt ((36, []) :: l) = rq_wt l := by simp only [rq_wt, if_neg (show ¬ (36 : Int32) = 91 by decide), List.append_nil]
                have s12 := sr_pu hr2
                -- no type's name behind it
                have plain : rtn ts s2 false → rG (d + 9) w (rO f2 f1 x (fun v s' w' => ∃ X' : rq_X, (X'.2.2.2.1 = wl ∧ X'.2.2.2.2 = nI v) ∧ rq ts f2 f1 T X' w' s')) := by
                  intro hn2
                  have hn1 : rtn ts s1 false := (sr_sig (sr_s s12)).2.2.1 _ hn2
                  refine rG_t (toU l bs s _ w hw hn room') (fun w1 h1 => ?_)
                  obtain ⟨I, A, J⟩ := w1
                  refine rG_t (rt_31z (d := d + 2) hts h1 room' h12 hr hn1) (fun w2 h2 => ?_)
                  refine ih ((36, []) :: l) true s2 st nm fs pl wl w2 (Or.inr ⟨hn2, ?_⟩) (by rw [t2, t1]; exact hT) (by rw [t2, t1]; exact hX) x hk3
                  rw [hwt3]
                  exact rq_sr s12 h2
                cases hc : pp_67 ts s2 with
                | none =>
                  cases m with
                  | zero => simp only [pp_w, if_true] at hk3; rw [hc] at hk3; cases hk3
                  | succ m => simp only [pp_w, if_true] at hk3; rw [hc] at hk3; cases hk3
                | some c2 =>
                  by_cases h40' : pp_at ts s2 = 40
                  · have hn2 : rtn ts s2 c2 := rtn_67 hc (by rw [h40']; decide)
                    cases c2 with
                    | false => exact plain hn2
                    | true =>
                      cases m with
                      | zero => simp only [pp_w, if_true] at hk3; rw [hc] at hk3; cases hk3
                      | succ m =>
                        simp only [pp_w, if_true] at hk3
                        rw [hc] at hk3
                        simp only at hk3
                        rw [pp_bb] at hk3
                        unfold pp_66b at hk3
                        split at hk3
                        rotate_left
                        · cases hk3
                        rename_i hroom2
                        have hroom2' : (tw s2).1 + 2 * (l.length + 1) + 30 ≤ 1200 := hroom2
                        rw [pp_bb] at hk3
                        refine rG_t (toU l bs s _ w hw hn room') (fun w1 h1 => ?_)
                        obtain ⟨I, A, J⟩ := w1
                        have first : ∀ s' x', sr s2 s' → (pp_b (pp_tk ts s') fun _ s => pp_base ts (pp_z s)) = some x' → rG (d + 9) (I, A, J) (rO f2 f1 x' (fun b s3 w => rq ts f2 f1 ((6, 2) :: (32, pp_bv ts s3 b) :: (rq_ps l ++ T)) (0, -1, fs, wl ++ rq_wt l, pl) w s3)) := by
                          intro s' x' h hy
                          obtain ⟨s0, hs0, hr0⟩ := tk_back hr (sr_t s12 h)
                          exact rt_31t (d := d + 1) hts (rq_sr hs0 h1) room' (by rw [(sr_sig (ts := ts) hs0).2.1]; exact h12) hr0 ((sr_sig h).2.2.1 _ hn2) hy
                        have h91' : pp_68 (pp_at ts s2) = 91 := by rw [h40']; rfl
                        have ewl : pp_wl ((36, []) :: l) = 1 + pp_wl l := by
                          unfold pp_wl; rw [List.map_cons, List.sum_cons]; rfl
                        rcases pp_bE hk3 with ⟨p, hr3, hp⟩ | ⟨t3, s3, hr3, hk4⟩
                        · subst hp
                          exact first s2 (.inl p) (sr_0 s2) (by rw [hr3]; rfl)
                        · rw [pp_tk_k hr3, if_pos h91'] at hk4
                          split at hk4
                          · rw [pp_bb] at hk4
                            have hx2 : (pp_b (pp_tk ts s2) fun _ s1 => pp_b (pp_c C 55 2 0 (2 * ((36, []) :: l : List (Int32 × List Int32)).length + 3) (pp_wl ((36, []) :: l)) (pp_z s1)) fun _ s2 => pp_b (pp_ex ts 41 s2) fun _ s3 => pp_b (if pq_tn s3 = pq_tn s1 + (pq_sig s3).length then pp_b (pp_pu s3) fun _ s4 => pp_ret ((91, pq_sig s4) :: (36, []) :: l, false, false) s4 else none) fun a s5 => pp_b (pp_w (fun (a : pp_A) s => if a.2.2 then pp_67 ts s else some false) (pp_66b ts C) m a s5) (p66 ts C n)) = some x := by
                              rw [hr3]
                              show (pp_b (pp_c C 55 2 0 (2 * ((36, []) :: l : List (Int32 × List Int32)).length + 3) (pp_wl ((36, []) :: l)) (pp_z s3)) fun _ s2 => pp_b (pp_ex ts 41 s2) fun _ s4 => pp_b (if pq_tn s4 = pq_tn s3 + (pq_sig s4).length then pp_b (pp_pu s4) fun _ s5 => pp_ret ((91, pq_sig s5) :: (36, []) :: l, false, false) s5 else none) fun a s5 => pp_b (pp_w (fun (a : pp_A) s => if a.2.2 then pp_67 ts s else some false) (pp_66b ts C) m a s5) (p66 ts C n)) = some x
                              rw [← hk4]
                              congr 1
                              funext _ s2
                              rw [pp_bb]
                              rfl
                            refine rr_66c (T := rq_ps l ++ T) (fs := fs) (pl := pl) HD h55 (by rw [t2, t1, List.length_cons]; omega) (by rw [t2, t1, List.length_append, ewl]; omega) first hx2 (fun p w1 hp h => by rw [hp]; exact h) (fun b v t s1 s2 s3 s4 fs2 w1 hr1 hwb hsr htw hk5 hw2 => ?_)
                            obtain ⟨I1, A1, J1⟩ := w1
                            rcases pp_bE hk5 with ⟨p, hr5, hp⟩ | ⟨t5, s5, hr5, hk6⟩
                            · obtain ⟨y', hy', hxr⟩ := ex_sr (sr_s hsr) hr5
                              rcases hxr with ⟨p', e1, e2⟩ | ⟨_, _, _, e1, _⟩
                              · cases e1
                                subst e2
                                subst hp
                                obtain ⟨I2, A2, J2, hE2, hw3⟩ := rl_56 (d := d + 4) (x := .inl p) hts (rq_pop hw2) hwb (by rw [hy']; rfl)
                                exact rt_32 hw2 ⟨_, _, _, hE2, hw3⟩
                              · cases e1
                            · obtain ⟨y', hy', hxr⟩ := ex_sr (sr_s hsr) hr5
                              rcases hxr with ⟨p', e1, e2⟩ | ⟨v5, s5a, s5', e1, e2, h5⟩
                              · cases e1
                              · cases e1
                                subst e2
                                split at hk6
                                · rw [pp_bb] at hk6
                                  rcases pp_bE hk6 with ⟨p, hr6, hp⟩ | ⟨v6, s6, hr6, hk7⟩
                                  · obtain ⟨pos, op, cc, tn, tl, wt, pn, r⟩ := s5
                                    simp only [pp_pu] at hr6
                                    split at hr6 <;> cases hr6
                                  · have hk8 : p66 ts C n ((91, pq_sig s6) :: (36, []) :: l, false, false) s6 = some x := by
                                      have : pp_b (pp_w (fun (a : pp_A) s => if a.2.2 then pp_67 ts s else some false) (pp_66b ts C) m ((91, pq_sig s6) :: (36, []) :: l, false, false) s6) (p66 ts C n) = some x := hk7
                                      rw [show pp_w (fun (a : pp_A) s => if a.2.2 then pp_67 ts s else some false) (pp_66b ts C) m ((91, pq_sig s6) :: (36, []) :: l, false, false) s6 = pp_ret ((91, pq_sig s6) :: (36, []) :: l, false, false) s6 by cases m <;> rfl] at this
                                      exact this
                                    have hk9 : (pp_b (pp_pf (pp_ou ((91, pq_sig s6) :: (36, []) :: l)) s6) fun _ s => pp_ret (match ((91, pq_sig s6) :: (36, []) :: l : List (Int32 × List Int32)).getLast? with | none => 0 | some x => if x.1 = 64 then 1 else 0) (pp_po n s)) = some x := hk8
                                    have eou : pp_ou ((91, pq_sig s6) :: (36, []) :: l) = (91 :: (pq_sig s6 ++ [93, 36])) ++ pp_ou l := by
                                      show (91 :: (pq_sig s6 ++ [93])) ++ ((36 :: []) ++ pp_ou l) = _
                                      simp
                                    rw [eou] at hk9
                                    rcases pp_bE hk9 with ⟨p, hr7, hp⟩ | ⟨v7, s7, hr7, hk10⟩
                                    · exact absurd hr7 (pp_pf_n _ _ _)
                                    · rw [pp_pf_a] at hr7
                                      rcases pp_bE hr7 with ⟨p, hr8, hp⟩ | ⟨v8, s8, hr8, hr9⟩
                                      · cases hp
                                      · have s65 : sr s6 s5' := sr_t (sr_s (sr_pu hr6)) h5
                                        have esig : pq_sig s5' = pq_sig s6 := (sr_sig (ts := ts) s65).1
                                        obtain ⟨y8, hy8, hxr8⟩ := pf_sr s65 hr8
                                        rcases hxr8 with ⟨_, e1, _⟩ | ⟨v8', s8a, s8', e1, e2, h8⟩
                                        · cases e1
                                        · cases e1
                                          subst e2
                                          obtain ⟨I2, A2, J2, hE2, hw3⟩ := rl_56 (d := d + 4) (x := .inr (v8, s8')) hts (rq_pop hw2) hwb (by rw [hy']; show pp_pf (91 :: (pq_sig s5' ++ [93, 36])) s5' = _; rw [esig]; exact hy8)
                                          refine rG_t (rt_32 (d := d + 8) (G := fun w => rq ts f2 f1 (rq_ps l ++ T) (0, nI 0 - 1, fs2, wl ++ rq_wt l, 0) w s8) hw2 ⟨_, _, _, hE2, rq_sr (sr_s h8) hw3⟩) (fun w3 h3 => ?_)
                                          cases hk10
                                          refine rG_m (rr_unw l s8 _ _ _ 0 w3 h3 _ hr9) (fun w' h => ?_)
                                          obtain ⟨X', ⟨g1, g2⟩, h⟩ := h
                                          refine ⟨X', ⟨g1, ?_⟩, rq_po h⟩
                                          rw [g2]
                                          have : (match ((91, pq_sig s6) :: (36, []) :: l : List (Int32 × List Int32)).getLast? with | none => 0 | some x => if x.1 = 64 then 1 else 0) = (match l.getLast? with | none => 0 | some x => if x.1 = 64 then 1 else 0) := by
                                            cases l with
                                            | nil => rfl
                                            | cons a l => rw [List.getLast?_cons_cons, List.getLast?_cons_cons]
                                          show _ = nI (match ((91, pq_sig s6) :: (36, []) :: l : List (Int32 × List Int32)).getLast? with | none => 0 | some x => if x.1 = 64 then 1 else 0)
                                          rw [this]
                                          exact nI_gl (p := 0)
                                · cases hk6
                          · cases hk4
                  · exact plain ⟨fun h => absurd h h40', fun _ => rfl⟩
              · have hop : pp_at ts s = 45 ∨ pp_at ts s = 42 ∨ pp_at ts s = 38 ∨ pp_at ts s = 33 := by
                  rcases hK with h | h | h | h | h | h
                  · exact Or.inl h
                  · exact Or.inr (Or.inl h)
                  · exact Or.inr (Or.inr (Or.inl h))
                  · exact Or.inr (Or.inr (Or.inr h))
                  · exact absurd h h12
                  · exact absurd h h40
                rw [show (pp_at ts s == 12) = false from beq_eq_false_iff_ne.mpr h12] at hk2'
                refine rG_t (toU l bs s _ w hw hn room') (fun w1 h1 => ?_)
                obtain ⟨I, A, J⟩ := w1
                refine rG_t (rt_31p (d := d + 6) hts h1 room' hop hr) (fun w2 h2 => ?_)
                have eps : rq_ps [(pp_68 (pp_at ts s), [])] ++ (rq_ps l ++ T) = rq_ps ((pp_68 (pp_at ts s), []) :: l) ++ T := by
                  simp only [rq_ps, List.append_nil, List.append_assoc]
                rw [eps] at h2
                refine ih ((pp_68 (pp_at ts s), []) :: l) false s2 st nm fs pl wl w2 (Or.inl ⟨rfl, ?_⟩) (by rw [t2, t1]; exact hT) (by rw [t2, t1]; exact hX) x hk2'
                rw [hwt2]
                exact rq_sr (sr_pu hr2) h2
/-- cast -/
theorem rr_66 (hts : pp_ok ts) (H : rH ts f2 f1 (d + 9) C) (HD : rD ts f2 f1 (d + 9) C') (h55 : ∀ s x, C 55 2 0 s = some x → pp_55 ts C' 2 s = some x) : rM ts f2 f1 (d + 9) 28 0 (fun s => (tw s).1 + 20 ≤ 1200) [] gE (pp_66 ts C) := by
  intro s T X w hs hw hT hX x hx
  obtain ⟨st, nm, fs, wl, pl⟩ := X
  have hw' : rq ts f2 f1 ((28, 0) :: (rq_ps [] ++ T)) (st, nm, fs, wl ++ rq_wt [], pl) w s := by
    show rq ts f2 f1 ((28, 0) :: T) (st, nm, fs, wl ++ [], pl) w s
    rw [List.append_nil]; exact hw
  exact rr_66l (T := T) hts H HD h55 160 [] false s st nm fs pl wl w (Or.inl ⟨rfl, hw'⟩) hT hX x hx
end
