/-- the tasks that wait for an operand -/
def rq_ps : List (Int32 × List Int32) → rq_A
  | [] => []
  | x :: l => (if x.1 = 91 then [(30, 0)] else if x.1 = 64 then [(36, 64), (37, 0)] else [(36, x.1)]) ++ rq_ps l
/-- the types that wait for an operand -/
def rq_wt : List (Int32 × List Int32) → List Int32
  | [] => []
  | x :: l => rq_wt l ++ (if x.1 = 91 then x.2 ++ [nI x.2.length] else [])
theorem rq_ps_l : ∀ l, (rq_ps l).length ≤ 2 * l.length
  | [] => Nat.le_refl _
  | x :: l => by
    have := rq_ps_l l
    simp only [rq_ps, List.length_append, List.length_cons]
    split
    · simp only [List.length_cons, List.length_nil]; omega
    · split
      · simp only [List.length_cons, List.length_nil]; omega
      · simp only [List.length_cons, List.length_nil]; omega
theorem rq_wt_l : ∀ l, (rq_wt l).length ≤ pp_wl l
  | [] => Nat.le_refl _
  | x :: l => by
    have := rq_wt_l l
    have e : pp_wl (x :: l) = x.2.length + 1 + pp_wl l := by unfold pp_wl; rw [List.map_cons, List.sum_cons]
    rw [e]
    simp only [rq_wt, List.length_append]
    split
    · simp only [List.length_append, List.length_cons, List.length_nil]; omega
    · simp only [List.length_nil]; omega
section
variable {ts : List pp_T} {f2 : Int32} {f1 : Nat → Int32} {d : Nat} {T : rq_A} {X : rq_X} {I A : ja_I} {J : ja_J} {s s1 s2 s3 : pp_S} {w : ja_w} {C : pp_C} {v : Nat}
/-- CAST_END -/
theorem rl_55l {W : Nat} {ty : List Int32} (hW : W + ty.length ≤ 2400) : ∀ (m i : Nat) (s : pp_S) (I A : ja_I) (J : ja_J) (X : rq_X), i + m = ty.length → I 0 35 = nI W → cq_h (A 19) W ty → rq ts f2 f1 T X (I, A, J) s → pp_pf (ty.drop i ++ [93]) s = some (.inr (v, s1)) → ∃ y, ja_R (ja_code tr_55) (er_E (d + 1)) y 38 [some (.ref 0), some (.int (nI ty.length)), some (.int (nI i))] [] (I, A, J) ∧ rP (fun w => rq ts f2 f1 T (X.1, X.2.1, X.2.2.1, X.2.2.2.1, 0) w s1) y := by
  intro m
  induction m with
  | zero =>
    intro i s I A J X hi e35 hh hw hx
    rw [List.drop_of_length_le (by omega), List.nil_append] at hx
    obtain ⟨I1, A1, J1, ⟨hE, _⟩, hw1⟩ := rl_26 (d := d) hw hx
    exact cg_j (cg_t (nI_le (by omega) (by omega)) (cg_V hE (cg_r ⟨rfl, rq_pl hw1 0⟩))) (fun y h => br_55_38 h)
  | succ m ih =>
    intro i s I A J X hi e35 hh hw hx
    have hlt : i < ty.length := by omega
    rw [List.drop_eq_getElem_cons hlt, List.cons_append, pp_pf_c] at hx
    rcases pp_bE hx with ⟨p, hr, hp⟩ | ⟨v1, s2, hr, hk⟩
    · cases hp
    · obtain ⟨I1, A1, J1, ⟨hE, _, _, e19⟩, hw1⟩ := rl_26 (d := d) hw hr
      have ev : A 19 (W + i) = ty[i] := by rw [hh i hlt, gd_e hlt]
      have e35' : I1 0 35 = nI W := by
        have a := hw.2.2.2.2.2.2.2.2.2.2.2.2.1
        have b := hw1.2.2.2.2.2.2.2.2.2.2.2.2.1
        exact (b.trans a.symm).trans e35
      refine cg_j (cg_f (nI_ge hlt (by omega)) ?_) (fun y h => br_55_38 h)
      rw [e35, nI_add, nI_clamp (by omega), ev]
      refine cg_a (vp_in_nI (by omega) (by omega)) (cg_V hE ?_)
      rw [nI_1]
      exact ih (i + 1) s2 I1 A1 J1 X (by omega) e35' (by rw [e19]; exact hh) hw1 hk
theorem rl_55 {st nm fs pl : Int32} {wl ty : List Int32} (hw : rq ts f2 f1 T (st, nm, fs, wl ++ (ty ++ [nI ty.length]), pl) (I, A, J) s) (hx : pp_pf (91 :: (ty ++ [93])) s = some (.inr (v, s1))) : ∃ (I1 A1 : ja_I) (J1 : ja_J), er_E (d + 2) 55 [.ref 0] (I, A, J) (.inl none) (I1, A1, J1) ∧ rq ts f2 f1 T (st, nm, fs, wl, 0) (I1, A1, J1) s1 := by
  have e35 : I 0 35 = nI (wl ++ (ty ++ [nI ty.length])).length := hw.2.2.2.2.2.2.2.2.2.2.2.2.1
  have l35 : (wl ++ (ty ++ [nI ty.length])).length ≤ 2400 := hw.2.2.2.2.2.2.2.2.2.2.2.2.2.1
  have h19 : cq_h (A 19) 0 (wl ++ (ty ++ [nI ty.length])) := hw.2.2.2.2.2.2.2.2.2.2.2.2.2.2.1
  have el : (wl ++ (ty ++ [nI ty.length])).length = wl.length + ty.length + 1 := by
    rw [List.length_append, List.length_append, List.length_cons, List.length_nil]; omega
  rw [el] at e35 l35
  have em1 : I 0 35 - 1 = nI (wl.length + ty.length) := by rw [e35, nI_pred]
  obtain ⟨h19a, h19b⟩ := cq_ha.mp h19
  obtain ⟨h19c, h19d⟩ := cq_ha.mp h19b
  rw [Nat.zero_add] at h19c h19d
  have en : A 19 (I 0 35 - 1).toNatClampNeg = nI ty.length := by
    rw [em1, nI_clamp (by omega)]
    have := h19d 0 (by simp)
    rw [Nat.add_zero] at this
    exact this
  rw [pp_pf_c] at hx
  rcases pp_bE hx with ⟨p, hr, hp⟩ | ⟨v1, s2, hr, hk⟩
  · cases hp
  · have ew : I 0 35 - 1 - nI ty.length = nI wl.length := by rw [em1, pk_sub (by omega), Nat.add_sub_cancel]
    have hw0 : rq ts f2 f1 T (st, nm, fs, wl, pl) (ja_up (ja_up I 0 35 (I 0 35 - 1)) 0 35 (I 0 35 - 1 - nI ty.length), A, J) s := by
      obtain ⟨hK, h0, hP, hT, hS, hN, hG, hF, hL, hX⟩ := hw
      exact ⟨hK, h0, hP, hT, hS, hN, hG, hF, hL, hX.1, hX.2.1, hX.2.2.1, ew, by show wl.length ≤ 2400; omega, h19a, hX.2.2.2.2.2.2⟩
    obtain ⟨I1, A1, J1, ⟨hE, _, _, e19⟩, hw1⟩ := rl_26 (d := d) hw0 hr
    refine rP_of (G := fun w => rq ts f2 f1 T (st, nm, fs, wl, 0) w s1) (cg_j (cg_a (by rw [em1]; exact vp_in_nI (by omega) (by omega)) ?_) (fun y h => er_55 (r := y) h))
    rw [en]
    refine cg_V hE ?_
    have e35' : I1 0 35 = nI wl.length := hw1.2.2.2.2.2.2.2.2.2.2.2.2.1
    exact rl_55l (W := wl.length) (by omega) ty.length 0 s2 I1 A1 J1 _ (by omega) e35' (by rw [e19]; exact h19c) hw1 (by rw [List.drop_zero]; exact hk)
/-- what waits is said -/
theorem rr_unw {wl : List Int32} : ∀ (l : List (Int32 × List Int32)) (s : pp_S) (st nm fs pl : Int32) (w : ja_w), rq ts f2 f1 (rq_ps l ++ T) (st, nm, fs, wl ++ rq_wt l, pl) w s → ∀ x, pp_pf (pp_ou l) s = some x → rG (d + 9) w (rO f2 f1 x (fun _ s' w' => ∃ X' : rq_X, (X'.2.2.2.1 = wl ∧ X'.2.2.2.2 = (match l.getLast? with | none => pl | some x => if x.1 = 64 then 1 else 0)) ∧ rq ts f2 f1 T X' w' s'))
  | [], s, st, nm, fs, pl, w, hw, x, hx => by
    obtain ⟨I, A, J⟩ := w
    have hx' : pp_pf [] s = some x := hx
    rw [pp_pf_0r hw] at hx'
    cases hx'
    have hw' : rq ts f2 f1 T (st, nm, fs, wl ++ [], pl) (I, A, J) s := hw
    rw [List.append_nil] at hw'
    exact rG_0 ⟨_, ⟨rfl, rfl⟩, hw'⟩
  | q :: l, s, st, nm, fs, pl, w, hw, x, hx => by
    obtain ⟨I, A, J⟩ := w
    have hx' : pp_pf ((q.1 :: (if q.1 = 91 then q.2 ++ [93] else [])) ++ pp_ou l) s = some x := hx
    rw [pp_pf_a] at hx'
    have fin : ∀ (s2 : pp_S) (w2 : ja_w) (pl2 : Int32), pl2 = (if q.1 = 64 then 1 else 0) → rq ts f2 f1 (rq_ps l ++ T) (st, nm, fs, wl ++ rq_wt l, pl2) w2 s2 → pp_pf (pp_ou l) s2 = some x → rG (d + 9) w2 (rO f2 f1 x (fun _ s' w' => ∃ X' : rq_X, (X'.2.2.2.1 = wl ∧ X'.2.2.2.2 = (match (q :: l).getLast? with | none => pl | some x => if x.1 = 64 then 1 else 0)) ∧ rq ts f2 f1 T X' w' s')) := by
      intro s2 w2 pl2 hpl h2 hx2
      refine rG_m (rr_unw l s2 st nm fs pl2 w2 h2 x hx2) (fun w' h => ?_)
      cases x with
      | inl p => exact h
      | inr z =>
        obtain ⟨X', ⟨g1, g2⟩, h⟩ := h
        refine ⟨X', ⟨g1, ?_⟩, h⟩
        rw [g2]
        cases l with
        | nil => exact hpl
        | cons a l =>
          rw [List.getLast?_cons_cons]
          cases hg : (a :: l).getLast? with
          | none => simp at hg
          | some x => rfl
    rcases pp_bE hx' with ⟨p, hr, hp⟩ | ⟨v1, s1, hr, hk⟩
    · exact absurd hr (pp_pf_n _ _ _)
    · by_cases h91 : q.1 = 91
      · rw [if_pos h91, h91] at hr
        have hw' : rq ts f2 f1 ((30, 0) :: (rq_ps l ++ T)) (st, nm, fs, (wl ++ rq_wt l) ++ (q.2 ++ [nI q.2.length]), pl) (I, A, J) s := by
          have := hw
          simp only [rq_ps, rq_wt, h91, if_true] at this
          rw [← List.append_assoc] at this
          exact this
        obtain ⟨I1, A1, J1, hE1, hw1⟩ := rl_55 (d := d + 6) (rq_pop hw') hr
        refine rG_t (rt_30 (d := d + 8) (G := fun w => rq ts f2 f1 (rq_ps l ++ T) (st, nm, fs, wl ++ rq_wt l, 0) w s1) hw' ⟨_, _, _, hE1, hw1⟩) (fun w2 h2 => fin s1 w2 0 ?_ h2 hk)
        rw [h91]; rfl
      · rw [if_neg h91] at hr
        have ewt : rq_wt (q :: l) = rq_wt l := by simp only [rq_wt, if_neg h91, List.append_nil]
        rw [ewt] at hw
        by_cases h64 : q.1 = 64
        · have hw' : rq ts f2 f1 ((36, 64) :: (37, 0) :: (rq_ps l ++ T)) (st, nm, fs, wl ++ rq_wt l, pl) (I, A, J) s := by
            have := hw
            simp only [rq_ps] at this
            rw [if_neg h91, if_pos h64] at this
            exact this
          rw [h64] at hr
          refine rG_t (rt_36 (d := d + 7) hw' hr) (fun w2 h2 => ?_)
          obtain ⟨I2, A2, J2⟩ := w2
          refine rG_t (rt_37 (d := d + 8) h2) (fun w3 h3 => fin s1 w3 1 (by rw [if_pos h64]) h3 hk)
        · have hw' : rq ts f2 f1 ((36, q.1) :: (rq_ps l ++ T)) (st, nm, fs, wl ++ rq_wt l, pl) (I, A, J) s := by
            have := hw
            simp only [rq_ps] at this
            rw [if_neg h91, if_neg h64] at this
            exact this
          refine rG_t (rt_36 (d := d + 7) hw' hr) (fun w2 h2 => fin s1 w2 0 (by rw [if_neg h64]) h2 hk)
end
