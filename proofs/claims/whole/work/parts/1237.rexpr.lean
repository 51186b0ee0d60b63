/-! what is kept of tl and wt -/
abbrev tw (s : pp_S) : Nat × Nat := (pq_tl s, pq_wt s)
section
variable {ts : List pp_T} {s s1 : pp_S} {v : Nat}
theorem pp_tk_tw (h : pp_tk ts s = some (.inr (v, s1))) : tw s1 = tw s := by
  obtain ⟨pos, op, cc, tn, tl, wt, pn, scs, sd, sig, frm, rl, mn, dc, fc⟩ := s
  simp only [pp_tk] at h
  repeat' split at h
  all_goals first
    | (cases h; done)
    | (cases h; rfl)
theorem pp_ex_tw {k : Int32} (h : pp_ex ts k s = some (.inr (v, s1))) : tw s1 = tw s := by
  unfold pp_ex at h
  split at h
  · exact pp_tk_tw h
  · cases h
theorem pp_pf_tw {l : List Int32} (h : pp_pf l s = some (.inr (v, s1))) : tw s1 = tw s := by
  obtain ⟨pos, op, cc, tn, tl, wt, pn, scs, sd, sig, frm, rl, mn, dc, fc⟩ := s
  simp only [pp_pf] at h
  split at h
  · cases h; rfl
  · cases h
theorem pp_pt_tw {l : List Int32} (h : pp_pt l s = some (.inr (v, s1))) : tw s1 = tw s := by
  obtain ⟨pos, op, cc, tn, tl, wt, pn, scs, sd, sig, frm, rl, mn, dc, fc⟩ := s
  simp only [pp_pt] at h
  split at h
  · cases h; rfl
  · cases h
theorem pp_os_tw {q : Nat} (h : pp_os q s = some (.inr (v, s1))) : tw s1 = tw s := by
  obtain ⟨pos, op, cc, tn, tl, wt, pn, scs, sd, sig, frm, rl, mn, dc, fc⟩ := s
  simp only [pp_os] at h
  split at h
  · cases h; rfl
  · cases h
theorem pp_ns_tw (h : pp_ns s = some (.inr (v, s1))) : tw s1 = tw s := by
  obtain ⟨pos, op, cc, tn, tl, wt, pn, scs, sd, sig, frm, rl, mn, dc, fc⟩ := s
  simp only [pp_ns] at h
  split at h
  · cases h; rfl
  · cases h
theorem pp_xs_tw (h : pp_xs s = some (.inr (v, s1))) : tw s1 = tw s := by
  obtain ⟨pos, op, cc, tn, tl, wt, pn, scs, sd, sig, frm, rl, mn, dc, fc⟩ := s
  simp only [pp_xs] at h
  split at h
  · cases h
  · cases h; rfl
theorem pp_es_tw (h : pp_es s = some (.inr (v, s1))) : tw s1 = tw s := by
  obtain ⟨pos, op, cc, tn, tl, wt, pn, scs, sd, sig, frm, rl, mn, dc, fc⟩ := s
  simp only [pp_es] at h
  split at h
  · cases h
  · cases h; rfl
theorem pp_use_tw {t : Nat} (h : pp_use ts t s = some (.inr (v, s1))) : tw s1 = tw s := by
  unfold pp_use at h
  split at h
  · obtain ⟨pos, op, cc, tn, tl, wt, pn, scs, sd, sig, frm, rl, mn, dc, fc⟩ := s
    cases h; rfl
  · cases h
theorem pp_base_tw (h : pp_base ts s = some (.inr (v, s1))) : tw s1 = tw s := by
  unfold pp_base at h
  cases hb : pp_ib ts s (pq_pos s) with
  | none => rw [hb] at h; cases h
  | some b =>
    rw [hb] at h
    cases b with
    | false => cases h
    | true =>
      rcases pp_bE (x := .inr _) h with ⟨p, hr, hp⟩ | ⟨v, s3, hr, hk⟩
      · cases hp
      · split at hk
        · rw [pp_use_tw hk, pp_tk_tw hr]
        · cases hk
          exact pp_tk_tw hr
theorem pp_wb_tw {t : Nat} (h : pp_wb ts t s = some (.inr (v, s1))) : tw s1 = tw s := by
  unfold pp_wb at h
  repeat' split at h
  all_goals first
    | exact pp_pt_tw h
    | (cases h; done)
theorem pp_de_tw {t st tn0 ty : Nat} (h : pp_de ts t st tn0 ty s = some (.inr (v, s1))) : tw s1 = tw s := by
  obtain ⟨pos, op, cc, tn, tl, wt, pn, scs, sd, sig, frm, rl, mn, dc, fc⟩ := s
  simp only [pp_de] at h
  split at h
  · cases h; rfl
  · cases h
theorem pp_60_tw (h : pp_60 ts s = some (.inr (v, s1))) : tw s1 = tw s := by
  unfold pp_60 at h
  rcases pp_bE h with ⟨p, hr, hp⟩ | ⟨v1, a1, hr1, h⟩
  · cases hp
  rcases pp_bE h with ⟨p, hr, hp⟩ | ⟨v2, a2, hr2, h⟩
  · cases hp
  rcases pp_bE h with ⟨p, hr, hp⟩ | ⟨v3, a3, hr3, h⟩
  · cases hp
  rcases pp_bE h with ⟨p, hr, hp⟩ | ⟨v4, a4, hr4, h⟩
  · cases hp
  rcases pp_bE h with ⟨p, hr, hp⟩ | ⟨v5, a5, hr5, h⟩
  · cases hp
  cases h
  have e3 : tw a3 = tw a2 := by
    split at hr3
    · rcases pp_bE hr3 with ⟨p, hr, hp⟩ | ⟨v6, a6, hr6, h6⟩
      · cases hp
      · rw [pp_pt_tw h6, pp_tk_tw hr6]
    · cases hr3; rfl
  rw [pp_ex_tw hr5, pp_pt_tw hr4, e3, pp_pt_tw hr2, pp_ex_tw hr1]
theorem pp_pu_tw (h : pp_pu s = some (.inr (v, s1))) : tw s1 = tw s := by
  obtain ⟨pos, op, cc, tn, tl, wt, pn, r⟩ := s
  simp only [pp_pu] at h
  split at h
  · cases h; rfl
  · cases h
theorem pp_c_tw {C : pp_C} {j a b m x : Nat} (h : pp_c C j a b m x s = some (.inr (v, s1))) : tw s1 = tw s := by
  obtain ⟨pos, op, cc, tn, tl, wt, r⟩ := s
  simp only [pp_c] at h
  rcases pp_bE h with ⟨p, hr, hp⟩ | ⟨v, s3, hr, hk⟩
  · cases hp
  · obtain ⟨pos1, op1, cc1, tn1, tl1, wt1, r1⟩ := s3
    cases hk; rfl
end
/-- A task and what it leaves. -/
def rM (ts : List pp_T) (f2 : Int32) (f1 : Nat → Int32) (d : Nat) (a b : Int32) (pre : pp_S → Prop) (T' : rq_A) (g : Nat → rq_X → rq_X → Prop) (C : pp_S → pp_R Nat) : Prop :=
  ∀ (s : pp_S) (T : rq_A) (X : rq_X) (w : ja_w), pre s → rq ts f2 f1 ((a, b) :: T) X w s → T.length ≤ (tw s).1 → X.2.2.2.1.length ≤ (tw s).2 → ∀ x, C s = some x → rG d w (rO f2 f1 x (fun v s' w' => ∃ X', g v X X' ∧ rq ts f2 f1 (T' ++ T) X' w' s'))
abbrev gE (v : Nat) (X X' : rq_X) : Prop := X'.2.2.2.1 = X.2.2.2.1 ∧ X'.2.2.2.2 = nI v
abbrev g63 (_ : Nat) (X X' : rq_X) : Prop := X'.2.2.2.1 = X.2.2.2.1
abbrev any (_ : pp_S) : Prop := True
/-- a call answers only where there is room for tasks -/
def rC (C : pp_C) : Prop := ∀ j a b s x, C j a b s = some x → (tw s).1 + 20 ≤ 1200
theorem rC_b {C : pp_C} (hC : rC C) {α : Type} {j p q m n : Nat} {s : pp_S} {k : Nat → pp_S → pp_R α} {x : Nat ⊕ (α × pp_S)} (h : pp_b (pp_c C j p q m n s) k = some x) : (tw s).1 + m + 20 ≤ 1200 := by
  obtain ⟨pos, op, cc, tn, tl, wt, r⟩ := s
  have key : ∀ y, C j p q (pos, op, cc, tn, tl + m, wt + n, r) = some y → tl + m + 20 ≤ 1200 := fun y hy => hC _ _ _ _ _ hy
  cases hc : C j p q (pos, op, cc, tn, tl + m, wt + n, r) with
  | none =>
    have : pp_c C j p q m n (pos, op, cc, tn, tl, wt, r) = none := by simp only [pp_c, hc]; rfl
    rw [this] at h
    cases h
  | some y => exact key y hc
/-- What the calls inside do, among the expressions. -/
def rH (ts : List pp_T) (f2 : Int32) (f1 : Nat → Int32) (d : Nat) (C : pp_C) : Prop := rC C ∧
  rM ts f2 f1 d 22 0 any [] g63 (C 63 0 0) ∧ rM ts f2 f1 d 24 0 any [] gE (C 64 0 0) ∧ rM ts f2 f1 d 26 0 any [] gE (C 65 0 0) ∧ rM ts f2 f1 d 28 0 any [] gE (C 66 0 0) ∧
  rM ts f2 f1 d 33 0 any [] gE (C 71 0 0) ∧ rM ts f2 f1 d 34 0 (fun s => pp_at ts s = 91) [(34, 0)] (fun _ => gE 1) (C 72 0 0) ∧ rM ts f2 f1 d 34 0 (fun s => pp_at ts s = 40) [(34, 0)] (fun _ => gE 1) (C 73 0 0) ∧ rM ts f2 f1 d 33 0 any [(34, 0)] gE (C 74 0 0)
section
variable {ts : List pp_T} {f2 : Int32} {f1 : Nat → Int32} {d : Nat} {T : rq_A} {X : rq_X} {I A : ja_I} {J : ja_J} {s s1 : pp_S} {w : ja_w} {C : pp_C} {v : Nat}
theorem rM_c {a b : Int32} {pre : pp_S → Prop} {T' : rq_A} {g : Nat → rq_X → rq_X → Prop} {j p q m x : Nat} (h : rM ts f2 f1 d a b pre T' g (C j p q)) (hp : ∀ tl wt, pre (pq_pos s, pq_op s, pq_c s, pq_tn s, tl, wt, s.2.2.2.2.2.2)) (hw : rq ts f2 f1 ((a, b) :: T) X w s) (hT : T.length ≤ (tw s).1 + m) (hX : X.2.2.2.1.length ≤ (tw s).2 + x) {y : Nat ⊕ (Nat × pp_S)} (hy : pp_c C j p q m x s = some y) : rG d w (rO f2 f1 y (fun v s' w' => ∃ X', g v X X' ∧ rq ts f2 f1 (T' ++ T) X' w' s')) := by
  obtain ⟨pos, op, cc, tn, tl, wt, r⟩ := s
  simp only [pp_c] at hy
  rcases pp_bE hy with ⟨p', hr, hp'⟩ | ⟨v, s3, hr, hk⟩
  · subst hp'
    exact h (pos, op, cc, tn, tl + m, wt + x, r) T X w (hp _ _) hw hT hX _ hr
  · have := h (pos, op, cc, tn, tl + m, wt + x, r) T X w (hp _ _) hw hT hX _ hr
    obtain ⟨pos1, op1, cc1, tn1, tl1, wt1, r1⟩ := s3
    cases hk
    exact this
theorem rl_13t (hts : pp_ok ts) (hw : rq ts f2 f1 T X (I, A, J) s) {c : Int32} (h : rk (pp_at ts s) = c) : er_E (d + 1) 13 [.ref 0, .int c] (I, A, J) (.inl (some (.int 1))) (I, A, J) := by
  obtain ⟨z, hE, h1, h0⟩ := rl_13 (d := d) hts hw c
  rw [h1 h] at hE; exact hE
theorem rl_13f (hts : pp_ok ts) (hw : rq ts f2 f1 T X (I, A, J) s) {c : Int32} (h : ¬ rk (pp_at ts s) = c) : er_E (d + 1) 13 [.ref 0, .int c] (I, A, J) (.inl (some (.int 0))) (I, A, J) := by
  obtain ⟨z, hE, h1, h0⟩ := rl_13 (d := d) hts hw c
  rw [h0 h] at hE; exact hE
/-- EXPRESSION_MORE, three ways -/
theorem rt_23a (hts : pp_ok ts) {b : Int32} (hw : rq ts f2 f1 ((23, b) :: T) X (I, A, J) s) (hl : T.length < 1190) (hk : pp_at ts s = 60) (hx : pp_tk ts s = some (.inr (v, s1))) : rG (d + 3) (I, A, J) (fun w => rq ts f2 f1 ((24, 0) :: (36, 60) :: T) X w s1) := by
  have h0 := rq_pop hw
  have h1 := rq_tk h0 hx (by rw [hk]; rfl) (by rw [hk]; rfl)
  obtain ⟨I2, A2, J2, hE2, hw2⟩ := rl_11 (d := d) h1 (by omega) 36 60
  obtain ⟨I3, A3, J3, hE3, hw3⟩ := rl_11 (d := d) hw2 (by rw [List.length_cons]; omega) 24 0
  exact rt_23 hw ⟨I3, A3, J3, er_49 (r := (_, _)) ⟨1, _, _, _, rl_13t hts h0 (by rw [hk]; rfl), fun n => absurd n (by decide), fun _ => ⟨I2, A2, J2, hE2, I3, A3, J3, hE3, rfl⟩⟩, hw3⟩
theorem rt_23b (hts : pp_ok ts) {b st nm fs : Int32} {wl : List Int32} (hw : rq ts f2 f1 ((23, b) :: T) (st, nm, fs, wl, 1) (I, A, J) s) (hl : T.length < 1190) (hk : pp_at ts s = 61) (hx : pp_tk ts s = some (.inr (v, s1))) : rG (d + 3) (I, A, J) (fun w => rq ts f2 f1 ((22, 0) :: (36, 61) :: T) (st, nm, fs, wl, 1) w s1) := by
  have h0 := rq_pop hw
  have h1 := rq_tk h0 hx (by rw [hk]; rfl) (by rw [hk]; rfl)
  have e37 : (rpo I) 0 37 = 1 := h0.2.2.2.2.2.2.2.2.2.2.2.2.2.2.2
  obtain ⟨I2, A2, J2, hE2, hw2⟩ := rl_11 (d := d) h1 (by omega) 36 61
  obtain ⟨I3, A3, J3, hE3, hw3⟩ := rl_11 (d := d) hw2 (by rw [List.length_cons]; omega) 22 0
  exact rt_23 hw ⟨I3, A3, J3, er_49 (r := (_, _)) ⟨0, _, _, _, rl_13f hts h0 (by rw [hk]; decide), fun _ => ⟨1, _, _, _, rl_13t hts h0 (by rw [hk]; rfl), fun n => absurd n (by decide), fun _ => ⟨fun n => absurd (e37.symm.trans n) (by decide), fun _ => ⟨I2, A2, J2, hE2, I3, A3, J3, hE3, rfl⟩⟩⟩, fun n => absurd rfl n⟩, hw3⟩
theorem rt_23c (hts : pp_ok ts) {b : Int32} (hw : rq ts f2 f1 ((23, b) :: T) X (I, A, J) s) (hk : ¬ pp_at ts s = 60) (hk2 : ¬ (pp_at ts s = 61 ∧ ¬ X.2.2.2.2 = 0)) : rG (d + 3) (I, A, J) (fun w => rq ts f2 f1 T X w s) := by
  have h0 := rq_pop hw
  have e37 : (rpo I) 0 37 = X.2.2.2.2 := h0.2.2.2.2.2.2.2.2.2.2.2.2.2.2.2
  have n60 : ¬ rk (pp_at ts s) = 60 := fun c => hk ((rk_o (by decide) (by decide) (by decide) _).mp c)
  by_cases h61 : pp_at ts s = 61
  · have hp : X.2.2.2.2 = 0 := Decidable.byContradiction fun c => hk2 ⟨h61, c⟩
    exact rt_23 hw ⟨_, _, _, er_49 (r := (_, _)) ⟨0, _, _, _, rl_13f hts h0 n60, fun _ => ⟨1, _, _, _, rl_13t hts h0 (by rw [h61]; rfl), fun n => absurd n (by decide), fun _ => ⟨fun _ => rfl, fun n => absurd (e37.trans hp) n⟩⟩, fun n => absurd rfl n⟩, h0⟩
  · have n61 : ¬ rk (pp_at ts s) = 61 := fun c => h61 ((rk_o (by decide) (by decide) (by decide) _).mp c)
    exact rt_23 hw ⟨_, _, _, er_49 (r := (_, _)) ⟨0, _, _, _, rl_13f hts h0 n60, fun _ => ⟨0, _, _, _, rl_13f hts h0 n61, fun _ => rfl, fun n => absurd rfl n⟩, fun n => absurd rfl n⟩, h0⟩
/-- the assignments that wait are said -/
theorem rr_eq : ∀ (a : Nat) (s : pp_S) (X : rq_X) (w : ja_w), rq ts f2 f1 (List.replicate a (36, 61) ++ T) X w s → ∀ x, pp_pf (List.replicate a 61) s = some x → rG (d + 2) w (rO f2 f1 x (fun _ s' w' => ∃ X', g63 0 X X' ∧ rq ts f2 f1 T X' w' s'))
  | 0, s, X, w, hw, x, hx => by
    obtain ⟨I, A, J⟩ := w
    rw [List.replicate_zero, pp_pf_0r hw] at hx
    cases hx
    exact rG_0 ⟨X, rfl, hw⟩
  | a + 1, s, (st, nm, fs, wl, pl), w, hw, x, hx => by
    obtain ⟨I, A, J⟩ := w
    rw [List.replicate_succ, pp_pf_c] at hx
    have hw' : rq ts f2 f1 ((36, 61) :: (List.replicate a (36, 61) ++ T)) (st, nm, fs, wl, pl) (I, A, J) s := hw
    rcases pp_bE hx with ⟨p, hr, hp⟩ | ⟨v, s1, hr, hk⟩
    · exact absurd hr (pp_pf_n _ _ _)
    · refine rG_t (rt_36 (d := d) hw' hr) (fun w1 h1 => ?_)
      exact rr_eq a s1 _ w1 h1 x hk
end
