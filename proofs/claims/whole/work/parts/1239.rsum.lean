section
variable {ts : List pp_T} {f2 : Int32} {f1 : Nat → Int32} {d : Nat} {T : rq_A} {X : rq_X} {I A : ja_I} {J : ja_J} {s s1 : pp_S} {w : ja_w} {C : pp_C} {v : Nat}
theorem rl_50t (hts : pp_ok ts) (hw : rq ts f2 f1 T X (I, A, J) s) (hl : T.length < 1190) {a0 a1 a2 a3 : Int32} (hk : rk (pp_at ts s) = a0 ∨ rk (pp_at ts s) = a1) (ho : pp_opens (pp_at ts s) = false) (hs : pp_shuts (pp_at ts s) = false) (hx : pp_tk ts s = some (.inr (v, s1))) : ∃ (I1 A1 : ja_I) (J1 : ja_J), er_E (d + 2) 50 [.ref 0, .int a0, .int a1, .int a2, .int a3] (I, A, J) (.inl none) (I1, A1, J1) ∧ rq ts f2 f1 ((a2, 0) :: (36, rk (pp_at ts s)) :: (a3, 0) :: T) X (I1, A1, J1) s1 := by
  have h160 := hts.1
  obtain ⟨I1, A1, J1, hE1, hw1⟩ := rl_11 (d := d) hw (by omega) a3 0
  have e9 : I1 0 9 = nI (pq_pos s) := hw1.2.2.1.1
  have lp : pq_pos s ≤ ts.length := hw1.2.2.1.2.1
  have ek : A1 2 (I1 0 9).toNatClampNeg = rk (pp_at ts s) := by
    rw [cn_cl e9 (by omega)]; exact hw1.1.2.1 _ lp
  have v161 : vp_in (I1 0 9) 161 := cn_in e9 (by omega) (by omega)
  obtain ⟨I2, A2, J2, hE2, hw2⟩ := rl_11 (d := d) hw1 (by rw [List.length_cons]; omega) 36 (rk (pp_at ts s))
  obtain ⟨I3, A3, J3, hE3, hw3⟩ := rl_11 (d := d) hw2 (by rw [List.length_cons, List.length_cons]; omega) a2 0
  have hw4 := rq_tk hw3 hx ho hs
  rw [← ek] at hE2
  by_cases h0 : rk (pp_at ts s) = a0
  · exact ⟨_, _, _, er_50 (r := (_, _)) ⟨1, _, _, _, rl_13t hts hw h0, fun n => absurd n (by decide), fun _ => ⟨I1, A1, J1, hE1, v161, I2, A2, J2, hE2, I3, A3, J3, hE3, rfl⟩⟩, hw4⟩
  · have h1 : rk (pp_at ts s) = a1 := by
      rcases hk with h | h
      · exact absurd h h0
      · exact h
    exact ⟨_, _, _, er_50 (r := (_, _)) ⟨0, _, _, _, rl_13f hts hw h0, fun _ => ⟨1, _, _, _, rl_13t hts hw h1, fun n => absurd n (by decide), fun _ => ⟨I1, A1, J1, hE1, v161, I2, A2, J2, hE2, I3, A3, J3, hE3, rfl⟩⟩, fun n => absurd rfl n⟩, hw4⟩
theorem rl_50f (hts : pp_ok ts) (hw : rq ts f2 f1 T X (I, A, J) s) {a0 a1 a2 a3 : Int32} (h0 : ¬ rk (pp_at ts s) = a0) (h1 : ¬ rk (pp_at ts s) = a1) : er_E (d + 2) 50 [.ref 0, .int a0, .int a1, .int a2, .int a3] (I, A, J) (.inl none) (I, A, J) :=
  er_50 (r := (_, _)) ⟨0, _, _, _, rl_13f hts hw h0, fun _ => ⟨0, _, _, _, rl_13f hts hw h1, fun _ => rfl, fun n => absurd rfl n⟩, fun n => absurd rfl n⟩
theorem rr_64l (hts : pp_ok ts) (H : rH ts f2 f1 (d + 9) C) : ∀ (m p : Nat) (s : pp_S) (X : rq_X) (w : ja_w), rq ts f2 f1 ((25, 0) :: T) X w s → X.2.2.2.2 = nI p → T.length ≤ (tw s).1 → X.2.2.2.1.length ≤ (tw s).2 → ∀ x, pp_w (fun _ s => some (pp_at ts s == 43 || pp_at ts s == 45)) (fun _ s => pp_b (pp_tk ts s) fun t s => pp_b (pp_c C 65 0 0 2 0 s) fun _ s => pp_b (pp_pf [pp_k ts t] s) fun _ s => pp_ret 0 s) m p s = some x → rG (d + 9) w (rO f2 f1 x (fun v s' w' => ∃ X', gE v X X' ∧ rq ts f2 f1 T X' w' s')) := by
  have fin : ∀ (p : Nat) (s : pp_S) (X : rq_X) (w : ja_w), rq ts f2 f1 ((25, 0) :: T) X w s → X.2.2.2.2 = nI p → (pp_at ts s == 43 || pp_at ts s == 45) = false → rG (d + 9) w (rO f2 f1 (.inr (p, s)) (fun v s' w' => ∃ X', gE v X X' ∧ rq ts f2 f1 T X' w' s')) := by
    intro p s X w hw hp hb
    obtain ⟨I, A, J⟩ := w
    simp at hb
    have h0 := rq_pop hw
    exact rt_25 hw ⟨_, _, _, rl_50f hts h0 (fun c => hb.1 ((rk_o (by decide) (by decide) (by decide) _).mp c)) (fun c => hb.2 ((rk_o (by decide) (by decide) (by decide) _).mp c)), X, ⟨rfl, hp⟩, h0⟩
  intro m
  induction m with
  | zero =>
    intro p s X w hw hp hT hX x hx
    simp only [pp_w] at hx
    cases hb : (pp_at ts s == 43 || pp_at ts s == 45) with
    | true => rw [hb] at hx; cases hx
    | false =>
      rw [hb] at hx
      cases hx
      exact fin p s X w hw hp hb
  | succ m ih =>
    intro p s X w hw hp hT hX x hx
    simp only [pp_w] at hx
    cases hb : (pp_at ts s == 43 || pp_at ts s == 45) with
    | false =>
      rw [hb] at hx
      cases hx
      exact fin p s X w hw hp hb
    | true =>
      rw [hb] at hx
      simp only at hx
      rw [pp_bb] at hx
      have hkk : pp_at ts s = 43 ∨ pp_at ts s = 45 := by simpa using hb
      have ho : pp_opens (pp_at ts s) = false := by rcases hkk with h | h <;> (rw [h]; rfl)
      have hs : pp_shuts (pp_at ts s) = false := by rcases hkk with h | h <;> (rw [h]; rfl)
      have hrk : rk (pp_at ts s) = pp_at ts s := by rcases hkk with h | h <;> (rw [h]; rfl)
      obtain ⟨I, A, J⟩ := w
      rcases pp_bE hx with ⟨p', hr, hp'⟩ | ⟨t, s1, hr, hk⟩
      · exact absurd hr (pp_tk_n ho)
      · have t1 := pp_tk_tw hr
        rw [pp_bb] at hk
        have hl := rC_b H.1 hk
        rw [t1] at hl
        obtain ⟨I1, A1, J1, hE1, hw1⟩ := rl_50t (d := d + 6) hts (rq_pop hw) (by omega) (a0 := 43) (a1 := 45) (a2 := 26) (a3 := 25) (by rw [hrk]; exact hkk) ho hs hr
        refine rG_t (rt_25 (G := fun w => rq ts f2 f1 ((26, 0) :: (36, rk (pp_at ts s)) :: (25, 0) :: T) X w s1) hw ⟨I1, A1, J1, hE1, hw1⟩) (fun w1 h1 => ?_)
        refine rG_b hk (fun y hy => rM_c H.2.2.2.1 (fun _ _ => trivial) h1 (by rw [List.length_cons, List.length_cons, t1]; omega) (by rw [t1]; exact hX) hy) (fun v2 s2 w2 hr2 h2 hk2 => ?_)
        obtain ⟨⟨st, nm, fs, wl, pl⟩, hg, hw2⟩ := h2
        rw [pp_bb, pp_tk_k hr] at hk2
        rw [hrk] at hw2
        obtain ⟨I2, A2, J2⟩ := w2
        rcases pp_bE hk2 with ⟨p', hr3, hp'⟩ | ⟨v3, s3, hr3, hk3⟩
        · exact absurd hr3 (pp_pf_n _ _ _)
        · refine rG_t (rt_36 (d := d + 7) hw2 hr3) (fun w3 h3 => ?_)
          have t2 := pp_c_tw hr2
          have t3 := pp_pf_tw hr3
          have hg1 : wl = X.2.2.2.1 := hg.1
          refine rG_m (ih 0 s3 _ w3 h3 rfl (by rw [t3, t2, t1]; exact hT) (by rw [t3, t2, t1]; show wl.length ≤ _; rw [hg1]; exact hX) x hk3) (fun w' h => ?_)
          cases x with
          | inl p => exact h
          | inr z =>
            obtain ⟨X'', g, h⟩ := h
            exact ⟨X'', ⟨g.1.trans hg.1, g.2⟩, h⟩
theorem rr_64 (hts : pp_ok ts) (H : rH ts f2 f1 (d + 9) C) : rM ts f2 f1 (d + 9) 24 0 (fun s => (tw s).1 + 20 ≤ 1200) [] gE (pp_64 ts C 65 43 45) := by
  intro s T X w hs hw hT hX x hx
  have hs' : (tw s).1 + 20 ≤ 1200 := hs
  unfold pp_64 at hx
  obtain ⟨I, A, J⟩ := w
  refine rG_t (rt_24 (d := d + 7) hw (by omega)) (fun w1 h1 => ?_)
  refine rG_b hx (fun y hy => rM_c H.2.2.2.1 (fun _ _ => trivial) h1 (by rw [List.length_cons]; omega) hX hy) (fun p s1 w2 hr h2 hk => ?_)
  obtain ⟨X', hg, hw2⟩ := h2
  unfold pp_01 at hk
  split at hk
  · rename_i hp
    have t1 := pp_c_tw hr
    refine rG_m (rr_64l (T := T) hts H 160 p s1 X' w2 hw2 hg.2 (by rw [t1]; exact hT) (by rw [t1, hg.1]; exact hX) x hk) (fun w' h => ?_)
    cases x with
    | inl p => exact h
    | inr z =>
      obtain ⟨X'', g, h⟩ := h
      exact ⟨X'', ⟨g.1.trans hg.1, g.2⟩, h⟩
  · cases hk
theorem rr_65l (hts : pp_ok ts) (H : rH ts f2 f1 (d + 9) C) : ∀ (m p : Nat) (s : pp_S) (X : rq_X) (w : ja_w), rq ts f2 f1 ((27, 0) :: T) X w s → X.2.2.2.2 = nI p → T.length ≤ (tw s).1 → X.2.2.2.1.length ≤ (tw s).2 → ∀ x, pp_w (fun _ s => some (pp_at ts s == 42 || pp_at ts s == 47)) (fun _ s => pp_b (pp_tk ts s) fun t s => pp_b (pp_c C 66 0 0 2 0 s) fun _ s => pp_b (pp_pf [pp_k ts t] s) fun _ s => pp_ret 0 s) m p s = some x → rG (d + 9) w (rO f2 f1 x (fun v s' w' => ∃ X', gE v X X' ∧ rq ts f2 f1 T X' w' s')) := by
  have fin : ∀ (p : Nat) (s : pp_S) (X : rq_X) (w : ja_w), rq ts f2 f1 ((27, 0) :: T) X w s → X.2.2.2.2 = nI p → (pp_at ts s == 42 || pp_at ts s == 47) = false → rG (d + 9) w (rO f2 f1 (.inr (p, s)) (fun v s' w' => ∃ X', gE v X X' ∧ rq ts f2 f1 T X' w' s')) := by
    intro p s X w hw hp hb
    obtain ⟨I, A, J⟩ := w
    simp at hb
    have h0 := rq_pop hw
    exact rt_27 hw ⟨_, _, _, rl_50f hts h0 (fun c => hb.1 ((rk_o (by decide) (by decide) (by decide) _).mp c)) (fun c => hb.2 ((rk_o (by decide) (by decide) (by decide) _).mp c)), X, ⟨rfl, hp⟩, h0⟩
  intro m
  induction m with
  | zero =>
    intro p s X w hw hp hT hX x hx
    simp only [pp_w] at hx
    cases hb : (pp_at ts s == 42 || pp_at ts s == 47) with
    | true => rw [hb] at hx; cases hx
    | false =>
      rw [hb] at hx
      cases hx
      exact fin p s X w hw hp hb
  | succ m ih =>
    intro p s X w hw hp hT hX x hx
    simp only [pp_w] at hx
    cases hb : (pp_at ts s == 42 || pp_at ts s == 47) with
    | false =>
      rw [hb] at hx
      cases hx
      exact fin p s X w hw hp hb
    | true =>
      rw [hb] at hx
      simp only at hx
      rw [pp_bb] at hx
      have hkk : pp_at ts s = 42 ∨ pp_at ts s = 47 := by simpa using hb
      have ho : pp_opens (pp_at ts s) = false := by rcases hkk with h | h <;> (rw [h]; rfl)
      have hs : pp_shuts (pp_at ts s) = false := by rcases hkk with h | h <;> (rw [h]; rfl)
      have hrk : rk (pp_at ts s) = pp_at ts s := by rcases hkk with h | h <;> (rw [h]; rfl)
      obtain ⟨I, A, J⟩ := w
      rcases pp_bE hx with ⟨p', hr, hp'⟩ | ⟨t, s1, hr, hk⟩
      · exact absurd hr (pp_tk_n ho)
      · have t1 := pp_tk_tw hr
        rw [pp_bb] at hk
        have hl := rC_b H.1 hk
        rw [t1] at hl
        obtain ⟨I1, A1, J1, hE1, hw1⟩ := rl_50t (d := d + 6) hts (rq_pop hw) (by omega) (a0 := 42) (a1 := 47) (a2 := 28) (a3 := 27) (by rw [hrk]; exact hkk) ho hs hr
        refine rG_t (rt_27 (G := fun w => rq ts f2 f1 ((28, 0) :: (36, rk (pp_at ts s)) :: (27, 0) :: T) X w s1) hw ⟨I1, A1, J1, hE1, hw1⟩) (fun w1 h1 => ?_)
        refine rG_b hk (fun y hy => rM_c H.2.2.2.2.1 (fun _ _ => trivial) h1 (by rw [List.length_cons, List.length_cons, t1]; omega) (by rw [t1]; exact hX) hy) (fun v2 s2 w2 hr2 h2 hk2 => ?_)
        obtain ⟨⟨st, nm, fs, wl, pl⟩, hg, hw2⟩ := h2
        rw [pp_bb, pp_tk_k hr] at hk2
        rw [hrk] at hw2
        obtain ⟨I2, A2, J2⟩ := w2
        rcases pp_bE hk2 with ⟨p', hr3, hp'⟩ | ⟨v3, s3, hr3, hk3⟩
        · exact absurd hr3 (pp_pf_n _ _ _)
        · refine rG_t (rt_36 (d := d + 7) hw2 hr3) (fun w3 h3 => ?_)
          have t2 := pp_c_tw hr2
          have t3 := pp_pf_tw hr3
          have hg1 : wl = X.2.2.2.1 := hg.1
          refine rG_m (ih 0 s3 _ w3 h3 rfl (by rw [t3, t2, t1]; exact hT) (by rw [t3, t2, t1]; show wl.length ≤ _; rw [hg1]; exact hX) x hk3) (fun w' h => ?_)
          cases x with
          | inl p => exact h
          | inr z =>
            obtain ⟨X'', g, h⟩ := h
            exact ⟨X'', ⟨g.1.trans hg.1, g.2⟩, h⟩
theorem rr_65 (hts : pp_ok ts) (H : rH ts f2 f1 (d + 9) C) : rM ts f2 f1 (d + 9) 26 0 (fun s => (tw s).1 + 20 ≤ 1200) [] gE (pp_64 ts C 66 42 47) := by
  intro s T X w hs hw hT hX x hx
  have hs' : (tw s).1 + 20 ≤ 1200 := hs
  unfold pp_64 at hx
  obtain ⟨I, A, J⟩ := w
  refine rG_t (rt_26 (d := d + 7) hw (by omega)) (fun w1 h1 => ?_)
  refine rG_b hx (fun y hy => rM_c H.2.2.2.2.1 (fun _ _ => trivial) h1 (by rw [List.length_cons]; omega) hX hy) (fun p s1 w2 hr h2 hk => ?_)
  obtain ⟨X', hg, hw2⟩ := h2
  unfold pp_01 at hk
  split at hk
  · rename_i hp
    have t1 := pp_c_tw hr
    refine rG_m (rr_65l (T := T) hts H 160 p s1 X' w2 hw2 hg.2 (by rw [t1]; exact hT) (by rw [t1, hg.1]; exact hX) x hk) (fun w' h => ?_)
    cases x with
    | inl p => exact h
    | inr z =>
      obtain ⟨X'', g, h⟩ := h
      exact ⟨X'', ⟨g.1.trans hg.1, g.2⟩, h⟩
  · cases hk
end
