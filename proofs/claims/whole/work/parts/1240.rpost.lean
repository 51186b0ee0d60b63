section
variable {ts : List pp_T} {f2 : Int32} {f1 : Nat → Int32} {d : Nat} {T : rq_A} {X : rq_X} {I A : ja_I} {J : ja_J} {s s1 s2 s3 : pp_S} {w : ja_w} {C : pp_C} {v : Nat}
/-- writing and going on may change places -/
theorem pp_tk_pf {t : Nat} {l : List Int32} (h1 : pp_tk ts s1 = some (.inr (t, s2))) (h2 : pp_pf l s2 = some (.inr (v, s3))) : ∃ s', pp_pf l s1 = some (.inr (v, s')) ∧ pp_tk ts s' = some (.inr (t, s3)) := by
  obtain ⟨pos, op, cc, tn, tl, wt, pn, scs, sd, sig, frm, rl, mn, dc, fc⟩ := s1
  simp only [pp_tk] at h1
  repeat' split at h1
  all_goals first
    | (cases h1; done)
    | (cases h1
       simp only [pp_pf] at h2
       split at h2
       · rename_i hb
         cases h2
         refine ⟨(t, op, cc, tn, tl, wt, pn, scs, sd, sig, frm ++ l, rl, mn, dc, fc), ?_, ?_⟩
         · simp only [pp_pf]; rw [if_pos hb]
         · simp [pp_tk, *]; try omega
       · cases h2)
theorem rl_11n (hw : rq ts f2 f1 T X (I, A, J) s) (hl : T.length < 1190) (a b : Int32) : ∃ (I1 A1 : ja_I) (J1 : ja_J), er_E (d + 1) 11 [.ref 0, .int a, .int b] (I, A, J) (.inl none) (I1, A1, J1) ∧ rq ts f2 f1 ((a, b) :: T) X (I1, A1, J1) s := rl_11 hw (by omega) a b
/-- a place is noted -/
theorem rq_pl {st nm fs pl : Int32} {wl : List Int32} (hw : rq ts f2 f1 T (st, nm, fs, wl, pl) (I, A, J) s) (x : Int32) : rq ts f2 f1 T (st, nm, fs, wl, x) (ja_up I 0 37 x, A, J) s := by
  obtain ⟨hK, h0, hP, hT, hS, hN, hG, hF, hL, hX⟩ := hw
  exact ⟨hK, h0, hP, hT, hS, hN, hG, hF, hL, hX.1, hX.2.1, hX.2.2.1, hX.2.2.2.1, hX.2.2.2.2.1, hX.2.2.2.2.2.1, rfl⟩
/-- index: POSTFIX_MORE at '[' -/
theorem rr_72 (hts : pp_ok ts) (H : rH ts f2 f1 (d + 9) C) : rM ts f2 f1 (d + 9) 34 0 (fun s => (tw s).1 + 20 ≤ 1200 ∧ pp_at ts s = 91) [(34, 0)] (fun _ => gE 1) (pp_72 ts C) := by
  intro s T X w hs hw hT hX x hx
  obtain ⟨hs', hk⟩ := hs
  unfold pp_72 at hx
  obtain ⟨I, A, J⟩ := w
  have h0 := rq_pop hw
  obtain ⟨I1, A1, J1, hE1, hw1⟩ := rl_11 (d := d + 6) h0 (by omega) 34 0
  obtain ⟨I2, A2, J2, hE2, hw2⟩ := rl_11 (d := d + 6) hw1 (by rw [List.length_cons]; omega) 37 0
  obtain ⟨I3, A3, J3, hE3, hw3⟩ := rl_11 (d := d + 6) hw2 (by rw [List.length_cons, List.length_cons]; omega) 19 93
  obtain ⟨I4, A4, J4, hE4, hw4⟩ := rl_11 (d := d + 6) hw3 (by rw [List.length_cons, List.length_cons, List.length_cons]; omega) 18 93
  obtain ⟨I5, A5, J5, hE5, hw5⟩ := rl_11 (d := d + 6) hw4 (by rw [List.length_cons, List.length_cons, List.length_cons, List.length_cons]; omega) 22 0
  have step : ∀ y, pp_tk ts s = some y → rG (d + 9) (I, A, J) (rO f2 f1 y (fun _ s1 w' => rq ts f2 f1 ((22, 0) :: (18, 93) :: (19, 93) :: (37, 0) :: (34, 0) :: T) X w' s1)) := by
    intro y hy
    obtain ⟨I6, A6, J6, hE6, hw6⟩ := rl_15 (d := d + 5) hts hw5 (by rw [hk]; rfl) hy
    refine rt_34 hw ⟨I6, A6, J6, er_59 (r := (_, _)) ⟨1, _, _, _, rl_13t hts h0 (by rw [hk]; rfl), fun n => absurd n (by decide), fun _ => ⟨_, _, _, hE1, _, _, _, hE2, _, _, _, hE3, _, _, _, hE4, _, _, _, hE5, _, _, _, hE6, rfl⟩⟩, ?_⟩
    cases y with
    | inl p =>
      obtain ⟨rfl, e⟩ := hw6
      rw [e]
      exact (rb_of hw5).1
    | inr z => exact hw6
  have hx' : (pp_b (pp_tk ts s) fun _ s => pp_b (pp_c C 63 0 0 4 0 s) fun _ s => pp_b (pp_ex ts 93 s) fun _ s => pp_pf [93] s) = some x := by
    unfold pp_ex at hx
    rwa [if_pos (show pp_k ts (pq_pos s) = 91 from hk)] at hx
  refine rG_b hx' step (fun v1 s1 w1 hr1 h1 hx => ?_)
  have t1 := pp_tk_tw hr1
  refine rG_b hx (fun y hy => rM_c H.2.1 (fun _ _ => trivial) h1 (by rw [List.length_cons, List.length_cons, List.length_cons, List.length_cons, t1]; omega) (by rw [t1]; exact hX) hy) (fun v2 s2 w2 hr2 h2 hx => ?_)
  obtain ⟨⟨st, nm, fs, wl, pl⟩, hg, hw2⟩ := h2
  obtain ⟨I7, A7, J7⟩ := w2
  refine rG_b hx (fun y hy => rt_18s (d := d + 6) hts hw2 ⟨rfl, rfl, rfl⟩ hy) (fun v3 s3 w3 hr3 h3 hx => ?_)
  obtain ⟨I8, A8, J8⟩ := w3
  cases x with
  | inl p => exact absurd hx (pp_pf_n _ _ _)
  | inr z =>
    refine rG_t (rt_19s (d := d + 7) h3 hx) (fun w4 h4 => ?_)
    obtain ⟨I9, A9, J9⟩ := w4
    exact rG_m (rt_37 (d := d + 8) h4) (fun w5 h5 => ⟨(st, nm, fs, wl, 1), ⟨hg, rfl⟩, h5⟩)
/-- call: POSTFIX_MORE at '(' -/
theorem rn_28b {p a b c n : Nat} (hn : n < 1000) (hw : rb f2 f1 p (I, A, J)) (hb : rbn a b c (I, A, J)) (hl : c < 3990) : ∃ (I1 A1 : ja_I) (J1 : ja_J), er_E (d + 3) 27 [.ref 0, .int (nI n)] (I, A, J) (.inl none) (I1, A1, J1) ∧ rb f2 f1 p (I1, A1, J1) ∧ rbn a b (c + 3) (I1, A1, J1) := by
  have wk : ∀ {m : Nat} {w : ja_w}, m ≤ c + 3 → rbn a b m w → rbn a b (c + 3) w := fun hm h => ⟨h.1, h.2.1, h.2.2.elim fun k hk => ⟨k, hk.1, by omega⟩⟩
  by_cases h9 : n ≤ 9
  · obtain ⟨I1, A1, J1, hE1, hw1, hb1⟩ := rl_26b (d := d + 1) hw hb (by omega) (48 + nI n)
    exact ⟨I1, A1, J1, er_27 (r := (_, _)) ⟨fun _ => ⟨_, _, _, hE1, rfl⟩, fun n9 => absurd (nI_le (b := 9) (by omega) (by omega)) n9⟩, hw1, wk (by omega) hb1⟩
  · by_cases h99 : n ≤ 99
    · obtain ⟨I1, A1, J1, hE1, hw1, hb1⟩ := rl_26b (d := d) hw hb (by omega) (48 + ((nI n / 10) - (nI n / 10) / 10 * 10))
      obtain ⟨I2, A2, J2, hE2, hw2, hb2⟩ := rl_26b (d := d) hw1 hb1 (by omega) (48 + (nI n - nI n / 10 * 10))
      exact ⟨I2, A2, J2, er_27 (r := (_, _)) ⟨fun n9 => absurd n9 (nI_ge (a := 9) (by omega) (by omega)), fun _ => ⟨_, _, _, er_28 (r := (_, _)) ⟨fun _ => ⟨_, _, _, hE1, _, _, _, hE2, rfl⟩, fun n99 => absurd (nI_le (b := 99) (by omega) (by omega)) n99⟩, rfl⟩⟩, hw2, wk (by omega) hb2⟩
    · obtain ⟨I0, A0, J0, hE0, hw0, hb0⟩ := rl_26b (d := d) hw hb (by omega) (48 + (nI n / 100))
      obtain ⟨I1, A1, J1, hE1, hw1, hb1⟩ := rl_26b (d := d) hw0 hb0 (by omega) (48 + ((nI n / 10) - (nI n / 10) / 10 * 10))
      obtain ⟨I2, A2, J2, hE2, hw2, hb2⟩ := rl_26b (d := d) hw1 hb1 (by omega) (48 + (nI n - nI n / 10 * 10))
      exact ⟨I2, A2, J2, er_27 (r := (_, _)) ⟨fun n9 => absurd n9 (nI_ge (a := 9) (by omega) (by omega)), fun _ => ⟨_, _, _, er_28 (r := (_, _)) ⟨fun n99 => absurd n99 (nI_ge (a := 99) (by omega) (by omega)), fun _ => ⟨_, _, _, hE0, _, _, _, hE1, _, _, _, hE2, rfl⟩⟩, rfl⟩⟩, hw2, wk (by omega) hb2⟩
/-- ARGUMENTS at its end -/
theorem rt_35e (hts : pp_ok ts) {n : Nat} (hn : n ≤ 200) (hw : rq ts f2 f1 ((35, nI n) :: T) X (I, A, J) s) (hk : n = 0 ∨ ¬ pp_at ts s = 44) {x : Nat ⊕ (Nat × pp_S)} (hx : (pp_b (pp_ex ts 41 s) fun _ s => if n < 100 then pp_pf (40 :: (pp_dig n ++ [41])) s else none) = some x) : rG (d + 6) (I, A, J) (rO f2 f1 x (fun _ s1 w => rq ts f2 f1 T X w s1)) := by
  have h0 := rq_pop hw
  have main : ∀ F : ja_w → Prop, (∃ (I1 A1 : ja_I) (J1 : ja_J), er_E (d + 4) 16 [.ref 0, .int 41, .int 1] (rpo I, A, J) (.inl none) (I1, A1, J1) ∧ ∃ (I2 A2 : ja_I) (J2 : ja_J), er_E (d + 4) 26 [.ref 0, .int 40] (I1, A1, J1) (.inl none) (I2, A2, J2) ∧ ∃ (I3 A3 : ja_I) (J3 : ja_J), er_E (d + 4) 27 [.ref 0, .int (nI n)] (I2, A2, J2) (.inl none) (I3, A3, J3) ∧ ∃ (I4 A4 : ja_I) (J4 : ja_J), er_E (d + 4) 26 [.ref 0, .int 41] (I3, A3, J3) (.inl none) (I4, A4, J4) ∧ F (I4, A4, J4)) → rG (d + 6) (I, A, J) F := by
    rintro F ⟨I1, A1, J1, hE1, I2, A2, J2, hE2, I3, A3, J3, hE3, I4, A4, J4, hE4, hF⟩
    rcases n with _ | n
    · exact rt_35 hw ⟨I4, A4, J4, er_60 (r := (_, _)) ⟨fun _ => ⟨_, _, _, hE1, _, _, _, hE2, _, _, _, hE3, _, _, _, hE4, rfl⟩, fun c => absurd (by decide) c⟩, hF⟩
    · have n44 : ¬ rk (pp_at ts s) = 44 := fun c => by
        rcases hk with h | h
        · exact absurd h (by omega)
        · exact h ((rk_o (by decide) (by decide) (by decide) _).mp c)
      exact rt_35 hw ⟨I4, A4, J4, er_60 (r := (_, _)) ⟨fun c => absurd c (nI_nle (by omega) (by omega)), fun _ => ⟨0, _, _, _, rl_13f hts h0 n44, fun _ => ⟨_, _, _, hE1, _, _, _, hE2, _, _, _, hE3, _, _, _, hE4, rfl⟩, fun c => absurd rfl c⟩⟩, hF⟩
  rcases pp_bE hx with ⟨p, hr, hp⟩ | ⟨v1, s1, hr, hk1⟩
  · obtain ⟨I1, A1, J1, hE1, hw1⟩ := rl_16 (d := d + 2) hts h0 (k := 41) (f := 1) (Or.inl ⟨rfl, rfl, rfl⟩) rfl hr
    obtain ⟨rfl, e⟩ := hw1
    subst hp
    cases e
    obtain ⟨b0, n0⟩ := rb_of h0
    obtain ⟨I2, A2, J2, hE2, b2, n2⟩ := rl_26b (d := d + 3) b0 n0 (by omega) 40
    obtain ⟨I3, A3, J3, hE3, b3, n3⟩ := rn_28b (d := d + 1) (n := n) (by omega) b2 n2 (by omega)
    obtain ⟨I4, A4, J4, hE4, b4, n4⟩ := rl_26b (d := d + 3) b3 n3 (by omega) 41
    exact main _ ⟨_, _, _, hE1, _, _, _, hE2, _, _, _, hE3, _, _, _, hE4, b4⟩
  · obtain ⟨I1, A1, J1, hE1, hw1⟩ := rl_16 (d := d + 2) hts h0 (k := 41) (f := 1) (Or.inl ⟨rfl, rfl, rfl⟩) rfl hr
    split at hk1
    · rename_i hn100
      rw [pp_pf_c] at hk1
      rcases pp_bE hk1 with ⟨p, hr2, hp⟩ | ⟨v2, s2, hr2, hk2⟩
      · exact absurd hr2 (pp_pf_n _ _ _)
      · obtain ⟨I2, A2, J2, ⟨hE2, _⟩, hw2⟩ := rl_26 (d := d + 3) hw1 hr2
        rw [pp_pf_a] at hk2
        rcases pp_bE hk2 with ⟨p, hr3, hp⟩ | ⟨v3, s3, hr3, hk3⟩
        · exact absurd hr3 (pp_pf_n _ _ _)
        · obtain ⟨I3, A3, J3, hE3, hw3⟩ := rl_27 (d := d + 1) hw2 hn100 hr3
          cases x with
          | inl p => exact absurd hk3 (pp_pf_n _ _ _)
          | inr z =>
            obtain ⟨I4, A4, J4, ⟨hE4, _⟩, hw4⟩ := rl_26 (d := d + 3) hw3 hk3
            exact main _ ⟨_, _, _, hE1, _, _, _, hE2, _, _, _, hE3, _, _, _, hE4, hw4⟩
    · cases hk1
end
