/-- what the calls inside do, among the statements -/
def rS (ts : List pp_T) (f2 : Int32) (f1 : Nat → Int32) (d : Nat) (C : pp_C) : Prop :=
  rM ts f2 f1 d 17 0 any [] g63 (C 82 0 0) ∧ rM ts f2 f1 d 2 0 any [] g63 (C 78 0 0) ∧
  (∀ (q : Nat) (s s0 : pp_S) (b : Int32) (T : rq_A) (X : rq_X) (w : ja_w), pp_at ts s = 123 → ((b = nI q ∧ sr s0 s) ∨ (b = -1 ∧ ∃ s1, pp_ns s0 = some (.inr (q, s1)) ∧ sr s1 s)) → rq ts f2 f1 ((15, b) :: T) X w s0 → T.length ≤ (tw s).1 → X.2.2.2.1.length ≤ (tw s).2 → ∀ x, C 81 q 0 s = some x → rG d w (rO f2 f1 x (fun v s' w' => ∃ X', g63 v X X' ∧ rq ts f2 f1 T X' w' s')))
section
variable {ts : List pp_T} {f2 : Int32} {f1 : Nat → Int32} {d : Nat} {T : rq_A} {X : rq_X} {I A : ja_I} {J : ja_J} {s s' s1 s2 s3 : pp_S} {w : ja_w} {C C' : pp_C} {v : Nat}
/-- conditional -/
theorem rl_46 (hts : pp_ok ts) {c a : Int32} (hw : rq ts f2 f1 T X (I, A, J) s) (hl : T.length < 1190) (ho : pp_opens (pp_at ts s) = true) {x : Nat ⊕ (Nat × pp_S)} (hx : (pp_b (pp_tk ts s) fun _ s => pp_ex ts 40 s) = some x) : ∃ (I1 A1 : ja_I) (J1 : ja_J), er_E (d + 3) 46 [.ref 0, .int c, .int a] (I, A, J) (.inl none) (I1, A1, J1) ∧ rO f2 f1 x (fun _ s2 w => rq ts f2 f1 ((22, 0) :: (18, 41) :: (19, c) :: (17, 0) :: (a, 0) :: T) X w s2) (I1, A1, J1) := by
  have z1 : ∀ {p : Prop}, ((1 : Int32) = 0 → p) := fun h => absurd h (by decide)
  have z0 : ∀ {p : Prop}, (¬ (0 : Int32) = 0 → p) := fun h => absurd rfl h
  rcases pp_bE hx with ⟨p, hr, hp⟩ | ⟨t, s1, hr, hk⟩
  · obtain ⟨I3, A3, J3, hE3, hw3⟩ := rl_15 (d := d) hts hw ho hr
    obtain ⟨rfl, e⟩ := hw3
    subst hp
    cases e
    obtain ⟨b0, n0⟩ := rb_of hw
    obtain ⟨I1, A1, J1, hE1, b1, n1⟩ := rl_11b (d := d + 1) b0 n0 (by omega) a 0
    obtain ⟨I2, A2, J2, hE2, b2, n2⟩ := rl_11b (d := d + 1) b1 n1 (by omega) 17 0
    obtain ⟨I4, A4, J4, hE4, b4, n4⟩ := rl_11b (d := d + 1) b2 n2 (by omega) 19 c
    obtain ⟨I5, A5, J5, hE5, b5, n5⟩ := rl_11b (d := d + 1) b4 n4 (by omega) 18 41
    obtain ⟨I6, A6, J6, hE6, b6, n6⟩ := rl_11b (d := d + 1) b5 n5 (by omega) 22 0
    have n16 : ¬ I6 0 16 = 0 := fun e => absurd (b6.2.1.symm.trans e) (by decide)
    exact ⟨_, _, _, er_46 (r := (_, _)) ⟨_, _, _, hE3, _, _, _, hE1, _, _, _, hE2, _, _, _, hE4, _, _, _, hE5, _, _, _, hE6, fun e => absurd e n16, fun _ => ⟨fun e => absurd e n16, fun _ => rfl⟩⟩, b6⟩
  · obtain ⟨I3, A3, J3, hE3, hw3⟩ := rl_15 (d := d) hts hw ho hr
    have hw3' : rq ts f2 f1 T X (I3, A3, J3) s1 := hw3
    obtain ⟨I1, A1, J1, hE1, hw1⟩ := rl_11 (d := d + 1) hw3' (by omega) a 0
    obtain ⟨I2, A2, J2, hE2, hw2⟩ := rl_11 (d := d + 1) hw1 (by rw [List.length_cons]; omega) 17 0
    obtain ⟨I4, A4, J4, hE4, hw4⟩ := rl_11 (d := d + 1) hw2 (by rw [List.length_cons, List.length_cons]; omega) 19 c
    obtain ⟨I5, A5, J5, hE5, hw5⟩ := rl_11 (d := d + 1) hw4 (by rw [List.length_cons, List.length_cons, List.length_cons]; omega) 18 41
    obtain ⟨I6, A6, J6, hE6, hw6⟩ := rl_11 (d := d + 1) hw5 (by rw [List.length_cons, List.length_cons, List.length_cons, List.length_cons]; omega) 22 0
    have h16 : I6 0 16 = 0 := hw6.2.2.1.2.2.2.2
    unfold pp_ex at hk
    by_cases h40 : pp_at ts s1 = 40
    · rw [if_pos (show pp_k ts (pq_pos s1) = 40 from h40)] at hk
      obtain ⟨I7, A7, J7, hE7, hw7⟩ := rl_15 (d := d) hts hw6 (by rw [h40]; rfl) hk
      refine ⟨_, _, _, er_46 (r := (_, _)) ⟨_, _, _, hE3, _, _, _, hE1, _, _, _, hE2, _, _, _, hE4, _, _, _, hE5, _, _, _, hE6, fun _ => ⟨1, _, _, _, rl_13t hts hw6 (by rw [h40]; rfl), z1, fun _ => ⟨fun _ => ⟨_, _, _, hE7, rfl⟩, fun e => absurd h16 e⟩⟩, fun e => absurd h16 e⟩, ?_⟩
      cases x with
      | inl p =>
        obtain ⟨rfl, e⟩ := hw7
        cases e
        exact (rb_of hw6).1
      | inr z => exact hw7
    · rw [if_neg (show ¬ pp_k ts (pq_pos s1) = 40 from h40)] at hk
      cases hk
      have b0 := (rb_of hw6).1
      have n16 : ¬ (rbk I6) 0 16 = 0 := fun e => absurd (b0.2.1.symm.trans e) (by decide)
      exact ⟨_, _, _, er_46 (r := (_, _)) ⟨_, _, _, hE3, _, _, _, hE1, _, _, _, hE2, _, _, _, hE4, _, _, _, hE5, _, _, _, hE6, fun _ => ⟨0, _, _, _, rl_13f hts hw6 (rk_n h40), fun _ => ⟨_, _, _, rl_12, fun e => absurd e n16, fun _ => rfl⟩, z0⟩, fun e => absurd h16 e⟩, b0⟩
/-- what stands behind if or while, up to the statement's end -/
theorem rr_85 (hts : pp_ok ts) (H : rM ts f2 f1 (d + 9) 22 0 any [] g63 (C 63 0 0)) (HS : rM ts f2 f1 (d + 9) 17 0 any [] g63 (C 82 0 0)) {c : Nat} {a : Int32} {s2 : pp_S} (hw : rq ts f2 f1 ((22, 0) :: (18, 41) :: (19, nI c) :: (17, 0) :: (a, 0) :: T) X w s2) (hT : T.length ≤ (tw s2).1) (hX : X.2.2.2.1.length ≤ (tw s2).2) {k : Nat → pp_S → pp_R Nat} {x : Nat ⊕ (Nat × pp_S)} (hx : (pp_b (pp_c C 63 0 0 4 0 s2) fun _ s => pp_b (pp_ex ts 41 s) fun _ s => pp_b (pp_pf [Int32.ofNat c] s) fun _ s => pp_b (pp_c C 82 0 0 1 0 s) k) = some x) {G : ja_w → Prop}
    (bad : ∀ p w1, x = .inl p → rb f2 f1 p w1 → G w1)
    (good : ∀ (v : Nat) (s6 : pp_S) (X' : rq_X) (w1 : ja_w), tw s6 = tw s2 → X'.2.2.2.1 = X.2.2.2.1 → rq ts f2 f1 ((a, 0) :: T) X' w1 s6 → k v s6 = some x → rG (d + 9) w1 G) : rG (d + 9) w G := by
  have B : ∀ {y : Nat ⊕ (Nat × pp_S)} {g : Nat → pp_S → ja_w → Prop} {w0 : ja_w} {r : pp_R Nat} {k2 : Nat → pp_S → pp_R Nat}, pp_b r k2 = some x → (∀ y, r = some y → rG (d + 9) w0 (rO f2 f1 y g)) → (∀ v s1 w1, r = some (.inr (v, s1)) → g v s1 w1 → k2 v s1 = some x → rG (d + 9) w1 G) → rG (d + 9) w0 G := by
    intro y g w0 r k2 hb h1 h2
    rcases pp_bE hb with ⟨p, hr, hp⟩ | ⟨v, s1, hr, hk⟩
    · exact rG_m (h1 _ hr) (fun w1 h => bad p w1 hp h)
    · exact rG_t (h1 _ hr) (fun w1 h => h2 v s1 w1 hr h hk)
  refine B (y := .inl 0) hx (fun y hy => rM_c H (fun _ _ => trivial) hw (by rw [List.length_cons, List.length_cons, List.length_cons, List.length_cons]; omega) (by omega) hy) (fun v3 s3 w3 hr3 h3 hk3 => ?_)
  obtain ⟨X3, g3, hw3⟩ := h3
  have t3 := pp_c_tw hr3
  obtain ⟨I3, A3, J3⟩ := w3
  refine B (y := .inl 0) hk3 (fun y hy => rt_18s (d := d + 6) hts hw3 ⟨rfl, rfl, rfl⟩ hy) (fun v4 s4 w4 hr4 h4 hk4 => ?_)
  have t4 := pp_ex_tw hr4
  rcases pp_bE hk4 with ⟨p, hr5, hp⟩ | ⟨v5, s5, hr5, hk5⟩
  · exact absurd hr5 (pp_pf_n _ _ _)
  · obtain ⟨I4, A4, J4⟩ := w4
    refine rG_t (rt_19s (d := d + 7) h4 hr5) (fun w5 h5 => ?_)
    have t5 := pp_pf_tw hr5
    refine B (y := .inl 0) hk5 (fun y hy => rM_c HS (fun _ _ => trivial) h5 (by rw [List.length_cons, t5, t4, t3]; omega) (by rw [t5, t4, t3, g3]; omega) hy) (fun v6 s6 w6 hr6 h6 hk6 => ?_)
    obtain ⟨X6, g6, hw6⟩ := h6
    exact good v6 s6 X6 w6 (by rw [pp_c_tw hr6, t5, t4, t3]) (by rw [g6, g3]) hw6 hk6
theorem pp_cE {α : Type} {j a b m n : Nat} {k : Nat → pp_S → pp_R α} {x : Nat ⊕ (α × pp_S)} (h : pp_b (pp_c C j a b m n s) k = some x) : (∃ p, C j a b (sh m n s) = some (.inl p) ∧ x = .inl p) ∨ ∃ v s3 s4, C j a b (sh m n s) = some (.inr (v, s3)) ∧ sr s3 s4 ∧ tw s4 = tw s ∧ k v s4 = some x := by
  obtain ⟨pos, op, cc, tn, tl, wt, r⟩ := s
  simp only [pp_c] at h
  rw [pp_bb] at h
  rcases pp_bE h with ⟨p, hr, hp⟩ | ⟨v, s3, hr, hk⟩
  · exact Or.inl ⟨p, hr, hp⟩
  · obtain ⟨pos3, op3, cc3, tn3, tl3, wt3, r3⟩ := s3
    exact Or.inr ⟨v, _, (pos3, op3, cc3, tn3, tl, wt, r3), hr, ⟨rfl, rfl, rfl, rfl, rfl⟩, rfl, hk⟩
theorem pp_cR {j a b m n : Nat} {x : Nat ⊕ (Nat × pp_S)} (h : pp_c C j a b m n s = some x) : ∃ y, C j a b (sh m n s) = some y ∧ xr y x := by
  obtain ⟨pos, op, cc, tn, tl, wt, r⟩ := s
  simp only [pp_c] at h
  rcases pp_bE h with ⟨p, hr, hp⟩ | ⟨v, s3, hr, hk⟩
  · exact ⟨_, hr, Or.inl ⟨p, rfl, hp⟩⟩
  · obtain ⟨pos3, op3, cc3, tn3, tl3, wt3, r3⟩ := s3
    cases hk
    exact ⟨_, hr, Or.inr ⟨v, _, _, rfl, rfl, rfl, rfl, rfl, rfl, rfl⟩⟩
/-- an end at a state of another room -/
theorem rO_xr {x y : Nat ⊕ (Nat × pp_S)} {T' : rq_A} {P : rq_X → Prop} (h : xr y x) (hy : rO f2 f1 y (fun _ s' w' => ∃ X', P X' ∧ rq ts f2 f1 T' X' w' s') w) : rO f2 f1 x (fun _ s' w' => ∃ X', P X' ∧ rq ts f2 f1 T' X' w' s') w := by
  rcases h with ⟨p, rfl, rfl⟩ | ⟨v, s, s', rfl, rfl, h⟩
  · exact hy
  · obtain ⟨X', hp, hw⟩ := hy
    exact ⟨X', hp, rq_sr h hw⟩
theorem tw_sh {m n : Nat} : tw (sh m n s) = ((tw s).1 + m, (tw s).2 + n) := by
  obtain ⟨pos, op, cc, tn, tl, wt, r⟩ := s
  rfl
/-- pass of ';' and a word said -/
theorem rr_83 (hts : pp_ok ts) {c : Int32} (hw : rq ts f2 f1 ((39, 59) :: (19, c) :: T) X w s) {x : Nat ⊕ (Nat × pp_S)} (hx : pp_83 ts c s = some x) : rG (d + 9) w (rO f2 f1 x (fun v s' w' => ∃ X', g63 v X X' ∧ rq ts f2 f1 T X' w' s')) := by
  obtain ⟨I, A, J⟩ := w
  unfold pp_83 at hx
  refine rG_b hx (fun y hy => rt_39s (d := d + 6) hts hw ⟨rfl, rfl, rfl⟩ hy) (fun v1 s1 w1 hr1 h1 hk => ?_)
  obtain ⟨I1, A1, J1⟩ := w1
  cases x with
  | inl p => exact absurd hk (pp_pf_n _ _ _)
  | inr z => exact rG_m (rt_19s (d := d + 7) h1 hk) (fun w2 h2 => ⟨X, rfl, h2⟩)
/-- statement -/
theorem rr_82 {C'' : pp_C} (hts : pp_ok ts) (hC : rC C) (H : rM ts f2 f1 (d + 9) 22 0 any [] g63 (C 63 0 0)) (H' : rM ts f2 f1 (d + 9) 22 0 any [] g63 (C' 63 0 0)) (H'' : rM ts f2 f1 (d + 9) 22 0 any [] g63 (C'' 63 0 0)) (HS' : rM ts f2 f1 (d + 9) 17 0 any [] g63 (C' 82 0 0)) (HS'' : rM ts f2 f1 (d + 9) 17 0 any [] g63 (C'' 82 0 0))
    (HB : ∀ (q : Nat) (s s0 : pp_S) (b : Int32) (T : rq_A) (X : rq_X) (w : ja_w), pp_at ts s = 123 → ((b = nI q ∧ sr s0 s) ∨ (b = -1 ∧ ∃ s1, pp_ns s0 = some (.inr (q, s1)) ∧ sr s1 s)) → rq ts f2 f1 ((15, b) :: T) X w s0 → T.length ≤ (tw s).1 → X.2.2.2.1.length ≤ (tw s).2 → ∀ x, C 81 q 0 s = some x → rG (d + 9) w (rO f2 f1 x (fun v s' w' => ∃ X', g63 v X X' ∧ rq ts f2 f1 T X' w' s')))
    (h84 : ∀ s x, C 84 0 0 s = some x → pp_84 ts C' s = some x) (h85 : ∀ s x, C 85 37 0 s = some x → pp_85 ts C' 37 s = some x) (h85' : ∀ s x, C' 85 63 0 s = some x → pp_85 ts C'' 63 s = some x) : rM ts f2 f1 (d + 9) 17 0 (fun s => (tw s).1 + 20 ≤ 1200) [] g63 (pp_82 ts C) := by
  intro s T X w hs hw hT hX x hx
  have hs' : (tw s).1 + 20 ≤ 1200 := hs
  obtain ⟨I, A, J⟩ := w
  have h0 := rq_pop hw
  have row : ∀ (G : ja_w → Prop), (∃ y : ja_O × ja_w, (∃ (z1 : Int32) (I1 A1 : ja_I) (J1 : ja_J), er_E (d + 7) 13 [.ref 0, .int 123] (rpo I, A, J) (.inl (some (.int z1))) (I1, A1, J1) ∧ (((z1 = 0) → ∃ (z2 : Int32) (I2 A2 : ja_I) (J2 : ja_J), er_E (d + 7) 13 [.ref 0, .int 59] (I1, A1, J1) (.inl (some (.int z2))) (I2, A2, J2) ∧ (((z2 = 0) → ∃ (z3 : Int32) (I3 A3 : ja_I) (J3 : ja_J), er_E (d + 7) 13 [.ref 0, .int 8] (I2, A2, J2) (.inl (some (.int z3))) (I3, A3, J3) ∧ (((z3 = 0) → ∃ (z4 : Int32) (I4 A4 : ja_I) (J4 : ja_J), er_E (d + 7) 13 [.ref 0, .int 10] (I3, A3, J3) (.inl (some (.int z4))) (I4, A4, J4) ∧ (((z4 = 0) → ∃ (z5 : Int32) (I5 A5 : ja_I) (J5 : ja_J), er_E (d + 7) 13 [.ref 0, .int 11] (I4, A4, J4) (.inl (some (.int z5))) (I5, A5, J5) ∧ (((z5 = 0) → ∃ (I6 A6 : ja_I) (J6 : ja_J), er_E (d + 7) 11 [.ref 0, .int 19, .int 59] (I5, A5, J5) (.inl (none)) (I6, A6, J6) ∧ (∃ (I7 A7 : ja_I) (J7 : ja_J), er_E (d + 7) 11 [.ref 0, .int 39, .int 59] (I6, A6, J6) (.inl (none)) (I7, A7, J7) ∧ (∃ (I8 A8 : ja_I) (J8 : ja_J), er_E (d + 7) 11 [.ref 0, .int 22, .int 0] (I7, A7, J7) (.inl (none)) (I8, A8, J8) ∧ (y = (.inl none, (I8, A8, J8)))))) ∧ (¬ (z5 = 0) → ∃ (I9 A9 : ja_I) (J9 : ja_J), er_E (d + 7) 11 [.ref 0, .int 19, .int 94] ((ja_up I5 0 9 ((I5 0 9) + 1)), A5, J5) (.inl (none)) (I9, A9, J9) ∧ (∃ (I10 A10 : ja_I) (J10 : ja_J), er_E (d + 7) 11 [.ref 0, .int 39, .int 59] (I9, A9, J9) (.inl (none)) (I10, A10, J10) ∧ (∃ (z11 : Int32) (I11 A11 : ja_I) (J11 : ja_J), er_E (d + 7) 13 [.ref 0, .int 59] (I10, A10, J10) (.inl (some (.int z11))) (I11, A11, J11) ∧ (((z11 = 0) → ∃ (I12 A12 : ja_I) (J12 : ja_J), er_E (d + 7) 11 [.ref 0, .int 22, .int 0] (I11, A11, J11) (.inl (none)) (I12, A12, J12) ∧ (y = (.inl none, (I12, A12, J12)))) ∧ (¬ (z11 = 0) → y = (.inl none, (I11, A11, J11))))))))) ∧ (¬ (z4 = 0) → ∃ (I13 A13 : ja_I) (J13 : ja_J), er_E (d + 7) 46 [.ref 0, .int 37, .int 21] (I4, A4, J4) (.inl (none)) (I13, A13, J13) ∧ (y = (.inl none, (I13, A13, J13)))))) ∧ (¬ (z3 = 0) → ∃ (I14 A14 : ja_I) (J14 : ja_J), er_E (d + 7) 46 [.ref 0, .int 63, .int 20] (I3, A3, J3) (.inl (none)) (I14, A14, J14) ∧ (y = (.inl none, (I14, A14, J14)))))) ∧ (¬ (z2 = 0) → ∃ (I15 A15 : ja_I) (J15 : ja_J), er_E (d + 7) 26 [.ref 0, .int 59] ((ja_up I2 0 9 ((I2 0 9) + 1)), A2, J2) (.inl (none)) (I15, A15, J15) ∧ (y = (.inl none, (I15, A15, J15)))))) ∧ (¬ (z1 = 0) → ∃ (I16 A16 : ja_I) (J16 : ja_J), er_E (d + 7) 11 [.ref 0, .int 15, .int (-1)] (I1, A1, J1) (.inl (none)) (I16, A16, J16) ∧ (y = (.inl none, (I16, A16, J16)))))) ∧ rP G y) → rG (d + 9) (I, A, J) G := by
    intro G hG
    exact rt_17 (d := d + 8) hw (rP_of (G := G) (cg_j hG (fun y h => er_47 (r := y) h)))
  unfold pp_82 at hx
  by_cases h123 : pp_at ts s = 123
  · rw [if_pos h123] at hx
    rcases pp_bE hx with ⟨p, hr, hp⟩ | ⟨q, s1, hr, hk⟩
    · exact absurd hr pp_ns_n
    · obtain ⟨I1, A1, J1, hE1, hw1⟩ := rl_11 (d := d + 6) h0 (by omega) 15 (-1)
      refine rG_t (row (fun w => rq ts f2 f1 ((15, -1) :: T) X w s) (cg_I (rl_13t hts h0 (by rw [h123]; rfl)) (cg_f (by decide) (cg_V hE1 (cg_r ⟨rfl, hw1⟩))))) (fun w1 h1 => ?_)
      obtain ⟨y, hy, hxr⟩ := pp_cR hk
      have t1 := pp_ns_tw hr
      have a1 : pp_at ts s1 = pp_at ts s := by
        obtain ⟨pos, op, cc, tn, tl, wt, pn, scs, sd, sig, frm, rl, mn, dc, fc⟩ := s
        simp only [pp_ns] at hr
        split at hr
        · cases hr; rfl
        · cases hr
      refine rG_m (HB q _ s (-1) T X w1 ((sh_at (ts := ts)).1.trans (a1.trans h123)) (Or.inr ⟨rfl, s1, hr, sr_sh 0 0 s1⟩) h1 (by rw [tw_sh, t1]; exact hT) (by rw [tw_sh, t1]; exact hX) y hy) (fun w' h => rO_xr hxr h)
  · rw [if_neg h123] at hx
    have n123 := rk_n h123
    by_cases h59 : pp_at ts s = 59
    · rw [if_pos h59] at hx
      unfold pp_83 pp_ex at hx
      rw [if_pos (show pp_k ts (pq_pos s) = 59 from h59)] at hx
      rcases pp_bE hx with ⟨p, hr, hp⟩ | ⟨t, s1, hr, hk⟩
      · exact absurd hr (pp_tk_n (by rw [h59]; rfl))
      · have h1 := rq_tk h0 hr (by rw [h59]; rfl) (by rw [h59]; rfl)
        cases x with
        | inl p => exact absurd hk (pp_pf_n _ _ _)
        | inr z =>
          obtain ⟨I1, A1, J1, ⟨hE1, _⟩, hw1⟩ := rl_26 (d := d + 6) h1 hk
          exact row _ (cg_I (rl_13f hts h0 n123) (cg_t rfl (cg_I (rl_13t hts h0 (by rw [h59]; rfl)) (cg_f (by decide) (cg_V hE1 (cg_r ⟨rfl, X, rfl, hw1⟩))))))
    · rw [if_neg h59] at hx
      have n59 := rk_n h59
      by_cases h8 : pp_at ts s = 8
      · rw [if_pos h8] at hx
        obtain ⟨y, hy, hxr⟩ := pp_cR hx
        have hy' := h84 _ _ hy
        refine rG_m ?_ (fun w' h => rO_xr hxr h)
        unfold pp_84 pp_ex at hy'
        have a0 := (sh_at (ts := ts) (s := s) (m := 0) (n := 0)).1
        rw [if_pos (show pp_k ts (pq_pos (sh 0 0 s)) = 8 from a0.trans h8)] at hy'
        have hw0 : rq ts f2 f1 T X (rpo I, A, J) (sh 1 0 (sh 0 0 s)) := rq_sh (rq_sh h0)
        have a1 : pp_at ts (sh 1 0 (sh 0 0 s)) = 8 := (sh_at (ts := ts)).1.trans (a0.trans h8)
        rcases pp_bE hy' with ⟨p, hr, hp⟩ | ⟨t, s1, hr, hk⟩
        · have hsh : pp_tk ts (sh 1 0 (sh 0 0 s)) = some (.inl p) := by rw [pp_tk_sh, hr]; rfl
          obtain ⟨I1, A1, J1, hE1, hw1⟩ := rl_46 (d := d + 4) (c := 63) (a := 20) (x := .inl p) hts hw0 (by omega) (by rw [a1]; rfl) (by rw [hsh]; rfl)
          subst hp
          exact row _ (cg_I (rl_13f hts h0 n123) (cg_t rfl (cg_I (rl_13f hts h0 n59) (cg_t rfl (cg_I (rl_13t hts h0 (by rw [h8]; rfl)) (cg_f (by decide) (cg_V hE1 (cg_r ⟨rfl, hw1⟩))))))))
        · have hsh : pp_tk ts (sh 1 0 (sh 0 0 s)) = some (.inr (t, sh 1 0 s1)) := by rw [pp_tk_sh, hr]; rfl
          have t1 : tw s1 = tw s := by rw [pp_tk_tw hr, tw_sh]; rfl
          -- the conditional
          have cond : ∀ y2, C' 85 63 0 (sh 1 0 s1) = some y2 → ∀ G : ja_w → Prop, (∀ p w1, y2 = .inl p → rb f2 f1 p w1 → G w1) → (∀ (s6 s7 : pp_S) (X' : rq_X) (w1 : ja_w) (v6 : Nat), tw s6 = tw (sh 1 0 s1) → X'.2.2.2.1 = X.2.2.2.1 → rq ts f2 f1 ((20, 0) :: T) X' w1 s6 → pp_es s6 = some (.inr (v6, s7)) → y2 = .inr (v6, s7) → rG (d + 9) w1 G) → rG (d + 9) (I, A, J) G := by
            intro y2 hy2 G bad good
            have h5 := h85' _ _ hy2
            unfold pp_85 at h5
            rcases pp_bE h5 with ⟨p, hr2, hp2⟩ | ⟨t2, s2, hr2, hk2⟩
            · obtain ⟨I1, A1, J1, hE1, hw1⟩ := rl_46 (d := d + 4) (c := 63) (a := 20) (x := .inl p) hts hw0 (by omega) (by rw [a1]; rfl) (by rw [hsh]; exact hr2)
              exact row _ (cg_I (rl_13f hts h0 n123) (cg_t rfl (cg_I (rl_13f hts h0 n59) (cg_t rfl (cg_I (rl_13t hts h0 (by rw [h8]; rfl)) (cg_f (by decide) (cg_V hE1 (cg_r ⟨rfl, bad p _ hp2 hw1⟩))))))))
            · obtain ⟨I1, A1, J1, hE1, hw1⟩ := rl_46 (d := d + 4) (c := 63) (a := 20) (x := .inr (t2, s2)) hts hw0 (by omega) (by rw [a1]; rfl) (by rw [hsh]; exact hr2)
              have t2' := pp_ex_tw hr2
              refine rG_t (row (fun w => rq ts f2 f1 ((22, 0) :: (18, 41) :: (19, 63) :: (17, 0) :: (20, 0) :: T) X w s2) (cg_I (rl_13f hts h0 n123) (cg_t rfl (cg_I (rl_13f hts h0 n59) (cg_t rfl (cg_I (rl_13t hts h0 (by rw [h8]; rfl)) (cg_f (by decide) (cg_V hE1 (cg_r ⟨rfl, hw1⟩))))))))) (fun w2 h2 => ?_)
              refine rr_85 (T := T) (c := 63) (a := 20) hts H'' HS'' h2 (by rw [t2', tw_sh, t1]; show T.length ≤ (tw s).1 + 1; omega) (by rw [t2', tw_sh, t1]; show X.2.2.2.1.length ≤ (tw s).2 + 0; omega) hk2 bad (fun v6 s6 X' w6 ht hXw hw6 hk6 => ?_)
              cases y2 with
              | inl p =>
                obtain ⟨pos, op, cc, tn, tl, wt, pn, scs, sd, sig, frm, rl, mn, dc, fc⟩ := s6
                simp only [pp_es] at hk6
                split at hk6 <;> cases hk6
              | inr z => exact good s6 z.2 X' w6 z.1 (by rw [ht, t2']) hXw hw6 hk6 rfl
          rcases pp_cE hk with ⟨p, hc, hp⟩ | ⟨v3, s3, s4, hc, h34, t4, hk4⟩
          · subst hp
            exact cond _ hc _ (fun p' w1 e h => by cases e; exact h) (fun s6 s7 X' w1 v6 _ _ _ _ e => by cases e)
          · refine cond _ hc _ (fun p' w1 e h => by cases e) (fun s6 s7 X' w1 v6 ht hXw hw6 hes e => ?_)
            cases e
            -- IF_END
            obtain ⟨I6, A6, J6⟩ := w1
            have h60 := rq_pop hw6
            have hw7 : rq ts f2 f1 T X' (ja_up (rpo I6) 0 15 ((rpo I6) 0 15 - 1), A6, J6) s3 := by
              obtain ⟨pos, op, cc, tn, tl, wt, pn, scs, sd, sig, frm, rl, mn, dc, fc⟩ := s6
              simp only [pp_es] at hes
              split at hes
              · cases hes
              · rename_i h8
                cases hes
                obtain ⟨hK, h0, hP, hR⟩ := h60
                have e : (rpo I6) 0 15 = nI op := hP.2.2.1
                have l : op ≤ 8 := hP.2.2.2.1
                refine ⟨hK, h0, ⟨hP.1, hP.2.1, ?_, by show op - 1 ≤ 8; omega, hP.2.2.2.2⟩, hR⟩
                show (rpo I6) 0 15 - 1 = nI (op - 1)
                rw [e]
                obtain ⟨o, rfl⟩ : ∃ o, op = o + 1 := ⟨op - 1, by omega⟩
                exact nI_pred o
            have hw8 := rq_sr h34 hw7
            have e4 : tw s4 = tw s := by rw [t4, t1]
            by_cases h9 : pp_at ts s4 = 9
            · rw [if_pos h9] at hk4
              rcases pp_bE hk4 with ⟨p, hr5, hp⟩ | ⟨t5, s5, hr5, hk5⟩
              · obtain ⟨I7, A7, J7, hE7, hw9⟩ := rl_15 (d := d + 5) hts hw8 (by rw [h9]; rfl) hr5
                obtain ⟨rfl, e⟩ := hw9
                subst hp
                cases e
                obtain ⟨b0, n0⟩ := rb_of hw8
                obtain ⟨I1, A1, J1, hE1, b1, n1⟩ := rl_26b (d := d + 6) b0 n0 (by omega) 58
                obtain ⟨I2, A2, J2, hE2, b2, n2⟩ := rl_11b (d := d + 6) b1 n1 (by omega) 21 0
                obtain ⟨I3, A3, J3, hE3, b3, n3⟩ := rl_11b (d := d + 6) b2 n2 (by omega) 17 0
                exact rt_20 (d := d + 8) hw6 ⟨_, _, _, er_48 (r := (_, _)) ⟨1, _, _, _, rl_13t hts hw8 (by rw [h9]; rfl), fun e => absurd e (by decide), fun _ => ⟨_, _, _, hE7, _, _, _, hE1, _, _, _, hE2, _, _, _, hE3, rfl⟩⟩, b3⟩
              · obtain ⟨I7, A7, J7, hE7, hw9⟩ := rl_15 (d := d + 5) hts hw8 (by rw [h9]; rfl) hr5
                have hw9' : rq ts f2 f1 T X' (I7, A7, J7) s5 := hw9
                have t5' := pp_tk_tw hr5
                rcases pp_bE hk5 with ⟨p, hr6, hp⟩ | ⟨v6', s8, hr6, hk6⟩
                · exact absurd hr6 (pp_pf_n _ _ _)
                · obtain ⟨I1, A1, J1, ⟨hE1, _⟩, hw10⟩ := rl_26 (d := d + 6) hw9' hr6
                  obtain ⟨I2, A2, J2, hE2, hw11⟩ := rl_11 (d := d + 6) hw10 (by omega) 21 0
                  obtain ⟨I3, A3, J3, hE3, hw12⟩ := rl_11 (d := d + 6) hw11 (by rw [List.length_cons]; omega) 17 0
                  refine rG_t (rt_20 (d := d + 8) (G := fun w => rq ts f2 f1 ((17, 0) :: (21, 0) :: T) X' w s8) hw6 ⟨_, _, _, er_48 (r := (_, _)) ⟨1, _, _, _, rl_13t hts hw8 (by rw [h9]; rfl), fun e => absurd e (by decide), fun _ => ⟨_, _, _, hE7, _, _, _, hE1, _, _, _, hE2, _, _, _, hE3, rfl⟩⟩, hw12⟩) (fun w9 h9' => ?_)
                  have t8 : tw s8 = tw s := by rw [pp_pf_tw hr6, t5', e4]
                  refine rG_b hk6 (fun y hy => rM_c HS' (fun _ _ => trivial) h9' (by rw [List.length_cons, t8]; omega) (by rw [t8, hXw]; omega) hy) (fun v10 s10 w10 hr10 h10 hk10 => ?_)
                  obtain ⟨X10, g10, hw13⟩ := h10
                  obtain ⟨I9, A9, J9⟩ := w10
                  cases y with
                  | inl p =>
                    obtain ⟨pos, op, cc, tn, tl, wt, pn, scs, sd, sig, frm, rl, mn, dc, fc⟩ := s10
                    simp only [pp_es] at hk10
                    split at hk10 <;> cases hk10
                  | inr z => exact rG_m (rt_21 (d := d + 8) hw13 hk10) (fun w' h => ⟨X10, by rw [g10, hXw], h⟩)
            · rw [if_neg h9] at hk4
              cases hk4
              exact rt_20 (d := d + 8) hw6 ⟨_, _, _, er_48 (r := (_, _)) ⟨0, _, _, _, rl_13f hts hw8 (rk_n h9), fun _ => rfl, fun e => absurd rfl e⟩, X', hXw, hw8⟩
      · rw [if_neg h8] at hx
        have n8 := rk_n h8
        by_cases h10 : pp_at ts s = 10
        · rw [if_pos h10] at hx
          have hw0 : rq ts f2 f1 T X (rpo I, A, J) (sh 1 0 s) := rq_sh h0
          have a1 : pp_at ts (sh 1 0 s) = 10 := (sh_at (ts := ts)).1.trans h10
          rcases pp_bE hx with ⟨p, hr, hp⟩ | ⟨t, s1, hr, hk⟩
          · have hsh : pp_tk ts (sh 1 0 s) = some (.inl p) := by rw [pp_tk_sh, hr]; rfl
            obtain ⟨I1, A1, J1, hE1, hw1⟩ := rl_46 (d := d + 4) (c := 37) (a := 21) (x := .inl p) hts hw0 (by omega) (by rw [a1]; rfl) (by rw [hsh]; rfl)
            subst hp
            exact row _ (cg_I (rl_13f hts h0 n123) (cg_t rfl (cg_I (rl_13f hts h0 n59) (cg_t rfl (cg_I (rl_13f hts h0 n8) (cg_t rfl (cg_I (rl_13t hts h0 (by rw [h10]; rfl)) (cg_f (by decide) (cg_V hE1 (cg_r ⟨rfl, hw1⟩))))))))))
          · have hsh : pp_tk ts (sh 1 0 s) = some (.inr (t, sh 1 0 s1)) := by rw [pp_tk_sh, hr]; rfl
            have t1 := pp_tk_tw hr
            obtain ⟨y, hy, hxr⟩ := pp_cR hk
            have h5 := h85 _ _ hy
            refine rG_m ?_ (fun w' h => rO_xr hxr h)
            unfold pp_85 at h5
            rcases pp_bE h5 with ⟨p, hr2, hp2⟩ | ⟨t2, s2, hr2, hk2⟩
            · obtain ⟨I1, A1, J1, hE1, hw1⟩ := rl_46 (d := d + 4) (c := 37) (a := 21) (x := .inl p) hts hw0 (by omega) (by rw [a1]; rfl) (by rw [hsh]; exact hr2)
              subst hp2
              exact row _ (cg_I (rl_13f hts h0 n123) (cg_t rfl (cg_I (rl_13f hts h0 n59) (cg_t rfl (cg_I (rl_13f hts h0 n8) (cg_t rfl (cg_I (rl_13t hts h0 (by rw [h10]; rfl)) (cg_f (by decide) (cg_V hE1 (cg_r ⟨rfl, hw1⟩))))))))))
            · obtain ⟨I1, A1, J1, hE1, hw1⟩ := rl_46 (d := d + 4) (c := 37) (a := 21) (x := .inr (t2, s2)) hts hw0 (by omega) (by rw [a1]; rfl) (by rw [hsh]; exact hr2)
              have t2' := pp_ex_tw hr2
              refine rG_t (row (fun w => rq ts f2 f1 ((22, 0) :: (18, 41) :: (19, 37) :: (17, 0) :: (21, 0) :: T) X w s2) (cg_I (rl_13f hts h0 n123) (cg_t rfl (cg_I (rl_13f hts h0 n59) (cg_t rfl (cg_I (rl_13f hts h0 n8) (cg_t rfl (cg_I (rl_13t hts h0 (by rw [h10]; rfl)) (cg_f (by decide) (cg_V hE1 (cg_r ⟨rfl, hw1⟩))))))))))) (fun w2 h2 => ?_)
              refine rr_85 (T := T) (c := 37) (a := 21) hts H' HS' h2 (by rw [t2', tw_sh, t1]; show T.length ≤ (tw s).1 + 1; omega) (by rw [t2', tw_sh, t1]; show X.2.2.2.1.length ≤ (tw s).2 + 0; omega) hk2 (fun p w1 e h => by rw [e]; exact h) (fun v6 s6 X' w6 ht hXw hw6 hk6 => ?_)
              obtain ⟨I6, A6, J6⟩ := w6
              cases y with
              | inl p =>
                obtain ⟨pos, op, cc, tn, tl, wt, pn, scs, sd, sig, frm, rl, mn, dc, fc⟩ := s6
                simp only [pp_es] at hk6
                split at hk6 <;> cases hk6
              | inr z => exact rG_m (rt_21 (d := d + 8) hw6 hk6) (fun w' h => ⟨X', hXw, h⟩)
        · rw [if_neg h10] at hx
          have n10 := rk_n h10
          by_cases h11 : pp_at ts s = 11
          · rw [if_pos h11] at hx
            rcases pp_bE hx with ⟨p, hr, hp⟩ | ⟨t, s1, hr, hk⟩
            · exact absurd hr (pp_tk_n (by rw [h11]; rfl))
            · have h1 := rq_tk h0 hr (by rw [h11]; rfl) (by rw [h11]; rfl)
              have t1 := pp_tk_tw hr
              obtain ⟨I1, A1, J1, hE1, hw1⟩ := rl_11 (d := d + 6) h1 (by omega) 19 94
              obtain ⟨I2, A2, J2, hE2, hw2⟩ := rl_11 (d := d + 6) hw1 (by rw [List.length_cons]; omega) 39 59
              by_cases h : pp_at ts s1 = 59
              · rw [if_pos h] at hk
                refine rG_t (row (fun w => rq ts f2 f1 ((39, 59) :: (19, 94) :: T) X w s1) (cg_I (rl_13f hts h0 n123) (cg_t rfl (cg_I (rl_13f hts h0 n59) (cg_t rfl (cg_I (rl_13f hts h0 n8) (cg_t rfl (cg_I (rl_13f hts h0 n10) (cg_t rfl (cg_I (rl_13t hts h0 (by rw [h11]; rfl)) (cg_f (by decide) (cg_V hE1 (cg_V hE2 (cg_I (rl_13t hts hw2 (by rw [h]; rfl)) (cg_f (by decide) (cg_r ⟨rfl, hw2⟩)))))))))))))))) (fun w1 h1 => ?_)
                exact rr_83 hts h1 hk
              · rw [if_neg h] at hk
                obtain ⟨I3, A3, J3, hE3, hw3⟩ := rl_11 (d := d + 6) hw2 (by rw [List.length_cons, List.length_cons]; omega) 22 0
                refine rG_t (row (fun w => rq ts f2 f1 ((22, 0) :: (39, 59) :: (19, 94) :: T) X w s1) (cg_I (rl_13f hts h0 n123) (cg_t rfl (cg_I (rl_13f hts h0 n59) (cg_t rfl (cg_I (rl_13f hts h0 n8) (cg_t rfl (cg_I (rl_13f hts h0 n10) (cg_t rfl (cg_I (rl_13t hts h0 (by rw [h11]; rfl)) (cg_f (by decide) (cg_V hE1 (cg_V hE2 (cg_I (rl_13f hts hw2 (rk_n h)) (cg_t rfl (cg_V hE3 (cg_r ⟨rfl, hw3⟩))))))))))))))))) (fun w1 h1 => ?_)
                refine rG_b hk (fun y hy => rM_c H (fun _ _ => trivial) h1 (by rw [List.length_cons, List.length_cons, t1]; omega) (by rw [t1]; omega) hy) (fun v2 s2 w2 hr2 h2 hk2 => ?_)
                obtain ⟨X2, g2, hw4⟩ := h2
                refine rG_m (rr_83 hts hw4 hk2) (fun w' h => ?_)
                cases x with
                | inl p => exact h
                | inr z =>
                  obtain ⟨X3, g3, h⟩ := h
                  exact ⟨X3, g3.trans g2, h⟩
          · rw [if_neg h11] at hx
            have n11 := rk_n h11
            obtain ⟨I1, A1, J1, hE1, hw1⟩ := rl_11 (d := d + 6) h0 (by omega) 19 59
            obtain ⟨I2, A2, J2, hE2, hw2⟩ := rl_11 (d := d + 6) hw1 (by rw [List.length_cons]; omega) 39 59
            obtain ⟨I3, A3, J3, hE3, hw3⟩ := rl_11 (d := d + 6) hw2 (by rw [List.length_cons, List.length_cons]; omega) 22 0
            refine rG_t (row (fun w => rq ts f2 f1 ((22, 0) :: (39, 59) :: (19, 59) :: T) X w s) (cg_I (rl_13f hts h0 n123) (cg_t rfl (cg_I (rl_13f hts h0 n59) (cg_t rfl (cg_I (rl_13f hts h0 n8) (cg_t rfl (cg_I (rl_13f hts h0 n10) (cg_t rfl (cg_I (rl_13f hts h0 n11) (cg_t rfl (cg_V hE1 (cg_V hE2 (cg_V hE3 (cg_r ⟨rfl, hw3⟩))))))))))))))) (fun w1 h1 => ?_)
            refine rG_b hx (fun y hy => rM_c H (fun _ _ => trivial) h1 (by rw [List.length_cons, List.length_cons]; omega) (by omega) hy) (fun v2 s2 w2 hr2 h2 hk2 => ?_)
            obtain ⟨X2, g2, hw4⟩ := h2
            refine rG_m (rr_83 hts hw4 hk2) (fun w' h => ?_)
            cases x with
            | inl p => exact h
            | inr z =>
              obtain ⟨X3, g3, h⟩ := h
              exact ⟨X3, g3.trans g2, h⟩
end
