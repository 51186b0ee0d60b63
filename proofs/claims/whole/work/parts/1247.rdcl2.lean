section
variable {ts : List pp_T} {f2 : Int32} {f1 : Nat → Int32} {d : Nat} {T : rq_A} {X : rq_X} {I A : ja_I} {J : ja_J} {s s1 s2 s3 : pp_S} {w : ja_w} {C C' : pp_C} {v : Nat}
/-- the stars at the head of a declarator -/
theorem rl_37l (hts : pp_ok ts) {E : ja_C} {m : Int32} : ∀ (k a : Nat) (s : pp_S) (I A : ja_I) (J : ja_J), E = er_E (d + 6) → rq ts f2 f1 T X (I, A, J) s → ∀ x, pp_w (fun _ s => some (pp_at ts s == 42)) (fun a s => pp_b (pp_tk ts s) fun _ s => pp_ret (a + 1) s) k a s = some x → ∃ n s1 I1 A1 J1, x = .inr (n, s1) ∧ n ≤ a + k ∧ tw s1 = tw s ∧ ¬ pp_at ts s1 = 42 ∧ rq ts f2 f1 T X (I1, A1, J1) s1 ∧ ∀ r, ja_R (ja_code tr_37) E r 2 [some (.ref 0), some (.int m), some (.int (nI n))] [] (I1, A1, J1) → ja_R (ja_code tr_37) E r 2 [some (.ref 0), some (.int m), some (.int (nI a))] [] (I, A, J) := by
  intro k
  induction k with
  | zero =>
    intro a s I A J hE hw x hx
    simp only [pp_w] at hx
    cases hb : (pp_at ts s == 42) with
    | true => rw [hb] at hx; cases hx
    | false =>
      rw [hb] at hx
      cases hx
      exact ⟨a, s, I, A, J, rfl, by omega, rfl, fun c => by rw [c] at hb; exact absurd hb (by decide), hw, fun _ h => h⟩
  | succ k ih =>
    intro a s I A J hE hw x hx
    simp only [pp_w] at hx
    cases hb : (pp_at ts s == 42) with
    | false =>
      rw [hb] at hx
      cases hx
      exact ⟨a, s, I, A, J, rfl, by omega, rfl, fun c => by rw [c] at hb; exact absurd hb (by decide), hw, fun _ h => h⟩
    | true =>
      rw [hb] at hx
      simp only at hx
      rw [pp_bb] at hx
      have h42 : pp_at ts s = 42 := eq_of_beq hb
      rcases pp_bE hx with ⟨p', hr, hp'⟩ | ⟨t, s1, hr, hk⟩
      · exact absurd hr (pp_tk_n (by rw [h42]; rfl))
      · have h1 := rq_tk hw hr (by rw [h42]; rfl) (by rw [h42]; rfl)
        obtain ⟨n, s2, I2, A2, J2, e, l, t2, n42, hw2, hrow⟩ := ih (a + 1) s1 _ _ _ hE h1 x hk
        refine ⟨n, s2, I2, A2, J2, e, by omega, by rw [t2, pp_tk_tw hr], n42, hw2, fun r h => ?_⟩
        have h' := hrow r h
        rw [← nI_1] at h'
        subst hE
        exact br_37_2 ⟨1, _, _, _, rl_13t hts hw (by rw [h42]; rfl), fun n => absurd n (by decide), fun _ => h'⟩
/-- isGroup -/
theorem rl_36 (hts : pp_ok ts) (hw : rq ts f2 f1 T X (I, A, J) s) {m : Nat} (hm : m ≤ 2) (h40 : pp_at ts s = 40) {b : Bool} (hb : pp_59 ts m s = some b) : er_E (d + 4) 36 [.ref 0, .int (nI m)] (I, A, J) (.inl (some (.int (bI b)))) (I, A, J) := by
  have h160 := hts.1
  have hl : pq_pos s < ts.length := by
    refine Nat.lt_of_not_le fun hle => ?_
    have : pp_at ts s = 0 := pp_k_ge hle
    exact absurd (this.symm.trans h40) (by decide)
  have e9 : I 0 9 = nI (pq_pos s) := hw.2.2.1.1
  refine er_36 (r := (_, _)) ⟨_, _, _, _, rl_14 hts hw, 1, _, _, _, rl_13t hts hw (by rw [h40]; rfl), fun n => absurd n (by decide), fun _ => ?_⟩
  rw [rk_o (by decide) (by decide) (by decide), rk_o (by decide) (by decide) (by decide), rk_o (by decide) (by decide) (by decide), rk_1]
  unfold pp_59 at hb
  by_cases h0 : m = 0
  · rw [if_pos h0] at hb
    cases hb
    subst h0
    exact ⟨fun _ => rfl, fun n => absurd rfl n⟩
  · rw [if_neg h0] at hb
    refine ⟨fun n => absurd n (nI_ne0 (by omega) (by omega)), fun _ => ?_⟩
    by_cases h1 : pp_nx ts s = 42 ∨ pp_nx ts s = 40 ∨ pp_nx ts s = 91
    · rw [if_pos h1] at hb
      cases hb
      refine ⟨fun _ => rfl, fun n42 => ⟨fun _ => rfl, fun n40 => ⟨fun _ => rfl, fun n91 => ?_⟩⟩⟩
      rcases h1 with h | h | h
      · exact absurd h n42
      · exact absurd h n40
      · exact absurd h n91
    · rw [if_neg h1] at hb
      refine ⟨fun h => absurd (Or.inl h) h1, fun _ => ⟨fun h => absurd (Or.inr (Or.inl h)) h1, fun _ => ⟨fun h => absurd (Or.inr (Or.inr h)) h1, fun _ => ?_⟩⟩⟩
      by_cases h3 : m = 1
      · subst h3
        refine ⟨fun _ => ?_, fun n => absurd rfl n⟩
        by_cases h2 : pp_nx ts s = 2
        · rw [if_pos ⟨h2, rfl⟩] at hb
          refine ⟨fun _ => ?_, fun n => absurd h2 n⟩
          cases hc : pp_ib ts s (pq_pos s + 1) with
          | none => rw [hc] at hb; cases hb
          | some c =>
            rw [hc] at hb
            cases hb
            have h2' : pp_k ts (pq_pos s + 1) = 2 := h2
            have h18 := rl_18 (d := d) hts hw (t := pq_pos s + 1) (by omega) hc (by rw [h2']; decide) (by rw [h2']; decide) (by rw [h2']; decide)
            rw [← nI_1, ← e9] at h18
            refine ⟨_, _, _, _, h18, ?_⟩
            cases c
            · exact ⟨fun _ => rfl, fun n => absurd rfl n⟩
            · exact ⟨fun n => absurd n (by decide), fun _ => rfl⟩
        · rw [if_neg (fun c => h2 c.1)] at hb
          cases hb
          exact ⟨fun n => absurd n h2, fun _ => rfl⟩
      · rw [if_neg (fun c => h3 c.2)] at hb
        cases hb
        exact ⟨fun n => absurd ((nI_eq (b := 1) (by omega) (by omega)).mp n) h3, fun _ => rfl⟩
theorem rl_36f (hts : pp_ok ts) (hw : rq ts f2 f1 T X (I, A, J) s) {m : Int32} (h40 : ¬ pp_at ts s = 40) : er_E (d + 4) 36 [.ref 0, .int m] (I, A, J) (.inl (some (.int 0))) (I, A, J) :=
  er_36 (r := (_, _)) ⟨_, _, _, _, rl_14 hts hw, 0, _, _, _, rl_13f hts hw (fun c => h40 ((rk_o (by decide) (by decide) (by decide) _).mp c)), fun _ => rfl, fun n => absurd rfl n⟩
/-- the name that is declared is noted -/
theorem rq_nm {st nm fs pl : Int32} {wl : List Int32} {t : Nat} (hw : rq ts f2 f1 T (st, nm, fs, wl, pl) (I, A, J) s) (hx : pp_tk ts s = some (.inr (t, s1))) (ho : pp_opens (pp_at ts s) = false) (hs : pp_shuts (pp_at ts s) = false) : rq ts f2 f1 T (st, nI t, fs, wl, pl) (ja_up (ja_up I 0 33 (I 0 9)) 0 9 (I 0 9 + 1), A, J) s1 := by
  have e9 : I 0 9 = nI (pq_pos s) := hw.2.2.1.1
  have et := (pp_tk_e hx).1
  obtain ⟨hK, h0, hP, hT, hS, hN, hG, hF, hL, hX⟩ := rq_tk hw hx ho hs
  refine ⟨hK, h0, hP, hT, hS, hN, hG, hF, hL, hX.1, ?_, hX.2.2⟩
  show I 0 9 = nI t
  rw [e9, et]
/-- the suffixes and the stars -/
theorem rr_56t (hts : pp_ok ts) (hC : rC C) (H61 : rM ts f2 f1 (d + 9) 7 0 (fun s => pp_at ts s = 40) [(7, 0)] gS (C 61 0 0)) {n nm : Nat} (hn : n < 2 ^ 31) : ∀ (m a : Nat) (s : pp_S) (X : rq_X) (w : ja_w), rq ts f2 f1 ((7, 0) :: (8, nI n) :: T) X w s → T.length + 20 ≤ 1200 → T.length ≤ (tw s).1 → X.2.2.2.1.length ≤ (tw s).2 → X.2.1 = nI nm - 1 → ∀ x, pp_b (pp_w (fun _ s => some (pp_at ts s == 91 || pp_at ts s == 40)) (fun _ s => if pp_at ts s = 91 then pp_60 ts s else pp_c C 61 0 0 1 0 s) m a s) (fun _ s => pp_b (pp_pt (List.replicate n 42) s) fun _ s => pp_ret nm s) = some x → rG (d + 9) w (rO f2 f1 x (fun nm s' w' => ∃ X' : rq_X, (X'.1 = X.1 ∧ X'.2.1 = nI nm - 1 ∧ X'.2.2.2 = X.2.2.2) ∧ rq ts f2 f1 T X' w' s')) := by
  have fin : ∀ (s : pp_S) (X : rq_X) (w : ja_w), rq ts f2 f1 ((7, 0) :: (8, nI n) :: T) X w s → X.2.1 = nI nm - 1 → (pp_at ts s == 91 || pp_at ts s == 40) = false → ∀ x, (pp_b (pp_pt (List.replicate n 42) s) fun _ s => pp_ret nm s) = some x → rG (d + 9) w (rO f2 f1 x (fun nm s' w' => ∃ X' : rq_X, (X'.1 = X.1 ∧ X'.2.1 = nI nm - 1 ∧ X'.2.2.2 = X.2.2.2) ∧ rq ts f2 f1 T X' w' s')) := by
    intro s X w hw hnm hb x hx
    obtain ⟨I, A, J⟩ := w
    simp at hb
    have h0 := rq_pop hw
    refine rG_t (rt_7 (d := d + 8) (G := fun w => rq ts f2 f1 ((8, nI n) :: T) X w s) hw ⟨_, _, _, er_38 (r := (_, _)) ⟨0, _, _, _, rl_13f hts h0 (fun c => hb.1 ((rk_o (by decide) (by decide) (by decide) _).mp c)), fun _ => ⟨0, _, _, _, rl_13f hts h0 (fun c => hb.2 ((rk_o (by decide) (by decide) (by decide) _).mp c)), fun _ => rfl, fun n => absurd rfl n⟩, fun n => absurd rfl n⟩, h0⟩) (fun w1 h1 => ?_)
    obtain ⟨I1, A1, J1⟩ := w1
    rcases pp_bE hx with ⟨p', hr, hp'⟩ | ⟨v1, s1, hr, hk⟩
    · exact absurd hr (pp_pt_n _ _ _)
    · cases hk
      exact rG_m (rt_8s (d := d + 6) hn h1 hr) (fun w' h => ⟨X, ⟨rfl, hnm, rfl⟩, h⟩)
  intro m
  induction m with
  | zero =>
    intro a s X w hw hl hT hX hnm x hx
    simp only [pp_w] at hx
    cases hb : (pp_at ts s == 91 || pp_at ts s == 40) with
    | true => rw [hb] at hx; cases hx
    | false =>
      rw [hb] at hx
      exact fin s X w hw hnm hb x hx
  | succ m ih =>
    intro a s X w hw hl hT hX hnm x hx
    simp only [pp_w] at hx
    cases hb : (pp_at ts s == 91 || pp_at ts s == 40) with
    | false =>
      rw [hb] at hx
      exact fin s X w hw hnm hb x hx
    | true =>
      rw [hb] at hx
      simp only at hx
      rw [pp_bb] at hx
      have hkk : pp_at ts s = 91 ∨ pp_at ts s = 40 := by simpa using hb
      rcases hkk with h91 | h40
      · rw [if_pos h91] at hx
        refine rG_b (g1 := fun _ s' w' => rq ts f2 f1 ((7, 0) :: (8, nI n) :: T) X w' s') hx (fun y hy => ?_) (fun v1 s1 w1 hr1 h1 hk => ?_)
        · obtain ⟨I, A, J⟩ := w
          exact rr_60 (d := d + 3) hts hw (by rw [List.length_cons]; omega) h91 hy
        · have t1 : tw s1 = tw s := pp_60_tw hr1
          exact ih v1 s1 X w1 h1 hl (by rw [t1]; exact hT) (by rw [t1]; exact hX) hnm x hk
      · rw [if_neg (by rw [h40]; decide)] at hx
        refine rG_b hx (fun y hy => rM_c H61 (fun _ _ => h40) hw (by rw [List.length_cons]; omega) (by omega) hy) (fun v1 s1 w1 hr1 h1 hk => ?_)
        obtain ⟨X', hg, hw1⟩ := h1
        have t1 := pp_c_tw hr1
        refine rG_m (ih v1 s1 X' w1 hw1 hl (by rw [t1]; exact hT) (by rw [t1, show X'.2.2.2.1 = X.2.2.2.1 by rw [hg.2.2]]; exact hX) (hg.2.1.trans hnm) x hk) (fun w' h => ?_)
        cases x with
        | inl p => exact h
        | inr z =>
          obtain ⟨X'', g, h⟩ := h
          exact ⟨X'', ⟨g.1.trans hg.1, g.2.1, g.2.2.trans hg.2.2⟩, h⟩
/-- declarator -/
theorem rr_56 (hts : pp_ok ts) (hC : rC C) (hC' : rC C') (h58 : ∀ a s x, C 58 a 0 s = some x → pp_58 ts C' a s = some x) (H : rD ts f2 f1 (d + 9) C') (H61 : rM ts f2 f1 (d + 9) 7 0 (fun s => pp_at ts s = 40) [(7, 0)] gS (C 61 0 0)) {m : Nat} (hm : m ≤ 2) {s : pp_S} {T : rq_A} {X : rq_X} {w : ja_w} (hs : (tw s).1 + 20 ≤ 1200) (hw : rq ts f2 f1 ((6, nI m) :: T) X w s) (hnm : X.2.1 = -1) (hT : T.length ≤ (tw s).1) (hX : X.2.2.2.1.length ≤ (tw s).2) {x : Nat ⊕ (Nat × pp_S)} (hx : pp_56 ts C m s = some x) : rG (d + 9) w (rO f2 f1 x (fun nm s' w' => ∃ X' : rq_X, (X'.1 = X.1 ∧ X'.2.1 = nI nm - 1 ∧ X'.2.2.2 = X.2.2.2) ∧ rq ts f2 f1 T X' w' s')) := by
  have h160 := hts.1
  obtain ⟨I, A, J⟩ := w
  obtain ⟨st, nm0, fs, wl, pl⟩ := X
  obtain rfl : nm0 = -1 := hnm
  have h0 := rq_pop hw
  unfold pp_56 at hx
  rcases pp_bE hx with ⟨p, hr, hp⟩ | ⟨n, s1, hr, hk⟩
  · obtain ⟨n, s1, I1, A1, J1, e, _⟩ := rl_37l (d := d + 1) (m := nI m) hts 160 0 s _ _ _ rfl h0 _ hr
    cases e
  · obtain ⟨n', s1', I1, A1, J1, e, ln, t1, n42, hw1, hrow⟩ := rl_37l (d := d + 1) (m := nI m) hts 160 0 s _ _ _ rfl h0 _ hr
    cases e
    have n42' : ¬ rk (pp_at ts s1) = 42 := fun c => n42 ((rk_o (by decide) (by decide) (by decide) _).mp c)
    obtain ⟨I2, A2, J2, hE2, hw2⟩ := rl_11 (d := d + 6) hw1 (by omega) 8 (nI n)
    obtain ⟨I3, A3, J3, hE3, hw3⟩ := rl_11 (d := d + 6) hw2 (by rw [List.length_cons]; omega) 7 0
    have e9 : I3 0 9 = nI (pq_pos s1) := hw3.2.2.1.1
    have lp : pq_pos s1 ≤ ts.length := hw3.2.2.1.2.1
    -- the row from here on
    have step : ∀ (G : ja_w → Prop), (∃ y : ja_O × ja_w, (∃ (z4 : Int32) (I4 A4 : ja_I) (J4 : ja_J), er_E (d + 7) 13 [.ref 0, .int 1] (I3, A3, J3) (.inl (some (.int z4))) (I4, A4, J4) ∧ (((z4 = 0) → ∃ (z5 : Int32) (I5 A5 : ja_I) (J5 : ja_J), er_E (d + 7) 36 [.ref 0, .int (nI m)] (I4, A4, J4) (.inl (some (.int z5))) (I5, A5, J5) ∧ (((z5 = 0) → (((nI m) = 0) → ∃ (I6 A6 : ja_I) (J6 : ja_J), er_E (d + 7) 12 [.ref 0] (I5, A5, J5) (.inl (none)) (I6, A6, J6) ∧ (y = (.inl none, (I6, A6, J6)))) ∧ (¬ ((nI m) = 0) → y = (.inl none, (I5, A5, J5)))) ∧ (¬ (z5 = 0) → ∃ (I7 A7 : ja_I) (J7 : ja_J), er_E (d + 7) 11 [.ref 0, .int 18, .int 41] (I5, A5, J5) (.inl (none)) (I7, A7, J7) ∧ (∃ (I8 A8 : ja_I) (J8 : ja_J), er_E (d + 7) 11 [.ref 0, .int 6, .int (nI m)] (I7, A7, J7) (.inl (none)) (I8, A8, J8) ∧ (∃ (I9 A9 : ja_I) (J9 : ja_J), er_E (d + 7) 15 [.ref 0] (I8, A8, J8) (.inl (none)) (I9, A9, J9) ∧ (y = (.inl none, (I9, A9, J9)))))))) ∧ (¬ (z4 = 0) → ((2 ≤ (nI m)) → ∃ (z10 : Int32) (I10 A10 : ja_I) (J10 : ja_J), er_E (d + 7) 36 [.ref 0, .int (nI m)] (I4, A4, J4) (.inl (some (.int z10))) (I10, A10, J10) ∧ (((z10 = 0) → (((nI m) = 0) → ∃ (I11 A11 : ja_I) (J11 : ja_J), er_E (d + 7) 12 [.ref 0] (I10, A10, J10) (.inl (none)) (I11, A11, J11) ∧ (y = (.inl none, (I11, A11, J11)))) ∧ (¬ ((nI m) = 0) → y = (.inl none, (I10, A10, J10)))) ∧ (¬ (z10 = 0) → ∃ (I12 A12 : ja_I) (J12 : ja_J), er_E (d + 7) 11 [.ref 0, .int 18, .int 41] (I10, A10, J10) (.inl (none)) (I12, A12, J12) ∧ (∃ (I13 A13 : ja_I) (J13 : ja_J), er_E (d + 7) 11 [.ref 0, .int 6, .int (nI m)] (I12, A12, J12) (.inl (none)) (I13, A13, J13) ∧ (∃ (I14 A14 : ja_I) (J14 : ja_J), er_E (d + 7) 15 [.ref 0] (I13, A13, J13) (.inl (none)) (I14, A14, J14) ∧ (y = (.inl none, (I14, A14, J14)))))))) ∧ (¬ (2 ≤ (nI m)) → ∃ (z15 : Int32) (I15 A15 : ja_I) (J15 : ja_J), er_E (d + 7) 20 [.ref 0, .int (I4 0 9)] (I4, A4, J4) (.inl (some (.int z15))) (I15, A15, J15) ∧ (((z15 = 0) → ∃ (I16 A16 : ja_I) (J16 : ja_J), er_E (d + 7) 12 [.ref 0] (I15, A15, J15) (.inl (none)) (I16, A16, J16) ∧ (y = (.inl none, (I16, A16, J16)))) ∧ (¬ (z15 = 0) → y = (.inl none, ((ja_up (ja_up I15 0 33 (I15 0 9)) 0 9 ((I15 0 9) + 1)), A15, J15)))))))) ∧ rP G y) → rG (d + 9) (I, A, J) G := by
      intro G hG
      obtain ⟨⟨o, I9, A9, J9⟩, hy, h1, h2⟩ := hG
      obtain rfl : o = .inl none := h1
      exact rt_6 hw ⟨I9, A9, J9, er_37 (r := (_, _)) (hrow _ (br_37_2 ⟨0, _, _, _, rl_13f hts hw1 n42', fun _ => ⟨_, _, _, hE2, _, _, _, hE3, hy⟩, fun n => absurd rfl n⟩)), h2⟩
    -- behind the direct part
    have after : ∀ (nm : Nat) (s2 : pp_S) (fs2 : Int32) (w2 : ja_w), tw s2 = tw s → rq ts f2 f1 ((7, 0) :: (8, nI n) :: T) (st, nI nm - 1, fs2, wl, pl) w2 s2 → (pp_b (pp_w (fun _ s => some (pp_at ts s == 91 || pp_at ts s == 40)) (fun _ s => if pp_at ts s = 91 then pp_60 ts s else pp_c C 61 0 0 1 0 s) 160 0 s2) fun _ s => pp_b (pp_pt (List.replicate n 42) s) fun _ s => pp_ret nm s) = some x → rG (d + 9) w2 (rO f2 f1 x (fun nm s' w' => ∃ X' : rq_X, (X'.1 = st ∧ X'.2.1 = nI nm - 1 ∧ X'.2.2.2 = (wl, pl)) ∧ rq ts f2 f1 T X' w' s')) := by
      intro nm s2 fs2 w2 t2 hw2 hx2
      exact rr_56t (T := T) hts hC H61 (by omega) 160 0 s2 _ w2 hw2 (by omega) (by rw [t2]; exact hT) (by rw [t2]; exact hX) rfl x hx2
    -- what direct says
    have hk' : (pp_b (pp_c C 58 m 0 2 0 s1) fun nm s => pp_b (pp_w (fun _ s => some (pp_at ts s == 91 || pp_at ts s == 40)) (fun _ s => if pp_at ts s = 91 then pp_60 ts s else pp_c C 61 0 0 1 0 s) 160 0 s) fun _ s => pp_b (pp_pt (List.replicate n 42) s) fun _ s => pp_ret nm s) = some x := hk
    obtain ⟨pos, op, cc, tn, tl, wt, r⟩ := s1
    have t1' : (tl, wt) = tw s := t1
    cases hc : C 58 m 0 (pos, op, cc, tn, tl + 2, wt + 0, r) with
    | none =>
      have : pp_c C 58 m 0 2 0 (pos, op, cc, tn, tl, wt, r) = none := by simp only [pp_c, hc]; rfl
      rw [this] at hk'
      cases hk'
    | some y =>
      have h58' := h58 _ _ _ hc
      have tl20 : tl + 2 + 20 ≤ 1200 := hC _ _ _ _ _ hc
      -- the state that direct begins with holds as well
      have hw3' : rq ts f2 f1 ((7, 0) :: (8, nI n) :: T) (st, -1, fs, wl, pl) (I3, A3, J3) (pos, op, cc, tn, tl + 2, wt + 0, r) := hw3
      -- to the end from what direct ends with
      have fin : ∀ (z : Nat × pp_S), y = .inr z → ∀ (fs2 : Int32) (w2 : ja_w), rq ts f2 f1 ((7, 0) :: (8, nI n) :: T) (st, nI z.1 - 1, fs2, wl, pl) w2 z.2 → rG (d + 9) w2 (rO f2 f1 x (fun nm s' w' => ∃ X' : rq_X, (X'.1 = st ∧ X'.2.1 = nI nm - 1 ∧ X'.2.2.2 = (wl, pl)) ∧ rq ts f2 f1 T X' w' s')) := by
        intro z hz fs2 w2 hw2
        obtain ⟨nm, pos2, op2, cc2, tn2, tl2, wt2, r2⟩ := z
        subst hz
        have e : pp_c C 58 m 0 2 0 (pos, op, cc, tn, tl, wt, r) = some (.inr (nm, pos2, op2, cc2, tn2, tl, wt, r2)) := by simp only [pp_c, hc]; rfl
        rw [e] at hk'
        exact after nm (pos2, op2, cc2, tn2, tl, wt, r2) fs2 w2 t1' hw2 hk'
      have bad : ∀ p, y = .inl p → x = .inl p := by
        intro p hp
        subst hp
        have e : pp_c C 58 m 0 2 0 (pos, op, cc, tn, tl, wt, r) = some (.inl p) := by simp only [pp_c, hc]; rfl
        rw [e] at hk'
        cases hk'
        rfl
      have hTl : T.length ≤ tl := by have : T.length ≤ (tw s).1 := hT; rw [← t1'] at this; exact this
      have hXl : wl.length ≤ wt := by have : wl.length ≤ (tw s).2 := hX; rw [← t1'] at this; exact this
      generalize hs3 : ((pos, op, cc, tn, tl + 2, wt + 0, r) : pp_S) = s3 at h58' hw3'
      have t3 : tw s3 = (tl + 2, wt + 0) := by rw [← hs3]
      have e9' : I3 0 9 = nI (pq_pos s3) := hw3'.2.2.1.1
      unfold pp_58 at h58'
      by_cases h2 : pp_at ts s3 = 2
      · have n36 := rl_36f (d := d + 3) (m := nI m) hts hw3' (by rw [h2]; decide)
        by_cases hm2 : m = 2
        · rw [if_neg (fun c => c.2 hm2), if_neg (by rw [h2]; decide), if_neg (by omega)] at h58'
          cases h58'
          refine rG_t (step (fun w => rq ts f2 f1 ((7, 0) :: (8, nI n) :: T) (st, nI 0 - 1, fs, wl, pl) w s3) ?_) (fun w1 h1 => fin _ rfl fs w1 h1)
          refine cg_I (rl_13t hts hw3' ((rk_1 _).mpr h2)) (cg_f (by decide) (cg_t (by rw [hm2]; decide) (cg_I n36 (cg_t rfl (cg_f (by rw [hm2]; decide) (cg_r ⟨rfl, ?_⟩))))))
          exact hw3'
        · rw [if_pos ⟨h2, hm2⟩] at h58'
          have ht : pq_pos s3 < ts.length := by
            refine Nat.lt_of_not_le fun hle => ?_
            have : pp_at ts s3 = 0 := pp_k_ge hle
            exact absurd (this.symm.trans h2) (by decide)
          have nm2 : ¬ (2 : Int32) ≤ nI m := nI_ge (b := 2) (by omega) (by omega)
          cases hb : pp_cd ts s3 (pq_pos s3) with
          | none => rw [hb] at h58'; cases h58'
          | some b =>
            rw [hb] at h58'
            have h20 := rl_20 (d := d + 4) hts hw3' ht hb
            rw [← e9'] at h20
            cases b with
            | false =>
              cases h58'
              rw [bad _ rfl]
              refine step _ (cg_I (rl_13t hts hw3' ((rk_1 _).mpr h2)) (cg_f (by decide) (cg_f nm2 (cg_I h20 (cg_t rfl (cg_V rl_12 (cg_r ⟨rfl, ?_⟩)))))))
              exact (rb_of hw3').1
            | true =>
              have h58'' : (pp_b (pp_tk ts s3) fun t s => pp_ret (t + 1) s) = some y := h58'
              rcases pp_bE h58'' with ⟨p', hr4, hp'⟩ | ⟨t, s4, hr4, hk4⟩
              · exact absurd hr4 (pp_tk_n (by rw [h2]; rfl))
              · cases hk4
                have hw4 := rq_nm hw3' hr4 (by rw [h2]; rfl) (by rw [h2]; rfl)
                refine rG_t (step (fun w => rq ts f2 f1 ((7, 0) :: (8, nI n) :: T) (st, nI (t + 1) - 1, fs, wl, pl) w s4) ?_) (fun w1 h1 => fin _ rfl fs w1 h1)
                refine cg_I (rl_13t hts hw3' ((rk_1 _).mpr h2)) (cg_f (by decide) (cg_f nm2 (cg_I h20 (cg_f (by decide) (cg_r ⟨rfl, ?_⟩)))))
                show rq ts f2 f1 ((7, 0) :: (8, nI n) :: T) (st, nI (t + 1) - 1, fs, wl, pl) _ s4
                rw [nI_pred]
                exact hw4
      · rw [if_neg (fun c => h2 c.1)] at h58'
        have n2 : ¬ rk (pp_at ts s3) = 1 := fun c => h2 ((rk_1 _).mp c)
        by_cases h40 : pp_at ts s3 = 40
        · rw [if_pos h40] at h58'
          cases hb : pp_59 ts m s3 with
          | none => rw [hb] at h58'; cases h58'
          | some b =>
            rw [hb] at h58'
            have h36 := rl_36 (d := d + 3) hts hw3' hm h40 hb
            cases b with
            | false =>
              cases h58'
              have hm0 : ¬ nI m = 0 := fun c => by
                have : m = 0 := (nI_eq (b := 0) (by omega) (by omega)).mp c
                unfold pp_59 at hb
                rw [if_pos this] at hb
                cases hb
              refine rG_t (step (fun w => rq ts f2 f1 ((7, 0) :: (8, nI n) :: T) (st, nI 0 - 1, fs, wl, pl) w s3) ?_) (fun w1 h1 => fin _ rfl fs w1 h1)
              exact cg_I (rl_13f hts hw3' n2) (cg_t rfl (cg_I h36 (cg_t rfl (cg_f hm0 (cg_r ⟨rfl, hw3'⟩)))))
            | true =>
              have h58'' : (pp_b (pp_tk ts s3) fun _ s => pp_b (pp_c C' 56 m 0 3 0 s) fun nm s => pp_b (pp_ex ts 41 s) fun _ s => pp_ret nm s) = some y := h58'
              obtain ⟨I5, A5, J5, hE5, hw5⟩ := rl_11 (d := d + 6) hw3' (by rw [List.length_cons, List.length_cons]; omega) 18 41
              obtain ⟨I6, A6, J6, hE6, hw6⟩ := rl_11 (d := d + 6) hw5 (by rw [List.length_cons, List.length_cons, List.length_cons]; omega) 6 (nI m)
              rcases pp_bE h58'' with ⟨p', hr4, hp'⟩ | ⟨t, s4, hr4, hk4⟩
              · obtain ⟨I7, A7, J7, hE7, hw7⟩ := rl_15 (d := d + 5) hts hw6 (by rw [h40]; rfl) hr4
                obtain ⟨rfl, e⟩ := hw7
                cases e
                rw [bad _ hp']
                refine step _ (cg_I (rl_13f hts hw3' n2) (cg_t rfl (cg_I h36 (cg_f (by decide) (cg_V hE5 (cg_V hE6 (cg_V hE7 (cg_r ⟨rfl, ?_⟩))))))))
                exact (rb_of hw6).1
              · obtain ⟨I7, A7, J7, hE7, hw7⟩ := rl_15 (d := d + 5) hts hw6 (by rw [h40]; rfl) hr4
                have t4 := pp_tk_tw hr4
                refine rG_t (step (fun w => rq ts f2 f1 ((6, nI m) :: (18, 41) :: (7, 0) :: (8, nI n) :: T) (st, -1, fs, wl, pl) w s4) (cg_I (rl_13f hts hw3' n2) (cg_t rfl (cg_I h36 (cg_f (by decide) (cg_V hE5 (cg_V hE6 (cg_V hE7 (cg_r ⟨rfl, hw7⟩))))))))) (fun w1 h1 => ?_)
                have conv : rG (d + 9) w1 (rO f2 f1 y (fun nm s' w' => ∃ fs2, rq ts f2 f1 ((7, 0) :: (8, nI n) :: T) (st, nI nm - 1, fs2, wl, pl) w' s')) := by
                  refine rG_b hk4 (fun y hy => rD_c H hm h1 rfl (by rw [List.length_cons, List.length_cons, List.length_cons, t4, t3]; show T.length + 1 + 1 + 1 ≤ tl + 2 + 3; omega) (by rw [t4, t3]; show wl.length ≤ wt + 0 + 0; omega) hy) (fun nm s5 w5 hr5 h5 hk5 => ?_)
                  obtain ⟨⟨a1, a2, a3, a4⟩, ⟨g1, g2, g3⟩, hw8⟩ := h5
                  obtain rfl : a1 = st := g1
                  obtain rfl : a2 = nI nm - 1 := g2
                  obtain rfl : a4 = (wl, pl) := g3
                  obtain ⟨I8, A8, J8⟩ := w5
                  refine rG_b hk5 (fun y hy => rt_18s (d := d + 6) hts hw8 ⟨rfl, rfl, rfl⟩ hy) (fun v6 s6 w6 hr6 h6 hk6 => ?_)
                  cases hk6
                  exact rG_0 ⟨_, h6⟩
                refine rG_t conv (fun w2 h2 => ?_)
                cases y with
                | inl p =>
                  rw [bad p rfl]
                  exact rG_0 h2
                | inr z =>
                  obtain ⟨fs2, h2⟩ := h2
                  exact fin z rfl fs2 w2 h2
        · rw [if_neg h40] at h58'
          have n36 := rl_36f (d := d + 3) (m := nI m) hts hw3' h40
          by_cases hm0 : m = 0
          · rw [if_pos hm0] at h58'
            cases h58'
            rw [bad _ rfl]
            refine step _ (cg_I (rl_13f hts hw3' n2) (cg_t rfl (cg_I n36 (cg_t rfl (cg_t (by rw [hm0]; rfl) (cg_V rl_12 (cg_r ⟨rfl, ?_⟩)))))))
            exact (rb_of hw3').1
          · rw [if_neg hm0] at h58'
            cases h58'
            refine rG_t (step (fun w => rq ts f2 f1 ((7, 0) :: (8, nI n) :: T) (st, nI 0 - 1, fs, wl, pl) w s3) ?_) (fun w1 h1 => fin _ rfl fs w1 h1)
            exact cg_I (rl_13f hts hw3' n2) (cg_t rfl (cg_I n36 (cg_t rfl (cg_f (nI_ne0 (by omega) (by omega)) (cg_r ⟨rfl, hw3'⟩)))))
end
