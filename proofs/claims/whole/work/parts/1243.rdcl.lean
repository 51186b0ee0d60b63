section
variable {ts : List pp_T} {f2 : Int32} {f1 : Nat → Int32} {d : Nat} {T : rq_A} {X : rq_X} {I A : ja_I} {J : ja_J} {s s1 s2 s3 : pp_S} {w : ja_w} {C : pp_C} {v : Nat}
theorem pp_tk_pt {t : Nat} {l : List Int32} (h1 : pp_tk ts s1 = some (.inr (t, s2))) (h2 : pp_pt l s2 = some (.inr (v, s3))) : ∃ s', pp_pt l s1 = some (.inr (v, s')) ∧ pp_tk ts s' = some (.inr (t, s3)) := by
  obtain ⟨pos, op, cc, tn, tl, wt, pn, scs, sd, sig, frm, rl, mn, dc, fc⟩ := s1
  simp only [pp_tk] at h1
  repeat' split at h1
  all_goals first
    | (cases h1; done)
    | (cases h1
       simp only [pp_pt] at h2
       split at h2
       · rename_i hb
         cases h2
         refine ⟨(t, op, cc, tn + l.length, tl, wt, pn, scs, sd, sig ++ l, frm, rl, mn, dc, fc), ?_, ?_⟩
         · simp only [pp_pt]; rw [if_pos hb]
         · simp [pp_tk, *]; try omega
       · cases h2)
/-- STARS -/
theorem rl_62l {n : Nat} (hn : n < 2 ^ 31) : ∀ (m i : Nat) (s : pp_S) (I A : ja_I) (J : ja_J), i + m = n → rq ts f2 f1 T X (I, A, J) s → pp_pt (List.replicate m 42) s = some (.inr (v, s1)) → ∃ y, ja_R (ja_code tr_62) (er_E (d + 1)) y 2 [some (.ref 0), some (.int (nI n)), some (.int (nI i))] [] (I, A, J) ∧ rP (fun w => rq ts f2 f1 T X w s1) y := by
  intro m
  induction m with
  | zero =>
    intro i s I A J hi hw hx
    rw [List.replicate_zero, pp_pt_0r hw] at hx
    cases hx
    exact cg_j (cg_t (nI_le (by omega) (by omega)) (cg_r ⟨rfl, hw⟩)) (fun y h => br_62_2 h)
  | succ m ih =>
    intro i s I A J hi hw hx
    rw [List.replicate_succ, pp_pt_c] at hx
    rcases pp_bE hx with ⟨p, hr, hp⟩ | ⟨v1, s2, hr, hk⟩
    · cases hp
    · obtain ⟨I1, A1, J1, hE, hw1⟩ := rl_24 (d := d) hw hr
      refine cg_j (cg_f (nI_ge (by omega) (by omega)) (cg_V hE ?_)) (fun y h => br_62_2 h)
      rw [nI_1]
      exact ih (i + 1) s2 I1 A1 J1 (by omega) hw1 hk
theorem rt_8s {n : Nat} (hn : n < 2 ^ 31) (hw : rq ts f2 f1 ((8, nI n) :: T) X (I, A, J) s) (hx : pp_pt (List.replicate n 42) s = some (.inr (v, s1))) : rG (d + 3) (I, A, J) (fun w => rq ts f2 f1 T X w s1) :=
  rt_8 hw (rP_of (cg_j (rl_62l (d := d) hn n 0 s (rpo I) A J (by omega) (rq_pop hw) hx) (fun y h => er_62 (r := y) h)))
/-- the number in brackets -/
theorem rl_38l (hts : pp_ok ts) {t : Nat} {G : ja_w → Prop} {s0 s1 : pp_S} (ht : t < ts.length) (K : ∀ (I A : ja_I) (J : ja_J), rq ts f2 f1 T X (I, A, J) s1 → ∃ y, (∃ (I1 A1 : ja_I) (J1 : ja_J), er_E (d + 3) 24 [.ref 0, .int 93] (ja_up I 0 9 (I 0 9 + 1), A, J) (.inl none) (I1, A1, J1) ∧ ∃ (I2 A2 : ja_I) (J2 : ja_J), er_E (d + 3) 11 [.ref 0, .int 7, .int 0] (I1, A1, J1) (.inl none) (I2, A2, J2) ∧ ∃ (I3 A3 : ja_I) (J3 : ja_J), er_E (d + 3) 16 [.ref 0, .int 93, .int 1] (I2, A2, J2) (.inl none) (I3, A3, J3) ∧ y = (.inl none, (I3, A3, J3))) ∧ rP G y) : ∀ (m i : Nat) (s : pp_S) (I A : ja_I) (J : ja_J), i + m = (pp_cs ts t).length → pq_pos s = t → rq ts f2 f1 T X (I, A, J) s → pp_pt ((pp_cs ts t).drop i) s = some (.inr (v, s1)) → ∃ y, ja_R (ja_code tr_38) (er_E (d + 3)) y 36 [some (.ref 0), some (.int (nI i))] [] (I, A, J) ∧ rP G y := by
  have h160 := hts.1
  intro m
  induction m with
  | zero =>
    intro i s I A J hi hp hw hx
    have e9 : I 0 9 = nI t := by rw [← hp]; exact hw.2.2.1.1
    have v161 : vp_in (I 0 9) 161 := cn_in e9 (by omega) (by omega)
    obtain ⟨fr, e3, e4, l, hh⟩ := hw.1.2.2 t ht
    have e4' : A 4 (I 0 9).toNatClampNeg = nI (pp_cs ts t).length := by rw [cn_cl e9 (by omega)]; exact e4
    rw [List.drop_of_length_le (by omega), pp_pt_0r hw] at hx
    cases hx
    refine cg_j (cg_a v161 ?_) (fun y h => br_38_36 h)
    rw [e4']
    exact cg_t (nI_le (by omega) (by omega)) (K I A J hw)
  | succ m ih =>
    intro i s I A J hi hp hw hx
    have e9 : I 0 9 = nI t := by rw [← hp]; exact hw.2.2.1.1
    have v161 : vp_in (I 0 9) 161 := cn_in e9 (by omega) (by omega)
    obtain ⟨fr, e3, e4, l, hh⟩ := hw.1.2.2 t ht
    have e3' : A 3 (I 0 9).toNatClampNeg = nI fr := by rw [cn_cl e9 (by omega)]; exact e3
    have e4' : A 4 (I 0 9).toNatClampNeg = nI (pp_cs ts t).length := by rw [cn_cl e9 (by omega)]; exact e4
    have hlt : i < (pp_cs ts t).length := by omega
    rw [List.drop_eq_getElem_cons hlt, pp_pt_c] at hx
    rcases pp_bE hx with ⟨p, hr, hp'⟩ | ⟨v1, s2, hr, hk⟩
    · cases hp'
    · obtain ⟨I1, A1, J1, hE, hw1⟩ := rl_24 (d := d + 2) hw hr
      have ev : A 1 (fr + i) = (pp_cs ts t)[i] := by
        have := hh i hlt
        rwa [gd_e hlt] at this
      have hp2 : pq_pos s2 = t := by
        rw [← hp]
        obtain ⟨pos, op, cc, tn, tl, wt, pn, scs, sd, sig, frm, rl, mn, dc, fc⟩ := s
        simp only [pp_pt] at hr
        split at hr
        · cases hr; rfl
        · cases hr
      refine cg_j (cg_a v161 ?_) (fun y h => br_38_36 h)
      rw [e4', e3', nI_add]
      refine cg_f (nI_ge hlt (by omega)) (cg_a v161 (cg_a (vp_in_nI (by omega) (by omega)) ?_))
      rw [nI_clamp (by omega), ev]
      refine cg_V hE ?_
      rw [nI_1]
      exact ih (i + 1) s2 I1 A1 J1 (by omega) hp2 hw1 hk
theorem pp_pt_pos {l : List Int32} (h : pp_pt l s = some (.inr (v, s1))) : pq_pos s1 = pq_pos s ∧ pq_op s1 = pq_op s := by
  obtain ⟨pos, op, cc, tn, tl, wt, pn, scs, sd, sig, frm, rl, mn, dc, fc⟩ := s
  simp only [pp_pt] at h
  split at h
  · cases h; exact ⟨rfl, rfl⟩
  · cases h
/-- dimension: SUFFIXES at '[' -/
theorem rr_60 (hts : pp_ok ts) (hw : rq ts f2 f1 ((7, 0) :: T) X (I, A, J) s) (hl : T.length < 1195) (hk : pp_at ts s = 91) {x : Nat ⊕ (Nat × pp_S)} (hx : pp_60 ts s = some x) : rG (d + 6) (I, A, J) (rO f2 f1 x (fun _ s1 w => rq ts f2 f1 ((7, 0) :: T) X w s1)) := by
  have h160 := hts.1
  have h0 := rq_pop hw
  unfold pp_60 at hx
  have z0 : ∀ {p : Prop}, (¬ (0 : Int32) = 0 → p) := fun h => absurd rfl h
  have z1 : ∀ {p : Prop}, ((1 : Int32) = 0 → p) := fun h => absurd h (by decide)
  unfold pp_ex at hx
  rw [if_pos (show pp_k ts (pq_pos s) = 91 from hk)] at hx
  rcases pp_bE hx with ⟨p, hr, hp⟩ | ⟨t, s1, hr, hk1⟩
  · obtain ⟨I3, A3, J3, hE3, hw3⟩ := rl_15 (d := d + 2) hts h0 (by rw [hk]; rfl) hr
    obtain ⟨rfl, e⟩ := hw3
    subst hp
    cases e
    obtain ⟨b0, n0⟩ := rb_of h0
    obtain ⟨I4, A4, J4, hE4, b4, n4⟩ := rl_24b (d := d + 3) b0 n0 (by omega) 91
    obtain ⟨I5, A5, J5, hE5, b5, n5⟩ := rl_24b (d := d + 3) b4 n4 (by omega) 93
    obtain ⟨I6, A6, J6, hE6, b6, n6⟩ := rl_11b (d := d + 3) b5 n5 (by omega) 7 0
    have hE7 : er_E (d + 4) 16 [.ref 0, .int 93, .int 1] (I6, A6, J6) (.inl none) (I6, A6, J6) := er_16 (r := (_, _)) ⟨fun c => absurd (b6.2.1.symm.trans c) (by decide), fun _ => rfl⟩
    exact rt_7 hw ⟨I6, A6, J6, er_38 (r := (_, _)) ⟨1, _, _, _, rl_13t hts h0 (by rw [hk]; rfl), z1, fun _ => ⟨_, _, _, hE3, _, _, _, hE4, fun c => absurd (b4.2.1.symm.trans c) (by decide), fun _ => ⟨_, _, _, hE5, _, _, _, hE6, _, _, _, hE7, rfl⟩⟩⟩, b6⟩
  · obtain ⟨I3, A3, J3, hE3, hw3⟩ := rl_15 (d := d + 2) hts h0 (by rw [hk]; rfl) hr
    have hw3' : rq ts f2 f1 T X (I3, A3, J3) s1 := hw3
    rcases pp_bE hk1 with ⟨p, hr2, hp⟩ | ⟨v2, s2, hr2, hk2⟩
    · exact absurd hr2 (pp_pt_n _ _ _)
    · obtain ⟨I4, A4, J4, hE4, hw4⟩ := rl_24 (d := d + 3) hw3' hr2
      have h16 : I4 0 16 = 0 := hw4.2.2.1.2.2.2.2
      -- what stands behind the number
      have tail : ∀ (I A : ja_I) (J : ja_J) (s : pp_S), rq ts f2 f1 T X (I, A, J) s → (pp_b (pp_pt [93] s) fun _ s => pp_b (pp_ex ts 93 s) fun _ s => pp_ret 0 s) = some x → ∃ y, (∃ (I1 A1 : ja_I) (J1 : ja_J), er_E (d + 4) 24 [.ref 0, .int 93] (I, A, J) (.inl none) (I1, A1, J1) ∧ ∃ (I2 A2 : ja_I) (J2 : ja_J), er_E (d + 4) 11 [.ref 0, .int 7, .int 0] (I1, A1, J1) (.inl none) (I2, A2, J2) ∧ ∃ (I3 A3 : ja_I) (J3 : ja_J), er_E (d + 4) 16 [.ref 0, .int 93, .int 1] (I2, A2, J2) (.inl none) (I3, A3, J3) ∧ y = (.inl none, (I3, A3, J3))) ∧ rP (rO f2 f1 x (fun _ s1 w => rq ts f2 f1 ((7, 0) :: T) X w s1)) y := by
        intro I A J s hw hx
        rcases pp_bE hx with ⟨p, hr, hp⟩ | ⟨v1, s1, hr, hk⟩
        · exact absurd hr (pp_pt_n _ _ _)
        · obtain ⟨I1, A1, J1, hE1, hw1⟩ := rl_24 (d := d + 3) hw hr
          obtain ⟨I2, A2, J2, hE2, hw2⟩ := rl_11 (d := d + 3) hw1 (by omega) 7 0
          rcases pp_bE hk with ⟨p, hr3, hp⟩ | ⟨v3, s3, hr3, hk3⟩
          · obtain ⟨I5, A5, J5, hE5, hw5⟩ := rl_16 (d := d + 2) hts hw2 (k := 93) (f := 1) (Or.inl ⟨rfl, rfl, rfl⟩) rfl hr3
            obtain ⟨rfl, e⟩ := hw5
            subst hp
            cases e
            exact ⟨_, ⟨_, _, _, hE1, _, _, _, hE2, _, _, _, hE5, rfl⟩, rfl, (rb_of hw2).1⟩
          · obtain ⟨I5, A5, J5, hE5, hw5⟩ := rl_16 (d := d + 2) hts hw2 (k := 93) (f := 1) (Or.inl ⟨rfl, rfl, rfl⟩) rfl hr3
            cases hk3
            exact ⟨_, ⟨_, _, _, hE1, _, _, _, hE2, _, _, _, hE5, rfl⟩, rfl, hw5⟩
      refine rt_7 hw (rP_of (G := rO f2 f1 x (fun _ s1 w => rq ts f2 f1 ((7, 0) :: T) X w s1)) (cg_j ?_ (fun y h => er_38 (r := y) h)))
      refine cg_I (rl_13t hts h0 (by rw [hk]; rfl)) (cg_f (by decide) (cg_V hE3 (cg_V hE4 (cg_t h16 ?_))))
      by_cases h3 : pp_at ts s2 = 3
      · rw [if_pos h3, pp_bb] at hk2
        refine cg_I (rl_13t hts hw4 ((rk_2 _).mpr h3)) (cg_f (by decide) ?_)
        rcases pp_bE hk2 with ⟨p, hr3, hp⟩ | ⟨t3, s3, hr3, hk3⟩
        · exact absurd hr3 (pp_tk_n (by rw [h3]; rfl))
        · rcases pp_bE hk3 with ⟨p, hr4, hp⟩ | ⟨v4, s4, hr4, hk4⟩
          · exact absurd hr4 (pp_pt_n _ _ _)
          · obtain ⟨s', hp1, hp2⟩ := pp_tk_pt hr3 hr4
            have et : t3 = pq_pos s2 := (pp_tk_e hr3).1
            have lt := (pp_tk_e hr3).2.1
            refine rl_38l (s0 := s2) (d := d + 1) hts lt (fun I A J hq => ?_) (pp_cs ts t3).length 0 s2 I4 A4 J4 (by omega) et.symm hw4 (by rw [List.drop_zero]; exact hp1)
            have at5 : pp_at ts s' = 3 := by
              have e1 := (pp_tk_e hp2).1
              show pp_k ts (pq_pos s') = 3
              rw [← e1, et]; exact h3
            exact tail _ _ _ s4 (rq_tk hq hp2 (by rw [at5]; rfl) (by rw [at5]; rfl)) hk4
      · rw [if_neg h3] at hk2
        exact cg_I (rl_13f hts hw4 (fun c => h3 ((rk_2 _).mp c))) (cg_t rfl (tail _ _ _ s2 hw4 hk2))
end
