section
variable {ts : List pp_T} {f2 : Int32} {f1 : Nat → Int32} {d : Nat} {T : rq_A} {X : rq_X} {I A : ja_I} {J : ja_J} {s s1 s2 s3 : pp_S} {w : ja_w} {C : pp_C} {v : Nat}
/-- a name's role and meaning are noted, as the reference does it -/
theorem rq_use {st nm fs pl : Int32} {wl : List Int32} {k : Nat} (hts : pp_ok ts) (hw : rq ts f2 f1 T (st, nm, fs, wl, pl) (I, A, J) s) (hm : pp_me ts s (pq_pos s) = some (some k)) (hso : ¬ pp_so s k = 1) (hx : pp_use ts (pq_pos s) s = some (.inr (v, s1))) : rq ts f2 f1 T (st, nm, fs, wl, 1) (ja_up I 0 37 1, ja_up (ja_up A 5 (I 0 9).toNatClampNeg 2) 6 (I 0 9).toNatClampNeg (oI (some k)), J) s1 := by
  have h160 := hts.1
  have e9 : I 0 9 = nI (pq_pos s) := hw.2.2.1.1
  have lp : pq_pos s ≤ ts.length := hw.2.2.1.2.1
  unfold pp_use at hx
  rw [hm] at hx
  simp only at hx
  obtain ⟨pos, op, cc, tn, tl, wt, pn, scs, sd, sig, frm, rl, mn, dc, fc⟩ := s
  cases hx
  rw [if_neg hso]
  obtain ⟨hK, h0, hP, hT, hS, hN, hG, hF, hL, hX⟩ := rq_pl hw 1
  exact ⟨hK, h0, hP, hT, hS, hN, hG, hF, rq_Lu hL (cn_cl e9 (by omega)) (cn_cl e9 (by omega)), hX⟩
/-- primary -/
theorem rr_74 (hts : pp_ok ts) (H : rH ts f2 f1 (d + 9) C) : rM ts f2 f1 (d + 9) 33 0 (fun s => (tw s).1 + 20 ≤ 1200) [(34, 0)] gE (pp_74 ts C) := by
  have h160 := hts.1
  intro s T X w hs hw hT hX x hx
  have hs' : (tw s).1 + 20 ≤ 1200 := hs
  obtain ⟨I, A, J⟩ := w
  have h0 := rq_pop hw
  obtain ⟨I1, A1, J1, hE1, hw1⟩ := rl_11 (d := d + 6) h0 (by omega) 34 0
  have e9 : I1 0 9 = nI (pq_pos s) := hw1.2.2.1.1
  have lp : pq_pos s ≤ ts.length := hw1.2.2.1.2.1
  have v161 : vp_in (I1 0 9) 161 := cn_in e9 (by omega) (by omega)
  unfold pp_74 at hx
  by_cases h40 : pp_at ts s = 40
  · rw [if_pos h40] at hx
    have n1 : ¬ rk (pp_at ts s) = 1 := by rw [h40]; decide
    obtain ⟨I2, A2, J2, hE2, hw2⟩ := rl_11 (d := d + 6) hw1 (by rw [List.length_cons]; omega) 38 0
    obtain ⟨I3, A3, J3, hE3, hw3⟩ := rl_11 (d := d + 6) hw2 (by rw [List.length_cons, List.length_cons]; omega) 18 41
    obtain ⟨I4, A4, J4, hE4, hw4⟩ := rl_11 (d := d + 6) hw3 (by rw [List.length_cons, List.length_cons, List.length_cons]; omega) 22 0
    have step : ∀ y, pp_tk ts s = some y → rG (d + 9) (I, A, J) (rO f2 f1 y (fun _ s1 w' => rq ts f2 f1 ((22, 0) :: (18, 41) :: (38, 0) :: (34, 0) :: T) X w' s1)) := by
      intro y hy
      obtain ⟨I6, A6, J6, hE6, hw6⟩ := rl_15 (d := d + 5) hts hw4 (by rw [h40]; rfl) hy
      refine rt_33 hw ⟨I6, A6, J6, er_58 (r := (_, _)) ⟨_, _, _, hE1, 0, _, _, _, rl_13f hts hw1 n1, fun _ => ⟨1, _, _, _, rl_13t hts hw1 (by rw [h40]; rfl), fun n => absurd n (by decide), fun _ => ⟨_, _, _, hE2, _, _, _, hE3, _, _, _, hE4, _, _, _, hE6, rfl⟩⟩, fun n => absurd rfl n⟩, ?_⟩
      cases y with
      | inl p =>
        obtain ⟨rfl, e⟩ := hw6
        rw [e]
        exact (rb_of hw4).1
      | inr z => exact hw6
    refine rG_b hx step (fun v1 s1 w1 hr1 h1 hx => ?_)
    have t1 := pp_tk_tw hr1
    refine rG_b hx (fun y hy => rM_c H.2.1 (fun _ _ => trivial) h1 (by rw [List.length_cons, List.length_cons, List.length_cons, t1]; omega) (by rw [t1]; exact hX) hy) (fun v2 s2 w2 hr2 h2 hx => ?_)
    obtain ⟨⟨st, nm, fs, wl, pl⟩, hg, hw2⟩ := h2
    obtain ⟨I7, A7, J7⟩ := w2
    refine rG_b hx (fun y hy => rt_18s (d := d + 6) hts hw2 ⟨rfl, rfl, rfl⟩ hy) (fun v3 s3 w3 hr3 h3 hx => ?_)
    obtain ⟨I8, A8, J8⟩ := w3
    cases hx
    exact rG_m (rt_38 (d := d + 8) h3) (fun w5 h5 => ⟨(st, nm, fs, wl, 0), ⟨hg, rfl⟩, h5⟩)
  · rw [if_neg h40] at hx
    have n40 : ¬ rk (pp_at ts s) = 40 := fun c => h40 ((rk_o (by decide) (by decide) (by decide) _).mp c)
    by_cases h2 : pp_at ts s = 2
    · rw [if_pos h2] at hx
      have ht : pq_pos s < ts.length := by
        refine Nat.lt_of_not_le fun hle => ?_
        have : pp_at ts s = 0 := pp_k_ge hle
        exact absurd (this.symm.trans h2) (by decide)
      have h17 := rl_17 (d := d + 5) hts hw1 ht
      rw [← e9] at h17
      have n2 : ¬ rk (pp_at ts s) = 2 := by rw [h2]; decide
      have h80 : (pq_dc s).length ≤ 80 := hw1.2.2.2.2.2.1.2.1
      have row := fun (r : ja_O × ja_w) (h : _) => er_58 (d := d + 7) (r := r) (I := rpo I) (A := A) (J := J) ⟨_, _, _, hE1, 1, _, _, _, rl_13t hts hw1 (by rw [h2]; rfl), fun n => absurd n (by decide), fun _ => ⟨_, _, _, _, h17, 0, _, _, _, rl_13f hts hw1 n40, fun _ => ⟨0, _, _, _, rl_13f hts hw1 n2, fun _ => h, fun n => absurd rfl n⟩, fun n => absurd rfl n⟩⟩
      cases hb : pp_mt ts s (pq_pos s) with
      | none => rw [hb] at hx; cases hx
      | some b =>
        rw [hb] at hx
        unfold pp_mt at hb
        cases hm : pp_me ts s (pq_pos s) with
        | none => rw [hm] at hb; cases hb
        | some m =>
          rw [hm] at hb
          obtain ⟨em, hl⟩ := pp_me_r hm
          cases m with
          | none =>
            cases hb
            cases hx
            rw [em] at row
            refine rt_33 hw ⟨_, _, _, row (_, _) ⟨fun _ => ⟨_, _, _, rl_12, rfl⟩, fun n => absurd oI_neg n⟩, ?_⟩
            exact (rb_of hw1).1
          | some k =>
            have hk := hl k rfl
            have hxk : (pq_dc s)[k]? = some (pq_dc s)[k] := List.getElem?_eq_getElem hk
            have hh := hw1.2.2.2.2.2.1.2.2.2.2 k _ hxk
            have e13 : A1 13 (oI (some k)).toNatClampNeg = nI (pp_so s k) := by
              show A1 13 (nI k).toNatClampNeg = _
              rw [nI_clamp (by omega)]
              unfold pp_so
              rw [hxk]
              exact hh.2.2.2.1
            have l3 : pp_so s k < 3 := by
              unfold pp_so
              rw [hxk]
              exact hh.2.2.2.2.2.2.2.2.2.2.2.2
            have vk : vp_in (oI (some k)) 161 := vp_in_nI (by omega) (by omega)
            rw [em] at row
            by_cases hso : pp_so s k = 1
            · have hb2 : some (!Nat.beq (pp_so s k) 1) = some b := hb
              rw [hso] at hb2
              cases hb2
              cases hx
              refine rt_33 hw ⟨_, _, _, row (_, _) ⟨fun n => absurd n (oI_pos (by omega)), fun _ => ⟨vk, fun _ => ⟨_, _, _, rl_12, rfl⟩, fun n => absurd (e13.trans (by rw [hso]; rfl)) n⟩⟩, ?_⟩
              exact (rb_of hw1).1
            · have hb' : b = true := by
                have := Option.some.inj hb
                rw [← this, show Nat.beq (pp_so s k) 1 = false by exact nb_f hso]; rfl
              subst hb'
              have n13 : ¬ A1 13 (oI (some k)).toNatClampNeg = 1 := fun n => hso ((nI_eq (b := 1) (by omega) (by omega)).mp (e13.symm.trans n))
              have hx' : (pp_b (pp_use ts (pq_pos s) s) fun _ s => pp_b (pp_tk ts s) fun t s => pp_b (pp_75 ts t s) fun _ s => pp_ret 1 s) = some x := hx
              rcases pp_bE hx' with ⟨p, hr, hp⟩ | ⟨v1, s1, hr, hk1⟩
              · unfold pp_use at hr
                rw [hm] at hr
                obtain ⟨pos, op, cc, tn, tl, wt, pn, scs, sd, sig, frm, rl, mn, dc, fc⟩ := s
                cases hr
              · obtain ⟨st, nm, fs, wl, pl⟩ := X
                have hu := rq_use hts hw1 hm hso hr
                have epos := (pp_use_e hr).2.2.2
                have at1 : pp_at ts s1 = 2 := by
                  show pp_k ts (pq_pos s1) = 2
                  rw [epos]; exact h2
                rcases pp_bE hk1 with ⟨p, hr2, hp⟩ | ⟨t, s2, hr2, hk2⟩
                · exact absurd hr2 (pp_tk_n (by rw [at1]; rfl))
                · rcases pp_bE hk2 with ⟨p, hr3, hp⟩ | ⟨v3, s3, hr3, hk3⟩
                  · exact absurd hr3 (pp_pf_n _ _ _)
                  · cases hk3
                    unfold pp_75 at hr3
                    have et : t = pq_pos s := by rw [(pp_tk_e hr2).1, epos]
                    rw [et] at hr3
                    obtain ⟨s', hp1, hp2⟩ := pp_tk_pf hr2 hr3
                    rw [pp_pf_a] at hp1
                    rcases pp_bE hp1 with ⟨p, hr4, hp⟩ | ⟨v4, s4, hr4, hk4⟩
                    · exact absurd hr4 (pp_pf_n _ _ _)
                    · obtain ⟨I4, A4, J4, hE4, hw4⟩ := rl_29 (d := d + 5) hts hu ht hr4
                      obtain ⟨I5, A5, J5, ⟨hE5, _⟩, hw5⟩ := rl_26 (d := d + 6) hw4 hk4
                      have at5 : pp_at ts s' = 2 := by
                        have e1 := (pp_tk_e hp2).1
                        show pp_k ts (pq_pos s') = 2
                        rw [← e1, et]; exact h2
                      have hw6 := rq_tk hw5 hp2 (by rw [at5]; rfl) (by rw [at5]; rfl)
                      rw [← e9] at hE4
                      refine rt_33 hw ⟨_, _, _, row (_, _) ⟨fun n => absurd n (oI_pos (by omega)), fun _ => ⟨vk, fun n => absurd n n13, fun _ => ⟨1, _, _, _, rl_13t hts hw1 (by rw [h2]; rfl), Or.inr rfl, fun n => absurd n (by decide), fun _ => ⟨v161, v161, _, _, _, hE4, _, _, _, hE5, rfl⟩⟩⟩⟩, ?_⟩
                      exact ⟨(st, nm, fs, wl, 1), ⟨rfl, rfl⟩, hw6⟩
    · rw [if_neg h2] at hx
      have n1 : ¬ rk (pp_at ts s) = 1 := fun c => h2 ((rk_1 _).mp c)
      by_cases h3 : pp_at ts s = 3
      · have hr2 : rk (pp_at ts s) = 2 := (rk_2 _).mpr h3
        unfold pp_ex at hx
        rw [if_pos (show pp_k ts (pq_pos s) = 3 from h3)] at hx
        obtain ⟨st, nm, fs, wl, pl⟩ := X
        have hu := rq_pl hw1 0
        rcases pp_bE hx with ⟨p, hr, hp⟩ | ⟨t, s2, hr, hk2⟩
        · exact absurd hr (pp_tk_n (by rw [h3]; rfl))
        · rcases pp_bE hk2 with ⟨p, hr3, hp⟩ | ⟨v3, s3, hr3, hk3⟩
          · exact absurd hr3 (pp_pf_n _ _ _)
          · cases hk3
            unfold pp_75 at hr3
            have et : t = pq_pos s := (pp_tk_e hr).1
            have lt := (pp_tk_e hr).2.1
            obtain ⟨s', hp1, hp2⟩ := pp_tk_pf hr hr3
            rw [pp_pf_a] at hp1
            rcases pp_bE hp1 with ⟨p, hr4, hp⟩ | ⟨v4, s4, hr4, hk4⟩
            · exact absurd hr4 (pp_pf_n _ _ _)
            · obtain ⟨I4, A4, J4, hE4, hw4⟩ := rl_29 (d := d + 5) hts hu lt hr4
              obtain ⟨I5, A5, J5, ⟨hE5, _⟩, hw5⟩ := rl_26 (d := d + 6) hw4 hk4
              have at5 : pp_at ts s' = 3 := by
                have e1 := (pp_tk_e hp2).1
                show pp_k ts (pq_pos s') = 3
                rw [← e1, et]; exact h3
              have hw6 := rq_tk hw5 hp2 (by rw [at5]; rfl) (by rw [at5]; rfl)
              rw [et, ← e9] at hE4
              refine rt_33 hw ⟨_, _, _, er_58 (r := (_, _)) ⟨_, _, _, hE1, 0, _, _, _, rl_13f hts hw1 n1, fun _ => ⟨0, _, _, _, rl_13f hts hw1 n40, fun _ => ⟨1, _, _, _, rl_13t hts hw1 hr2, fun n => absurd n (by decide), fun _ => ⟨0, _, _, _, rl_13f hts hw1 n1, Or.inl rfl, fun _ => ⟨_, _, _, hE4, _, _, _, hE5, rfl⟩, fun n => absurd rfl n⟩⟩, fun n => absurd rfl n⟩, fun n => absurd rfl n⟩, ?_⟩
              exact ⟨(st, nm, fs, wl, 0), ⟨rfl, rfl⟩, hw6⟩
      · have n2 : ¬ rk (pp_at ts s) = 2 := fun c => h3 ((rk_2 _).mp c)
        unfold pp_ex at hx
        rw [if_neg (show ¬ pp_k ts (pq_pos s) = 3 from h3)] at hx
        cases hx
        refine rt_33 hw ⟨_, _, _, er_58 (r := (_, _)) ⟨_, _, _, hE1, 0, _, _, _, rl_13f hts hw1 n1, fun _ => ⟨0, _, _, _, rl_13f hts hw1 n40, fun _ => ⟨0, _, _, _, rl_13f hts hw1 n2, fun _ => ⟨fun _ => ⟨_, _, _, rl_12, rfl⟩, fun n => absurd (by decide) n⟩, fun n => absurd rfl n⟩, fun n => absurd rfl n⟩, fun n => absurd rfl n⟩, ?_⟩
        exact (rb_of hw1).1
end
