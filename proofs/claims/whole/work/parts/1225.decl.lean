theorem cq_Lu {a9 a10 rl mn : Nat → Int32} (h : cq_L a9 a10 rl mn) {t k k' : Nat} {x y : Int32} (hk : k = t) (hk' : k' = t) : cq_L (fun i => cond (Nat.beq i k) x (a9 i)) (fun i => cond (Nat.beq i k') y (a10 i)) (pp_fu rl t x) (pp_fu mn t y) := by
  subst hk; subst hk'
  intro i hi
  show cond (Nat.beq i k') x (a9 i) = (if i = k' then x else rl i) ∧ cond (Nat.beq i k') y (a10 i) = (if i = k' then y else mn i)
  by_cases e : i = k'
  · rw [if_pos e, if_pos e, e, Nat.beq_refl]; exact ⟨rfl, rfl⟩
  · rw [if_neg e, if_neg e, show Nat.beq i k' = false by exact nb_f e]; exact h i hi
theorem cq_Na {ts : List pp_T} {n y11 y12 y13 y14 y15 y16 : Int32} {a11 a12 a13 a14 a15 a16 f : Nat → Int32} {tn k : Nat} {dc : List pp_D} {x : pp_D} (h : cq_N ts n a11 a12 a13 a14 a15 a16 f tn dc) (hk : k = dc.length) (hl : dc.length < 80) (h11 : y11 = nI x.1) (h16 : y16 = nI x.2.1) (h12 : y12 = nI x.2.2.1) (h15 : y15 = nI x.2.2.2.1) (hG : cq_G f tn y13 y14 x.2.2.2.2) (hr : x.1 < ts.length ∧ x.2.1 < 1000 ∧ 1 ≤ x.2.2.1 ∧ x.2.2.1 ≤ 9 ∧ x.2.2.2.1 < 3) :
    cq_N ts (n + 1) (fun i => cond (Nat.beq i k) y11 (a11 i)) (fun i => cond (Nat.beq i k) y12 (a12 i)) (fun i => cond (Nat.beq i k) y13 (a13 i)) (fun i => cond (Nat.beq i k) y14 (a14 i)) (fun i => cond (Nat.beq i k) y15 (a15 i)) (fun i => cond (Nat.beq i k) y16 (a16 i)) f tn (dc ++ [x]) := by
  subst hk
  obtain ⟨h1, h2, h3⟩ := h
  have el : (dc ++ [x]).length = dc.length + 1 := by rw [List.length_append]; rfl
  refine ⟨by rw [h1, nI_1, el], by omega, fun i z hz => ?_⟩
  by_cases hi : i < dc.length
  · rw [List.getElem?_append_left hi] at hz
    simp only [show Nat.beq i dc.length = false by exact nb_f (by omega), cond_false]
    exact h3 i z hz
  · rw [List.getElem?_append_right (by omega)] at hz
    have hl2 : i = dc.length := by
      have : i - dc.length < [x].length := (List.getElem?_eq_some_iff.mp hz).1
      simp only [List.length_cons, List.length_nil] at this; omega
    subst hl2
    rw [Nat.sub_self] at hz
    have : x = z := by simpa using hz
    subst this
    simp only [Nat.beq_refl, cond_true]
    exact ⟨h11, h16, h12, h15, hG, hr⟩
section
variable {ts : List pp_T} {f0 f1 : Nat → Int32} {d : Nat}
theorem cl_49 (hts : pp_ok ts) {t : Nat} (ht : t < ts.length) (s : pp_S) : cq_U ts f0 f1 (ec_E (d + 2)) 49 [.ref 3, .int (nI t)] vV s (pp_use ts t s) := by
  have h160 := hts.1
  refine ⟨fun p h => ?_, ?_⟩
  · unfold pp_use at h; split at h <;> cases h
  rintro Q ⟨I, A, J⟩ hw v s1 hr
  unfold pp_use at hr
  split at hr
  · rename_i k hm
    obtain ⟨em, hl⟩ := pp_me_e hm
    have hk := hl k rfl
    have h80 : (pq_dc s).length ≤ 80 := hw.2.2.2.2.2.1.2.1
    have h45 := cl_45 (d := d) hts hw ht
    rw [← em] at h45
    have h1 := cl_so1 hw hk
    have ek : (nI t).toNatClampNeg = t := nI_clamp (by omega)
    obtain ⟨pos, op, cc, tn, tl, wt, pn, scs, sd, sig, frm, rl, mn, dc, fc⟩ := s
    cases hr
    obtain ⟨hT, h0, hP, hF, hY, hN, hS, hL, hQ⟩ := hw
    by_cases hs : pp_so (pos, op, cc, tn, tl, wt, pn, scs, sd, sig, frm, rl, mn, dc, fc) k = 1
    · refine ⟨_, _, _, ec_49 (r := (_, _)) ⟨_, _, _, _, h45, fun n => absurd n (oI_n (by omega)), fun _ => ⟨vp_in_nI (by omega) (by omega), fun _ => ⟨vp_in_nI (by omega) (by omega), vp_in_nI (by omega) (by omega), rfl⟩, fun n => absurd (h1.mpr hs) n⟩⟩, hT, h0, hP, hF, hY, hN, hS, ?_, hQ⟩
      rw [if_pos hs]
      exact cq_Lu hL ek ek
    · refine ⟨_, _, _, ec_49 (r := (_, _)) ⟨_, _, _, _, h45, fun n => absurd n (oI_n (by omega)), fun _ => ⟨vp_in_nI (by omega) (by omega), fun n => absurd (h1.mp n) hs, fun _ => ⟨vp_in_nI (by omega) (by omega), vp_in_nI (by omega) (by omega), rfl⟩⟩⟩, hT, h0, hP, hF, hY, hN, hS, ?_, hQ⟩
      rw [if_neg hs]
      exact cq_Lu hL ek ek
  · cases hr
theorem cl_51 {I A : ja_I} {J : ja_J} {tn tn0 ty : Nat} {c : Int32} (hn : I 8 1 = nI tn) (ht : tn ≤ 640) (hi : tn0 < tn) (hv : A 19 tn0 = c) (hc : cq_ch c) (hty : ty ≤ 1) : ec_E (d + 2) 51 [.ref 3, .int (nI tn0), .int (nI ty)] (I, A, J) (.inl (some (.int (nI (if ty = 1 then 1 else if c = 40 then 2 else 0))))) (I, A, J) := by
  by_cases h1 : ty = 1
  · subst h1
    rw [if_pos rfl]
    exact ec_51 (r := (_, _)) ⟨fun h => absurd h (by decide), fun _ => rfl⟩
  · obtain rfl : ty = 0 := by omega
    rw [if_neg h1]
    refine ec_51 (r := (_, _)) ⟨fun _ => ⟨c, I, A, J, cl_16t hn ht hi hv hc, ?_⟩, fun h => absurd rfl h⟩
    by_cases h2 : c = 40
    · rw [if_pos h2]
      exact ⟨fun _ => rfl, fun n => absurd h2 n⟩
    · rw [if_neg h2]
      exact ⟨fun n => absurd n h2, fun _ => rfl⟩
theorem cl_50 (hts : pp_ok ts) {t st tn0 ty : Nat} (hty : ty ≤ 1) (s : pp_S) : cq_U ts f0 f1 (ec_E (d + 3)) 50 [.ref 3, .int (nI t), .int (nI tn0), .int (nI ty)] vI s (pp_de ts t st tn0 ty s) := by
  have h160 := hts.1
  obtain ⟨pos, op, cc, tn, tl, wt, pn, scs, sd, sig, frm, rl, mn, dc, fc⟩ := s
  refine ⟨fun p h => ?_, ?_⟩
  · simp only [pp_de] at h; split at h <;> cases h
  rintro Q ⟨I, A, J⟩ hw v s1 hr
  simp only [pp_de] at hr
  split at hr
  · rename_i hb
    obtain ⟨b1, b2, b3, b4, b5, b6⟩ := hb
    cases hr
    obtain ⟨hT, h0, hP, hF, hY, hN, hS, hL, hQ⟩ := hw
    have e4 : I 3 4 = nI dc.length := hN.1
    have e8 : I 8 1 = nI tn := hY.1
    have h640 : tn ≤ 640 := hY.2.1
    have hsl : sig.length ≤ tn := hY.2.2.1
    have hh : cq_h (A 19) (tn - sig.length) sig := hY.2.2.2.1
    have hch : ∀ c ∈ sig, cq_ch c := hY.2.2.2.2
    have em : (if 79 < (I 3 4) then 79 else (I 3 4)) = nI dc.length := by
      rw [e4]; exact if_neg (nI_nlt (a := 79) (by omega) (by omega))
    have ec : (nI dc.length).toNatClampNeg = dc.length := nI_clamp (by omega)
    have et : (nI t).toNatClampNeg = t := nI_clamp (by omega)
    have e12 : I 3 12 = nI scs.length := hS.1
    have h9 : scs.length ≤ 9 := hS.2.2.1
    have hp : 0 < scs.length := List.length_pos_iff.mpr b2
    have v80 : vp_in (nI dc.length) 80 := vp_in_nI (by omega) (by omega)
    have vt : vp_in (nI t) 160 := vp_in_nI (by omega) (by omega)
    have hq : scs[scs.length - 1]? = some (scs.getLastD 0) := by
      rw [List.getLastD_eq_getLast?, List.getLast?_eq_getElem?, List.getElem?_eq_getElem (by omega)]; rfl
    obtain ⟨e17, lq⟩ := hS.2.2.2.2 _ _ hq
    have e17' : A 17 (I 3 12).toNatClampNeg = nI (scs.getLastD 0) := by
      rw [e12, nI_clamp (by omega), ← e17, show scs.length - 1 + 1 = scs.length by omega]
    have esp : sig = sig.take st ++ sig.drop st := (List.take_append_drop st sig).symm
    have hh2 : cq_h (A 19) tn0 (sig.drop st) := by
      have := hh
      rw [esp] at this
      have := (cq_ha.mp this).2
      rwa [List.length_append, List.length_take, List.length_drop, Nat.min_eq_left (by omega), show tn - (st + (sig.length - st)) + st = tn0 by omega] at this
    have hd0 : 0 < (sig.drop st).length := by rw [List.length_drop]; omega
    have hv : A 19 tn0 = (sig.drop st).headD 0 := by
      have := hh2 0 hd0
      rw [Nat.add_zero] at this
      rw [this]
      cases sig.drop st <;> rfl
    have hch2 : ∀ c ∈ sig.drop st, cq_ch c := fun c hc => hch c (List.mem_of_mem_drop hc)
    have hc : cq_ch ((sig.drop st).headD 0) := by
      cases hx : sig.drop st with
      | nil => rw [hx] at hd0; exact absurd hd0 (by decide)
      | cons a l => exact hch2 a (by rw [hx]; exact List.mem_cons_self)
    have h51 : ∀ B : ja_I, B 19 = A 19 → ec_E (d + 2) 51 [.ref 3, .int (nI tn0), .int (nI ty)] (I, B, J) (.inl (some (.int (nI (if ty = 1 then 1 else if (sig.drop st).headD 0 = 40 then 2 else 0))))) (I, B, J) :=
      fun B hB => cl_51 e8 h640 (by omega) (by rw [hB]; exact hv) hc hty
    have hG : cq_G (A 19) tn (nI tn0) (I 8 1) (sig.drop st) := ⟨tn0, rfl, by rw [e8, List.length_drop]; exact congrArg nI b6.symm, by rw [List.length_drop]; omega, hh2, hch2⟩
    have hso : (if ty = 1 then 1 else if (sig.drop st).headD 0 = 40 then 2 else 0) < 3 := by
      split
      · decide
      · split <;> decide
    have hN' : cq_N ts (nI dc.length) (A 11) (A 12) (A 13) (A 14) (A 15) (A 16) (A 19) tn dc := by rw [← e4]; exact hN
    have fin : ∀ role : Int32, role = (if ty = 1 then 3 else 4) → cq ts f0 f1 Q (ja_up I 3 4 (nI dc.length + 1), ja_up (ja_up (ja_up (ja_up (ja_up (ja_up (ja_up (ja_up A 11 dc.length (nI t)) 16 dc.length (nI (scs.getLastD 0))) 12 dc.length (I 3 12)) 13 dc.length (nI tn0)) 14 dc.length (I 8 1)) 15 dc.length (nI (if ty = 1 then 1 else if (sig.drop st).headD 0 = 40 then 2 else 0))) 9 t role) 10 t (nI dc.length), J) (pos, op, cc, tn, tl, wt, pn, scs, sd, sig, frm, pp_fu rl t (if ty = 1 then 3 else 4), pp_fu mn t (Int32.ofNat dc.length), dc ++ [(t, scs.getLastD 0, scs.length, if ty = 1 then 1 else if (sig.drop st).headD 0 = 40 then 2 else 0, sig.drop st)], fc) := by
      intro role hrole
      refine ⟨hT, h0, hP, hF, hY, ?_, hS, ?_, hQ⟩
      · exact cq_Na (x := (t, scs.getLastD 0, scs.length, _, sig.drop st)) hN' rfl b1 rfl rfl e12 rfl hG ⟨b4, lq, by show 1 ≤ scs.length; omega, h9, hso⟩
      · rw [← hrole]
        exact cq_Lu hL rfl rfl
    by_cases h1 : ty = 1
    · refine ⟨_, _, _, ec_50 (r := (_, (_, _, _))) ?_, fin 3 (by rw [if_pos h1])⟩
      rw [em, ec, e17', et]
      exact ⟨v80, by rw [e12]; exact vp_in_nI (by omega) (by omega), v80, v80, v80, v80, _, _, _, _, h51 _ rfl, v80, fun n => absurd n (by rw [h1]; decide), fun _ => ⟨vt, vt, rfl⟩⟩
    · refine ⟨_, _, _, ec_50 (r := (_, (_, _, _))) ?_, fin 4 (by rw [if_neg h1])⟩
      rw [em, ec, e17', et]
      exact ⟨v80, by rw [e12]; exact vp_in_nI (by omega) (by omega), v80, v80, v80, v80, _, _, _, _, h51 _ rfl, v80, fun _ => ⟨vt, vt, rfl⟩, fun n => absurd (by rw [show ty = 0 by omega]; rfl) n⟩
  · cases hr
theorem pp_tk_e {s s1 : pp_S} {t : Nat} (h : pp_tk ts s = some (.inr (t, s1))) : t = pq_pos s ∧ t < ts.length ∧ pq_sig s1 = pq_sig s ∧ pq_tn s1 = pq_tn s := by
  obtain ⟨pos, op, cc, tn, tl, wt, pn, scs, sd, sig, frm, rl, mn, dc, fc⟩ := s
  simp only [pp_tk] at h
  repeat' split at h
  all_goals first
    | (cases h; done)
    | (cases h; exact ⟨rfl, by omega, rfl, rfl⟩)
theorem cl_52 (hts : pp_ok ts) (s : pp_S) : cq_M ts f0 f1 (ec_E (d + 3)) 52 [.ref 21] vI s (pp_base ts s) := by
  have h160 := hts.1
  rintro Q ⟨I, A, J⟩ hw x hx
  refine cg_j ?_ (fun y h => ec_52 (r := y) h)
  have e1 : I 20 1 = nI (pq_pos s) := hw.2.2.1.1
  have hp : pq_pos s ≤ ts.length := hw.2.2.1.2.2.2.1
  rw [e1]
  unfold pp_base at hx
  cases hb : pp_ib ts s (pq_pos s) with
  | none => rw [hb] at hx; cases hx
  | some b =>
    rw [hb] at hx
    refine cg_I (cl_46 hts hw (by omega) hb) ?_
    cases b with
    | false =>
      cases hx
      exact cg_x cl_36f ⟨rfl, hw.2.1.1, hw.2.1.2, e1⟩
    | true =>
      refine cg_l (cg_V cl_36t (cg_bI (cl_37 hts s) hw hx fun t s1 I1 A1 J1 hr hw1 hk => ?_))
      obtain ⟨et, lt, _⟩ := pp_tk_e hr
      refine cg_I (cl_22w hts hw1 (by omega)) ?_
      by_cases h2 : pp_k ts t = 2
      · rw [if_pos h2] at hk
        refine cg_t h2 ?_
        have hu := cl_49 (f0 := f0) (f1 := f1) (d := d) hts lt s1
        cases x with
        | inl p => exact absurd hk (hu.1 p)
        | inr z =>
          obtain ⟨I2, A2, J2, hE, h2⟩ := hu.2 Q _ hw1 z.1 z.2 hk
          refine cg_V hE (cg_r ⟨?_, h2⟩)
          have : z.1 = t := by
            unfold pp_use at hk
            split at hk
            · cases hk; rfl
            · cases hk
          rw [this]
      · rw [if_neg h2] at hk
        cases hk
        exact cg_f h2 (cg_r ⟨rfl, hw1⟩)
theorem cl_53 (hts : pp_ok ts) {t : Nat} (ht : t < ts.length) (s : pp_S) : cq_U ts f0 f1 (ec_E (d + 3)) 53 [.ref 21, .int (nI t)] vV s (pp_wb ts t s) := by
  have h160 := hts.1
  refine cq_MU (fun p h => ?_) ?_
  · unfold pp_wb at h
    repeat' split at h
    all_goals first
      | exact absurd h (pp_pt_n _ _ _)
      | (cases h; done)
  rintro Q ⟨I, A, J⟩ hw x hx
  refine cg_j ?_ (fun y h => ec_53 (r := y) h)
  refine cg_I (cl_22w hts hw (by omega)) ?_
  unfold pp_wb at hx
  by_cases h5 : pp_k ts t = 5
  · rw [if_pos h5] at hx
    exact cg_t h5 (cg_uw (cl_17t (by exact rfl) s) hw hx)
  · rw [if_neg h5] at hx
    refine cg_f h5 ?_
    by_cases h6 : pp_k ts t = 6
    · rw [if_pos h6] at hx
      exact cg_t h6 (cg_uw (cl_17t (by exact rfl) s) hw hx)
    · rw [if_neg h6] at hx
      refine cg_f h6 ?_
      by_cases h7 : pp_k ts t = 7
      · rw [if_pos h7] at hx
        exact cg_t h7 (cg_uw (cl_17t (by exact rfl) s) hw hx)
      · rw [if_neg h7] at hx
        split at hx
        · rename_i hb
          rw [pp_pt_a] at hx
          have e10 : A 10 (nI t).toNatClampNeg = pq_mn s t := by
            rw [nI_clamp (by omega)]; exact (hw.2.2.2.2.2.2.2.1 t (by omega)).2
          refine cg_f h7 (cg_a (vp_in_nI (by omega) (by omega)) ?_)
          rw [e10, hb.2]
          exact cg_uV (cl_21t hb.1 s) hw hx fun v s1 I1 A1 J1 hr hw1 hk => cg_uw (cl_17t (by exact rfl) s1) hw1 hk
        · cases hx
end
