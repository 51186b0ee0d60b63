theorem pp_k_ge {ts : List pp_T} {t : Nat} (h : ts.length ≤ t) : pp_k ts t = 0 := by
  unfold pp_k; rw [List.getElem?_eq_none h]
abbrev bI (b : Bool) : Int32 := cond b 1 0
def oI (o : Option Nat) : Int32 := match o with
  | none => -1
  | some k => nI k
section
variable {ts : List pp_T} {f0 f1 : Nat → Int32} {d : Nat}
theorem cl_22 (hts : pp_ok ts) {I A : ja_I} {J : ja_J} (hT : cq_T ts (I 2 2) (A 6) (J 7)) {t : Nat} (ht : t < 2 ^ 31) : ec_E (d + 1) 22 [.ref 2, .int (nI t)] (I, A, J) (.inl (some (.int (pp_k ts t)))) (I, A, J) := by
  have h160 := hts.1
  by_cases h : t < ts.length
  · refine ec_22 (r := (_, _)) ⟨fun h => absurd h (nI_pos ht), fun _ => ⟨fun h' => absurd h' ?_, fun _ => ⟨vp_in_nI (by omega) (by omega), ?_⟩⟩⟩
    · rw [hT.1]; exact nI_ge h (by omega)
    · rw [nI_clamp ht, (hT.2 t h).1]
  · rw [pp_k_ge (by omega)]
    refine ec_22 (r := (_, _)) ⟨fun h => absurd h (nI_pos ht), fun _ => ⟨fun _ => rfl, fun h' => absurd ?_ h'⟩⟩
    rw [hT.1]; exact nI_le (by omega) ht
theorem cl_23 (hts : pp_ok ts) {I A : ja_I} {J : ja_J} (hT : cq_T ts (I 2 2) (A 6) (J 7)) {t : Nat} (h : t < ts.length) : ec_E (d + 1) 23 [.ref 2, .int (nI t)] (I, A, J) (.inl (some (.long (pp_wd ts t)))) (I, A, J) := by
  have h160 := hts.1
  refine ec_23 (r := (_, _)) ⟨fun h => absurd h (nI_pos (by omega)), fun _ => ⟨fun h' => absurd h' ?_, fun _ => ⟨vp_in_nI (by omega) (by omega), ?_⟩⟩⟩
  · rw [hT.1]; exact nI_ge h (by omega)
  · rw [nI_clamp (by omega), (hT.2 t h).2]
theorem cl_22w (hts : pp_ok ts) {Q : List (Int32 × List Int32)} {I A : ja_I} {J : ja_J} {s : pp_S} (hw : cq ts f0 f1 Q (I, A, J) s) {t : Nat} (ht : t < 2 ^ 31) : ec_E (d + 1) 22 [.ref 2, .int (nI t)] (I, A, J) (.inl (some (.int (pp_k ts t)))) (I, A, J) := cl_22 (I := I) (A := A) (J := J) hts hw.1 ht
theorem cl_23w (hts : pp_ok ts) {Q : List (Int32 × List Int32)} {I A : ja_I} {J : ja_J} {s : pp_S} (hw : cq ts f0 f1 Q (I, A, J) s) {t : Nat} (h : t < ts.length) : ec_E (d + 1) 23 [.ref 2, .int (nI t)] (I, A, J) (.inl (some (.long (pp_wd ts t)))) (I, A, J) := cl_23 (I := I) (A := A) (J := J) hts hw.1 h
theorem cl_33 {Q : List (Int32 × List Int32)} {I A : ja_I} {J : ja_J} {s : pp_S} (hw : cq ts f0 f1 Q (I, A, J) s) : ec_E (d + 1) 33 [.ref 20] (I, A, J) (.inl (some (.int (pp_at ts s)))) (I, A, J) := by
  have e : I 20 2 = pp_at ts s := hw.2.2.1.2.1
  rw [← e]
  exact ec_33 (r := (_, _)) rfl
theorem cl_34 (hts : pp_ok ts) {Q : List (Int32 × List Int32)} {I A : ja_I} {J : ja_J} {s : pp_S} (hw : cq ts f0 f1 Q (I, A, J) s) : ec_E (d + 2) 34 [.ref 20] (I, A, J) (.inl (some (.int (pp_nx ts s)))) (I, A, J) := by
  have e : I 20 1 = nI (pq_pos s) := hw.2.2.1.1
  have h1 : pq_pos s ≤ ts.length := hw.2.2.1.2.2.2.1
  have h160 := hts.1
  refine ec_34 (r := (_, _)) ⟨pp_nx ts s, I, A, J, ?_, rfl⟩
  rw [e, nI_1]
  exact cl_22w hts hw (by omega)
theorem cl_35 {Q : List (Int32 × List Int32)} {I A : ja_I} {J : ja_J} {s : pp_S} (hw : cq ts f0 f1 Q (I, A, J) s) (k : Int32) : ec_E (d + 1) 35 [.ref 20, .int k] (I, A, J) (.inl (some (.int (bI (pp_at ts s == k))))) (I, A, J) := by
  have e : I 20 2 = pp_at ts s := hw.2.2.1.2.1
  by_cases h : pp_at ts s = k
  · rw [show (pp_at ts s == k) = true by rw [h]; exact beq_self_eq_true k]
    exact ec_35 (r := (_, _)) ⟨fun _ => rfl, fun n => absurd (e.trans h) n⟩
  · rw [show (pp_at ts s == k) = false by exact beq_eq_false_iff_ne.mpr h]
    exact ec_35 (r := (_, _)) ⟨fun n => absurd (e.symm.trans n) h, fun _ => rfl⟩
theorem cl_36t {w : ja_w} : ec_E (d + 1) 36 [.ref 20, .int 1] w (.inl none) w := by
  obtain ⟨I, A, J⟩ := w
  exact ec_36 (r := (_, _)) ⟨fun h => absurd h (by decide), fun _ => rfl⟩
theorem cl_36f {w : ja_w} : ec_E (d + 1) 36 [.ref 20, .int 0] w (.inr 0) w := by
  obtain ⟨I, A, J⟩ := w
  exact ec_36 (r := (_, _)) ⟨fun _ => rfl, fun h => absurd rfl h⟩
theorem cl_37e (hts : pp_ok ts) {I A : ja_I} {J : ja_J} {pos op : Nat} (hT : cq_T ts (I 2 2) (A 6) (J 7)) (h1 : I 20 1 = nI pos) (h3 : I 20 3 = nI op) (hp : pos < ts.length) (ho : op ≤ 8) {C : ja_C} : ja_R (ja_code tc_37) C (.inl (some (.int (nI pos))), (ja_up (ja_up I 20 1 (nI (pos + 1))) 20 2 (pp_k ts (pos + 1)), A, J)) 114 [some (.ref 20)] [] (I, A, J) := by
  have h160 := hts.1
  refine bc_37_114 ⟨fun _ => ?_, fun h => absurd ?_ h⟩
  · rw [h1, nI_1]
    refine ⟨fun h => ?_, fun h => ⟨?_, ?_⟩⟩
    · rw [hT.1] at h
      rw [nI_pred, pp_k_ge ((nI_leI (by omega) (by omega)).mp h)]
    · rw [hT.1] at h
      have := mt (nI_leI (a := ts.length) (b := pos + 1) (by omega) (by omega)).mpr h
      exact vp_in_nI (by omega) (by omega)
    · rw [hT.1] at h
      have := mt (nI_leI (a := ts.length) (b := pos + 1) (by omega) (by omega)).mpr h
      rw [nI_pred, nI_clamp (by omega), (hT.2 (pos + 1) (by omega)).1]
  · rw [h3]; exact nI_le (b := 8) (by omega) (by omega)
theorem cl_37x {I A : ja_I} {J : ja_J} {op : Nat} (h3 : I 20 3 = nI op) (ho : 8 < op) (ho2 : op < 100) {C : ja_C} : ja_R (ja_code tc_37) C (.inr 0, (I, A, J)) 114 [some (.ref 20)] [] (I, A, J) := by
  refine bc_37_114 ⟨fun h => absurd h ?_, fun _ => rfl⟩
  rw [h3]; exact nI_ge (a := 8) (by omega) (by omega)
/-- the switch of take -/
theorem cl_37s {I A : ja_I} {J : ja_J} {C : ja_C} {r : ja_O × ja_w} {k : Int32} (e : I 20 2 = k) (h1 : pp_opens k = true → ja_R (ja_code tc_37) C r 88 [some (.ref 20)] [] (I, A, J)) (h2 : pp_opens k = false → pp_shuts k = true → ja_R (ja_code tc_37) C r 101 [some (.ref 20)] [] (I, A, J)) (h3 : pp_opens k = false → pp_shuts k = false → ja_R (ja_code tc_37) C r 114 [some (.ref 20)] [] (I, A, J)) : ja_R (ja_code tc_37) C r 0 [some (.ref 20)] [] (I, A, J) := by
  refine bc_37_0 ?_
  rw [e]
  refine ⟨fun h => h1 (by rw [h]; rfl), fun n8 => ⟨fun h => h1 (by rw [h]; rfl), fun n9 => ⟨fun h => h1 (by rw [h]; rfl), fun n10 => ⟨fun h => h1 (by rw [h]; rfl), fun n40 => ⟨fun h => h2 (by rw [h]; rfl) (by rw [h]; rfl), fun n41 => ⟨fun h => h1 (by rw [h]; rfl), fun n91 => ⟨fun h => h2 (by rw [h]; rfl) (by rw [h]; rfl), fun n93 => ⟨fun h => h1 (by rw [h]; rfl), fun n123 => ⟨fun h => h2 (by rw [h]; rfl) (by rw [h]; rfl), fun n125 => h3 ?_ ?_⟩⟩⟩⟩⟩⟩⟩⟩⟩
  · simp [pp_opens, n8, n9, n10, n40, n91, n123]
  · simp [pp_shuts, n41, n93, n125]
theorem cl_37 (hts : pp_ok ts) (s : pp_S) : cq_M ts f0 f1 (ec_E (d + 1)) 37 [.ref 20] vI s (pp_tk ts s) := by
  rintro Q ⟨I, A, J⟩ hw x hx
  obtain ⟨pos, op, cc, tn, tl, wt, pn, scs, sd, sig, frm, rl, mn, dc, fc⟩ := s
  obtain ⟨hT, h0, hP, hR⟩ := hw
  have e1 : I 20 1 = nI pos := hP.1
  have e2 : I 20 2 = pp_k ts pos := hP.2.1
  have e3 : I 20 3 = nI op := hP.2.2.1
  simp only [pp_tk] at hx
  split at hx
  · cases hx
  · rename_i hp
    split at hx
    · cases hx
    · rename_i ho
      split at hx
      · rename_i hk
        have e4 : (ja_up I 20 3 ((I 20 3) + 1)) 20 3 = nI (op + 1) := by
          show (I 20 3) + 1 = _
          rw [e3, nI_1]
        split at hx
        · rename_i h8
          cases hx
          refine ⟨(.inr 0, _), And.intro rfl (cl_37s e2 (fun _ => bc_37_88 (cl_37x e4 (by omega) (by omega))) (fun h => absurd (hk.symm.trans h) (by decide)) (fun h => absurd (hk.symm.trans h) (by decide))), rfl, h0.1, h0.2, e1⟩
        · rename_i h8
          cases hx
          refine ⟨(.inl (some (.int (nI pos))), (ja_up (ja_up (ja_up I 20 3 ((I 20 3) + 1)) 20 1 (nI (pos + 1))) 20 2 (pp_k ts (pos + 1)), A, J)), And.intro rfl (cl_37s e2 (fun _ => bc_37_88 (cl_37e (I := ja_up I 20 3 ((I 20 3) + 1)) hts hT e1 e4 (by omega) (by omega))) (fun h => absurd (hk.symm.trans h) (by decide)) (fun h => absurd (hk.symm.trans h) (by decide))), rfl, hT, h0, ⟨rfl, rfl, e4, by show pos + 1 ≤ _; omega, by show op + 1 ≤ 8; omega⟩, hR⟩
      · rename_i hk
        have hk' : pp_opens (pp_k ts pos) = false := by simpa using hk
        split at hx
        · rename_i hs
          split at hx
          · cases hx
          · rename_i h8
            have e4 : (ja_up I 20 3 ((I 20 3) - 1)) 20 3 = nI (op - 1) := by
              show (I 20 3) - 1 = _
              rw [e3]
              obtain ⟨o, rfl⟩ : ∃ o, op = o + 1 := ⟨op - 1, by omega⟩
              exact nI_pred o
            cases hx
            refine ⟨(.inl (some (.int (nI pos))), (ja_up (ja_up (ja_up I 20 3 ((I 20 3) - 1)) 20 1 (nI (pos + 1))) 20 2 (pp_k ts (pos + 1)), A, J)), And.intro rfl (cl_37s e2 (fun h => absurd (hk'.symm.trans h) (by decide)) (fun _ _ => bc_37_101 (cl_37e (I := ja_up I 20 3 ((I 20 3) - 1)) hts hT e1 e4 (by omega) (by omega))) (fun _ h => absurd (hs.symm.trans h) (by decide))), rfl, hT, h0, ⟨rfl, rfl, e4, by show pos + 1 ≤ _; omega, by show op - 1 ≤ 8; omega⟩, hR⟩
        · rename_i hs
          have hs' : pp_shuts (pp_k ts pos) = false := by simpa using hs
          cases hx
          refine ⟨(.inl (some (.int (nI pos))), (ja_up (ja_up I 20 1 (nI (pos + 1))) 20 2 (pp_k ts (pos + 1)), A, J)), And.intro rfl (cl_37s e2 (fun h => absurd (hk'.symm.trans h) (by decide)) (fun _ h => absurd (hs'.symm.trans h) (by decide)) (fun _ _ => cl_37e hts hT e1 e3 (by omega) (by omega))), rfl, hT, h0, ⟨rfl, rfl, e3, by show pos + 1 ≤ _; omega, by show op ≤ 8; omega⟩, hR⟩
theorem cl_38 (hts : pp_ok ts) (k : Int32) (s : pp_S) : cq_M ts f0 f1 (ec_E (d + 2)) 38 [.ref 20, .int k] vI s (pp_ex ts k s) := by
  rintro Q ⟨I, A, J⟩ hw x hx
  have e : I 20 2 = pp_k ts (pq_pos s) := hw.2.2.1.2.1
  refine cg_j ?_ (fun y h => ec_38 (r := y) h)
  unfold pp_ex at hx
  by_cases h : pp_k ts (pq_pos s) = k
  · rw [if_pos h] at hx
    refine cg_t (e.trans h) (cg_l (cg_V cl_36t ?_))
    obtain ⟨⟨o, w1⟩, hE, ho⟩ := cl_37 (d := d) hts s Q _ hw x hx
    cases x with
    | inl p =>
      obtain ⟨h1, h2⟩ := ho
      obtain rfl : o = .inr 0 := h1
      exact cg_x hE ⟨rfl, h2⟩
    | inr z =>
      obtain ⟨h1, h2⟩ := ho
      obtain rfl : o = .inl (vI z.1) := h1
      exact cg_l (cg_I hE (cg_r ⟨rfl, h2⟩))
  · rw [if_neg h] at hx
    cases hx
    exact cg_f (fun n => h (e.symm.trans n)) (cg_x cl_36f ⟨rfl, hw.2.1.1, hw.2.1.2, hw.2.2.1.1⟩)
theorem cl_39 (s : pp_S) : cq_U ts f0 f1 (ec_E (d + 1)) 39 [.ref 20] vV s (pp_es s) := by
  obtain ⟨pos, op, cc, tn, tl, wt, pn, scs, sd, sig, frm, rl, mn, dc, fc⟩ := s
  refine ⟨fun p h => ?_, ?_⟩
  · simp only [pp_es] at h; split at h <;> cases h
  rintro Q ⟨I, A, J⟩ hw v s1 hr
  obtain ⟨hT, h0, hP, hR⟩ := hw
  simp only [pp_es] at hr
  split at hr
  · cases hr
  · rename_i h8
    cases hr
    have e3 : I 20 3 = nI op := hP.2.2.1
    have h5 : op ≤ 8 := hP.2.2.2.2
    refine ⟨_, _, _, ec_39 (r := (_, _)) rfl, hT, h0, ⟨hP.1, hP.2.1, ?_, hP.2.2.2.1, by show op - 1 ≤ 8; omega⟩, hR⟩
    show (I 20 3) - 1 = nI (op - 1)
    rw [e3]
    obtain ⟨o, rfl⟩ : ∃ o, op = o + 1 := ⟨op - 1, by omega⟩
    exact nI_pred o
theorem cl_41 {Q : List (Int32 × List Int32)} {I A : ja_I} {J : ja_J} {s : pp_S} (hw : cq ts f0 f1 Q (I, A, J) s) : ec_E (d + 1) 41 [.ref 3] (I, A, J) (.inl (some (.int (nI (pq_sd s).length)))) (I, A, J) := by
  have e : I 3 13 = nI (pq_sd s).length := hw.2.2.2.2.2.2.1.2.1
  rw [← e]
  exact ec_41 (r := (_, _)) rfl
theorem cl_42 (s : pp_S) : cq_U ts f0 f1 (ec_E (d + 1)) 42 [.ref 3] vI s (pp_ns s) := by
  obtain ⟨pos, op, cc, tn, tl, wt, pn, scs, sd, sig, frm, rl, mn, dc, fc⟩ := s
  refine ⟨fun p h => ?_, ?_⟩
  · simp only [pp_ns] at h; split at h <;> cases h
  rintro Q ⟨I, A, J⟩ hw v s1 hr
  obtain ⟨hT, h0, hP, hF, hY, hN, hS, hL, hQ⟩ := hw
  simp only [pp_ns] at hr
  split at hr
  · rename_i hb
    cases hr
    have e : I 3 13 = nI sd.length := hS.2.1
    have e2 : (I 3 13 + 1) - 1 = nI sd.length := by rw [e, nI_1, nI_pred]
    refine ⟨ja_up I 3 13 ((I 3 13) + 1), A, J, ec_42 (r := (_, _)) (by rw [e2]), hT, h0, hP, hF, hY, hN, ⟨hS.1, ?_, hS.2.2.1, ?_, hS.2.2.2.2⟩, hL, hQ⟩
    · show I 3 13 + 1 = _
      rw [e, nI_1]
      exact congrArg nI (List.length_append (as := sd) (bs := [scs.length + 1])).symm
    · show (sd ++ [scs.length + 1]).length ≤ 1000
      rw [List.length_append]; simp only [List.length_cons, List.length_nil]; omega
  · cases hr
theorem cl_43 (q : Nat) (s : pp_S) : cq_U ts f0 f1 (ec_E (d + 1)) 43 [.ref 3, .int (nI q)] vV s (pp_os q s) := by
  obtain ⟨pos, op, cc, tn, tl, wt, pn, scs, sd, sig, frm, rl, mn, dc, fc⟩ := s
  refine ⟨fun p h => ?_, ?_⟩
  · simp only [pp_os] at h; split at h <;> cases h
  rintro Q ⟨I, A, J⟩ hw v s1 hr
  obtain ⟨hT, h0, hP, hF, hY, hN, hS, hL, hQ⟩ := hw
  simp only [pp_os] at hr
  split at hr
  · rename_i hb
    cases hr
    have e : I 3 12 = nI scs.length := hS.1
    have e1 : I 3 12 + 1 = nI (scs.length + 1) := by rw [e, nI_1]
    have ek : (I 3 12 + 1).toNatClampNeg = scs.length + 1 := cn_cl e1 (by omega)
    have el : (scs ++ [q]).length = scs.length + 1 := by rw [List.length_append]; rfl
    refine ⟨_, _, _, ec_43 (r := (_, _)) ⟨fun h => absurd h ?_, fun _ => ⟨?_, rfl⟩⟩, hT, h0, hP, hF, hY, hN, ⟨?_, hS.2.1, ?_, hS.2.2.2.1, ?_⟩, hL, hQ⟩
    · rw [e]; exact nI_nlt (a := 8) (b := scs.length) (by omega) (by omega)
    · exact cn_in e1 (by omega) (by omega)
    · show I 3 12 + 1 = _
      rw [e1]; exact congrArg nI el.symm
    · show (scs ++ [q]).length ≤ 9
      omega
    · intro i q' hi
      show cond (Nat.beq (i + 1) (I 3 12 + 1).toNatClampNeg) (nI q) (A 17 (i + 1)) = nI q' ∧ q' < 1000
      rw [ek]
      have hi' : (scs ++ [q])[i]? = some q' := hi
      by_cases hl : i < scs.length
      · rw [List.getElem?_append_left hl] at hi'
        rw [show Nat.beq (i + 1) (scs.length + 1) = false by exact nb_f (by omega)]
        exact hS.2.2.2.2 i q' hi'
      · rw [List.getElem?_append_right (by omega)] at hi'
        have hl2 : i = scs.length := by
          have : i - scs.length < [q].length := (List.getElem?_eq_some_iff.mp hi').1
          simp only [List.length_cons, List.length_nil] at this; omega
        subst hl2
        rw [Nat.sub_self] at hi'
        have : q = q' := by simpa using hi'
        subst this
        rw [Nat.beq_refl]
        exact ⟨rfl, hb.2⟩
  · cases hr
theorem cl_44 (s : pp_S) : cq_U ts f0 f1 (ec_E (d + 1)) 44 [.ref 3] vV s (pp_xs s) := by
  obtain ⟨pos, op, cc, tn, tl, wt, pn, scs, sd, sig, frm, rl, mn, dc, fc⟩ := s
  refine ⟨fun p h => ?_, ?_⟩
  · simp only [pp_xs] at h; split at h <;> cases h
  rintro Q ⟨I, A, J⟩ hw v s1 hr
  obtain ⟨hT, h0, hP, hF, hY, hN, hS, hL, hQ⟩ := hw
  simp only [pp_xs] at hr
  split at hr
  · cases hr
  · rename_i hb
    cases hr
    have e : I 3 12 = nI scs.length := hS.1
    have hl : 0 < scs.length := List.length_pos_iff.mpr hb
    have h9 : scs.length ≤ 9 := hS.2.2.1
    refine ⟨_, _, _, ec_44 (r := (_, _)) ⟨fun h => absurd h ?_, fun _ => rfl⟩, hT, h0, hP, hF, hY, hN, ⟨?_, hS.2.1, ?_, hS.2.2.2.1, ?_⟩, hL, hQ⟩
    · rw [e]; exact nI_nle hl (by omega)
    · show I 3 12 - 1 = nI scs.dropLast.length
      rw [e, List.length_dropLast]
      obtain ⟨o, ho⟩ : ∃ o, scs.length = o + 1 := ⟨scs.length - 1, by omega⟩
      rw [ho]; exact nI_pred o
    · show scs.dropLast.length ≤ 9
      rw [List.length_dropLast]; omega
    · intro i q' hi
      have hi' : scs.dropLast[i]? = some q' := hi
      rw [List.getElem?_dropLast] at hi'
      split at hi'
      · exact hS.2.2.2.2 i q' hi'
      · cases hi'
end
