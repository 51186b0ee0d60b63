section
variable {p : Program} {l : Launch} {e : Env} {s : State} {m : MethodId} {below : List Frame} {meth : Method} {c : Code} {D : va_G} {dA : Nat → ClassId} {aC aR : Nat → Nat} {b L ao t : Nat} {xs : Nat → Int32} {Q : State → Prop} {u : vU} {wC wR : ja_w} {f : Nat → Int64} {c0 s0 : Nat} {H : Heap} {locs : List Loc} {ls : Array Slot} {k5 k6 : Option Value}
theorem lw_c10 (X : lX p l s m c D dA aC aR b L xs) (ht : 4 * t + 4 ≤ L) (hu : cV u wC) (hr : rV u wR) (hl : ja_has (fun q => q) ls 7 (lLo b (aC 0) (aR 0) ao (nI (4 * t)) k5 k6)) (hP : va_P D jn_cl (lcs dA aC aR ao wC wR f) H) (hD : va_D (fun q => s.heap.size ≤ q) (lcs dA aC aR ao wC wR f)) (hS : va_S (fun q => s.heap.size ≤ q) s.heap H locs) (hc : c0 + 2 ≤ 601024) (hs : s0 + 12 ≤ 7293034) (kk : lK p l e s m below meth c D dA aC aR b ao t c0 s0 Q) : W p l e room_1 s m #[Value.ref b] below meth c H locs c0 s0 Q (F0 m 459 ls []) := by
  obtain ⟨hC, hK, hzC, hzR, hX, hbl, hlt, hL⟩ := X
  obtain ⟨tx, tt, n, rl, mn, dc, frm⟩ := u
  have hx := hC.1
  have hb := hC.2.1
  have hown := hC.2.2.2.1
  have hts := hC.2.2.2.2
  have hA : ∀ q : Nat, s.heap.size ≤ q → s.heap.size ≤ q := fun _ h => h
  have hbA : ¬ s.heap.size ≤ b := by omega
  have h160 : tx.length ≤ 160 := hu.1.1.1
  have hn160 : n ≤ 160 := hu.2.2.1.2.1
  have h80 : dc.length ≤ 80 := hu.2.2.2.2.2.1
  have h640 : frm.length ≤ 640 := hu.2.2.2.1.2.1
  obtain ⟨IC, AC, JC⟩ := wC
  obtain ⟨IR, AR, JR⟩ := wR
  unfold lcs at hP hD
  unfold lK at kk
  unfold lcs at kk
  have hE1 := cv_10 (d := 0) hu (xs (nI (4 * t) + 1).toNatClampNeg)
  have hE2 := rv_76 (d := 0) hr h640 (xs (nI (4 * t) + 1).toNatClampNeg)
  cases hq : a_fo frm (xs (nI (4 * t) + 1).toNatClampNeg) with
  | none =>
    rw [hq] at hE1 hE2
    have hE1 : ec_E 2 10 [.ref 0, .int (xs (nI (4 * t) + 1).toNatClampNeg)] (IC, AC, JC) (.inr 1) (IC, AC, JC) := hE1
    have hE2 : er_E 1 76 [.ref 0, .int (xs (nI (4 * t) + 1).toNatClampNeg)] (IR, AR, JR) (.inl (some (.int 0))) (ja_up IR 0 0 1, AR, JR) := hE2
    refine lv_aload_n hx hb dw_459 rfl (hl.2.2 1 (.ref (aC 0)) rfl) ?_
    refine lv_aload_n hx hb dw_460 rfl (hl.2.2 0 (.ref b) rfl) ?_
    refine lv_iload hx hb dw_461 (hl.2.2 4 (.int _) rfl) ?_
    refine lv_iconst (v := 1) hx hb dw_463 (by decide) ?_
    refine lv_iadd hx hb dw_464 ?_
    refine va_sld hx hb hX hbl hbA hS (l_in1 ht hL) dw_465 ?_
    refine lv_aload_n hx hb dw_466 rfl (hl.2.2 3 (.ref ao) rfl) ?_
    have hM1 := lh_6t (l := l) (D := D) (dA := dA) (ad := aC) (ao := ao) (f := f) (d := 2) (l_atC (IC, AC, JC)) (ltC_10 (D := D) (dA := dA) (ad := aC) hlt hE1) ⟨rfl, rfl, rfl, rfl⟩
    refine l_S (ad := aC) (A := fun q => s.heap.size ≤ q) (As := [.ref (aC 0), .int (xs (nI (4 * t) + 1).toNatClampNeg), .ref ao]) (rest := []) (mc := 1) (ms := 6) hC hK hzC hA (na := 3) (y := yl_6) (wj := wl_6) rfl (lM_fr (hM1)) (l_gW jl_849) jl_847 jl_848 jl_0 (by decide +kernel) rfl rfl ⟨by show 14 + 2 + 1 ≤ 2048; decide, by show 8 + (4 + 11) + (400 + 40 * 2) ≤ 84000; decide⟩ dw_467 rfl hl.1 (Nat.le_of_ble_eq_true rfl) ⟨by show _ + 1 ≤ 601024; omega, by show _ + 6 ≤ 7293034; omega⟩ (lP_s2 hP) (lD_s2 hD) hS (fun H1 locs1 hP1 hD1 hS1 => ?_)
    have hP1 := lP_s3 hP1
    have hD1 := lD_s3 hD1
    refine lv_istore hx hb dw_470 (ja_lv hl) (by decide) rfl (fun ls2 hq2 => ?_)
    have hl2 := ja_s1 (v := .int 1) rfl hq2
    refine lv_aload_n hx hb dw_472 rfl (hl2.2.2 2 (.ref (aR 0)) rfl) ?_
    refine lv_aload_n hx hb dw_473 rfl (hl2.2.2 0 (.ref b) rfl) ?_
    refine lv_iload hx hb dw_474 (hl2.2.2 4 (.int _) rfl) ?_
    refine lv_iconst (v := 1) hx hb dw_476 (by decide) ?_
    refine lv_iadd hx hb dw_477 ?_
    refine va_sld hx hb hX hbl hbA hS1 (l_in1 ht hL) dw_478 ?_
    have hM3 : lM l D dA aR yr_76 (Cond.code yr_76 cr_76 2 (some .int) :: jn_T) (ja_rm 1 (.inl (some (.int _)))) [.ref (aR 0), .int (xs (nI (4 * t) + 1).toNatClampNeg)] (ja_ws dA aR jl_r (IR, AR, JR)) (some (.int _)) (ja_ws dA aR jl_r _) 0 0 := lmR_76 hlt hE2
    refine l_V (y := yr_76) (wj := Cond.code yr_76 cr_76 2 (some .int) :: jn_T) (b := aR 0) (q0 := 0) (ad := aR) (A := fun q => s.heap.size ≤ q) (As := [.int (xs (nI (4 * t) + 1).toNatClampNeg)]) (rest := []) (mc := 0) (ms := 0) hC hK hzR hA (ci := 0) (na := 1) rfl rfl (lM_fr hM3) (l_lt (l_atR _)) (jn_gV jl_1291 jl_1292 jl_1293 jl_9 jl_1294) (by decide +kernel) rfl rfl ⟨by show 12 + 1 + 1 ≤ 2048; decide, by show 8 + (2 + 11) + (300 + 40 * 1) ≤ 84000; decide⟩ dw_479 rfl hl2.1 (Nat.le_of_ble_eq_true rfl) ⟨by show _ + 0 ≤ 601024; omega, by show _ + 0 ≤ 7293034; omega⟩ (lP_sw hP1) (lD_sw hD1) hS1 (fun H3 locs3 hP3 hD3 hS3 => ?_)
    have hP3 := lP_sw hP3
    have hD3 := lD_sw hD3
    refine lv_istore hx hb dw_482 (ja_lv hl2) (by decide) rfl (fun ls4 hq4 => ?_)
    have hl4 := ja_s1 (v := .int 0) rfl hq4
    refine lv_aload_n hx hb dw_484 rfl (hl4.2.2 2 (.ref (aR 0)) rfl) ?_
    have hM5 : lM l D dA aR yr_0 (Cond.code yr_0 cr_0 1 (some .int) :: jn_T) (ja_rm 1 (.inl (some (.int _)))) [.ref (aR 0)] (ja_ws dA aR jl_r (ja_up IR 0 0 1, AR, JR)) (some (.int _)) (ja_ws dA aR jl_r _) 0 0 := lmR_0 hlt (rv_0 (d := 0))
    refine l_V (y := yr_0) (wj := Cond.code yr_0 cr_0 1 (some .int) :: jn_T) (b := aR 0) (q0 := 0) (ad := aR) (A := fun q => s.heap.size ≤ q) (As := []) (rest := []) (mc := 0) (ms := 0) hC hK hzR hA (ci := 0) (na := 0) rfl rfl (lM_fr hM5) (l_lt (l_atR _)) (jn_gV jl_981 jl_982 jl_983 jl_9 jl_984) (by decide +kernel) rfl rfl ⟨by show 12 + 1 + 1 ≤ 2048; decide, by show 8 + (1 + 11) + (300 + 40 * 1) ≤ 84000; decide⟩ dw_485 rfl hl4.1 (Nat.le_of_ble_eq_true rfl) ⟨by show _ + 0 ≤ 601024; omega, by show _ + 0 ≤ 7293034; omega⟩ (lP_sw hP3) (lD_sw hD3) hS3 (fun H5 locs5 hP5 hD5 hS5 => ?_)
    have hP5 := lP_sw hP5
    have hD5 := lD_sw hD5
    refine lv_iload hx hb dw_488 (hl4.2.2 5 (.int _) rfl) ?_
    refine lv_icmp_eq hx hb dw_490 (tgt := 495) (by decide) (fun _ => ?_) (fun h => absurd rfl h)
    refine lv_iload hx hb dw_495 (hl4.2.2 5 (.int _) rfl) ?_
    refine lv_if_ne hx hb dw_497 (tgt := 512) (by decide) (fun _ => ?_) (fun h => absurd h (by decide))
    refine lv_goto hx hb dw_512 (tgt := 515) (by decide) ?_
    exact W.widen (by omega) (by omega) (kk _ _ _ _ _ _ _ _ _ hu (rV_0 hr) hl4 hP5 hD5 hS5)
  | some z =>
    rw [hq] at hE1 hE2
    have hE1 : ec_E 2 10 [.ref 0, .int (xs (nI (4 * t) + 1).toNatClampNeg)] (IC, AC, JC) (.inl (some (.int z))) (IC, AC, JC) := hE1
    have hE2 : er_E 1 76 [.ref 0, .int (xs (nI (4 * t) + 1).toNatClampNeg)] (IR, AR, JR) (.inl (some (.int z))) (ja_up IR 0 0 0, AR, JR) := hE2
    refine lv_aload_n hx hb dw_459 rfl (hl.2.2 1 (.ref (aC 0)) rfl) ?_
    refine lv_aload_n hx hb dw_460 rfl (hl.2.2 0 (.ref b) rfl) ?_
    refine lv_iload hx hb dw_461 (hl.2.2 4 (.int _) rfl) ?_
    refine lv_iconst (v := 1) hx hb dw_463 (by decide) ?_
    refine lv_iadd hx hb dw_464 ?_
    refine va_sld hx hb hX hbl hbA hS (l_in1 ht hL) dw_465 ?_
    refine lv_aload_n hx hb dw_466 rfl (hl.2.2 3 (.ref ao) rfl) ?_
    have hM1 := lh_6r (l := l) (D := D) (dA := dA) (ad := aC) (ao := ao) (f := f) (d := 2) (l_atC (IC, AC, JC)) (lmC_10 (D := D) (dA := dA) (ad := aC) hlt hE1) ⟨rfl, rfl, rfl, rfl⟩
    refine l_S (ad := aC) (A := fun q => s.heap.size ≤ q) (As := [.ref (aC 0), .int (xs (nI (4 * t) + 1).toNatClampNeg), .ref ao]) (rest := []) (mc := 0) (ms := 0) hC hK hzC hA (na := 3) (y := yl_6) (wj := wl_6) rfl (lM_fr (hM1)) (l_gW jl_849) jl_847 jl_848 jl_0 (by decide +kernel) rfl rfl ⟨by show 14 + 2 + 1 ≤ 2048; decide, by show 8 + (4 + 11) + (400 + 40 * 2) ≤ 84000; decide⟩ dw_467 rfl hl.1 (Nat.le_of_ble_eq_true rfl) ⟨by show _ + 0 ≤ 601024; omega, by show _ + 0 ≤ 7293034; omega⟩ (lP_s2 hP) (lD_s2 hD) hS (fun H1 locs1 hP1 hD1 hS1 => ?_)
    have hP1 := lP_s3 hP1
    have hD1 := lD_s3 hD1
    refine lv_istore hx hb dw_470 (ja_lv hl) (by decide) rfl (fun ls2 hq2 => ?_)
    have hl2 := ja_s1 (v := .int 0) rfl hq2
    refine lv_aload_n hx hb dw_472 rfl (hl2.2.2 2 (.ref (aR 0)) rfl) ?_
    refine lv_aload_n hx hb dw_473 rfl (hl2.2.2 0 (.ref b) rfl) ?_
    refine lv_iload hx hb dw_474 (hl2.2.2 4 (.int _) rfl) ?_
    refine lv_iconst (v := 1) hx hb dw_476 (by decide) ?_
    refine lv_iadd hx hb dw_477 ?_
    refine va_sld hx hb hX hbl hbA hS1 (l_in1 ht hL) dw_478 ?_
    have hM3 : lM l D dA aR yr_76 (Cond.code yr_76 cr_76 2 (some .int) :: jn_T) (ja_rm 1 (.inl (some (.int _)))) [.ref (aR 0), .int (xs (nI (4 * t) + 1).toNatClampNeg)] (ja_ws dA aR jl_r (IR, AR, JR)) (some (.int _)) (ja_ws dA aR jl_r _) 0 0 := lmR_76 hlt hE2
    refine l_V (y := yr_76) (wj := Cond.code yr_76 cr_76 2 (some .int) :: jn_T) (b := aR 0) (q0 := 0) (ad := aR) (A := fun q => s.heap.size ≤ q) (As := [.int (xs (nI (4 * t) + 1).toNatClampNeg)]) (rest := []) (mc := 0) (ms := 0) hC hK hzR hA (ci := 0) (na := 1) rfl rfl (lM_fr hM3) (l_lt (l_atR _)) (jn_gV jl_1291 jl_1292 jl_1293 jl_9 jl_1294) (by decide +kernel) rfl rfl ⟨by show 12 + 1 + 1 ≤ 2048; decide, by show 8 + (2 + 11) + (300 + 40 * 1) ≤ 84000; decide⟩ dw_479 rfl hl2.1 (Nat.le_of_ble_eq_true rfl) ⟨by show _ + 0 ≤ 601024; omega, by show _ + 0 ≤ 7293034; omega⟩ (lP_sw hP1) (lD_sw hD1) hS1 (fun H3 locs3 hP3 hD3 hS3 => ?_)
    have hP3 := lP_sw hP3
    have hD3 := lD_sw hD3
    refine lv_istore hx hb dw_482 (ja_lv hl2) (by decide) rfl (fun ls4 hq4 => ?_)
    have hl4 := ja_s1 (v := .int z) rfl hq4
    refine lv_aload_n hx hb dw_484 rfl (hl4.2.2 2 (.ref (aR 0)) rfl) ?_
    have hM5 : lM l D dA aR yr_0 (Cond.code yr_0 cr_0 1 (some .int) :: jn_T) (ja_rm 1 (.inl (some (.int _)))) [.ref (aR 0)] (ja_ws dA aR jl_r (ja_up IR 0 0 0, AR, JR)) (some (.int _)) (ja_ws dA aR jl_r _) 0 0 := lmR_0 hlt (rv_0 (d := 0))
    refine l_V (y := yr_0) (wj := Cond.code yr_0 cr_0 1 (some .int) :: jn_T) (b := aR 0) (q0 := 0) (ad := aR) (A := fun q => s.heap.size ≤ q) (As := []) (rest := []) (mc := 0) (ms := 0) hC hK hzR hA (ci := 0) (na := 0) rfl rfl (lM_fr hM5) (l_lt (l_atR _)) (jn_gV jl_981 jl_982 jl_983 jl_9 jl_984) (by decide +kernel) rfl rfl ⟨by show 12 + 1 + 1 ≤ 2048; decide, by show 8 + (1 + 11) + (300 + 40 * 1) ≤ 84000; decide⟩ dw_485 rfl hl4.1 (Nat.le_of_ble_eq_true rfl) ⟨by show _ + 0 ≤ 601024; omega, by show _ + 0 ≤ 7293034; omega⟩ (lP_sw hP3) (lD_sw hD3) hS3 (fun H5 locs5 hP5 hD5 hS5 => ?_)
    have hP5 := lP_sw hP5
    have hD5 := lD_sw hD5
    refine lv_iload hx hb dw_488 (hl4.2.2 5 (.int _) rfl) ?_
    refine lv_icmp_eq hx hb dw_490 (tgt := 495) (by decide) (fun _ => ?_) (fun h => absurd rfl h)
    refine lv_iload hx hb dw_495 (hl4.2.2 5 (.int _) rfl) ?_
    refine lv_if_ne hx hb dw_497 (tgt := 512) (by decide) (fun h => absurd rfl h) (fun _ => ?_)
    refine lv_aload_n hx hb dw_500 rfl (hl4.2.2 3 (.ref ao) rfl) ?_
    refine lv_iconst (v := 0) hx hb dw_501 (by decide) ?_
    refine va_lald hx hb hK hP5 _ 2 (l_rt l_at) rfl (vp_in_nI (n := 0) (N := 1) (by decide) (by decide)) dw_502 ?_
    rw [l_upd]
    refine lv_iload hx hb dw_503 (hl4.2.2 6 (.int _) rfl) ?_
    refine lv_i2l hx hb dw_505 rfl ?_
    refine W.lcmp hx hb dw_506 ?_
    refine lv_if_eq hx hb dw_507 (tgt := 512) (by decide) (fun _ => ?_) (fun h => absurd ((lg_cmp_eq _ _).mpr rfl) h)
    refine lv_goto hx hb dw_512 (tgt := 515) (by decide) ?_
    exact W.widen (by omega) (by omega) (kk _ _ _ _ _ _ _ _ _ hu (rV_0 hr) hl4 hP5 hD5 hS5)
end
