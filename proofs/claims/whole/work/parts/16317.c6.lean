section
variable {p : Program} {l : Launch} {e : Env} {s : State} {m : MethodId} {below : List Frame} {meth : Method} {c : Code} {D : va_G} {dA : Nat → ClassId} {aC aR : Nat → Nat} {b L ao t : Nat} {xs : Nat → Int32} {Q : State → Prop} {u : vU} {wC wR : ja_w} {f : Nat → Int64} {c0 s0 : Nat} {H : Heap} {locs : List Loc} {ls : Array Slot} {k5 k6 : Option Value}
theorem lw_c6 (X : lX p l s m c D dA aC aR b L xs) (ht : 4 * t + 4 ≤ L) (hu : cV u wC) (hr : rV u wR) (hl : ja_has (fun q => q) ls 7 (lLo b (aC 0) (aR 0) ao (nI (4 * t)) k5 k6)) (hP : va_P D jn_cl (lcs dA aC aR ao wC wR f) H) (hD : va_D (fun q => s.heap.size ≤ q) (lcs dA aC aR ao wC wR f)) (hS : va_S (fun q => s.heap.size ≤ q) s.heap H locs) (hc : c0 + 2 ≤ 601024) (hs : s0 + 12 ≤ 7293034) (kk : lK p l e s m below meth c D dA aC aR b ao t c0 s0 Q) : W p l e room_1 s m #[Value.ref b] below meth c H locs c0 s0 Q (F0 m 297 ls []) := by
  obtain ⟨hC, hK, hzC, hzR, hX, hbl, hlt, hL⟩ := X
  obtain ⟨tx, tt, n, rl, mn, dc, frm⟩ := u
  have hx := hC.1
  have hb := hC.2.1
  have hown := hC.2.2.2.1
  have hts := hC.2.2.2.2
  have hA : ∀ q : Nat, s.heap.size ≤ q → s.heap.size ≤ q := fun _ h => h
  have hbA : ¬ s.heap.size ≤ b := by omega
  have h160 : tx.length ≤ 160 := hu.1.1.1
  have hn160 : n ≤ 160 := hu.2.2.1.2.1
  have h80 : dc.length ≤ 80 := hu.2.2.2.2.2.1
  have h640 : frm.length ≤ 640 := hu.2.2.2.1.2.1
  obtain ⟨IC, AC, JC⟩ := wC
  obtain ⟨IR, AR, JR⟩ := wR
  unfold lcs at hP hD
  unfold lK at kk
  unfold lcs at kk
  refine lv_aload_n hx hb dw_297 rfl (hl.2.2 1 (.ref (aC 0)) rfl) ?_
  have hM1 : lM l D dA aC yc_6 (Cond.code yc_6 cc_6 1 (some .int) :: jn_T) (ja_rm 1 (.inl (some (.int _)))) [.ref (aC 0)] (ja_ws dA aC jl_c (IC, AC, JC)) (some (.int _)) (ja_ws dA aC jl_c (IC, AC, JC)) 0 0 := lmC_6 hlt (cv_6 (d := 0) hu)
  refine l_V (y := yc_6) (wj := Cond.code yc_6 cc_6 1 (some .int) :: jn_T) (b := aC 0) (q0 := 0) (ad := aC) (A := fun q => s.heap.size ≤ q) (As := []) (rest := []) (mc := 0) (ms := 0) hC hK hzC hA (ci := 1) (na := 0) rfl rfl (lM_fr hM1) (l_lt (l_atC _)) (jn_gV jl_296 jl_297 jl_298 jl_1 jl_299) (by decide +kernel) rfl rfl ⟨by show 12 + 1 + 1 ≤ 2048; decide, by show 8 + (1 + 11) + (300 + 40 * 1) ≤ 84000; decide⟩ dw_298 rfl hl.1 (Nat.le_of_ble_eq_true rfl) ⟨by show _ + 0 ≤ 601024; omega, by show _ + 0 ≤ 7293034; omega⟩ hP hD hS (fun H1 locs1 hP1 hD1 hS1 => ?_)
  refine lv_aload_n hx hb dw_301 rfl (hl.2.2 2 (.ref (aR 0)) rfl) ?_
  have hM2 : lM l D dA aR yr_72 (Cond.code yr_72 cr_72 1 (some .int) :: jn_T) (ja_rm 1 (.inl (some (.int _)))) [.ref (aR 0)] (ja_ws dA aR jl_r (IR, AR, JR)) (some (.int _)) (ja_ws dA aR jl_r _) 0 0 := lmR_72 hlt (rv_72 (d := 0) hr)
  refine l_V (y := yr_72) (wj := Cond.code yr_72 cr_72 1 (some .int) :: jn_T) (b := aR 0) (q0 := 0) (ad := aR) (A := fun q => s.heap.size ≤ q) (As := []) (rest := [.int _]) (mc := 0) (ms := 0) hC hK hzR hA (ci := 0) (na := 0) rfl rfl (lM_fr hM2) (l_lt (l_atR _)) (jn_gV jl_1275 jl_1276 jl_1277 jl_9 jl_1278) (by decide +kernel) rfl rfl ⟨by show 12 + 1 + 1 ≤ 2048; decide, by show 8 + (1 + 11) + (300 + 40 * 1) ≤ 84000; decide⟩ dw_302 rfl hl.1 (Nat.le_of_ble_eq_true rfl) ⟨by show _ + 0 ≤ 601024; omega, by show _ + 0 ≤ 7293034; omega⟩ (lP_sw hP1) (lD_sw hD1) hS1 (fun H2 locs2 hP2 hD2 hS2 => ?_)
  have hP2 := lP_sw hP2
  have hD2 := lD_sw hD2
  refine lv_icmp_eq hx hb dw_305 (tgt := 515) (by decide) (fun _ => ?_) (fun h => absurd rfl h)
  exact W.widen (by omega) (by omega) (kk _ _ _ _ _ _ _ _ _ hu (rV_0 hr) hl hP2 hD2 hS2)
end
