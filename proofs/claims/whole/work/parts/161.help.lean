/-! The helpers of the law. -/
def yl_3 : MethodName := ⟨"TypeOrThingLaw", "read", "(LTypeOrThing;[J)I"⟩
abbrev wl_3 : List Cond := Cond.codeWith yl_3 method_3_code 3 (some .int) [(0, 8, 11, 13)] :: jn_T
theorem jl_308 : (Cond.methodLink "TypeOrThingLaw" 7 ⟨"TypeOrThing", "read", "()I"⟩ : Cond) ∈ jn_T := jn_of (List.mem_of_getElem? (i := 308) (by decide +kernel)) (by decide +kernel)
theorem jl_309 : (Cond.instanceMethod ⟨"TypeOrThing", "read", "()I"⟩ : Cond) ∈ jn_T := jn_of (List.mem_of_getElem? (i := 309) (by decide +kernel)) (by decide +kernel)
theorem jl_310 : (Cond.selects "TypeOrThing" ⟨"TypeOrThing", "read", "()I"⟩ ⟨"TypeOrThing", "read", "()I"⟩ : Cond) ∈ jn_T := jn_of (List.mem_of_getElem? (i := 310) (by decide +kernel)) (by decide +kernel)
theorem jl_1 : (Cond.initialized "TypeOrThing" : Cond) ∈ jn_T := jn_of (List.mem_of_getElem? (i := 1) (by decide +kernel)) (by decide +kernel)
theorem jl_311 : (Cond.code ⟨"TypeOrThing", "read", "()I"⟩ prog_1_method_4_code 1 (some .int) : Cond) ∈ jn_T := jn_of (List.mem_of_getElem? (i := 311) (by decide +kernel)) (by decide +kernel)
theorem jl_307 : (Cond.classLink "TypeOrThingLaw" 13 "java/lang/IllegalArgumentException" : Cond) ∈ jn_T := jn_of (List.mem_of_getElem? (i := 307) (by decide +kernel)) (by decide +kernel)
theorem dl_3_0 : decode method_3_code 0 = .ok (.aload_n 1, 1) := by decide +kernel
theorem dl_3_1 : decode method_3_code 1 = .ok (.iconst 0, 1) := by decide +kernel
theorem dl_3_2 : decode method_3_code 2 = .ok (.aload_n 0, 1) := by decide +kernel
theorem dl_3_3 : decode method_3_code 3 = .ok (.invokevirtual 7, 3) := by decide +kernel
theorem dl_3_6 : decode method_3_code 6 = .ok (.i2l, 1) := by decide +kernel
theorem dl_3_7 : decode method_3_code 7 = .ok (.lastore, 1) := by decide +kernel
theorem dl_3_8 : decode method_3_code 8 = .ok (.goto 6, 3) := by decide +kernel
theorem dl_3_11 : decode method_3_code 11 = .ok (.astore_n 2, 1) := by decide +kernel
theorem dl_3_12 : decode method_3_code 12 = .ok (.iconst 1, 1) := by decide +kernel
theorem dl_3_13 : decode method_3_code 13 = .ok (.ireturn, 1) := by decide +kernel
theorem dl_3_14 : decode method_3_code 14 = .ok (.iconst 0, 1) := by decide +kernel
theorem dl_3_15 : decode method_3_code 15 = .ok (.ireturn, 1) := by decide +kernel
theorem lh_3r {l : Launch} {D : va_G} {dA : Nat → ClassId} {ad : Nat → Nat} {wc w1 : va_W} {ax ao : Nat} {f : Nat → Int64} {z : Int32} {fs : List Value} {q0 d mc ms : Nat} {rm : Room} (hat : wc[q0]? = some (ax, .inr (1, fs))) (hM : lM l D dA ad yc_2 (wc_f 2) rm [.ref ax] wc (some (.int z)) w1 mc ms) (hrm : rm.cells = mc ∧ rm.slots = ms ∧ rm.frames = 12 + d ∧ rm.locals = 300 + 40 * d) : lM l D dA ad yl_3 wl_3 (lh_rm d mc ms) [.ref ax, .ref ao] (wc ++ [(ao, .inl (dA 2, 1, .inr (.inl (f))))]) (some (.int 0)) (w1 ++ [(ao, .inl (dA 2, 1, .inr (.inl (vp_updL f (0 : Int32).toNatClampNeg z.toInt64))))]) mc ms := by
  intro sz
  refine jf_ofW (cc := method_3_code) (maxL := 3) (ret := some .int) (by decide +kernel) rfl ?_
  intro p e s m args below meth c s₁ B hml hv
  obtain ⟨rfl, hsz, hP, hK, hZ, hD0⟩ := hv
  have hts : ∀ w ∈ jn_T, w.before ([.ref ax, .ref ao] : List Value).toArray s = true := jc_hts B
  have hown : s.vm.findClass "TypeOrThingLaw" = some m.cls := findClass_of_methodNamed B.named
  obtain ⟨hm1, hm2, hm3, hm4⟩ := hrm
  subst hsz
  have hD := hD0.self (sz := s.heap.size)
  generalize hAe : va_A (wc ++ [(ao, .inl (dA 2, 1, .inr (.inl (f))))]) s.heap.size = A at hD hZ ⊢
  have hA : ∀ q : Nat, s.heap.size ≤ q → A q := fun q h => by rw [← hAe]; exact Or.inr h
  have hl0 := lv_entry ([.ref ax, .ref ao] : List Value) (n := 3) (Nat.le_of_ble_eq_true rfl)
  rw [lg_entry_eq]
  have hl := ja_entry (as := [.ref ax, .ref ao]) (fun q => q) hl0
  refine lv_aload_n B.exec B.bytes dl_3_0 rfl (hl.2.2 1 (.ref ao) rfl) ?_
  refine lv_iconst B.exec B.bytes dl_3_1 rfl ?_
  refine lv_aload_n B.exec B.bytes dl_3_2 rfl (hl.2.2 0 (.ref ax) rfl) ?_
  refine l_V (ad := ad) (A := A) (As := []) (rest := [.int 0, .ref ao]) ⟨B.exec, B.bytes, hml, hown, hts⟩ hK hZ hA (ci := 1) (na := 0) rfl rfl (lM_fr hM) (l_lt hat) (jn_gV jl_308 jl_309 jl_310 jl_1 jl_311) (by decide +kernel) hm1 hm2 ⟨by rw [hm3]; show 12 + d + 1 ≤ 14 + d; omega, by rw [hm4]; show 8 + (1 + 11) + (300 + 40 * d) ≤ 400 + 40 * d; omega⟩ dl_3_3 rfl hl.1 (Nat.le_of_ble_eq_true rfl) ⟨by show 0 + mc ≤ mc; omega, by show 0 + ms ≤ ms; omega⟩ hP hD va_S.rf (fun H1 locs1 hP1 hD1 hS1 => ?_)
  refine lv_i2l B.exec B.bytes dl_3_6 rfl ?_
  refine va_last B.exec B.bytes hK hP1 hD1 hS1 w1.length 2 l_at rfl (vp_in_nI (n := 0) (N := 1) (by decide) (by decide)) dl_3_7 (fun H2 locs2 hP2 hD2 hS2 => ?_)
  rw [l_set] at hP2 hD2
  refine lv_goto B.exec B.bytes dl_3_8 (tgt := 14) (by decide) ?_
  refine lv_iconst B.exec B.bytes dl_3_14 rfl ?_
  refine W.widen (show 0 + mc ≤ mc by omega) (show 0 + ms ≤ ms by omega) (W.iret B.exec B.bytes B.returns (fun t ht hW => ⟨⟨rfl, by rw [ht]; exact hP2, hD2⟩, hS2.F ht⟩) hS2.2.2 dl_3_15 B.notSynchronized)
theorem lh_3t {l : Launch} {D : va_G} {dA : Nat → ClassId} {ad : Nat → Nat} {wc w1 : va_W} {ax ao : Nat} {f : Nat → Int64} {fs : List Value} {q0 d mc ms : Nat} {rm : Room} (hat : wc[q0]? = some (ax, .inr (1, fs))) (hM : lT 0 l D dA ad yc_2 (wc_f 2) rm [.ref ax] wc w1 mc ms) (hrm : rm.cells = mc ∧ rm.slots = ms ∧ rm.frames = 12 + d ∧ rm.locals = 300 + 40 * d) : lM l D dA ad yl_3 wl_3 (lh_rm d mc ms) [.ref ax, .ref ao] (wc ++ [(ao, .inl (dA 2, 1, .inr (.inl (f))))]) (some (.int 1)) (w1 ++ [(ao, .inl (dA 2, 1, .inr (.inl (f))))]) mc ms := by
  intro sz
  refine jf_ofW (cc := method_3_code) (maxL := 3) (ret := some .int) (by decide +kernel) rfl ?_
  intro p e s m args below meth c s₁ B hml hv
  obtain ⟨rfl, hsz, hP, hK, hZ, hD0⟩ := hv
  have hts : ∀ w ∈ jn_T, w.before ([.ref ax, .ref ao] : List Value).toArray s = true := jc_hts B
  have hown : s.vm.findClass "TypeOrThingLaw" = some m.cls := findClass_of_methodNamed B.named
  obtain ⟨hm1, hm2, hm3, hm4⟩ := hrm
  have htab := jf_tab B
  obtain ⟨x0, hex, x1, x2, x3, x4⟩ : ∃ x0, c.exceptionTable.toList = [x0] ∧ x0.startPc = 0 ∧ x0.endPc = 8 ∧ x0.handlerPc = 11 ∧ x0.catchType = 13 := by
    cases hz : c.exceptionTable.toList with
    | nil => rw [hz] at htab; cases htab
    | cons a t =>
      cases t with
      | nil => rw [hz] at htab; simp at htab; exact ⟨a, rfl, htab⟩
      | cons b t => rw [hz] at htab; simp at htab
  subst hsz
  have hD := hD0.self (sz := s.heap.size)
  generalize hAe : va_A (wc ++ [(ao, .inl (dA 2, 1, .inr (.inl (f))))]) s.heap.size = A at hD hZ ⊢
  have hA : ∀ q : Nat, s.heap.size ≤ q → A q := fun q h => by rw [← hAe]; exact Or.inr h
  have hl0 := lv_entry ([.ref ax, .ref ao] : List Value) (n := 3) (Nat.le_of_ble_eq_true rfl)
  rw [lg_entry_eq]
  have hl := ja_entry (as := [.ref ax, .ref ao]) (fun q => q) hl0
  refine lv_aload_n B.exec B.bytes dl_3_0 rfl (hl.2.2 1 (.ref ao) rfl) ?_
  refine lv_iconst B.exec B.bytes dl_3_1 rfl ?_
  refine lv_aload_n B.exec B.bytes dl_3_2 rfl (hl.2.2 0 (.ref ax) rfl) ?_
  refine l_H (ad := ad) (A := A) (As := []) (rest := [.int 0, .ref ao]) ⟨B.exec, B.bytes, hml, hown, hts⟩ hK hZ hA (ci := 1) (na := 0) rfl rfl (lT_fr hM) (l_lt hat) (jn_gV jl_308 jl_309 jl_310 jl_1 jl_311) (by decide +kernel) hm1 hm2 ⟨by rw [hm3]; show 12 + d + 1 ≤ 14 + d; omega, by rw [hm4]; show 8 + (1 + 11) + (300 + 40 * d) ≤ 400 + 40 * d; omega⟩ dl_3_3 rfl hl.1 (Nat.le_of_ble_eq_true rfl) ⟨by show 0 + mc ≤ mc; omega, by show 0 + ms ≤ ms; omega⟩ hex (by simp [covers, x1, x2]) (by rw [x4]; decide) x3 rfl (by rw [x4]; exact jl_307) (hZ.2.2.1 _ (by decide +kernel)) hP hD va_S.rf (fun H1 locs1 x9 hP1 hD1 hS1 => ?_)
  refine lv_astore_n B.exec B.bytes dl_3_11 rfl (ja_lv hl) (by decide) rfl (fun ls9 _ => ?_)
  refine lv_iconst B.exec B.bytes dl_3_12 rfl ?_
  refine W.widen (show 0 + mc ≤ mc by omega) (show 0 + ms ≤ ms by omega) (W.iret B.exec B.bytes B.returns (fun t ht hW => ⟨⟨rfl, by rw [ht]; exact hP1, hD1⟩, hS1.F ht⟩) hS1.2.2 dl_3_13 B.notSynchronized)
def yl_4 : MethodName := ⟨"TypeOrThingLaw", "about", "(LTypeOrThing;II[J)I"⟩
abbrev wl_4 : List Cond := Cond.codeWith yl_4 method_4_code 5 (some .int) [(0, 10, 13, 19)] :: jn_T
theorem jl_817 : (Cond.methodLink "TypeOrThingLaw" 15 ⟨"TypeOrThing", "about", "(II)I"⟩ : Cond) ∈ jn_T := jn_of (List.mem_of_getElem? (i := 817) (by decide +kernel)) (by decide +kernel)
theorem jl_818 : (Cond.instanceMethod ⟨"TypeOrThing", "about", "(II)I"⟩ : Cond) ∈ jn_T := jn_of (List.mem_of_getElem? (i := 818) (by decide +kernel)) (by decide +kernel)
theorem jl_819 : (Cond.selects "TypeOrThing" ⟨"TypeOrThing", "about", "(II)I"⟩ ⟨"TypeOrThing", "about", "(II)I"⟩ : Cond) ∈ jn_T := jn_of (List.mem_of_getElem? (i := 819) (by decide +kernel)) (by decide +kernel)
theorem jl_820 : (Cond.code ⟨"TypeOrThing", "about", "(II)I"⟩ prog_1_method_9_code 3 (some .int) : Cond) ∈ jn_T := jn_of (List.mem_of_getElem? (i := 820) (by decide +kernel)) (by decide +kernel)
theorem jl_816 : (Cond.classLink "TypeOrThingLaw" 19 "java/lang/IndexOutOfBoundsException" : Cond) ∈ jn_T := jn_of (List.mem_of_getElem? (i := 816) (by decide +kernel)) (by decide +kernel)
theorem dl_4_0 : decode method_4_code 0 = .ok (.aload_n 3, 1) := by decide +kernel
theorem dl_4_1 : decode method_4_code 1 = .ok (.iconst 0, 1) := by decide +kernel
theorem dl_4_2 : decode method_4_code 2 = .ok (.aload_n 0, 1) := by decide +kernel
theorem dl_4_3 : decode method_4_code 3 = .ok (.iload_n 1, 1) := by decide +kernel
theorem dl_4_4 : decode method_4_code 4 = .ok (.iload_n 2, 1) := by decide +kernel
theorem dl_4_5 : decode method_4_code 5 = .ok (.invokevirtual 15, 3) := by decide +kernel
theorem dl_4_8 : decode method_4_code 8 = .ok (.i2l, 1) := by decide +kernel
theorem dl_4_9 : decode method_4_code 9 = .ok (.lastore, 1) := by decide +kernel
theorem dl_4_10 : decode method_4_code 10 = .ok (.goto 7, 3) := by decide +kernel
theorem dl_4_13 : decode method_4_code 13 = .ok (.astore 4, 2) := by decide +kernel
theorem dl_4_15 : decode method_4_code 15 = .ok (.iconst 1, 1) := by decide +kernel
theorem dl_4_16 : decode method_4_code 16 = .ok (.ireturn, 1) := by decide +kernel
theorem dl_4_17 : decode method_4_code 17 = .ok (.iconst 0, 1) := by decide +kernel
theorem dl_4_18 : decode method_4_code 18 = .ok (.ireturn, 1) := by decide +kernel
theorem lh_4r {l : Launch} {D : va_G} {dA : Nat → ClassId} {ad : Nat → Nat} {wc w1 : va_W} {ax ao : Nat} {f : Nat → Int64} {z k0 k1 : Int32} {fs : List Value} {q0 d mc ms : Nat} {rm : Room} (hat : wc[q0]? = some (ax, .inr (1, fs))) (hM : lM l D dA ad yc_7 (wc_f 7) rm [.ref ax, .int k0, .int k1] wc (some (.int z)) w1 mc ms) (hrm : rm.cells = mc ∧ rm.slots = ms ∧ rm.frames = 12 + d ∧ rm.locals = 300 + 40 * d) : lM l D dA ad yl_4 wl_4 (lh_rm d mc ms) [.ref ax, .int k0, .int k1, .ref ao] (wc ++ [(ao, .inl (dA 2, 1, .inr (.inl (f))))]) (some (.int 0)) (w1 ++ [(ao, .inl (dA 2, 1, .inr (.inl (vp_updL f (0 : Int32).toNatClampNeg z.toInt64))))]) mc ms := by
  intro sz
  refine jf_ofW (cc := method_4_code) (maxL := 5) (ret := some .int) (by decide +kernel) rfl ?_
  intro p e s m args below meth c s₁ B hml hv
  obtain ⟨rfl, hsz, hP, hK, hZ, hD0⟩ := hv
  have hts : ∀ w ∈ jn_T, w.before ([.ref ax, .int k0, .int k1, .ref ao] : List Value).toArray s = true := jc_hts B
  have hown : s.vm.findClass "TypeOrThingLaw" = some m.cls := findClass_of_methodNamed B.named
  obtain ⟨hm1, hm2, hm3, hm4⟩ := hrm
  subst hsz
  have hD := hD0.self (sz := s.heap.size)
  generalize hAe : va_A (wc ++ [(ao, .inl (dA 2, 1, .inr (.inl (f))))]) s.heap.size = A at hD hZ ⊢
  have hA : ∀ q : Nat, s.heap.size ≤ q → A q := fun q h => by rw [← hAe]; exact Or.inr h
  have hl0 := lv_entry ([.ref ax, .int k0, .int k1, .ref ao] : List Value) (n := 5) (Nat.le_of_ble_eq_true rfl)
  rw [lg_entry_eq]
  have hl := ja_entry (as := [.ref ax, .int k0, .int k1, .ref ao]) (fun q => q) hl0
  refine lv_aload_n B.exec B.bytes dl_4_0 rfl (hl.2.2 3 (.ref ao) rfl) ?_
  refine lv_iconst B.exec B.bytes dl_4_1 rfl ?_
  refine lv_aload_n B.exec B.bytes dl_4_2 rfl (hl.2.2 0 (.ref ax) rfl) ?_
  refine lv_iload_n B.exec B.bytes dl_4_3 rfl (hl.2.2 1 (.int k0) rfl) ?_
  refine lv_iload_n B.exec B.bytes dl_4_4 rfl (hl.2.2 2 (.int k1) rfl) ?_
  refine l_V (ad := ad) (A := A) (As := [.int k0, .int k1]) (rest := [.int 0, .ref ao]) ⟨B.exec, B.bytes, hml, hown, hts⟩ hK hZ hA (ci := 1) (na := 2) rfl rfl (lM_fr hM) (l_lt hat) (jn_gV jl_817 jl_818 jl_819 jl_1 jl_820) (by decide +kernel) hm1 hm2 ⟨by rw [hm3]; show 12 + d + 1 ≤ 14 + d; omega, by rw [hm4]; show 8 + (3 + 11) + (300 + 40 * d) ≤ 400 + 40 * d; omega⟩ dl_4_5 rfl hl.1 (Nat.le_of_ble_eq_true rfl) ⟨by show 0 + mc ≤ mc; omega, by show 0 + ms ≤ ms; omega⟩ hP hD va_S.rf (fun H1 locs1 hP1 hD1 hS1 => ?_)
  refine lv_i2l B.exec B.bytes dl_4_8 rfl ?_
  refine va_last B.exec B.bytes hK hP1 hD1 hS1 w1.length 2 l_at rfl (vp_in_nI (n := 0) (N := 1) (by decide) (by decide)) dl_4_9 (fun H2 locs2 hP2 hD2 hS2 => ?_)
  rw [l_set] at hP2 hD2
  refine lv_goto B.exec B.bytes dl_4_10 (tgt := 17) (by decide) ?_
  refine lv_iconst B.exec B.bytes dl_4_17 rfl ?_
  refine W.widen (show 0 + mc ≤ mc by omega) (show 0 + ms ≤ ms by omega) (W.iret B.exec B.bytes B.returns (fun t ht hW => ⟨⟨rfl, by rw [ht]; exact hP2, hD2⟩, hS2.F ht⟩) hS2.2.2 dl_4_18 B.notSynchronized)
theorem lh_4t {l : Launch} {D : va_G} {dA : Nat → ClassId} {ad : Nat → Nat} {wc w1 : va_W} {ax ao : Nat} {f : Nat → Int64} {k0 k1 : Int32} {fs : List Value} {q0 d mc ms : Nat} {rm : Room} (hat : wc[q0]? = some (ax, .inr (1, fs))) (hM : lT 1 l D dA ad yc_7 (wc_f 7) rm [.ref ax, .int k0, .int k1] wc w1 mc ms) (hrm : rm.cells = mc ∧ rm.slots = ms ∧ rm.frames = 12 + d ∧ rm.locals = 300 + 40 * d) : lM l D dA ad yl_4 wl_4 (lh_rm d mc ms) [.ref ax, .int k0, .int k1, .ref ao] (wc ++ [(ao, .inl (dA 2, 1, .inr (.inl (f))))]) (some (.int 1)) (w1 ++ [(ao, .inl (dA 2, 1, .inr (.inl (f))))]) mc ms := by
  intro sz
  refine jf_ofW (cc := method_4_code) (maxL := 5) (ret := some .int) (by decide +kernel) rfl ?_
  intro p e s m args below meth c s₁ B hml hv
  obtain ⟨rfl, hsz, hP, hK, hZ, hD0⟩ := hv
  have hts : ∀ w ∈ jn_T, w.before ([.ref ax, .int k0, .int k1, .ref ao] : List Value).toArray s = true := jc_hts B
  have hown : s.vm.findClass "TypeOrThingLaw" = some m.cls := findClass_of_methodNamed B.named
  obtain ⟨hm1, hm2, hm3, hm4⟩ := hrm
  have htab := jf_tab B
  obtain ⟨x0, hex, x1, x2, x3, x4⟩ : ∃ x0, c.exceptionTable.toList = [x0] ∧ x0.startPc = 0 ∧ x0.endPc = 10 ∧ x0.handlerPc = 13 ∧ x0.catchType = 19 := by
    cases hz : c.exceptionTable.toList with
    | nil => rw [hz] at htab; cases htab
    | cons a t =>
      cases t with
      | nil => rw [hz] at htab; simp at htab; exact ⟨a, rfl, htab⟩
      | cons b t => rw [hz] at htab; simp at htab
  subst hsz
  have hD := hD0.self (sz := s.heap.size)
  generalize hAe : va_A (wc ++ [(ao, .inl (dA 2, 1, .inr (.inl (f))))]) s.heap.size = A at hD hZ ⊢
  have hA : ∀ q : Nat, s.heap.size ≤ q → A q := fun q h => by rw [← hAe]; exact Or.inr h
  have hl0 := lv_entry ([.ref ax, .int k0, .int k1, .ref ao] : List Value) (n := 5) (Nat.le_of_ble_eq_true rfl)
  rw [lg_entry_eq]
  have hl := ja_entry (as := [.ref ax, .int k0, .int k1, .ref ao]) (fun q => q) hl0
  refine lv_aload_n B.exec B.bytes dl_4_0 rfl (hl.2.2 3 (.ref ao) rfl) ?_
  refine lv_iconst B.exec B.bytes dl_4_1 rfl ?_
  refine lv_aload_n B.exec B.bytes dl_4_2 rfl (hl.2.2 0 (.ref ax) rfl) ?_
  refine lv_iload_n B.exec B.bytes dl_4_3 rfl (hl.2.2 1 (.int k0) rfl) ?_
  refine lv_iload_n B.exec B.bytes dl_4_4 rfl (hl.2.2 2 (.int k1) rfl) ?_
  refine l_H (ad := ad) (A := A) (As := [.int k0, .int k1]) (rest := [.int 0, .ref ao]) ⟨B.exec, B.bytes, hml, hown, hts⟩ hK hZ hA (ci := 1) (na := 2) rfl rfl (lT_fr hM) (l_lt hat) (jn_gV jl_817 jl_818 jl_819 jl_1 jl_820) (by decide +kernel) hm1 hm2 ⟨by rw [hm3]; show 12 + d + 1 ≤ 14 + d; omega, by rw [hm4]; show 8 + (3 + 11) + (300 + 40 * d) ≤ 400 + 40 * d; omega⟩ dl_4_5 rfl hl.1 (Nat.le_of_ble_eq_true rfl) ⟨by show 0 + mc ≤ mc; omega, by show 0 + ms ≤ ms; omega⟩ hex (by simp [covers, x1, x2]) (by rw [x4]; decide) x3 rfl (by rw [x4]; exact jl_816) (hZ.2.2.1 _ (by decide +kernel)) hP hD va_S.rf (fun H1 locs1 x9 hP1 hD1 hS1 => ?_)
  refine lv_astore B.exec B.bytes dl_4_13 (ja_lv hl) (by decide) rfl (fun ls9 _ => ?_)
  refine lv_iconst B.exec B.bytes dl_4_15 rfl ?_
  refine W.widen (show 0 + mc ≤ mc by omega) (show 0 + ms ≤ ms by omega) (W.iret B.exec B.bytes B.returns (fun t ht hW => ⟨⟨rfl, by rw [ht]; exact hP1, hD1⟩, hS1.F ht⟩) hS1.2.2 dl_4_16 B.notSynchronized)
def yl_5 : MethodName := ⟨"TypeOrThingLaw", "typeAt", "(LTypeOrThing;II[J)I"⟩
abbrev wl_5 : List Cond := Cond.codeWith yl_5 method_5_code 5 (some .int) [(0, 10, 13, 19)] :: jn_T
theorem jl_842 : (Cond.methodLink "TypeOrThingLaw" 21 ⟨"TypeOrThing", "typeAt", "(II)I"⟩ : Cond) ∈ jn_T := jn_of (List.mem_of_getElem? (i := 842) (by decide +kernel)) (by decide +kernel)
theorem jl_843 : (Cond.instanceMethod ⟨"TypeOrThing", "typeAt", "(II)I"⟩ : Cond) ∈ jn_T := jn_of (List.mem_of_getElem? (i := 843) (by decide +kernel)) (by decide +kernel)
theorem jl_844 : (Cond.selects "TypeOrThing" ⟨"TypeOrThing", "typeAt", "(II)I"⟩ ⟨"TypeOrThing", "typeAt", "(II)I"⟩ : Cond) ∈ jn_T := jn_of (List.mem_of_getElem? (i := 844) (by decide +kernel)) (by decide +kernel)
theorem jl_845 : (Cond.code ⟨"TypeOrThing", "typeAt", "(II)I"⟩ prog_1_method_10_code 3 (some .int) : Cond) ∈ jn_T := jn_of (List.mem_of_getElem? (i := 845) (by decide +kernel)) (by decide +kernel)
theorem dl_5_0 : decode method_5_code 0 = .ok (.aload_n 3, 1) := by decide +kernel
theorem dl_5_1 : decode method_5_code 1 = .ok (.iconst 0, 1) := by decide +kernel
theorem dl_5_2 : decode method_5_code 2 = .ok (.aload_n 0, 1) := by decide +kernel
theorem dl_5_3 : decode method_5_code 3 = .ok (.iload_n 1, 1) := by decide +kernel
theorem dl_5_4 : decode method_5_code 4 = .ok (.iload_n 2, 1) := by decide +kernel
theorem dl_5_5 : decode method_5_code 5 = .ok (.invokevirtual 21, 3) := by decide +kernel
theorem dl_5_8 : decode method_5_code 8 = .ok (.i2l, 1) := by decide +kernel
theorem dl_5_9 : decode method_5_code 9 = .ok (.lastore, 1) := by decide +kernel
theorem dl_5_10 : decode method_5_code 10 = .ok (.goto 7, 3) := by decide +kernel
theorem dl_5_13 : decode method_5_code 13 = .ok (.astore 4, 2) := by decide +kernel
theorem dl_5_15 : decode method_5_code 15 = .ok (.iconst 1, 1) := by decide +kernel
theorem dl_5_16 : decode method_5_code 16 = .ok (.ireturn, 1) := by decide +kernel
theorem dl_5_17 : decode method_5_code 17 = .ok (.iconst 0, 1) := by decide +kernel
theorem dl_5_18 : decode method_5_code 18 = .ok (.ireturn, 1) := by decide +kernel
theorem lh_5r {l : Launch} {D : va_G} {dA : Nat → ClassId} {ad : Nat → Nat} {wc w1 : va_W} {ax ao : Nat} {f : Nat → Int64} {z k0 k1 : Int32} {fs : List Value} {q0 d mc ms : Nat} {rm : Room} (hat : wc[q0]? = some (ax, .inr (1, fs))) (hM : lM l D dA ad yc_8 (wc_f 8) rm [.ref ax, .int k0, .int k1] wc (some (.int z)) w1 mc ms) (hrm : rm.cells = mc ∧ rm.slots = ms ∧ rm.frames = 12 + d ∧ rm.locals = 300 + 40 * d) : lM l D dA ad yl_5 wl_5 (lh_rm d mc ms) [.ref ax, .int k0, .int k1, .ref ao] (wc ++ [(ao, .inl (dA 2, 1, .inr (.inl (f))))]) (some (.int 0)) (w1 ++ [(ao, .inl (dA 2, 1, .inr (.inl (vp_updL f (0 : Int32).toNatClampNeg z.toInt64))))]) mc ms := by
  intro sz
  refine jf_ofW (cc := method_5_code) (maxL := 5) (ret := some .int) (by decide +kernel) rfl ?_
  intro p e s m args below meth c s₁ B hml hv
  obtain ⟨rfl, hsz, hP, hK, hZ, hD0⟩ := hv
  have hts : ∀ w ∈ jn_T, w.before ([.ref ax, .int k0, .int k1, .ref ao] : List Value).toArray s = true := jc_hts B
  have hown : s.vm.findClass "TypeOrThingLaw" = some m.cls := findClass_of_methodNamed B.named
  obtain ⟨hm1, hm2, hm3, hm4⟩ := hrm
  subst hsz
  have hD := hD0.self (sz := s.heap.size)
  generalize hAe : va_A (wc ++ [(ao, .inl (dA 2, 1, .inr (.inl (f))))]) s.heap.size = A at hD hZ ⊢
  have hA : ∀ q : Nat, s.heap.size ≤ q → A q := fun q h => by rw [← hAe]; exact Or.inr h
  have hl0 := lv_entry ([.ref ax, .int k0, .int k1, .ref ao] : List Value) (n := 5) (Nat.le_of_ble_eq_true rfl)
  rw [lg_entry_eq]
  have hl := ja_entry (as := [.ref ax, .int k0, .int k1, .ref ao]) (fun q => q) hl0
  refine lv_aload_n B.exec B.bytes dl_5_0 rfl (hl.2.2 3 (.ref ao) rfl) ?_
  refine lv_iconst B.exec B.bytes dl_5_1 rfl ?_
  refine lv_aload_n B.exec B.bytes dl_5_2 rfl (hl.2.2 0 (.ref ax) rfl) ?_
  refine lv_iload_n B.exec B.bytes dl_5_3 rfl (hl.2.2 1 (.int k0) rfl) ?_
  refine lv_iload_n B.exec B.bytes dl_5_4 rfl (hl.2.2 2 (.int k1) rfl) ?_
  refine l_V (ad := ad) (A := A) (As := [.int k0, .int k1]) (rest := [.int 0, .ref ao]) ⟨B.exec, B.bytes, hml, hown, hts⟩ hK hZ hA (ci := 1) (na := 2) rfl rfl (lM_fr hM) (l_lt hat) (jn_gV jl_842 jl_843 jl_844 jl_1 jl_845) (by decide +kernel) hm1 hm2 ⟨by rw [hm3]; show 12 + d + 1 ≤ 14 + d; omega, by rw [hm4]; show 8 + (3 + 11) + (300 + 40 * d) ≤ 400 + 40 * d; omega⟩ dl_5_5 rfl hl.1 (Nat.le_of_ble_eq_true rfl) ⟨by show 0 + mc ≤ mc; omega, by show 0 + ms ≤ ms; omega⟩ hP hD va_S.rf (fun H1 locs1 hP1 hD1 hS1 => ?_)
  refine lv_i2l B.exec B.bytes dl_5_8 rfl ?_
  refine va_last B.exec B.bytes hK hP1 hD1 hS1 w1.length 2 l_at rfl (vp_in_nI (n := 0) (N := 1) (by decide) (by decide)) dl_5_9 (fun H2 locs2 hP2 hD2 hS2 => ?_)
  rw [l_set] at hP2 hD2
  refine lv_goto B.exec B.bytes dl_5_10 (tgt := 17) (by decide) ?_
  refine lv_iconst B.exec B.bytes dl_5_17 rfl ?_
  refine W.widen (show 0 + mc ≤ mc by omega) (show 0 + ms ≤ ms by omega) (W.iret B.exec B.bytes B.returns (fun t ht hW => ⟨⟨rfl, by rw [ht]; exact hP2, hD2⟩, hS2.F ht⟩) hS2.2.2 dl_5_18 B.notSynchronized)
theorem lh_5t {l : Launch} {D : va_G} {dA : Nat → ClassId} {ad : Nat → Nat} {wc w1 : va_W} {ax ao : Nat} {f : Nat → Int64} {k0 k1 : Int32} {fs : List Value} {q0 d mc ms : Nat} {rm : Room} (hat : wc[q0]? = some (ax, .inr (1, fs))) (hM : lT 1 l D dA ad yc_8 (wc_f 8) rm [.ref ax, .int k0, .int k1] wc w1 mc ms) (hrm : rm.cells = mc ∧ rm.slots = ms ∧ rm.frames = 12 + d ∧ rm.locals = 300 + 40 * d) : lM l D dA ad yl_5 wl_5 (lh_rm d mc ms) [.ref ax, .int k0, .int k1, .ref ao] (wc ++ [(ao, .inl (dA 2, 1, .inr (.inl (f))))]) (some (.int 1)) (w1 ++ [(ao, .inl (dA 2, 1, .inr (.inl (f))))]) mc ms := by
  intro sz
  refine jf_ofW (cc := method_5_code) (maxL := 5) (ret := some .int) (by decide +kernel) rfl ?_
  intro p e s m args below meth c s₁ B hml hv
  obtain ⟨rfl, hsz, hP, hK, hZ, hD0⟩ := hv
  have hts : ∀ w ∈ jn_T, w.before ([.ref ax, .int k0, .int k1, .ref ao] : List Value).toArray s = true := jc_hts B
  have hown : s.vm.findClass "TypeOrThingLaw" = some m.cls := findClass_of_methodNamed B.named
  obtain ⟨hm1, hm2, hm3, hm4⟩ := hrm
  have htab := jf_tab B
  obtain ⟨x0, hex, x1, x2, x3, x4⟩ : ∃ x0, c.exceptionTable.toList = [x0] ∧ x0.startPc = 0 ∧ x0.endPc = 10 ∧ x0.handlerPc = 13 ∧ x0.catchType = 19 := by
    cases hz : c.exceptionTable.toList with
    | nil => rw [hz] at htab; cases htab
    | cons a t =>
      cases t with
      | nil => rw [hz] at htab; simp at htab; exact ⟨a, rfl, htab⟩
      | cons b t => rw [hz] at htab; simp at htab
  subst hsz
  have hD := hD0.self (sz := s.heap.size)
  generalize hAe : va_A (wc ++ [(ao, .inl (dA 2, 1, .inr (.inl (f))))]) s.heap.size = A at hD hZ ⊢
  have hA : ∀ q : Nat, s.heap.size ≤ q → A q := fun q h => by rw [← hAe]; exact Or.inr h
  have hl0 := lv_entry ([.ref ax, .int k0, .int k1, .ref ao] : List Value) (n := 5) (Nat.le_of_ble_eq_true rfl)
  rw [lg_entry_eq]
  have hl := ja_entry (as := [.ref ax, .int k0, .int k1, .ref ao]) (fun q => q) hl0
  refine lv_aload_n B.exec B.bytes dl_5_0 rfl (hl.2.2 3 (.ref ao) rfl) ?_
  refine lv_iconst B.exec B.bytes dl_5_1 rfl ?_
  refine lv_aload_n B.exec B.bytes dl_5_2 rfl (hl.2.2 0 (.ref ax) rfl) ?_
  refine lv_iload_n B.exec B.bytes dl_5_3 rfl (hl.2.2 1 (.int k0) rfl) ?_
  refine lv_iload_n B.exec B.bytes dl_5_4 rfl (hl.2.2 2 (.int k1) rfl) ?_
  refine l_H (ad := ad) (A := A) (As := [.int k0, .int k1]) (rest := [.int 0, .ref ao]) ⟨B.exec, B.bytes, hml, hown, hts⟩ hK hZ hA (ci := 1) (na := 2) rfl rfl (lT_fr hM) (l_lt hat) (jn_gV jl_842 jl_843 jl_844 jl_1 jl_845) (by decide +kernel) hm1 hm2 ⟨by rw [hm3]; show 12 + d + 1 ≤ 14 + d; omega, by rw [hm4]; show 8 + (3 + 11) + (300 + 40 * d) ≤ 400 + 40 * d; omega⟩ dl_5_5 rfl hl.1 (Nat.le_of_ble_eq_true rfl) ⟨by show 0 + mc ≤ mc; omega, by show 0 + ms ≤ ms; omega⟩ hex (by simp [covers, x1, x2]) (by rw [x4]; decide) x3 rfl (by rw [x4]; exact jl_816) (hZ.2.2.1 _ (by decide +kernel)) hP hD va_S.rf (fun H1 locs1 x9 hP1 hD1 hS1 => ?_)
  refine lv_astore B.exec B.bytes dl_5_13 (ja_lv hl) (by decide) rfl (fun ls9 _ => ?_)
  refine lv_iconst B.exec B.bytes dl_5_15 rfl ?_
  refine W.widen (show 0 + mc ≤ mc by omega) (show 0 + ms ≤ ms by omega) (W.iret B.exec B.bytes B.returns (fun t ht hW => ⟨⟨rfl, by rw [ht]; exact hP1, hD1⟩, hS1.F ht⟩) hS1.2.2 dl_5_16 B.notSynchronized)
def yl_6 : MethodName := ⟨"TypeOrThingLaw", "form", "(LTypeOrThing;I[J)I"⟩
abbrev wl_6 : List Cond := Cond.codeWith yl_6 method_6_code 4 (some .int) [(0, 9, 12, 19)] :: jn_T
theorem jl_850 : (Cond.methodLink "TypeOrThingLaw" 24 ⟨"TypeOrThing", "form", "(I)I"⟩ : Cond) ∈ jn_T := jn_of (List.mem_of_getElem? (i := 850) (by decide +kernel)) (by decide +kernel)
theorem jl_851 : (Cond.instanceMethod ⟨"TypeOrThing", "form", "(I)I"⟩ : Cond) ∈ jn_T := jn_of (List.mem_of_getElem? (i := 851) (by decide +kernel)) (by decide +kernel)
theorem jl_852 : (Cond.selects "TypeOrThing" ⟨"TypeOrThing", "form", "(I)I"⟩ ⟨"TypeOrThing", "form", "(I)I"⟩ : Cond) ∈ jn_T := jn_of (List.mem_of_getElem? (i := 852) (by decide +kernel)) (by decide +kernel)
theorem jl_853 : (Cond.code ⟨"TypeOrThing", "form", "(I)I"⟩ prog_1_method_12_code 2 (some .int) : Cond) ∈ jn_T := jn_of (List.mem_of_getElem? (i := 853) (by decide +kernel)) (by decide +kernel)
theorem dl_6_0 : decode method_6_code 0 = .ok (.aload_n 2, 1) := by decide +kernel
theorem dl_6_1 : decode method_6_code 1 = .ok (.iconst 0, 1) := by decide +kernel
theorem dl_6_2 : decode method_6_code 2 = .ok (.aload_n 0, 1) := by decide +kernel
theorem dl_6_3 : decode method_6_code 3 = .ok (.iload_n 1, 1) := by decide +kernel
theorem dl_6_4 : decode method_6_code 4 = .ok (.invokevirtual 24, 3) := by decide +kernel
theorem dl_6_7 : decode method_6_code 7 = .ok (.i2l, 1) := by decide +kernel
theorem dl_6_8 : decode method_6_code 8 = .ok (.lastore, 1) := by decide +kernel
theorem dl_6_9 : decode method_6_code 9 = .ok (.goto 6, 3) := by decide +kernel
theorem dl_6_12 : decode method_6_code 12 = .ok (.astore_n 3, 1) := by decide +kernel
theorem dl_6_13 : decode method_6_code 13 = .ok (.iconst 1, 1) := by decide +kernel
theorem dl_6_14 : decode method_6_code 14 = .ok (.ireturn, 1) := by decide +kernel
theorem dl_6_15 : decode method_6_code 15 = .ok (.iconst 0, 1) := by decide +kernel
theorem dl_6_16 : decode method_6_code 16 = .ok (.ireturn, 1) := by decide +kernel
theorem lh_6r {l : Launch} {D : va_G} {dA : Nat → ClassId} {ad : Nat → Nat} {wc w1 : va_W} {ax ao : Nat} {f : Nat → Int64} {z k0 : Int32} {fs : List Value} {q0 d mc ms : Nat} {rm : Room} (hat : wc[q0]? = some (ax, .inr (1, fs))) (hM : lM l D dA ad yc_10 (wc_f 10) rm [.ref ax, .int k0] wc (some (.int z)) w1 mc ms) (hrm : rm.cells = mc ∧ rm.slots = ms ∧ rm.frames = 12 + d ∧ rm.locals = 300 + 40 * d) : lM l D dA ad yl_6 wl_6 (lh_rm d mc ms) [.ref ax, .int k0, .ref ao] (wc ++ [(ao, .inl (dA 2, 1, .inr (.inl (f))))]) (some (.int 0)) (w1 ++ [(ao, .inl (dA 2, 1, .inr (.inl (vp_updL f (0 : Int32).toNatClampNeg z.toInt64))))]) mc ms := by
  intro sz
  refine jf_ofW (cc := method_6_code) (maxL := 4) (ret := some .int) (by decide +kernel) rfl ?_
  intro p e s m args below meth c s₁ B hml hv
  obtain ⟨rfl, hsz, hP, hK, hZ, hD0⟩ := hv
  have hts : ∀ w ∈ jn_T, w.before ([.ref ax, .int k0, .ref ao] : List Value).toArray s = true := jc_hts B
  have hown : s.vm.findClass "TypeOrThingLaw" = some m.cls := findClass_of_methodNamed B.named
  obtain ⟨hm1, hm2, hm3, hm4⟩ := hrm
  subst hsz
  have hD := hD0.self (sz := s.heap.size)
  generalize hAe : va_A (wc ++ [(ao, .inl (dA 2, 1, .inr (.inl (f))))]) s.heap.size = A at hD hZ ⊢
  have hA : ∀ q : Nat, s.heap.size ≤ q → A q := fun q h => by rw [← hAe]; exact Or.inr h
  have hl0 := lv_entry ([.ref ax, .int k0, .ref ao] : List Value) (n := 4) (Nat.le_of_ble_eq_true rfl)
  rw [lg_entry_eq]
  have hl := ja_entry (as := [.ref ax, .int k0, .ref ao]) (fun q => q) hl0
  refine lv_aload_n B.exec B.bytes dl_6_0 rfl (hl.2.2 2 (.ref ao) rfl) ?_
  refine lv_iconst B.exec B.bytes dl_6_1 rfl ?_
  refine lv_aload_n B.exec B.bytes dl_6_2 rfl (hl.2.2 0 (.ref ax) rfl) ?_
  refine lv_iload_n B.exec B.bytes dl_6_3 rfl (hl.2.2 1 (.int k0) rfl) ?_
  refine l_V (ad := ad) (A := A) (As := [.int k0]) (rest := [.int 0, .ref ao]) ⟨B.exec, B.bytes, hml, hown, hts⟩ hK hZ hA (ci := 1) (na := 1) rfl rfl (lM_fr hM) (l_lt hat) (jn_gV jl_850 jl_851 jl_852 jl_1 jl_853) (by decide +kernel) hm1 hm2 ⟨by rw [hm3]; show 12 + d + 1 ≤ 14 + d; omega, by rw [hm4]; show 8 + (2 + 11) + (300 + 40 * d) ≤ 400 + 40 * d; omega⟩ dl_6_4 rfl hl.1 (Nat.le_of_ble_eq_true rfl) ⟨by show 0 + mc ≤ mc; omega, by show 0 + ms ≤ ms; omega⟩ hP hD va_S.rf (fun H1 locs1 hP1 hD1 hS1 => ?_)
  refine lv_i2l B.exec B.bytes dl_6_7 rfl ?_
  refine va_last B.exec B.bytes hK hP1 hD1 hS1 w1.length 2 l_at rfl (vp_in_nI (n := 0) (N := 1) (by decide) (by decide)) dl_6_8 (fun H2 locs2 hP2 hD2 hS2 => ?_)
  rw [l_set] at hP2 hD2
  refine lv_goto B.exec B.bytes dl_6_9 (tgt := 15) (by decide) ?_
  refine lv_iconst B.exec B.bytes dl_6_15 rfl ?_
  refine W.widen (show 0 + mc ≤ mc by omega) (show 0 + ms ≤ ms by omega) (W.iret B.exec B.bytes B.returns (fun t ht hW => ⟨⟨rfl, by rw [ht]; exact hP2, hD2⟩, hS2.F ht⟩) hS2.2.2 dl_6_16 B.notSynchronized)
theorem lh_6t {l : Launch} {D : va_G} {dA : Nat → ClassId} {ad : Nat → Nat} {wc w1 : va_W} {ax ao : Nat} {f : Nat → Int64} {k0 : Int32} {fs : List Value} {q0 d mc ms : Nat} {rm : Room} (hat : wc[q0]? = some (ax, .inr (1, fs))) (hM : lT 1 l D dA ad yc_10 (wc_f 10) rm [.ref ax, .int k0] wc w1 mc ms) (hrm : rm.cells = mc ∧ rm.slots = ms ∧ rm.frames = 12 + d ∧ rm.locals = 300 + 40 * d) : lM l D dA ad yl_6 wl_6 (lh_rm d mc ms) [.ref ax, .int k0, .ref ao] (wc ++ [(ao, .inl (dA 2, 1, .inr (.inl (f))))]) (some (.int 1)) (w1 ++ [(ao, .inl (dA 2, 1, .inr (.inl (f))))]) mc ms := by
  intro sz
  refine jf_ofW (cc := method_6_code) (maxL := 4) (ret := some .int) (by decide +kernel) rfl ?_
  intro p e s m args below meth c s₁ B hml hv
  obtain ⟨rfl, hsz, hP, hK, hZ, hD0⟩ := hv
  have hts : ∀ w ∈ jn_T, w.before ([.ref ax, .int k0, .ref ao] : List Value).toArray s = true := jc_hts B
  have hown : s.vm.findClass "TypeOrThingLaw" = some m.cls := findClass_of_methodNamed B.named
  obtain ⟨hm1, hm2, hm3, hm4⟩ := hrm
  have htab := jf_tab B
  obtain ⟨x0, hex, x1, x2, x3, x4⟩ : ∃ x0, c.exceptionTable.toList = [x0] ∧ x0.startPc = 0 ∧ x0.endPc = 9 ∧ x0.handlerPc = 12 ∧ x0.catchType = 19 := by
    cases hz : c.exceptionTable.toList with
    | nil => rw [hz] at htab; cases htab
    | cons a t =>
      cases t with
      | nil => rw [hz] at htab; simp at htab; exact ⟨a, rfl, htab⟩
      | cons b t => rw [hz] at htab; simp at htab
  subst hsz
  have hD := hD0.self (sz := s.heap.size)
  generalize hAe : va_A (wc ++ [(ao, .inl (dA 2, 1, .inr (.inl (f))))]) s.heap.size = A at hD hZ ⊢
  have hA : ∀ q : Nat, s.heap.size ≤ q → A q := fun q h => by rw [← hAe]; exact Or.inr h
  have hl0 := lv_entry ([.ref ax, .int k0, .ref ao] : List Value) (n := 4) (Nat.le_of_ble_eq_true rfl)
  rw [lg_entry_eq]
  have hl := ja_entry (as := [.ref ax, .int k0, .ref ao]) (fun q => q) hl0
  refine lv_aload_n B.exec B.bytes dl_6_0 rfl (hl.2.2 2 (.ref ao) rfl) ?_
  refine lv_iconst B.exec B.bytes dl_6_1 rfl ?_
  refine lv_aload_n B.exec B.bytes dl_6_2 rfl (hl.2.2 0 (.ref ax) rfl) ?_
  refine lv_iload_n B.exec B.bytes dl_6_3 rfl (hl.2.2 1 (.int k0) rfl) ?_
  refine l_H (ad := ad) (A := A) (As := [.int k0]) (rest := [.int 0, .ref ao]) ⟨B.exec, B.bytes, hml, hown, hts⟩ hK hZ hA (ci := 1) (na := 1) rfl rfl (lT_fr hM) (l_lt hat) (jn_gV jl_850 jl_851 jl_852 jl_1 jl_853) (by decide +kernel) hm1 hm2 ⟨by rw [hm3]; show 12 + d + 1 ≤ 14 + d; omega, by rw [hm4]; show 8 + (2 + 11) + (300 + 40 * d) ≤ 400 + 40 * d; omega⟩ dl_6_4 rfl hl.1 (Nat.le_of_ble_eq_true rfl) ⟨by show 0 + mc ≤ mc; omega, by show 0 + ms ≤ ms; omega⟩ hex (by simp [covers, x1, x2]) (by rw [x4]; decide) x3 rfl (by rw [x4]; exact jl_816) (hZ.2.2.1 _ (by decide +kernel)) hP hD va_S.rf (fun H1 locs1 x9 hP1 hD1 hS1 => ?_)
  refine lv_astore_n B.exec B.bytes dl_6_12 rfl (ja_lv hl) (by decide) rfl (fun ls9 _ => ?_)
  refine lv_iconst B.exec B.bytes dl_6_13 rfl ?_
  refine W.widen (show 0 + mc ≤ mc by omega) (show 0 + ms ≤ ms by omega) (W.iret B.exec B.bytes B.returns (fun t ht hW => ⟨⟨rfl, by rw [ht]; exact hP1, hD1⟩, hS1.F ht⟩) hS1.2.2 dl_6_14 B.notSynchronized)
