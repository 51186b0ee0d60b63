abbrev ck_De : ByteArray := prog_3_method_1_code
def yk_De : MethodName := ⟨"TypeOrThing$Declarators", "<init>", "(LTypeOrThing$Cursor;LTypeOrThing$Tokens;LTypeOrThing$Names;)V"⟩
theorem dk_De_0 : decode ck_De 0 = .ok (.aload_n 0, 1) := by decide +kernel
theorem dk_De_1 : decode ck_De 1 = .ok (.invokespecial 3, 3) := by decide +kernel
theorem dk_De_4 : decode ck_De 4 = .ok (.aload_n 0, 1) := by decide +kernel
theorem dk_De_5 : decode ck_De 5 = .ok (.aload_n 1, 1) := by decide +kernel
theorem dk_De_6 : decode ck_De 6 = .ok (.putfield 9, 3) := by decide +kernel
theorem dk_De_9 : decode ck_De 9 = .ok (.aload_n 0, 1) := by decide +kernel
theorem dk_De_10 : decode ck_De 10 = .ok (.aload_n 2, 1) := by decide +kernel
theorem dk_De_11 : decode ck_De 11 = .ok (.putfield 15, 3) := by decide +kernel
theorem dk_De_14 : decode ck_De 14 = .ok (.aload_n 0, 1) := by decide +kernel
theorem dk_De_15 : decode ck_De 15 = .ok (.aload_n 3, 1) := by decide +kernel
theorem dk_De_16 : decode ck_De 16 = .ok (.putfield 19, 3) := by decide +kernel
theorem dk_De_19 : decode ck_De 19 = .ok (.aload_n 0, 1) := by decide +kernel
theorem dk_De_20 : decode ck_De 20 = .ok (.aload_n 3, 1) := by decide +kernel
theorem dk_De_21 : decode ck_De 21 = .ok (.getfield 23, 3) := by decide +kernel
theorem dk_De_24 : decode ck_De 24 = .ok (.putfield 29, 3) := by decide +kernel
theorem dk_De_27 : decode ck_De 27 = .ok (.return_, 1) := by decide +kernel
theorem jq_173 : (Cond.methodLink "TypeOrThing$Declarators" 3 Lib.objectInit : Cond) ∈ jn_T := jn_of (List.mem_of_getElem? (i := 173) (by decide +kernel)) (by decide +kernel)
theorem jq_174 : (Cond.fieldLink "TypeOrThing$Declarators" 9 "TypeOrThing$Declarators" "cursor" "LTypeOrThing$Cursor;" : Cond) ∈ jn_T := jn_of (List.mem_of_getElem? (i := 174) (by decide +kernel)) (by decide +kernel)
theorem jq_175 : (Cond.fieldLink "TypeOrThing$Declarators" 15 "TypeOrThing$Declarators" "tokens" "LTypeOrThing$Tokens;" : Cond) ∈ jn_T := jn_of (List.mem_of_getElem? (i := 175) (by decide +kernel)) (by decide +kernel)
theorem jq_176 : (Cond.fieldLink "TypeOrThing$Declarators" 19 "TypeOrThing$Declarators" "names" "LTypeOrThing$Names;" : Cond) ∈ jn_T := jn_of (List.mem_of_getElem? (i := 176) (by decide +kernel)) (by decide +kernel)
theorem jq_80 : (Cond.fieldLink "TypeOrThing$Declarators" 23 "TypeOrThing$Names" "types" "LTypeOrThing$Tape;" : Cond) ∈ jn_T := jn_of (List.mem_of_getElem? (i := 80) (by decide +kernel)) (by decide +kernel)
theorem jq_177 : (Cond.fieldLink "TypeOrThing$Declarators" 29 "TypeOrThing$Declarators" "types" "LTypeOrThing$Tape;" : Cond) ∈ jn_T := jn_of (List.mem_of_getElem? (i := 177) (by decide +kernel)) (by decide +kernel)
set_option maxHeartbeats 4000000 in
set_option maxRecDepth 100000 in
theorem kt_De (l : Launch) (D : va_G) (dA : Nat → ClassId) (h0 : Nat) (sz : Nat) (cu : Nat) (tk : Nat) (nm : Nat) (fs : List Value) (ty0 : Nat) (hfs : fs[1]? = some (.ref ty0)) : Met l yk_De (Cond.code yk_De ck_De 4 none :: jn_T) ({ frames := 1, cells := 0, slots := 0, locals := 12 }) (va_Pc [.ref h0, .ref cu, .ref tk, .ref nm] (fun U => U.heap.size = sz ∧ va_P D jn_cl [(h0, .inr (6, [.null, .null, .null, .null])), (nm, .inr (5, fs))] U.heap ∧ va_K D jn_cl (ja_ty dA) U ∧ jc_N U ∧ va_D (fun _ => True) [(h0, .inr (6, [.null, .null, .null, .null])), (nm, .inr (5, fs))])) (va_Qv (fun _ : Nat → Nat => True) (fun u t => va_P D jn_cl [(h0, .inr (6, [.ref cu, .ref tk, .ref nm, .ref ty0])), (nm, .inr (5, fs))] t.heap ∧ va_D (va_A [(h0, .inr (6, [.null, .null, .null, .null])), (nm, .inr (5, fs))] sz) [(h0, .inr (6, [.ref cu, .ref tk, .ref nm, .ref ty0])), (nm, .inr (5, fs))]) (va_A [(h0, .inr (6, [.null, .null, .null, .null])), (nm, .inr (5, fs))] sz)) 0 0 (va_A [(h0, .inr (6, [.null, .null, .null, .null])), (nm, .inr (5, fs))] sz) := by
  refine jc_ofW (cc := ck_De) (maxL := 4) (ret := none) (by decide +kernel) rfl ?_
  intro p e s m args below meth c s₁ B hml hv
  obtain ⟨rfl, hsz, hP, hK, hN, hD0⟩ := hv
  have hx := B.exec
  have hb := B.bytes
  have hr := B.returns
  have hts := jc_hts B
  have hown : s.vm.findClass "TypeOrThing$Declarators" = some m.cls := findClass_of_methodNamed B.named
  have hlocks := B.notSynchronized
  have hin : meth.name = "<init>" := (name_of_methodNamed B.named B.method).1
  subst hsz
  have hD := hD0.self (sz := s.heap.size)
  generalize hAe : va_A [(h0, .inr (6, [.null, .null, .null, .null])), (nm, .inr (5, fs))] s.heap.size = A at hD ⊢
  have hA : ∀ q : Nat, s.heap.size ≤ q → A q := fun q h => by rw [← hAe]; exact Or.inr h
  have hS : va_S A s.heap s.heap [] := va_S.rf
  have hP : va_P D jn_cl [(h0, .inr (6, [.null, .null, .null, .null])), (nm, .inr (5, fs))] s.heap := hP
  have hl := lv_entry ([.ref h0, .ref cu, .ref tk, .ref nm]) (n := 4) (Nat.le_of_ble_eq_true rfl)
  rw [lg_entry_eq]
  generalize (lg_sl ([.ref h0, .ref cu, .ref tk, .ref nm]) ++ List.replicate (4 - (lg_sl ([.ref h0, .ref cu, .ref tk, .ref nm])).length) Slot.unset).toArray = ls at hl ⊢
  have hl : lv_has ls 4 [(0, .ref h0), (1, .ref cu), (2, .ref tk), (3, .ref nm)] := hl
  refine lv_aload_n hx hb dk_De_0 rfl (lv_at hl 0 rfl) ?_
  refine W.objInit hx hb hown (hts _ jq_173) (hts _ jq_27) (hts _ jq_obj) rfl (by rw [hml]; exact hl.1) rfl dk_De_1 (Nat.le_of_ble_eq_true rfl) (Nat.le_of_ble_eq_true rfl) ?_
  refine W.eq (g2 := F0 m 4 ls []) rfl ?_
  refine lv_aload_n hx hb dk_De_4 rfl (lv_at hl 0 rfl) ?_
  refine lv_aload_n hx hb dk_De_5 rfl (lv_at hl 1 rfl) ?_
  refine va_putF (D := D) (ci := 6) (v := .ref cu) (ty := .object "TypeOrThing$Cursor") (C := "TypeOrThing$Declarators") (T := jn_F6) (N := 4) hx hb hts jn_i6 jn_y6 jn_t6 jn_n6 hown hK hP hD hS 0 rfl rfl 0 (by decide) (hts _ jq_174) (fun _ h9 => h9) rfl hin rfl (by decide +kernel) rfl rfl (Nat.le_of_ble_eq_true rfl) dk_De_6 (fun H locs hP hD hS => ?_)
  have hP : va_P D jn_cl [(h0, .inr (6, [.ref cu, .null, .null, .null])), (nm, .inr (5, fs))] H := hP
  have hD : va_D A [(h0, .inr (6, [.ref cu, .null, .null, .null])), (nm, .inr (5, fs))] := hD
  refine lv_aload_n hx hb dk_De_9 rfl (lv_at hl 0 rfl) ?_
  refine lv_aload_n hx hb dk_De_10 rfl (lv_at hl 2 rfl) ?_
  refine va_putF (D := D) (ci := 6) (v := .ref tk) (ty := .object "TypeOrThing$Tokens") (C := "TypeOrThing$Declarators") (T := jn_F6) (N := 4) hx hb hts jn_i6 jn_y6 jn_t6 jn_n6 hown hK hP hD hS 0 rfl rfl 1 (by decide) (hts _ jq_175) (fun _ h9 => h9) rfl hin rfl (by decide +kernel) rfl rfl (Nat.le_of_ble_eq_true rfl) dk_De_11 (fun H locs hP hD hS => ?_)
  have hP : va_P D jn_cl [(h0, .inr (6, [.ref cu, .ref tk, .null, .null])), (nm, .inr (5, fs))] H := hP
  have hD : va_D A [(h0, .inr (6, [.ref cu, .ref tk, .null, .null])), (nm, .inr (5, fs))] := hD
  refine lv_aload_n hx hb dk_De_14 rfl (lv_at hl 0 rfl) ?_
  refine lv_aload_n hx hb dk_De_15 rfl (lv_at hl 3 rfl) ?_
  refine va_putF (D := D) (ci := 6) (v := .ref nm) (ty := .object "TypeOrThing$Names") (C := "TypeOrThing$Declarators") (T := jn_F6) (N := 4) hx hb hts jn_i6 jn_y6 jn_t6 jn_n6 hown hK hP hD hS 0 rfl rfl 2 (by decide) (hts _ jq_176) (fun _ h9 => h9) rfl hin rfl (by decide +kernel) rfl rfl (Nat.le_of_ble_eq_true rfl) dk_De_16 (fun H locs hP hD hS => ?_)
  have hP : va_P D jn_cl [(h0, .inr (6, [.ref cu, .ref tk, .ref nm, .null])), (nm, .inr (5, fs))] H := hP
  have hD : va_D A [(h0, .inr (6, [.ref cu, .ref tk, .ref nm, .null])), (nm, .inr (5, fs))] := hD
  refine lv_aload_n hx hb dk_De_19 rfl (lv_at hl 0 rfl) ?_
  refine lv_aload_n hx hb dk_De_20 rfl (lv_at hl 3 rfl) ?_
  refine va_get (D := D) (ci := 5) (v := .ref ty0) (C := "TypeOrThing$Names") (T := jn_F5) (N := 14) hx hb hts jn_i5 hown hK hP 1 rfl rfl 1 (by decide) (hts _ jq_80) (fun _ h9 => h9) hfs dk_De_21 ?_
  refine va_putF (D := D) (ci := 6) (v := .ref ty0) (ty := .object "TypeOrThing$Tape") (C := "TypeOrThing$Declarators") (T := jn_F6) (N := 4) hx hb hts jn_i6 jn_y6 jn_t6 jn_n6 hown hK hP hD hS 0 rfl rfl 3 (by decide) (hts _ jq_177) (fun _ h9 => h9) rfl hin rfl (by decide +kernel) rfl rfl (Nat.le_of_ble_eq_true rfl) dk_De_24 (fun H locs hP hD hS => ?_)
  have hP : va_P D jn_cl [(h0, .inr (6, [.ref cu, .ref tk, .ref nm, .ref ty0])), (nm, .inr (5, fs))] H := hP
  have hD : va_D A [(h0, .inr (6, [.ref cu, .ref tk, .ref nm, .ref ty0])), (nm, .inr (5, fs))] := hD
  have hP9 := hP.sub (ws' := [(h0, .inr (6, [.ref cu, .ref tk, .ref nm, .ref ty0])), (nm, .inr (5, fs))]) [0, 1] rfl
  have hD9 := hD.sub (ws' := [(h0, .inr (6, [.ref cu, .ref tk, .ref nm, .ref ty0])), (nm, .inr (5, fs))]) [0, 1] (by decide) rfl
  exact W.vret hx hb hr (fun t ht hW => ⟨⟨(fun i => [].getD i 0), rfl, trivial, by rw [ht]; exact hP9, hD9⟩, hS.F ht⟩) hS.2.2 dk_De_27
abbrev ck_Ex : ByteArray := prog_4_method_1_code
def yk_Ex : MethodName := ⟨"TypeOrThing$Expressions", "<init>", "(LTypeOrThing$Cursor;LTypeOrThing$Tokens;LTypeOrThing$Names;LTypeOrThing$Declarators;LTypeOrThing$Tape;)V"⟩
theorem dk_Ex_0 : decode ck_Ex 0 = .ok (.aload_n 0, 1) := by decide +kernel
theorem dk_Ex_1 : decode ck_Ex 1 = .ok (.invokespecial 3, 3) := by decide +kernel
theorem dk_Ex_4 : decode ck_Ex 4 = .ok (.aload_n 0, 1) := by decide +kernel
theorem dk_Ex_5 : decode ck_Ex 5 = .ok (.sipush 160, 3) := by decide +kernel
theorem dk_Ex_8 : decode ck_Ex 8 = .ok (.newarray .char, 2) := by decide +kernel
theorem dk_Ex_10 : decode ck_Ex 10 = .ok (.putfield 9, 3) := by decide +kernel
theorem dk_Ex_13 : decode ck_Ex 13 = .ok (.aload_n 0, 1) := by decide +kernel
theorem dk_Ex_14 : decode ck_Ex 14 = .ok (.sipush 160, 3) := by decide +kernel
theorem dk_Ex_17 : decode ck_Ex 17 = .ok (.newarray .int, 2) := by decide +kernel
theorem dk_Ex_19 : decode ck_Ex 19 = .ok (.putfield 15, 3) := by decide +kernel
theorem dk_Ex_22 : decode ck_Ex 22 = .ok (.aload_n 0, 1) := by decide +kernel
theorem dk_Ex_23 : decode ck_Ex 23 = .ok (.sipush 160, 3) := by decide +kernel
theorem dk_Ex_26 : decode ck_Ex 26 = .ok (.newarray .int, 2) := by decide +kernel
theorem dk_Ex_28 : decode ck_Ex 28 = .ok (.putfield 19, 3) := by decide +kernel
theorem dk_Ex_31 : decode ck_Ex 31 = .ok (.aload_n 0, 1) := by decide +kernel
theorem dk_Ex_32 : decode ck_Ex 32 = .ok (.iconst 0, 1) := by decide +kernel
theorem dk_Ex_33 : decode ck_Ex 33 = .ok (.putfield 22, 3) := by decide +kernel
theorem dk_Ex_36 : decode ck_Ex 36 = .ok (.aload_n 0, 1) := by decide +kernel
theorem dk_Ex_37 : decode ck_Ex 37 = .ok (.aload_n 1, 1) := by decide +kernel
theorem dk_Ex_38 : decode ck_Ex 38 = .ok (.putfield 26, 3) := by decide +kernel
theorem dk_Ex_41 : decode ck_Ex 41 = .ok (.aload_n 0, 1) := by decide +kernel
theorem dk_Ex_42 : decode ck_Ex 42 = .ok (.aload_n 2, 1) := by decide +kernel
theorem dk_Ex_43 : decode ck_Ex 43 = .ok (.putfield 30, 3) := by decide +kernel
theorem dk_Ex_46 : decode ck_Ex 46 = .ok (.aload_n 0, 1) := by decide +kernel
theorem dk_Ex_47 : decode ck_Ex 47 = .ok (.aload_n 3, 1) := by decide +kernel
theorem dk_Ex_48 : decode ck_Ex 48 = .ok (.putfield 34, 3) := by decide +kernel
theorem dk_Ex_51 : decode ck_Ex 51 = .ok (.aload_n 0, 1) := by decide +kernel
theorem dk_Ex_52 : decode ck_Ex 52 = .ok (.aload 4, 2) := by decide +kernel
theorem dk_Ex_54 : decode ck_Ex 54 = .ok (.putfield 38, 3) := by decide +kernel
theorem dk_Ex_57 : decode ck_Ex 57 = .ok (.aload_n 0, 1) := by decide +kernel
theorem dk_Ex_58 : decode ck_Ex 58 = .ok (.aload 5, 2) := by decide +kernel
theorem dk_Ex_60 : decode ck_Ex 60 = .ok (.putfield 42, 3) := by decide +kernel
theorem dk_Ex_63 : decode ck_Ex 63 = .ok (.return_, 1) := by decide +kernel
theorem jq_192 : (Cond.methodLink "TypeOrThing$Expressions" 3 Lib.objectInit : Cond) ∈ jn_T := jn_of (List.mem_of_getElem? (i := 192) (by decide +kernel)) (by decide +kernel)
theorem jq_198 : (Cond.fieldLink "TypeOrThing$Expressions" 9 "TypeOrThing$Expressions" "prefixes" "[C" : Cond) ∈ jn_T := jn_of (List.mem_of_getElem? (i := 198) (by decide +kernel)) (by decide +kernel)
theorem jq_199 : (Cond.fieldLink "TypeOrThing$Expressions" 15 "TypeOrThing$Expressions" "castStarts" "[I" : Cond) ∈ jn_T := jn_of (List.mem_of_getElem? (i := 199) (by decide +kernel)) (by decide +kernel)
theorem jq_200 : (Cond.fieldLink "TypeOrThing$Expressions" 19 "TypeOrThing$Expressions" "castEnds" "[I" : Cond) ∈ jn_T := jn_of (List.mem_of_getElem? (i := 200) (by decide +kernel)) (by decide +kernel)
theorem jq_201 : (Cond.fieldLink "TypeOrThing$Expressions" 22 "TypeOrThing$Expressions" "prefixCount" "I" : Cond) ∈ jn_T := jn_of (List.mem_of_getElem? (i := 201) (by decide +kernel)) (by decide +kernel)
theorem jq_193 : (Cond.fieldLink "TypeOrThing$Expressions" 26 "TypeOrThing$Expressions" "cursor" "LTypeOrThing$Cursor;" : Cond) ∈ jn_T := jn_of (List.mem_of_getElem? (i := 193) (by decide +kernel)) (by decide +kernel)
theorem jq_194 : (Cond.fieldLink "TypeOrThing$Expressions" 30 "TypeOrThing$Expressions" "tokens" "LTypeOrThing$Tokens;" : Cond) ∈ jn_T := jn_of (List.mem_of_getElem? (i := 194) (by decide +kernel)) (by decide +kernel)
theorem jq_195 : (Cond.fieldLink "TypeOrThing$Expressions" 34 "TypeOrThing$Expressions" "names" "LTypeOrThing$Names;" : Cond) ∈ jn_T := jn_of (List.mem_of_getElem? (i := 195) (by decide +kernel)) (by decide +kernel)
theorem jq_196 : (Cond.fieldLink "TypeOrThing$Expressions" 38 "TypeOrThing$Expressions" "declarators" "LTypeOrThing$Declarators;" : Cond) ∈ jn_T := jn_of (List.mem_of_getElem? (i := 196) (by decide +kernel)) (by decide +kernel)
theorem jq_197 : (Cond.fieldLink "TypeOrThing$Expressions" 42 "TypeOrThing$Expressions" "plainForm" "LTypeOrThing$Tape;" : Cond) ∈ jn_T := jn_of (List.mem_of_getElem? (i := 197) (by decide +kernel)) (by decide +kernel)
set_option maxHeartbeats 4000000 in
set_option maxRecDepth 100000 in
theorem kt_Ex (l : Launch) (D : va_G) (dA : Nat → ClassId) (h0 : Nat) (sz : Nat) (cu : Nat) (tk : Nat) (nm : Nat) (de : Nat) (fo : Nat) : Met l yk_Ex (Cond.code yk_Ex ck_Ex 6 none :: jn_T) ({ frames := 1, cells := 3, slots := 480, locals := 12 }) (va_Pc [.ref h0, .ref cu, .ref tk, .ref nm, .ref de, .ref fo] (fun U => U.heap.size = sz ∧ va_P D jn_cl [(h0, .inr (7, [.null, .null, .null, .null, .null, .null, .null, .null, .int 0]))] U.heap ∧ va_K D jn_cl (ja_ty dA) U ∧ jc_N U ∧ va_D (fun _ => True) [(h0, .inr (7, [.null, .null, .null, .null, .null, .null, .null, .null, .int 0]))])) (va_Qv (fun _ : Nat → Nat => True) (fun u t => va_P D jn_cl [(h0, .inr (7, [.ref cu, .ref tk, .ref nm, .ref de, .ref fo, .ref (u 0), .ref (u 1), .ref (u 2), .int 0])), ((u 0), .inl (dA 1, 160, .inl (fun _ => 0))), ((u 1), .inl (dA 0, 160, .inl (fun _ => 0))), ((u 2), .inl (dA 0, 160, .inl (fun _ => 0)))] t.heap ∧ va_D (va_A [(h0, .inr (7, [.null, .null, .null, .null, .null, .null, .null, .null, .int 0]))] sz) [(h0, .inr (7, [.ref cu, .ref tk, .ref nm, .ref de, .ref fo, .ref (u 0), .ref (u 1), .ref (u 2), .int 0])), ((u 0), .inl (dA 1, 160, .inl (fun _ => 0))), ((u 1), .inl (dA 0, 160, .inl (fun _ => 0))), ((u 2), .inl (dA 0, 160, .inl (fun _ => 0)))]) (va_A [(h0, .inr (7, [.null, .null, .null, .null, .null, .null, .null, .null, .int 0]))] sz)) 3 480 (va_A [(h0, .inr (7, [.null, .null, .null, .null, .null, .null, .null, .null, .int 0]))] sz) := by
  refine jc_ofW (cc := ck_Ex) (maxL := 6) (ret := none) (by decide +kernel) rfl ?_
  intro p e s m args below meth c s₁ B hml hv
  obtain ⟨rfl, hsz, hP, hK, hN, hD0⟩ := hv
  have hx := B.exec
  have hb := B.bytes
  have hr := B.returns
  have hts := jc_hts B
  have hown : s.vm.findClass "TypeOrThing$Expressions" = some m.cls := findClass_of_methodNamed B.named
  have hlocks := B.notSynchronized
  have hin : meth.name = "<init>" := (name_of_methodNamed B.named B.method).1
  subst hsz
  have hD := hD0.self (sz := s.heap.size)
  generalize hAe : va_A [(h0, .inr (7, [.null, .null, .null, .null, .null, .null, .null, .null, .int 0]))] s.heap.size = A at hD ⊢
  have hA : ∀ q : Nat, s.heap.size ≤ q → A q := fun q h => by rw [← hAe]; exact Or.inr h
  have hS : va_S A s.heap s.heap [] := va_S.rf
  have hP : va_P D jn_cl [(h0, .inr (7, [.null, .null, .null, .null, .null, .null, .null, .null, .int 0]))] s.heap := hP
  have hl := lv_entry ([.ref h0, .ref cu, .ref tk, .ref nm, .ref de, .ref fo]) (n := 6) (Nat.le_of_ble_eq_true rfl)
  rw [lg_entry_eq]
  generalize (lg_sl ([.ref h0, .ref cu, .ref tk, .ref nm, .ref de, .ref fo]) ++ List.replicate (6 - (lg_sl ([.ref h0, .ref cu, .ref tk, .ref nm, .ref de, .ref fo])).length) Slot.unset).toArray = ls at hl ⊢
  have hl : lv_has ls 6 [(0, .ref h0), (1, .ref cu), (2, .ref tk), (3, .ref nm), (4, .ref de), (5, .ref fo)] := hl
  refine lv_aload_n hx hb dk_Ex_0 rfl (lv_at hl 0 rfl) ?_
  refine W.objInit hx hb hown (hts _ jq_192) (hts _ jq_27) (hts _ jq_obj) rfl (by rw [hml]; exact hl.1) rfl dk_Ex_1 (Nat.le_of_ble_eq_true rfl) (Nat.le_of_ble_eq_true rfl) ?_
  refine W.eq (g2 := F0 m 4 ls []) rfl ?_
  refine lv_aload_n hx hb dk_Ex_4 rfl (lv_at hl 0 rfl) ?_
  refine lv_sipush (v := 160) hx hb dk_Ex_5 (by decide) ?_
  refine jc_newa (dA := dA) (atype := .char) (ty := .char) (N' := 160) (a0 := (160, .inl (fun _ => 0))) hx hb (hts _ jq_52) rfl 1 rfl (fun _ h => h) hK hP hD hS hA (jc_v1 160) (by decide) (by decide) (by decide) (Nat.le_of_ble_eq_true rfl) (Nat.le_of_ble_eq_true rfl) dk_Ex_8 (fun q8 H hP hD hS => ?_)
  have hP : va_P D jn_cl [(h0, .inr (7, [.null, .null, .null, .null, .null, .null, .null, .null, .int 0])), (q8, .inl (dA 1, 160, .inl (fun _ => 0)))] H := hP
  have hD : va_D A [(h0, .inr (7, [.null, .null, .null, .null, .null, .null, .null, .null, .int 0])), (q8, .inl (dA 1, 160, .inl (fun _ => 0)))] := hD
  refine W.eq (g2 := F0 m 10 ls (.ref q8 :: .ref h0 :: [])) rfl ?_
  refine W.widen (k := 1) (n := 160) (by decide) (by decide) ?_
  refine va_putF (D := D) (ci := 7) (v := .ref q8) (ty := .array .char) (C := "TypeOrThing$Expressions") (T := jn_F7) (N := 9) hx hb hts jn_i7 jn_y7 jn_t7 jn_n7 hown hK hP hD hS 0 rfl rfl 5 (by decide) (hts _ jq_198) (fun _ h9 => h9) rfl hin rfl (by decide +kernel) rfl rfl (Nat.le_of_ble_eq_true rfl) dk_Ex_10 (fun H locs hP hD hS => ?_)
  have hP : va_P D jn_cl [(h0, .inr (7, [.null, .null, .null, .null, .null, .ref q8, .null, .null, .int 0])), (q8, .inl (dA 1, 160, .inl (fun _ => 0)))] H := hP
  have hD : va_D A [(h0, .inr (7, [.null, .null, .null, .null, .null, .ref q8, .null, .null, .int 0])), (q8, .inl (dA 1, 160, .inl (fun _ => 0)))] := hD
  refine lv_aload_n hx hb dk_Ex_13 rfl (lv_at hl 0 rfl) ?_
  refine lv_sipush (v := 160) hx hb dk_Ex_14 (by decide) ?_
  refine jc_newa (dA := dA) (atype := .int) (ty := .int) (N' := 160) (a0 := (160, .inl (fun _ => 0))) hx hb (hts _ jq_53) rfl 0 rfl (fun _ h => h) hK hP hD hS hA (jc_v0 160) (by decide) (by decide) (by decide) (Nat.le_of_ble_eq_true rfl) (Nat.le_of_ble_eq_true rfl) dk_Ex_17 (fun q17 H hP hD hS => ?_)
  have hP : va_P D jn_cl [(h0, .inr (7, [.null, .null, .null, .null, .null, .ref q8, .null, .null, .int 0])), (q8, .inl (dA 1, 160, .inl (fun _ => 0))), (q17, .inl (dA 0, 160, .inl (fun _ => 0)))] H := hP
  have hD : va_D A [(h0, .inr (7, [.null, .null, .null, .null, .null, .ref q8, .null, .null, .int 0])), (q8, .inl (dA 1, 160, .inl (fun _ => 0))), (q17, .inl (dA 0, 160, .inl (fun _ => 0)))] := hD
  refine W.eq (g2 := F0 m 19 ls (.ref q17 :: .ref h0 :: [])) rfl ?_
  refine W.widen (k := 2) (n := 320) (by decide) (by decide) ?_
  refine va_putF (D := D) (ci := 7) (v := .ref q17) (ty := .array .int) (C := "TypeOrThing$Expressions") (T := jn_F7) (N := 9) hx hb hts jn_i7 jn_y7 jn_t7 jn_n7 hown hK hP hD hS 0 rfl rfl 6 (by decide) (hts _ jq_199) (fun _ h9 => h9) rfl hin rfl (by decide +kernel) rfl rfl (Nat.le_of_ble_eq_true rfl) dk_Ex_19 (fun H locs hP hD hS => ?_)
  have hP : va_P D jn_cl [(h0, .inr (7, [.null, .null, .null, .null, .null, .ref q8, .ref q17, .null, .int 0])), (q8, .inl (dA 1, 160, .inl (fun _ => 0))), (q17, .inl (dA 0, 160, .inl (fun _ => 0)))] H := hP
  have hD : va_D A [(h0, .inr (7, [.null, .null, .null, .null, .null, .ref q8, .ref q17, .null, .int 0])), (q8, .inl (dA 1, 160, .inl (fun _ => 0))), (q17, .inl (dA 0, 160, .inl (fun _ => 0)))] := hD
  refine lv_aload_n hx hb dk_Ex_22 rfl (lv_at hl 0 rfl) ?_
  refine lv_sipush (v := 160) hx hb dk_Ex_23 (by decide) ?_
  refine jc_newa (dA := dA) (atype := .int) (ty := .int) (N' := 160) (a0 := (160, .inl (fun _ => 0))) hx hb (hts _ jq_53) rfl 0 rfl (fun _ h => h) hK hP hD hS hA (jc_v0 160) (by decide) (by decide) (by decide) (Nat.le_of_ble_eq_true rfl) (Nat.le_of_ble_eq_true rfl) dk_Ex_26 (fun q26 H hP hD hS => ?_)
  have hP : va_P D jn_cl [(h0, .inr (7, [.null, .null, .null, .null, .null, .ref q8, .ref q17, .null, .int 0])), (q8, .inl (dA 1, 160, .inl (fun _ => 0))), (q17, .inl (dA 0, 160, .inl (fun _ => 0))), (q26, .inl (dA 0, 160, .inl (fun _ => 0)))] H := hP
  have hD : va_D A [(h0, .inr (7, [.null, .null, .null, .null, .null, .ref q8, .ref q17, .null, .int 0])), (q8, .inl (dA 1, 160, .inl (fun _ => 0))), (q17, .inl (dA 0, 160, .inl (fun _ => 0))), (q26, .inl (dA 0, 160, .inl (fun _ => 0)))] := hD
  refine W.eq (g2 := F0 m 28 ls (.ref q26 :: .ref h0 :: [])) rfl ?_
  refine W.widen (k := 3) (n := 480) (by decide) (by decide) ?_
  refine va_putF (D := D) (ci := 7) (v := .ref q26) (ty := .array .int) (C := "TypeOrThing$Expressions") (T := jn_F7) (N := 9) hx hb hts jn_i7 jn_y7 jn_t7 jn_n7 hown hK hP hD hS 0 rfl rfl 7 (by decide) (hts _ jq_200) (fun _ h9 => h9) rfl hin rfl (by decide +kernel) rfl rfl (Nat.le_of_ble_eq_true rfl) dk_Ex_28 (fun H locs hP hD hS => ?_)
  have hP : va_P D jn_cl [(h0, .inr (7, [.null, .null, .null, .null, .null, .ref q8, .ref q17, .ref q26, .int 0])), (q8, .inl (dA 1, 160, .inl (fun _ => 0))), (q17, .inl (dA 0, 160, .inl (fun _ => 0))), (q26, .inl (dA 0, 160, .inl (fun _ => 0)))] H := hP
  have hD : va_D A [(h0, .inr (7, [.null, .null, .null, .null, .null, .ref q8, .ref q17, .ref q26, .int 0])), (q8, .inl (dA 1, 160, .inl (fun _ => 0))), (q17, .inl (dA 0, 160, .inl (fun _ => 0))), (q26, .inl (dA 0, 160, .inl (fun _ => 0)))] := hD
  refine lv_aload_n hx hb dk_Ex_31 rfl (lv_at hl 0 rfl) ?_
  refine lv_iconst (v := 0) hx hb dk_Ex_32 (by decide) ?_
  refine va_put (D := D) (ci := 7) (v := .int 0) (ty := .int) (C := "TypeOrThing$Expressions") (T := jn_F7) (N := 9) hx hb hts jn_i7 jn_y7 jn_t7 jn_n7 hown hK hP hD hS 0 rfl rfl 8 (by decide) (hts _ jq_201) (fun _ h9 => h9) rfl (by decide +kernel) rfl rfl (Nat.le_of_ble_eq_true rfl) dk_Ex_33 (fun H locs hP hD hS => ?_)
  have hP : va_P D jn_cl [(h0, .inr (7, [.null, .null, .null, .null, .null, .ref q8, .ref q17, .ref q26, .int 0])), (q8, .inl (dA 1, 160, .inl (fun _ => 0))), (q17, .inl (dA 0, 160, .inl (fun _ => 0))), (q26, .inl (dA 0, 160, .inl (fun _ => 0)))] H := hP
  have hD : va_D A [(h0, .inr (7, [.null, .null, .null, .null, .null, .ref q8, .ref q17, .ref q26, .int 0])), (q8, .inl (dA 1, 160, .inl (fun _ => 0))), (q17, .inl (dA 0, 160, .inl (fun _ => 0))), (q26, .inl (dA 0, 160, .inl (fun _ => 0)))] := hD
  refine lv_aload_n hx hb dk_Ex_36 rfl (lv_at hl 0 rfl) ?_
  refine lv_aload_n hx hb dk_Ex_37 rfl (lv_at hl 1 rfl) ?_
  refine va_putF (D := D) (ci := 7) (v := .ref cu) (ty := .object "TypeOrThing$Cursor") (C := "TypeOrThing$Expressions") (T := jn_F7) (N := 9) hx hb hts jn_i7 jn_y7 jn_t7 jn_n7 hown hK hP hD hS 0 rfl rfl 0 (by decide) (hts _ jq_193) (fun _ h9 => h9) rfl hin rfl (by decide +kernel) rfl rfl (Nat.le_of_ble_eq_true rfl) dk_Ex_38 (fun H locs hP hD hS => ?_)
  have hP : va_P D jn_cl [(h0, .inr (7, [.ref cu, .null, .null, .null, .null, .ref q8, .ref q17, .ref q26, .int 0])), (q8, .inl (dA 1, 160, .inl (fun _ => 0))), (q17, .inl (dA 0, 160, .inl (fun _ => 0))), (q26, .inl (dA 0, 160, .inl (fun _ => 0)))] H := hP
  have hD : va_D A [(h0, .inr (7, [.ref cu, .null, .null, .null, .null, .ref q8, .ref q17, .ref q26, .int 0])), (q8, .inl (dA 1, 160, .inl (fun _ => 0))), (q17, .inl (dA 0, 160, .inl (fun _ => 0))), (q26, .inl (dA 0, 160, .inl (fun _ => 0)))] := hD
  refine lv_aload_n hx hb dk_Ex_41 rfl (lv_at hl 0 rfl) ?_
  refine lv_aload_n hx hb dk_Ex_42 rfl (lv_at hl 2 rfl) ?_
  refine va_putF (D := D) (ci := 7) (v := .ref tk) (ty := .object "TypeOrThing$Tokens") (C := "TypeOrThing$Expressions") (T := jn_F7) (N := 9) hx hb hts jn_i7 jn_y7 jn_t7 jn_n7 hown hK hP hD hS 0 rfl rfl 1 (by decide) (hts _ jq_194) (fun _ h9 => h9) rfl hin rfl (by decide +kernel) rfl rfl (Nat.le_of_ble_eq_true rfl) dk_Ex_43 (fun H locs hP hD hS => ?_)
  have hP : va_P D jn_cl [(h0, .inr (7, [.ref cu, .ref tk, .null, .null, .null, .ref q8, .ref q17, .ref q26, .int 0])), (q8, .inl (dA 1, 160, .inl (fun _ => 0))), (q17, .inl (dA 0, 160, .inl (fun _ => 0))), (q26, .inl (dA 0, 160, .inl (fun _ => 0)))] H := hP
  have hD : va_D A [(h0, .inr (7, [.ref cu, .ref tk, .null, .null, .null, .ref q8, .ref q17, .ref q26, .int 0])), (q8, .inl (dA 1, 160, .inl (fun _ => 0))), (q17, .inl (dA 0, 160, .inl (fun _ => 0))), (q26, .inl (dA 0, 160, .inl (fun _ => 0)))] := hD
  refine lv_aload_n hx hb dk_Ex_46 rfl (lv_at hl 0 rfl) ?_
  refine lv_aload_n hx hb dk_Ex_47 rfl (lv_at hl 3 rfl) ?_
  refine va_putF (D := D) (ci := 7) (v := .ref nm) (ty := .object "TypeOrThing$Names") (C := "TypeOrThing$Expressions") (T := jn_F7) (N := 9) hx hb hts jn_i7 jn_y7 jn_t7 jn_n7 hown hK hP hD hS 0 rfl rfl 2 (by decide) (hts _ jq_195) (fun _ h9 => h9) rfl hin rfl (by decide +kernel) rfl rfl (Nat.le_of_ble_eq_true rfl) dk_Ex_48 (fun H locs hP hD hS => ?_)
  have hP : va_P D jn_cl [(h0, .inr (7, [.ref cu, .ref tk, .ref nm, .null, .null, .ref q8, .ref q17, .ref q26, .int 0])), (q8, .inl (dA 1, 160, .inl (fun _ => 0))), (q17, .inl (dA 0, 160, .inl (fun _ => 0))), (q26, .inl (dA 0, 160, .inl (fun _ => 0)))] H := hP
  have hD : va_D A [(h0, .inr (7, [.ref cu, .ref tk, .ref nm, .null, .null, .ref q8, .ref q17, .ref q26, .int 0])), (q8, .inl (dA 1, 160, .inl (fun _ => 0))), (q17, .inl (dA 0, 160, .inl (fun _ => 0))), (q26, .inl (dA 0, 160, .inl (fun _ => 0)))] := hD
  refine lv_aload_n hx hb dk_Ex_51 rfl (lv_at hl 0 rfl) ?_
  refine lv_aload hx hb dk_Ex_52 (lv_at hl 4 rfl) ?_
  refine va_putF (D := D) (ci := 7) (v := .ref de) (ty := .object "TypeOrThing$Declarators") (C := "TypeOrThing$Expressions") (T := jn_F7) (N := 9) hx hb hts jn_i7 jn_y7 jn_t7 jn_n7 hown hK hP hD hS 0 rfl rfl 3 (by decide) (hts _ jq_196) (fun _ h9 => h9) rfl hin rfl (by decide +kernel) rfl rfl (Nat.le_of_ble_eq_true rfl) dk_Ex_54 (fun H locs hP hD hS => ?_)
  have hP : va_P D jn_cl [(h0, .inr (7, [.ref cu, .ref tk, .ref nm, .ref de, .null, .ref q8, .ref q17, .ref q26, .int 0])), (q8, .inl (dA 1, 160, .inl (fun _ => 0))), (q17, .inl (dA 0, 160, .inl (fun _ => 0))), (q26, .inl (dA 0, 160, .inl (fun _ => 0)))] H := hP
  have hD : va_D A [(h0, .inr (7, [.ref cu, .ref tk, .ref nm, .ref de, .null, .ref q8, .ref q17, .ref q26, .int 0])), (q8, .inl (dA 1, 160, .inl (fun _ => 0))), (q17, .inl (dA 0, 160, .inl (fun _ => 0))), (q26, .inl (dA 0, 160, .inl (fun _ => 0)))] := hD
  refine lv_aload_n hx hb dk_Ex_57 rfl (lv_at hl 0 rfl) ?_
  refine lv_aload hx hb dk_Ex_58 (lv_at hl 5 rfl) ?_
  refine va_putF (D := D) (ci := 7) (v := .ref fo) (ty := .object "TypeOrThing$Tape") (C := "TypeOrThing$Expressions") (T := jn_F7) (N := 9) hx hb hts jn_i7 jn_y7 jn_t7 jn_n7 hown hK hP hD hS 0 rfl rfl 4 (by decide) (hts _ jq_197) (fun _ h9 => h9) rfl hin rfl (by decide +kernel) rfl rfl (Nat.le_of_ble_eq_true rfl) dk_Ex_60 (fun H locs hP hD hS => ?_)
  have hP : va_P D jn_cl [(h0, .inr (7, [.ref cu, .ref tk, .ref nm, .ref de, .ref fo, .ref q8, .ref q17, .ref q26, .int 0])), (q8, .inl (dA 1, 160, .inl (fun _ => 0))), (q17, .inl (dA 0, 160, .inl (fun _ => 0))), (q26, .inl (dA 0, 160, .inl (fun _ => 0)))] H := hP
  have hD : va_D A [(h0, .inr (7, [.ref cu, .ref tk, .ref nm, .ref de, .ref fo, .ref q8, .ref q17, .ref q26, .int 0])), (q8, .inl (dA 1, 160, .inl (fun _ => 0))), (q17, .inl (dA 0, 160, .inl (fun _ => 0))), (q26, .inl (dA 0, 160, .inl (fun _ => 0)))] := hD
  have hP9 := hP.sub (ws' := [(h0, .inr (7, [.ref cu, .ref tk, .ref nm, .ref de, .ref fo, .ref q8, .ref q17, .ref q26, .int 0])), (q8, .inl (dA 1, 160, .inl (fun _ => 0))), (q17, .inl (dA 0, 160, .inl (fun _ => 0))), (q26, .inl (dA 0, 160, .inl (fun _ => 0)))]) [0, 1, 2, 3] rfl
  have hD9 := hD.sub (ws' := [(h0, .inr (7, [.ref cu, .ref tk, .ref nm, .ref de, .ref fo, .ref q8, .ref q17, .ref q26, .int 0])), (q8, .inl (dA 1, 160, .inl (fun _ => 0))), (q17, .inl (dA 0, 160, .inl (fun _ => 0))), (q26, .inl (dA 0, 160, .inl (fun _ => 0)))]) [0, 1, 2, 3] (by decide) rfl
  exact W.vret hx hb hr (fun t ht hW => ⟨⟨(fun i => [q8, q17, q26].getD i 0), rfl, trivial, by rw [ht]; exact hP9, hD9⟩, hS.F ht⟩) hS.2.2 dk_Ex_63
abbrev ck_Pr : ByteArray := prog_6_method_1_code
def yk_Pr : MethodName := ⟨"TypeOrThing$Programs", "<init>", "(LTypeOrThing$Tokens;LTypeOrThing$Names;LTypeOrThing$Tape;)V"⟩
theorem dk_Pr_0 : decode ck_Pr 0 = .ok (.aload_n 0, 1) := by decide +kernel
theorem dk_Pr_1 : decode ck_Pr 1 = .ok (.invokespecial 3, 3) := by decide +kernel
theorem dk_Pr_4 : decode ck_Pr 4 = .ok (.aload_n 0, 1) := by decide +kernel
theorem dk_Pr_5 : decode ck_Pr 5 = .ok (.new 9, 3) := by decide +kernel
theorem dk_Pr_8 : decode ck_Pr 8 = .ok (.dup, 1) := by decide +kernel
theorem dk_Pr_9 : decode ck_Pr 9 = .ok (.aload_n 1, 1) := by decide +kernel
theorem dk_Pr_10 : decode ck_Pr 10 = .ok (.invokespecial 11, 3) := by decide +kernel
theorem dk_Pr_13 : decode ck_Pr 13 = .ok (.putfield 14, 3) := by decide +kernel
theorem dk_Pr_16 : decode ck_Pr 16 = .ok (.aload_n 0, 1) := by decide +kernel
theorem dk_Pr_17 : decode ck_Pr 17 = .ok (.aload_n 1, 1) := by decide +kernel
theorem dk_Pr_18 : decode ck_Pr 18 = .ok (.putfield 20, 3) := by decide +kernel
theorem dk_Pr_21 : decode ck_Pr 21 = .ok (.aload_n 0, 1) := by decide +kernel
theorem dk_Pr_22 : decode ck_Pr 22 = .ok (.aload_n 2, 1) := by decide +kernel
theorem dk_Pr_23 : decode ck_Pr 23 = .ok (.putfield 24, 3) := by decide +kernel
theorem dk_Pr_26 : decode ck_Pr 26 = .ok (.aload_n 0, 1) := by decide +kernel
theorem dk_Pr_27 : decode ck_Pr 27 = .ok (.aload_n 3, 1) := by decide +kernel
theorem dk_Pr_28 : decode ck_Pr 28 = .ok (.putfield 28, 3) := by decide +kernel
theorem dk_Pr_31 : decode ck_Pr 31 = .ok (.aload_n 0, 1) := by decide +kernel
theorem dk_Pr_32 : decode ck_Pr 32 = .ok (.new 32, 3) := by decide +kernel
theorem dk_Pr_35 : decode ck_Pr 35 = .ok (.dup, 1) := by decide +kernel
theorem dk_Pr_36 : decode ck_Pr 36 = .ok (.aload_n 0, 1) := by decide +kernel
theorem dk_Pr_37 : decode ck_Pr 37 = .ok (.getfield 14, 3) := by decide +kernel
theorem dk_Pr_40 : decode ck_Pr 40 = .ok (.aload_n 1, 1) := by decide +kernel
theorem dk_Pr_41 : decode ck_Pr 41 = .ok (.aload_n 2, 1) := by decide +kernel
theorem dk_Pr_42 : decode ck_Pr 42 = .ok (.invokespecial 34, 3) := by decide +kernel
theorem dk_Pr_45 : decode ck_Pr 45 = .ok (.putfield 37, 3) := by decide +kernel
theorem dk_Pr_48 : decode ck_Pr 48 = .ok (.aload_n 0, 1) := by decide +kernel
theorem dk_Pr_49 : decode ck_Pr 49 = .ok (.new 41, 3) := by decide +kernel
theorem dk_Pr_52 : decode ck_Pr 52 = .ok (.dup, 1) := by decide +kernel
theorem dk_Pr_53 : decode ck_Pr 53 = .ok (.aload_n 0, 1) := by decide +kernel
theorem dk_Pr_54 : decode ck_Pr 54 = .ok (.getfield 14, 3) := by decide +kernel
theorem dk_Pr_57 : decode ck_Pr 57 = .ok (.aload_n 1, 1) := by decide +kernel
theorem dk_Pr_58 : decode ck_Pr 58 = .ok (.aload_n 2, 1) := by decide +kernel
theorem dk_Pr_59 : decode ck_Pr 59 = .ok (.aload_n 0, 1) := by decide +kernel
theorem dk_Pr_60 : decode ck_Pr 60 = .ok (.getfield 37, 3) := by decide +kernel
theorem dk_Pr_63 : decode ck_Pr 63 = .ok (.aload_n 3, 1) := by decide +kernel
theorem dk_Pr_64 : decode ck_Pr 64 = .ok (.invokespecial 43, 3) := by decide +kernel
theorem dk_Pr_67 : decode ck_Pr 67 = .ok (.putfield 46, 3) := by decide +kernel
theorem dk_Pr_70 : decode ck_Pr 70 = .ok (.return_, 1) := by decide +kernel
theorem jq_145 : (Cond.methodLink "TypeOrThing$Programs" 3 Lib.objectInit : Cond) ∈ jn_T := jn_of (List.mem_of_getElem? (i := 145) (by decide +kernel)) (by decide +kernel)
theorem jq_146 : (Cond.classLink "TypeOrThing$Programs" 9 "TypeOrThing$Cursor" : Cond) ∈ jn_T := jn_of (List.mem_of_getElem? (i := 146) (by decide +kernel)) (by decide +kernel)
theorem jq_147 : (Cond.instantiable "TypeOrThing$Cursor" 4 : Cond) ∈ jn_T := jn_of (List.mem_of_getElem? (i := 147) (by decide +kernel)) (by decide +kernel)
theorem jq_6 : (Cond.initialized "TypeOrThing$Cursor" : Cond) ∈ jn_T := jn_of (List.mem_of_getElem? (i := 6) (by decide +kernel)) (by decide +kernel)
theorem jq_150 : (Cond.code ⟨"TypeOrThing$Cursor", "<init>", "(LTypeOrThing$Tokens;)V"⟩ prog_2_method_1_code 2 none : Cond) ∈ jn_T := jn_of (List.mem_of_getElem? (i := 150) (by decide +kernel)) (by decide +kernel)
theorem jq_148 : (Cond.methodLink "TypeOrThing$Programs" 11 ⟨"TypeOrThing$Cursor", "<init>", "(LTypeOrThing$Tokens;)V"⟩ : Cond) ∈ jn_T := jn_of (List.mem_of_getElem? (i := 148) (by decide +kernel)) (by decide +kernel)
theorem jq_149 : (Cond.instanceMethod ⟨"TypeOrThing$Cursor", "<init>", "(LTypeOrThing$Tokens;)V"⟩ : Cond) ∈ jn_T := jn_of (List.mem_of_getElem? (i := 149) (by decide +kernel)) (by decide +kernel)
theorem jq_221 : (Cond.fieldLink "TypeOrThing$Programs" 14 "TypeOrThing$Programs" "cursor" "LTypeOrThing$Cursor;" : Cond) ∈ jn_T := jn_of (List.mem_of_getElem? (i := 221) (by decide +kernel)) (by decide +kernel)
theorem jq_222 : (Cond.fieldLink "TypeOrThing$Programs" 20 "TypeOrThing$Programs" "tokens" "LTypeOrThing$Tokens;" : Cond) ∈ jn_T := jn_of (List.mem_of_getElem? (i := 222) (by decide +kernel)) (by decide +kernel)
theorem jq_223 : (Cond.fieldLink "TypeOrThing$Programs" 24 "TypeOrThing$Programs" "names" "LTypeOrThing$Names;" : Cond) ∈ jn_T := jn_of (List.mem_of_getElem? (i := 223) (by decide +kernel)) (by decide +kernel)
theorem jq_224 : (Cond.fieldLink "TypeOrThing$Programs" 28 "TypeOrThing$Programs" "plainForm" "LTypeOrThing$Tape;" : Cond) ∈ jn_T := jn_of (List.mem_of_getElem? (i := 224) (by decide +kernel)) (by decide +kernel)
theorem jq_168 : (Cond.classLink "TypeOrThing$Programs" 32 "TypeOrThing$Declarators" : Cond) ∈ jn_T := jn_of (List.mem_of_getElem? (i := 168) (by decide +kernel)) (by decide +kernel)
theorem jq_169 : (Cond.instantiable "TypeOrThing$Declarators" 4 : Cond) ∈ jn_T := jn_of (List.mem_of_getElem? (i := 169) (by decide +kernel)) (by decide +kernel)
theorem jq_7 : (Cond.initialized "TypeOrThing$Declarators" : Cond) ∈ jn_T := jn_of (List.mem_of_getElem? (i := 7) (by decide +kernel)) (by decide +kernel)
theorem jq_172 : (Cond.code ⟨"TypeOrThing$Declarators", "<init>", "(LTypeOrThing$Cursor;LTypeOrThing$Tokens;LTypeOrThing$Names;)V"⟩ prog_3_method_1_code 4 none : Cond) ∈ jn_T := jn_of (List.mem_of_getElem? (i := 172) (by decide +kernel)) (by decide +kernel)
theorem jq_170 : (Cond.methodLink "TypeOrThing$Programs" 34 ⟨"TypeOrThing$Declarators", "<init>", "(LTypeOrThing$Cursor;LTypeOrThing$Tokens;LTypeOrThing$Names;)V"⟩ : Cond) ∈ jn_T := jn_of (List.mem_of_getElem? (i := 170) (by decide +kernel)) (by decide +kernel)
theorem jq_171 : (Cond.instanceMethod ⟨"TypeOrThing$Declarators", "<init>", "(LTypeOrThing$Cursor;LTypeOrThing$Tokens;LTypeOrThing$Names;)V"⟩ : Cond) ∈ jn_T := jn_of (List.mem_of_getElem? (i := 171) (by decide +kernel)) (by decide +kernel)
theorem jq_225 : (Cond.fieldLink "TypeOrThing$Programs" 37 "TypeOrThing$Programs" "declarators" "LTypeOrThing$Declarators;" : Cond) ∈ jn_T := jn_of (List.mem_of_getElem? (i := 225) (by decide +kernel)) (by decide +kernel)
theorem jq_187 : (Cond.classLink "TypeOrThing$Programs" 41 "TypeOrThing$Expressions" : Cond) ∈ jn_T := jn_of (List.mem_of_getElem? (i := 187) (by decide +kernel)) (by decide +kernel)
theorem jq_188 : (Cond.instantiable "TypeOrThing$Expressions" 9 : Cond) ∈ jn_T := jn_of (List.mem_of_getElem? (i := 188) (by decide +kernel)) (by decide +kernel)
theorem jq_8 : (Cond.initialized "TypeOrThing$Expressions" : Cond) ∈ jn_T := jn_of (List.mem_of_getElem? (i := 8) (by decide +kernel)) (by decide +kernel)
theorem jq_191 : (Cond.code ⟨"TypeOrThing$Expressions", "<init>", "(LTypeOrThing$Cursor;LTypeOrThing$Tokens;LTypeOrThing$Names;LTypeOrThing$Declarators;LTypeOrThing$Tape;)V"⟩ prog_4_method_1_code 6 none : Cond) ∈ jn_T := jn_of (List.mem_of_getElem? (i := 191) (by decide +kernel)) (by decide +kernel)
theorem jq_189 : (Cond.methodLink "TypeOrThing$Programs" 43 ⟨"TypeOrThing$Expressions", "<init>", "(LTypeOrThing$Cursor;LTypeOrThing$Tokens;LTypeOrThing$Names;LTypeOrThing$Declarators;LTypeOrThing$Tape;)V"⟩ : Cond) ∈ jn_T := jn_of (List.mem_of_getElem? (i := 189) (by decide +kernel)) (by decide +kernel)
theorem jq_190 : (Cond.instanceMethod ⟨"TypeOrThing$Expressions", "<init>", "(LTypeOrThing$Cursor;LTypeOrThing$Tokens;LTypeOrThing$Names;LTypeOrThing$Declarators;LTypeOrThing$Tape;)V"⟩ : Cond) ∈ jn_T := jn_of (List.mem_of_getElem? (i := 190) (by decide +kernel)) (by decide +kernel)
theorem jq_226 : (Cond.fieldLink "TypeOrThing$Programs" 46 "TypeOrThing$Programs" "expressions" "LTypeOrThing$Expressions;" : Cond) ∈ jn_T := jn_of (List.mem_of_getElem? (i := 226) (by decide +kernel)) (by decide +kernel)
set_option maxHeartbeats 4000000 in
set_option maxRecDepth 100000 in
theorem kt_Pr (l : Launch) (D : va_G) (dA : Nat → ClassId) (h0 : Nat) (sz : Nat) (tk : Nat) (nm : Nat) (fo : Nat) (fs : List Value) (ty0 : Nat) (hfs : fs[1]? = some (.ref ty0)) : Met l yk_Pr (Cond.code yk_Pr ck_Pr 4 none :: jn_T) ({ frames := 2, cells := 6, slots := 497, locals := 37 }) (va_Pc [.ref h0, .ref tk, .ref nm, .ref fo] (fun U => U.heap.size = sz ∧ va_P D jn_cl [(h0, .inr (8, [.null, .null, .null, .null, .null, .null])), (nm, .inr (5, fs))] U.heap ∧ va_K D jn_cl (ja_ty dA) U ∧ jc_N U ∧ va_D (fun _ => True) [(h0, .inr (8, [.null, .null, .null, .null, .null, .null])), (nm, .inr (5, fs))])) (va_Qv (fun _ : Nat → Nat => True) (fun u t => va_P D jn_cl [(h0, .inr (8, [.ref (u 0), .ref tk, .ref nm, .ref fo, .ref (u 1), .ref (u 2)])), (nm, .inr (5, fs)), ((u 0), .inr (4, [.ref tk, .int 0, .int 0, .int 0])), ((u 1), .inr (6, [.ref (u 0), .ref tk, .ref nm, .ref ty0])), ((u 2), .inr (7, [.ref (u 0), .ref tk, .ref nm, .ref (u 1), .ref fo, .ref (u 3), .ref (u 4), .ref (u 5), .int 0])), ((u 3), .inl (dA 1, 160, .inl (fun _ => 0))), ((u 4), .inl (dA 0, 160, .inl (fun _ => 0))), ((u 5), .inl (dA 0, 160, .inl (fun _ => 0)))] t.heap ∧ va_D (va_A [(h0, .inr (8, [.null, .null, .null, .null, .null, .null])), (nm, .inr (5, fs))] sz) [(h0, .inr (8, [.ref (u 0), .ref tk, .ref nm, .ref fo, .ref (u 1), .ref (u 2)])), (nm, .inr (5, fs)), ((u 0), .inr (4, [.ref tk, .int 0, .int 0, .int 0])), ((u 1), .inr (6, [.ref (u 0), .ref tk, .ref nm, .ref ty0])), ((u 2), .inr (7, [.ref (u 0), .ref tk, .ref nm, .ref (u 1), .ref fo, .ref (u 3), .ref (u 4), .ref (u 5), .int 0])), ((u 3), .inl (dA 1, 160, .inl (fun _ => 0))), ((u 4), .inl (dA 0, 160, .inl (fun _ => 0))), ((u 5), .inl (dA 0, 160, .inl (fun _ => 0)))]) (va_A [(h0, .inr (8, [.null, .null, .null, .null, .null, .null])), (nm, .inr (5, fs))] sz)) 6 497 (va_A [(h0, .inr (8, [.null, .null, .null, .null, .null, .null])), (nm, .inr (5, fs))] sz) := by
  refine jc_ofW (cc := ck_Pr) (maxL := 4) (ret := none) (by decide +kernel) rfl ?_
  intro p e s m args below meth c s₁ B hml hv
  obtain ⟨rfl, hsz, hP, hK, hN, hD0⟩ := hv
  have hx := B.exec
  have hb := B.bytes
  have hr := B.returns
  have hts := jc_hts B
  have hown : s.vm.findClass "TypeOrThing$Programs" = some m.cls := findClass_of_methodNamed B.named
  have hlocks := B.notSynchronized
  have hin : meth.name = "<init>" := (name_of_methodNamed B.named B.method).1
  subst hsz
  have hD := hD0.self (sz := s.heap.size)
  generalize hAe : va_A [(h0, .inr (8, [.null, .null, .null, .null, .null, .null])), (nm, .inr (5, fs))] s.heap.size = A at hD ⊢
  have hA : ∀ q : Nat, s.heap.size ≤ q → A q := fun q h => by rw [← hAe]; exact Or.inr h
  have hS : va_S A s.heap s.heap [] := va_S.rf
  have hP : va_P D jn_cl [(h0, .inr (8, [.null, .null, .null, .null, .null, .null])), (nm, .inr (5, fs))] s.heap := hP
  have hl := lv_entry ([.ref h0, .ref tk, .ref nm, .ref fo]) (n := 4) (Nat.le_of_ble_eq_true rfl)
  rw [lg_entry_eq]
  generalize (lg_sl ([.ref h0, .ref tk, .ref nm, .ref fo]) ++ List.replicate (4 - (lg_sl ([.ref h0, .ref tk, .ref nm, .ref fo])).length) Slot.unset).toArray = ls at hl ⊢
  have hl : lv_has ls 4 [(0, .ref h0), (1, .ref tk), (2, .ref nm), (3, .ref fo)] := hl
  refine lv_aload_n hx hb dk_Pr_0 rfl (lv_at hl 0 rfl) ?_
  refine W.objInit hx hb hown (hts _ jq_145) (hts _ jq_27) (hts _ jq_obj) rfl (by rw [hml]; exact hl.1) rfl dk_Pr_1 (Nat.le_of_ble_eq_true rfl) (Nat.le_of_ble_eq_true rfl) ?_
  refine W.eq (g2 := F0 m 4 ls []) rfl ?_
  refine lv_aload_n hx hb dk_Pr_4 rfl (lv_at hl 0 rfl) ?_
  refine va_new (ci := 4) (fs := [.null, .int 0, .int 0, .int 0]) (C := "TypeOrThing$Cursor") (T := jn_F4) (N := 4) hx hb hts jn_i4 jn_y4 jn_t4 hown (hts _ jq_146) (hts _ jq_147) (hts _ jq_6) hK hP hD hS hA rfl (by decide) (Nat.le_of_ble_eq_true rfl) (Nat.le_of_ble_eq_true rfl) dk_Pr_5 (fun q5 H hP hD hS => ?_)
  have hP : va_P D jn_cl [(h0, .inr (8, [.null, .null, .null, .null, .null, .null])), (nm, .inr (5, fs)), (q5, .inr (4, [.null, .int 0, .int 0, .int 0]))] H := hP
  have hD : va_D A [(h0, .inr (8, [.null, .null, .null, .null, .null, .null])), (nm, .inr (5, fs)), (q5, .inr (4, [.null, .int 0, .int 0, .int 0]))] := hD
  refine W.widen (k := 1) (n := 4) (by decide) (by decide) ?_
  refine lv_dup hx hb dk_Pr_8 rfl ?_
  refine lv_aload_n hx hb dk_Pr_9 rfl (lv_at hl 1 rfl) ?_
  have hPc := hP.sub (ws' := [(q5, .inr (4, [.null, .int 0, .int 0, .int 0]))]) [2] rfl
  have hDc := hD.sub (ws' := [(q5, .inr (4, [.null, .int 0, .int 0, .int 0]))]) [2] (by decide) rfl
  have hFc := va_free (wc := [(q5, .inr (4, [.null, .int 0, .int 0, .int 0]))]) hD hS hA [2] rfl
  refine va_callv (va_runI (As := [.ref tk]) (rest := [.ref q5, .ref h0]) ⟨hx, hb, hml, hown, hts⟩ (kt_Cu l D dA q5 H.size tk) (cwI 1 hts (jn_gC jq_150) rfl rfl rfl (hts _ jq_6) (hts _ jq_148) (hts _ jq_149) rfl (by decide +kernel) ⟨Nat.le_of_ble_eq_true rfl, Nat.le_of_ble_eq_true rfl⟩) ⟨fun a U g mk q => by obtain ⟨q0, q1, qP, qK, qN, qD⟩ := q; exact ⟨q0, q1, qP, va_K.moved (u := U) (U := U.calling g mk a) (Vm.Alike.refl U.vm) qK, jc_NC qN, qD⟩, fun U hU hW => ⟨rfl, by rw [hU], by rw [hU]; exact hPc, va_K.moved hW.alike hK, jc_NU hW hN, hDc.weaken (fun _ _ _ _ => trivial)⟩⟩ rfl rfl hl.1 rfl (lv_room (Nat.le_of_ble_eq_true rfl)) dk_Pr_10 ⟨Nat.le_of_ble_eq_true rfl, Nat.le_of_ble_eq_true rfl⟩) hS (fun q _ h => hFc q h) hFc (fun u10 t H1 locs ht hvm _ hB hz1 hk1 hS => ?_)
  obtain ⟨hP1, hD1⟩ := hB
  rw [ht] at hP1
  obtain ⟨hP, hD⟩ := va_join (wr := [(h0, .inr (8, [.null, .null, .null, .null, .null, .null])), (nm, .inr (5, fs))]) (w1 := [(q5, .inr (4, [.ref tk, .int 0, .int 0, .int 0]))]) hP hD [2] [0, 1] rfl rfl (by decide) (by decide) hk1 hFc hP1 hD1
  generalize H1 = H at hP hS ⊢
  have hP : va_P D jn_cl [(h0, .inr (8, [.null, .null, .null, .null, .null, .null])), (nm, .inr (5, fs)), (q5, .inr (4, [.ref tk, .int 0, .int 0, .int 0]))] H := hP
  have hD : va_D A [(h0, .inr (8, [.null, .null, .null, .null, .null, .null])), (nm, .inr (5, fs)), (q5, .inr (4, [.ref tk, .int 0, .int 0, .int 0]))] := hD
  refine W.widen (k := 1) (n := 4) (by decide) (by decide) ?_
  refine va_putF (D := D) (ci := 8) (v := .ref q5) (ty := .object "TypeOrThing$Cursor") (C := "TypeOrThing$Programs") (T := jn_F8) (N := 6) hx hb hts jn_i8 jn_y8 jn_t8 jn_n8 hown hK hP hD hS 0 rfl rfl 0 (by decide) (hts _ jq_221) (fun _ h9 => h9) rfl hin rfl (by decide +kernel) rfl rfl (Nat.le_of_ble_eq_true rfl) dk_Pr_13 (fun H locs hP hD hS => ?_)
  have hP : va_P D jn_cl [(h0, .inr (8, [.ref q5, .null, .null, .null, .null, .null])), (nm, .inr (5, fs)), (q5, .inr (4, [.ref tk, .int 0, .int 0, .int 0]))] H := hP
  have hD : va_D A [(h0, .inr (8, [.ref q5, .null, .null, .null, .null, .null])), (nm, .inr (5, fs)), (q5, .inr (4, [.ref tk, .int 0, .int 0, .int 0]))] := hD
  refine lv_aload_n hx hb dk_Pr_16 rfl (lv_at hl 0 rfl) ?_
  refine lv_aload_n hx hb dk_Pr_17 rfl (lv_at hl 1 rfl) ?_
  refine va_putF (D := D) (ci := 8) (v := .ref tk) (ty := .object "TypeOrThing$Tokens") (C := "TypeOrThing$Programs") (T := jn_F8) (N := 6) hx hb hts jn_i8 jn_y8 jn_t8 jn_n8 hown hK hP hD hS 0 rfl rfl 1 (by decide) (hts _ jq_222) (fun _ h9 => h9) rfl hin rfl (by decide +kernel) rfl rfl (Nat.le_of_ble_eq_true rfl) dk_Pr_18 (fun H locs hP hD hS => ?_)
  have hP : va_P D jn_cl [(h0, .inr (8, [.ref q5, .ref tk, .null, .null, .null, .null])), (nm, .inr (5, fs)), (q5, .inr (4, [.ref tk, .int 0, .int 0, .int 0]))] H := hP
  have hD : va_D A [(h0, .inr (8, [.ref q5, .ref tk, .null, .null, .null, .null])), (nm, .inr (5, fs)), (q5, .inr (4, [.ref tk, .int 0, .int 0, .int 0]))] := hD
  refine lv_aload_n hx hb dk_Pr_21 rfl (lv_at hl 0 rfl) ?_
  refine lv_aload_n hx hb dk_Pr_22 rfl (lv_at hl 2 rfl) ?_
  refine va_putF (D := D) (ci := 8) (v := .ref nm) (ty := .object "TypeOrThing$Names") (C := "TypeOrThing$Programs") (T := jn_F8) (N := 6) hx hb hts jn_i8 jn_y8 jn_t8 jn_n8 hown hK hP hD hS 0 rfl rfl 2 (by decide) (hts _ jq_223) (fun _ h9 => h9) rfl hin rfl (by decide +kernel) rfl rfl (Nat.le_of_ble_eq_true rfl) dk_Pr_23 (fun H locs hP hD hS => ?_)
  have hP : va_P D jn_cl [(h0, .inr (8, [.ref q5, .ref tk, .ref nm, .null, .null, .null])), (nm, .inr (5, fs)), (q5, .inr (4, [.ref tk, .int 0, .int 0, .int 0]))] H := hP
  have hD : va_D A [(h0, .inr (8, [.ref q5, .ref tk, .ref nm, .null, .null, .null])), (nm, .inr (5, fs)), (q5, .inr (4, [.ref tk, .int 0, .int 0, .int 0]))] := hD
  refine lv_aload_n hx hb dk_Pr_26 rfl (lv_at hl 0 rfl) ?_
  refine lv_aload_n hx hb dk_Pr_27 rfl (lv_at hl 3 rfl) ?_
  refine va_putF (D := D) (ci := 8) (v := .ref fo) (ty := .object "TypeOrThing$Tape") (C := "TypeOrThing$Programs") (T := jn_F8) (N := 6) hx hb hts jn_i8 jn_y8 jn_t8 jn_n8 hown hK hP hD hS 0 rfl rfl 3 (by decide) (hts _ jq_224) (fun _ h9 => h9) rfl hin rfl (by decide +kernel) rfl rfl (Nat.le_of_ble_eq_true rfl) dk_Pr_28 (fun H locs hP hD hS => ?_)
  have hP : va_P D jn_cl [(h0, .inr (8, [.ref q5, .ref tk, .ref nm, .ref fo, .null, .null])), (nm, .inr (5, fs)), (q5, .inr (4, [.ref tk, .int 0, .int 0, .int 0]))] H := hP
  have hD : va_D A [(h0, .inr (8, [.ref q5, .ref tk, .ref nm, .ref fo, .null, .null])), (nm, .inr (5, fs)), (q5, .inr (4, [.ref tk, .int 0, .int 0, .int 0]))] := hD
  refine lv_aload_n hx hb dk_Pr_31 rfl (lv_at hl 0 rfl) ?_
  refine va_new (ci := 6) (fs := [.null, .null, .null, .null]) (C := "TypeOrThing$Declarators") (T := jn_F6) (N := 4) hx hb hts jn_i6 jn_y6 jn_t6 hown (hts _ jq_168) (hts _ jq_169) (hts _ jq_7) hK hP hD hS hA rfl (by decide) (Nat.le_of_ble_eq_true rfl) (Nat.le_of_ble_eq_true rfl) dk_Pr_32 (fun q32 H hP hD hS => ?_)
  have hP : va_P D jn_cl [(h0, .inr (8, [.ref q5, .ref tk, .ref nm, .ref fo, .null, .null])), (nm, .inr (5, fs)), (q5, .inr (4, [.ref tk, .int 0, .int 0, .int 0])), (q32, .inr (6, [.null, .null, .null, .null]))] H := hP
  have hD : va_D A [(h0, .inr (8, [.ref q5, .ref tk, .ref nm, .ref fo, .null, .null])), (nm, .inr (5, fs)), (q5, .inr (4, [.ref tk, .int 0, .int 0, .int 0])), (q32, .inr (6, [.null, .null, .null, .null]))] := hD
  refine W.widen (k := 2) (n := 8) (by decide) (by decide) ?_
  refine lv_dup hx hb dk_Pr_35 rfl ?_
  refine lv_aload_n hx hb dk_Pr_36 rfl (lv_at hl 0 rfl) ?_
  refine va_get (D := D) (ci := 8) (v := .ref q5) (C := "TypeOrThing$Programs") (T := jn_F8) (N := 6) hx hb hts jn_i8 hown hK hP 0 rfl rfl 0 (by decide) (hts _ jq_221) (fun _ h9 => h9) rfl dk_Pr_37 ?_
  refine lv_aload_n hx hb dk_Pr_40 rfl (lv_at hl 1 rfl) ?_
  refine lv_aload_n hx hb dk_Pr_41 rfl (lv_at hl 2 rfl) ?_
  have hPc := hP.sub (ws' := [(q32, .inr (6, [.null, .null, .null, .null])), (nm, .inr (5, fs))]) [3, 1] rfl
  have hDc := hD.sub (ws' := [(q32, .inr (6, [.null, .null, .null, .null])), (nm, .inr (5, fs))]) [3, 1] (by decide) rfl
  have hFc := va_free (wc := [(q32, .inr (6, [.null, .null, .null, .null])), (nm, .inr (5, fs))]) hD hS hA [3, 1] rfl
  refine va_callv (va_runI (As := [.ref q5, .ref tk, .ref nm]) (rest := [.ref q32, .ref h0]) ⟨hx, hb, hml, hown, hts⟩ (kt_De l D dA q32 H.size q5 tk nm (fs) (ty0) hfs) (cwI 3 hts (jn_gC jq_172) rfl rfl rfl (hts _ jq_7) (hts _ jq_170) (hts _ jq_171) rfl (by decide +kernel) ⟨Nat.le_of_ble_eq_true rfl, Nat.le_of_ble_eq_true rfl⟩) ⟨fun a U g mk q => by obtain ⟨q0, q1, qP, qK, qN, qD⟩ := q; exact ⟨q0, q1, qP, va_K.moved (u := U) (U := U.calling g mk a) (Vm.Alike.refl U.vm) qK, jc_NC qN, qD⟩, fun U hU hW => ⟨rfl, by rw [hU], by rw [hU]; exact hPc, va_K.moved hW.alike hK, jc_NU hW hN, hDc.weaken (fun _ _ _ _ => trivial)⟩⟩ rfl rfl hl.1 rfl (lv_room (Nat.le_of_ble_eq_true rfl)) dk_Pr_42 ⟨Nat.le_of_ble_eq_true rfl, Nat.le_of_ble_eq_true rfl⟩) hS (fun q _ h => hFc q h) hFc (fun u42 t H1 locs ht hvm _ hB hz1 hk1 hS => ?_)
  obtain ⟨hP1, hD1⟩ := hB
  rw [ht] at hP1
  obtain ⟨hP, hD⟩ := va_join (wr := [(h0, .inr (8, [.ref q5, .ref tk, .ref nm, .ref fo, .null, .null])), (q5, .inr (4, [.ref tk, .int 0, .int 0, .int 0]))]) (w1 := [(q32, .inr (6, [.ref q5, .ref tk, .ref nm, .ref ty0])), (nm, .inr (5, fs))]) hP hD [3, 1] [0, 2] rfl rfl (by decide) (by decide) hk1 hFc hP1 hD1
  generalize H1 = H at hP hS ⊢
  have hP : va_P D jn_cl [(h0, .inr (8, [.ref q5, .ref tk, .ref nm, .ref fo, .null, .null])), (q5, .inr (4, [.ref tk, .int 0, .int 0, .int 0])), (q32, .inr (6, [.ref q5, .ref tk, .ref nm, .ref ty0])), (nm, .inr (5, fs))] H := hP
  have hD : va_D A [(h0, .inr (8, [.ref q5, .ref tk, .ref nm, .ref fo, .null, .null])), (q5, .inr (4, [.ref tk, .int 0, .int 0, .int 0])), (q32, .inr (6, [.ref q5, .ref tk, .ref nm, .ref ty0])), (nm, .inr (5, fs))] := hD
  refine W.widen (k := 2) (n := 8) (by decide) (by decide) ?_
  refine va_putF (D := D) (ci := 8) (v := .ref q32) (ty := .object "TypeOrThing$Declarators") (C := "TypeOrThing$Programs") (T := jn_F8) (N := 6) hx hb hts jn_i8 jn_y8 jn_t8 jn_n8 hown hK hP hD hS 0 rfl rfl 4 (by decide) (hts _ jq_225) (fun _ h9 => h9) rfl hin rfl (by decide +kernel) rfl rfl (Nat.le_of_ble_eq_true rfl) dk_Pr_45 (fun H locs hP hD hS => ?_)
  have hP : va_P D jn_cl [(h0, .inr (8, [.ref q5, .ref tk, .ref nm, .ref fo, .ref q32, .null])), (q5, .inr (4, [.ref tk, .int 0, .int 0, .int 0])), (q32, .inr (6, [.ref q5, .ref tk, .ref nm, .ref ty0])), (nm, .inr (5, fs))] H := hP
  have hD : va_D A [(h0, .inr (8, [.ref q5, .ref tk, .ref nm, .ref fo, .ref q32, .null])), (q5, .inr (4, [.ref tk, .int 0, .int 0, .int 0])), (q32, .inr (6, [.ref q5, .ref tk, .ref nm, .ref ty0])), (nm, .inr (5, fs))] := hD
  refine lv_aload_n hx hb dk_Pr_48 rfl (lv_at hl 0 rfl) ?_
  refine va_new (ci := 7) (fs := [.null, .null, .null, .null, .null, .null, .null, .null, .int 0]) (C := "TypeOrThing$Expressions") (T := jn_F7) (N := 9) hx hb hts jn_i7 jn_y7 jn_t7 hown (hts _ jq_187) (hts _ jq_188) (hts _ jq_8) hK hP hD hS hA rfl (by decide) (Nat.le_of_ble_eq_true rfl) (Nat.le_of_ble_eq_true rfl) dk_Pr_49 (fun q49 H hP hD hS => ?_)
  have hP : va_P D jn_cl [(h0, .inr (8, [.ref q5, .ref tk, .ref nm, .ref fo, .ref q32, .null])), (q5, .inr (4, [.ref tk, .int 0, .int 0, .int 0])), (q32, .inr (6, [.ref q5, .ref tk, .ref nm, .ref ty0])), (nm, .inr (5, fs)), (q49, .inr (7, [.null, .null, .null, .null, .null, .null, .null, .null, .int 0]))] H := hP
  have hD : va_D A [(h0, .inr (8, [.ref q5, .ref tk, .ref nm, .ref fo, .ref q32, .null])), (q5, .inr (4, [.ref tk, .int 0, .int 0, .int 0])), (q32, .inr (6, [.ref q5, .ref tk, .ref nm, .ref ty0])), (nm, .inr (5, fs)), (q49, .inr (7, [.null, .null, .null, .null, .null, .null, .null, .null, .int 0]))] := hD
  refine W.widen (k := 3) (n := 17) (by decide) (by decide) ?_
  refine lv_dup hx hb dk_Pr_52 rfl ?_
  refine lv_aload_n hx hb dk_Pr_53 rfl (lv_at hl 0 rfl) ?_
  refine va_get (D := D) (ci := 8) (v := .ref q5) (C := "TypeOrThing$Programs") (T := jn_F8) (N := 6) hx hb hts jn_i8 hown hK hP 0 rfl rfl 0 (by decide) (hts _ jq_221) (fun _ h9 => h9) rfl dk_Pr_54 ?_
  refine lv_aload_n hx hb dk_Pr_57 rfl (lv_at hl 1 rfl) ?_
  refine lv_aload_n hx hb dk_Pr_58 rfl (lv_at hl 2 rfl) ?_
  refine lv_aload_n hx hb dk_Pr_59 rfl (lv_at hl 0 rfl) ?_
  refine va_get (D := D) (ci := 8) (v := .ref q32) (C := "TypeOrThing$Programs") (T := jn_F8) (N := 6) hx hb hts jn_i8 hown hK hP 0 rfl rfl 4 (by decide) (hts _ jq_225) (fun _ h9 => h9) rfl dk_Pr_60 ?_
  refine lv_aload_n hx hb dk_Pr_63 rfl (lv_at hl 3 rfl) ?_
  have hPc := hP.sub (ws' := [(q49, .inr (7, [.null, .null, .null, .null, .null, .null, .null, .null, .int 0]))]) [4] rfl
  have hDc := hD.sub (ws' := [(q49, .inr (7, [.null, .null, .null, .null, .null, .null, .null, .null, .int 0]))]) [4] (by decide) rfl
  have hFc := va_free (wc := [(q49, .inr (7, [.null, .null, .null, .null, .null, .null, .null, .null, .int 0]))]) hD hS hA [4] rfl
  refine va_callv (va_runI (As := [.ref q5, .ref tk, .ref nm, .ref q32, .ref fo]) (rest := [.ref q49, .ref h0]) ⟨hx, hb, hml, hown, hts⟩ (kt_Ex l D dA q49 H.size q5 tk nm q32 fo) (cwI 5 hts (jn_gC jq_191) rfl rfl rfl (hts _ jq_8) (hts _ jq_189) (hts _ jq_190) rfl (by decide +kernel) ⟨Nat.le_of_ble_eq_true rfl, Nat.le_of_ble_eq_true rfl⟩) ⟨fun a U g mk q => by obtain ⟨q0, q1, qP, qK, qN, qD⟩ := q; exact ⟨q0, q1, qP, va_K.moved (u := U) (U := U.calling g mk a) (Vm.Alike.refl U.vm) qK, jc_NC qN, qD⟩, fun U hU hW => ⟨rfl, by rw [hU], by rw [hU]; exact hPc, va_K.moved hW.alike hK, jc_NU hW hN, hDc.weaken (fun _ _ _ _ => trivial)⟩⟩ rfl rfl hl.1 rfl (lv_room (Nat.le_of_ble_eq_true rfl)) dk_Pr_64 ⟨Nat.le_of_ble_eq_true rfl, Nat.le_of_ble_eq_true rfl⟩) hS (fun q _ h => hFc q h) hFc (fun u64 t H1 locs ht hvm _ hB hz1 hk1 hS => ?_)
  obtain ⟨hP1, hD1⟩ := hB
  rw [ht] at hP1
  obtain ⟨hP, hD⟩ := va_join (wr := [(h0, .inr (8, [.ref q5, .ref tk, .ref nm, .ref fo, .ref q32, .null])), (q5, .inr (4, [.ref tk, .int 0, .int 0, .int 0])), (q32, .inr (6, [.ref q5, .ref tk, .ref nm, .ref ty0])), (nm, .inr (5, fs))]) (w1 := [(q49, .inr (7, [.ref q5, .ref tk, .ref nm, .ref q32, .ref fo, .ref (u64 0), .ref (u64 1), .ref (u64 2), .int 0])), ((u64 0), .inl (dA 1, 160, .inl (fun _ => 0))), ((u64 1), .inl (dA 0, 160, .inl (fun _ => 0))), ((u64 2), .inl (dA 0, 160, .inl (fun _ => 0)))]) hP hD [4] [0, 1, 2, 3] rfl rfl (by decide) (by decide) hk1 hFc hP1 hD1
  generalize H1 = H at hP hS ⊢
  have hP : va_P D jn_cl [(h0, .inr (8, [.ref q5, .ref tk, .ref nm, .ref fo, .ref q32, .null])), (q5, .inr (4, [.ref tk, .int 0, .int 0, .int 0])), (q32, .inr (6, [.ref q5, .ref tk, .ref nm, .ref ty0])), (nm, .inr (5, fs)), (q49, .inr (7, [.ref q5, .ref tk, .ref nm, .ref q32, .ref fo, .ref (u64 0), .ref (u64 1), .ref (u64 2), .int 0])), ((u64 0), .inl (dA 1, 160, .inl (fun _ => 0))), ((u64 1), .inl (dA 0, 160, .inl (fun _ => 0))), ((u64 2), .inl (dA 0, 160, .inl (fun _ => 0)))] H := hP
  have hD : va_D A [(h0, .inr (8, [.ref q5, .ref tk, .ref nm, .ref fo, .ref q32, .null])), (q5, .inr (4, [.ref tk, .int 0, .int 0, .int 0])), (q32, .inr (6, [.ref q5, .ref tk, .ref nm, .ref ty0])), (nm, .inr (5, fs)), (q49, .inr (7, [.ref q5, .ref tk, .ref nm, .ref q32, .ref fo, .ref (u64 0), .ref (u64 1), .ref (u64 2), .int 0])), ((u64 0), .inl (dA 1, 160, .inl (fun _ => 0))), ((u64 1), .inl (dA 0, 160, .inl (fun _ => 0))), ((u64 2), .inl (dA 0, 160, .inl (fun _ => 0)))] := hD
  refine W.widen (k := 6) (n := 497) (by decide) (by decide) ?_
  refine va_putF (D := D) (ci := 8) (v := .ref q49) (ty := .object "TypeOrThing$Expressions") (C := "TypeOrThing$Programs") (T := jn_F8) (N := 6) hx hb hts jn_i8 jn_y8 jn_t8 jn_n8 hown hK hP hD hS 0 rfl rfl 5 (by decide) (hts _ jq_226) (fun _ h9 => h9) rfl hin rfl (by decide +kernel) rfl rfl (Nat.le_of_ble_eq_true rfl) dk_Pr_67 (fun H locs hP hD hS => ?_)
  have hP : va_P D jn_cl [(h0, .inr (8, [.ref q5, .ref tk, .ref nm, .ref fo, .ref q32, .ref q49])), (q5, .inr (4, [.ref tk, .int 0, .int 0, .int 0])), (q32, .inr (6, [.ref q5, .ref tk, .ref nm, .ref ty0])), (nm, .inr (5, fs)), (q49, .inr (7, [.ref q5, .ref tk, .ref nm, .ref q32, .ref fo, .ref (u64 0), .ref (u64 1), .ref (u64 2), .int 0])), ((u64 0), .inl (dA 1, 160, .inl (fun _ => 0))), ((u64 1), .inl (dA 0, 160, .inl (fun _ => 0))), ((u64 2), .inl (dA 0, 160, .inl (fun _ => 0)))] H := hP
  have hD : va_D A [(h0, .inr (8, [.ref q5, .ref tk, .ref nm, .ref fo, .ref q32, .ref q49])), (q5, .inr (4, [.ref tk, .int 0, .int 0, .int 0])), (q32, .inr (6, [.ref q5, .ref tk, .ref nm, .ref ty0])), (nm, .inr (5, fs)), (q49, .inr (7, [.ref q5, .ref tk, .ref nm, .ref q32, .ref fo, .ref (u64 0), .ref (u64 1), .ref (u64 2), .int 0])), ((u64 0), .inl (dA 1, 160, .inl (fun _ => 0))), ((u64 1), .inl (dA 0, 160, .inl (fun _ => 0))), ((u64 2), .inl (dA 0, 160, .inl (fun _ => 0)))] := hD
  have hP9 := hP.sub (ws' := [(h0, .inr (8, [.ref q5, .ref tk, .ref nm, .ref fo, .ref q32, .ref q49])), (nm, .inr (5, fs)), (q5, .inr (4, [.ref tk, .int 0, .int 0, .int 0])), (q32, .inr (6, [.ref q5, .ref tk, .ref nm, .ref ty0])), (q49, .inr (7, [.ref q5, .ref tk, .ref nm, .ref q32, .ref fo, .ref (u64 0), .ref (u64 1), .ref (u64 2), .int 0])), ((u64 0), .inl (dA 1, 160, .inl (fun _ => 0))), ((u64 1), .inl (dA 0, 160, .inl (fun _ => 0))), ((u64 2), .inl (dA 0, 160, .inl (fun _ => 0)))]) [0, 3, 1, 2, 4, 5, 6, 7] rfl
  have hD9 := hD.sub (ws' := [(h0, .inr (8, [.ref q5, .ref tk, .ref nm, .ref fo, .ref q32, .ref q49])), (nm, .inr (5, fs)), (q5, .inr (4, [.ref tk, .int 0, .int 0, .int 0])), (q32, .inr (6, [.ref q5, .ref tk, .ref nm, .ref ty0])), (q49, .inr (7, [.ref q5, .ref tk, .ref nm, .ref q32, .ref fo, .ref (u64 0), .ref (u64 1), .ref (u64 2), .int 0])), ((u64 0), .inl (dA 1, 160, .inl (fun _ => 0))), ((u64 1), .inl (dA 0, 160, .inl (fun _ => 0))), ((u64 2), .inl (dA 0, 160, .inl (fun _ => 0)))]) [0, 3, 1, 2, 4, 5, 6, 7] (by decide) rfl
  exact W.vret hx hb hr (fun t ht hW => ⟨⟨(fun i => [q5, q32, q49, u64 0, u64 1, u64 2].getD i 0), rfl, trivial, by rw [ht]; exact hP9, hD9⟩, hS.F ht⟩) hS.2.2 dk_Pr_70
