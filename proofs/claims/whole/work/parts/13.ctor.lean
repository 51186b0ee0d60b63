section
variable {p : Program} {l : Launch} {e : Env} {R : Room} {s : State} {m : MethodId} {args : Array Value} {below : List Frame} {meth : Method} {c : Code} {H : Heap} {locs : List Loc} {cells slots : Nat} {Q : State → Prop}
variable {cc : ByteArray} {pc : Nat} {ls : Array Slot} {rest : List Value} {D : va_G} {A : Nat → Prop} {dA : Nat → ClassId} {ws : va_W} {H0 : Heap}
def jc_N (U : State) : Prop := ∀ q ∈ jn_NW, va_Nw (.methodLinkNest q.1 q.2.1 q.2.2.1 q.2.2.2) U
theorem jc_NU {s U : State} (hW : s.WarmedH U.vm) (h : jc_N s) : jc_N U := fun q hq => va_Nw.warmM hW (h q hq)
theorem jc_NC {U : State} {g : JFrame} {mk : MethodId} {a : Array Value} (h : jc_N U) : jc_N (U.calling g mk a) := fun q hq => va_Nw.same rfl rfl (h q hq)
theorem jc_ofW {y : MethodName} {ws ws' : List Cond} {rm : Room} {Pc : Array Value → State → Prop} {Qc : Array Value → State → Outcome → State → Prop} {mc ms : Nat} {free : Addr → Prop} {maxL : Nat} {ret : Option FieldType}
    (hy : plainName y.cls = true) (hw : ws = Cond.code y cc maxL ret :: ws')
    (body : ∀ p e s m args below meth c s₁, BodyLoose p l y (headSpec ws rm) cc maxL ret e s m args below meth c s₁ → c.maxLocals = maxL → Pc args s →
      W p l e rm s m args below meth c s.heap [] 0 0 (MQ below Qc args s mc ms free) (entryFrame m args maxL)) : Met l y ws rm Pc Qc mc ms free := Met.ofW hy hw body
theorem jc_hts {y : MethodName} {rm : Room} {maxL : Nat} {ret : Option FieldType} {c0 : Cond} {s₁ : State} (B : BodyLoose p l y (headSpec (c0 :: jn_T) rm) cc maxL ret e s m args below meth c s₁) : ∀ w ∈ jn_T, w.before args s = true := fun w h => atoms_spec (ws := c0 :: jn_T) B.pre w (List.mem_cons_of_mem _ h)
theorem jc_newa (hexec : p.tables.exec = Jvm.exec) (hb : c.code = cc) {atype : ArrayType} (harr : (Cond.arrayClass (newarray.typeOf atype)).before args s = true) {ty : FieldType} (hty : newarray.typeOf atype = ty) (t : Nat) (ht : (ja_ty dA)[t]? = some (dA t, ty)) (hra : ∀ cA, va_RA s cA ty → s.vm.findClass ("[" ++ ty.toString) = some cA)
    (hK : va_K D jn_cl (ja_ty dA) s) (hP : va_P D jn_cl ws H) (hD : va_D A ws) (hS : va_S A H0 H locs) (hA : ∀ q, H0.size ≤ q → A q)
    {n : Int32} {N' : Nat} {a0 : vp_A} (ha : ∀ cA : ClassId, vp_cell cA a0 = arrV cA N' (fun _ => defaultValue ty)) (hn : ¬ n < 0) (hN : n.toNatClampNeg = N') (hbytes : N' * componentBytes ty ≤ 536870912) (hcells : cells + 1 ≤ R.cells) (hslots : slots + N' ≤ R.slots) (hdg : decode cc pc = .ok (.newarray atype, 2))
    (kk : ∀ (q : Nat) (H1 : Heap), va_P D jn_cl (ws ++ [(q, .inl (dA t, a0))]) H1 → va_D A (ws ++ [(q, .inl (dA t, a0))]) → va_S A H0 H1 locs →
      W p l e R s m args below meth c H1 locs (cells + 1) (slots + N') Q (F0 m (pc + 2) ls (.ref q :: rest))) : W p l e R s m args below meth c H locs cells slots Q (F0 m pc ls (.int n :: rest)) := by
  refine va_newa hexec hb harr hty hK hP hD hS hA ha hn hN hbytes hcells hslots hdg (fun q cA H1 hK1 hP1 hD1 hS1 => ?_)
  have h1 := hra _ (hK.2 t _ ht).2
  have h2 := hra _ (hK1.2 3 (cA, ty) rfl).2
  have e1 : cA = dA t := Option.some.inj (h2.symm.trans h1)
  rw [e1] at hP1 hD1
  exact kk q H1 hP1 hD1 hS1
theorem jc_v0 (N : Nat) (cA : ClassId) : vp_cell cA (N, .inl (fun _ => 0)) = arrV cA N (fun _ => defaultValue .int) := rfl
theorem jc_v1 (N : Nat) (cA : ClassId) : vp_cell cA (N, .inl (fun _ => 0)) = arrV cA N (fun _ => defaultValue .char) := rfl
theorem jc_v2 (N : Nat) (cA : ClassId) : vp_cell cA (N, .inr (.inl (fun _ => 0))) = arrV cA N (fun _ => defaultValue .long) := rfl
end
theorem jq_obj : Cond.code Lib.objectInit ⟨#[0xb1]⟩ 1 none ∈ jn_T := jn_of (List.mem_of_getElem? (i := 28) (by decide +kernel)) (by decide +kernel)
abbrev ck_Ta : ByteArray := prog_7_method_1_code
def yk_Ta : MethodName := ⟨"TypeOrThing$Tape", "<init>", "()V"⟩
theorem dk_Ta_0 : decode ck_Ta 0 = .ok (.aload_n 0, 1) := by decide +kernel
theorem dk_Ta_1 : decode ck_Ta 1 = .ok (.invokespecial 3, 3) := by decide +kernel
theorem dk_Ta_4 : decode ck_Ta 4 = .ok (.aload_n 0, 1) := by decide +kernel
theorem dk_Ta_5 : decode ck_Ta 5 = .ok (.sipush 640, 3) := by decide +kernel
theorem dk_Ta_8 : decode ck_Ta 8 = .ok (.newarray .char, 2) := by decide +kernel
theorem dk_Ta_10 : decode ck_Ta 10 = .ok (.putfield 9, 3) := by decide +kernel
theorem dk_Ta_13 : decode ck_Ta 13 = .ok (.aload_n 0, 1) := by decide +kernel
theorem dk_Ta_14 : decode ck_Ta 14 = .ok (.iconst 0, 1) := by decide +kernel
theorem dk_Ta_15 : decode ck_Ta 15 = .ok (.putfield 15, 3) := by decide +kernel
theorem dk_Ta_18 : decode ck_Ta 18 = .ok (.return_, 1) := by decide +kernel
theorem jq_66 : (Cond.methodLink "TypeOrThing$Tape" 3 Lib.objectInit : Cond) ∈ jn_T := jn_of (List.mem_of_getElem? (i := 66) (by decide +kernel)) (by decide +kernel)
theorem jq_27 : (Cond.instanceMethod Lib.objectInit : Cond) ∈ jn_T := jn_of (List.mem_of_getElem? (i := 27) (by decide +kernel)) (by decide +kernel)
theorem jq_52 : (Cond.arrayClass .char : Cond) ∈ jn_T := jn_of (List.mem_of_getElem? (i := 52) (by decide +kernel)) (by decide +kernel)
theorem jq_67 : (Cond.fieldLink "TypeOrThing$Tape" 9 "TypeOrThing$Tape" "cells" "[C" : Cond) ∈ jn_T := jn_of (List.mem_of_getElem? (i := 67) (by decide +kernel)) (by decide +kernel)
theorem jq_68 : (Cond.fieldLink "TypeOrThing$Tape" 15 "TypeOrThing$Tape" "size" "I" : Cond) ∈ jn_T := jn_of (List.mem_of_getElem? (i := 68) (by decide +kernel)) (by decide +kernel)
set_option maxHeartbeats 4000000 in
set_option maxRecDepth 100000 in
theorem kt_Ta (l : Launch) (D : va_G) (dA : Nat → ClassId) (h0 : Nat) (sz : Nat) : Met l yk_Ta (Cond.code yk_Ta ck_Ta 1 none :: jn_T) ({ frames := 1, cells := 1, slots := 640, locals := 12 }) (va_Pc [.ref h0] (fun U => U.heap.size = sz ∧ va_P D jn_cl [(h0, .inr (2, [.null, .int 0]))] U.heap ∧ va_K D jn_cl (ja_ty dA) U ∧ jc_N U ∧ va_D (fun _ => True) [(h0, .inr (2, [.null, .int 0]))])) (va_Qv (fun _ : Nat → Nat => True) (fun u t => va_P D jn_cl [(h0, .inr (2, [.ref (u 0), .int 0])), ((u 0), .inl (dA 1, 640, .inl (fun _ => 0)))] t.heap ∧ va_D (va_A [(h0, .inr (2, [.null, .int 0]))] sz) [(h0, .inr (2, [.ref (u 0), .int 0])), ((u 0), .inl (dA 1, 640, .inl (fun _ => 0)))]) (va_A [(h0, .inr (2, [.null, .int 0]))] sz)) 1 640 (va_A [(h0, .inr (2, [.null, .int 0]))] sz) := by
  refine jc_ofW (cc := ck_Ta) (maxL := 1) (ret := none) (by decide +kernel) rfl ?_
  intro p e s m args below meth c s₁ B hml hv
  obtain ⟨rfl, hsz, hP, hK, hN, hD0⟩ := hv
  have hx := B.exec
  have hb := B.bytes
  have hr := B.returns
  have hts := jc_hts B
  have hown : s.vm.findClass "TypeOrThing$Tape" = some m.cls := findClass_of_methodNamed B.named
  have hlocks := B.notSynchronized
  have hin : meth.name = "<init>" := (name_of_methodNamed B.named B.method).1
  subst hsz
  have hD := hD0.self (sz := s.heap.size)
  generalize hAe : va_A [(h0, .inr (2, [.null, .int 0]))] s.heap.size = A at hD ⊢
  have hA : ∀ q : Nat, s.heap.size ≤ q → A q := fun q h => by rw [← hAe]; exact Or.inr h
  have hS : va_S A s.heap s.heap [] := va_S.rf
  have hP : va_P D jn_cl [(h0, .inr (2, [.null, .int 0]))] s.heap := hP
  have hl := lv_entry ([.ref h0]) (n := 1) (Nat.le_of_ble_eq_true rfl)
  rw [lg_entry_eq]
  generalize (lg_sl ([.ref h0]) ++ List.replicate (1 - (lg_sl ([.ref h0])).length) Slot.unset).toArray = ls at hl ⊢
  have hl : lv_has ls 1 [(0, .ref h0)] := hl
  refine lv_aload_n hx hb dk_Ta_0 rfl (lv_at hl 0 rfl) ?_
  refine W.objInit hx hb hown (hts _ jq_66) (hts _ jq_27) (hts _ jq_obj) rfl (by rw [hml]; exact hl.1) rfl dk_Ta_1 (Nat.le_of_ble_eq_true rfl) (Nat.le_of_ble_eq_true rfl) ?_
  refine W.eq (g2 := F0 m 4 ls []) rfl ?_
  refine lv_aload_n hx hb dk_Ta_4 rfl (lv_at hl 0 rfl) ?_
  refine lv_sipush (v := 640) hx hb dk_Ta_5 (by decide) ?_
  refine jc_newa (dA := dA) (atype := .char) (ty := .char) (N' := 640) (a0 := (640, .inl (fun _ => 0))) hx hb (hts _ jq_52) rfl 1 rfl (fun _ h => h) hK hP hD hS hA (jc_v1 640) (by decide) (by decide) (by decide) (Nat.le_of_ble_eq_true rfl) (Nat.le_of_ble_eq_true rfl) dk_Ta_8 (fun q8 H hP hD hS => ?_)
  have hP : va_P D jn_cl [(h0, .inr (2, [.null, .int 0])), (q8, .inl (dA 1, 640, .inl (fun _ => 0)))] H := hP
  have hD : va_D A [(h0, .inr (2, [.null, .int 0])), (q8, .inl (dA 1, 640, .inl (fun _ => 0)))] := hD
  refine W.eq (g2 := F0 m 10 ls (.ref q8 :: .ref h0 :: [])) rfl ?_
  refine W.widen (k := 1) (n := 640) (by decide) (by decide) ?_
  refine va_putF (D := D) (ci := 2) (v := .ref q8) (ty := .array .char) (C := "TypeOrThing$Tape") (T := jn_F2) (N := 2) hx hb hts jn_i2 jn_y2 jn_t2 jn_n2 hown hK hP hD hS 0 rfl rfl 0 (by decide) (hts _ jq_67) (fun _ h9 => h9) rfl hin rfl (by decide +kernel) rfl rfl (Nat.le_of_ble_eq_true rfl) dk_Ta_10 (fun H locs hP hD hS => ?_)
  have hP : va_P D jn_cl [(h0, .inr (2, [.ref q8, .int 0])), (q8, .inl (dA 1, 640, .inl (fun _ => 0)))] H := hP
  have hD : va_D A [(h0, .inr (2, [.ref q8, .int 0])), (q8, .inl (dA 1, 640, .inl (fun _ => 0)))] := hD
  refine lv_aload_n hx hb dk_Ta_13 rfl (lv_at hl 0 rfl) ?_
  refine lv_iconst (v := 0) hx hb dk_Ta_14 (by decide) ?_
  refine va_put (D := D) (ci := 2) (v := .int 0) (ty := .int) (C := "TypeOrThing$Tape") (T := jn_F2) (N := 2) hx hb hts jn_i2 jn_y2 jn_t2 jn_n2 hown hK hP hD hS 0 rfl rfl 1 (by decide) (hts _ jq_68) (fun _ h9 => h9) rfl (by decide +kernel) rfl rfl (Nat.le_of_ble_eq_true rfl) dk_Ta_15 (fun H locs hP hD hS => ?_)
  have hP : va_P D jn_cl [(h0, .inr (2, [.ref q8, .int 0])), (q8, .inl (dA 1, 640, .inl (fun _ => 0)))] H := hP
  have hD : va_D A [(h0, .inr (2, [.ref q8, .int 0])), (q8, .inl (dA 1, 640, .inl (fun _ => 0)))] := hD
  have hP9 := hP.sub (ws' := [(h0, .inr (2, [.ref q8, .int 0])), (q8, .inl (dA 1, 640, .inl (fun _ => 0)))]) [0, 1] rfl
  have hD9 := hD.sub (ws' := [(h0, .inr (2, [.ref q8, .int 0])), (q8, .inl (dA 1, 640, .inl (fun _ => 0)))]) [0, 1] (by decide) rfl
  exact W.vret hx hb hr (fun t ht hW => ⟨⟨(fun i => [q8].getD i 0), rfl, trivial, by rw [ht]; exact hP9, hD9⟩, hS.F ht⟩) hS.2.2 dk_Ta_18
abbrev ck_Tk : ByteArray := prog_8_method_1_code
def yk_Tk : MethodName := ⟨"TypeOrThing$Tokens", "<init>", "()V"⟩
theorem dk_Tk_0 : decode ck_Tk 0 = .ok (.aload_n 0, 1) := by decide +kernel
theorem dk_Tk_1 : decode ck_Tk 1 = .ok (.invokespecial 3, 3) := by decide +kernel
theorem dk_Tk_4 : decode ck_Tk 4 = .ok (.aload_n 0, 1) := by decide +kernel
theorem dk_Tk_5 : decode ck_Tk 5 = .ok (.sipush 160, 3) := by decide +kernel
theorem dk_Tk_8 : decode ck_Tk 8 = .ok (.newarray .int, 2) := by decide +kernel
theorem dk_Tk_10 : decode ck_Tk 10 = .ok (.putfield 9, 3) := by decide +kernel
theorem dk_Tk_13 : decode ck_Tk 13 = .ok (.aload_n 0, 1) := by decide +kernel
theorem dk_Tk_14 : decode ck_Tk 14 = .ok (.sipush 160, 3) := by decide +kernel
theorem dk_Tk_17 : decode ck_Tk 17 = .ok (.newarray .long, 2) := by decide +kernel
theorem dk_Tk_19 : decode ck_Tk 19 = .ok (.putfield 15, 3) := by decide +kernel
theorem dk_Tk_22 : decode ck_Tk 22 = .ok (.aload_n 0, 1) := by decide +kernel
theorem dk_Tk_23 : decode ck_Tk 23 = .ok (.iconst 0, 1) := by decide +kernel
theorem dk_Tk_24 : decode ck_Tk 24 = .ok (.putfield 19, 3) := by decide +kernel
theorem dk_Tk_27 : decode ck_Tk 27 = .ok (.aload_n 0, 1) := by decide +kernel
theorem dk_Tk_28 : decode ck_Tk 28 = .ok (.iconst 0, 1) := by decide +kernel
theorem dk_Tk_29 : decode ck_Tk 29 = .ok (.putfield 23, 3) := by decide +kernel
theorem dk_Tk_32 : decode ck_Tk 32 = .ok (.return_, 1) := by decide +kernel
theorem jq_34 : (Cond.methodLink "TypeOrThing$Tokens" 3 Lib.objectInit : Cond) ∈ jn_T := jn_of (List.mem_of_getElem? (i := 34) (by decide +kernel)) (by decide +kernel)
theorem jq_53 : (Cond.arrayClass .int : Cond) ∈ jn_T := jn_of (List.mem_of_getElem? (i := 53) (by decide +kernel)) (by decide +kernel)
theorem jq_35 : (Cond.fieldLink "TypeOrThing$Tokens" 9 "TypeOrThing$Tokens" "kinds" "[I" : Cond) ∈ jn_T := jn_of (List.mem_of_getElem? (i := 35) (by decide +kernel)) (by decide +kernel)
theorem jq_54 : (Cond.arrayClass .long : Cond) ∈ jn_T := jn_of (List.mem_of_getElem? (i := 54) (by decide +kernel)) (by decide +kernel)
theorem jq_37 : (Cond.fieldLink "TypeOrThing$Tokens" 15 "TypeOrThing$Tokens" "words" "[J" : Cond) ∈ jn_T := jn_of (List.mem_of_getElem? (i := 37) (by decide +kernel)) (by decide +kernel)
theorem jq_39 : (Cond.fieldLink "TypeOrThing$Tokens" 19 "TypeOrThing$Tokens" "count" "I" : Cond) ∈ jn_T := jn_of (List.mem_of_getElem? (i := 39) (by decide +kernel)) (by decide +kernel)
theorem jq_42 : (Cond.fieldLink "TypeOrThing$Tokens" 23 "TypeOrThing$Tokens" "lastLength" "I" : Cond) ∈ jn_T := jn_of (List.mem_of_getElem? (i := 42) (by decide +kernel)) (by decide +kernel)
set_option maxHeartbeats 4000000 in
set_option maxRecDepth 100000 in
theorem kt_Tk (l : Launch) (D : va_G) (dA : Nat → ClassId) (h0 : Nat) (sz : Nat) : Met l yk_Tk (Cond.code yk_Tk ck_Tk 1 none :: jn_T) ({ frames := 1, cells := 2, slots := 320, locals := 12 }) (va_Pc [.ref h0] (fun U => U.heap.size = sz ∧ va_P D jn_cl [(h0, .inr (3, [.null, .null, .int 0, .int 0]))] U.heap ∧ va_K D jn_cl (ja_ty dA) U ∧ jc_N U ∧ va_D (fun _ => True) [(h0, .inr (3, [.null, .null, .int 0, .int 0]))])) (va_Qv (fun _ : Nat → Nat => True) (fun u t => va_P D jn_cl [(h0, .inr (3, [.ref (u 0), .ref (u 1), .int 0, .int 0])), ((u 0), .inl (dA 0, 160, .inl (fun _ => 0))), ((u 1), .inl (dA 2, 160, .inr (.inl (fun _ => 0))))] t.heap ∧ va_D (va_A [(h0, .inr (3, [.null, .null, .int 0, .int 0]))] sz) [(h0, .inr (3, [.ref (u 0), .ref (u 1), .int 0, .int 0])), ((u 0), .inl (dA 0, 160, .inl (fun _ => 0))), ((u 1), .inl (dA 2, 160, .inr (.inl (fun _ => 0))))]) (va_A [(h0, .inr (3, [.null, .null, .int 0, .int 0]))] sz)) 2 320 (va_A [(h0, .inr (3, [.null, .null, .int 0, .int 0]))] sz) := by
  refine jc_ofW (cc := ck_Tk) (maxL := 1) (ret := none) (by decide +kernel) rfl ?_
  intro p e s m args below meth c s₁ B hml hv
  obtain ⟨rfl, hsz, hP, hK, hN, hD0⟩ := hv
  have hx := B.exec
  have hb := B.bytes
  have hr := B.returns
  have hts := jc_hts B
  have hown : s.vm.findClass "TypeOrThing$Tokens" = some m.cls := findClass_of_methodNamed B.named
  have hlocks := B.notSynchronized
  have hin : meth.name = "<init>" := (name_of_methodNamed B.named B.method).1
  subst hsz
  have hD := hD0.self (sz := s.heap.size)
  generalize hAe : va_A [(h0, .inr (3, [.null, .null, .int 0, .int 0]))] s.heap.size = A at hD ⊢
  have hA : ∀ q : Nat, s.heap.size ≤ q → A q := fun q h => by rw [← hAe]; exact Or.inr h
  have hS : va_S A s.heap s.heap [] := va_S.rf
  have hP : va_P D jn_cl [(h0, .inr (3, [.null, .null, .int 0, .int 0]))] s.heap := hP
  have hl := lv_entry ([.ref h0]) (n := 1) (Nat.le_of_ble_eq_true rfl)
  rw [lg_entry_eq]
  generalize (lg_sl ([.ref h0]) ++ List.replicate (1 - (lg_sl ([.ref h0])).length) Slot.unset).toArray = ls at hl ⊢
  have hl : lv_has ls 1 [(0, .ref h0)] := hl
  refine lv_aload_n hx hb dk_Tk_0 rfl (lv_at hl 0 rfl) ?_
  refine W.objInit hx hb hown (hts _ jq_34) (hts _ jq_27) (hts _ jq_obj) rfl (by rw [hml]; exact hl.1) rfl dk_Tk_1 (Nat.le_of_ble_eq_true rfl) (Nat.le_of_ble_eq_true rfl) ?_
  refine W.eq (g2 := F0 m 4 ls []) rfl ?_
  refine lv_aload_n hx hb dk_Tk_4 rfl (lv_at hl 0 rfl) ?_
  refine lv_sipush (v := 160) hx hb dk_Tk_5 (by decide) ?_
  refine jc_newa (dA := dA) (atype := .int) (ty := .int) (N' := 160) (a0 := (160, .inl (fun _ => 0))) hx hb (hts _ jq_53) rfl 0 rfl (fun _ h => h) hK hP hD hS hA (jc_v0 160) (by decide) (by decide) (by decide) (Nat.le_of_ble_eq_true rfl) (Nat.le_of_ble_eq_true rfl) dk_Tk_8 (fun q8 H hP hD hS => ?_)
  have hP : va_P D jn_cl [(h0, .inr (3, [.null, .null, .int 0, .int 0])), (q8, .inl (dA 0, 160, .inl (fun _ => 0)))] H := hP
  have hD : va_D A [(h0, .inr (3, [.null, .null, .int 0, .int 0])), (q8, .inl (dA 0, 160, .inl (fun _ => 0)))] := hD
  refine W.eq (g2 := F0 m 10 ls (.ref q8 :: .ref h0 :: [])) rfl ?_
  refine W.widen (k := 1) (n := 160) (by decide) (by decide) ?_
  refine va_putF (D := D) (ci := 3) (v := .ref q8) (ty := .array .int) (C := "TypeOrThing$Tokens") (T := jn_F3) (N := 4) hx hb hts jn_i3 jn_y3 jn_t3 jn_n3 hown hK hP hD hS 0 rfl rfl 0 (by decide) (hts _ jq_35) (fun _ h9 => h9) rfl hin rfl (by decide +kernel) rfl rfl (Nat.le_of_ble_eq_true rfl) dk_Tk_10 (fun H locs hP hD hS => ?_)
  have hP : va_P D jn_cl [(h0, .inr (3, [.ref q8, .null, .int 0, .int 0])), (q8, .inl (dA 0, 160, .inl (fun _ => 0)))] H := hP
  have hD : va_D A [(h0, .inr (3, [.ref q8, .null, .int 0, .int 0])), (q8, .inl (dA 0, 160, .inl (fun _ => 0)))] := hD
  refine lv_aload_n hx hb dk_Tk_13 rfl (lv_at hl 0 rfl) ?_
  refine lv_sipush (v := 160) hx hb dk_Tk_14 (by decide) ?_
  refine jc_newa (dA := dA) (atype := .long) (ty := .long) (N' := 160) (a0 := (160, .inr (.inl (fun _ => 0)))) hx hb (hts _ jq_54) rfl 2 rfl (fun _ h => h) hK hP hD hS hA (jc_v2 160) (by decide) (by decide) (by decide) (Nat.le_of_ble_eq_true rfl) (Nat.le_of_ble_eq_true rfl) dk_Tk_17 (fun q17 H hP hD hS => ?_)
  have hP : va_P D jn_cl [(h0, .inr (3, [.ref q8, .null, .int 0, .int 0])), (q8, .inl (dA 0, 160, .inl (fun _ => 0))), (q17, .inl (dA 2, 160, .inr (.inl (fun _ => 0))))] H := hP
  have hD : va_D A [(h0, .inr (3, [.ref q8, .null, .int 0, .int 0])), (q8, .inl (dA 0, 160, .inl (fun _ => 0))), (q17, .inl (dA 2, 160, .inr (.inl (fun _ => 0))))] := hD
  refine W.eq (g2 := F0 m 19 ls (.ref q17 :: .ref h0 :: [])) rfl ?_
  refine W.widen (k := 2) (n := 320) (by decide) (by decide) ?_
  refine va_putF (D := D) (ci := 3) (v := .ref q17) (ty := .array .long) (C := "TypeOrThing$Tokens") (T := jn_F3) (N := 4) hx hb hts jn_i3 jn_y3 jn_t3 jn_n3 hown hK hP hD hS 0 rfl rfl 1 (by decide) (hts _ jq_37) (fun _ h9 => h9) rfl hin rfl (by decide +kernel) rfl rfl (Nat.le_of_ble_eq_true rfl) dk_Tk_19 (fun H locs hP hD hS => ?_)
  have hP : va_P D jn_cl [(h0, .inr (3, [.ref q8, .ref q17, .int 0, .int 0])), (q8, .inl (dA 0, 160, .inl (fun _ => 0))), (q17, .inl (dA 2, 160, .inr (.inl (fun _ => 0))))] H := hP
  have hD : va_D A [(h0, .inr (3, [.ref q8, .ref q17, .int 0, .int 0])), (q8, .inl (dA 0, 160, .inl (fun _ => 0))), (q17, .inl (dA 2, 160, .inr (.inl (fun _ => 0))))] := hD
  refine lv_aload_n hx hb dk_Tk_22 rfl (lv_at hl 0 rfl) ?_
  refine lv_iconst (v := 0) hx hb dk_Tk_23 (by decide) ?_
  refine va_put (D := D) (ci := 3) (v := .int 0) (ty := .int) (C := "TypeOrThing$Tokens") (T := jn_F3) (N := 4) hx hb hts jn_i3 jn_y3 jn_t3 jn_n3 hown hK hP hD hS 0 rfl rfl 2 (by decide) (hts _ jq_39) (fun _ h9 => h9) rfl (by decide +kernel) rfl rfl (Nat.le_of_ble_eq_true rfl) dk_Tk_24 (fun H locs hP hD hS => ?_)
  have hP : va_P D jn_cl [(h0, .inr (3, [.ref q8, .ref q17, .int 0, .int 0])), (q8, .inl (dA 0, 160, .inl (fun _ => 0))), (q17, .inl (dA 2, 160, .inr (.inl (fun _ => 0))))] H := hP
  have hD : va_D A [(h0, .inr (3, [.ref q8, .ref q17, .int 0, .int 0])), (q8, .inl (dA 0, 160, .inl (fun _ => 0))), (q17, .inl (dA 2, 160, .inr (.inl (fun _ => 0))))] := hD
  refine lv_aload_n hx hb dk_Tk_27 rfl (lv_at hl 0 rfl) ?_
  refine lv_iconst (v := 0) hx hb dk_Tk_28 (by decide) ?_
  refine va_put (D := D) (ci := 3) (v := .int 0) (ty := .int) (C := "TypeOrThing$Tokens") (T := jn_F3) (N := 4) hx hb hts jn_i3 jn_y3 jn_t3 jn_n3 hown hK hP hD hS 0 rfl rfl 3 (by decide) (hts _ jq_42) (fun _ h9 => h9) rfl (by decide +kernel) rfl rfl (Nat.le_of_ble_eq_true rfl) dk_Tk_29 (fun H locs hP hD hS => ?_)
  have hP : va_P D jn_cl [(h0, .inr (3, [.ref q8, .ref q17, .int 0, .int 0])), (q8, .inl (dA 0, 160, .inl (fun _ => 0))), (q17, .inl (dA 2, 160, .inr (.inl (fun _ => 0))))] H := hP
  have hD : va_D A [(h0, .inr (3, [.ref q8, .ref q17, .int 0, .int 0])), (q8, .inl (dA 0, 160, .inl (fun _ => 0))), (q17, .inl (dA 2, 160, .inr (.inl (fun _ => 0))))] := hD
  have hP9 := hP.sub (ws' := [(h0, .inr (3, [.ref q8, .ref q17, .int 0, .int 0])), (q8, .inl (dA 0, 160, .inl (fun _ => 0))), (q17, .inl (dA 2, 160, .inr (.inl (fun _ => 0))))]) [0, 1, 2] rfl
  have hD9 := hD.sub (ws' := [(h0, .inr (3, [.ref q8, .ref q17, .int 0, .int 0])), (q8, .inl (dA 0, 160, .inl (fun _ => 0))), (q17, .inl (dA 2, 160, .inr (.inl (fun _ => 0))))]) [0, 1, 2] (by decide) rfl
  exact W.vret hx hb hr (fun t ht hW => ⟨⟨(fun i => [q8, q17].getD i 0), rfl, trivial, by rw [ht]; exact hP9, hD9⟩, hS.F ht⟩) hS.2.2 dk_Tk_32
abbrev ck_Cu : ByteArray := prog_2_method_1_code
def yk_Cu : MethodName := ⟨"TypeOrThing$Cursor", "<init>", "(LTypeOrThing$Tokens;)V"⟩
theorem dk_Cu_0 : decode ck_Cu 0 = .ok (.aload_n 0, 1) := by decide +kernel
theorem dk_Cu_1 : decode ck_Cu 1 = .ok (.invokespecial 3, 3) := by decide +kernel
theorem dk_Cu_4 : decode ck_Cu 4 = .ok (.aload_n 0, 1) := by decide +kernel
theorem dk_Cu_5 : decode ck_Cu 5 = .ok (.iconst 0, 1) := by decide +kernel
theorem dk_Cu_6 : decode ck_Cu 6 = .ok (.putfield 9, 3) := by decide +kernel
theorem dk_Cu_9 : decode ck_Cu 9 = .ok (.aload_n 0, 1) := by decide +kernel
theorem dk_Cu_10 : decode ck_Cu 10 = .ok (.iconst 0, 1) := by decide +kernel
theorem dk_Cu_11 : decode ck_Cu 11 = .ok (.putfield 15, 3) := by decide +kernel
theorem dk_Cu_14 : decode ck_Cu 14 = .ok (.aload_n 0, 1) := by decide +kernel
theorem dk_Cu_15 : decode ck_Cu 15 = .ok (.iconst 0, 1) := by decide +kernel
theorem dk_Cu_16 : decode ck_Cu 16 = .ok (.putfield 18, 3) := by decide +kernel
theorem dk_Cu_19 : decode ck_Cu 19 = .ok (.aload_n 0, 1) := by decide +kernel
theorem dk_Cu_20 : decode ck_Cu 20 = .ok (.aload_n 1, 1) := by decide +kernel
theorem dk_Cu_21 : decode ck_Cu 21 = .ok (.putfield 21, 3) := by decide +kernel
theorem dk_Cu_24 : decode ck_Cu 24 = .ok (.return_, 1) := by decide +kernel
theorem jq_151 : (Cond.methodLink "TypeOrThing$Cursor" 3 Lib.objectInit : Cond) ∈ jn_T := jn_of (List.mem_of_getElem? (i := 151) (by decide +kernel)) (by decide +kernel)
theorem jq_153 : (Cond.fieldLink "TypeOrThing$Cursor" 9 "TypeOrThing$Cursor" "position" "I" : Cond) ∈ jn_T := jn_of (List.mem_of_getElem? (i := 153) (by decide +kernel)) (by decide +kernel)
theorem jq_157 : (Cond.fieldLink "TypeOrThing$Cursor" 15 "TypeOrThing$Cursor" "kind" "I" : Cond) ∈ jn_T := jn_of (List.mem_of_getElem? (i := 157) (by decide +kernel)) (by decide +kernel)
theorem jq_158 : (Cond.fieldLink "TypeOrThing$Cursor" 18 "TypeOrThing$Cursor" "open" "I" : Cond) ∈ jn_T := jn_of (List.mem_of_getElem? (i := 158) (by decide +kernel)) (by decide +kernel)
theorem jq_152 : (Cond.fieldLink "TypeOrThing$Cursor" 21 "TypeOrThing$Cursor" "tokens" "LTypeOrThing$Tokens;" : Cond) ∈ jn_T := jn_of (List.mem_of_getElem? (i := 152) (by decide +kernel)) (by decide +kernel)
set_option maxHeartbeats 4000000 in
set_option maxRecDepth 100000 in
theorem kt_Cu (l : Launch) (D : va_G) (dA : Nat → ClassId) (h0 : Nat) (sz : Nat) (tk : Nat) : Met l yk_Cu (Cond.code yk_Cu ck_Cu 2 none :: jn_T) ({ frames := 1, cells := 0, slots := 0, locals := 12 }) (va_Pc [.ref h0, .ref tk] (fun U => U.heap.size = sz ∧ va_P D jn_cl [(h0, .inr (4, [.null, .int 0, .int 0, .int 0]))] U.heap ∧ va_K D jn_cl (ja_ty dA) U ∧ jc_N U ∧ va_D (fun _ => True) [(h0, .inr (4, [.null, .int 0, .int 0, .int 0]))])) (va_Qv (fun _ : Nat → Nat => True) (fun u t => va_P D jn_cl [(h0, .inr (4, [.ref tk, .int 0, .int 0, .int 0]))] t.heap ∧ va_D (va_A [(h0, .inr (4, [.null, .int 0, .int 0, .int 0]))] sz) [(h0, .inr (4, [.ref tk, .int 0, .int 0, .int 0]))]) (va_A [(h0, .inr (4, [.null, .int 0, .int 0, .int 0]))] sz)) 0 0 (va_A [(h0, .inr (4, [.null, .int 0, .int 0, .int 0]))] sz) := by
  refine jc_ofW (cc := ck_Cu) (maxL := 2) (ret := none) (by decide +kernel) rfl ?_
  intro p e s m args below meth c s₁ B hml hv
  obtain ⟨rfl, hsz, hP, hK, hN, hD0⟩ := hv
  have hx := B.exec
  have hb := B.bytes
  have hr := B.returns
  have hts := jc_hts B
  have hown : s.vm.findClass "TypeOrThing$Cursor" = some m.cls := findClass_of_methodNamed B.named
  have hlocks := B.notSynchronized
  have hin : meth.name = "<init>" := (name_of_methodNamed B.named B.method).1
  subst hsz
  have hD := hD0.self (sz := s.heap.size)
  generalize hAe : va_A [(h0, .inr (4, [.null, .int 0, .int 0, .int 0]))] s.heap.size = A at hD ⊢
  have hA : ∀ q : Nat, s.heap.size ≤ q → A q := fun q h => by rw [← hAe]; exact Or.inr h
  have hS : va_S A s.heap s.heap [] := va_S.rf
  have hP : va_P D jn_cl [(h0, .inr (4, [.null, .int 0, .int 0, .int 0]))] s.heap := hP
  have hl := lv_entry ([.ref h0, .ref tk]) (n := 2) (Nat.le_of_ble_eq_true rfl)
  rw [lg_entry_eq]
  generalize (lg_sl ([.ref h0, .ref tk]) ++ List.replicate (2 - (lg_sl ([.ref h0, .ref tk])).length) Slot.unset).toArray = ls at hl ⊢
  have hl : lv_has ls 2 [(0, .ref h0), (1, .ref tk)] := hl
  refine lv_aload_n hx hb dk_Cu_0 rfl (lv_at hl 0 rfl) ?_
  refine W.objInit hx hb hown (hts _ jq_151) (hts _ jq_27) (hts _ jq_obj) rfl (by rw [hml]; exact hl.1) rfl dk_Cu_1 (Nat.le_of_ble_eq_true rfl) (Nat.le_of_ble_eq_true rfl) ?_
  refine W.eq (g2 := F0 m 4 ls []) rfl ?_
  refine lv_aload_n hx hb dk_Cu_4 rfl (lv_at hl 0 rfl) ?_
  refine lv_iconst (v := 0) hx hb dk_Cu_5 (by decide) ?_
  refine va_put (D := D) (ci := 4) (v := .int 0) (ty := .int) (C := "TypeOrThing$Cursor") (T := jn_F4) (N := 4) hx hb hts jn_i4 jn_y4 jn_t4 jn_n4 hown hK hP hD hS 0 rfl rfl 1 (by decide) (hts _ jq_153) (fun _ h9 => h9) rfl (by decide +kernel) rfl rfl (Nat.le_of_ble_eq_true rfl) dk_Cu_6 (fun H locs hP hD hS => ?_)
  have hP : va_P D jn_cl [(h0, .inr (4, [.null, .int 0, .int 0, .int 0]))] H := hP
  have hD : va_D A [(h0, .inr (4, [.null, .int 0, .int 0, .int 0]))] := hD
  refine lv_aload_n hx hb dk_Cu_9 rfl (lv_at hl 0 rfl) ?_
  refine lv_iconst (v := 0) hx hb dk_Cu_10 (by decide) ?_
  refine va_put (D := D) (ci := 4) (v := .int 0) (ty := .int) (C := "TypeOrThing$Cursor") (T := jn_F4) (N := 4) hx hb hts jn_i4 jn_y4 jn_t4 jn_n4 hown hK hP hD hS 0 rfl rfl 2 (by decide) (hts _ jq_157) (fun _ h9 => h9) rfl (by decide +kernel) rfl rfl (Nat.le_of_ble_eq_true rfl) dk_Cu_11 (fun H locs hP hD hS => ?_)
  have hP : va_P D jn_cl [(h0, .inr (4, [.null, .int 0, .int 0, .int 0]))] H := hP
  have hD : va_D A [(h0, .inr (4, [.null, .int 0, .int 0, .int 0]))] := hD
  refine lv_aload_n hx hb dk_Cu_14 rfl (lv_at hl 0 rfl) ?_
  refine lv_iconst (v := 0) hx hb dk_Cu_15 (by decide) ?_
  refine va_put (D := D) (ci := 4) (v := .int 0) (ty := .int) (C := "TypeOrThing$Cursor") (T := jn_F4) (N := 4) hx hb hts jn_i4 jn_y4 jn_t4 jn_n4 hown hK hP hD hS 0 rfl rfl 3 (by decide) (hts _ jq_158) (fun _ h9 => h9) rfl (by decide +kernel) rfl rfl (Nat.le_of_ble_eq_true rfl) dk_Cu_16 (fun H locs hP hD hS => ?_)
  have hP : va_P D jn_cl [(h0, .inr (4, [.null, .int 0, .int 0, .int 0]))] H := hP
  have hD : va_D A [(h0, .inr (4, [.null, .int 0, .int 0, .int 0]))] := hD
  refine lv_aload_n hx hb dk_Cu_19 rfl (lv_at hl 0 rfl) ?_
  refine lv_aload_n hx hb dk_Cu_20 rfl (lv_at hl 1 rfl) ?_
  refine va_putF (D := D) (ci := 4) (v := .ref tk) (ty := .object "TypeOrThing$Tokens") (C := "TypeOrThing$Cursor") (T := jn_F4) (N := 4) hx hb hts jn_i4 jn_y4 jn_t4 jn_n4 hown hK hP hD hS 0 rfl rfl 0 (by decide) (hts _ jq_152) (fun _ h9 => h9) rfl hin rfl (by decide +kernel) rfl rfl (Nat.le_of_ble_eq_true rfl) dk_Cu_21 (fun H locs hP hD hS => ?_)
  have hP : va_P D jn_cl [(h0, .inr (4, [.ref tk, .int 0, .int 0, .int 0]))] H := hP
  have hD : va_D A [(h0, .inr (4, [.ref tk, .int 0, .int 0, .int 0]))] := hD
  have hP9 := hP.sub (ws' := [(h0, .inr (4, [.ref tk, .int 0, .int 0, .int 0]))]) [0] rfl
  have hD9 := hD.sub (ws' := [(h0, .inr (4, [.ref tk, .int 0, .int 0, .int 0]))]) [0] (by decide) rfl
  exact W.vret hx hb hr (fun t ht hW => ⟨⟨(fun i => [].getD i 0), rfl, trivial, by rw [ht]; exact hP9, hD9⟩, hS.F ht⟩) hS.2.2 dk_Cu_24
abbrev ck_Nm : ByteArray := prog_5_method_1_code
def yk_Nm : MethodName := ⟨"TypeOrThing$Names", "<init>", "(LTypeOrThing$Tokens;)V"⟩
theorem dk_Nm_0 : decode ck_Nm 0 = .ok (.aload_n 0, 1) := by decide +kernel
theorem dk_Nm_1 : decode ck_Nm 1 = .ok (.invokespecial 3, 3) := by decide +kernel
theorem dk_Nm_4 : decode ck_Nm 4 = .ok (.aload_n 0, 1) := by decide +kernel
theorem dk_Nm_5 : decode ck_Nm 5 = .ok (.new 9, 3) := by decide +kernel
theorem dk_Nm_8 : decode ck_Nm 8 = .ok (.dup, 1) := by decide +kernel
theorem dk_Nm_9 : decode ck_Nm 9 = .ok (.invokespecial 11, 3) := by decide +kernel
theorem dk_Nm_12 : decode ck_Nm 12 = .ok (.putfield 12, 3) := by decide +kernel
theorem dk_Nm_15 : decode ck_Nm 15 = .ok (.aload_n 0, 1) := by decide +kernel
theorem dk_Nm_16 : decode ck_Nm 16 = .ok (.sipush 160, 3) := by decide +kernel
theorem dk_Nm_19 : decode ck_Nm 19 = .ok (.newarray .int, 2) := by decide +kernel
theorem dk_Nm_21 : decode ck_Nm 21 = .ok (.putfield 18, 3) := by decide +kernel
theorem dk_Nm_24 : decode ck_Nm 24 = .ok (.aload_n 0, 1) := by decide +kernel
theorem dk_Nm_25 : decode ck_Nm 25 = .ok (.sipush 160, 3) := by decide +kernel
theorem dk_Nm_28 : decode ck_Nm 28 = .ok (.newarray .int, 2) := by decide +kernel
theorem dk_Nm_30 : decode ck_Nm 30 = .ok (.putfield 22, 3) := by decide +kernel
theorem dk_Nm_33 : decode ck_Nm 33 = .ok (.aload_n 0, 1) := by decide +kernel
theorem dk_Nm_34 : decode ck_Nm 34 = .ok (.iconst 0, 1) := by decide +kernel
theorem dk_Nm_35 : decode ck_Nm 35 = .ok (.putfield 25, 3) := by decide +kernel
theorem dk_Nm_38 : decode ck_Nm 38 = .ok (.aload_n 0, 1) := by decide +kernel
theorem dk_Nm_39 : decode ck_Nm 39 = .ok (.bipush 80, 2) := by decide +kernel
theorem dk_Nm_41 : decode ck_Nm 41 = .ok (.newarray .int, 2) := by decide +kernel
theorem dk_Nm_43 : decode ck_Nm 43 = .ok (.putfield 29, 3) := by decide +kernel
theorem dk_Nm_46 : decode ck_Nm 46 = .ok (.aload_n 0, 1) := by decide +kernel
theorem dk_Nm_47 : decode ck_Nm 47 = .ok (.bipush 80, 2) := by decide +kernel
theorem dk_Nm_49 : decode ck_Nm 49 = .ok (.newarray .int, 2) := by decide +kernel
theorem dk_Nm_51 : decode ck_Nm 51 = .ok (.putfield 32, 3) := by decide +kernel
theorem dk_Nm_54 : decode ck_Nm 54 = .ok (.aload_n 0, 1) := by decide +kernel
theorem dk_Nm_55 : decode ck_Nm 55 = .ok (.bipush 80, 2) := by decide +kernel
theorem dk_Nm_57 : decode ck_Nm 57 = .ok (.newarray .int, 2) := by decide +kernel
theorem dk_Nm_59 : decode ck_Nm 59 = .ok (.putfield 35, 3) := by decide +kernel
theorem dk_Nm_62 : decode ck_Nm 62 = .ok (.aload_n 0, 1) := by decide +kernel
theorem dk_Nm_63 : decode ck_Nm 63 = .ok (.bipush 80, 2) := by decide +kernel
theorem dk_Nm_65 : decode ck_Nm 65 = .ok (.newarray .int, 2) := by decide +kernel
theorem dk_Nm_67 : decode ck_Nm 67 = .ok (.putfield 38, 3) := by decide +kernel
theorem dk_Nm_70 : decode ck_Nm 70 = .ok (.aload_n 0, 1) := by decide +kernel
theorem dk_Nm_71 : decode ck_Nm 71 = .ok (.bipush 80, 2) := by decide +kernel
theorem dk_Nm_73 : decode ck_Nm 73 = .ok (.newarray .int, 2) := by decide +kernel
theorem dk_Nm_75 : decode ck_Nm 75 = .ok (.putfield 41, 3) := by decide +kernel
theorem dk_Nm_78 : decode ck_Nm 78 = .ok (.aload_n 0, 1) := by decide +kernel
theorem dk_Nm_79 : decode ck_Nm 79 = .ok (.bipush 80, 2) := by decide +kernel
theorem dk_Nm_81 : decode ck_Nm 81 = .ok (.newarray .int, 2) := by decide +kernel
theorem dk_Nm_83 : decode ck_Nm 83 = .ok (.putfield 44, 3) := by decide +kernel
theorem dk_Nm_86 : decode ck_Nm 86 = .ok (.aload_n 0, 1) := by decide +kernel
theorem dk_Nm_87 : decode ck_Nm 87 = .ok (.bipush 10, 2) := by decide +kernel
theorem dk_Nm_89 : decode ck_Nm 89 = .ok (.newarray .int, 2) := by decide +kernel
theorem dk_Nm_91 : decode ck_Nm 91 = .ok (.putfield 47, 3) := by decide +kernel
theorem dk_Nm_94 : decode ck_Nm 94 = .ok (.aload_n 0, 1) := by decide +kernel
theorem dk_Nm_95 : decode ck_Nm 95 = .ok (.iconst 0, 1) := by decide +kernel
theorem dk_Nm_96 : decode ck_Nm 96 = .ok (.putfield 50, 3) := by decide +kernel
theorem dk_Nm_99 : decode ck_Nm 99 = .ok (.aload_n 0, 1) := by decide +kernel
theorem dk_Nm_100 : decode ck_Nm 100 = .ok (.iconst 0, 1) := by decide +kernel
theorem dk_Nm_101 : decode ck_Nm 101 = .ok (.putfield 53, 3) := by decide +kernel
theorem dk_Nm_104 : decode ck_Nm 104 = .ok (.aload_n 0, 1) := by decide +kernel
theorem dk_Nm_105 : decode ck_Nm 105 = .ok (.aload_n 1, 1) := by decide +kernel
theorem dk_Nm_106 : decode ck_Nm 106 = .ok (.putfield 56, 3) := by decide +kernel
theorem dk_Nm_109 : decode ck_Nm 109 = .ok (.return_, 1) := by decide +kernel
theorem jq_60 : (Cond.methodLink "TypeOrThing$Names" 3 Lib.objectInit : Cond) ∈ jn_T := jn_of (List.mem_of_getElem? (i := 60) (by decide +kernel)) (by decide +kernel)
theorem jq_61 : (Cond.classLink "TypeOrThing$Names" 9 "TypeOrThing$Tape" : Cond) ∈ jn_T := jn_of (List.mem_of_getElem? (i := 61) (by decide +kernel)) (by decide +kernel)
theorem jq_62 : (Cond.instantiable "TypeOrThing$Tape" 2 : Cond) ∈ jn_T := jn_of (List.mem_of_getElem? (i := 62) (by decide +kernel)) (by decide +kernel)
theorem jq_4 : (Cond.initialized "TypeOrThing$Tape" : Cond) ∈ jn_T := jn_of (List.mem_of_getElem? (i := 4) (by decide +kernel)) (by decide +kernel)
theorem jq_65 : (Cond.code ⟨"TypeOrThing$Tape", "<init>", "()V"⟩ prog_7_method_1_code 1 none : Cond) ∈ jn_T := jn_of (List.mem_of_getElem? (i := 65) (by decide +kernel)) (by decide +kernel)
theorem jq_64 : (Cond.instanceMethod ⟨"TypeOrThing$Tape", "<init>", "()V"⟩ : Cond) ∈ jn_T := jn_of (List.mem_of_getElem? (i := 64) (by decide +kernel)) (by decide +kernel)
theorem jq_79 : (Cond.fieldLink "TypeOrThing$Names" 12 "TypeOrThing$Names" "types" "LTypeOrThing$Tape;" : Cond) ∈ jn_T := jn_of (List.mem_of_getElem? (i := 79) (by decide +kernel)) (by decide +kernel)
theorem jq_84 : (Cond.fieldLink "TypeOrThing$Names" 18 "TypeOrThing$Names" "roles" "[I" : Cond) ∈ jn_T := jn_of (List.mem_of_getElem? (i := 84) (by decide +kernel)) (by decide +kernel)
theorem jq_86 : (Cond.fieldLink "TypeOrThing$Names" 22 "TypeOrThing$Names" "meanings" "[I" : Cond) ∈ jn_T := jn_of (List.mem_of_getElem? (i := 86) (by decide +kernel)) (by decide +kernel)
theorem jq_89 : (Cond.fieldLink "TypeOrThing$Names" 25 "TypeOrThing$Names" "count" "I" : Cond) ∈ jn_T := jn_of (List.mem_of_getElem? (i := 89) (by decide +kernel)) (by decide +kernel)
theorem jq_91 : (Cond.fieldLink "TypeOrThing$Names" 29 "TypeOrThing$Names" "nameTokens" "[I" : Cond) ∈ jn_T := jn_of (List.mem_of_getElem? (i := 91) (by decide +kernel)) (by decide +kernel)
theorem jq_94 : (Cond.fieldLink "TypeOrThing$Names" 32 "TypeOrThing$Names" "depths" "[I" : Cond) ∈ jn_T := jn_of (List.mem_of_getElem? (i := 94) (by decide +kernel)) (by decide +kernel)
theorem jq_96 : (Cond.fieldLink "TypeOrThing$Names" 35 "TypeOrThing$Names" "typeStarts" "[I" : Cond) ∈ jn_T := jn_of (List.mem_of_getElem? (i := 96) (by decide +kernel)) (by decide +kernel)
theorem jq_99 : (Cond.fieldLink "TypeOrThing$Names" 38 "TypeOrThing$Names" "typeEnds" "[I" : Cond) ∈ jn_T := jn_of (List.mem_of_getElem? (i := 99) (by decide +kernel)) (by decide +kernel)
theorem jq_102 : (Cond.fieldLink "TypeOrThing$Names" 41 "TypeOrThing$Names" "sorts" "[I" : Cond) ∈ jn_T := jn_of (List.mem_of_getElem? (i := 102) (by decide +kernel)) (by decide +kernel)
theorem jq_105 : (Cond.fieldLink "TypeOrThing$Names" 44 "TypeOrThing$Names" "scopes" "[I" : Cond) ∈ jn_T := jn_of (List.mem_of_getElem? (i := 105) (by decide +kernel)) (by decide +kernel)
theorem jq_106 : (Cond.fieldLink "TypeOrThing$Names" 47 "TypeOrThing$Names" "openScopes" "[I" : Cond) ∈ jn_T := jn_of (List.mem_of_getElem? (i := 106) (by decide +kernel)) (by decide +kernel)
theorem jq_107 : (Cond.fieldLink "TypeOrThing$Names" 50 "TypeOrThing$Names" "depth" "I" : Cond) ∈ jn_T := jn_of (List.mem_of_getElem? (i := 107) (by decide +kernel)) (by decide +kernel)
theorem jq_108 : (Cond.fieldLink "TypeOrThing$Names" 53 "TypeOrThing$Names" "scopesMade" "I" : Cond) ∈ jn_T := jn_of (List.mem_of_getElem? (i := 108) (by decide +kernel)) (by decide +kernel)
theorem jq_78 : (Cond.fieldLink "TypeOrThing$Names" 56 "TypeOrThing$Names" "tokens" "LTypeOrThing$Tokens;" : Cond) ∈ jn_T := jn_of (List.mem_of_getElem? (i := 78) (by decide +kernel)) (by decide +kernel)
set_option maxHeartbeats 4000000 in
set_option maxRecDepth 100000 in
theorem kt_Nm (l : Launch) (D : va_G) (dA : Nat → ClassId) (h0 : Nat) (sz : Nat) (tk : Nat) : Met l yk_Nm (Cond.code yk_Nm ck_Nm 2 none :: jn_T) ({ frames := 2, cells := 11, slots := 1452, locals := 32 }) (va_Pc [.ref h0, .ref tk] (fun U => U.heap.size = sz ∧ va_P D jn_cl [(h0, .inr (5, [.null, .null, .null, .null, .int 0, .null, .null, .null, .null, .null, .null, .null, .int 0, .int 0]))] U.heap ∧ va_K D jn_cl (ja_ty dA) U ∧ jc_N U ∧ va_D (fun _ => True) [(h0, .inr (5, [.null, .null, .null, .null, .int 0, .null, .null, .null, .null, .null, .null, .null, .int 0, .int 0]))])) (va_Qv (fun _ : Nat → Nat => True) (fun u t => va_P D jn_cl [(h0, .inr (5, [.ref tk, .ref (u 0), .ref (u 2), .ref (u 3), .int 0, .ref (u 4), .ref (u 5), .ref (u 6), .ref (u 7), .ref (u 8), .ref (u 9), .ref (u 10), .int 0, .int 0])), ((u 0), .inr (2, [.ref (u 1), .int 0])), ((u 1), .inl (dA 1, 640, .inl (fun _ => 0))), ((u 2), .inl (dA 0, 160, .inl (fun _ => 0))), ((u 3), .inl (dA 0, 160, .inl (fun _ => 0))), ((u 4), .inl (dA 0, 80, .inl (fun _ => 0))), ((u 5), .inl (dA 0, 80, .inl (fun _ => 0))), ((u 6), .inl (dA 0, 80, .inl (fun _ => 0))), ((u 7), .inl (dA 0, 80, .inl (fun _ => 0))), ((u 8), .inl (dA 0, 80, .inl (fun _ => 0))), ((u 9), .inl (dA 0, 80, .inl (fun _ => 0))), ((u 10), .inl (dA 0, 10, .inl (fun _ => 0)))] t.heap ∧ va_D (va_A [(h0, .inr (5, [.null, .null, .null, .null, .int 0, .null, .null, .null, .null, .null, .null, .null, .int 0, .int 0]))] sz) [(h0, .inr (5, [.ref tk, .ref (u 0), .ref (u 2), .ref (u 3), .int 0, .ref (u 4), .ref (u 5), .ref (u 6), .ref (u 7), .ref (u 8), .ref (u 9), .ref (u 10), .int 0, .int 0])), ((u 0), .inr (2, [.ref (u 1), .int 0])), ((u 1), .inl (dA 1, 640, .inl (fun _ => 0))), ((u 2), .inl (dA 0, 160, .inl (fun _ => 0))), ((u 3), .inl (dA 0, 160, .inl (fun _ => 0))), ((u 4), .inl (dA 0, 80, .inl (fun _ => 0))), ((u 5), .inl (dA 0, 80, .inl (fun _ => 0))), ((u 6), .inl (dA 0, 80, .inl (fun _ => 0))), ((u 7), .inl (dA 0, 80, .inl (fun _ => 0))), ((u 8), .inl (dA 0, 80, .inl (fun _ => 0))), ((u 9), .inl (dA 0, 80, .inl (fun _ => 0))), ((u 10), .inl (dA 0, 10, .inl (fun _ => 0)))]) (va_A [(h0, .inr (5, [.null, .null, .null, .null, .int 0, .null, .null, .null, .null, .null, .null, .null, .int 0, .int 0]))] sz)) 11 1452 (va_A [(h0, .inr (5, [.null, .null, .null, .null, .int 0, .null, .null, .null, .null, .null, .null, .null, .int 0, .int 0]))] sz) := by
  refine jc_ofW (cc := ck_Nm) (maxL := 2) (ret := none) (by decide +kernel) rfl ?_
  intro p e s m args below meth c s₁ B hml hv
  obtain ⟨rfl, hsz, hP, hK, hN, hD0⟩ := hv
  have hx := B.exec
  have hb := B.bytes
  have hr := B.returns
  have hts := jc_hts B
  have hown : s.vm.findClass "TypeOrThing$Names" = some m.cls := findClass_of_methodNamed B.named
  have hlocks := B.notSynchronized
  have hin : meth.name = "<init>" := (name_of_methodNamed B.named B.method).1
  subst hsz
  have hD := hD0.self (sz := s.heap.size)
  generalize hAe : va_A [(h0, .inr (5, [.null, .null, .null, .null, .int 0, .null, .null, .null, .null, .null, .null, .null, .int 0, .int 0]))] s.heap.size = A at hD ⊢
  have hA : ∀ q : Nat, s.heap.size ≤ q → A q := fun q h => by rw [← hAe]; exact Or.inr h
  have hS : va_S A s.heap s.heap [] := va_S.rf
  have hP : va_P D jn_cl [(h0, .inr (5, [.null, .null, .null, .null, .int 0, .null, .null, .null, .null, .null, .null, .null, .int 0, .int 0]))] s.heap := hP
  have hl := lv_entry ([.ref h0, .ref tk]) (n := 2) (Nat.le_of_ble_eq_true rfl)
  rw [lg_entry_eq]
  generalize (lg_sl ([.ref h0, .ref tk]) ++ List.replicate (2 - (lg_sl ([.ref h0, .ref tk])).length) Slot.unset).toArray = ls at hl ⊢
  have hl : lv_has ls 2 [(0, .ref h0), (1, .ref tk)] := hl
  refine lv_aload_n hx hb dk_Nm_0 rfl (lv_at hl 0 rfl) ?_
  refine W.objInit hx hb hown (hts _ jq_60) (hts _ jq_27) (hts _ jq_obj) rfl (by rw [hml]; exact hl.1) rfl dk_Nm_1 (Nat.le_of_ble_eq_true rfl) (Nat.le_of_ble_eq_true rfl) ?_
  refine W.eq (g2 := F0 m 4 ls []) rfl ?_
  refine lv_aload_n hx hb dk_Nm_4 rfl (lv_at hl 0 rfl) ?_
  refine va_new (ci := 2) (fs := [.null, .int 0]) (C := "TypeOrThing$Tape") (T := jn_F2) (N := 2) hx hb hts jn_i2 jn_y2 jn_t2 hown (hts _ jq_61) (hts _ jq_62) (hts _ jq_4) hK hP hD hS hA rfl (by decide) (Nat.le_of_ble_eq_true rfl) (Nat.le_of_ble_eq_true rfl) dk_Nm_5 (fun q5 H hP hD hS => ?_)
  have hP : va_P D jn_cl [(h0, .inr (5, [.null, .null, .null, .null, .int 0, .null, .null, .null, .null, .null, .null, .null, .int 0, .int 0])), (q5, .inr (2, [.null, .int 0]))] H := hP
  have hD : va_D A [(h0, .inr (5, [.null, .null, .null, .null, .int 0, .null, .null, .null, .null, .null, .null, .null, .int 0, .int 0])), (q5, .inr (2, [.null, .int 0]))] := hD
  refine W.widen (k := 1) (n := 2) (by decide) (by decide) ?_
  refine lv_dup hx hb dk_Nm_8 rfl ?_
  have hPc := hP.sub (ws' := [(q5, .inr (2, [.null, .int 0]))]) [1] rfl
  have hDc := hD.sub (ws' := [(q5, .inr (2, [.null, .int 0]))]) [1] (by decide) rfl
  have hFc := va_free (wc := [(q5, .inr (2, [.null, .int 0]))]) hD hS hA [1] rfl
  refine va_callv (va_runIN (As := []) (rest := [.ref q5, .ref h0]) ⟨hx, hb, hml, hown, hts⟩ (kt_Ta l D dA q5 H.size) ⟨va_cnB (host := "TypeOrThing") 0 hts (jn_gC jq_65) rfl rfl rfl (hN _ (by decide +kernel : ("TypeOrThing$Names", 11, yk_Ta, "TypeOrThing") ∈ jn_NW)) (hts _ jq_4) (by decide +kernel) ⟨Nat.le_of_ble_eq_true rfl, Nat.le_of_ble_eq_true rfl⟩, rfl, (hts _ jq_64)⟩ ⟨fun a U g mk q => by obtain ⟨q0, q1, qP, qK, qN, qD⟩ := q; exact ⟨q0, q1, qP, va_K.moved (u := U) (U := U.calling g mk a) (Vm.Alike.refl U.vm) qK, jc_NC qN, qD⟩, fun U hU hW => ⟨rfl, by rw [hU], by rw [hU]; exact hPc, va_K.moved hW.alike hK, jc_NU hW hN, hDc.weaken (fun _ _ _ _ => trivial)⟩⟩ rfl rfl hl.1 rfl (lv_room (Nat.le_of_ble_eq_true rfl)) dk_Nm_9 ⟨Nat.le_of_ble_eq_true rfl, Nat.le_of_ble_eq_true rfl⟩) hS (fun q _ h => hFc q h) hFc (fun u9 t H1 locs ht hvm _ hB hz1 hk1 hS => ?_)
  obtain ⟨hP1, hD1⟩ := hB
  rw [ht] at hP1
  obtain ⟨hP, hD⟩ := va_join (wr := [(h0, .inr (5, [.null, .null, .null, .null, .int 0, .null, .null, .null, .null, .null, .null, .null, .int 0, .int 0]))]) (w1 := [(q5, .inr (2, [.ref (u9 0), .int 0])), ((u9 0), .inl (dA 1, 640, .inl (fun _ => 0)))]) hP hD [1] [0] rfl rfl (by decide) (by decide) hk1 hFc hP1 hD1
  generalize H1 = H at hP hS ⊢
  have hP : va_P D jn_cl [(h0, .inr (5, [.null, .null, .null, .null, .int 0, .null, .null, .null, .null, .null, .null, .null, .int 0, .int 0])), (q5, .inr (2, [.ref (u9 0), .int 0])), ((u9 0), .inl (dA 1, 640, .inl (fun _ => 0)))] H := hP
  have hD : va_D A [(h0, .inr (5, [.null, .null, .null, .null, .int 0, .null, .null, .null, .null, .null, .null, .null, .int 0, .int 0])), (q5, .inr (2, [.ref (u9 0), .int 0])), ((u9 0), .inl (dA 1, 640, .inl (fun _ => 0)))] := hD
  refine W.widen (k := 2) (n := 642) (by decide) (by decide) ?_
  refine va_putF (D := D) (ci := 5) (v := .ref q5) (ty := .object "TypeOrThing$Tape") (C := "TypeOrThing$Names") (T := jn_F5) (N := 14) hx hb hts jn_i5 jn_y5 jn_t5 jn_n5 hown hK hP hD hS 0 rfl rfl 1 (by decide) (hts _ jq_79) (fun _ h9 => h9) rfl hin rfl (by decide +kernel) rfl rfl (Nat.le_of_ble_eq_true rfl) dk_Nm_12 (fun H locs hP hD hS => ?_)
  have hP : va_P D jn_cl [(h0, .inr (5, [.null, .ref q5, .null, .null, .int 0, .null, .null, .null, .null, .null, .null, .null, .int 0, .int 0])), (q5, .inr (2, [.ref (u9 0), .int 0])), ((u9 0), .inl (dA 1, 640, .inl (fun _ => 0)))] H := hP
  have hD : va_D A [(h0, .inr (5, [.null, .ref q5, .null, .null, .int 0, .null, .null, .null, .null, .null, .null, .null, .int 0, .int 0])), (q5, .inr (2, [.ref (u9 0), .int 0])), ((u9 0), .inl (dA 1, 640, .inl (fun _ => 0)))] := hD
  refine lv_aload_n hx hb dk_Nm_15 rfl (lv_at hl 0 rfl) ?_
  refine lv_sipush (v := 160) hx hb dk_Nm_16 (by decide) ?_
  refine jc_newa (dA := dA) (atype := .int) (ty := .int) (N' := 160) (a0 := (160, .inl (fun _ => 0))) hx hb (hts _ jq_53) rfl 0 rfl (fun _ h => h) hK hP hD hS hA (jc_v0 160) (by decide) (by decide) (by decide) (Nat.le_of_ble_eq_true rfl) (Nat.le_of_ble_eq_true rfl) dk_Nm_19 (fun q19 H hP hD hS => ?_)
  have hP : va_P D jn_cl [(h0, .inr (5, [.null, .ref q5, .null, .null, .int 0, .null, .null, .null, .null, .null, .null, .null, .int 0, .int 0])), (q5, .inr (2, [.ref (u9 0), .int 0])), ((u9 0), .inl (dA 1, 640, .inl (fun _ => 0))), (q19, .inl (dA 0, 160, .inl (fun _ => 0)))] H := hP
  have hD : va_D A [(h0, .inr (5, [.null, .ref q5, .null, .null, .int 0, .null, .null, .null, .null, .null, .null, .null, .int 0, .int 0])), (q5, .inr (2, [.ref (u9 0), .int 0])), ((u9 0), .inl (dA 1, 640, .inl (fun _ => 0))), (q19, .inl (dA 0, 160, .inl (fun _ => 0)))] := hD
  refine W.eq (g2 := F0 m 21 ls (.ref q19 :: .ref h0 :: [])) rfl ?_
  refine W.widen (k := 3) (n := 802) (by decide) (by decide) ?_
  refine va_putF (D := D) (ci := 5) (v := .ref q19) (ty := .array .int) (C := "TypeOrThing$Names") (T := jn_F5) (N := 14) hx hb hts jn_i5 jn_y5 jn_t5 jn_n5 hown hK hP hD hS 0 rfl rfl 2 (by decide) (hts _ jq_84) (fun _ h9 => h9) rfl hin rfl (by decide +kernel) rfl rfl (Nat.le_of_ble_eq_true rfl) dk_Nm_21 (fun H locs hP hD hS => ?_)
  have hP : va_P D jn_cl [(h0, .inr (5, [.null, .ref q5, .ref q19, .null, .int 0, .null, .null, .null, .null, .null, .null, .null, .int 0, .int 0])), (q5, .inr (2, [.ref (u9 0), .int 0])), ((u9 0), .inl (dA 1, 640, .inl (fun _ => 0))), (q19, .inl (dA 0, 160, .inl (fun _ => 0)))] H := hP
  have hD : va_D A [(h0, .inr (5, [.null, .ref q5, .ref q19, .null, .int 0, .null, .null, .null, .null, .null, .null, .null, .int 0, .int 0])), (q5, .inr (2, [.ref (u9 0), .int 0])), ((u9 0), .inl (dA 1, 640, .inl (fun _ => 0))), (q19, .inl (dA 0, 160, .inl (fun _ => 0)))] := hD
  refine lv_aload_n hx hb dk_Nm_24 rfl (lv_at hl 0 rfl) ?_
  refine lv_sipush (v := 160) hx hb dk_Nm_25 (by decide) ?_
  refine jc_newa (dA := dA) (atype := .int) (ty := .int) (N' := 160) (a0 := (160, .inl (fun _ => 0))) hx hb (hts _ jq_53) rfl 0 rfl (fun _ h => h) hK hP hD hS hA (jc_v0 160) (by decide) (by decide) (by decide) (Nat.le_of_ble_eq_true rfl) (Nat.le_of_ble_eq_true rfl) dk_Nm_28 (fun q28 H hP hD hS => ?_)
  have hP : va_P D jn_cl [(h0, .inr (5, [.null, .ref q5, .ref q19, .null, .int 0, .null, .null, .null, .null, .null, .null, .null, .int 0, .int 0])), (q5, .inr (2, [.ref (u9 0), .int 0])), ((u9 0), .inl (dA 1, 640, .inl (fun _ => 0))), (q19, .inl (dA 0, 160, .inl (fun _ => 0))), (q28, .inl (dA 0, 160, .inl (fun _ => 0)))] H := hP
  have hD : va_D A [(h0, .inr (5, [.null, .ref q5, .ref q19, .null, .int 0, .null, .null, .null, .null, .null, .null, .null, .int 0, .int 0])), (q5, .inr (2, [.ref (u9 0), .int 0])), ((u9 0), .inl (dA 1, 640, .inl (fun _ => 0))), (q19, .inl (dA 0, 160, .inl (fun _ => 0))), (q28, .inl (dA 0, 160, .inl (fun _ => 0)))] := hD
  refine W.eq (g2 := F0 m 30 ls (.ref q28 :: .ref h0 :: [])) rfl ?_
  refine W.widen (k := 4) (n := 962) (by decide) (by decide) ?_
  refine va_putF (D := D) (ci := 5) (v := .ref q28) (ty := .array .int) (C := "TypeOrThing$Names") (T := jn_F5) (N := 14) hx hb hts jn_i5 jn_y5 jn_t5 jn_n5 hown hK hP hD hS 0 rfl rfl 3 (by decide) (hts _ jq_86) (fun _ h9 => h9) rfl hin rfl (by decide +kernel) rfl rfl (Nat.le_of_ble_eq_true rfl) dk_Nm_30 (fun H locs hP hD hS => ?_)
  have hP : va_P D jn_cl [(h0, .inr (5, [.null, .ref q5, .ref q19, .ref q28, .int 0, .null, .null, .null, .null, .null, .null, .null, .int 0, .int 0])), (q5, .inr (2, [.ref (u9 0), .int 0])), ((u9 0), .inl (dA 1, 640, .inl (fun _ => 0))), (q19, .inl (dA 0, 160, .inl (fun _ => 0))), (q28, .inl (dA 0, 160, .inl (fun _ => 0)))] H := hP
  have hD : va_D A [(h0, .inr (5, [.null, .ref q5, .ref q19, .ref q28, .int 0, .null, .null, .null, .null, .null, .null, .null, .int 0, .int 0])), (q5, .inr (2, [.ref (u9 0), .int 0])), ((u9 0), .inl (dA 1, 640, .inl (fun _ => 0))), (q19, .inl (dA 0, 160, .inl (fun _ => 0))), (q28, .inl (dA 0, 160, .inl (fun _ => 0)))] := hD
  refine lv_aload_n hx hb dk_Nm_33 rfl (lv_at hl 0 rfl) ?_
  refine lv_iconst (v := 0) hx hb dk_Nm_34 (by decide) ?_
  refine va_put (D := D) (ci := 5) (v := .int 0) (ty := .int) (C := "TypeOrThing$Names") (T := jn_F5) (N := 14) hx hb hts jn_i5 jn_y5 jn_t5 jn_n5 hown hK hP hD hS 0 rfl rfl 4 (by decide) (hts _ jq_89) (fun _ h9 => h9) rfl (by decide +kernel) rfl rfl (Nat.le_of_ble_eq_true rfl) dk_Nm_35 (fun H locs hP hD hS => ?_)
  have hP : va_P D jn_cl [(h0, .inr (5, [.null, .ref q5, .ref q19, .ref q28, .int 0, .null, .null, .null, .null, .null, .null, .null, .int 0, .int 0])), (q5, .inr (2, [.ref (u9 0), .int 0])), ((u9 0), .inl (dA 1, 640, .inl (fun _ => 0))), (q19, .inl (dA 0, 160, .inl (fun _ => 0))), (q28, .inl (dA 0, 160, .inl (fun _ => 0)))] H := hP
  have hD : va_D A [(h0, .inr (5, [.null, .ref q5, .ref q19, .ref q28, .int 0, .null, .null, .null, .null, .null, .null, .null, .int 0, .int 0])), (q5, .inr (2, [.ref (u9 0), .int 0])), ((u9 0), .inl (dA 1, 640, .inl (fun _ => 0))), (q19, .inl (dA 0, 160, .inl (fun _ => 0))), (q28, .inl (dA 0, 160, .inl (fun _ => 0)))] := hD
  refine lv_aload_n hx hb dk_Nm_38 rfl (lv_at hl 0 rfl) ?_
  refine lv_bipush (v := 80) hx hb dk_Nm_39 (by decide) ?_
  refine jc_newa (dA := dA) (atype := .int) (ty := .int) (N' := 80) (a0 := (80, .inl (fun _ => 0))) hx hb (hts _ jq_53) rfl 0 rfl (fun _ h => h) hK hP hD hS hA (jc_v0 80) (by decide) (by decide) (by decide) (Nat.le_of_ble_eq_true rfl) (Nat.le_of_ble_eq_true rfl) dk_Nm_41 (fun q41 H hP hD hS => ?_)
  have hP : va_P D jn_cl [(h0, .inr (5, [.null, .ref q5, .ref q19, .ref q28, .int 0, .null, .null, .null, .null, .null, .null, .null, .int 0, .int 0])), (q5, .inr (2, [.ref (u9 0), .int 0])), ((u9 0), .inl (dA 1, 640, .inl (fun _ => 0))), (q19, .inl (dA 0, 160, .inl (fun _ => 0))), (q28, .inl (dA 0, 160, .inl (fun _ => 0))), (q41, .inl (dA 0, 80, .inl (fun _ => 0)))] H := hP
  have hD : va_D A [(h0, .inr (5, [.null, .ref q5, .ref q19, .ref q28, .int 0, .null, .null, .null, .null, .null, .null, .null, .int 0, .int 0])), (q5, .inr (2, [.ref (u9 0), .int 0])), ((u9 0), .inl (dA 1, 640, .inl (fun _ => 0))), (q19, .inl (dA 0, 160, .inl (fun _ => 0))), (q28, .inl (dA 0, 160, .inl (fun _ => 0))), (q41, .inl (dA 0, 80, .inl (fun _ => 0)))] := hD
  refine W.eq (g2 := F0 m 43 ls (.ref q41 :: .ref h0 :: [])) rfl ?_
  refine W.widen (k := 5) (n := 1042) (by decide) (by decide) ?_
  refine va_putF (D := D) (ci := 5) (v := .ref q41) (ty := .array .int) (C := "TypeOrThing$Names") (T := jn_F5) (N := 14) hx hb hts jn_i5 jn_y5 jn_t5 jn_n5 hown hK hP hD hS 0 rfl rfl 5 (by decide) (hts _ jq_91) (fun _ h9 => h9) rfl hin rfl (by decide +kernel) rfl rfl (Nat.le_of_ble_eq_true rfl) dk_Nm_43 (fun H locs hP hD hS => ?_)
  have hP : va_P D jn_cl [(h0, .inr (5, [.null, .ref q5, .ref q19, .ref q28, .int 0, .ref q41, .null, .null, .null, .null, .null, .null, .int 0, .int 0])), (q5, .inr (2, [.ref (u9 0), .int 0])), ((u9 0), .inl (dA 1, 640, .inl (fun _ => 0))), (q19, .inl (dA 0, 160, .inl (fun _ => 0))), (q28, .inl (dA 0, 160, .inl (fun _ => 0))), (q41, .inl (dA 0, 80, .inl (fun _ => 0)))] H := hP
  have hD : va_D A [(h0, .inr (5, [.null, .ref q5, .ref q19, .ref q28, .int 0, .ref q41, .null, .null, .null, .null, .null, .null, .int 0, .int 0])), (q5, .inr (2, [.ref (u9 0), .int 0])), ((u9 0), .inl (dA 1, 640, .inl (fun _ => 0))), (q19, .inl (dA 0, 160, .inl (fun _ => 0))), (q28, .inl (dA 0, 160, .inl (fun _ => 0))), (q41, .inl (dA 0, 80, .inl (fun _ => 0)))] := hD
  refine lv_aload_n hx hb dk_Nm_46 rfl (lv_at hl 0 rfl) ?_
  refine lv_bipush (v := 80) hx hb dk_Nm_47 (by decide) ?_
  refine jc_newa (dA := dA) (atype := .int) (ty := .int) (N' := 80) (a0 := (80, .inl (fun _ => 0))) hx hb (hts _ jq_53) rfl 0 rfl (fun _ h => h) hK hP hD hS hA (jc_v0 80) (by decide) (by decide) (by decide) (Nat.le_of_ble_eq_true rfl) (Nat.le_of_ble_eq_true rfl) dk_Nm_49 (fun q49 H hP hD hS => ?_)
  have hP : va_P D jn_cl [(h0, .inr (5, [.null, .ref q5, .ref q19, .ref q28, .int 0, .ref q41, .null, .null, .null, .null, .null, .null, .int 0, .int 0])), (q5, .inr (2, [.ref (u9 0), .int 0])), ((u9 0), .inl (dA 1, 640, .inl (fun _ => 0))), (q19, .inl (dA 0, 160, .inl (fun _ => 0))), (q28, .inl (dA 0, 160, .inl (fun _ => 0))), (q41, .inl (dA 0, 80, .inl (fun _ => 0))), (q49, .inl (dA 0, 80, .inl (fun _ => 0)))] H := hP
  have hD : va_D A [(h0, .inr (5, [.null, .ref q5, .ref q19, .ref q28, .int 0, .ref q41, .null, .null, .null, .null, .null, .null, .int 0, .int 0])), (q5, .inr (2, [.ref (u9 0), .int 0])), ((u9 0), .inl (dA 1, 640, .inl (fun _ => 0))), (q19, .inl (dA 0, 160, .inl (fun _ => 0))), (q28, .inl (dA 0, 160, .inl (fun _ => 0))), (q41, .inl (dA 0, 80, .inl (fun _ => 0))), (q49, .inl (dA 0, 80, .inl (fun _ => 0)))] := hD
  refine W.eq (g2 := F0 m 51 ls (.ref q49 :: .ref h0 :: [])) rfl ?_
  refine W.widen (k := 6) (n := 1122) (by decide) (by decide) ?_
  refine va_putF (D := D) (ci := 5) (v := .ref q49) (ty := .array .int) (C := "TypeOrThing$Names") (T := jn_F5) (N := 14) hx hb hts jn_i5 jn_y5 jn_t5 jn_n5 hown hK hP hD hS 0 rfl rfl 6 (by decide) (hts _ jq_94) (fun _ h9 => h9) rfl hin rfl (by decide +kernel) rfl rfl (Nat.le_of_ble_eq_true rfl) dk_Nm_51 (fun H locs hP hD hS => ?_)
  have hP : va_P D jn_cl [(h0, .inr (5, [.null, .ref q5, .ref q19, .ref q28, .int 0, .ref q41, .ref q49, .null, .null, .null, .null, .null, .int 0, .int 0])), (q5, .inr (2, [.ref (u9 0), .int 0])), ((u9 0), .inl (dA 1, 640, .inl (fun _ => 0))), (q19, .inl (dA 0, 160, .inl (fun _ => 0))), (q28, .inl (dA 0, 160, .inl (fun _ => 0))), (q41, .inl (dA 0, 80, .inl (fun _ => 0))), (q49, .inl (dA 0, 80, .inl (fun _ => 0)))] H := hP
  have hD : va_D A [(h0, .inr (5, [.null, .ref q5, .ref q19, .ref q28, .int 0, .ref q41, .ref q49, .null, .null, .null, .null, .null, .int 0, .int 0])), (q5, .inr (2, [.ref (u9 0), .int 0])), ((u9 0), .inl (dA 1, 640, .inl (fun _ => 0))), (q19, .inl (dA 0, 160, .inl (fun _ => 0))), (q28, .inl (dA 0, 160, .inl (fun _ => 0))), (q41, .inl (dA 0, 80, .inl (fun _ => 0))), (q49, .inl (dA 0, 80, .inl (fun _ => 0)))] := hD
  refine lv_aload_n hx hb dk_Nm_54 rfl (lv_at hl 0 rfl) ?_
  refine lv_bipush (v := 80) hx hb dk_Nm_55 (by decide) ?_
  refine jc_newa (dA := dA) (atype := .int) (ty := .int) (N' := 80) (a0 := (80, .inl (fun _ => 0))) hx hb (hts _ jq_53) rfl 0 rfl (fun _ h => h) hK hP hD hS hA (jc_v0 80) (by decide) (by decide) (by decide) (Nat.le_of_ble_eq_true rfl) (Nat.le_of_ble_eq_true rfl) dk_Nm_57 (fun q57 H hP hD hS => ?_)
  have hP : va_P D jn_cl [(h0, .inr (5, [.null, .ref q5, .ref q19, .ref q28, .int 0, .ref q41, .ref q49, .null, .null, .null, .null, .null, .int 0, .int 0])), (q5, .inr (2, [.ref (u9 0), .int 0])), ((u9 0), .inl (dA 1, 640, .inl (fun _ => 0))), (q19, .inl (dA 0, 160, .inl (fun _ => 0))), (q28, .inl (dA 0, 160, .inl (fun _ => 0))), (q41, .inl (dA 0, 80, .inl (fun _ => 0))), (q49, .inl (dA 0, 80, .inl (fun _ => 0))), (q57, .inl (dA 0, 80, .inl (fun _ => 0)))] H := hP
  have hD : va_D A [(h0, .inr (5, [.null, .ref q5, .ref q19, .ref q28, .int 0, .ref q41, .ref q49, .null, .null, .null, .null, .null, .int 0, .int 0])), (q5, .inr (2, [.ref (u9 0), .int 0])), ((u9 0), .inl (dA 1, 640, .inl (fun _ => 0))), (q19, .inl (dA 0, 160, .inl (fun _ => 0))), (q28, .inl (dA 0, 160, .inl (fun _ => 0))), (q41, .inl (dA 0, 80, .inl (fun _ => 0))), (q49, .inl (dA 0, 80, .inl (fun _ => 0))), (q57, .inl (dA 0, 80, .inl (fun _ => 0)))] := hD
  refine W.eq (g2 := F0 m 59 ls (.ref q57 :: .ref h0 :: [])) rfl ?_
  refine W.widen (k := 7) (n := 1202) (by decide) (by decide) ?_
  refine va_putF (D := D) (ci := 5) (v := .ref q57) (ty := .array .int) (C := "TypeOrThing$Names") (T := jn_F5) (N := 14) hx hb hts jn_i5 jn_y5 jn_t5 jn_n5 hown hK hP hD hS 0 rfl rfl 7 (by decide) (hts _ jq_96) (fun _ h9 => h9) rfl hin rfl (by decide +kernel) rfl rfl (Nat.le_of_ble_eq_true rfl) dk_Nm_59 (fun H locs hP hD hS => ?_)
  have hP : va_P D jn_cl [(h0, .inr (5, [.null, .ref q5, .ref q19, .ref q28, .int 0, .ref q41, .ref q49, .ref q57, .null, .null, .null, .null, .int 0, .int 0])), (q5, .inr (2, [.ref (u9 0), .int 0])), ((u9 0), .inl (dA 1, 640, .inl (fun _ => 0))), (q19, .inl (dA 0, 160, .inl (fun _ => 0))), (q28, .inl (dA 0, 160, .inl (fun _ => 0))), (q41, .inl (dA 0, 80, .inl (fun _ => 0))), (q49, .inl (dA 0, 80, .inl (fun _ => 0))), (q57, .inl (dA 0, 80, .inl (fun _ => 0)))] H := hP
  have hD : va_D A [(h0, .inr (5, [.null, .ref q5, .ref q19, .ref q28, .int 0, .ref q41, .ref q49, .ref q57, .null, .null, .null, .null, .int 0, .int 0])), (q5, .inr (2, [.ref (u9 0), .int 0])), ((u9 0), .inl (dA 1, 640, .inl (fun _ => 0))), (q19, .inl (dA 0, 160, .inl (fun _ => 0))), (q28, .inl (dA 0, 160, .inl (fun _ => 0))), (q41, .inl (dA 0, 80, .inl (fun _ => 0))), (q49, .inl (dA 0, 80, .inl (fun _ => 0))), (q57, .inl (dA 0, 80, .inl (fun _ => 0)))] := hD
  refine lv_aload_n hx hb dk_Nm_62 rfl (lv_at hl 0 rfl) ?_
  refine lv_bipush (v := 80) hx hb dk_Nm_63 (by decide) ?_
  refine jc_newa (dA := dA) (atype := .int) (ty := .int) (N' := 80) (a0 := (80, .inl (fun _ => 0))) hx hb (hts _ jq_53) rfl 0 rfl (fun _ h => h) hK hP hD hS hA (jc_v0 80) (by decide) (by decide) (by decide) (Nat.le_of_ble_eq_true rfl) (Nat.le_of_ble_eq_true rfl) dk_Nm_65 (fun q65 H hP hD hS => ?_)
  have hP : va_P D jn_cl [(h0, .inr (5, [.null, .ref q5, .ref q19, .ref q28, .int 0, .ref q41, .ref q49, .ref q57, .null, .null, .null, .null, .int 0, .int 0])), (q5, .inr (2, [.ref (u9 0), .int 0])), ((u9 0), .inl (dA 1, 640, .inl (fun _ => 0))), (q19, .inl (dA 0, 160, .inl (fun _ => 0))), (q28, .inl (dA 0, 160, .inl (fun _ => 0))), (q41, .inl (dA 0, 80, .inl (fun _ => 0))), (q49, .inl (dA 0, 80, .inl (fun _ => 0))), (q57, .inl (dA 0, 80, .inl (fun _ => 0))), (q65, .inl (dA 0, 80, .inl (fun _ => 0)))] H := hP
  have hD : va_D A [(h0, .inr (5, [.null, .ref q5, .ref q19, .ref q28, .int 0, .ref q41, .ref q49, .ref q57, .null, .null, .null, .null, .int 0, .int 0])), (q5, .inr (2, [.ref (u9 0), .int 0])), ((u9 0), .inl (dA 1, 640, .inl (fun _ => 0))), (q19, .inl (dA 0, 160, .inl (fun _ => 0))), (q28, .inl (dA 0, 160, .inl (fun _ => 0))), (q41, .inl (dA 0, 80, .inl (fun _ => 0))), (q49, .inl (dA 0, 80, .inl (fun _ => 0))), (q57, .inl (dA 0, 80, .inl (fun _ => 0))), (q65, .inl (dA 0, 80, .inl (fun _ => 0)))] := hD
  refine W.eq (g2 := F0 m 67 ls (.ref q65 :: .ref h0 :: [])) rfl ?_
  refine W.widen (k := 8) (n := 1282) (by decide) (by decide) ?_
  refine va_putF (D := D) (ci := 5) (v := .ref q65) (ty := .array .int) (C := "TypeOrThing$Names") (T := jn_F5) (N := 14) hx hb hts jn_i5 jn_y5 jn_t5 jn_n5 hown hK hP hD hS 0 rfl rfl 8 (by decide) (hts _ jq_99) (fun _ h9 => h9) rfl hin rfl (by decide +kernel) rfl rfl (Nat.le_of_ble_eq_true rfl) dk_Nm_67 (fun H locs hP hD hS => ?_)
  have hP : va_P D jn_cl [(h0, .inr (5, [.null, .ref q5, .ref q19, .ref q28, .int 0, .ref q41, .ref q49, .ref q57, .ref q65, .null, .null, .null, .int 0, .int 0])), (q5, .inr (2, [.ref (u9 0), .int 0])), ((u9 0), .inl (dA 1, 640, .inl (fun _ => 0))), (q19, .inl (dA 0, 160, .inl (fun _ => 0))), (q28, .inl (dA 0, 160, .inl (fun _ => 0))), (q41, .inl (dA 0, 80, .inl (fun _ => 0))), (q49, .inl (dA 0, 80, .inl (fun _ => 0))), (q57, .inl (dA 0, 80, .inl (fun _ => 0))), (q65, .inl (dA 0, 80, .inl (fun _ => 0)))] H := hP
  have hD : va_D A [(h0, .inr (5, [.null, .ref q5, .ref q19, .ref q28, .int 0, .ref q41, .ref q49, .ref q57, .ref q65, .null, .null, .null, .int 0, .int 0])), (q5, .inr (2, [.ref (u9 0), .int 0])), ((u9 0), .inl (dA 1, 640, .inl (fun _ => 0))), (q19, .inl (dA 0, 160, .inl (fun _ => 0))), (q28, .inl (dA 0, 160, .inl (fun _ => 0))), (q41, .inl (dA 0, 80, .inl (fun _ => 0))), (q49, .inl (dA 0, 80, .inl (fun _ => 0))), (q57, .inl (dA 0, 80, .inl (fun _ => 0))), (q65, .inl (dA 0, 80, .inl (fun _ => 0)))] := hD
  refine lv_aload_n hx hb dk_Nm_70 rfl (lv_at hl 0 rfl) ?_
  refine lv_bipush (v := 80) hx hb dk_Nm_71 (by decide) ?_
  refine jc_newa (dA := dA) (atype := .int) (ty := .int) (N' := 80) (a0 := (80, .inl (fun _ => 0))) hx hb (hts _ jq_53) rfl 0 rfl (fun _ h => h) hK hP hD hS hA (jc_v0 80) (by decide) (by decide) (by decide) (Nat.le_of_ble_eq_true rfl) (Nat.le_of_ble_eq_true rfl) dk_Nm_73 (fun q73 H hP hD hS => ?_)
  have hP : va_P D jn_cl [(h0, .inr (5, [.null, .ref q5, .ref q19, .ref q28, .int 0, .ref q41, .ref q49, .ref q57, .ref q65, .null, .null, .null, .int 0, .int 0])), (q5, .inr (2, [.ref (u9 0), .int 0])), ((u9 0), .inl (dA 1, 640, .inl (fun _ => 0))), (q19, .inl (dA 0, 160, .inl (fun _ => 0))), (q28, .inl (dA 0, 160, .inl (fun _ => 0))), (q41, .inl (dA 0, 80, .inl (fun _ => 0))), (q49, .inl (dA 0, 80, .inl (fun _ => 0))), (q57, .inl (dA 0, 80, .inl (fun _ => 0))), (q65, .inl (dA 0, 80, .inl (fun _ => 0))), (q73, .inl (dA 0, 80, .inl (fun _ => 0)))] H := hP
  have hD : va_D A [(h0, .inr (5, [.null, .ref q5, .ref q19, .ref q28, .int 0, .ref q41, .ref q49, .ref q57, .ref q65, .null, .null, .null, .int 0, .int 0])), (q5, .inr (2, [.ref (u9 0), .int 0])), ((u9 0), .inl (dA 1, 640, .inl (fun _ => 0))), (q19, .inl (dA 0, 160, .inl (fun _ => 0))), (q28, .inl (dA 0, 160, .inl (fun _ => 0))), (q41, .inl (dA 0, 80, .inl (fun _ => 0))), (q49, .inl (dA 0, 80, .inl (fun _ => 0))), (q57, .inl (dA 0, 80, .inl (fun _ => 0))), (q65, .inl (dA 0, 80, .inl (fun _ => 0))), (q73, .inl (dA 0, 80, .inl (fun _ => 0)))] := hD
  refine W.eq (g2 := F0 m 75 ls (.ref q73 :: .ref h0 :: [])) rfl ?_
  refine W.widen (k := 9) (n := 1362) (by decide) (by decide) ?_
  refine va_putF (D := D) (ci := 5) (v := .ref q73) (ty := .array .int) (C := "TypeOrThing$Names") (T := jn_F5) (N := 14) hx hb hts jn_i5 jn_y5 jn_t5 jn_n5 hown hK hP hD hS 0 rfl rfl 9 (by decide) (hts _ jq_102) (fun _ h9 => h9) rfl hin rfl (by decide +kernel) rfl rfl (Nat.le_of_ble_eq_true rfl) dk_Nm_75 (fun H locs hP hD hS => ?_)
  have hP : va_P D jn_cl [(h0, .inr (5, [.null, .ref q5, .ref q19, .ref q28, .int 0, .ref q41, .ref q49, .ref q57, .ref q65, .ref q73, .null, .null, .int 0, .int 0])), (q5, .inr (2, [.ref (u9 0), .int 0])), ((u9 0), .inl (dA 1, 640, .inl (fun _ => 0))), (q19, .inl (dA 0, 160, .inl (fun _ => 0))), (q28, .inl (dA 0, 160, .inl (fun _ => 0))), (q41, .inl (dA 0, 80, .inl (fun _ => 0))), (q49, .inl (dA 0, 80, .inl (fun _ => 0))), (q57, .inl (dA 0, 80, .inl (fun _ => 0))), (q65, .inl (dA 0, 80, .inl (fun _ => 0))), (q73, .inl (dA 0, 80, .inl (fun _ => 0)))] H := hP
  have hD : va_D A [(h0, .inr (5, [.null, .ref q5, .ref q19, .ref q28, .int 0, .ref q41, .ref q49, .ref q57, .ref q65, .ref q73, .null, .null, .int 0, .int 0])), (q5, .inr (2, [.ref (u9 0), .int 0])), ((u9 0), .inl (dA 1, 640, .inl (fun _ => 0))), (q19, .inl (dA 0, 160, .inl (fun _ => 0))), (q28, .inl (dA 0, 160, .inl (fun _ => 0))), (q41, .inl (dA 0, 80, .inl (fun _ => 0))), (q49, .inl (dA 0, 80, .inl (fun _ => 0))), (q57, .inl (dA 0, 80, .inl (fun _ => 0))), (q65, .inl (dA 0, 80, .inl (fun _ => 0))), (q73, .inl (dA 0, 80, .inl (fun _ => 0)))] := hD
  refine lv_aload_n hx hb dk_Nm_78 rfl (lv_at hl 0 rfl) ?_
  refine lv_bipush (v := 80) hx hb dk_Nm_79 (by decide) ?_
  refine jc_newa (dA := dA) (atype := .int) (ty := .int) (N' := 80) (a0 := (80, .inl (fun _ => 0))) hx hb (hts _ jq_53) rfl 0 rfl (fun _ h => h) hK hP hD hS hA (jc_v0 80) (by decide) (by decide) (by decide) (Nat.le_of_ble_eq_true rfl) (Nat.le_of_ble_eq_true rfl) dk_Nm_81 (fun q81 H hP hD hS => ?_)
  have hP : va_P D jn_cl [(h0, .inr (5, [.null, .ref q5, .ref q19, .ref q28, .int 0, .ref q41, .ref q49, .ref q57, .ref q65, .ref q73, .null, .null, .int 0, .int 0])), (q5, .inr (2, [.ref (u9 0), .int 0])), ((u9 0), .inl (dA 1, 640, .inl (fun _ => 0))), (q19, .inl (dA 0, 160, .inl (fun _ => 0))), (q28, .inl (dA 0, 160, .inl (fun _ => 0))), (q41, .inl (dA 0, 80, .inl (fun _ => 0))), (q49, .inl (dA 0, 80, .inl (fun _ => 0))), (q57, .inl (dA 0, 80, .inl (fun _ => 0))), (q65, .inl (dA 0, 80, .inl (fun _ => 0))), (q73, .inl (dA 0, 80, .inl (fun _ => 0))), (q81, .inl (dA 0, 80, .inl (fun _ => 0)))] H := hP
  have hD : va_D A [(h0, .inr (5, [.null, .ref q5, .ref q19, .ref q28, .int 0, .ref q41, .ref q49, .ref q57, .ref q65, .ref q73, .null, .null, .int 0, .int 0])), (q5, .inr (2, [.ref (u9 0), .int 0])), ((u9 0), .inl (dA 1, 640, .inl (fun _ => 0))), (q19, .inl (dA 0, 160, .inl (fun _ => 0))), (q28, .inl (dA 0, 160, .inl (fun _ => 0))), (q41, .inl (dA 0, 80, .inl (fun _ => 0))), (q49, .inl (dA 0, 80, .inl (fun _ => 0))), (q57, .inl (dA 0, 80, .inl (fun _ => 0))), (q65, .inl (dA 0, 80, .inl (fun _ => 0))), (q73, .inl (dA 0, 80, .inl (fun _ => 0))), (q81, .inl (dA 0, 80, .inl (fun _ => 0)))] := hD
  refine W.eq (g2 := F0 m 83 ls (.ref q81 :: .ref h0 :: [])) rfl ?_
  refine W.widen (k := 10) (n := 1442) (by decide) (by decide) ?_
  refine va_putF (D := D) (ci := 5) (v := .ref q81) (ty := .array .int) (C := "TypeOrThing$Names") (T := jn_F5) (N := 14) hx hb hts jn_i5 jn_y5 jn_t5 jn_n5 hown hK hP hD hS 0 rfl rfl 10 (by decide) (hts _ jq_105) (fun _ h9 => h9) rfl hin rfl (by decide +kernel) rfl rfl (Nat.le_of_ble_eq_true rfl) dk_Nm_83 (fun H locs hP hD hS => ?_)
  have hP : va_P D jn_cl [(h0, .inr (5, [.null, .ref q5, .ref q19, .ref q28, .int 0, .ref q41, .ref q49, .ref q57, .ref q65, .ref q73, .ref q81, .null, .int 0, .int 0])), (q5, .inr (2, [.ref (u9 0), .int 0])), ((u9 0), .inl (dA 1, 640, .inl (fun _ => 0))), (q19, .inl (dA 0, 160, .inl (fun _ => 0))), (q28, .inl (dA 0, 160, .inl (fun _ => 0))), (q41, .inl (dA 0, 80, .inl (fun _ => 0))), (q49, .inl (dA 0, 80, .inl (fun _ => 0))), (q57, .inl (dA 0, 80, .inl (fun _ => 0))), (q65, .inl (dA 0, 80, .inl (fun _ => 0))), (q73, .inl (dA 0, 80, .inl (fun _ => 0))), (q81, .inl (dA 0, 80, .inl (fun _ => 0)))] H := hP
  have hD : va_D A [(h0, .inr (5, [.null, .ref q5, .ref q19, .ref q28, .int 0, .ref q41, .ref q49, .ref q57, .ref q65, .ref q73, .ref q81, .null, .int 0, .int 0])), (q5, .inr (2, [.ref (u9 0), .int 0])), ((u9 0), .inl (dA 1, 640, .inl (fun _ => 0))), (q19, .inl (dA 0, 160, .inl (fun _ => 0))), (q28, .inl (dA 0, 160, .inl (fun _ => 0))), (q41, .inl (dA 0, 80, .inl (fun _ => 0))), (q49, .inl (dA 0, 80, .inl (fun _ => 0))), (q57, .inl (dA 0, 80, .inl (fun _ => 0))), (q65, .inl (dA 0, 80, .inl (fun _ => 0))), (q73, .inl (dA 0, 80, .inl (fun _ => 0))), (q81, .inl (dA 0, 80, .inl (fun _ => 0)))] := hD
  refine lv_aload_n hx hb dk_Nm_86 rfl (lv_at hl 0 rfl) ?_
  refine lv_bipush (v := 10) hx hb dk_Nm_87 (by decide) ?_
  refine jc_newa (dA := dA) (atype := .int) (ty := .int) (N' := 10) (a0 := (10, .inl (fun _ => 0))) hx hb (hts _ jq_53) rfl 0 rfl (fun _ h => h) hK hP hD hS hA (jc_v0 10) (by decide) (by decide) (by decide) (Nat.le_of_ble_eq_true rfl) (Nat.le_of_ble_eq_true rfl) dk_Nm_89 (fun q89 H hP hD hS => ?_)
  have hP : va_P D jn_cl [(h0, .inr (5, [.null, .ref q5, .ref q19, .ref q28, .int 0, .ref q41, .ref q49, .ref q57, .ref q65, .ref q73, .ref q81, .null, .int 0, .int 0])), (q5, .inr (2, [.ref (u9 0), .int 0])), ((u9 0), .inl (dA 1, 640, .inl (fun _ => 0))), (q19, .inl (dA 0, 160, .inl (fun _ => 0))), (q28, .inl (dA 0, 160, .inl (fun _ => 0))), (q41, .inl (dA 0, 80, .inl (fun _ => 0))), (q49, .inl (dA 0, 80, .inl (fun _ => 0))), (q57, .inl (dA 0, 80, .inl (fun _ => 0))), (q65, .inl (dA 0, 80, .inl (fun _ => 0))), (q73, .inl (dA 0, 80, .inl (fun _ => 0))), (q81, .inl (dA 0, 80, .inl (fun _ => 0))), (q89, .inl (dA 0, 10, .inl (fun _ => 0)))] H := hP
  have hD : va_D A [(h0, .inr (5, [.null, .ref q5, .ref q19, .ref q28, .int 0, .ref q41, .ref q49, .ref q57, .ref q65, .ref q73, .ref q81, .null, .int 0, .int 0])), (q5, .inr (2, [.ref (u9 0), .int 0])), ((u9 0), .inl (dA 1, 640, .inl (fun _ => 0))), (q19, .inl (dA 0, 160, .inl (fun _ => 0))), (q28, .inl (dA 0, 160, .inl (fun _ => 0))), (q41, .inl (dA 0, 80, .inl (fun _ => 0))), (q49, .inl (dA 0, 80, .inl (fun _ => 0))), (q57, .inl (dA 0, 80, .inl (fun _ => 0))), (q65, .inl (dA 0, 80, .inl (fun _ => 0))), (q73, .inl (dA 0, 80, .inl (fun _ => 0))), (q81, .inl (dA 0, 80, .inl (fun _ => 0))), (q89, .inl (dA 0, 10, .inl (fun _ => 0)))] := hD
  refine W.eq (g2 := F0 m 91 ls (.ref q89 :: .ref h0 :: [])) rfl ?_
  refine W.widen (k := 11) (n := 1452) (by decide) (by decide) ?_
  refine va_putF (D := D) (ci := 5) (v := .ref q89) (ty := .array .int) (C := "TypeOrThing$Names") (T := jn_F5) (N := 14) hx hb hts jn_i5 jn_y5 jn_t5 jn_n5 hown hK hP hD hS 0 rfl rfl 11 (by decide) (hts _ jq_106) (fun _ h9 => h9) rfl hin rfl (by decide +kernel) rfl rfl (Nat.le_of_ble_eq_true rfl) dk_Nm_91 (fun H locs hP hD hS => ?_)
  have hP : va_P D jn_cl [(h0, .inr (5, [.null, .ref q5, .ref q19, .ref q28, .int 0, .ref q41, .ref q49, .ref q57, .ref q65, .ref q73, .ref q81, .ref q89, .int 0, .int 0])), (q5, .inr (2, [.ref (u9 0), .int 0])), ((u9 0), .inl (dA 1, 640, .inl (fun _ => 0))), (q19, .inl (dA 0, 160, .inl (fun _ => 0))), (q28, .inl (dA 0, 160, .inl (fun _ => 0))), (q41, .inl (dA 0, 80, .inl (fun _ => 0))), (q49, .inl (dA 0, 80, .inl (fun _ => 0))), (q57, .inl (dA 0, 80, .inl (fun _ => 0))), (q65, .inl (dA 0, 80, .inl (fun _ => 0))), (q73, .inl (dA 0, 80, .inl (fun _ => 0))), (q81, .inl (dA 0, 80, .inl (fun _ => 0))), (q89, .inl (dA 0, 10, .inl (fun _ => 0)))] H := hP
  have hD : va_D A [(h0, .inr (5, [.null, .ref q5, .ref q19, .ref q28, .int 0, .ref q41, .ref q49, .ref q57, .ref q65, .ref q73, .ref q81, .ref q89, .int 0, .int 0])), (q5, .inr (2, [.ref (u9 0), .int 0])), ((u9 0), .inl (dA 1, 640, .inl (fun _ => 0))), (q19, .inl (dA 0, 160, .inl (fun _ => 0))), (q28, .inl (dA 0, 160, .inl (fun _ => 0))), (q41, .inl (dA 0, 80, .inl (fun _ => 0))), (q49, .inl (dA 0, 80, .inl (fun _ => 0))), (q57, .inl (dA 0, 80, .inl (fun _ => 0))), (q65, .inl (dA 0, 80, .inl (fun _ => 0))), (q73, .inl (dA 0, 80, .inl (fun _ => 0))), (q81, .inl (dA 0, 80, .inl (fun _ => 0))), (q89, .inl (dA 0, 10, .inl (fun _ => 0)))] := hD
  refine lv_aload_n hx hb dk_Nm_94 rfl (lv_at hl 0 rfl) ?_
  refine lv_iconst (v := 0) hx hb dk_Nm_95 (by decide) ?_
  refine va_put (D := D) (ci := 5) (v := .int 0) (ty := .int) (C := "TypeOrThing$Names") (T := jn_F5) (N := 14) hx hb hts jn_i5 jn_y5 jn_t5 jn_n5 hown hK hP hD hS 0 rfl rfl 12 (by decide) (hts _ jq_107) (fun _ h9 => h9) rfl (by decide +kernel) rfl rfl (Nat.le_of_ble_eq_true rfl) dk_Nm_96 (fun H locs hP hD hS => ?_)
  have hP : va_P D jn_cl [(h0, .inr (5, [.null, .ref q5, .ref q19, .ref q28, .int 0, .ref q41, .ref q49, .ref q57, .ref q65, .ref q73, .ref q81, .ref q89, .int 0, .int 0])), (q5, .inr (2, [.ref (u9 0), .int 0])), ((u9 0), .inl (dA 1, 640, .inl (fun _ => 0))), (q19, .inl (dA 0, 160, .inl (fun _ => 0))), (q28, .inl (dA 0, 160, .inl (fun _ => 0))), (q41, .inl (dA 0, 80, .inl (fun _ => 0))), (q49, .inl (dA 0, 80, .inl (fun _ => 0))), (q57, .inl (dA 0, 80, .inl (fun _ => 0))), (q65, .inl (dA 0, 80, .inl (fun _ => 0))), (q73, .inl (dA 0, 80, .inl (fun _ => 0))), (q81, .inl (dA 0, 80, .inl (fun _ => 0))), (q89, .inl (dA 0, 10, .inl (fun _ => 0)))] H := hP
  have hD : va_D A [(h0, .inr (5, [.null, .ref q5, .ref q19, .ref q28, .int 0, .ref q41, .ref q49, .ref q57, .ref q65, .ref q73, .ref q81, .ref q89, .int 0, .int 0])), (q5, .inr (2, [.ref (u9 0), .int 0])), ((u9 0), .inl (dA 1, 640, .inl (fun _ => 0))), (q19, .inl (dA 0, 160, .inl (fun _ => 0))), (q28, .inl (dA 0, 160, .inl (fun _ => 0))), (q41, .inl (dA 0, 80, .inl (fun _ => 0))), (q49, .inl (dA 0, 80, .inl (fun _ => 0))), (q57, .inl (dA 0, 80, .inl (fun _ => 0))), (q65, .inl (dA 0, 80, .inl (fun _ => 0))), (q73, .inl (dA 0, 80, .inl (fun _ => 0))), (q81, .inl (dA 0, 80, .inl (fun _ => 0))), (q89, .inl (dA 0, 10, .inl (fun _ => 0)))] := hD
  refine lv_aload_n hx hb dk_Nm_99 rfl (lv_at hl 0 rfl) ?_
  refine lv_iconst (v := 0) hx hb dk_Nm_100 (by decide) ?_
  refine va_put (D := D) (ci := 5) (v := .int 0) (ty := .int) (C := "TypeOrThing$Names") (T := jn_F5) (N := 14) hx hb hts jn_i5 jn_y5 jn_t5 jn_n5 hown hK hP hD hS 0 rfl rfl 13 (by decide) (hts _ jq_108) (fun _ h9 => h9) rfl (by decide +kernel) rfl rfl (Nat.le_of_ble_eq_true rfl) dk_Nm_101 (fun H locs hP hD hS => ?_)
  have hP : va_P D jn_cl [(h0, .inr (5, [.null, .ref q5, .ref q19, .ref q28, .int 0, .ref q41, .ref q49, .ref q57, .ref q65, .ref q73, .ref q81, .ref q89, .int 0, .int 0])), (q5, .inr (2, [.ref (u9 0), .int 0])), ((u9 0), .inl (dA 1, 640, .inl (fun _ => 0))), (q19, .inl (dA 0, 160, .inl (fun _ => 0))), (q28, .inl (dA 0, 160, .inl (fun _ => 0))), (q41, .inl (dA 0, 80, .inl (fun _ => 0))), (q49, .inl (dA 0, 80, .inl (fun _ => 0))), (q57, .inl (dA 0, 80, .inl (fun _ => 0))), (q65, .inl (dA 0, 80, .inl (fun _ => 0))), (q73, .inl (dA 0, 80, .inl (fun _ => 0))), (q81, .inl (dA 0, 80, .inl (fun _ => 0))), (q89, .inl (dA 0, 10, .inl (fun _ => 0)))] H := hP
  have hD : va_D A [(h0, .inr (5, [.null, .ref q5, .ref q19, .ref q28, .int 0, .ref q41, .ref q49, .ref q57, .ref q65, .ref q73, .ref q81, .ref q89, .int 0, .int 0])), (q5, .inr (2, [.ref (u9 0), .int 0])), ((u9 0), .inl (dA 1, 640, .inl (fun _ => 0))), (q19, .inl (dA 0, 160, .inl (fun _ => 0))), (q28, .inl (dA 0, 160, .inl (fun _ => 0))), (q41, .inl (dA 0, 80, .inl (fun _ => 0))), (q49, .inl (dA 0, 80, .inl (fun _ => 0))), (q57, .inl (dA 0, 80, .inl (fun _ => 0))), (q65, .inl (dA 0, 80, .inl (fun _ => 0))), (q73, .inl (dA 0, 80, .inl (fun _ => 0))), (q81, .inl (dA 0, 80, .inl (fun _ => 0))), (q89, .inl (dA 0, 10, .inl (fun _ => 0)))] := hD
  refine lv_aload_n hx hb dk_Nm_104 rfl (lv_at hl 0 rfl) ?_
  refine lv_aload_n hx hb dk_Nm_105 rfl (lv_at hl 1 rfl) ?_
  refine va_putF (D := D) (ci := 5) (v := .ref tk) (ty := .object "TypeOrThing$Tokens") (C := "TypeOrThing$Names") (T := jn_F5) (N := 14) hx hb hts jn_i5 jn_y5 jn_t5 jn_n5 hown hK hP hD hS 0 rfl rfl 0 (by decide) (hts _ jq_78) (fun _ h9 => h9) rfl hin rfl (by decide +kernel) rfl rfl (Nat.le_of_ble_eq_true rfl) dk_Nm_106 (fun H locs hP hD hS => ?_)
  have hP : va_P D jn_cl [(h0, .inr (5, [.ref tk, .ref q5, .ref q19, .ref q28, .int 0, .ref q41, .ref q49, .ref q57, .ref q65, .ref q73, .ref q81, .ref q89, .int 0, .int 0])), (q5, .inr (2, [.ref (u9 0), .int 0])), ((u9 0), .inl (dA 1, 640, .inl (fun _ => 0))), (q19, .inl (dA 0, 160, .inl (fun _ => 0))), (q28, .inl (dA 0, 160, .inl (fun _ => 0))), (q41, .inl (dA 0, 80, .inl (fun _ => 0))), (q49, .inl (dA 0, 80, .inl (fun _ => 0))), (q57, .inl (dA 0, 80, .inl (fun _ => 0))), (q65, .inl (dA 0, 80, .inl (fun _ => 0))), (q73, .inl (dA 0, 80, .inl (fun _ => 0))), (q81, .inl (dA 0, 80, .inl (fun _ => 0))), (q89, .inl (dA 0, 10, .inl (fun _ => 0)))] H := hP
  have hD : va_D A [(h0, .inr (5, [.ref tk, .ref q5, .ref q19, .ref q28, .int 0, .ref q41, .ref q49, .ref q57, .ref q65, .ref q73, .ref q81, .ref q89, .int 0, .int 0])), (q5, .inr (2, [.ref (u9 0), .int 0])), ((u9 0), .inl (dA 1, 640, .inl (fun _ => 0))), (q19, .inl (dA 0, 160, .inl (fun _ => 0))), (q28, .inl (dA 0, 160, .inl (fun _ => 0))), (q41, .inl (dA 0, 80, .inl (fun _ => 0))), (q49, .inl (dA 0, 80, .inl (fun _ => 0))), (q57, .inl (dA 0, 80, .inl (fun _ => 0))), (q65, .inl (dA 0, 80, .inl (fun _ => 0))), (q73, .inl (dA 0, 80, .inl (fun _ => 0))), (q81, .inl (dA 0, 80, .inl (fun _ => 0))), (q89, .inl (dA 0, 10, .inl (fun _ => 0)))] := hD
  have hP9 := hP.sub (ws' := [(h0, .inr (5, [.ref tk, .ref q5, .ref q19, .ref q28, .int 0, .ref q41, .ref q49, .ref q57, .ref q65, .ref q73, .ref q81, .ref q89, .int 0, .int 0])), (q5, .inr (2, [.ref (u9 0), .int 0])), ((u9 0), .inl (dA 1, 640, .inl (fun _ => 0))), (q19, .inl (dA 0, 160, .inl (fun _ => 0))), (q28, .inl (dA 0, 160, .inl (fun _ => 0))), (q41, .inl (dA 0, 80, .inl (fun _ => 0))), (q49, .inl (dA 0, 80, .inl (fun _ => 0))), (q57, .inl (dA 0, 80, .inl (fun _ => 0))), (q65, .inl (dA 0, 80, .inl (fun _ => 0))), (q73, .inl (dA 0, 80, .inl (fun _ => 0))), (q81, .inl (dA 0, 80, .inl (fun _ => 0))), (q89, .inl (dA 0, 10, .inl (fun _ => 0)))]) [0, 1, 2, 3, 4, 5, 6, 7, 8, 9, 10, 11] rfl
  have hD9 := hD.sub (ws' := [(h0, .inr (5, [.ref tk, .ref q5, .ref q19, .ref q28, .int 0, .ref q41, .ref q49, .ref q57, .ref q65, .ref q73, .ref q81, .ref q89, .int 0, .int 0])), (q5, .inr (2, [.ref (u9 0), .int 0])), ((u9 0), .inl (dA 1, 640, .inl (fun _ => 0))), (q19, .inl (dA 0, 160, .inl (fun _ => 0))), (q28, .inl (dA 0, 160, .inl (fun _ => 0))), (q41, .inl (dA 0, 80, .inl (fun _ => 0))), (q49, .inl (dA 0, 80, .inl (fun _ => 0))), (q57, .inl (dA 0, 80, .inl (fun _ => 0))), (q65, .inl (dA 0, 80, .inl (fun _ => 0))), (q73, .inl (dA 0, 80, .inl (fun _ => 0))), (q81, .inl (dA 0, 80, .inl (fun _ => 0))), (q89, .inl (dA 0, 10, .inl (fun _ => 0)))]) [0, 1, 2, 3, 4, 5, 6, 7, 8, 9, 10, 11] (by decide) rfl
  exact W.vret hx hb hr (fun t ht hW => ⟨⟨(fun i => [q5, u9 0, q19, q28, q41, q49, q57, q65, q73, q81, q89].getD i 0), rfl, trivial, by rw [ht]; exact hP9, hD9⟩, hS.F ht⟩) hS.2.2 dk_Nm_109
