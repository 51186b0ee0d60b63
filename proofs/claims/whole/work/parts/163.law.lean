/-! The law's body. -/
abbrev lcs (dA : Nat → ClassId) (aC aR : Nat → Nat) (ao : Nat) (wC wR : ja_w) (f : Nat → Int64) : va_W := ja_ws dA aC jl_c wC ++ (ja_ws dA aR jl_r wR ++ [(ao, .inl (dA 2, 1, .inr (.inl f)))])
/-- what holds all the while -/
abbrev lX (p : Program) (l : Launch) (s : State) (m : MethodId) (c : Code) (D : va_G) (dA : Nat → ClassId) (aC aR : Nat → Nat) (b L : Nat) (xs : Nat → Int32) : Prop := CallFix p m c code 7 s #[Value.ref b] jn_T "TypeOrThingLaw" ∧ va_K D jn_cl (ja_ty dA) s ∧ ja_Kz aC (fun q => s.heap.size ≤ q) s ∧ ja_Kz aR (fun q => s.heap.size ≤ q) s ∧ va_X b L xs s s.heap ∧ b < s.heap.size ∧ l.stackTraces = false ∧ L ≤ 2048
abbrev lLo (b ax am ao : Nat) (i : Int32) (k5 k6 : Option Value) : ja_L := [some (.ref b), some (.ref ax), some (.ref am), some (.ref ao), some (.int i), k5, k6]
theorem l_in0 {t L : Nat} (h : 4 * t + 4 ≤ L) (hL : L ≤ 2048) : vp_in (nI (4 * t)) L := vp_in_nI (by omega) (by omega)
theorem l_in1 {t L : Nat} (h : 4 * t + 4 ≤ L) (hL : L ≤ 2048) : vp_in (nI (4 * t) + 1) L := by
  rw [show nI (4 * t) + 1 = nI (4 * t + 1) from nI_add _ 1]; exact vp_in_nI (by omega) (by omega)
theorem l_in2 {t L : Nat} (h : 4 * t + 4 ≤ L) (hL : L ≤ 2048) : vp_in (nI (4 * t) + 2) L := by
  rw [show nI (4 * t) + 2 = nI (4 * t + 2) from nI_add _ 2]; exact vp_in_nI (by omega) (by omega)
theorem l_in3 {t L : Nat} (h : 4 * t + 4 ≤ L) (hL : L ≤ 2048) : vp_in (nI (4 * t) + 3) L := by
  rw [show nI (4 * t) + 3 = nI (4 * t + 3) from nI_add _ 3]; exact vp_in_nI (by omega) (by omega)
theorem l_gW {w0 : Cond} (h : w0 ∈ jn_T) : GoodIn jn_T (w0 :: jn_T) := by
  intro w hw
  rcases List.mem_cons.mp hw with rfl | h1
  · exact ⟨h, jn_good h⟩
  · exact ⟨h1, jn_good h1⟩
theorem l_upd {f : Nat → Int64} {k : Nat} {x : Int64} : vp_updL f k x k = x := by
  unfold vp_updL; simp
theorem rv_0 {d : Nat} {I A : ja_I} {J : ja_J} : er_E (d + 1) 0 [.ref 0] (I, A, J) (.inl (some (.int (I 0 0)))) (I, A, J) := er_0 (r := (_, _)) rfl
section
variable {p : Program} {l : Launch} {e : Env} {s : State} {m : MethodId} {below : List Frame} {meth : Method} {c : Code} {D : va_G} {dA : Nat → ClassId} {aC aR : Nat → Nat} {b L ao t : Nat} {xs : Nat → Int32} {Q : State → Prop} {u : vU} {wC wR : ja_w} {f : Nat → Int64} {c0 s0 : Nat} {H : Heap} {locs : List Loc} {ls : Array Slot} {k5 k6 : Option Value}
/-- from the end of a case on -/
abbrev lK (p : Program) (l : Launch) (e : Env) (s : State) (m : MethodId) (below : List Frame) (meth : Method) (c : Code) (D : va_G) (dA : Nat → ClassId) (aC aR : Nat → Nat) (b ao t c0 s0 : Nat) (Q : State → Prop) : Prop := ∀ (u : vU) (wC wR : ja_w) (f : Nat → Int64) (k5 k6 : Option Value) (ls : Array Slot) (H : Heap) (locs : List Loc), cV u wC → rV u wR → ja_has (fun q => q) ls 7 (lLo b (aC 0) (aR 0) ao (nI (4 * t)) k5 k6) → va_P D jn_cl (lcs dA aC aR ao wC wR f) H → va_D (fun q => s.heap.size ≤ q) (lcs dA aC aR ao wC wR f) → va_S (fun q => s.heap.size ≤ q) s.heap H locs → W p l e room_1 s m #[Value.ref b] below meth c H locs (c0 + 2) (s0 + 12) Q (F0 m 515 ls [])
theorem jl_280 : (Cond.methodLink "TypeOrThingLaw" 53 ⟨"TypeOrThing", "at", "()I"⟩ : Cond) ∈ jn_T := jn_of (List.mem_of_getElem? (i := 280) (by decide +kernel)) (by decide +kernel)
theorem jl_281 : (Cond.instanceMethod ⟨"TypeOrThing", "at", "()I"⟩ : Cond) ∈ jn_T := jn_of (List.mem_of_getElem? (i := 281) (by decide +kernel)) (by decide +kernel)
theorem jl_282 : (Cond.selects "TypeOrThing" ⟨"TypeOrThing", "at", "()I"⟩ ⟨"TypeOrThing", "at", "()I"⟩ : Cond) ∈ jn_T := jn_of (List.mem_of_getElem? (i := 282) (by decide +kernel)) (by decide +kernel)
theorem jl_283 : (Cond.code ⟨"TypeOrThing", "at", "()I"⟩ prog_1_method_5_code 1 (some .int) : Cond) ∈ jn_T := jn_of (List.mem_of_getElem? (i := 283) (by decide +kernel)) (by decide +kernel)
theorem jl_1259 : (Cond.methodLink "TypeOrThingLaw" 56 ⟨"TypeOrThingModel", "at", "()I"⟩ : Cond) ∈ jn_T := jn_of (List.mem_of_getElem? (i := 1259) (by decide +kernel)) (by decide +kernel)
theorem jl_1260 : (Cond.instanceMethod ⟨"TypeOrThingModel", "at", "()I"⟩ : Cond) ∈ jn_T := jn_of (List.mem_of_getElem? (i := 1260) (by decide +kernel)) (by decide +kernel)
theorem jl_1261 : (Cond.selects "TypeOrThingModel" ⟨"TypeOrThingModel", "at", "()I"⟩ ⟨"TypeOrThingModel", "at", "()I"⟩ : Cond) ∈ jn_T := jn_of (List.mem_of_getElem? (i := 1261) (by decide +kernel)) (by decide +kernel)
theorem jl_9 : (Cond.initialized "TypeOrThingModel" : Cond) ∈ jn_T := jn_of (List.mem_of_getElem? (i := 9) (by decide +kernel)) (by decide +kernel)
theorem jl_1262 : (Cond.code ⟨"TypeOrThingModel", "at", "()I"⟩ prog_10_method_70_code 1 (some .int) : Cond) ∈ jn_T := jn_of (List.mem_of_getElem? (i := 1262) (by decide +kernel)) (by decide +kernel)
theorem jl_296 : (Cond.methodLink "TypeOrThingLaw" 65 ⟨"TypeOrThing", "declared", "()I"⟩ : Cond) ∈ jn_T := jn_of (List.mem_of_getElem? (i := 296) (by decide +kernel)) (by decide +kernel)
theorem jl_297 : (Cond.instanceMethod ⟨"TypeOrThing", "declared", "()I"⟩ : Cond) ∈ jn_T := jn_of (List.mem_of_getElem? (i := 297) (by decide +kernel)) (by decide +kernel)
theorem jl_298 : (Cond.selects "TypeOrThing" ⟨"TypeOrThing", "declared", "()I"⟩ ⟨"TypeOrThing", "declared", "()I"⟩ : Cond) ∈ jn_T := jn_of (List.mem_of_getElem? (i := 298) (by decide +kernel)) (by decide +kernel)
theorem jl_299 : (Cond.code ⟨"TypeOrThing", "declared", "()I"⟩ prog_1_method_8_code 1 (some .int) : Cond) ∈ jn_T := jn_of (List.mem_of_getElem? (i := 299) (by decide +kernel)) (by decide +kernel)
theorem jl_1275 : (Cond.methodLink "TypeOrThingLaw" 68 ⟨"TypeOrThingModel", "declared", "()I"⟩ : Cond) ∈ jn_T := jn_of (List.mem_of_getElem? (i := 1275) (by decide +kernel)) (by decide +kernel)
theorem jl_1276 : (Cond.instanceMethod ⟨"TypeOrThingModel", "declared", "()I"⟩ : Cond) ∈ jn_T := jn_of (List.mem_of_getElem? (i := 1276) (by decide +kernel)) (by decide +kernel)
theorem jl_1277 : (Cond.selects "TypeOrThingModel" ⟨"TypeOrThingModel", "declared", "()I"⟩ ⟨"TypeOrThingModel", "declared", "()I"⟩ : Cond) ∈ jn_T := jn_of (List.mem_of_getElem? (i := 1277) (by decide +kernel)) (by decide +kernel)
theorem jl_1278 : (Cond.code ⟨"TypeOrThingModel", "declared", "()I"⟩ prog_10_method_74_code 1 (some .int) : Cond) ∈ jn_T := jn_of (List.mem_of_getElem? (i := 1278) (by decide +kernel)) (by decide +kernel)
theorem jl_300 : (Cond.methodLink "TypeOrThingLaw" 76 ⟨"TypeOrThing", "length", "()I"⟩ : Cond) ∈ jn_T := jn_of (List.mem_of_getElem? (i := 300) (by decide +kernel)) (by decide +kernel)
theorem jl_301 : (Cond.instanceMethod ⟨"TypeOrThing", "length", "()I"⟩ : Cond) ∈ jn_T := jn_of (List.mem_of_getElem? (i := 301) (by decide +kernel)) (by decide +kernel)
theorem jl_302 : (Cond.selects "TypeOrThing" ⟨"TypeOrThing", "length", "()I"⟩ ⟨"TypeOrThing", "length", "()I"⟩ : Cond) ∈ jn_T := jn_of (List.mem_of_getElem? (i := 302) (by decide +kernel)) (by decide +kernel)
theorem jl_303 : (Cond.code ⟨"TypeOrThing", "length", "()I"⟩ prog_1_method_11_code 1 (some .int) : Cond) ∈ jn_T := jn_of (List.mem_of_getElem? (i := 303) (by decide +kernel)) (by decide +kernel)
theorem jl_1287 : (Cond.methodLink "TypeOrThingLaw" 79 ⟨"TypeOrThingModel", "length", "()I"⟩ : Cond) ∈ jn_T := jn_of (List.mem_of_getElem? (i := 1287) (by decide +kernel)) (by decide +kernel)
theorem jl_1288 : (Cond.instanceMethod ⟨"TypeOrThingModel", "length", "()I"⟩ : Cond) ∈ jn_T := jn_of (List.mem_of_getElem? (i := 1288) (by decide +kernel)) (by decide +kernel)
theorem jl_1289 : (Cond.selects "TypeOrThingModel" ⟨"TypeOrThingModel", "length", "()I"⟩ ⟨"TypeOrThingModel", "length", "()I"⟩ : Cond) ∈ jn_T := jn_of (List.mem_of_getElem? (i := 1289) (by decide +kernel)) (by decide +kernel)
theorem jl_1290 : (Cond.code ⟨"TypeOrThingModel", "length", "()I"⟩ prog_10_method_77_code 1 (some .int) : Cond) ∈ jn_T := jn_of (List.mem_of_getElem? (i := 1290) (by decide +kernel)) (by decide +kernel)
theorem jl_284 : (Cond.methodLink "TypeOrThingLaw" 57 ⟨"TypeOrThing", "role", "(I)I"⟩ : Cond) ∈ jn_T := jn_of (List.mem_of_getElem? (i := 284) (by decide +kernel)) (by decide +kernel)
theorem jl_285 : (Cond.instanceMethod ⟨"TypeOrThing", "role", "(I)I"⟩ : Cond) ∈ jn_T := jn_of (List.mem_of_getElem? (i := 285) (by decide +kernel)) (by decide +kernel)
theorem jl_286 : (Cond.selects "TypeOrThing" ⟨"TypeOrThing", "role", "(I)I"⟩ ⟨"TypeOrThing", "role", "(I)I"⟩ : Cond) ∈ jn_T := jn_of (List.mem_of_getElem? (i := 286) (by decide +kernel)) (by decide +kernel)
theorem jl_287 : (Cond.code ⟨"TypeOrThing", "role", "(I)I"⟩ prog_1_method_6_code 2 (some .int) : Cond) ∈ jn_T := jn_of (List.mem_of_getElem? (i := 287) (by decide +kernel)) (by decide +kernel)
theorem jl_1263 : (Cond.methodLink "TypeOrThingLaw" 60 ⟨"TypeOrThingModel", "role", "(I)I"⟩ : Cond) ∈ jn_T := jn_of (List.mem_of_getElem? (i := 1263) (by decide +kernel)) (by decide +kernel)
theorem jl_1264 : (Cond.instanceMethod ⟨"TypeOrThingModel", "role", "(I)I"⟩ : Cond) ∈ jn_T := jn_of (List.mem_of_getElem? (i := 1264) (by decide +kernel)) (by decide +kernel)
theorem jl_1265 : (Cond.selects "TypeOrThingModel" ⟨"TypeOrThingModel", "role", "(I)I"⟩ ⟨"TypeOrThingModel", "role", "(I)I"⟩ : Cond) ∈ jn_T := jn_of (List.mem_of_getElem? (i := 1265) (by decide +kernel)) (by decide +kernel)
theorem jl_1266 : (Cond.code ⟨"TypeOrThingModel", "role", "(I)I"⟩ prog_10_method_72_code 2 (some .int) : Cond) ∈ jn_T := jn_of (List.mem_of_getElem? (i := 1266) (by decide +kernel)) (by decide +kernel)
theorem jl_292 : (Cond.methodLink "TypeOrThingLaw" 61 ⟨"TypeOrThing", "meaning", "(I)I"⟩ : Cond) ∈ jn_T := jn_of (List.mem_of_getElem? (i := 292) (by decide +kernel)) (by decide +kernel)
theorem jl_293 : (Cond.instanceMethod ⟨"TypeOrThing", "meaning", "(I)I"⟩ : Cond) ∈ jn_T := jn_of (List.mem_of_getElem? (i := 293) (by decide +kernel)) (by decide +kernel)
theorem jl_294 : (Cond.selects "TypeOrThing" ⟨"TypeOrThing", "meaning", "(I)I"⟩ ⟨"TypeOrThing", "meaning", "(I)I"⟩ : Cond) ∈ jn_T := jn_of (List.mem_of_getElem? (i := 294) (by decide +kernel)) (by decide +kernel)
theorem jl_295 : (Cond.code ⟨"TypeOrThing", "meaning", "(I)I"⟩ prog_1_method_7_code 2 (some .int) : Cond) ∈ jn_T := jn_of (List.mem_of_getElem? (i := 295) (by decide +kernel)) (by decide +kernel)
theorem jl_1271 : (Cond.methodLink "TypeOrThingLaw" 64 ⟨"TypeOrThingModel", "meaning", "(I)I"⟩ : Cond) ∈ jn_T := jn_of (List.mem_of_getElem? (i := 1271) (by decide +kernel)) (by decide +kernel)
theorem jl_1272 : (Cond.instanceMethod ⟨"TypeOrThingModel", "meaning", "(I)I"⟩ : Cond) ∈ jn_T := jn_of (List.mem_of_getElem? (i := 1272) (by decide +kernel)) (by decide +kernel)
theorem jl_1273 : (Cond.selects "TypeOrThingModel" ⟨"TypeOrThingModel", "meaning", "(I)I"⟩ ⟨"TypeOrThingModel", "meaning", "(I)I"⟩ : Cond) ∈ jn_T := jn_of (List.mem_of_getElem? (i := 1273) (by decide +kernel)) (by decide +kernel)
theorem jl_1274 : (Cond.code ⟨"TypeOrThingModel", "meaning", "(I)I"⟩ prog_10_method_73_code 2 (some .int) : Cond) ∈ jn_T := jn_of (List.mem_of_getElem? (i := 1274) (by decide +kernel)) (by decide +kernel)
theorem jl_1295 : (Cond.constantLong "TypeOrThingLaw" 32 (4294967295 : Int64) : Cond) ∈ jn_T := jn_of (List.mem_of_getElem? (i := 1295) (by decide +kernel)) (by decide +kernel)
theorem jl_265 : (Cond.methodLink "TypeOrThingLaw" 34 ⟨"TypeOrThing", "type", "(JI)Z"⟩ : Cond) ∈ jn_T := jn_of (List.mem_of_getElem? (i := 265) (by decide +kernel)) (by decide +kernel)
theorem jl_266 : (Cond.instanceMethod ⟨"TypeOrThing", "type", "(JI)Z"⟩ : Cond) ∈ jn_T := jn_of (List.mem_of_getElem? (i := 266) (by decide +kernel)) (by decide +kernel)
theorem jl_267 : (Cond.selects "TypeOrThing" ⟨"TypeOrThing", "type", "(JI)Z"⟩ ⟨"TypeOrThing", "type", "(JI)Z"⟩ : Cond) ∈ jn_T := jn_of (List.mem_of_getElem? (i := 267) (by decide +kernel)) (by decide +kernel)
theorem jl_268 : (Cond.code ⟨"TypeOrThing", "type", "(JI)Z"⟩ prog_1_method_2_code 5 (some .boolean) : Cond) ∈ jn_T := jn_of (List.mem_of_getElem? (i := 268) (by decide +kernel)) (by decide +kernel)
theorem jl_985 : (Cond.methodLink "TypeOrThingLaw" 38 ⟨"TypeOrThingModel", "type", "(JI)Z"⟩ : Cond) ∈ jn_T := jn_of (List.mem_of_getElem? (i := 985) (by decide +kernel)) (by decide +kernel)
theorem jl_986 : (Cond.instanceMethod ⟨"TypeOrThingModel", "type", "(JI)Z"⟩ : Cond) ∈ jn_T := jn_of (List.mem_of_getElem? (i := 986) (by decide +kernel)) (by decide +kernel)
theorem jl_987 : (Cond.selects "TypeOrThingModel" ⟨"TypeOrThingModel", "type", "(JI)Z"⟩ ⟨"TypeOrThingModel", "type", "(JI)Z"⟩ : Cond) ∈ jn_T := jn_of (List.mem_of_getElem? (i := 987) (by decide +kernel)) (by decide +kernel)
theorem jl_988 : (Cond.code ⟨"TypeOrThingModel", "type", "(JI)Z"⟩ prog_10_method_4_code 7 (some .boolean) : Cond) ∈ jn_T := jn_of (List.mem_of_getElem? (i := 988) (by decide +kernel)) (by decide +kernel)
theorem jl_276 : (Cond.methodLink "TypeOrThingLaw" 39 ⟨"TypeOrThing", "cut", "(I)Z"⟩ : Cond) ∈ jn_T := jn_of (List.mem_of_getElem? (i := 276) (by decide +kernel)) (by decide +kernel)
theorem jl_277 : (Cond.instanceMethod ⟨"TypeOrThing", "cut", "(I)Z"⟩ : Cond) ∈ jn_T := jn_of (List.mem_of_getElem? (i := 277) (by decide +kernel)) (by decide +kernel)
theorem jl_278 : (Cond.selects "TypeOrThing" ⟨"TypeOrThing", "cut", "(I)Z"⟩ ⟨"TypeOrThing", "cut", "(I)Z"⟩ : Cond) ∈ jn_T := jn_of (List.mem_of_getElem? (i := 278) (by decide +kernel)) (by decide +kernel)
theorem jl_279 : (Cond.code ⟨"TypeOrThing", "cut", "(I)Z"⟩ prog_1_method_3_code 2 (some .boolean) : Cond) ∈ jn_T := jn_of (List.mem_of_getElem? (i := 279) (by decide +kernel)) (by decide +kernel)
theorem jl_990 : (Cond.methodLink "TypeOrThingLaw" 43 ⟨"TypeOrThingModel", "cut", "(I)Z"⟩ : Cond) ∈ jn_T := jn_of (List.mem_of_getElem? (i := 990) (by decide +kernel)) (by decide +kernel)
theorem jl_991 : (Cond.instanceMethod ⟨"TypeOrThingModel", "cut", "(I)Z"⟩ : Cond) ∈ jn_T := jn_of (List.mem_of_getElem? (i := 991) (by decide +kernel)) (by decide +kernel)
theorem jl_992 : (Cond.selects "TypeOrThingModel" ⟨"TypeOrThingModel", "cut", "(I)Z"⟩ ⟨"TypeOrThingModel", "cut", "(I)Z"⟩ : Cond) ∈ jn_T := jn_of (List.mem_of_getElem? (i := 992) (by decide +kernel)) (by decide +kernel)
theorem jl_993 : (Cond.code ⟨"TypeOrThingModel", "cut", "(I)Z"⟩ prog_10_method_5_code 2 (some .boolean) : Cond) ∈ jn_T := jn_of (List.mem_of_getElem? (i := 993) (by decide +kernel)) (by decide +kernel)
theorem jl_815 : (Cond.codeWith ⟨"TypeOrThingLaw", "about", "(LTypeOrThing;II[J)I"⟩ method_4_code 5 (some .int) [(0, 10, 13, 19)] : Cond) ∈ jn_T := jn_of (List.mem_of_getElem? (i := 815) (by decide +kernel)) (by decide +kernel)
theorem jl_813 : (Cond.methodLink "TypeOrThingLaw" 69 ⟨"TypeOrThingLaw", "about", "(LTypeOrThing;II[J)I"⟩ : Cond) ∈ jn_T := jn_of (List.mem_of_getElem? (i := 813) (by decide +kernel)) (by decide +kernel)
theorem jl_814 : (Cond.static ⟨"TypeOrThingLaw", "about", "(LTypeOrThing;II[J)I"⟩ : Cond) ∈ jn_T := jn_of (List.mem_of_getElem? (i := 814) (by decide +kernel)) (by decide +kernel)
theorem jl_0 : (Cond.initialized "TypeOrThingLaw" : Cond) ∈ jn_T := jn_of (List.mem_of_getElem? (i := 0) (by decide +kernel)) (by decide +kernel)
theorem jl_1279 : (Cond.methodLink "TypeOrThingLaw" 72 ⟨"TypeOrThingModel", "about", "(II)I"⟩ : Cond) ∈ jn_T := jn_of (List.mem_of_getElem? (i := 1279) (by decide +kernel)) (by decide +kernel)
theorem jl_1280 : (Cond.instanceMethod ⟨"TypeOrThingModel", "about", "(II)I"⟩ : Cond) ∈ jn_T := jn_of (List.mem_of_getElem? (i := 1280) (by decide +kernel)) (by decide +kernel)
theorem jl_1281 : (Cond.selects "TypeOrThingModel" ⟨"TypeOrThingModel", "about", "(II)I"⟩ ⟨"TypeOrThingModel", "about", "(II)I"⟩ : Cond) ∈ jn_T := jn_of (List.mem_of_getElem? (i := 1281) (by decide +kernel)) (by decide +kernel)
theorem jl_1282 : (Cond.code ⟨"TypeOrThingModel", "about", "(II)I"⟩ prog_10_method_75_code 3 (some .int) : Cond) ∈ jn_T := jn_of (List.mem_of_getElem? (i := 1282) (by decide +kernel)) (by decide +kernel)
theorem jl_981 : (Cond.methodLink "TypeOrThingLaw" 50 ⟨"TypeOrThingModel", "thrown", "()I"⟩ : Cond) ∈ jn_T := jn_of (List.mem_of_getElem? (i := 981) (by decide +kernel)) (by decide +kernel)
theorem jl_982 : (Cond.instanceMethod ⟨"TypeOrThingModel", "thrown", "()I"⟩ : Cond) ∈ jn_T := jn_of (List.mem_of_getElem? (i := 982) (by decide +kernel)) (by decide +kernel)
theorem jl_983 : (Cond.selects "TypeOrThingModel" ⟨"TypeOrThingModel", "thrown", "()I"⟩ ⟨"TypeOrThingModel", "thrown", "()I"⟩ : Cond) ∈ jn_T := jn_of (List.mem_of_getElem? (i := 983) (by decide +kernel)) (by decide +kernel)
theorem jl_984 : (Cond.code ⟨"TypeOrThingModel", "thrown", "()I"⟩ prog_10_method_2_code 1 (some .int) : Cond) ∈ jn_T := jn_of (List.mem_of_getElem? (i := 984) (by decide +kernel)) (by decide +kernel)
theorem jl_841 : (Cond.codeWith ⟨"TypeOrThingLaw", "typeAt", "(LTypeOrThing;II[J)I"⟩ method_5_code 5 (some .int) [(0, 10, 13, 19)] : Cond) ∈ jn_T := jn_of (List.mem_of_getElem? (i := 841) (by decide +kernel)) (by decide +kernel)
theorem jl_839 : (Cond.methodLink "TypeOrThingLaw" 73 ⟨"TypeOrThingLaw", "typeAt", "(LTypeOrThing;II[J)I"⟩ : Cond) ∈ jn_T := jn_of (List.mem_of_getElem? (i := 839) (by decide +kernel)) (by decide +kernel)
theorem jl_840 : (Cond.static ⟨"TypeOrThingLaw", "typeAt", "(LTypeOrThing;II[J)I"⟩ : Cond) ∈ jn_T := jn_of (List.mem_of_getElem? (i := 840) (by decide +kernel)) (by decide +kernel)
theorem jl_1283 : (Cond.methodLink "TypeOrThingLaw" 75 ⟨"TypeOrThingModel", "typeAt", "(II)I"⟩ : Cond) ∈ jn_T := jn_of (List.mem_of_getElem? (i := 1283) (by decide +kernel)) (by decide +kernel)
theorem jl_1284 : (Cond.instanceMethod ⟨"TypeOrThingModel", "typeAt", "(II)I"⟩ : Cond) ∈ jn_T := jn_of (List.mem_of_getElem? (i := 1284) (by decide +kernel)) (by decide +kernel)
theorem jl_1285 : (Cond.selects "TypeOrThingModel" ⟨"TypeOrThingModel", "typeAt", "(II)I"⟩ ⟨"TypeOrThingModel", "typeAt", "(II)I"⟩ : Cond) ∈ jn_T := jn_of (List.mem_of_getElem? (i := 1285) (by decide +kernel)) (by decide +kernel)
theorem jl_1286 : (Cond.code ⟨"TypeOrThingModel", "typeAt", "(II)I"⟩ prog_10_method_76_code 3 (some .int) : Cond) ∈ jn_T := jn_of (List.mem_of_getElem? (i := 1286) (by decide +kernel)) (by decide +kernel)
theorem jl_849 : (Cond.codeWith ⟨"TypeOrThingLaw", "form", "(LTypeOrThing;I[J)I"⟩ method_6_code 4 (some .int) [(0, 9, 12, 19)] : Cond) ∈ jn_T := jn_of (List.mem_of_getElem? (i := 849) (by decide +kernel)) (by decide +kernel)
theorem jl_847 : (Cond.methodLink "TypeOrThingLaw" 80 ⟨"TypeOrThingLaw", "form", "(LTypeOrThing;I[J)I"⟩ : Cond) ∈ jn_T := jn_of (List.mem_of_getElem? (i := 847) (by decide +kernel)) (by decide +kernel)
theorem jl_848 : (Cond.static ⟨"TypeOrThingLaw", "form", "(LTypeOrThing;I[J)I"⟩ : Cond) ∈ jn_T := jn_of (List.mem_of_getElem? (i := 848) (by decide +kernel)) (by decide +kernel)
theorem jl_1291 : (Cond.methodLink "TypeOrThingLaw" 83 ⟨"TypeOrThingModel", "form", "(I)I"⟩ : Cond) ∈ jn_T := jn_of (List.mem_of_getElem? (i := 1291) (by decide +kernel)) (by decide +kernel)
theorem jl_1292 : (Cond.instanceMethod ⟨"TypeOrThingModel", "form", "(I)I"⟩ : Cond) ∈ jn_T := jn_of (List.mem_of_getElem? (i := 1292) (by decide +kernel)) (by decide +kernel)
theorem jl_1293 : (Cond.selects "TypeOrThingModel" ⟨"TypeOrThingModel", "form", "(I)I"⟩ ⟨"TypeOrThingModel", "form", "(I)I"⟩ : Cond) ∈ jn_T := jn_of (List.mem_of_getElem? (i := 1293) (by decide +kernel)) (by decide +kernel)
theorem jl_1294 : (Cond.code ⟨"TypeOrThingModel", "form", "(I)I"⟩ prog_10_method_78_code 2 (some .int) : Cond) ∈ jn_T := jn_of (List.mem_of_getElem? (i := 1294) (by decide +kernel)) (by decide +kernel)
theorem jl_306 : (Cond.codeWith ⟨"TypeOrThingLaw", "read", "(LTypeOrThing;[J)I"⟩ method_3_code 3 (some .int) [(0, 8, 11, 13)] : Cond) ∈ jn_T := jn_of (List.mem_of_getElem? (i := 306) (by decide +kernel)) (by decide +kernel)
theorem jl_304 : (Cond.methodLink "TypeOrThingLaw" 44 ⟨"TypeOrThingLaw", "read", "(LTypeOrThing;[J)I"⟩ : Cond) ∈ jn_T := jn_of (List.mem_of_getElem? (i := 304) (by decide +kernel)) (by decide +kernel)
theorem jl_305 : (Cond.static ⟨"TypeOrThingLaw", "read", "(LTypeOrThing;[J)I"⟩ : Cond) ∈ jn_T := jn_of (List.mem_of_getElem? (i := 305) (by decide +kernel)) (by decide +kernel)
theorem jl_994 : (Cond.methodLink "TypeOrThingLaw" 49 ⟨"TypeOrThingModel", "read", "()I"⟩ : Cond) ∈ jn_T := jn_of (List.mem_of_getElem? (i := 994) (by decide +kernel)) (by decide +kernel)
theorem jl_995 : (Cond.instanceMethod ⟨"TypeOrThingModel", "read", "()I"⟩ : Cond) ∈ jn_T := jn_of (List.mem_of_getElem? (i := 995) (by decide +kernel)) (by decide +kernel)
theorem jl_996 : (Cond.selects "TypeOrThingModel" ⟨"TypeOrThingModel", "read", "()I"⟩ ⟨"TypeOrThingModel", "read", "()I"⟩ : Cond) ∈ jn_T := jn_of (List.mem_of_getElem? (i := 996) (by decide +kernel)) (by decide +kernel)
theorem jl_997 : (Cond.code ⟨"TypeOrThingModel", "read", "()I"⟩ prog_10_method_69_code 3 (some .int) : Cond) ∈ jn_T := jn_of (List.mem_of_getElem? (i := 997) (by decide +kernel)) (by decide +kernel)
theorem lw_c0 (X : lX p l s m c D dA aC aR b L xs) (ht : 4 * t + 4 ≤ L) (hu : cV u wC) (hr : rV u wR) (hl : ja_has (fun q => q) ls 7 (lLo b (aC 0) (aR 0) ao (nI (4 * t)) k5 k6)) (hP : va_P D jn_cl (lcs dA aC aR ao wC wR f) H) (hD : va_D (fun q => s.heap.size ≤ q) (lcs dA aC aR ao wC wR f)) (hS : va_S (fun q => s.heap.size ≤ q) s.heap H locs) (hc : c0 + 2 ≤ 601024) (hs : s0 + 12 ≤ 7293034) (kk : lK p l e s m below meth c D dA aC aR b ao t c0 s0 Q) : W p l e room_1 s m #[Value.ref b] below meth c H locs c0 s0 Q (F0 m 96 ls []) := by
  obtain ⟨hC, hK, hzC, hzR, hX, hbl, hlt, hL⟩ := X
  obtain ⟨tx, tt, n, rl, mn, dc, frm⟩ := u
  have hx := hC.1
  have hb := hC.2.1
  have hown := hC.2.2.2.1
  have hts := hC.2.2.2.2
  have hA : ∀ q : Nat, s.heap.size ≤ q → s.heap.size ≤ q := fun _ h => h
  have hbA : ¬ s.heap.size ≤ b := by omega
  have h160 : tx.length ≤ 160 := hu.1.1.1
  have hn160 : n ≤ 160 := hu.2.2.1.2.1
  have h80 : dc.length ≤ 80 := hu.2.2.2.2.2.1
  have h640 : frm.length ≤ 640 := hu.2.2.2.1.2.1
  obtain ⟨IC, AC, JC⟩ := wC
  obtain ⟨IR, AR, JR⟩ := wR
  obtain ⟨I1, A1, J1, hE1, hu1⟩ := cv_0 (d := 0) hu (((xs (nI (4 * t) + 1).toNatClampNeg).toInt64 <<< ((32 : Int32).toInt64 &&& 63)) ||| ((xs (nI (4 * t) + 2).toNatClampNeg).toInt64 &&& 4294967295)) (xs (nI (4 * t) + 3).toNatClampNeg)
  obtain ⟨I2, A2, J2, hE2, hr2, _⟩ := rv_2 (d := 0) hr h160 (((xs (nI (4 * t) + 1).toNatClampNeg).toInt64 <<< ((32 : Int32).toInt64 &&& 63)) ||| ((xs (nI (4 * t) + 2).toNatClampNeg).toInt64 &&& 4294967295)) (xs (nI (4 * t) + 3).toNatClampNeg)
  refine lv_aload_n hx hb dw_96 rfl (hl.2.2 1 (.ref (aC 0)) rfl) ?_
  refine lv_aload_n hx hb dw_97 rfl (hl.2.2 0 (.ref b) rfl) ?_
  refine lv_iload hx hb dw_98 (hl.2.2 4 (.int _) rfl) ?_
  refine lv_iconst (v := 1) hx hb dw_100 (by decide) ?_
  refine lv_iadd hx hb dw_101 ?_
  refine va_sld hx hb hX hbl hbA hS (l_in1 ht hL) dw_102 ?_
  refine lv_i2l hx hb dw_103 rfl ?_
  refine lv_bipush (v := 32) hx hb dw_104 (by decide) ?_
  refine lv_lshl hx hb dw_106 rfl ?_
  refine lv_aload_n hx hb dw_107 rfl (hl.2.2 0 (.ref b) rfl) ?_
  refine lv_iload hx hb dw_108 (hl.2.2 4 (.int _) rfl) ?_
  refine lv_iconst (v := 2) hx hb dw_110 (by decide) ?_
  refine lv_iadd hx hb dw_111 ?_
  refine va_sld hx hb hX hbl hbA hS (l_in2 ht hL) dw_112 ?_
  refine lv_i2l hx hb dw_113 rfl ?_
  refine lv_ldc2 hx hb hown (hts _ jl_1295) dw_114 ?_
  refine lv_land hx hb dw_117 ?_
  refine lv_lor hx hb dw_118 ?_
  refine lv_aload_n hx hb dw_119 rfl (hl.2.2 0 (.ref b) rfl) ?_
  refine lv_iload hx hb dw_120 (hl.2.2 4 (.int _) rfl) ?_
  refine lv_iconst (v := 3) hx hb dw_122 (by decide) ?_
  refine lv_iadd hx hb dw_123 ?_
  refine va_sld hx hb hX hbl hbA hS (l_in3 ht hL) dw_124 ?_
  refine l_V (ad := aC) (A := fun q => s.heap.size ≤ q) (As := [.long (((xs (nI (4 * t) + 1).toNatClampNeg).toInt64 <<< ((32 : Int32).toInt64 &&& 63)) ||| ((xs (nI (4 * t) + 2).toNatClampNeg).toInt64 &&& 4294967295)), .int (xs (nI (4 * t) + 3).toNatClampNeg)]) (rest := []) (wc := ja_ws dA aC jl_c (IC, AC, JC) ++ (ja_ws dA aR jl_r (IR, AR, JR) ++ [(ao, .inl (dA 2, 1, .inr (.inl (f))))])) (mc := 0) (ms := 0) hC hK hzC hA (ci := 1) (na := 2) rfl rfl (lM_fr (lM_of (jc_sound l hlt D dA aC 2 0 _ _ _ _ hE1))) (l_lt (ja_wsAt _ (q := 0) rfl)) (jn_gV jl_265 jl_266 jl_267 jl_1 jl_268) (by decide +kernel) rfl rfl ⟨by show 12 + 2 + 1 ≤ 2048; decide, by show 8 + (5 + 11) + (300 + 40 * 2) ≤ 84000; decide⟩ dw_125 rfl hl.1 (Nat.le_of_ble_eq_true rfl) ⟨by show _ + 0 ≤ 601024; omega, by show _ + 0 ≤ 7293034; omega⟩ hP hD hS (fun H1 locs1 hP1 hD1 hS1 => ?_)
  refine lv_aload_n hx hb dw_128 rfl (hl.2.2 2 (.ref (aR 0)) rfl) ?_
  refine lv_aload_n hx hb dw_129 rfl (hl.2.2 0 (.ref b) rfl) ?_
  refine lv_iload hx hb dw_130 (hl.2.2 4 (.int _) rfl) ?_
  refine lv_iconst (v := 1) hx hb dw_132 (by decide) ?_
  refine lv_iadd hx hb dw_133 ?_
  refine va_sld hx hb hX hbl hbA hS1 (l_in1 ht hL) dw_134 ?_
  refine lv_i2l hx hb dw_135 rfl ?_
  refine lv_bipush (v := 32) hx hb dw_136 (by decide) ?_
  refine lv_lshl hx hb dw_138 rfl ?_
  refine lv_aload_n hx hb dw_139 rfl (hl.2.2 0 (.ref b) rfl) ?_
  refine lv_iload hx hb dw_140 (hl.2.2 4 (.int _) rfl) ?_
  refine lv_iconst (v := 2) hx hb dw_142 (by decide) ?_
  refine lv_iadd hx hb dw_143 ?_
  refine va_sld hx hb hX hbl hbA hS1 (l_in2 ht hL) dw_144 ?_
  refine lv_i2l hx hb dw_145 rfl ?_
  refine lv_ldc2 hx hb hown (hts _ jl_1295) dw_146 ?_
  refine lv_land hx hb dw_149 ?_
  refine lv_lor hx hb dw_150 ?_
  refine lv_aload_n hx hb dw_151 rfl (hl.2.2 0 (.ref b) rfl) ?_
  refine lv_iload hx hb dw_152 (hl.2.2 4 (.int _) rfl) ?_
  refine lv_iconst (v := 3) hx hb dw_154 (by decide) ?_
  refine lv_iadd hx hb dw_155 ?_
  refine va_sld hx hb hX hbl hbA hS1 (l_in3 ht hL) dw_156 ?_
  refine l_V (ad := aR) (A := fun q => s.heap.size ≤ q) (As := [.long (((xs (nI (4 * t) + 1).toNatClampNeg).toInt64 <<< ((32 : Int32).toInt64 &&& 63)) ||| ((xs (nI (4 * t) + 2).toNatClampNeg).toInt64 &&& 4294967295)), .int (xs (nI (4 * t) + 3).toNatClampNeg)]) (rest := [.int _]) (wc := ja_ws dA aR jl_r (IR, AR, JR) ++ (ja_ws dA aC jl_c (I1, A1, J1) ++ [(ao, .inl (dA 2, 1, .inr (.inl (f))))])) (mc := 0) (ms := 0) hC hK hzR hA (ci := 0) (na := 2) rfl rfl (lM_fr (lM_of (jr_sound l hlt D dA aR 1 2 _ _ _ _ hE2))) (l_lt (ja_wsAt _ (q := 0) rfl)) (jn_gV jl_985 jl_986 jl_987 jl_9 jl_988) (by decide +kernel) rfl rfl ⟨by show 12 + 1 + 1 ≤ 2048; decide, by show 8 + (7 + 11) + (300 + 40 * 1) ≤ 84000; decide⟩ dw_157 rfl hl.1 (Nat.le_of_ble_eq_true rfl) ⟨by show _ + 0 ≤ 601024; omega, by show _ + 0 ≤ 7293034; omega⟩ (lP_sw hP1) (lD_sw hD1) hS1 (fun H2 locs2 hP2 hD2 hS2 => ?_)
  have hP2 := lP_sw hP2
  have hD2 := lD_sw hD2
  refine lv_icmp_eq hx hb dw_160 (tgt := 515) (by decide) (fun _ => ?_) (fun h => absurd rfl h)
  exact W.widen (by omega) (by omega) (kk _ _ _ _ _ _ _ _ _ hu1 hr2 hl hP2 hD2 hS2)
theorem lw_c1 (X : lX p l s m c D dA aC aR b L xs) (ht : 4 * t + 4 ≤ L) (hu : cV u wC) (hr : rV u wR) (hl : ja_has (fun q => q) ls 7 (lLo b (aC 0) (aR 0) ao (nI (4 * t)) k5 k6)) (hP : va_P D jn_cl (lcs dA aC aR ao wC wR f) H) (hD : va_D (fun q => s.heap.size ≤ q) (lcs dA aC aR ao wC wR f)) (hS : va_S (fun q => s.heap.size ≤ q) s.heap H locs) (hc : c0 + 2 ≤ 601024) (hs : s0 + 12 ≤ 7293034) (kk : lK p l e s m below meth c D dA aC aR b ao t c0 s0 Q) : W p l e room_1 s m #[Value.ref b] below meth c H locs c0 s0 Q (F0 m 165 ls []) := by
  obtain ⟨hC, hK, hzC, hzR, hX, hbl, hlt, hL⟩ := X
  obtain ⟨tx, tt, n, rl, mn, dc, frm⟩ := u
  have hx := hC.1
  have hb := hC.2.1
  have hown := hC.2.2.2.1
  have hts := hC.2.2.2.2
  have hA : ∀ q : Nat, s.heap.size ≤ q → s.heap.size ≤ q := fun _ h => h
  have hbA : ¬ s.heap.size ≤ b := by omega
  have h160 : tx.length ≤ 160 := hu.1.1.1
  have hn160 : n ≤ 160 := hu.2.2.1.2.1
  have h80 : dc.length ≤ 80 := hu.2.2.2.2.2.1
  have h640 : frm.length ≤ 640 := hu.2.2.2.1.2.1
  obtain ⟨IC, AC, JC⟩ := wC
  obtain ⟨IR, AR, JR⟩ := wR
  obtain ⟨I1, A1, J1, hE1, hu1⟩ := cv_1 (d := 0) hu (xs (nI (4 * t) + 1).toNatClampNeg)
  obtain ⟨I2, A2, J2, hE2, hr2, _⟩ := rv_3 (d := 0) hr h160 (xs (nI (4 * t) + 1).toNatClampNeg)
  refine lv_aload_n hx hb dw_165 rfl (hl.2.2 1 (.ref (aC 0)) rfl) ?_
  refine lv_aload_n hx hb dw_166 rfl (hl.2.2 0 (.ref b) rfl) ?_
  refine lv_iload hx hb dw_167 (hl.2.2 4 (.int _) rfl) ?_
  refine lv_iconst (v := 1) hx hb dw_169 (by decide) ?_
  refine lv_iadd hx hb dw_170 ?_
  refine va_sld hx hb hX hbl hbA hS (l_in1 ht hL) dw_171 ?_
  refine l_V (ad := aC) (A := fun q => s.heap.size ≤ q) (As := [.int (xs (nI (4 * t) + 1).toNatClampNeg)]) (rest := []) (wc := ja_ws dA aC jl_c (IC, AC, JC) ++ (ja_ws dA aR jl_r (IR, AR, JR) ++ [(ao, .inl (dA 2, 1, .inr (.inl (f))))])) (mc := 0) (ms := 0) hC hK hzC hA (ci := 1) (na := 1) rfl rfl (lM_fr (lM_of (jc_sound l hlt D dA aC 1 1 _ _ _ _ hE1))) (l_lt (ja_wsAt _ (q := 0) rfl)) (jn_gV jl_276 jl_277 jl_278 jl_1 jl_279) (by decide +kernel) rfl rfl ⟨by show 12 + 1 + 1 ≤ 2048; decide, by show 8 + (2 + 11) + (300 + 40 * 1) ≤ 84000; decide⟩ dw_172 rfl hl.1 (Nat.le_of_ble_eq_true rfl) ⟨by show _ + 0 ≤ 601024; omega, by show _ + 0 ≤ 7293034; omega⟩ hP hD hS (fun H1 locs1 hP1 hD1 hS1 => ?_)
  refine lv_aload_n hx hb dw_175 rfl (hl.2.2 2 (.ref (aR 0)) rfl) ?_
  refine lv_aload_n hx hb dw_176 rfl (hl.2.2 0 (.ref b) rfl) ?_
  refine lv_iload hx hb dw_177 (hl.2.2 4 (.int _) rfl) ?_
  refine lv_iconst (v := 1) hx hb dw_179 (by decide) ?_
  refine lv_iadd hx hb dw_180 ?_
  refine va_sld hx hb hX hbl hbA hS1 (l_in1 ht hL) dw_181 ?_
  refine l_V (ad := aR) (A := fun q => s.heap.size ≤ q) (As := [.int (xs (nI (4 * t) + 1).toNatClampNeg)]) (rest := [.int _]) (wc := ja_ws dA aR jl_r (IR, AR, JR) ++ (ja_ws dA aC jl_c (I1, A1, J1) ++ [(ao, .inl (dA 2, 1, .inr (.inl (f))))])) (mc := 0) (ms := 0) hC hK hzR hA (ci := 0) (na := 1) rfl rfl (lM_fr (lM_of (jr_sound l hlt D dA aR 1 3 _ _ _ _ hE2))) (l_lt (ja_wsAt _ (q := 0) rfl)) (jn_gV jl_990 jl_991 jl_992 jl_9 jl_993) (by decide +kernel) rfl rfl ⟨by show 12 + 1 + 1 ≤ 2048; decide, by show 8 + (2 + 11) + (300 + 40 * 1) ≤ 84000; decide⟩ dw_182 rfl hl.1 (Nat.le_of_ble_eq_true rfl) ⟨by show _ + 0 ≤ 601024; omega, by show _ + 0 ≤ 7293034; omega⟩ (lP_sw hP1) (lD_sw hD1) hS1 (fun H2 locs2 hP2 hD2 hS2 => ?_)
  have hP2 := lP_sw hP2
  have hD2 := lD_sw hD2
  refine lv_icmp_eq hx hb dw_185 (tgt := 515) (by decide) (fun _ => ?_) (fun h => absurd rfl h)
  exact W.widen (by omega) (by omega) (kk _ _ _ _ _ _ _ _ _ hu1 hr2 hl hP2 hD2 hS2)
/-- read's contract -/
theorem l_rd {l : Launch} (hlt : l.stackTraces = false) {D : va_G} {dA : Nat → ClassId} {ad : Nat → Nat} {o : ja_O} {w w' : ja_w} (h : crd o w w') : jf_Met l D dA ad jl_c yc_2 (Cond.code yc_2 cc_2 1 (some .int) :: jn_T) 88 [.ref 0] w o w' := by
  refine jf_2 (CC := jCr) (d := 87) hlt (fun as w v w1 h => ?_) (fun as w v w1 h => ?_) h
  · rcases h with ⟨_, h⟩ | ⟨h, _⟩
    · exact jc_sound l hlt D dA ad 87 24 as w (.inl v) w1 h
    · exact absurd h (by decide)
  · rcases h with ⟨h, _⟩ | ⟨_, h1, h2⟩
    · exact absurd h (by decide)
    · subst h1
      exact jf_76 (d := 86) hlt (jc_sound l hlt D dA ad 86) h2
theorem l_rdM {l : Launch} (hlt : l.stackTraces = false) {D : va_G} {dA : Nat → ClassId} {ad : Nat → Nat} {v : Option Value} {w w' : ja_w} (h : crd (.inl v) w w') : lM l D dA ad yc_2 (wc_f 2) (jf_ro 88 (.inl v)) [.ref (ad 0)] (ja_ws dA ad jl_c w) (v.map (ja_tv ad)) (ja_ws dA ad jl_c w') 1 6 := l_rd hlt h
theorem l_rdT {l : Launch} (hlt : l.stackTraces = false) {D : va_G} {dA : Nat → ClassId} {ad : Nat → Nat} {x : Nat} {w w' : ja_w} (h : crd (.inr x) w w') : lT x l D dA ad yc_2 (wc_f 2) (jf_ro 88 (.inr x)) [.ref (ad 0)] (ja_ws dA ad jl_c w) (ja_ws dA ad jl_c w') 2 12 := l_rd hlt h
theorem lw_c2 (X : lX p l s m c D dA aC aR b L xs) (ht : 4 * t + 4 ≤ L) (hu : cV u wC) (hr : rV u wR) (hl : ja_has (fun q => q) ls 7 (lLo b (aC 0) (aR 0) ao (nI (4 * t)) k5 k6)) (hP : va_P D jn_cl (lcs dA aC aR ao wC wR f) H) (hD : va_D (fun q => s.heap.size ≤ q) (lcs dA aC aR ao wC wR f)) (hS : va_S (fun q => s.heap.size ≤ q) s.heap H locs) (hc : c0 + 2 ≤ 601024) (hs : s0 + 12 ≤ 7293034) (kk : lK p l e s m below meth c D dA aC aR b ao t c0 s0 Q) : W p l e room_1 s m #[Value.ref b] below meth c H locs c0 s0 Q (F0 m 190 ls []) := by
  obtain ⟨hC, hK, hzC, hzR, hX, hbl, hlt, hL⟩ := X
  obtain ⟨tx, tt, n, rl, mn, dc, frm⟩ := u
  have hx := hC.1
  have hb := hC.2.1
  have hown := hC.2.2.2.1
  have hts := hC.2.2.2.2
  have hA : ∀ q : Nat, s.heap.size ≤ q → s.heap.size ≤ q := fun _ h => h
  have hbA : ¬ s.heap.size ≤ b := by omega
  have h160 : tx.length ≤ 160 := hu.1.1.1
  have hn160 : n ≤ 160 := hu.2.2.1.2.1
  have h80 : dc.length ≤ 80 := hu.2.2.2.2.2.1
  have h640 : frm.length ≤ 640 := hu.2.2.2.1.2.1
  obtain ⟨IC, AC, JC⟩ := wC
  obtain ⟨IR, AR, JR⟩ := wR
  obtain ⟨x, hx9⟩ := prog_x (tx := tx) hu.1.1
  obtain ⟨z2, ⟨I2, A2, J2⟩, hE2, hr2⟩ := rv_rd (d := 0) hr hu.1.1 hx9
  obtain ⟨o, ⟨I1, A1, J1⟩, hE1, hu1⟩ := cv_rd hu hx9 (fun p hp => by subst hp; exact hr2.2.2.1)
  cases x with
  | inl p9 =>
    obtain ⟨rfl, e0, _, hr3⟩ := hr2
    obtain ⟨rfl, hu3⟩ := hu1
    refine lv_aload_n hx hb dw_190 rfl (hl.2.2 1 (.ref (aC 0)) rfl) ?_
    refine lv_aload_n hx hb dw_191 rfl (hl.2.2 3 (.ref ao) rfl) ?_
    refine l_S (ad := aC) (A := fun q => s.heap.size ≤ q) (As := [.ref (aC 0), .ref ao]) (rest := []) (wc := (ja_ws dA aC jl_c (IC, AC, JC) ++ [(ao, .inl (dA 2, 1, .inr (.inl (f))))]) ++ ja_ws dA aR jl_r (IR, AR, JR)) (mc := 2) (ms := 12) hC hK hzC hA (na := 2) (y := yl_3) (wj := wl_3) rfl (lM_fr (lh_3t (d := 88) (ja_wsAt _ (q := 0) rfl) (l_rdT hlt hE1) ⟨rfl, rfl, rfl, rfl⟩)) (l_gW jl_306) jl_304 jl_305 jl_0 (by decide +kernel) rfl rfl ⟨by show 14 + 88 + 1 ≤ 2048; decide, by show 8 + (3 + 11) + (400 + 40 * 88) ≤ 84000; decide⟩ dw_192 rfl hl.1 (Nat.le_of_ble_eq_true rfl) ⟨by show _ + 2 ≤ 601024; omega, by show _ + 12 ≤ 7293034; omega⟩ (lP_s2 hP) (lD_s2 hD) hS (fun H1 locs1 hP1 hD1 hS1 => ?_)
    have hP1 := lP_s3 hP1
    have hD1 := lD_s3 hD1
    refine lv_istore hx hb dw_195 (ja_lv hl) (by decide) rfl (fun ls2 hq2 => ?_)
    have hl2 := ja_s1 (v := .int 1) rfl hq2
    refine lv_aload_n hx hb dw_197 rfl (hl2.2.2 2 (.ref (aR 0)) rfl) ?_
    refine l_V (ad := aR) (A := fun q => s.heap.size ≤ q) (As := []) (rest := []) (wc := ja_ws dA aR jl_r (IR, AR, JR) ++ (ja_ws dA aC jl_c (I1, A1, J1) ++ [(ao, .inl (dA 2, 1, .inr (.inl (f))))])) (mc := 0) (ms := 0) hC hK hzR hA (ci := 0) (na := 0) rfl rfl (lM_fr (lM_of (jr_sound l hlt D dA aR 10 67 _ _ _ _ hE2))) (l_lt (ja_wsAt _ (q := 0) rfl)) (jn_gV jl_994 jl_995 jl_996 jl_9 jl_997) (by decide +kernel) rfl rfl ⟨by show 12 + 10 + 1 ≤ 2048; decide, by show 8 + (3 + 11) + (300 + 40 * 10) ≤ 84000; decide⟩ dw_198 rfl hl2.1 (Nat.le_of_ble_eq_true rfl) ⟨by show _ + 0 ≤ 601024; omega, by show _ + 0 ≤ 7293034; omega⟩ (lP_sw hP1) (lD_sw hD1) hS1 (fun H3 locs3 hP3 hD3 hS3 => ?_)
    have hP3 := lP_sw hP3
    have hD3 := lD_sw hD3
    refine lv_istore hx hb dw_201 (ja_lv hl2) (by decide) rfl (fun ls4 hq4 => ?_)
    have hl4 := ja_s1 (v := .int 0) rfl hq4
    refine lv_aload_n hx hb dw_203 rfl (hl4.2.2 2 (.ref (aR 0)) rfl) ?_
    refine l_V (ad := aR) (A := fun q => s.heap.size ≤ q) (As := []) (rest := []) (wc := ja_ws dA aR jl_r (I2, A2, J2) ++ (ja_ws dA aC jl_c (I1, A1, J1) ++ [(ao, .inl (dA 2, 1, .inr (.inl (f))))])) (mc := 0) (ms := 0) hC hK hzR hA (ci := 0) (na := 0) rfl rfl (lM_fr (lM_of (jr_sound l hlt D dA aR 1 0 _ _ _ _ (rv_0 (d := 0))))) (l_lt (ja_wsAt _ (q := 0) rfl)) (jn_gV jl_981 jl_982 jl_983 jl_9 jl_984) (by decide +kernel) rfl rfl ⟨by show 12 + 1 + 1 ≤ 2048; decide, by show 8 + (1 + 11) + (300 + 40 * 1) ≤ 84000; decide⟩ dw_204 rfl hl4.1 (Nat.le_of_ble_eq_true rfl) ⟨by show _ + 0 ≤ 601024; omega, by show _ + 0 ≤ 7293034; omega⟩ (lP_sw hP3) (lD_sw hD3) hS3 (fun H5 locs5 hP5 hD5 hS5 => ?_)
    have hP5 := lP_sw hP5
    have hD5 := lD_sw hD5
    refine lv_iload hx hb dw_207 (hl4.2.2 5 (.int _) rfl) ?_
    refine lv_icmp_eq hx hb dw_209 (tgt := 214) (by decide) (fun _ => ?_) (fun h => absurd e0 h)
    refine lv_iload hx hb dw_214 (hl4.2.2 5 (.int _) rfl) ?_
    refine lv_if_ne hx hb dw_216 (tgt := 231) (by decide) (fun _ => ?_) (fun h => absurd h (by decide))
    refine lv_goto hx hb dw_231 (tgt := 515) (by decide) ?_
    exact W.widen (by omega) (by omega) (kk _ _ _ _ _ _ _ _ _ hu3 hr3 hl4 hP5 hD5 hS5)
  | inr y9 =>
    obtain ⟨e9, e0, hr3⟩ := hr2
    obtain ⟨rfl, hu3⟩ := hu1
    subst e9
    refine lv_aload_n hx hb dw_190 rfl (hl.2.2 1 (.ref (aC 0)) rfl) ?_
    refine lv_aload_n hx hb dw_191 rfl (hl.2.2 3 (.ref ao) rfl) ?_
    refine l_S (ad := aC) (A := fun q => s.heap.size ≤ q) (As := [.ref (aC 0), .ref ao]) (rest := []) (wc := (ja_ws dA aC jl_c (IC, AC, JC) ++ [(ao, .inl (dA 2, 1, .inr (.inl (f))))]) ++ ja_ws dA aR jl_r (IR, AR, JR)) (mc := 1) (ms := 6) hC hK hzC hA (na := 2) (y := yl_3) (wj := wl_3) rfl (lM_fr (lh_3r (d := 88) (ja_wsAt _ (q := 0) rfl) (l_rdM hlt hE1) ⟨rfl, rfl, rfl, rfl⟩)) (l_gW jl_306) jl_304 jl_305 jl_0 (by decide +kernel) rfl rfl ⟨by show 14 + 88 + 1 ≤ 2048; decide, by show 8 + (3 + 11) + (400 + 40 * 88) ≤ 84000; decide⟩ dw_192 rfl hl.1 (Nat.le_of_ble_eq_true rfl) ⟨by show _ + 1 ≤ 601024; omega, by show _ + 6 ≤ 7293034; omega⟩ (lP_s2 hP) (lD_s2 hD) hS (fun H1 locs1 hP1 hD1 hS1 => ?_)
    have hP1 := lP_s3 hP1
    have hD1 := lD_s3 hD1
    refine lv_istore hx hb dw_195 (ja_lv hl) (by decide) rfl (fun ls2 hq2 => ?_)
    have hl2 := ja_s1 (v := .int 0) rfl hq2
    refine lv_aload_n hx hb dw_197 rfl (hl2.2.2 2 (.ref (aR 0)) rfl) ?_
    refine l_V (ad := aR) (A := fun q => s.heap.size ≤ q) (As := []) (rest := []) (wc := ja_ws dA aR jl_r (IR, AR, JR) ++ (ja_ws dA aC jl_c (I1, A1, J1) ++ [(ao, .inl (dA 2, 1, .inr (.inl (vp_updL f (0 : Int32).toNatClampNeg (nI (tsOf (sk ([], false) tx).1).length).toInt64))))])) (mc := 0) (ms := 0) hC hK hzR hA (ci := 0) (na := 0) rfl rfl (lM_fr (lM_of (jr_sound l hlt D dA aR 10 67 _ _ _ _ hE2))) (l_lt (ja_wsAt _ (q := 0) rfl)) (jn_gV jl_994 jl_995 jl_996 jl_9 jl_997) (by decide +kernel) rfl rfl ⟨by show 12 + 10 + 1 ≤ 2048; decide, by show 8 + (3 + 11) + (300 + 40 * 10) ≤ 84000; decide⟩ dw_198 rfl hl2.1 (Nat.le_of_ble_eq_true rfl) ⟨by show _ + 0 ≤ 601024; omega, by show _ + 0 ≤ 7293034; omega⟩ (lP_sw hP1) (lD_sw hD1) hS1 (fun H3 locs3 hP3 hD3 hS3 => ?_)
    have hP3 := lP_sw hP3
    have hD3 := lD_sw hD3
    refine lv_istore hx hb dw_201 (ja_lv hl2) (by decide) rfl (fun ls4 hq4 => ?_)
    have hl4 := ja_s1 (v := .int (nI (tsOf (sk ([], false) tx).1).length)) rfl hq4
    refine lv_aload_n hx hb dw_203 rfl (hl4.2.2 2 (.ref (aR 0)) rfl) ?_
    refine l_V (ad := aR) (A := fun q => s.heap.size ≤ q) (As := []) (rest := []) (wc := ja_ws dA aR jl_r (I2, A2, J2) ++ (ja_ws dA aC jl_c (I1, A1, J1) ++ [(ao, .inl (dA 2, 1, .inr (.inl (vp_updL f (0 : Int32).toNatClampNeg (nI (tsOf (sk ([], false) tx).1).length).toInt64))))])) (mc := 0) (ms := 0) hC hK hzR hA (ci := 0) (na := 0) rfl rfl (lM_fr (lM_of (jr_sound l hlt D dA aR 1 0 _ _ _ _ (rv_0 (d := 0))))) (l_lt (ja_wsAt _ (q := 0) rfl)) (jn_gV jl_981 jl_982 jl_983 jl_9 jl_984) (by decide +kernel) rfl rfl ⟨by show 12 + 1 + 1 ≤ 2048; decide, by show 8 + (1 + 11) + (300 + 40 * 1) ≤ 84000; decide⟩ dw_204 rfl hl4.1 (Nat.le_of_ble_eq_true rfl) ⟨by show _ + 0 ≤ 601024; omega, by show _ + 0 ≤ 7293034; omega⟩ (lP_sw hP3) (lD_sw hD3) hS3 (fun H5 locs5 hP5 hD5 hS5 => ?_)
    have hP5 := lP_sw hP5
    have hD5 := lD_sw hD5
    refine lv_iload hx hb dw_207 (hl4.2.2 5 (.int _) rfl) ?_
    refine lv_icmp_eq hx hb dw_209 (tgt := 214) (by decide) (fun _ => ?_) (fun h => absurd e0 h)
    refine lv_iload hx hb dw_214 (hl4.2.2 5 (.int _) rfl) ?_
    refine lv_if_ne hx hb dw_216 (tgt := 231) (by decide) (fun h => absurd rfl h) (fun _ => ?_)
    refine lv_aload_n hx hb dw_219 rfl (hl4.2.2 3 (.ref ao) rfl) ?_
    refine lv_iconst (v := 0) hx hb dw_220 (by decide) ?_
    refine va_lald hx hb hK hP5 _ 2 (l_rt l_at) rfl (vp_in_nI (n := 0) (N := 1) (by decide) (by decide)) dw_221 ?_
    rw [l_upd]
    refine lv_iload hx hb dw_222 (hl4.2.2 6 (.int _) rfl) ?_
    refine lv_i2l hx hb dw_224 rfl ?_
    refine W.lcmp hx hb dw_225 ?_
    refine lv_if_eq hx hb dw_226 (tgt := 231) (by decide) (fun _ => ?_) (fun h => absurd ((lg_cmp_eq _ _).mpr rfl) h)
    refine lv_goto hx hb dw_231 (tgt := 515) (by decide) ?_
    exact W.widen (by omega) (by omega) (kk _ _ _ _ _ _ _ _ _ hu3 hr3 hl4 hP5 hD5 hS5)
theorem lw_c3 (X : lX p l s m c D dA aC aR b L xs) (ht : 4 * t + 4 ≤ L) (hu : cV u wC) (hr : rV u wR) (hl : ja_has (fun q => q) ls 7 (lLo b (aC 0) (aR 0) ao (nI (4 * t)) k5 k6)) (hP : va_P D jn_cl (lcs dA aC aR ao wC wR f) H) (hD : va_D (fun q => s.heap.size ≤ q) (lcs dA aC aR ao wC wR f)) (hS : va_S (fun q => s.heap.size ≤ q) s.heap H locs) (hc : c0 + 2 ≤ 601024) (hs : s0 + 12 ≤ 7293034) (kk : lK p l e s m below meth c D dA aC aR b ao t c0 s0 Q) : W p l e room_1 s m #[Value.ref b] below meth c H locs c0 s0 Q (F0 m 234 ls []) := by
  obtain ⟨hC, hK, hzC, hzR, hX, hbl, hlt, hL⟩ := X
  obtain ⟨tx, tt, n, rl, mn, dc, frm⟩ := u
  have hx := hC.1
  have hb := hC.2.1
  have hown := hC.2.2.2.1
  have hts := hC.2.2.2.2
  have hA : ∀ q : Nat, s.heap.size ≤ q → s.heap.size ≤ q := fun _ h => h
  have hbA : ¬ s.heap.size ≤ b := by omega
  have h160 : tx.length ≤ 160 := hu.1.1.1
  have hn160 : n ≤ 160 := hu.2.2.1.2.1
  have h80 : dc.length ≤ 80 := hu.2.2.2.2.2.1
  have h640 : frm.length ≤ 640 := hu.2.2.2.1.2.1
  obtain ⟨IC, AC, JC⟩ := wC
  obtain ⟨IR, AR, JR⟩ := wR
  refine lv_aload_n hx hb dw_234 rfl (hl.2.2 1 (.ref (aC 0)) rfl) ?_
  refine l_V (ad := aC) (A := fun q => s.heap.size ≤ q) (As := []) (rest := []) (wc := ja_ws dA aC jl_c (IC, AC, JC) ++ (ja_ws dA aR jl_r (IR, AR, JR) ++ [(ao, .inl (dA 2, 1, .inr (.inl (f))))])) (mc := 0) (ms := 0) hC hK hzC hA (ci := 1) (na := 0) rfl rfl (lM_fr (lM_of (jc_sound l hlt D dA aC 1 3 _ _ _ _ (cv_3 (d := 0) hu)))) (l_lt (ja_wsAt _ (q := 0) rfl)) (jn_gV jl_280 jl_281 jl_282 jl_1 jl_283) (by decide +kernel) rfl rfl ⟨by show 12 + 1 + 1 ≤ 2048; decide, by show 8 + (1 + 11) + (300 + 40 * 1) ≤ 84000; decide⟩ dw_235 rfl hl.1 (Nat.le_of_ble_eq_true rfl) ⟨by show _ + 0 ≤ 601024; omega, by show _ + 0 ≤ 7293034; omega⟩ hP hD hS (fun H1 locs1 hP1 hD1 hS1 => ?_)
  refine lv_aload_n hx hb dw_238 rfl (hl.2.2 2 (.ref (aR 0)) rfl) ?_
  refine l_V (ad := aR) (A := fun q => s.heap.size ≤ q) (As := []) (rest := [.int _]) (wc := ja_ws dA aR jl_r (IR, AR, JR) ++ (ja_ws dA aC jl_c (IC, AC, JC) ++ [(ao, .inl (dA 2, 1, .inr (.inl (f))))])) (mc := 0) (ms := 0) hC hK hzR hA (ci := 0) (na := 0) rfl rfl (lM_fr (lM_of (jr_sound l hlt D dA aR 1 68 _ _ _ _ (rv_68 (d := 0) hr)))) (l_lt (ja_wsAt _ (q := 0) rfl)) (jn_gV jl_1259 jl_1260 jl_1261 jl_9 jl_1262) (by decide +kernel) rfl rfl ⟨by show 12 + 1 + 1 ≤ 2048; decide, by show 8 + (1 + 11) + (300 + 40 * 1) ≤ 84000; decide⟩ dw_239 rfl hl.1 (Nat.le_of_ble_eq_true rfl) ⟨by show _ + 0 ≤ 601024; omega, by show _ + 0 ≤ 7293034; omega⟩ (lP_sw hP1) (lD_sw hD1) hS1 (fun H2 locs2 hP2 hD2 hS2 => ?_)
  have hP2 := lP_sw hP2
  have hD2 := lD_sw hD2
  refine lv_icmp_eq hx hb dw_242 (tgt := 515) (by decide) (fun _ => ?_) (fun h => absurd rfl h)
  exact W.widen (by omega) (by omega) (kk _ _ _ _ _ _ _ _ _ hu (rV_0 hr) hl hP2 hD2 hS2)
theorem lw_c4 (X : lX p l s m c D dA aC aR b L xs) (ht : 4 * t + 4 ≤ L) (hu : cV u wC) (hr : rV u wR) (hl : ja_has (fun q => q) ls 7 (lLo b (aC 0) (aR 0) ao (nI (4 * t)) k5 k6)) (hP : va_P D jn_cl (lcs dA aC aR ao wC wR f) H) (hD : va_D (fun q => s.heap.size ≤ q) (lcs dA aC aR ao wC wR f)) (hS : va_S (fun q => s.heap.size ≤ q) s.heap H locs) (hc : c0 + 2 ≤ 601024) (hs : s0 + 12 ≤ 7293034) (kk : lK p l e s m below meth c D dA aC aR b ao t c0 s0 Q) : W p l e room_1 s m #[Value.ref b] below meth c H locs c0 s0 Q (F0 m 247 ls []) := by
  obtain ⟨hC, hK, hzC, hzR, hX, hbl, hlt, hL⟩ := X
  obtain ⟨tx, tt, n, rl, mn, dc, frm⟩ := u
  have hx := hC.1
  have hb := hC.2.1
  have hown := hC.2.2.2.1
  have hts := hC.2.2.2.2
  have hA : ∀ q : Nat, s.heap.size ≤ q → s.heap.size ≤ q := fun _ h => h
  have hbA : ¬ s.heap.size ≤ b := by omega
  have h160 : tx.length ≤ 160 := hu.1.1.1
  have hn160 : n ≤ 160 := hu.2.2.1.2.1
  have h80 : dc.length ≤ 80 := hu.2.2.2.2.2.1
  have h640 : frm.length ≤ 640 := hu.2.2.2.1.2.1
  obtain ⟨IC, AC, JC⟩ := wC
  obtain ⟨IR, AR, JR⟩ := wR
  refine lv_aload_n hx hb dw_247 rfl (hl.2.2 1 (.ref (aC 0)) rfl) ?_
  refine lv_aload_n hx hb dw_248 rfl (hl.2.2 0 (.ref b) rfl) ?_
  refine lv_iload hx hb dw_249 (hl.2.2 4 (.int _) rfl) ?_
  refine lv_iconst (v := 1) hx hb dw_251 (by decide) ?_
  refine lv_iadd hx hb dw_252 ?_
  refine va_sld hx hb hX hbl hbA hS (l_in1 ht hL) dw_253 ?_
  refine l_V (ad := aC) (A := fun q => s.heap.size ≤ q) (As := [.int (xs (nI (4 * t) + 1).toNatClampNeg)]) (rest := []) (wc := ja_ws dA aC jl_c (IC, AC, JC) ++ (ja_ws dA aR jl_r (IR, AR, JR) ++ [(ao, .inl (dA 2, 1, .inr (.inl (f))))])) (mc := 0) (ms := 0) hC hK hzC hA (ci := 1) (na := 1) rfl rfl (lM_fr (lM_of (jc_sound l hlt D dA aC 2 4 _ _ _ _ (cv_4 (d := 0) hu _)))) (l_lt (ja_wsAt _ (q := 0) rfl)) (jn_gV jl_284 jl_285 jl_286 jl_1 jl_287) (by decide +kernel) rfl rfl ⟨by show 12 + 2 + 1 ≤ 2048; decide, by show 8 + (2 + 11) + (300 + 40 * 2) ≤ 84000; decide⟩ dw_254 rfl hl.1 (Nat.le_of_ble_eq_true rfl) ⟨by show _ + 0 ≤ 601024; omega, by show _ + 0 ≤ 7293034; omega⟩ hP hD hS (fun H1 locs1 hP1 hD1 hS1 => ?_)
  refine lv_aload_n hx hb dw_257 rfl (hl.2.2 2 (.ref (aR 0)) rfl) ?_
  refine lv_aload_n hx hb dw_258 rfl (hl.2.2 0 (.ref b) rfl) ?_
  refine lv_iload hx hb dw_259 (hl.2.2 4 (.int _) rfl) ?_
  refine lv_iconst (v := 1) hx hb dw_261 (by decide) ?_
  refine lv_iadd hx hb dw_262 ?_
  refine va_sld hx hb hX hbl hbA hS1 (l_in1 ht hL) dw_263 ?_
  refine l_V (ad := aR) (A := fun q => s.heap.size ≤ q) (As := [.int (xs (nI (4 * t) + 1).toNatClampNeg)]) (rest := [.int _]) (wc := ja_ws dA aR jl_r (IR, AR, JR) ++ (ja_ws dA aC jl_c (IC, AC, JC) ++ [(ao, .inl (dA 2, 1, .inr (.inl (f))))])) (mc := 0) (ms := 0) hC hK hzR hA (ci := 0) (na := 1) rfl rfl (lM_fr (lM_of (jr_sound l hlt D dA aR 2 70 _ _ _ _ (rv_70 (d := 0) hr hn160 _)))) (l_lt (ja_wsAt _ (q := 0) rfl)) (jn_gV jl_1263 jl_1264 jl_1265 jl_9 jl_1266) (by decide +kernel) rfl rfl ⟨by show 12 + 2 + 1 ≤ 2048; decide, by show 8 + (2 + 11) + (300 + 40 * 2) ≤ 84000; decide⟩ dw_264 rfl hl.1 (Nat.le_of_ble_eq_true rfl) ⟨by show _ + 0 ≤ 601024; omega, by show _ + 0 ≤ 7293034; omega⟩ (lP_sw hP1) (lD_sw hD1) hS1 (fun H2 locs2 hP2 hD2 hS2 => ?_)
  have hP2 := lP_sw hP2
  have hD2 := lD_sw hD2
  refine lv_icmp_eq hx hb dw_267 (tgt := 515) (by decide) (fun _ => ?_) (fun h => absurd rfl h)
  exact W.widen (by omega) (by omega) (kk _ _ _ _ _ _ _ _ _ hu (rV_0 hr) hl hP2 hD2 hS2)
theorem lw_c5 (X : lX p l s m c D dA aC aR b L xs) (ht : 4 * t + 4 ≤ L) (hu : cV u wC) (hr : rV u wR) (hl : ja_has (fun q => q) ls 7 (lLo b (aC 0) (aR 0) ao (nI (4 * t)) k5 k6)) (hP : va_P D jn_cl (lcs dA aC aR ao wC wR f) H) (hD : va_D (fun q => s.heap.size ≤ q) (lcs dA aC aR ao wC wR f)) (hS : va_S (fun q => s.heap.size ≤ q) s.heap H locs) (hc : c0 + 2 ≤ 601024) (hs : s0 + 12 ≤ 7293034) (kk : lK p l e s m below meth c D dA aC aR b ao t c0 s0 Q) : W p l e room_1 s m #[Value.ref b] below meth c H locs c0 s0 Q (F0 m 272 ls []) := by
  obtain ⟨hC, hK, hzC, hzR, hX, hbl, hlt, hL⟩ := X
  obtain ⟨tx, tt, n, rl, mn, dc, frm⟩ := u
  have hx := hC.1
  have hb := hC.2.1
  have hown := hC.2.2.2.1
  have hts := hC.2.2.2.2
  have hA : ∀ q : Nat, s.heap.size ≤ q → s.heap.size ≤ q := fun _ h => h
  have hbA : ¬ s.heap.size ≤ b := by omega
  have h160 : tx.length ≤ 160 := hu.1.1.1
  have hn160 : n ≤ 160 := hu.2.2.1.2.1
  have h80 : dc.length ≤ 80 := hu.2.2.2.2.2.1
  have h640 : frm.length ≤ 640 := hu.2.2.2.1.2.1
  obtain ⟨IC, AC, JC⟩ := wC
  obtain ⟨IR, AR, JR⟩ := wR
  refine lv_aload_n hx hb dw_272 rfl (hl.2.2 1 (.ref (aC 0)) rfl) ?_
  refine lv_aload_n hx hb dw_273 rfl (hl.2.2 0 (.ref b) rfl) ?_
  refine lv_iload hx hb dw_274 (hl.2.2 4 (.int _) rfl) ?_
  refine lv_iconst (v := 1) hx hb dw_276 (by decide) ?_
  refine lv_iadd hx hb dw_277 ?_
  refine va_sld hx hb hX hbl hbA hS (l_in1 ht hL) dw_278 ?_
  refine l_V (ad := aC) (A := fun q => s.heap.size ≤ q) (As := [.int (xs (nI (4 * t) + 1).toNatClampNeg)]) (rest := []) (wc := ja_ws dA aC jl_c (IC, AC, JC) ++ (ja_ws dA aR jl_r (IR, AR, JR) ++ [(ao, .inl (dA 2, 1, .inr (.inl (f))))])) (mc := 0) (ms := 0) hC hK hzC hA (ci := 1) (na := 1) rfl rfl (lM_fr (lM_of (jc_sound l hlt D dA aC 2 5 _ _ _ _ (cv_5 (d := 0) hu _)))) (l_lt (ja_wsAt _ (q := 0) rfl)) (jn_gV jl_292 jl_293 jl_294 jl_1 jl_295) (by decide +kernel) rfl rfl ⟨by show 12 + 2 + 1 ≤ 2048; decide, by show 8 + (2 + 11) + (300 + 40 * 2) ≤ 84000; decide⟩ dw_279 rfl hl.1 (Nat.le_of_ble_eq_true rfl) ⟨by show _ + 0 ≤ 601024; omega, by show _ + 0 ≤ 7293034; omega⟩ hP hD hS (fun H1 locs1 hP1 hD1 hS1 => ?_)
  refine lv_aload_n hx hb dw_282 rfl (hl.2.2 2 (.ref (aR 0)) rfl) ?_
  refine lv_aload_n hx hb dw_283 rfl (hl.2.2 0 (.ref b) rfl) ?_
  refine lv_iload hx hb dw_284 (hl.2.2 4 (.int _) rfl) ?_
  refine lv_iconst (v := 1) hx hb dw_286 (by decide) ?_
  refine lv_iadd hx hb dw_287 ?_
  refine va_sld hx hb hX hbl hbA hS1 (l_in1 ht hL) dw_288 ?_
  refine l_V (ad := aR) (A := fun q => s.heap.size ≤ q) (As := [.int (xs (nI (4 * t) + 1).toNatClampNeg)]) (rest := [.int _]) (wc := ja_ws dA aR jl_r (IR, AR, JR) ++ (ja_ws dA aC jl_c (IC, AC, JC) ++ [(ao, .inl (dA 2, 1, .inr (.inl (f))))])) (mc := 0) (ms := 0) hC hK hzR hA (ci := 0) (na := 1) rfl rfl (lM_fr (lM_of (jr_sound l hlt D dA aR 2 71 _ _ _ _ (rv_71 (d := 0) hr hn160 _)))) (l_lt (ja_wsAt _ (q := 0) rfl)) (jn_gV jl_1271 jl_1272 jl_1273 jl_9 jl_1274) (by decide +kernel) rfl rfl ⟨by show 12 + 2 + 1 ≤ 2048; decide, by show 8 + (2 + 11) + (300 + 40 * 2) ≤ 84000; decide⟩ dw_289 rfl hl.1 (Nat.le_of_ble_eq_true rfl) ⟨by show _ + 0 ≤ 601024; omega, by show _ + 0 ≤ 7293034; omega⟩ (lP_sw hP1) (lD_sw hD1) hS1 (fun H2 locs2 hP2 hD2 hS2 => ?_)
  have hP2 := lP_sw hP2
  have hD2 := lD_sw hD2
  refine lv_icmp_eq hx hb dw_292 (tgt := 515) (by decide) (fun _ => ?_) (fun h => absurd rfl h)
  exact W.widen (by omega) (by omega) (kk _ _ _ _ _ _ _ _ _ hu (rV_0 hr) hl hP2 hD2 hS2)
theorem lw_c6 (X : lX p l s m c D dA aC aR b L xs) (ht : 4 * t + 4 ≤ L) (hu : cV u wC) (hr : rV u wR) (hl : ja_has (fun q => q) ls 7 (lLo b (aC 0) (aR 0) ao (nI (4 * t)) k5 k6)) (hP : va_P D jn_cl (lcs dA aC aR ao wC wR f) H) (hD : va_D (fun q => s.heap.size ≤ q) (lcs dA aC aR ao wC wR f)) (hS : va_S (fun q => s.heap.size ≤ q) s.heap H locs) (hc : c0 + 2 ≤ 601024) (hs : s0 + 12 ≤ 7293034) (kk : lK p l e s m below meth c D dA aC aR b ao t c0 s0 Q) : W p l e room_1 s m #[Value.ref b] below meth c H locs c0 s0 Q (F0 m 297 ls []) := by
  obtain ⟨hC, hK, hzC, hzR, hX, hbl, hlt, hL⟩ := X
  obtain ⟨tx, tt, n, rl, mn, dc, frm⟩ := u
  have hx := hC.1
  have hb := hC.2.1
  have hown := hC.2.2.2.1
  have hts := hC.2.2.2.2
  have hA : ∀ q : Nat, s.heap.size ≤ q → s.heap.size ≤ q := fun _ h => h
  have hbA : ¬ s.heap.size ≤ b := by omega
  have h160 : tx.length ≤ 160 := hu.1.1.1
  have hn160 : n ≤ 160 := hu.2.2.1.2.1
  have h80 : dc.length ≤ 80 := hu.2.2.2.2.2.1
  have h640 : frm.length ≤ 640 := hu.2.2.2.1.2.1
  obtain ⟨IC, AC, JC⟩ := wC
  obtain ⟨IR, AR, JR⟩ := wR
  refine lv_aload_n hx hb dw_297 rfl (hl.2.2 1 (.ref (aC 0)) rfl) ?_
  refine l_V (ad := aC) (A := fun q => s.heap.size ≤ q) (As := []) (rest := []) (wc := ja_ws dA aC jl_c (IC, AC, JC) ++ (ja_ws dA aR jl_r (IR, AR, JR) ++ [(ao, .inl (dA 2, 1, .inr (.inl (f))))])) (mc := 0) (ms := 0) hC hK hzC hA (ci := 1) (na := 0) rfl rfl (lM_fr (lM_of (jc_sound l hlt D dA aC 1 6 _ _ _ _ (cv_6 (d := 0) hu)))) (l_lt (ja_wsAt _ (q := 0) rfl)) (jn_gV jl_296 jl_297 jl_298 jl_1 jl_299) (by decide +kernel) rfl rfl ⟨by show 12 + 1 + 1 ≤ 2048; decide, by show 8 + (1 + 11) + (300 + 40 * 1) ≤ 84000; decide⟩ dw_298 rfl hl.1 (Nat.le_of_ble_eq_true rfl) ⟨by show _ + 0 ≤ 601024; omega, by show _ + 0 ≤ 7293034; omega⟩ hP hD hS (fun H1 locs1 hP1 hD1 hS1 => ?_)
  refine lv_aload_n hx hb dw_301 rfl (hl.2.2 2 (.ref (aR 0)) rfl) ?_
  refine l_V (ad := aR) (A := fun q => s.heap.size ≤ q) (As := []) (rest := [.int _]) (wc := ja_ws dA aR jl_r (IR, AR, JR) ++ (ja_ws dA aC jl_c (IC, AC, JC) ++ [(ao, .inl (dA 2, 1, .inr (.inl (f))))])) (mc := 0) (ms := 0) hC hK hzR hA (ci := 0) (na := 0) rfl rfl (lM_fr (lM_of (jr_sound l hlt D dA aR 1 72 _ _ _ _ (rv_72 (d := 0) hr)))) (l_lt (ja_wsAt _ (q := 0) rfl)) (jn_gV jl_1275 jl_1276 jl_1277 jl_9 jl_1278) (by decide +kernel) rfl rfl ⟨by show 12 + 1 + 1 ≤ 2048; decide, by show 8 + (1 + 11) + (300 + 40 * 1) ≤ 84000; decide⟩ dw_302 rfl hl.1 (Nat.le_of_ble_eq_true rfl) ⟨by show _ + 0 ≤ 601024; omega, by show _ + 0 ≤ 7293034; omega⟩ (lP_sw hP1) (lD_sw hD1) hS1 (fun H2 locs2 hP2 hD2 hS2 => ?_)
  have hP2 := lP_sw hP2
  have hD2 := lD_sw hD2
  refine lv_icmp_eq hx hb dw_305 (tgt := 515) (by decide) (fun _ => ?_) (fun h => absurd rfl h)
  exact W.widen (by omega) (by omega) (kk _ _ _ _ _ _ _ _ _ hu (rV_0 hr) hl hP2 hD2 hS2)
theorem lw_c7 (X : lX p l s m c D dA aC aR b L xs) (ht : 4 * t + 4 ≤ L) (hu : cV u wC) (hr : rV u wR) (hl : ja_has (fun q => q) ls 7 (lLo b (aC 0) (aR 0) ao (nI (4 * t)) k5 k6)) (hP : va_P D jn_cl (lcs dA aC aR ao wC wR f) H) (hD : va_D (fun q => s.heap.size ≤ q) (lcs dA aC aR ao wC wR f)) (hS : va_S (fun q => s.heap.size ≤ q) s.heap H locs) (hc : c0 + 2 ≤ 601024) (hs : s0 + 12 ≤ 7293034) (kk : lK p l e s m below meth c D dA aC aR b ao t c0 s0 Q) : W p l e room_1 s m #[Value.ref b] below meth c H locs c0 s0 Q (F0 m 310 ls []) := by
  obtain ⟨hC, hK, hzC, hzR, hX, hbl, hlt, hL⟩ := X
  obtain ⟨tx, tt, n, rl, mn, dc, frm⟩ := u
  have hx := hC.1
  have hb := hC.2.1
  have hown := hC.2.2.2.1
  have hts := hC.2.2.2.2
  have hA : ∀ q : Nat, s.heap.size ≤ q → s.heap.size ≤ q := fun _ h => h
  have hbA : ¬ s.heap.size ≤ b := by omega
  have h160 : tx.length ≤ 160 := hu.1.1.1
  have hn160 : n ≤ 160 := hu.2.2.1.2.1
  have h80 : dc.length ≤ 80 := hu.2.2.2.2.2.1
  have h640 : frm.length ≤ 640 := hu.2.2.2.1.2.1
  obtain ⟨IC, AC, JC⟩ := wC
  obtain ⟨IR, AR, JR⟩ := wR
  have hE1 := cv_7 (d := 0) hu (xs (nI (4 * t) + 1).toNatClampNeg) (xs (nI (4 * t) + 2).toNatClampNeg)
  have hE2 := rv_73 (d := 0) hr h80 (xs (nI (4 * t) + 1).toNatClampNeg) (xs (nI (4 * t) + 2).toNatClampNeg)
  cases hq : a_ab dc (xs (nI (4 * t) + 1).toNatClampNeg) (xs (nI (4 * t) + 2).toNatClampNeg) with
  | none =>
    rw [hq] at hE1 hE2
    refine lv_aload_n hx hb dw_310 rfl (hl.2.2 1 (.ref (aC 0)) rfl) ?_
    refine lv_aload_n hx hb dw_311 rfl (hl.2.2 0 (.ref b) rfl) ?_
    refine lv_iload hx hb dw_312 (hl.2.2 4 (.int _) rfl) ?_
    refine lv_iconst (v := 1) hx hb dw_314 (by decide) ?_
    refine lv_iadd hx hb dw_315 ?_
    refine va_sld hx hb hX hbl hbA hS (l_in1 ht hL) dw_316 ?_
    refine lv_aload_n hx hb dw_317 rfl (hl.2.2 0 (.ref b) rfl) ?_
    refine lv_iload hx hb dw_318 (hl.2.2 4 (.int _) rfl) ?_
    refine lv_iconst (v := 2) hx hb dw_320 (by decide) ?_
    refine lv_iadd hx hb dw_321 ?_
    refine va_sld hx hb hX hbl hbA hS (l_in2 ht hL) dw_322 ?_
    refine lv_aload_n hx hb dw_323 rfl (hl.2.2 3 (.ref ao) rfl) ?_
    refine l_S (ad := aC) (A := fun q => s.heap.size ≤ q) (As := [.ref (aC 0), .int (xs (nI (4 * t) + 1).toNatClampNeg), .int (xs (nI (4 * t) + 2).toNatClampNeg), .ref ao]) (rest := []) (wc := (ja_ws dA aC jl_c (IC, AC, JC) ++ [(ao, .inl (dA 2, 1, .inr (.inl (f))))]) ++ ja_ws dA aR jl_r (IR, AR, JR)) (mc := 1) (ms := 6) hC hK hzC hA (na := 4) (y := yl_4) (wj := wl_4) rfl (lM_fr (lh_4t (d := 2) (ja_wsAt _ (q := 0) rfl) (lT_of (jc_sound l hlt D dA aC 2 7 _ _ _ _ hE1)) ⟨rfl, rfl, rfl, rfl⟩)) (l_gW jl_815) jl_813 jl_814 jl_0 (by decide +kernel) rfl rfl ⟨by show 14 + 2 + 1 ≤ 2048; decide, by show 8 + (5 + 11) + (400 + 40 * 2) ≤ 84000; decide⟩ dw_324 rfl hl.1 (Nat.le_of_ble_eq_true rfl) ⟨by show _ + 1 ≤ 601024; omega, by show _ + 6 ≤ 7293034; omega⟩ (lP_s2 hP) (lD_s2 hD) hS (fun H1 locs1 hP1 hD1 hS1 => ?_)
    have hP1 := lP_s3 hP1
    have hD1 := lD_s3 hD1
    refine lv_istore hx hb dw_327 (ja_lv hl) (by decide) rfl (fun ls2 hq2 => ?_)
    have hl2 := ja_s1 (v := .int 1) rfl hq2
    refine lv_aload_n hx hb dw_329 rfl (hl2.2.2 2 (.ref (aR 0)) rfl) ?_
    refine lv_aload_n hx hb dw_330 rfl (hl2.2.2 0 (.ref b) rfl) ?_
    refine lv_iload hx hb dw_331 (hl2.2.2 4 (.int _) rfl) ?_
    refine lv_iconst (v := 1) hx hb dw_333 (by decide) ?_
    refine lv_iadd hx hb dw_334 ?_
    refine va_sld hx hb hX hbl hbA hS1 (l_in1 ht hL) dw_335 ?_
    refine lv_aload_n hx hb dw_336 rfl (hl2.2.2 0 (.ref b) rfl) ?_
    refine lv_iload hx hb dw_337 (hl2.2.2 4 (.int _) rfl) ?_
    refine lv_iconst (v := 2) hx hb dw_339 (by decide) ?_
    refine lv_iadd hx hb dw_340 ?_
    refine va_sld hx hb hX hbl hbA hS1 (l_in2 ht hL) dw_341 ?_
    refine l_V (ad := aR) (A := fun q => s.heap.size ≤ q) (As := [.int (xs (nI (4 * t) + 1).toNatClampNeg), .int (xs (nI (4 * t) + 2).toNatClampNeg)]) (rest := []) (wc := ja_ws dA aR jl_r (IR, AR, JR) ++ (ja_ws dA aC jl_c (IC, AC, JC) ++ [(ao, .inl (dA 2, 1, .inr (.inl (f))))])) (mc := 0) (ms := 0) hC hK hzR hA (ci := 0) (na := 2) rfl rfl (lM_fr (lM_of (jr_sound l hlt D dA aR 1 73 _ _ _ _ hE2))) (l_lt (ja_wsAt _ (q := 0) rfl)) (jn_gV jl_1279 jl_1280 jl_1281 jl_9 jl_1282) (by decide +kernel) rfl rfl ⟨by show 12 + 1 + 1 ≤ 2048; decide, by show 8 + (3 + 11) + (300 + 40 * 1) ≤ 84000; decide⟩ dw_342 rfl hl2.1 (Nat.le_of_ble_eq_true rfl) ⟨by show _ + 0 ≤ 601024; omega, by show _ + 0 ≤ 7293034; omega⟩ (lP_sw hP1) (lD_sw hD1) hS1 (fun H3 locs3 hP3 hD3 hS3 => ?_)
    have hP3 := lP_sw hP3
    have hD3 := lD_sw hD3
    refine lv_istore hx hb dw_345 (ja_lv hl2) (by decide) rfl (fun ls4 hq4 => ?_)
    have hl4 := ja_s1 (v := .int 0) rfl hq4
    refine lv_aload_n hx hb dw_347 rfl (hl4.2.2 2 (.ref (aR 0)) rfl) ?_
    refine l_V (ad := aR) (A := fun q => s.heap.size ≤ q) (As := []) (rest := []) (wc := ja_ws dA aR jl_r (ja_up IR 0 0 1, AR, JR) ++ (ja_ws dA aC jl_c (IC, AC, JC) ++ [(ao, .inl (dA 2, 1, .inr (.inl (f))))])) (mc := 0) (ms := 0) hC hK hzR hA (ci := 0) (na := 0) rfl rfl (lM_fr (lM_of (jr_sound l hlt D dA aR 1 0 _ _ _ _ (rv_0 (d := 0))))) (l_lt (ja_wsAt _ (q := 0) rfl)) (jn_gV jl_981 jl_982 jl_983 jl_9 jl_984) (by decide +kernel) rfl rfl ⟨by show 12 + 1 + 1 ≤ 2048; decide, by show 8 + (1 + 11) + (300 + 40 * 1) ≤ 84000; decide⟩ dw_348 rfl hl4.1 (Nat.le_of_ble_eq_true rfl) ⟨by show _ + 0 ≤ 601024; omega, by show _ + 0 ≤ 7293034; omega⟩ (lP_sw hP3) (lD_sw hD3) hS3 (fun H5 locs5 hP5 hD5 hS5 => ?_)
    have hP5 := lP_sw hP5
    have hD5 := lD_sw hD5
    refine lv_iload hx hb dw_351 (hl4.2.2 5 (.int _) rfl) ?_
    refine lv_icmp_eq hx hb dw_353 (tgt := 358) (by decide) (fun _ => ?_) (fun h => absurd rfl h)
    refine lv_iload hx hb dw_358 (hl4.2.2 5 (.int _) rfl) ?_
    refine lv_if_ne hx hb dw_360 (tgt := 375) (by decide) (fun _ => ?_) (fun h => absurd h (by decide))
    refine lv_goto hx hb dw_375 (tgt := 515) (by decide) ?_
    exact W.widen (by omega) (by omega) (kk _ _ _ _ _ _ _ _ _ hu (rV_0 hr) hl4 hP5 hD5 hS5)
  | some z =>
    rw [hq] at hE1 hE2
    refine lv_aload_n hx hb dw_310 rfl (hl.2.2 1 (.ref (aC 0)) rfl) ?_
    refine lv_aload_n hx hb dw_311 rfl (hl.2.2 0 (.ref b) rfl) ?_
    refine lv_iload hx hb dw_312 (hl.2.2 4 (.int _) rfl) ?_
    refine lv_iconst (v := 1) hx hb dw_314 (by decide) ?_
    refine lv_iadd hx hb dw_315 ?_
    refine va_sld hx hb hX hbl hbA hS (l_in1 ht hL) dw_316 ?_
    refine lv_aload_n hx hb dw_317 rfl (hl.2.2 0 (.ref b) rfl) ?_
    refine lv_iload hx hb dw_318 (hl.2.2 4 (.int _) rfl) ?_
    refine lv_iconst (v := 2) hx hb dw_320 (by decide) ?_
    refine lv_iadd hx hb dw_321 ?_
    refine va_sld hx hb hX hbl hbA hS (l_in2 ht hL) dw_322 ?_
    refine lv_aload_n hx hb dw_323 rfl (hl.2.2 3 (.ref ao) rfl) ?_
    refine l_S (ad := aC) (A := fun q => s.heap.size ≤ q) (As := [.ref (aC 0), .int (xs (nI (4 * t) + 1).toNatClampNeg), .int (xs (nI (4 * t) + 2).toNatClampNeg), .ref ao]) (rest := []) (wc := (ja_ws dA aC jl_c (IC, AC, JC) ++ [(ao, .inl (dA 2, 1, .inr (.inl (f))))]) ++ ja_ws dA aR jl_r (IR, AR, JR)) (mc := 0) (ms := 0) hC hK hzC hA (na := 4) (y := yl_4) (wj := wl_4) rfl (lM_fr (lh_4r (d := 2) (ja_wsAt _ (q := 0) rfl) (lM_of (jc_sound l hlt D dA aC 2 7 _ _ _ _ hE1)) ⟨rfl, rfl, rfl, rfl⟩)) (l_gW jl_815) jl_813 jl_814 jl_0 (by decide +kernel) rfl rfl ⟨by show 14 + 2 + 1 ≤ 2048; decide, by show 8 + (5 + 11) + (400 + 40 * 2) ≤ 84000; decide⟩ dw_324 rfl hl.1 (Nat.le_of_ble_eq_true rfl) ⟨by show _ + 0 ≤ 601024; omega, by show _ + 0 ≤ 7293034; omega⟩ (lP_s2 hP) (lD_s2 hD) hS (fun H1 locs1 hP1 hD1 hS1 => ?_)
    have hP1 := lP_s3 hP1
    have hD1 := lD_s3 hD1
    refine lv_istore hx hb dw_327 (ja_lv hl) (by decide) rfl (fun ls2 hq2 => ?_)
    have hl2 := ja_s1 (v := .int 0) rfl hq2
    refine lv_aload_n hx hb dw_329 rfl (hl2.2.2 2 (.ref (aR 0)) rfl) ?_
    refine lv_aload_n hx hb dw_330 rfl (hl2.2.2 0 (.ref b) rfl) ?_
    refine lv_iload hx hb dw_331 (hl2.2.2 4 (.int _) rfl) ?_
    refine lv_iconst (v := 1) hx hb dw_333 (by decide) ?_
    refine lv_iadd hx hb dw_334 ?_
    refine va_sld hx hb hX hbl hbA hS1 (l_in1 ht hL) dw_335 ?_
    refine lv_aload_n hx hb dw_336 rfl (hl2.2.2 0 (.ref b) rfl) ?_
    refine lv_iload hx hb dw_337 (hl2.2.2 4 (.int _) rfl) ?_
    refine lv_iconst (v := 2) hx hb dw_339 (by decide) ?_
    refine lv_iadd hx hb dw_340 ?_
    refine va_sld hx hb hX hbl hbA hS1 (l_in2 ht hL) dw_341 ?_
    refine l_V (ad := aR) (A := fun q => s.heap.size ≤ q) (As := [.int (xs (nI (4 * t) + 1).toNatClampNeg), .int (xs (nI (4 * t) + 2).toNatClampNeg)]) (rest := []) (wc := ja_ws dA aR jl_r (IR, AR, JR) ++ (ja_ws dA aC jl_c (IC, AC, JC) ++ [(ao, .inl (dA 2, 1, .inr (.inl (vp_updL f (0 : Int32).toNatClampNeg z.toInt64))))])) (mc := 0) (ms := 0) hC hK hzR hA (ci := 0) (na := 2) rfl rfl (lM_fr (lM_of (jr_sound l hlt D dA aR 1 73 _ _ _ _ hE2))) (l_lt (ja_wsAt _ (q := 0) rfl)) (jn_gV jl_1279 jl_1280 jl_1281 jl_9 jl_1282) (by decide +kernel) rfl rfl ⟨by show 12 + 1 + 1 ≤ 2048; decide, by show 8 + (3 + 11) + (300 + 40 * 1) ≤ 84000; decide⟩ dw_342 rfl hl2.1 (Nat.le_of_ble_eq_true rfl) ⟨by show _ + 0 ≤ 601024; omega, by show _ + 0 ≤ 7293034; omega⟩ (lP_sw hP1) (lD_sw hD1) hS1 (fun H3 locs3 hP3 hD3 hS3 => ?_)
    have hP3 := lP_sw hP3
    have hD3 := lD_sw hD3
    refine lv_istore hx hb dw_345 (ja_lv hl2) (by decide) rfl (fun ls4 hq4 => ?_)
    have hl4 := ja_s1 (v := .int z) rfl hq4
    refine lv_aload_n hx hb dw_347 rfl (hl4.2.2 2 (.ref (aR 0)) rfl) ?_
    refine l_V (ad := aR) (A := fun q => s.heap.size ≤ q) (As := []) (rest := []) (wc := ja_ws dA aR jl_r (ja_up IR 0 0 0, AR, JR) ++ (ja_ws dA aC jl_c (IC, AC, JC) ++ [(ao, .inl (dA 2, 1, .inr (.inl (vp_updL f (0 : Int32).toNatClampNeg z.toInt64))))])) (mc := 0) (ms := 0) hC hK hzR hA (ci := 0) (na := 0) rfl rfl (lM_fr (lM_of (jr_sound l hlt D dA aR 1 0 _ _ _ _ (rv_0 (d := 0))))) (l_lt (ja_wsAt _ (q := 0) rfl)) (jn_gV jl_981 jl_982 jl_983 jl_9 jl_984) (by decide +kernel) rfl rfl ⟨by show 12 + 1 + 1 ≤ 2048; decide, by show 8 + (1 + 11) + (300 + 40 * 1) ≤ 84000; decide⟩ dw_348 rfl hl4.1 (Nat.le_of_ble_eq_true rfl) ⟨by show _ + 0 ≤ 601024; omega, by show _ + 0 ≤ 7293034; omega⟩ (lP_sw hP3) (lD_sw hD3) hS3 (fun H5 locs5 hP5 hD5 hS5 => ?_)
    have hP5 := lP_sw hP5
    have hD5 := lD_sw hD5
    refine lv_iload hx hb dw_351 (hl4.2.2 5 (.int _) rfl) ?_
    refine lv_icmp_eq hx hb dw_353 (tgt := 358) (by decide) (fun _ => ?_) (fun h => absurd rfl h)
    refine lv_iload hx hb dw_358 (hl4.2.2 5 (.int _) rfl) ?_
    refine lv_if_ne hx hb dw_360 (tgt := 375) (by decide) (fun h => absurd rfl h) (fun _ => ?_)
    refine lv_aload_n hx hb dw_363 rfl (hl4.2.2 3 (.ref ao) rfl) ?_
    refine lv_iconst (v := 0) hx hb dw_364 (by decide) ?_
    refine va_lald hx hb hK hP5 _ 2 (l_rt l_at) rfl (vp_in_nI (n := 0) (N := 1) (by decide) (by decide)) dw_365 ?_
    rw [l_upd]
    refine lv_iload hx hb dw_366 (hl4.2.2 6 (.int _) rfl) ?_
    refine lv_i2l hx hb dw_368 rfl ?_
    refine W.lcmp hx hb dw_369 ?_
    refine lv_if_eq hx hb dw_370 (tgt := 375) (by decide) (fun _ => ?_) (fun h => absurd ((lg_cmp_eq _ _).mpr rfl) h)
    refine lv_goto hx hb dw_375 (tgt := 515) (by decide) ?_
    exact W.widen (by omega) (by omega) (kk _ _ _ _ _ _ _ _ _ hu (rV_0 hr) hl4 hP5 hD5 hS5)
theorem lw_c8 (X : lX p l s m c D dA aC aR b L xs) (ht : 4 * t + 4 ≤ L) (hu : cV u wC) (hr : rV u wR) (hl : ja_has (fun q => q) ls 7 (lLo b (aC 0) (aR 0) ao (nI (4 * t)) k5 k6)) (hP : va_P D jn_cl (lcs dA aC aR ao wC wR f) H) (hD : va_D (fun q => s.heap.size ≤ q) (lcs dA aC aR ao wC wR f)) (hS : va_S (fun q => s.heap.size ≤ q) s.heap H locs) (hc : c0 + 2 ≤ 601024) (hs : s0 + 12 ≤ 7293034) (kk : lK p l e s m below meth c D dA aC aR b ao t c0 s0 Q) : W p l e room_1 s m #[Value.ref b] below meth c H locs c0 s0 Q (F0 m 378 ls []) := by
  obtain ⟨hC, hK, hzC, hzR, hX, hbl, hlt, hL⟩ := X
  obtain ⟨tx, tt, n, rl, mn, dc, frm⟩ := u
  have hx := hC.1
  have hb := hC.2.1
  have hown := hC.2.2.2.1
  have hts := hC.2.2.2.2
  have hA : ∀ q : Nat, s.heap.size ≤ q → s.heap.size ≤ q := fun _ h => h
  have hbA : ¬ s.heap.size ≤ b := by omega
  have h160 : tx.length ≤ 160 := hu.1.1.1
  have hn160 : n ≤ 160 := hu.2.2.1.2.1
  have h80 : dc.length ≤ 80 := hu.2.2.2.2.2.1
  have h640 : frm.length ≤ 640 := hu.2.2.2.1.2.1
  obtain ⟨IC, AC, JC⟩ := wC
  obtain ⟨IR, AR, JR⟩ := wR
  have hE1 := cv_8 (d := 0) hu (xs (nI (4 * t) + 1).toNatClampNeg) (xs (nI (4 * t) + 2).toNatClampNeg)
  have hE2 := rv_74 (d := 0) hr h80 (xs (nI (4 * t) + 1).toNatClampNeg) (xs (nI (4 * t) + 2).toNatClampNeg)
  cases hq : a_ty dc (xs (nI (4 * t) + 1).toNatClampNeg) (xs (nI (4 * t) + 2).toNatClampNeg) with
  | none =>
    rw [hq] at hE1 hE2
    refine lv_aload_n hx hb dw_378 rfl (hl.2.2 1 (.ref (aC 0)) rfl) ?_
    refine lv_aload_n hx hb dw_379 rfl (hl.2.2 0 (.ref b) rfl) ?_
    refine lv_iload hx hb dw_380 (hl.2.2 4 (.int _) rfl) ?_
    refine lv_iconst (v := 1) hx hb dw_382 (by decide) ?_
    refine lv_iadd hx hb dw_383 ?_
    refine va_sld hx hb hX hbl hbA hS (l_in1 ht hL) dw_384 ?_
    refine lv_aload_n hx hb dw_385 rfl (hl.2.2 0 (.ref b) rfl) ?_
    refine lv_iload hx hb dw_386 (hl.2.2 4 (.int _) rfl) ?_
    refine lv_iconst (v := 2) hx hb dw_388 (by decide) ?_
    refine lv_iadd hx hb dw_389 ?_
    refine va_sld hx hb hX hbl hbA hS (l_in2 ht hL) dw_390 ?_
    refine lv_aload_n hx hb dw_391 rfl (hl.2.2 3 (.ref ao) rfl) ?_
    refine l_S (ad := aC) (A := fun q => s.heap.size ≤ q) (As := [.ref (aC 0), .int (xs (nI (4 * t) + 1).toNatClampNeg), .int (xs (nI (4 * t) + 2).toNatClampNeg), .ref ao]) (rest := []) (wc := (ja_ws dA aC jl_c (IC, AC, JC) ++ [(ao, .inl (dA 2, 1, .inr (.inl (f))))]) ++ ja_ws dA aR jl_r (IR, AR, JR)) (mc := 1) (ms := 6) hC hK hzC hA (na := 4) (y := yl_5) (wj := wl_5) rfl (lM_fr (lh_5t (d := 2) (ja_wsAt _ (q := 0) rfl) (lT_of (jc_sound l hlt D dA aC 2 8 _ _ _ _ hE1)) ⟨rfl, rfl, rfl, rfl⟩)) (l_gW jl_841) jl_839 jl_840 jl_0 (by decide +kernel) rfl rfl ⟨by show 14 + 2 + 1 ≤ 2048; decide, by show 8 + (5 + 11) + (400 + 40 * 2) ≤ 84000; decide⟩ dw_392 rfl hl.1 (Nat.le_of_ble_eq_true rfl) ⟨by show _ + 1 ≤ 601024; omega, by show _ + 6 ≤ 7293034; omega⟩ (lP_s2 hP) (lD_s2 hD) hS (fun H1 locs1 hP1 hD1 hS1 => ?_)
    have hP1 := lP_s3 hP1
    have hD1 := lD_s3 hD1
    refine lv_istore hx hb dw_395 (ja_lv hl) (by decide) rfl (fun ls2 hq2 => ?_)
    have hl2 := ja_s1 (v := .int 1) rfl hq2
    refine lv_aload_n hx hb dw_397 rfl (hl2.2.2 2 (.ref (aR 0)) rfl) ?_
    refine lv_aload_n hx hb dw_398 rfl (hl2.2.2 0 (.ref b) rfl) ?_
    refine lv_iload hx hb dw_399 (hl2.2.2 4 (.int _) rfl) ?_
    refine lv_iconst (v := 1) hx hb dw_401 (by decide) ?_
    refine lv_iadd hx hb dw_402 ?_
    refine va_sld hx hb hX hbl hbA hS1 (l_in1 ht hL) dw_403 ?_
    refine lv_aload_n hx hb dw_404 rfl (hl2.2.2 0 (.ref b) rfl) ?_
    refine lv_iload hx hb dw_405 (hl2.2.2 4 (.int _) rfl) ?_
    refine lv_iconst (v := 2) hx hb dw_407 (by decide) ?_
    refine lv_iadd hx hb dw_408 ?_
    refine va_sld hx hb hX hbl hbA hS1 (l_in2 ht hL) dw_409 ?_
    refine l_V (ad := aR) (A := fun q => s.heap.size ≤ q) (As := [.int (xs (nI (4 * t) + 1).toNatClampNeg), .int (xs (nI (4 * t) + 2).toNatClampNeg)]) (rest := []) (wc := ja_ws dA aR jl_r (IR, AR, JR) ++ (ja_ws dA aC jl_c (IC, AC, JC) ++ [(ao, .inl (dA 2, 1, .inr (.inl (f))))])) (mc := 0) (ms := 0) hC hK hzR hA (ci := 0) (na := 2) rfl rfl (lM_fr (lM_of (jr_sound l hlt D dA aR 1 74 _ _ _ _ hE2))) (l_lt (ja_wsAt _ (q := 0) rfl)) (jn_gV jl_1283 jl_1284 jl_1285 jl_9 jl_1286) (by decide +kernel) rfl rfl ⟨by show 12 + 1 + 1 ≤ 2048; decide, by show 8 + (3 + 11) + (300 + 40 * 1) ≤ 84000; decide⟩ dw_410 rfl hl2.1 (Nat.le_of_ble_eq_true rfl) ⟨by show _ + 0 ≤ 601024; omega, by show _ + 0 ≤ 7293034; omega⟩ (lP_sw hP1) (lD_sw hD1) hS1 (fun H3 locs3 hP3 hD3 hS3 => ?_)
    have hP3 := lP_sw hP3
    have hD3 := lD_sw hD3
    refine lv_istore hx hb dw_413 (ja_lv hl2) (by decide) rfl (fun ls4 hq4 => ?_)
    have hl4 := ja_s1 (v := .int 0) rfl hq4
    refine lv_aload_n hx hb dw_415 rfl (hl4.2.2 2 (.ref (aR 0)) rfl) ?_
    refine l_V (ad := aR) (A := fun q => s.heap.size ≤ q) (As := []) (rest := []) (wc := ja_ws dA aR jl_r (ja_up IR 0 0 1, AR, JR) ++ (ja_ws dA aC jl_c (IC, AC, JC) ++ [(ao, .inl (dA 2, 1, .inr (.inl (f))))])) (mc := 0) (ms := 0) hC hK hzR hA (ci := 0) (na := 0) rfl rfl (lM_fr (lM_of (jr_sound l hlt D dA aR 1 0 _ _ _ _ (rv_0 (d := 0))))) (l_lt (ja_wsAt _ (q := 0) rfl)) (jn_gV jl_981 jl_982 jl_983 jl_9 jl_984) (by decide +kernel) rfl rfl ⟨by show 12 + 1 + 1 ≤ 2048; decide, by show 8 + (1 + 11) + (300 + 40 * 1) ≤ 84000; decide⟩ dw_416 rfl hl4.1 (Nat.le_of_ble_eq_true rfl) ⟨by show _ + 0 ≤ 601024; omega, by show _ + 0 ≤ 7293034; omega⟩ (lP_sw hP3) (lD_sw hD3) hS3 (fun H5 locs5 hP5 hD5 hS5 => ?_)
    have hP5 := lP_sw hP5
    have hD5 := lD_sw hD5
    refine lv_iload hx hb dw_419 (hl4.2.2 5 (.int _) rfl) ?_
    refine lv_icmp_eq hx hb dw_421 (tgt := 426) (by decide) (fun _ => ?_) (fun h => absurd rfl h)
    refine lv_iload hx hb dw_426 (hl4.2.2 5 (.int _) rfl) ?_
    refine lv_if_ne hx hb dw_428 (tgt := 443) (by decide) (fun _ => ?_) (fun h => absurd h (by decide))
    refine lv_goto hx hb dw_443 (tgt := 515) (by decide) ?_
    exact W.widen (by omega) (by omega) (kk _ _ _ _ _ _ _ _ _ hu (rV_0 hr) hl4 hP5 hD5 hS5)
  | some z =>
    rw [hq] at hE1 hE2
    refine lv_aload_n hx hb dw_378 rfl (hl.2.2 1 (.ref (aC 0)) rfl) ?_
    refine lv_aload_n hx hb dw_379 rfl (hl.2.2 0 (.ref b) rfl) ?_
    refine lv_iload hx hb dw_380 (hl.2.2 4 (.int _) rfl) ?_
    refine lv_iconst (v := 1) hx hb dw_382 (by decide) ?_
    refine lv_iadd hx hb dw_383 ?_
    refine va_sld hx hb hX hbl hbA hS (l_in1 ht hL) dw_384 ?_
    refine lv_aload_n hx hb dw_385 rfl (hl.2.2 0 (.ref b) rfl) ?_
    refine lv_iload hx hb dw_386 (hl.2.2 4 (.int _) rfl) ?_
    refine lv_iconst (v := 2) hx hb dw_388 (by decide) ?_
    refine lv_iadd hx hb dw_389 ?_
    refine va_sld hx hb hX hbl hbA hS (l_in2 ht hL) dw_390 ?_
    refine lv_aload_n hx hb dw_391 rfl (hl.2.2 3 (.ref ao) rfl) ?_
    refine l_S (ad := aC) (A := fun q => s.heap.size ≤ q) (As := [.ref (aC 0), .int (xs (nI (4 * t) + 1).toNatClampNeg), .int (xs (nI (4 * t) + 2).toNatClampNeg), .ref ao]) (rest := []) (wc := (ja_ws dA aC jl_c (IC, AC, JC) ++ [(ao, .inl (dA 2, 1, .inr (.inl (f))))]) ++ ja_ws dA aR jl_r (IR, AR, JR)) (mc := 0) (ms := 0) hC hK hzC hA (na := 4) (y := yl_5) (wj := wl_5) rfl (lM_fr (lh_5r (d := 2) (ja_wsAt _ (q := 0) rfl) (lM_of (jc_sound l hlt D dA aC 2 8 _ _ _ _ hE1)) ⟨rfl, rfl, rfl, rfl⟩)) (l_gW jl_841) jl_839 jl_840 jl_0 (by decide +kernel) rfl rfl ⟨by show 14 + 2 + 1 ≤ 2048; decide, by show 8 + (5 + 11) + (400 + 40 * 2) ≤ 84000; decide⟩ dw_392 rfl hl.1 (Nat.le_of_ble_eq_true rfl) ⟨by show _ + 0 ≤ 601024; omega, by show _ + 0 ≤ 7293034; omega⟩ (lP_s2 hP) (lD_s2 hD) hS (fun H1 locs1 hP1 hD1 hS1 => ?_)
    have hP1 := lP_s3 hP1
    have hD1 := lD_s3 hD1
    refine lv_istore hx hb dw_395 (ja_lv hl) (by decide) rfl (fun ls2 hq2 => ?_)
    have hl2 := ja_s1 (v := .int 0) rfl hq2
    refine lv_aload_n hx hb dw_397 rfl (hl2.2.2 2 (.ref (aR 0)) rfl) ?_
    refine lv_aload_n hx hb dw_398 rfl (hl2.2.2 0 (.ref b) rfl) ?_
    refine lv_iload hx hb dw_399 (hl2.2.2 4 (.int _) rfl) ?_
    refine lv_iconst (v := 1) hx hb dw_401 (by decide) ?_
    refine lv_iadd hx hb dw_402 ?_
    refine va_sld hx hb hX hbl hbA hS1 (l_in1 ht hL) dw_403 ?_
    refine lv_aload_n hx hb dw_404 rfl (hl2.2.2 0 (.ref b) rfl) ?_
    refine lv_iload hx hb dw_405 (hl2.2.2 4 (.int _) rfl) ?_
    refine lv_iconst (v := 2) hx hb dw_407 (by decide) ?_
    refine lv_iadd hx hb dw_408 ?_
    refine va_sld hx hb hX hbl hbA hS1 (l_in2 ht hL) dw_409 ?_
    refine l_V (ad := aR) (A := fun q => s.heap.size ≤ q) (As := [.int (xs (nI (4 * t) + 1).toNatClampNeg), .int (xs (nI (4 * t) + 2).toNatClampNeg)]) (rest := []) (wc := ja_ws dA aR jl_r (IR, AR, JR) ++ (ja_ws dA aC jl_c (IC, AC, JC) ++ [(ao, .inl (dA 2, 1, .inr (.inl (vp_updL f (0 : Int32).toNatClampNeg z.toInt64))))])) (mc := 0) (ms := 0) hC hK hzR hA (ci := 0) (na := 2) rfl rfl (lM_fr (lM_of (jr_sound l hlt D dA aR 1 74 _ _ _ _ hE2))) (l_lt (ja_wsAt _ (q := 0) rfl)) (jn_gV jl_1283 jl_1284 jl_1285 jl_9 jl_1286) (by decide +kernel) rfl rfl ⟨by show 12 + 1 + 1 ≤ 2048; decide, by show 8 + (3 + 11) + (300 + 40 * 1) ≤ 84000; decide⟩ dw_410 rfl hl2.1 (Nat.le_of_ble_eq_true rfl) ⟨by show _ + 0 ≤ 601024; omega, by show _ + 0 ≤ 7293034; omega⟩ (lP_sw hP1) (lD_sw hD1) hS1 (fun H3 locs3 hP3 hD3 hS3 => ?_)
    have hP3 := lP_sw hP3
    have hD3 := lD_sw hD3
    refine lv_istore hx hb dw_413 (ja_lv hl2) (by decide) rfl (fun ls4 hq4 => ?_)
    have hl4 := ja_s1 (v := .int z) rfl hq4
    refine lv_aload_n hx hb dw_415 rfl (hl4.2.2 2 (.ref (aR 0)) rfl) ?_
    refine l_V (ad := aR) (A := fun q => s.heap.size ≤ q) (As := []) (rest := []) (wc := ja_ws dA aR jl_r (ja_up IR 0 0 0, AR, JR) ++ (ja_ws dA aC jl_c (IC, AC, JC) ++ [(ao, .inl (dA 2, 1, .inr (.inl (vp_updL f (0 : Int32).toNatClampNeg z.toInt64))))])) (mc := 0) (ms := 0) hC hK hzR hA (ci := 0) (na := 0) rfl rfl (lM_fr (lM_of (jr_sound l hlt D dA aR 1 0 _ _ _ _ (rv_0 (d := 0))))) (l_lt (ja_wsAt _ (q := 0) rfl)) (jn_gV jl_981 jl_982 jl_983 jl_9 jl_984) (by decide +kernel) rfl rfl ⟨by show 12 + 1 + 1 ≤ 2048; decide, by show 8 + (1 + 11) + (300 + 40 * 1) ≤ 84000; decide⟩ dw_416 rfl hl4.1 (Nat.le_of_ble_eq_true rfl) ⟨by show _ + 0 ≤ 601024; omega, by show _ + 0 ≤ 7293034; omega⟩ (lP_sw hP3) (lD_sw hD3) hS3 (fun H5 locs5 hP5 hD5 hS5 => ?_)
    have hP5 := lP_sw hP5
    have hD5 := lD_sw hD5
    refine lv_iload hx hb dw_419 (hl4.2.2 5 (.int _) rfl) ?_
    refine lv_icmp_eq hx hb dw_421 (tgt := 426) (by decide) (fun _ => ?_) (fun h => absurd rfl h)
    refine lv_iload hx hb dw_426 (hl4.2.2 5 (.int _) rfl) ?_
    refine lv_if_ne hx hb dw_428 (tgt := 443) (by decide) (fun h => absurd rfl h) (fun _ => ?_)
    refine lv_aload_n hx hb dw_431 rfl (hl4.2.2 3 (.ref ao) rfl) ?_
    refine lv_iconst (v := 0) hx hb dw_432 (by decide) ?_
    refine va_lald hx hb hK hP5 _ 2 (l_rt l_at) rfl (vp_in_nI (n := 0) (N := 1) (by decide) (by decide)) dw_433 ?_
    rw [l_upd]
    refine lv_iload hx hb dw_434 (hl4.2.2 6 (.int _) rfl) ?_
    refine lv_i2l hx hb dw_436 rfl ?_
    refine W.lcmp hx hb dw_437 ?_
    refine lv_if_eq hx hb dw_438 (tgt := 443) (by decide) (fun _ => ?_) (fun h => absurd ((lg_cmp_eq _ _).mpr rfl) h)
    refine lv_goto hx hb dw_443 (tgt := 515) (by decide) ?_
    exact W.widen (by omega) (by omega) (kk _ _ _ _ _ _ _ _ _ hu (rV_0 hr) hl4 hP5 hD5 hS5)
theorem lw_c9 (X : lX p l s m c D dA aC aR b L xs) (ht : 4 * t + 4 ≤ L) (hu : cV u wC) (hr : rV u wR) (hl : ja_has (fun q => q) ls 7 (lLo b (aC 0) (aR 0) ao (nI (4 * t)) k5 k6)) (hP : va_P D jn_cl (lcs dA aC aR ao wC wR f) H) (hD : va_D (fun q => s.heap.size ≤ q) (lcs dA aC aR ao wC wR f)) (hS : va_S (fun q => s.heap.size ≤ q) s.heap H locs) (hc : c0 + 2 ≤ 601024) (hs : s0 + 12 ≤ 7293034) (kk : lK p l e s m below meth c D dA aC aR b ao t c0 s0 Q) : W p l e room_1 s m #[Value.ref b] below meth c H locs c0 s0 Q (F0 m 446 ls []) := by
  obtain ⟨hC, hK, hzC, hzR, hX, hbl, hlt, hL⟩ := X
  obtain ⟨tx, tt, n, rl, mn, dc, frm⟩ := u
  have hx := hC.1
  have hb := hC.2.1
  have hown := hC.2.2.2.1
  have hts := hC.2.2.2.2
  have hA : ∀ q : Nat, s.heap.size ≤ q → s.heap.size ≤ q := fun _ h => h
  have hbA : ¬ s.heap.size ≤ b := by omega
  have h160 : tx.length ≤ 160 := hu.1.1.1
  have hn160 : n ≤ 160 := hu.2.2.1.2.1
  have h80 : dc.length ≤ 80 := hu.2.2.2.2.2.1
  have h640 : frm.length ≤ 640 := hu.2.2.2.1.2.1
  obtain ⟨IC, AC, JC⟩ := wC
  obtain ⟨IR, AR, JR⟩ := wR
  refine lv_aload_n hx hb dw_446 rfl (hl.2.2 1 (.ref (aC 0)) rfl) ?_
  refine l_V (ad := aC) (A := fun q => s.heap.size ≤ q) (As := []) (rest := []) (wc := ja_ws dA aC jl_c (IC, AC, JC) ++ (ja_ws dA aR jl_r (IR, AR, JR) ++ [(ao, .inl (dA 2, 1, .inr (.inl (f))))])) (mc := 0) (ms := 0) hC hK hzC hA (ci := 1) (na := 0) rfl rfl (lM_fr (lM_of (jc_sound l hlt D dA aC 1 9 _ _ _ _ (cv_9 (d := 0) hu)))) (l_lt (ja_wsAt _ (q := 0) rfl)) (jn_gV jl_300 jl_301 jl_302 jl_1 jl_303) (by decide +kernel) rfl rfl ⟨by show 12 + 1 + 1 ≤ 2048; decide, by show 8 + (1 + 11) + (300 + 40 * 1) ≤ 84000; decide⟩ dw_447 rfl hl.1 (Nat.le_of_ble_eq_true rfl) ⟨by show _ + 0 ≤ 601024; omega, by show _ + 0 ≤ 7293034; omega⟩ hP hD hS (fun H1 locs1 hP1 hD1 hS1 => ?_)
  refine lv_aload_n hx hb dw_450 rfl (hl.2.2 2 (.ref (aR 0)) rfl) ?_
  refine l_V (ad := aR) (A := fun q => s.heap.size ≤ q) (As := []) (rest := [.int _]) (wc := ja_ws dA aR jl_r (IR, AR, JR) ++ (ja_ws dA aC jl_c (IC, AC, JC) ++ [(ao, .inl (dA 2, 1, .inr (.inl (f))))])) (mc := 0) (ms := 0) hC hK hzR hA (ci := 0) (na := 0) rfl rfl (lM_fr (lM_of (jr_sound l hlt D dA aR 1 75 _ _ _ _ (rv_75 (d := 0) hr)))) (l_lt (ja_wsAt _ (q := 0) rfl)) (jn_gV jl_1287 jl_1288 jl_1289 jl_9 jl_1290) (by decide +kernel) rfl rfl ⟨by show 12 + 1 + 1 ≤ 2048; decide, by show 8 + (1 + 11) + (300 + 40 * 1) ≤ 84000; decide⟩ dw_451 rfl hl.1 (Nat.le_of_ble_eq_true rfl) ⟨by show _ + 0 ≤ 601024; omega, by show _ + 0 ≤ 7293034; omega⟩ (lP_sw hP1) (lD_sw hD1) hS1 (fun H2 locs2 hP2 hD2 hS2 => ?_)
  have hP2 := lP_sw hP2
  have hD2 := lD_sw hD2
  refine lv_icmp_eq hx hb dw_454 (tgt := 515) (by decide) (fun _ => ?_) (fun h => absurd rfl h)
  exact W.widen (by omega) (by omega) (kk _ _ _ _ _ _ _ _ _ hu (rV_0 hr) hl hP2 hD2 hS2)
theorem lw_c10 (X : lX p l s m c D dA aC aR b L xs) (ht : 4 * t + 4 ≤ L) (hu : cV u wC) (hr : rV u wR) (hl : ja_has (fun q => q) ls 7 (lLo b (aC 0) (aR 0) ao (nI (4 * t)) k5 k6)) (hP : va_P D jn_cl (lcs dA aC aR ao wC wR f) H) (hD : va_D (fun q => s.heap.size ≤ q) (lcs dA aC aR ao wC wR f)) (hS : va_S (fun q => s.heap.size ≤ q) s.heap H locs) (hc : c0 + 2 ≤ 601024) (hs : s0 + 12 ≤ 7293034) (kk : lK p l e s m below meth c D dA aC aR b ao t c0 s0 Q) : W p l e room_1 s m #[Value.ref b] below meth c H locs c0 s0 Q (F0 m 459 ls []) := by
  obtain ⟨hC, hK, hzC, hzR, hX, hbl, hlt, hL⟩ := X
  obtain ⟨tx, tt, n, rl, mn, dc, frm⟩ := u
  have hx := hC.1
  have hb := hC.2.1
  have hown := hC.2.2.2.1
  have hts := hC.2.2.2.2
  have hA : ∀ q : Nat, s.heap.size ≤ q → s.heap.size ≤ q := fun _ h => h
  have hbA : ¬ s.heap.size ≤ b := by omega
  have h160 : tx.length ≤ 160 := hu.1.1.1
  have hn160 : n ≤ 160 := hu.2.2.1.2.1
  have h80 : dc.length ≤ 80 := hu.2.2.2.2.2.1
  have h640 : frm.length ≤ 640 := hu.2.2.2.1.2.1
  obtain ⟨IC, AC, JC⟩ := wC
  obtain ⟨IR, AR, JR⟩ := wR
  have hE1 := cv_10 (d := 0) hu (xs (nI (4 * t) + 1).toNatClampNeg)
  have hE2 := rv_76 (d := 0) hr h640 (xs (nI (4 * t) + 1).toNatClampNeg)
  cases hq : a_fo frm (xs (nI (4 * t) + 1).toNatClampNeg) with
  | none =>
    rw [hq] at hE1 hE2
    refine lv_aload_n hx hb dw_459 rfl (hl.2.2 1 (.ref (aC 0)) rfl) ?_
    refine lv_aload_n hx hb dw_460 rfl (hl.2.2 0 (.ref b) rfl) ?_
    refine lv_iload hx hb dw_461 (hl.2.2 4 (.int _) rfl) ?_
    refine lv_iconst (v := 1) hx hb dw_463 (by decide) ?_
    refine lv_iadd hx hb dw_464 ?_
    refine va_sld hx hb hX hbl hbA hS (l_in1 ht hL) dw_465 ?_
    refine lv_aload_n hx hb dw_466 rfl (hl.2.2 3 (.ref ao) rfl) ?_
    refine l_S (ad := aC) (A := fun q => s.heap.size ≤ q) (As := [.ref (aC 0), .int (xs (nI (4 * t) + 1).toNatClampNeg), .ref ao]) (rest := []) (wc := (ja_ws dA aC jl_c (IC, AC, JC) ++ [(ao, .inl (dA 2, 1, .inr (.inl (f))))]) ++ ja_ws dA aR jl_r (IR, AR, JR)) (mc := 1) (ms := 6) hC hK hzC hA (na := 3) (y := yl_6) (wj := wl_6) rfl (lM_fr (lh_6t (d := 2) (ja_wsAt _ (q := 0) rfl) (lT_of (jc_sound l hlt D dA aC 2 10 _ _ _ _ hE1)) ⟨rfl, rfl, rfl, rfl⟩)) (l_gW jl_849) jl_847 jl_848 jl_0 (by decide +kernel) rfl rfl ⟨by show 14 + 2 + 1 ≤ 2048; decide, by show 8 + (4 + 11) + (400 + 40 * 2) ≤ 84000; decide⟩ dw_467 rfl hl.1 (Nat.le_of_ble_eq_true rfl) ⟨by show _ + 1 ≤ 601024; omega, by show _ + 6 ≤ 7293034; omega⟩ (lP_s2 hP) (lD_s2 hD) hS (fun H1 locs1 hP1 hD1 hS1 => ?_)
    have hP1 := lP_s3 hP1
    have hD1 := lD_s3 hD1
    refine lv_istore hx hb dw_470 (ja_lv hl) (by decide) rfl (fun ls2 hq2 => ?_)
    have hl2 := ja_s1 (v := .int 1) rfl hq2
    refine lv_aload_n hx hb dw_472 rfl (hl2.2.2 2 (.ref (aR 0)) rfl) ?_
    refine lv_aload_n hx hb dw_473 rfl (hl2.2.2 0 (.ref b) rfl) ?_
    refine lv_iload hx hb dw_474 (hl2.2.2 4 (.int _) rfl) ?_
    refine lv_iconst (v := 1) hx hb dw_476 (by decide) ?_
    refine lv_iadd hx hb dw_477 ?_
    refine va_sld hx hb hX hbl hbA hS1 (l_in1 ht hL) dw_478 ?_
    refine l_V (ad := aR) (A := fun q => s.heap.size ≤ q) (As := [.int (xs (nI (4 * t) + 1).toNatClampNeg)]) (rest := []) (wc := ja_ws dA aR jl_r (IR, AR, JR) ++ (ja_ws dA aC jl_c (IC, AC, JC) ++ [(ao, .inl (dA 2, 1, .inr (.inl (f))))])) (mc := 0) (ms := 0) hC hK hzR hA (ci := 0) (na := 1) rfl rfl (lM_fr (lM_of (jr_sound l hlt D dA aR 1 76 _ _ _ _ hE2))) (l_lt (ja_wsAt _ (q := 0) rfl)) (jn_gV jl_1291 jl_1292 jl_1293 jl_9 jl_1294) (by decide +kernel) rfl rfl ⟨by show 12 + 1 + 1 ≤ 2048; decide, by show 8 + (2 + 11) + (300 + 40 * 1) ≤ 84000; decide⟩ dw_479 rfl hl2.1 (Nat.le_of_ble_eq_true rfl) ⟨by show _ + 0 ≤ 601024; omega, by show _ + 0 ≤ 7293034; omega⟩ (lP_sw hP1) (lD_sw hD1) hS1 (fun H3 locs3 hP3 hD3 hS3 => ?_)
    have hP3 := lP_sw hP3
    have hD3 := lD_sw hD3
    refine lv_istore hx hb dw_482 (ja_lv hl2) (by decide) rfl (fun ls4 hq4 => ?_)
    have hl4 := ja_s1 (v := .int 0) rfl hq4
    refine lv_aload_n hx hb dw_484 rfl (hl4.2.2 2 (.ref (aR 0)) rfl) ?_
    refine l_V (ad := aR) (A := fun q => s.heap.size ≤ q) (As := []) (rest := []) (wc := ja_ws dA aR jl_r (ja_up IR 0 0 1, AR, JR) ++ (ja_ws dA aC jl_c (IC, AC, JC) ++ [(ao, .inl (dA 2, 1, .inr (.inl (f))))])) (mc := 0) (ms := 0) hC hK hzR hA (ci := 0) (na := 0) rfl rfl (lM_fr (lM_of (jr_sound l hlt D dA aR 1 0 _ _ _ _ (rv_0 (d := 0))))) (l_lt (ja_wsAt _ (q := 0) rfl)) (jn_gV jl_981 jl_982 jl_983 jl_9 jl_984) (by decide +kernel) rfl rfl ⟨by show 12 + 1 + 1 ≤ 2048; decide, by show 8 + (1 + 11) + (300 + 40 * 1) ≤ 84000; decide⟩ dw_485 rfl hl4.1 (Nat.le_of_ble_eq_true rfl) ⟨by show _ + 0 ≤ 601024; omega, by show _ + 0 ≤ 7293034; omega⟩ (lP_sw hP3) (lD_sw hD3) hS3 (fun H5 locs5 hP5 hD5 hS5 => ?_)
    have hP5 := lP_sw hP5
    have hD5 := lD_sw hD5
    refine lv_iload hx hb dw_488 (hl4.2.2 5 (.int _) rfl) ?_
    refine lv_icmp_eq hx hb dw_490 (tgt := 495) (by decide) (fun _ => ?_) (fun h => absurd rfl h)
    refine lv_iload hx hb dw_495 (hl4.2.2 5 (.int _) rfl) ?_
    refine lv_if_ne hx hb dw_497 (tgt := 512) (by decide) (fun _ => ?_) (fun h => absurd h (by decide))
    refine lv_goto hx hb dw_512 (tgt := 515) (by decide) ?_
    exact W.widen (by omega) (by omega) (kk _ _ _ _ _ _ _ _ _ hu (rV_0 hr) hl4 hP5 hD5 hS5)
  | some z =>
    rw [hq] at hE1 hE2
    refine lv_aload_n hx hb dw_459 rfl (hl.2.2 1 (.ref (aC 0)) rfl) ?_
    refine lv_aload_n hx hb dw_460 rfl (hl.2.2 0 (.ref b) rfl) ?_
    refine lv_iload hx hb dw_461 (hl.2.2 4 (.int _) rfl) ?_
    refine lv_iconst (v := 1) hx hb dw_463 (by decide) ?_
    refine lv_iadd hx hb dw_464 ?_
    refine va_sld hx hb hX hbl hbA hS (l_in1 ht hL) dw_465 ?_
    refine lv_aload_n hx hb dw_466 rfl (hl.2.2 3 (.ref ao) rfl) ?_
    refine l_S (ad := aC) (A := fun q => s.heap.size ≤ q) (As := [.ref (aC 0), .int (xs (nI (4 * t) + 1).toNatClampNeg), .ref ao]) (rest := []) (wc := (ja_ws dA aC jl_c (IC, AC, JC) ++ [(ao, .inl (dA 2, 1, .inr (.inl (f))))]) ++ ja_ws dA aR jl_r (IR, AR, JR)) (mc := 0) (ms := 0) hC hK hzC hA (na := 3) (y := yl_6) (wj := wl_6) rfl (lM_fr (lh_6r (d := 2) (ja_wsAt _ (q := 0) rfl) (lM_of (jc_sound l hlt D dA aC 2 10 _ _ _ _ hE1)) ⟨rfl, rfl, rfl, rfl⟩)) (l_gW jl_849) jl_847 jl_848 jl_0 (by decide +kernel) rfl rfl ⟨by show 14 + 2 + 1 ≤ 2048; decide, by show 8 + (4 + 11) + (400 + 40 * 2) ≤ 84000; decide⟩ dw_467 rfl hl.1 (Nat.le_of_ble_eq_true rfl) ⟨by show _ + 0 ≤ 601024; omega, by show _ + 0 ≤ 7293034; omega⟩ (lP_s2 hP) (lD_s2 hD) hS (fun H1 locs1 hP1 hD1 hS1 => ?_)
    have hP1 := lP_s3 hP1
    have hD1 := lD_s3 hD1
    refine lv_istore hx hb dw_470 (ja_lv hl) (by decide) rfl (fun ls2 hq2 => ?_)
    have hl2 := ja_s1 (v := .int 0) rfl hq2
    refine lv_aload_n hx hb dw_472 rfl (hl2.2.2 2 (.ref (aR 0)) rfl) ?_
    refine lv_aload_n hx hb dw_473 rfl (hl2.2.2 0 (.ref b) rfl) ?_
    refine lv_iload hx hb dw_474 (hl2.2.2 4 (.int _) rfl) ?_
    refine lv_iconst (v := 1) hx hb dw_476 (by decide) ?_
    refine lv_iadd hx hb dw_477 ?_
    refine va_sld hx hb hX hbl hbA hS1 (l_in1 ht hL) dw_478 ?_
    refine l_V (ad := aR) (A := fun q => s.heap.size ≤ q) (As := [.int (xs (nI (4 * t) + 1).toNatClampNeg)]) (rest := []) (wc := ja_ws dA aR jl_r (IR, AR, JR) ++ (ja_ws dA aC jl_c (IC, AC, JC) ++ [(ao, .inl (dA 2, 1, .inr (.inl (vp_updL f (0 : Int32).toNatClampNeg z.toInt64))))])) (mc := 0) (ms := 0) hC hK hzR hA (ci := 0) (na := 1) rfl rfl (lM_fr (lM_of (jr_sound l hlt D dA aR 1 76 _ _ _ _ hE2))) (l_lt (ja_wsAt _ (q := 0) rfl)) (jn_gV jl_1291 jl_1292 jl_1293 jl_9 jl_1294) (by decide +kernel) rfl rfl ⟨by show 12 + 1 + 1 ≤ 2048; decide, by show 8 + (2 + 11) + (300 + 40 * 1) ≤ 84000; decide⟩ dw_479 rfl hl2.1 (Nat.le_of_ble_eq_true rfl) ⟨by show _ + 0 ≤ 601024; omega, by show _ + 0 ≤ 7293034; omega⟩ (lP_sw hP1) (lD_sw hD1) hS1 (fun H3 locs3 hP3 hD3 hS3 => ?_)
    have hP3 := lP_sw hP3
    have hD3 := lD_sw hD3
    refine lv_istore hx hb dw_482 (ja_lv hl2) (by decide) rfl (fun ls4 hq4 => ?_)
    have hl4 := ja_s1 (v := .int z) rfl hq4
    refine lv_aload_n hx hb dw_484 rfl (hl4.2.2 2 (.ref (aR 0)) rfl) ?_
    refine l_V (ad := aR) (A := fun q => s.heap.size ≤ q) (As := []) (rest := []) (wc := ja_ws dA aR jl_r (ja_up IR 0 0 0, AR, JR) ++ (ja_ws dA aC jl_c (IC, AC, JC) ++ [(ao, .inl (dA 2, 1, .inr (.inl (vp_updL f (0 : Int32).toNatClampNeg z.toInt64))))])) (mc := 0) (ms := 0) hC hK hzR hA (ci := 0) (na := 0) rfl rfl (lM_fr (lM_of (jr_sound l hlt D dA aR 1 0 _ _ _ _ (rv_0 (d := 0))))) (l_lt (ja_wsAt _ (q := 0) rfl)) (jn_gV jl_981 jl_982 jl_983 jl_9 jl_984) (by decide +kernel) rfl rfl ⟨by show 12 + 1 + 1 ≤ 2048; decide, by show 8 + (1 + 11) + (300 + 40 * 1) ≤ 84000; decide⟩ dw_485 rfl hl4.1 (Nat.le_of_ble_eq_true rfl) ⟨by show _ + 0 ≤ 601024; omega, by show _ + 0 ≤ 7293034; omega⟩ (lP_sw hP3) (lD_sw hD3) hS3 (fun H5 locs5 hP5 hD5 hS5 => ?_)
    have hP5 := lP_sw hP5
    have hD5 := lD_sw hD5
    refine lv_iload hx hb dw_488 (hl4.2.2 5 (.int _) rfl) ?_
    refine lv_icmp_eq hx hb dw_490 (tgt := 495) (by decide) (fun _ => ?_) (fun h => absurd rfl h)
    refine lv_iload hx hb dw_495 (hl4.2.2 5 (.int _) rfl) ?_
    refine lv_if_ne hx hb dw_497 (tgt := 512) (by decide) (fun h => absurd rfl h) (fun _ => ?_)
    refine lv_aload_n hx hb dw_500 rfl (hl4.2.2 3 (.ref ao) rfl) ?_
    refine lv_iconst (v := 0) hx hb dw_501 (by decide) ?_
    refine va_lald hx hb hK hP5 _ 2 (l_rt l_at) rfl (vp_in_nI (n := 0) (N := 1) (by decide) (by decide)) dw_502 ?_
    rw [l_upd]
    refine lv_iload hx hb dw_503 (hl4.2.2 6 (.int _) rfl) ?_
    refine lv_i2l hx hb dw_505 rfl ?_
    refine W.lcmp hx hb dw_506 ?_
    refine lv_if_eq hx hb dw_507 (tgt := 512) (by decide) (fun _ => ?_) (fun h => absurd ((lg_cmp_eq _ _).mpr rfl) h)
    refine lv_goto hx hb dw_512 (tgt := 515) (by decide) ?_
    exact W.widen (by omega) (by omega) (kk _ _ _ _ _ _ _ _ _ hu (rV_0 hr) hl4 hP5 hD5 hS5)
end
