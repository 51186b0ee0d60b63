/-! From the entry to the loop. -/
def lmi {α β : Type} (f : Nat → α → β) : Nat → List α → List β
  | _, [] => []
  | n, a :: l => f n a :: lmi f (n + 1) l
theorem lmi_s {α β : Type} (f : Nat → α → β) : ∀ (l : List α) (n : Nat), lmi (fun i => f (i + 1)) n l = lmi f (n + 1) l := by
  intro l
  induction l with
  | nil => intro n; rfl
  | cons a l ih => intro n; show f (n + 1) a :: lmi (fun i => f (i + 1)) (n + 1) l = f (n + 1) a :: lmi f (n + 1 + 1) l; rw [ih]
theorem lmi_eq {α β : Type} : ∀ (l : List α) (f : Nat → α → β), l.mapIdx f = lmi f 0 l := by
  intro l
  induction l with
  | nil => intro f; rw [List.mapIdx_nil]; rfl
  | cons a l ih => intro f; rw [List.mapIdx_cons, ih, lmi_s]; rfl
def lja_c (dA : Nat → ClassId) (ad : Nat → Nat) (w : ja_w) (p : Nat) (x : ja_E) : Nat × va_E := (ad p, match x with
  | .inl o => .inr (o.1, lmi (ja_fv ad (w.1 p)) 0 o.2)
  | .inr a => .inl (dA a.1, a.2, if a.1 = 2 then .inr (.inl (w.2.2 p)) else .inl (w.2.1 p)))
theorem lja_eq (dA : Nat → ClassId) (ad : Nat → Nat) (w : ja_w) : ja_c dA ad w = lja_c dA ad w := by
  funext p x
  cases x with
  | inl o => show (ad p, Sum.inr (o.1, o.2.mapIdx (ja_fv ad (w.1 p)))) = (ad p, Sum.inr (o.1, lmi (ja_fv ad (w.1 p)) 0 o.2)); rw [lmi_eq]
  | inr a => rfl
set_option maxRecDepth 100000 in
theorem lc_ws (dA : Nat → ClassId) (ad : Nat → Nat) (w : ja_w) : ja_ws dA ad jl_c w = [(ad 0, .inr (1, [.ref (ad 1), .int (w.1 0 1), .int (w.1 0 2), .int (w.1 0 3), .ref (ad 2), .ref (ad 3), .ref (ad 4), .ref (ad 5)])), (ad 1, .inl (dA 1, 160, .inl (w.2.1 1))), (ad 2, .inr (3, [.ref (ad 6), .ref (ad 7), .int (w.1 2 2), .int (w.1 2 3)])), (ad 3, .inr (5, [.ref (ad 2), .ref (ad 8), .ref (ad 9), .ref (ad 10), .int (w.1 3 4), .ref (ad 11), .ref (ad 12), .ref (ad 13), .ref (ad 14), .ref (ad 15), .ref (ad 16), .ref (ad 17), .int (w.1 3 12), .int (w.1 3 13)])), (ad 4, .inr (2, [.ref (ad 18), .int (w.1 4 1)])), (ad 5, .inr (8, [.ref (ad 20), .ref (ad 2), .ref (ad 3), .ref (ad 4), .ref (ad 21), .ref (ad 22)])), (ad 6, .inl (dA 0, 160, .inl (w.2.1 6))), (ad 7, .inl (dA 2, 160, .inr (.inl (w.2.2 7)))), (ad 8, .inr (2, [.ref (ad 19), .int (w.1 8 1)])), (ad 9, .inl (dA 0, 160, .inl (w.2.1 9))), (ad 10, .inl (dA 0, 160, .inl (w.2.1 10))), (ad 11, .inl (dA 0, 80, .inl (w.2.1 11))), (ad 12, .inl (dA 0, 80, .inl (w.2.1 12))), (ad 13, .inl (dA 0, 80, .inl (w.2.1 13))), (ad 14, .inl (dA 0, 80, .inl (w.2.1 14))), (ad 15, .inl (dA 0, 80, .inl (w.2.1 15))), (ad 16, .inl (dA 0, 80, .inl (w.2.1 16))), (ad 17, .inl (dA 0, 10, .inl (w.2.1 17))), (ad 18, .inl (dA 1, 640, .inl (w.2.1 18))), (ad 19, .inl (dA 1, 640, .inl (w.2.1 19))), (ad 20, .inr (4, [.ref (ad 2), .int (w.1 20 1), .int (w.1 20 2), .int (w.1 20 3)])), (ad 21, .inr (6, [.ref (ad 20), .ref (ad 2), .ref (ad 3), .ref (ad 8)])), (ad 22, .inr (7, [.ref (ad 20), .ref (ad 2), .ref (ad 3), .ref (ad 21), .ref (ad 4), .ref (ad 23), .ref (ad 24), .ref (ad 25), .int (w.1 22 8)])), (ad 23, .inl (dA 1, 160, .inl (w.2.1 23))), (ad 24, .inl (dA 0, 160, .inl (w.2.1 24))), (ad 25, .inl (dA 0, 160, .inl (w.2.1 25)))] := by
  unfold ja_ws
  rw [lja_eq, lmi_eq]
  rfl
set_option maxRecDepth 100000 in
theorem lr_ws (dA : Nat → ClassId) (ad : Nat → Nat) (w : ja_w) : ja_ws dA ad jl_r w = [(ad 0, .inr (0, [.int (w.1 0 0), .ref (ad 1), .int (w.1 0 2), .int (w.1 0 3), .ref (ad 2), .ref (ad 3), .ref (ad 4), .ref (ad 5), .ref (ad 6), .int (w.1 0 9), .int (w.1 0 10), .int (w.1 0 11), .int (w.1 0 12), .ref (ad 7), .ref (ad 8), .int (w.1 0 15), .int (w.1 0 16), .int (w.1 0 17), .int (w.1 0 18), .ref (ad 9), .int (w.1 0 20), .ref (ad 10), .ref (ad 11), .ref (ad 12), .ref (ad 13), .ref (ad 14), .ref (ad 15), .int (w.1 0 27), .ref (ad 16), .ref (ad 17), .int (w.1 0 30), .ref (ad 18), .int (w.1 0 32), .int (w.1 0 33), .int (w.1 0 34), .int (w.1 0 35), .ref (ad 19), .int (w.1 0 37), .int (w.1 0 38), .ref (ad 20)])), (ad 1, .inl (dA 0, 160, .inl (w.2.1 1))), (ad 2, .inl (dA 0, 161, .inl (w.2.1 2))), (ad 3, .inl (dA 0, 161, .inl (w.2.1 3))), (ad 4, .inl (dA 0, 161, .inl (w.2.1 4))), (ad 5, .inl (dA 0, 161, .inl (w.2.1 5))), (ad 6, .inl (dA 0, 161, .inl (w.2.1 6))), (ad 7, .inl (dA 0, 1200, .inl (w.2.1 7))), (ad 8, .inl (dA 0, 1200, .inl (w.2.1 8))), (ad 9, .inl (dA 0, 24, .inl (w.2.1 9))), (ad 10, .inl (dA 0, 161, .inl (w.2.1 10))), (ad 11, .inl (dA 0, 161, .inl (w.2.1 11))), (ad 12, .inl (dA 0, 161, .inl (w.2.1 12))), (ad 13, .inl (dA 0, 161, .inl (w.2.1 13))), (ad 14, .inl (dA 0, 161, .inl (w.2.1 14))), (ad 15, .inl (dA 0, 161, .inl (w.2.1 15))), (ad 16, .inl (dA 0, 6000, .inl (w.2.1 16))), (ad 17, .inl (dA 2, 161, .inr (.inl (w.2.2 17)))), (ad 18, .inl (dA 0, 1200, .inl (w.2.1 18))), (ad 19, .inl (dA 0, 2400, .inl (w.2.1 19))), (ad 20, .inl (dA 0, 4000, .inl (w.2.1 20)))] := by
  unfold ja_ws
  rw [lja_eq, lmi_eq]
  rfl
def lwC0 : ja_w := (fun p k => cond (Nat.beq p 0 && Nat.beq k 3) (-1) 0, fun _ _ => 0, fun _ _ => 0)
def lwR0 : ja_w := (fun p k => cond (Nat.beq p 0 && Nat.beq k 10) (-1) 0, fun _ _ => 0, fun _ _ => 0)
def lu0 : vU := ([], -1, 0, fun _ => 0, fun _ => 0, [], [])
theorem lu_c : cV lu0 lwC0 := by
  refine ⟨⟨⟨by decide, fun c h => absurd h List.not_mem_nil⟩, rfl, fun i h => absurd h (Nat.not_lt_zero i)⟩, rfl, ⟨rfl, by decide, fun i h => absurd h (Nat.not_lt_zero i)⟩, ⟨rfl, by decide, fun i h => absurd h (Nat.not_lt_zero i), fun c h => absurd h List.not_mem_nil⟩, rfl, by decide, 0, by decide, Or.inl rfl, fun k x h => ?_⟩
  simp at h
theorem lu_r : rV lu0 lwR0 := by
  refine ⟨⟨rfl, fun i h => absurd h (Nat.not_lt_zero i)⟩, rfl, ⟨Or.inl ⟨rfl, rfl⟩, fun i h => absurd h (Nat.not_lt_zero i)⟩, ⟨rfl, fun i h => absurd h (Nat.not_lt_zero i)⟩, rfl, by decide, fun k x h => ?_⟩
  simp at h
theorem l_join {A : Nat → Prop} {D : va_G} {cl : List vw_C} {wr wc w1 : va_W} {H H1 : Heap} (hP : va_P D cl (wr ++ wc) H) (hD : va_D A (wr ++ wc)) (hk : ∀ q : Nat, q < H.size → ¬ va_A wc H.size q → H1[q]? = H[q]?) (hF : ∀ q, va_A wc H.size q → A q) (hP1 : va_P D cl w1 H1) (hD1 : va_D (va_A wc H.size) w1) : va_P D cl (wr ++ w1) H1 ∧ va_D A (wr ++ w1) := by
  have apart : ∀ (j : Nat) (q : Nat × va_E), wr[j]? = some q → q.1 < H.size ∧ ¬ va_A wc H.size q.1 := by
    intro j q hj
    have hlt := (lP_l hP j q hj).lt
    refine ⟨hlt, ?_⟩
    rintro (⟨k, e, hk⟩ | h)
    · exact lD_x hD j k q (q.1, e) hj hk rfl
    · omega
  exact ⟨va_P.app ((lP_l hP).kept (fun k q hq => hk q.1 (apart k q hq).1 (apart k q hq).2)) hP1, va_D.app (lD_l hD) (hD1.weaken (fun _ q _ h => hF q.1 h)) (fun i j p q hp hq e => (apart i p hp).2 (by rw [e]; exact hD1.2 j q hq))⟩
theorem ls_v21 : (Cond.classLink "TypeOrThingLaw" 8 "TypeOrThing" : Cond) ∈ jn_T := jn_of (List.mem_of_getElem? (i := 21) (by decide +kernel)) (by decide +kernel)
theorem ls_v23 : (Cond.methodLink "TypeOrThingLaw" 28 ⟨"TypeOrThing", "<init>", "()V"⟩ : Cond) ∈ jn_T := jn_of (List.mem_of_getElem? (i := 23) (by decide +kernel)) (by decide +kernel)
theorem ls_v24 : (Cond.instanceMethod ⟨"TypeOrThing", "<init>", "()V"⟩ : Cond) ∈ jn_T := jn_of (List.mem_of_getElem? (i := 24) (by decide +kernel)) (by decide +kernel)
theorem ls_v25 : (Cond.code ⟨"TypeOrThing", "<init>", "()V"⟩ prog_1_method_1_code 1 none : Cond) ∈ jn_T := jn_of (List.mem_of_getElem? (i := 25) (by decide +kernel)) (by decide +kernel)
theorem ls_v854 : (Cond.classLink "TypeOrThingLaw" 29 "TypeOrThingModel" : Cond) ∈ jn_T := jn_of (List.mem_of_getElem? (i := 854) (by decide +kernel)) (by decide +kernel)
theorem ls_v856 : (Cond.methodLink "TypeOrThingLaw" 31 ⟨"TypeOrThingModel", "<init>", "()V"⟩ : Cond) ∈ jn_T := jn_of (List.mem_of_getElem? (i := 856) (by decide +kernel)) (by decide +kernel)
theorem ls_v857 : (Cond.instanceMethod ⟨"TypeOrThingModel", "<init>", "()V"⟩ : Cond) ∈ jn_T := jn_of (List.mem_of_getElem? (i := 857) (by decide +kernel)) (by decide +kernel)
theorem ls_v858 : (Cond.code ⟨"TypeOrThingModel", "<init>", "()V"⟩ prog_10_method_1_code 1 none : Cond) ∈ jn_T := jn_of (List.mem_of_getElem? (i := 858) (by decide +kernel)) (by decide +kernel)
theorem ls_v1 : (Cond.initialized "TypeOrThing" : Cond) ∈ jn_T := jn_of (List.mem_of_getElem? (i := 1) (by decide +kernel)) (by decide +kernel)
theorem ls_v9 : (Cond.initialized "TypeOrThingModel" : Cond) ∈ jn_T := jn_of (List.mem_of_getElem? (i := 9) (by decide +kernel)) (by decide +kernel)
section
variable {p : Program} {e : Env} {s : State} {m : MethodId} {below : List Frame} {meth : Method} {c : Code} {D : va_G} {dA : Nat → ClassId} {Q : State → Prop} {la lv : Nat → Nat} {lc : Nat}
/-- the object of the class is made -/
theorem lw_newC (l : Launch) {b : Nat} {ls : Array Slot} (hC : CallFix p m c code 7 s #[Value.ref b] jn_T "TypeOrThingLaw") (hK : va_K D jn_cl (ja_ty dA) s) (hN : jc_N s) (hl : ls.size = 7)
    (kk : ∀ (g : Nat → Nat) (H : Heap) (locs : List Loc), va_P D jn_cl (ja_ws dA (ladm g la lv lc) jl_c lwC0) H → va_D (fun q => s.heap.size ≤ q) (ja_ws dA (ladm g la lv lc) jl_c lwC0) → va_S (fun q => s.heap.size ≤ q) s.heap H locs → W p l e room_1 s m #[Value.ref b] below meth c H locs (0 + 1 + 25) (0 + 8 + 3095) Q (F0 m 7 ls [.ref (g 0)])) : W p l e room_1 s m #[Value.ref b] below meth c s.heap [] 0 0 Q (F0 m 0 ls []) := by
  obtain ⟨hx, hb, hml, hown, hts⟩ := hC
  have hA : ∀ q : Nat, s.heap.size ≤ q → (fun q => s.heap.size ≤ q) q := fun _ h => h
  have hS : va_S (fun q => s.heap.size ≤ q) s.heap s.heap [] := va_S.rf
  have hP : va_P D jn_cl [] s.heap := fun k q hk => by simp at hk
  have hD : va_D (fun q => s.heap.size ≤ q) [] := ⟨fun i j p q hp => by simp at hp, fun k q hk => by simp at hk⟩
  refine va_new (ci := 1) (fs := [.null, .int 0, .int 0, .int 0, .null, .null, .null, .null]) (C := "TypeOrThing") (T := jn_F1) (N := 8) hx hb hts jn_i1 jn_y1 jn_t1 hown (hts _ ls_v21) (hts _ ls_i1) (hts _ ls_v1) hK hP hD hS hA rfl (by decide) (Nat.le_of_ble_eq_true rfl) (Nat.le_of_ble_eq_true rfl) dw_0 (fun q0 H hP hD hS => ?_)
  have hP : va_P D jn_cl [(q0, .inr (1, [.null, .int 0, .int 0, .int 0, .null, .null, .null, .null]))] H := hP
  have hD : va_D (fun q => s.heap.size ≤ q) [(q0, .inr (1, [.null, .int 0, .int 0, .int 0, .null, .null, .null, .null]))] := hD
  refine lv_dup hx hb dw_3 rfl ?_
  have hFc := ja_free hD hS hA
  refine va_callv (va_runI (As := []) (rest := [.ref q0]) ⟨hx, hb, hml, hown, hts⟩ (kt_Tt l D dA q0 H.size) (cwI 0 hts (jn_gC ls_v25) rfl rfl rfl (hts _ ls_v1) (hts _ ls_v23) (hts _ ls_v24) rfl (by decide +kernel) ⟨Nat.le_of_ble_eq_true rfl, Nat.le_of_ble_eq_true rfl⟩) ⟨fun a U g mk q => by obtain ⟨q0, q1, qP, qK, qN, qD⟩ := q; exact ⟨q0, q1, qP, va_K.moved (u := U) (U := U.calling g mk a) (Vm.Alike.refl U.vm) qK, jc_NC qN, qD⟩, fun U hU hW => ⟨rfl, by rw [hU], by rw [hU]; exact hP, va_K.moved hW.alike hK, jc_NU hW hN, (hD).weaken (fun _ _ _ _ => trivial)⟩⟩ rfl rfl hl rfl (lv_room (Nat.le_of_ble_eq_true rfl)) dw_4 ⟨Nat.le_of_ble_eq_true rfl, Nat.le_of_ble_eq_true rfl⟩) hS (fun q _ h => hFc q h) hFc (fun u t H1 locs ht hvm _ hB hz1 hk1 hS => ?_)
  obtain ⟨hP1, hD1⟩ := hB
  rw [ht] at hP1
  have hP2 : va_P D jn_cl (ja_ws dA (ladm (fun i => [q0, u 0, u 1, u 4, u 16, u 18, u 2, u 3, u 5, u 7, u 8, u 9, u 10, u 11, u 12, u 13, u 14, u 15, u 17, u 6, u 19, u 20, u 21, u 22, u 23, u 24].getD i 0) la lv lc) jl_c lwC0) H1 := by
    rw [lc_ws]
    exact hP1.sub [0, 1, 2, 19, 16, 18, 3, 4, 5, 7, 8, 9, 10, 11, 12, 13, 14, 15, 17, 6, 20, 21, 22, 23, 24, 25] rfl
  have hD2 : va_D (va_A [(q0, .inr (1, [.null, .int 0, .int 0, .int 0, .null, .null, .null, .null]))] H.size) (ja_ws dA (ladm (fun i => [q0, u 0, u 1, u 4, u 16, u 18, u 2, u 3, u 5, u 7, u 8, u 9, u 10, u 11, u 12, u 13, u 14, u 15, u 17, u 6, u 19, u 20, u 21, u 22, u 23, u 24].getD i 0) la lv lc) jl_c lwC0) := by
    rw [lc_ws]
    exact hD1.sub [0, 1, 2, 19, 16, 18, 3, 4, 5, 7, 8, 9, 10, 11, 12, 13, 14, 15, 17, 6, 20, 21, 22, 23, 24, 25] (by decide) rfl
  exact kk _ H1 locs hP2 (hD2.weaken (fun _ q _ h => hFc q.1 h)) hS
/-- the reference is made beside it -/
theorem lw_newR (l : Launch) {b c0 s0 : Nat} {ls : Array Slot} {wr : va_W} {H : Heap} {locs : List Loc} (hC : CallFix p m c code 7 s #[Value.ref b] jn_T "TypeOrThingLaw") (hK : va_K D jn_cl (ja_ty dA) s) (hN : jc_N s) (hl : ls.size = 7) (hP : va_P D jn_cl wr H) (hD : va_D (fun q => s.heap.size ≤ q) wr) (hS : va_S (fun q => s.heap.size ≤ q) s.heap H locs) (hc : c0 + 1 + 20 ≤ 601024) (hs : s0 + 40 + 18116 ≤ 7293034)
    (kk : ∀ (g : Nat → Nat) (H : Heap) (locs : List Loc), va_P D jn_cl (wr ++ ja_ws dA (ladm g la lv lc) jl_r lwR0) H → va_D (fun q => s.heap.size ≤ q) (wr ++ ja_ws dA (ladm g la lv lc) jl_r lwR0) → va_S (fun q => s.heap.size ≤ q) s.heap H locs → W p l e room_1 s m #[Value.ref b] below meth c H locs (c0 + 1 + 20) (s0 + 40 + 18116) Q (F0 m 15 ls [.ref (g 0)])) : W p l e room_1 s m #[Value.ref b] below meth c H locs c0 s0 Q (F0 m 8 ls []) := by
  obtain ⟨hx, hb, hml, hown, hts⟩ := hC
  have hA : ∀ q : Nat, s.heap.size ≤ q → (fun q => s.heap.size ≤ q) q := fun _ h => h
  refine va_new (ci := 0) (fs := [.int 0, .null, .int 0, .int 0, .null, .null, .null, .null, .null, .int 0, .int 0, .int 0, .int 0, .null, .null, .int 0, .int 0, .int 0, .int 0, .null, .int 0, .null, .null, .null, .null, .null, .null, .int 0, .null, .null, .int 0, .null, .int 0, .int 0, .int 0, .int 0, .null, .int 0, .int 0, .null]) (C := "TypeOrThingModel") (T := jn_F0) (N := 40) hx hb hts jn_i0 jn_y0 jn_t0 hown (hts _ ls_v854) (hts _ ls_i0) (hts _ ls_v9) hK hP hD hS hA rfl (by decide) (show c0 + 1 ≤ 601024 by omega) (show s0 + 40 ≤ 7293034 by omega) dw_8 (fun q8 H hP hD hS => ?_)
  refine lv_dup hx hb dw_11 rfl ?_
  have hPc := lP_r hP
  have hDc := lD_r hD
  have hFc := ja_free hDc hS hA
  refine va_callv (va_runI (As := []) (rest := [.ref q8]) ⟨hx, hb, hml, hown, hts⟩ (kt_Md l D dA q8 H.size) (cwI 0 hts (jn_gC ls_v858) rfl rfl rfl (hts _ ls_v9) (hts _ ls_v856) (hts _ ls_v857) rfl (by decide +kernel) ⟨Nat.le_of_ble_eq_true rfl, Nat.le_of_ble_eq_true rfl⟩) ⟨fun a U g mk q => by obtain ⟨q0, q1, qP, qK, qN, qD⟩ := q; exact ⟨q0, q1, qP, va_K.moved (u := U) (U := U.calling g mk a) (Vm.Alike.refl U.vm) qK, jc_NC qN, qD⟩, fun U hU hW => ⟨rfl, by rw [hU], by rw [hU]; exact hPc, va_K.moved hW.alike hK, jc_NU hW hN, (hDc).weaken (fun _ _ _ _ => trivial)⟩⟩ rfl rfl hl rfl (lv_room (Nat.le_of_ble_eq_true rfl)) dw_12 ⟨show c0 + 1 + 20 ≤ 601024 by omega, show s0 + 40 + 18116 ≤ 7293034 by omega⟩) hS (fun q _ h => hFc q h) hFc (fun u t H1 locs ht hvm _ hB hz1 hk1 hS => ?_)
  obtain ⟨hP1, hD1⟩ := hB
  rw [ht] at hP1
  have hP2 : va_P D jn_cl (ja_ws dA (ladm (fun i => [q8, u 0, u 1, u 2, u 3, u 4, u 5, u 6, u 7, u 8, u 9, u 10, u 11, u 12, u 13, u 14, u 15, u 16, u 17, u 18, u 19].getD i 0) la lv lc) jl_r lwR0) H1 := by
    rw [lr_ws]
    exact hP1
  have hD2 : va_D (va_A [(q8, .inr (0, [.int 0, .null, .int 0, .int 0, .null, .null, .null, .null, .null, .int 0, .int 0, .int 0, .int 0, .null, .null, .int 0, .int 0, .int 0, .int 0, .null, .int 0, .null, .null, .null, .null, .null, .null, .int 0, .null, .null, .int 0, .null, .int 0, .int 0, .int 0, .int 0, .null, .int 0, .int 0, .null]))] H.size) (ja_ws dA (ladm (fun i => [q8, u 0, u 1, u 2, u 3, u 4, u 5, u 6, u 7, u 8, u 9, u 10, u 11, u 12, u 13, u 14, u 15, u 16, u 17, u 18, u 19].getD i 0) la lv lc) jl_r lwR0) := by
    rw [lr_ws]
    exact hD1
  obtain ⟨hP3, hD3⟩ := l_join hP hD hk1 hFc hP2 hD2
  exact kk _ H1 locs hP3 hD3 hS
end
