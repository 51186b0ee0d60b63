/-! What the Statement gives of the start. -/
theorem ls_i0 : (Cond.instantiable "TypeOrThingModel" 40 : Cond) ∈ jn_T := jn_of (List.mem_of_getElem? (i := 855) (by decide +kernel)) (by decide +kernel)
theorem ls_i1 : (Cond.instantiable "TypeOrThing" 8 : Cond) ∈ jn_T := jn_of (List.mem_of_getElem? (i := 22) (by decide +kernel)) (by decide +kernel)
theorem ls_i2 : (Cond.instantiable "TypeOrThing$Tape" 2 : Cond) ∈ jn_T := jn_of (List.mem_of_getElem? (i := 62) (by decide +kernel)) (by decide +kernel)
theorem ls_i3 : (Cond.instantiable "TypeOrThing$Tokens" 4 : Cond) ∈ jn_T := jn_of (List.mem_of_getElem? (i := 30) (by decide +kernel)) (by decide +kernel)
theorem ls_i4 : (Cond.instantiable "TypeOrThing$Cursor" 4 : Cond) ∈ jn_T := jn_of (List.mem_of_getElem? (i := 147) (by decide +kernel)) (by decide +kernel)
theorem ls_i5 : (Cond.instantiable "TypeOrThing$Names" 14 : Cond) ∈ jn_T := jn_of (List.mem_of_getElem? (i := 56) (by decide +kernel)) (by decide +kernel)
theorem ls_i6 : (Cond.instantiable "TypeOrThing$Declarators" 4 : Cond) ∈ jn_T := jn_of (List.mem_of_getElem? (i := 169) (by decide +kernel)) (by decide +kernel)
theorem ls_i7 : (Cond.instantiable "TypeOrThing$Expressions" 9 : Cond) ∈ jn_T := jn_of (List.mem_of_getElem? (i := 188) (by decide +kernel)) (by decide +kernel)
theorem ls_i8 : (Cond.instantiable "TypeOrThing$Programs" 6 : Cond) ∈ jn_T := jn_of (List.mem_of_getElem? (i := 141) (by decide +kernel)) (by decide +kernel)
theorem ls_a0 : (Cond.arrayClass .int : Cond) ∈ jn_T := jn_of (List.mem_of_getElem? (i := 53) (by decide +kernel)) (by decide +kernel)
theorem ls_a1 : (Cond.arrayClass .char : Cond) ∈ jn_T := jn_of (List.mem_of_getElem? (i := 52) (by decide +kernel)) (by decide +kernel)
theorem ls_a2 : (Cond.arrayClass .long : Cond) ∈ jn_T := jn_of (List.mem_of_getElem? (i := 54) (by decide +kernel)) (by decide +kernel)
theorem ls_arr {s : State} {args : Array Value} {ty : FieldType} (h : (Cond.arrayClass ty).before args s = true) : ∃ c : ClassId, ArrOfT s c ty ∧ s.vm.findClass ("[" ++ ty.toString) = some c := by
  obtain ⟨c, k, comp, h1, h2, h3⟩ := Cond.arrayClass_spec h
  exact ⟨c, fun N z => ⟨(fun k h => by cases h), k, h2, comp, h3⟩, h1⟩
theorem ls_K {s : State} {args : Array Value} (hts : ∀ w ∈ jn_T, w.before args s = true) : ∃ (D : va_G) (dA : Nat → ClassId), va_K D jn_cl (ja_ty dA) s := by
  have hC : ∀ c : Nat, ∃ q : ClassId × (Nat → Nat), ∀ r : vw_C, jn_cl[c]? = some r → u_Kn s r.1 r.2.1 r.2.2 q.1 q.2 := by
    intro c
    match c with
    | 0 =>
      obtain ⟨a, b, h⟩ := u_known hts jn_i0 (hts _ ls_i0)
      exact ⟨(a, b), fun r hr => by cases hr; exact h⟩
    | 1 =>
      obtain ⟨a, b, h⟩ := u_known hts jn_i1 (hts _ ls_i1)
      exact ⟨(a, b), fun r hr => by cases hr; exact h⟩
    | 2 =>
      obtain ⟨a, b, h⟩ := u_known hts jn_i2 (hts _ ls_i2)
      exact ⟨(a, b), fun r hr => by cases hr; exact h⟩
    | 3 =>
      obtain ⟨a, b, h⟩ := u_known hts jn_i3 (hts _ ls_i3)
      exact ⟨(a, b), fun r hr => by cases hr; exact h⟩
    | 4 =>
      obtain ⟨a, b, h⟩ := u_known hts jn_i4 (hts _ ls_i4)
      exact ⟨(a, b), fun r hr => by cases hr; exact h⟩
    | 5 =>
      obtain ⟨a, b, h⟩ := u_known hts jn_i5 (hts _ ls_i5)
      exact ⟨(a, b), fun r hr => by cases hr; exact h⟩
    | 6 =>
      obtain ⟨a, b, h⟩ := u_known hts jn_i6 (hts _ ls_i6)
      exact ⟨(a, b), fun r hr => by cases hr; exact h⟩
    | 7 =>
      obtain ⟨a, b, h⟩ := u_known hts jn_i7 (hts _ ls_i7)
      exact ⟨(a, b), fun r hr => by cases hr; exact h⟩
    | 8 =>
      obtain ⟨a, b, h⟩ := u_known hts jn_i8 (hts _ ls_i8)
      exact ⟨(a, b), fun r hr => by cases hr; exact h⟩
    | n + 9 => exact ⟨(0, fun _ => 0), fun r hr => by have h2 : (none : Option vw_C) = some r := hr; cases h2⟩
  obtain ⟨q, hq⟩ := Classical.axiomOfChoice hC
  obtain ⟨c0, f0, g0⟩ := ls_arr (hts _ ls_a0)
  obtain ⟨c1, f1, g1⟩ := ls_arr (hts _ ls_a1)
  obtain ⟨c2, f2, g2⟩ := ls_arr (hts _ ls_a2)
  refine ⟨(fun c => (q c).1, fun c => (q c).2), fun k => match k with | 0 => c0 | 1 => c1 | _ => c2, fun c r hr => hq c r hr, fun k r hr => ?_⟩
  match k with
  | 0 => cases hr; exact ⟨f0, g0⟩
  | 1 => cases hr; exact ⟨f1, g1⟩
  | 2 => cases hr; exact ⟨f2, g2⟩
  | n + 3 => exact absurd (show (none : Option (ClassId × FieldType)) = some r from hr) (by intro h; cases h)
def ls_fl : List Cond := flatC (Jvm.Cond.and given_1 narrow_1)
def ls_tm (i : Nat) : Term := .string "TypeOrThing$Tokens" ([56, 63, 69, 71, 73, 75, 77, 79, 81, 83].getD i 0)
theorem ls_m1 : ∀ i : Nat, i < 10 → Cond.exactly (ls_tm i) "java/lang/String" ∈ ls_fl := by decide +kernel
theorem ls_m2 : ∀ i : Nat, i < 10 → Cond.eq (.field (ls_tm i) "java/lang/String" "coder" "B") (.int 0) ∈ ls_fl := by decide +kernel
theorem ls_m3 : ∀ i : Nat, i < 10 → Cond.arrayOf (.field (ls_tm i) "java/lang/String" "value" "[B") .byte ∈ ls_fl := by decide +kernel
theorem ls_m4 : ∀ i : Nat, i < 10 → Cond.eq (.length (.field (ls_tm i) "java/lang/String" "value" "[B")) (.int (Int32.ofNat (ji_len.getD i 0))) ∈ ls_fl := by decide +kernel
theorem ls_m5 : ∀ i : Nat, i < 10 → ∀ j : Nat, j < ji_len.getD i 0 → Cond.eq (.elem (.field (ls_tm i) "java/lang/String" "value" "[B") (.int (Int32.ofNat j))) (.int ((ji_byt.getD i []).getD j 0)) ∈ ls_fl := by decide +kernel
theorem ls_m6 : ∀ i : Nat, i < 10 → ∀ j : Nat, j < 10 → i ≠ j → Cond.not (Cond.eq (ls_tm i) (ls_tm j)) ∈ ls_fl ∨ Cond.not (Cond.eq (ls_tm j) (ls_tm i)) ∈ ls_fl := by decide +kernel
theorem ls_m7 : ∀ i : Nat, i < 10 → ji_len.getD i 0 < 2 ^ 31 := by decide +kernel
theorem ls_w1 : ∀ q ∈ jn_NW, Cond.methodLinkNest q.1 q.2.1 q.2.2.1 q.2.2.2 ∈ tables_1 := List.forall_mem_cons.mpr ⟨List.mem_of_getElem? (i := 31) (by decide +kernel), List.forall_mem_cons.mpr ⟨List.mem_of_getElem? (i := 63) (by decide +kernel), List.forall_mem_cons.mpr ⟨List.mem_of_getElem? (i := 139) (by decide +kernel), List.forall_mem_cons.mpr ⟨List.mem_of_getElem? (i := 656) (by decide +kernel), fun _ h => absurd h List.not_mem_nil⟩⟩⟩⟩
theorem ls_w2 : ∀ x ∈ jn_De, Cond.declares x ∈ tables_1 := List.forall_mem_cons.mpr ⟨List.mem_of_getElem? (i := 518) (by decide +kernel), List.forall_mem_cons.mpr ⟨List.mem_of_getElem? (i := 519) (by decide +kernel), List.forall_mem_cons.mpr ⟨List.mem_of_getElem? (i := 520) (by decide +kernel), List.forall_mem_cons.mpr ⟨List.mem_of_getElem? (i := 521) (by decide +kernel), List.forall_mem_cons.mpr ⟨List.mem_of_getElem? (i := 522) (by decide +kernel), List.forall_mem_cons.mpr ⟨List.mem_of_getElem? (i := 523) (by decide +kernel), fun _ h => absurd h List.not_mem_nil⟩⟩⟩⟩⟩⟩
theorem ls_w3 : ∀ x ∈ jn_Ex, Cond.castable x x ∈ tables_1 := List.forall_mem_cons.mpr ⟨List.mem_of_getElem? (i := 517) (by decide +kernel), List.forall_mem_cons.mpr ⟨List.mem_of_getElem? (i := 826) (by decide +kernel), fun _ h => absurd h List.not_mem_nil⟩⟩
theorem ls_w4 : ∀ q ∈ ji_lit, Cond.stringRef "TypeOrThing$Tokens" q.1 q.2.1 ∈ tables_1 := List.forall_mem_cons.mpr ⟨List.mem_of_getElem? (i := 341) (by decide +kernel), List.forall_mem_cons.mpr ⟨List.mem_of_getElem? (i := 431) (by decide +kernel), List.forall_mem_cons.mpr ⟨List.mem_of_getElem? (i := 456) (by decide +kernel), List.forall_mem_cons.mpr ⟨List.mem_of_getElem? (i := 457) (by decide +kernel), List.forall_mem_cons.mpr ⟨List.mem_of_getElem? (i := 458) (by decide +kernel), List.forall_mem_cons.mpr ⟨List.mem_of_getElem? (i := 459) (by decide +kernel), List.forall_mem_cons.mpr ⟨List.mem_of_getElem? (i := 460) (by decide +kernel), List.forall_mem_cons.mpr ⟨List.mem_of_getElem? (i := 461) (by decide +kernel), List.forall_mem_cons.mpr ⟨List.mem_of_getElem? (i := 462) (by decide +kernel), List.forall_mem_cons.mpr ⟨List.mem_of_getElem? (i := 463) (by decide +kernel), fun _ h => absurd h List.not_mem_nil⟩⟩⟩⟩⟩⟩⟩⟩⟩⟩
theorem ls_w5 : ∀ q ∈ ji_lit, q.2.2 < 10 ∧ [56, 63, 69, 71, 73, 75, 77, 79, 81, 83].getD q.2.2 0 = q.1 := by decide +kernel
def ladm (g la lv : Nat → Nat) (lc : Nat) : Nat → Nat := fun q => cond (Nat.ble 100 q) (cond (Nat.ble 200 q) (cond (Nat.ble 300 q) lc (lv (q - 200))) (la (q - 100))) (g q)
theorem ls_bf {a b : Nat} (h : b < a) : Nat.ble a b = false := by
  cases hb : Nat.ble a b with
  | false => rfl
  | true => exact absurd (Nat.le_of_ble_eq_true hb) (Nat.not_le.mpr h)
theorem ladm_a {g la lv : Nat → Nat} {lc i : Nat} (h : i < 10) : ladm g la lv lc (100 + i) = la i := by
  unfold ladm
  rw [Nat.ble_eq_true_of_le (show 100 ≤ 100 + i by omega), ls_bf (show 100 + i < 200 by omega), Nat.add_sub_cancel_left]
  rfl
theorem ladm_v {g la lv : Nat → Nat} {lc i : Nat} (h : i < 10) : ladm g la lv lc (200 + i) = lv i := by
  unfold ladm
  rw [Nat.ble_eq_true_of_le (show 100 ≤ 200 + i by omega), Nat.ble_eq_true_of_le (show 200 ≤ 200 + i by omega), ls_bf (show 200 + i < 300 by omega), Nat.add_sub_cancel_left]
  rfl
theorem ls_cg {N : Nat} {len : List Nat} {byt : List (List Int32)} {a v a' v' : Nat → Nat} {A : Nat → Prop} {U : State} {H : Heap} (h : vk_S N len byt a v A U H) (e1 : ∀ i, i < N → a' i = a i) (e2 : ∀ i, i < N → v' i = v i) : vk_S N len byt a' v' A U H :=
  ⟨fun i hi => by rw [e1 i hi, e2 i hi]; exact h.1 i hi, fun i j hi hj e => h.2 i j hi hj (by rw [← e1 i hi, ← e1 j hj]; exact e)⟩
theorem ls_Kz {s : State} {args : Array Value} (hts : ∀ w ∈ lw_tbl, w.before args s = true) (hg : (Jvm.Cond.and given_1 narrow_1).before args s = true) : ∃ (la lv : Nat → Nat) (lc : Nat), ∀ g : Nat → Nat, ja_Kz (ladm g la lv lc) (fun q => s.heap.size ≤ q) s := by
  have hfl : ∀ w ∈ ls_fl, w.before args s = true := flat_of_before _ hg
  have ht : ∀ w ∈ tables_1, w.before args s = true := fun w hw => hts w (List.mem_append_right _ hw)
  have hA : ∀ a : Nat, a < s.heap.size → ¬ (fun q => s.heap.size ≤ q) a := fun a ha h => absurd h (Nat.not_le.mpr ha)
  obtain ⟨la, lv, hS, hE⟩ := vk_Sof (args := args) (s := s) (N := 10) (tm := ls_tm) (len := ji_len) (byt := ji_byt) (A := fun q => s.heap.size ≤ q) ls_m7 (fun i hi => hfl _ (ls_m1 i hi)) (fun i hi => hfl _ (ls_m2 i hi)) (fun i hi => hfl _ (ls_m3 i hi)) (fun i hi => hfl _ (ls_m4 i hi)) (fun i hi j hj => hfl _ (ls_m5 i hi j hj)) (fun i j hi hj hij => (ls_m6 i hi j hj hij).imp (fun h => hfl _ h) (fun h => hfl _ h)) hA
  have hZ1 : va_Z "java/lang/String" "COMPACT_STRINGS" "Z" (.int 1) (fun q => s.heap.size ≤ q) s s.heap := va_Zof (args := args) (ht _ (List.mem_of_getElem? (i := 355) (by decide +kernel))) (ht _ (List.mem_of_getElem? (i := 10) (by decide +kernel))) (va_eqi (hfl _ (by decide +kernel))) hA
  have hZ2 : va_Zq "jdk/internal/util/Preconditions" "SIOOBE_FORMATTER" "Ljava/util/function/BiFunction;" (fun q => s.heap.size ≤ q) s s.heap := va_Zqof (args := args) (ht _ (List.mem_of_getElem? (i := 398) (by decide +kernel))) (ht _ (List.mem_of_getElem? (i := 14) (by decide +kernel))) (hfl _ (by decide +kernel)) hA
  have hX1 : jx_Z "UNASSIGNED_STACK" Bundle.steD (fun q => s.heap.size ≤ q) s s.heap := jx_Z.of (args := args) (ht _ (List.mem_of_getElem? (i := 542) (by decide +kernel))) (hfl _ (by decide +kernel)) hA
  have hX2 : jx_Z "SUPPRESSED_SENTINEL" Bundle.listD (fun q => s.heap.size ≤ q) s s.heap := jx_Z.of (args := args) (ht _ (List.mem_of_getElem? (i := 544) (by decide +kernel))) (hfl _ (by decide +kernel)) hA
  have hw1 : ∀ q ∈ jn_NW, va_Nw (.methodLinkNest q.1 q.2.1 q.2.2.1 q.2.2.2) s := fun q hq => va_Nw.of rfl (ht _ (ls_w1 q hq))
  have hw2 : ∀ x ∈ jn_De, va_Nw (.declares x) s := fun x hx => va_Nw.of rfl (ht _ (ls_w2 x hx))
  have hw3 : ∀ x ∈ jn_Ex, va_Nw (.castable x x) s := fun x hx => va_Nw.of rfl (ht _ (ls_w3 x hx))
  have hR : ∀ (g : Nat → Nat) (lc : Nat), ∀ q ∈ ji_lit, vk_R "TypeOrThing$Tokens" q.1 q.2.1 (ladm g la lv lc (100 + q.2.2)) s := by
    intro g lc q hq
    obtain ⟨h1, h2⟩ := ls_w5 q hq
    rw [ladm_a h1]
    have h3 := hE q.2.2 h1
    unfold ls_tm at h3
    rw [h2] at h3
    exact vk_R.of (A := args) (ht _ (ls_w4 q hq)) h3
  rcases hZ2 with h | ⟨t, h⟩
  · exact ⟨la, lv, 0, fun g => ⟨hw1, hw2, hw3, hX1, hX2, hZ1, ⟨.null, Or.inl rfl, h⟩, ls_cg hS (fun i hi => ladm_a hi) (fun i hi => ladm_v hi), hR g 0⟩⟩
  · exact ⟨la, lv, t, fun g => ⟨hw1, hw2, hw3, hX1, hX2, hZ1, ⟨.ref t, Or.inr rfl, h⟩, ls_cg hS (fun i hi => ladm_a hi) (fun i hi => ladm_v hi), hR g t⟩⟩
