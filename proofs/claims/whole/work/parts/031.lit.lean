/-! literals: what the JDK's code does with them. A literal is the place 100 + i, its bytes 200 + i -/
def ji_lk (q : Nat) : Bool := Nat.ble 100 q && Nat.ble q 109
def ji_vk (q : Nat) : Bool := Nat.ble 200 q && Nat.ble q 209
def js_lds (i n : Nat) : ja_S := fun _ _ K L st w => K n L (.ref (100 + i) :: st) w
def js_gco (n : Nat) : ja_S := fun _ _ K L st w => match st with
  | .ref q :: t => ji_lk q = true ∧ K n L (.int 0 :: t) w
  | _ => False
def js_gva (n : Nat) : ja_S := fun _ _ K L st w => match st with
  | .ref q :: t => ji_lk q = true ∧ K n L (.ref (q + 100) :: t) w
  | _ => False
def js_sco (n : Nat) : ja_S := fun _ _ K L st w => K n L (.int 1 :: st) w
def js_sfm (n : Nat) : ja_S := fun _ _ K L st w => K n L (.ref 300 :: st) w ∧ K n L (.null :: st) w
def js_bal (n : Nat) : ja_S := fun _ _ K L st w => match st with
  | .int i :: .ref q :: t => ji_vk q = true ∧ vp_in i (ji_len.getD (q - 200) 0) ∧ K n L (.int ((ji_byt.getD (q - 200) []).getD i.toNatClampNeg 0) :: t) w
  | _ => False
def js_alk (n : Nat) : ja_S := fun _ _ K L st w => match st with
  | .ref q :: t => ji_vk q = true ∧ K n L (.int (Int32.ofNat (ji_len.getD (q - 200) 0)) :: t) w
  | _ => False
/-- a call of a literal's method -/
def js_ck (j na n : Nat) : ja_S := fun C _ K L st w => match st.drop na with
  | .ref q :: t => ji_lk q = true ∧ Nat.ble (t.map fun v => v.category).sum 8 = true ∧ ∃ (v : Option Value) (w1 : ja_w), C j (.ref q :: (st.take na).reverse) w (.inl v) w1 ∧ K n L (v.toList ++ t) w1
  | _ => False
theorem ji_lkE {q : Nat} (h : ji_lk q = true) : ∃ i, i < 10 ∧ q = 100 + i := by
  unfold ji_lk at h
  simp only [Bool.and_eq_true] at h
  have h1 := Nat.le_of_ble_eq_true h.1
  have h2 := Nat.le_of_ble_eq_true h.2
  exact ⟨q - 100, by omega, by omega⟩
theorem ji_vkE {q : Nat} (h : ji_vk q = true) : ∃ i, i < 10 ∧ q = 200 + i := by
  unfold ji_vk at h
  simp only [Bool.and_eq_true] at h
  have h1 := Nat.le_of_ble_eq_true h.1
  have h2 := Nat.le_of_ble_eq_true h.2
  exact ⟨q - 200, by omega, by omega⟩
section
variable {p : Program} {l : Launch} {e : Env} {R : Room} {s : State} {m : MethodId} {args : Array Value} {below : List Frame} {meth : Method} {c : Code} {D : va_G} {dA : Nat → ClassId} {ad : Nat → Nat} {lay : List ja_E} {A : Nat → Prop} {r : ja_O × ja_w} {nL c0 s0 kc ks : Nat}
variable {own : String} {cc : ByteArray} {rt : Option FieldType} {d : Nat} {CC : ja_C} {pc : Nat}
theorem ji_K (X : ja_X p l e R s m args below meth c D dA ad A r nL c0 s0 kc ks own cc rt d) : ja_Ks ad A s := X.2.2.2.2.2.2.2.2.2.2.1.2.2.2.2.2
theorem jo_lds (X : ja_X p l e R s m args below meth c D dA ad A r nL c0 s0 kc ks "TypeOrThing$Tokens" cc rt d) {idx i : Nat} {tx : String} (hi : (idx, tx, i) ∈ ji_lit) (hd : decode cc pc = .ok (.ldc idx, 2)) : ja_ok p l e R s m args below meth c D dA ad lay A r nL c0 s0 kc ks CC pc (js_lds i (pc + 2)) := by
  intro K hK L st w h ls H locs hl hP hD hS
  exact va_ldcS X.1 X.2.1 X.2.2.2.1 ((ji_K X).2.2.2 _ hi) hd (hK _ _ _ _ h ls H locs hl hP hD hS)
theorem jo_gco (X : ja_X p l e R s m args below meth c D dA ad A r nL c0 s0 kc ks own cc rt d) {idx : Nat} (hlk : Cond.fieldLink own idx "java/lang/String" "coder" "B" ∈ jn_T) (hd : decode cc pc = .ok (.getfield idx, 3)) : ja_ok p l e R s m args below meth c D dA ad lay A r nL c0 s0 kc ks CC pc (js_gco (pc + 3)) := by
  intro K hK L st w h ls H locs hl hP hD hS
  unfold js_gco at h
  split at h
  · rename_i q t
    obtain ⟨hq, h⟩ := h
    obtain ⟨i, hi, rfl⟩ := ji_lkE hq
    exact vk_getf X.1 X.2.1 ((ji_K X).2.2.1.1 i hi).2.1 hS X.2.2.2.1 (X.2.2.2.2.1 _ hlk) (fun _ z => z) hd (hK _ _ _ _ h ls H locs hl hP hD hS)
  · exact h.elim
theorem jo_gva (X : ja_X p l e R s m args below meth c D dA ad A r nL c0 s0 kc ks own cc rt d) {idx : Nat} (hlk : Cond.fieldLink own idx "java/lang/String" "value" "[B" ∈ jn_T) (hd : decode cc pc = .ok (.getfield idx, 3)) : ja_ok p l e R s m args below meth c D dA ad lay A r nL c0 s0 kc ks CC pc (js_gva (pc + 3)) := by
  intro K hK L st w h ls H locs hl hP hD hS
  unfold js_gva at h
  split at h
  · rename_i q t
    obtain ⟨hq, h⟩ := h
    obtain ⟨i, hi, rfl⟩ := ji_lkE hq
    have hv := hK _ _ _ _ h ls H locs hl hP hD hS
    rw [show 100 + i + 100 = 200 + i from by omega] at hv
    exact vk_getf X.1 X.2.1 ((ji_K X).2.2.1.1 i hi).2.2.1 hS X.2.2.2.1 (X.2.2.2.2.1 _ hlk) (fun _ z => z) hd hv
  · exact h.elim
theorem jo_sco (X : ja_X p l e R s m args below meth c D dA ad A r nL c0 s0 kc ks own cc rt d) {idx : Nat} (hlk : Cond.fieldLink own idx "java/lang/String" "COMPACT_STRINGS" "Z" ∈ jn_T) (hd : decode cc pc = .ok (.getstatic idx, 3)) : ja_ok p l e R s m args below meth c D dA ad lay A r nL c0 s0 kc ks CC pc (js_sco (pc + 3)) := by
  intro K hK L st w h ls H locs hl hP hD hS
  exact va_gets X.1 X.2.1 (ji_K X).1 hS X.2.2.2.1 (X.2.2.2.2.1 _ hlk) (fun _ z => z) hd (hK _ _ _ _ h ls H locs hl hP hD hS)
theorem jo_sfm (X : ja_X p l e R s m args below meth c D dA ad A r nL c0 s0 kc ks own cc rt d) {idx : Nat} (hlk : Cond.fieldLink own idx "jdk/internal/util/Preconditions" "SIOOBE_FORMATTER" "Ljava/util/function/BiFunction;" ∈ jn_T) (hd : decode cc pc = .ok (.getstatic idx, 3)) : ja_ok p l e R s m args below meth c D dA ad lay A r nL c0 s0 kc ks CC pc (js_sfm (pc + 3)) := by
  intro K hK L st w h ls H locs hl hP hD hS
  obtain ⟨v, hv, hZ⟩ := (ji_K X).2.1
  rcases hv with rfl | rfl
  · exact va_gets X.1 X.2.1 hZ hS X.2.2.2.1 (X.2.2.2.2.1 _ hlk) (fun _ z => z) hd (hK _ _ _ _ h.2 ls H locs hl hP hD hS)
  · exact va_gets X.1 X.2.1 hZ hS X.2.2.2.1 (X.2.2.2.2.1 _ hlk) (fun _ z => z) hd (hK _ _ _ _ h.1 ls H locs hl hP hD hS)
theorem jo_bal (X : ja_X p l e R s m args below meth c D dA ad A r nL c0 s0 kc ks own cc rt d) (hd : decode cc pc = .ok (.baload, 1)) : ja_ok p l e R s m args below meth c D dA ad lay A r nL c0 s0 kc ks CC pc (js_bal (pc + 1)) := by
  intro K hK L st w h ls H locs hl hP hD hS
  unfold js_bal at h
  split at h
  · rename_i i q t
    obtain ⟨hq, hin, h⟩ := h
    obtain ⟨k, hk, rfl⟩ := ji_vkE hq
    rw [show 200 + k - 200 = k from by omega] at hin h
    exact va_tb X.1 X.2.1 ((ji_K X).2.2.1.1 k hk).2.2.2 hS hin rfl hd (hK _ _ _ _ h ls H locs hl hP hD hS)
  · exact h.elim
theorem jo_alk (X : ja_X p l e R s m args below meth c D dA ad A r nL c0 s0 kc ks own cc rt d) (hd : decode cc pc = .ok (.arraylength, 1)) : ja_ok p l e R s m args below meth c D dA ad lay A r nL c0 s0 kc ks CC pc (js_alk (pc + 1)) := by
  intro K hK L st w h ls H locs hl hP hD hS
  unfold js_alk at h
  split at h
  · rename_i q t
    obtain ⟨hq, h⟩ := h
    obtain ⟨k, hk, rfl⟩ := ji_vkE hq
    rw [show 200 + k - 200 = k from by omega] at h
    exact va_tlen X.1 X.2.1 ((ji_K X).2.2.1.1 k hk).2.2.2 hS rfl hd (hK _ _ _ _ h ls H locs hl hP hD hS)
  · exact h.elim
theorem jo_ck (X : ja_X p l e R s m args below meth c D dA ad A r nL c0 s0 kc ks own cc rt d) {idx j na : Nat} {y : MethodName} {bytes : ByteArray} {maxL : Nat} {ret : Option FieldType} {wj Tj : List Cond} (hw : wj = Cond.code y bytes maxL ret :: Tj) (hM : ∀ as w v w1, CC j as w (.inl v) w1 → ja_Met l D dA ad lay y wj d as w (.inl v) w1) (hG : GoodIn jn_T (wsV own idx "java/lang/String" y wj)) (hy : y.cls = "java/lang/String" ∧ y.cls ≠ "java/lang/invoke/MethodHandle" ∧ y.cls ≠ "java/lang/invoke/VarHandle" ∧ (parseMethodDescriptor y.desc).map (fun d => d.parameters.length) = some na) (hm : maxL ≤ 21) (hd : decode cc pc = .ok (.invokevirtual idx, 3)) : ja_ok p l e R s m args below meth c D dA ad lay A r nL c0 s0 kc ks CC pc (js_ck j na (pc + 3)) := by
  intro K hK L st w h ls H locs hl hP hD hS
  unfold js_ck at h
  split at h
  · rename_i q t hst
    obtain ⟨hq, h1, v, w1, hcall, hk⟩ := h
    obtain ⟨i, hi, rfl⟩ := ji_lkE hq
    have hF : ∀ x, va_A (ja_ws dA ad lay w) H.size x → A x := ja_free hD hS X.2.2.2.2.2.2.2.2.1
    obtain ⟨hQ1, hQ2, hQ3, hQ4, hQ5, hQ6, hQ7⟩ := X.2.2.2.2.2.2.2.2.2.1
    have hR1 : (ja_rm d (.inl v)).frames + 1 ≤ R.frames := by show 12 + d + 1 ≤ R.frames; omega
    have hR2 : 8 + (maxL + 11) + (ja_rm d (.inl v)).locals ≤ R.locals := by show 8 + (maxL + 11) + (300 + 40 * d) ≤ R.locals; omega
    have hlen := ja_tkl hst
    have hst2 : st.map (ja_tv ad) = (((st.take na).reverse).map (ja_tv ad)).reverse ++ .ref (ad (100 + i)) :: t.map (ja_tv ad) := by
      rw [← List.map_reverse, List.reverse_reverse]
      conv => lhs; rw [← List.take_append_drop na st, hst]
      simp [ja_tv]
    refine ja_back (va_runV (As := ((st.take na).reverse).map (ja_tv ad)) (rest := t.map (ja_tv ad)) ⟨X.1, X.2.1, X.2.2.1, X.2.2.2.1, X.2.2.2.2.1⟩ (hM _ w v w1 hcall H.size) (cwV na X.2.2.2.2.1 hG hw rfl rfl hy ⟨hR1, hR2⟩) ⟨ja_blind, vk_recv (adK := fun i => ad (100 + i)) (adV := fun i => ad (200 + i)) (ji_K X).2.2.1 hi hS, ja_preU (as := .ref (100 + i) :: (st.take na).reverse) X.2.2.2.2.2.2.2.1 X.2.2.2.2.2.2.2.2.2.2.1 X.2.2.2.2.2.2.2.2.1 hP hD hS⟩ rfl (by rw [List.length_map, List.length_reverse, hlen]) hl.1 hst2 (lv_room (by rw [ja_sum]; exact Nat.le_of_ble_eq_true h1)) hd ⟨by omega, by omega⟩) hS (fun x _ z => hF x z) hF hF (fun H1 locs1 hP1 hD1 hS1 => ?_)
    rw [ja_vtl]
    exact hK _ _ _ _ hk ls H1 locs1 hl hP1 hD1 hS1
  · exact h.elim
end
