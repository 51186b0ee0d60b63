/-! narrowing to a byte; a static call of another class; steps over literals -/
def js_i2b (n : Nat) : ja_S := fun _ _ K L st w => match st with
  | .int x :: t => K n L (.int x.toInt8.toInt32 :: t) w
  | _ => False
def js_bret : ja_S := fun _ r _ _ st w => match st with
  | [.int x] => narrow .byte (.int x) = .int x ∧ r = (.inl (some (.int x)), w)
  | _ => False
theorem jn_gA {own : String} {idx : Nat} {y : MethodName} {bytes : ByteArray} {maxL : Nat} {ret : Option FieldType} (h1 : Cond.methodLink own idx y ∈ jn_T) (h2 : Cond.static y ∈ jn_T) (h4 : Cond.initialized y.cls ∈ jn_T) (h5 : Cond.code y bytes maxL ret ∈ jn_T) : GoodIn jn_T (va_wsS own idx y (Cond.code y bytes maxL ret :: jn_T)) := by
  intro w hw
  have h : w ∈ jn_T := by
    rcases List.mem_append.mp hw with h | h
    · simp only [List.mem_cons, List.not_mem_nil, or_false] at h
      rcases h with rfl | rfl | rfl
      · exact h1
      · exact h2
      · exact h4
    · rcases List.mem_cons.mp h with rfl | h
      · exact h5
      · exact h
  exact ⟨h, jn_good h⟩
section
variable {p : Program} {l : Launch} {e : Env} {R : Room} {s : State} {m : MethodId} {args : Array Value} {below : List Frame} {meth : Method} {c : Code} {D : va_G} {dA : Nat → ClassId} {ad : Nat → Nat} {lay : List ja_E} {A : Nat → Prop} {r : ja_O × ja_w} {nL c0 s0 kc ks : Nat}
variable {own : String} {cc : ByteArray} {rt : Option FieldType} {d : Nat} {CC : ja_C} {pc : Nat}
theorem jo_i2b (X : ja_X p l e R s m args below meth c D dA ad A r nL c0 s0 kc ks own cc rt d) (hd : decode cc pc = .ok (.i2b, 1)) : ja_ok p l e R s m args below meth c D dA ad lay A r nL c0 s0 kc ks CC pc (js_i2b (pc + 1)) := by
  intro K hK L st w h ls H locs hl hP hD hS
  unfold js_i2b at h
  split at h
  · exact lv_i2b X.1 X.2.1 hd rfl (hK _ _ _ _ h ls H locs hl hP hD hS)
  · exact h.elim
theorem jo_bret (X : ja_X p l e R s m args below meth c D dA ad A r nL c0 s0 kc ks own cc (some .byte) d) (hd : decode cc pc = .ok (.ireturn, 1)) : ja_ok p l e R s m args below meth c D dA ad lay A r nL c0 s0 kc ks CC pc (js_bret) := by
  intro K hK L st w h ls H locs hl hP hD hS
  unfold js_bret at h
  split at h
  · obtain ⟨h1, h⟩ := h
    subst h
    exact W.widen X.2.2.2.2.2.2.2.2.2.1.2.2.2.2.1 X.2.2.2.2.2.2.2.2.2.1.2.2.2.2.2.1 (W.zret X.1 X.2.1 X.2.2.2.2.2.1 h1 (fun t ht hW => ⟨⟨rfl, by rw [ht]; exact hP, hD⟩, hS.F ht⟩) hS.2.2 hd X.2.2.2.2.2.2.1)
  · exact h.elim
theorem jo_ca (X : ja_X p l e R s m args below meth c D dA ad A r nL c0 s0 kc ks own cc rt d) {idx j na : Nat} {y : MethodName} {bytes : ByteArray} {maxL : Nat} {ret : Option FieldType} {wj Tj : List Cond} (hw : wj = Cond.code y bytes maxL ret :: Tj) (hM : ∀ as w v w1, CC j as w (.inl v) w1 → ja_Met l D dA ad lay y wj d as w (.inl v) w1) (hG : GoodIn jn_T (va_wsS own idx y wj)) (hy : y.cls ≠ "java/lang/invoke/MethodHandle" ∧ y.cls ≠ "java/lang/invoke/VarHandle" ∧ (parseMethodDescriptor y.desc).map (fun d => d.parameters.length) = some na) (hm : maxL ≤ 21) (hd : decode cc pc = .ok (.invokestatic idx, 3)) : ja_ok p l e R s m args below meth c D dA ad lay A r nL c0 s0 kc ks CC pc (js_cs j na (pc + 3)) := by
  intro K hK L st w h ls H locs hl hP hD hS
  unfold js_cs at h
  obtain ⟨h0, h1, v, w1, hcall, hk⟩ := h
  have hF : ∀ x, va_A (ja_ws dA ad lay w) H.size x → A x := ja_free hD hS X.2.2.2.2.2.2.2.2.1
  obtain ⟨hQ1, hQ2, hQ3, hQ4, hQ5, hQ6, hQ7⟩ := X.2.2.2.2.2.2.2.2.2.1
  have hR1 : (ja_rm d (.inl v)).frames + 1 ≤ R.frames := by show 12 + d + 1 ≤ R.frames; omega
  have hR2 : 8 + (maxL + 11) + (ja_rm d (.inl v)).locals ≤ R.locals := by show 8 + (maxL + 11) + (300 + 40 * d) ≤ R.locals; omega
  have hlen : (st.take na).length = na := by rw [List.length_take]; have := Nat.le_of_ble_eq_true h0; omega
  have hst2 : st.map (ja_tv ad) = (((st.take na).reverse).map (ja_tv ad)).reverse ++ (st.drop na).map (ja_tv ad) := by
    rw [← List.map_reverse, List.reverse_reverse, ← List.map_append, List.take_append_drop]
  refine ja_back (va_runS (As := ((st.take na).reverse).map (ja_tv ad)) (rest := (st.drop na).map (ja_tv ad)) ⟨X.1, X.2.1, X.2.2.1, X.2.2.2.1, X.2.2.2.2.1⟩ (hM _ w v w1 hcall H.size) (va_cwS na X.2.2.2.2.1 hG hw rfl rfl hy ⟨hR1, hR2⟩) ⟨ja_blind, ja_preU (as := (st.take na).reverse) X.2.2.2.2.2.2.2.1 X.2.2.2.2.2.2.2.2.2.2.1 X.2.2.2.2.2.2.2.2.1 hP hD hS⟩ rfl (by rw [List.length_map, List.length_reverse, hlen]) hl.1 hst2 (lv_room (by rw [ja_sum]; exact Nat.le_of_ble_eq_true h1)) hd ⟨by omega, by omega⟩) hS (fun x _ z => hF x z) hF hF (fun H1 locs1 hP1 hD1 hS1 => ?_)
  rw [ja_vtl]
  exact hK _ _ _ _ hk ls H1 locs1 hl hP1 hD1 hS1
end
