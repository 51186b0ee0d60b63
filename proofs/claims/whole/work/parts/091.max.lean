/-- Math.max of two ints -/
def js_max (n : Nat) : ja_S := fun _ _ K L st w => match st with
  | .int y :: .int x :: t => Nat.ble (t.map fun v => v.category).sum 8 = true ∧ K n L (.int (if x < y then y else x) :: t) w
  | _ => False
theorem jn_max : Cond.code Lib.Math.max.name Lib.Math.max.code 2 (some .int) ∈ jn_T := jn_of (List.mem_of_getElem? (i := 372) (by decide +kernel)) (by decide +kernel)
section
variable {p : Program} {l : Launch} {e : Env} {R : Room} {s : State} {m : MethodId} {args : Array Value} {below : List Frame} {meth : Method} {c : Code} {D : va_G} {dA : Nat → ClassId} {ad : Nat → Nat} {lay : List ja_E} {A : Nat → Prop} {r : ja_O × ja_w} {nL c0 s0 kc ks : Nat}
variable {own : String} {cc : ByteArray} {rt : Option FieldType} {d : Nat} {CC : ja_C} {pc : Nat}
theorem jo_max (X : ja_X p l e R s m args below meth c D dA ad A r nL c0 s0 kc ks own cc rt d) {idx : Nat} (hlk : Cond.methodLink own idx Lib.Math.max.name ∈ jn_T) (h2 : Cond.static Lib.Math.max.name ∈ jn_T) (h3 : Cond.initialized "java/lang/Math" ∈ jn_T) (h4 : Cond.code Lib.Math.max.name Lib.Math.max.code 2 (some .int) ∈ jn_T) (hd : decode cc pc = .ok (.invokestatic idx, 3)) : ja_ok p l e R s m args below meth c D dA ad lay A r nL c0 s0 kc ks CC pc (js_max (pc + 3)) := by
  intro K hK L st w h ls H locs hl hP hD hS
  unfold js_max at h
  split at h
  · rename_i y x t
    obtain ⟨hQ1, hQ2, hQ3, hQ4, hQ5, hQ6, hQ7⟩ := X.2.2.2.2.2.2.2.2.2.1
    have hb8 := Nat.le_of_ble_eq_true h.1
    exact va_mmax X.1 X.2.1 (X.2.2.1.trans hl.1.symm) X.2.2.2.1 (X.2.2.2.2.1 _ hlk) (X.2.2.2.2.1 _ h2) (X.2.2.2.2.1 _ h3) (X.2.2.2.2.1 _ h4) (by omega) (by rw [ja_sum]; omega) (by omega) (by omega) hd (hK _ _ _ _ h.2 ls H locs hl hP hD hS)
  · exact h.elim
end
