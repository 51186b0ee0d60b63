/-! firstUnfit (method 76): it catches, so a cell more may have been made behind the catch -/
section
variable {C : ja_C} {r : ja_O × ja_w} {K K' : ja_K} {L : ja_L} {st : List Value} {w : ja_w} {n : Nat}
theorem jm_aload {i : Nat} (h : js_aload i n C r K L st w) (hk : ∀ L st w, K n L st w → K' n L st w) : js_aload i n C r K' L st w := by
  unfold js_aload at h ⊢
  cases hz : L[i]? with
  | none => simp only [hz] at h
  | some o =>
    cases o with
    | none => simp only [hz] at h
    | some v => cases v <;> simp only [hz] at h ⊢ <;> exact hk _ _ _ h
theorem jm_ic {v : Int32} (h : js_ic v n C r K L st w) (hk : ∀ L st w, K n L st w → K' n L st w) : js_ic v n C r K' L st w := hk _ _ _ h
theorem jm_get {lay : List ja_E} {ci k : Nat} (h : js_get lay ci k n C r K L st w) (hk : ∀ L st w, K n L st w → K' n L st w) : js_get lay ci k n C r K' L st w := by
  unfold js_get at h ⊢
  split at h
  · split at h
    · split at h
      · simp_all
      · simp_all
      · exact h.elim
    · exact h.elim
  · exact h.elim
theorem jm_put {lay : List ja_E} {ci k : Nat} (h : js_put lay ci k n C r K L st w) (hk : ∀ L st w, K n L st w → K' n L st w) : js_put lay ci k n C r K' L st w := by
  unfold js_put at h ⊢
  split at h
  · split at h
    · split at h
      · simp_all
      · exact h.elim
    · exact h.elim
  · exact h.elim
theorem jm_icmp {f : Int32 → Int32 → Prop} {t : Nat} (h : js_ic2 f t n C r K L st w) (h1 : ∀ L st w, K t L st w → K' t L st w) (h2 : ∀ L st w, K n L st w → K' n L st w) : js_ic2 f t n C r K' L st w := by
  unfold js_ic2 at h ⊢
  split at h
  · exact ⟨fun z => h1 _ _ _ (h.1 z), fun z => h2 _ _ _ (h.2 z)⟩
  · exact h.elim
theorem jm_cv {lay : List ja_E} {ci j na : Nat} (h : js_cv lay ci j na n C r K L st w) (hk : ∀ L st w, K n L st w → K' n L st w) : js_cv lay ci j na n C r K' L st w := by
  unfold js_cv at h
  split at h
  · rename_i q t hst
    split at h
    · rename_i cj fs hq
      split at h
      · rename_i hc
        obtain ⟨a, v, w1, b, k⟩ := h
        unfold js_cv
        simp only [hst, hq, hc]
        exact ⟨a, v, w1, b, hk _ _ _ k⟩
      · exact h.elim
    · exact h.elim
  · exact h.elim
end
section
variable {p : Program} {l : Launch} {e : Env} {R : Room} {s : State} {m : MethodId} {args : Array Value} {below : List Frame} {meth : Method} {c : Code} {D : va_G} {dA : Nat → ClassId} {ad : Nat → Nat} {lay : List ja_E} {A : Nat → Prop} {r : ja_O × ja_w} {nL c0 s0 kc ks : Nat}
variable {own : String} {cc : ByteArray} {rt : Option FieldType} {d : Nat} {CC : ja_C} {pc : Nat}
theorem jf_s0 {ls' : Array Slot} {i : Nat} {L : ja_L} {v : Value} (hn : ja_nl L i = true) (h : lv_has ls' nL ((i, v) :: (ja_al ad L).filter (fun q => !(q.1 == i) && !(q.1 + 1 == i && q.2.category == 2)))) : ja_has ad ls' nL (L.set i none) := by
  refine ⟨h.1, h.2.1, fun j u hj => ?_⟩
  by_cases e : j = i
  · subst e
    have hlt : j < L.length := by
      have := (List.getElem?_eq_some_iff.mp hj).1
      rwa [List.length_set] at this
    rw [List.getElem?_set_self hlt] at hj
    cases hj
  · rw [List.getElem?_set_ne (Ne.symm e)] at hj
    refine h.2.2 (j, ja_tv ad u) (List.mem_cons_of_mem _ (List.mem_filter.mpr ⟨ja_alM.mpr ⟨u, hj, rfl⟩, ?_⟩))
    have h2 : ¬ (j + 1 = i ∧ u.category = 2) := fun z => ja_nlU hn hj z.1 z.2
    simp [e, ja_cat]
    exact Classical.not_and_iff_not_or_not.mp h2
/-- a call that may throw, in a method that catches it -/
theorem jf_hv (X : ja_X p l e R s m args below meth c D dA ad A r nL 0 0 1 6 own cc rt d) {C : String} {T : u_T} {N ci idx j na : Nat} {y : MethodName} {bytes : ByteArray} {maxL : Nat} {ret : Option FieldType} {wj Tj : List Cond} (hc : jn_cl[ci]? = some (C, T, N)) (hw : wj = Cond.code y bytes maxL ret :: Tj) (hM : ∀ as w o w1, CC j as w o w1 → ja_Met l D dA ad lay y wj d as w o w1) (hG : GoodIn jn_T (wsV own idx C y wj)) (hy : y.cls = C ∧ y.cls ≠ "java/lang/invoke/MethodHandle" ∧ y.cls ≠ "java/lang/invoke/VarHandle" ∧ (parseMethodDescriptor y.desc).map (fun d => d.parameters.length) = some na) (hm : maxL ≤ 21) (hd : decode cc pc = .ok (.invokevirtual idx, 3))
    {x0 : ExceptionTableEntry} {hp i : Nat} {k : Fin 4} (hex : c.exceptionTable.toList = [x0]) (hcov : covers x0 pc = true) (hct : x0.catchType ≠ 0) (hhp : x0.handlerPc = hp) (hlk : Cond.classLink own x0.catchType "java/lang/IllegalArgumentException" ∈ jn_T) (hda : decode cc hp = .ok (.astore_n k, 1)) (hi : (k : Nat) = i) (hin : i < nL)
    {K : ja_K} (hK0 : ∀ pc L st w, K pc L st w → ja_G p l e R s m args below meth c D dA ad lay A r nL 0 0 1 6 pc L st w) (hK1 : ∀ L st w, K (hp + 1) L st w → ja_G p l e R s m args below meth c D dA ad lay A r nL 1 6 1 6 (hp + 1) L st w) (L : ja_L) (st : List Value) (w : ja_w) (h : js_hv lay ci j na (pc + 3) (hp + 1) i CC r K L st w) : ja_G p l e R s m args below meth c D dA ad lay A r nL 0 0 1 6 pc L st w := by
  intro ls H locs hl hP hD hS
  unfold js_hv at h
  split at h
  · rename_i q t hst
    split at h
    · rename_i cj fs hq
      split at h
      · rename_i hcj
        rcases h with ⟨h1, ⟨v, w1, hcall, hk⟩ | ⟨w1, hcall, hnl, hk⟩⟩
        · refine jo_cv X hc hw (fun as w v w1 h => hM as w (.inl v) w1 h) hG hy hm hd K hK0 L st w ?_ ls H locs hl hP hD hS
          unfold js_cv
          simp only [hst, hq, hcj]
          exact ⟨h1, v, w1, hcall, hk⟩
        · have e := Nat.eq_of_beq_eq_true hcj
          subst e
          have hF : ∀ x, va_A (ja_ws dA ad lay w) H.size x → A x := ja_free hD hS X.2.2.2.2.2.2.2.2.1
          obtain ⟨hQ1, hQ2, hQ3, hQ4, hQ5, hQ6, hQ7⟩ := X.2.2.2.2.2.2.2.2.2.1
          have hR1 : (ja_rm d (.inr 0)).frames + 1 ≤ R.frames := by show 12 + d + 1 ≤ R.frames; omega
          have hR2 : 8 + (maxL + 11) + (ja_rm d (.inr 0)).locals ≤ R.locals := by show 8 + (maxL + 11) + (300 + 40 * d) ≤ R.locals; omega
          have hR3 : 0 + 1 ≤ R.cells ∧ 0 + 6 ≤ R.slots := ⟨by omega, by omega⟩
          have hlen := ja_tkl hst
          have hst2 : st.map (ja_tv ad) = (((st.take na).reverse).map (ja_tv ad)).reverse ++ .ref (ad q) :: t.map (ja_tv ad) := by
            rw [← List.map_reverse, List.reverse_reverse]
            conv => lhs; rw [← List.take_append_drop na st, hst]
            simp [ja_tv]
          intro T0 hT0 X0
          subst hT0
          obtain ⟨x9, st₀, t9, T', L9, h0, X', hL, e1, e2, hq9, st9⟩ := jx_V X0 X.1 X.2.2.2.1 (cwV na X.2.2.2.2.1 hG hw rfl rfl hy ⟨hR1, hR2⟩) (hM _ w (.inr 0) w1 hcall T0.heap.size) (As := ((st.take na).reverse).map (ja_tv ad)) (rest := t.map (ja_tv ad)) ⟨ja_blind, va_recv X.2.2.2.2.2.2.2.1 hP hc (ja_wsAt w hq), ja_preU (as := .ref q :: (st.take na).reverse) X.2.2.2.2.2.2.2.1 X.2.2.2.2.2.2.2.2.2.2.1 X.2.2.2.2.2.2.2.2.1 hP hD hS⟩ (g := F0 m pc ls (st.map (ja_tv ad))) rfl (by rw [List.length_map, List.length_reverse, hlen]) (hl.1.trans X.2.2.1.symm) hst2 (lv_room (by rw [ja_sum]; exact Nat.le_of_ble_eq_true h1)) (by rw [X.2.1]; exact hd) hR3
          obtain ⟨⟨⟨a9, ha9, cell9, cX9, g1, g2, g3, g4⟩, hP1, hD1⟩, hz9, hk9⟩ := hq9
          cases ha9
          rw [h0] at hz9 hk9
          have h4 : T'.vm.findClass "java/lang/IllegalArgumentException" = some cX9 := by rw [e2]; exact g4
          rw [X'.warmed.alike.findClass] at h4
          have hcell : T'.heap[x9]? = some cell9 := by rw [e1]; exact g1
          obtain ⟨vm', X2, st2⟩ := jx_catch X' (a := x9) (g := { F0 m pc ls (st.map (ja_tv ad)) with stack := t.map (ja_tv ad) }) rfl hcell g3 X.2.2.2.1 (by rw [g2]; exact h4) hex hcov hct (X.2.2.2.2.1 _ hlk) (va_Nw.use rfl (X.2.2.2.2.2.2.2.2.2.2.1.2.2.1 _ (by decide +kernel)))
          have hS' : va_S A s.heap T'.heap (locs ++ L9) := by
            refine ⟨by rw [e1]; exact Nat.le_trans hS.1 hz9, fun q h1 h2 => ?_, fun q hq => ?_⟩
            · rw [e1, hk9 q (Nat.lt_of_lt_of_le h1 hS.1) (fun z => h2 (hF q z))]
              exact hS.2.1 q h1 h2
            · rcases List.mem_append.mp hq with h | h
              · exact hS.2.2 q h
              · exact hF _ (hL q h)
          have hW2 := lv_astore_n (p := p) (l := l) (e := e) (R := R) (s := s) (m := m) (args := args) (below := below) (meth := meth) (c := c) (H := T'.heap) (locs := locs ++ L9) (cells := 0 + 1) (slots := 0 + 6) (Q := ja_MQ below (ja_Qc D dA ad lay A r) args s r.1 1 6 A) (rest := []) (x := x9) X.1 X.2.1 hda hi (ja_lv hl) hin rfl (fun ls' h' => hK1 _ _ _ hk ls' T'.heap (locs ++ L9) (jf_s0 hnl h') (by rw [e1]; exact hP1) (hD1.weaken (fun k q _ h => hF q.1 h)) hS')
          obtain ⟨t2, a2, b2⟩ := hW2 (T'.setVm vm') rfl X2
          exact ⟨t2, st9 _ (st2 _ (by rw [hhp]; exact a2)), b2⟩
      · exact h.elim
    · exact h.elim
  · exact h.elim
/-- fewer cells are enough -/
theorem jf_lo {a b a' b' : Nat} (h1 : a' ≤ a) (h2 : b' ≤ b) {pc : Nat} {L : ja_L} {st : List Value} {w : ja_w} (h : ja_G p l e R s m args below meth c D dA ad lay A r nL a b kc ks pc L st w) : ja_G p l e R s m args below meth c D dA ad lay A r nL a' b' kc ks pc L st w := fun ls H locs hl hP hD hS => W.widen h1 h2 (h ls H locs hl hP hD hS)
theorem jf_ofW {y : MethodName} {ws ws' : List Cond} {rm : Room} {Pc : Array Value → State → Prop} {Qc : Array Value → State → Outcome → State → Prop} {mc ms : Nat} {free : Addr → Prop} {maxL : Nat} {ret : Option FieldType} {hh : List (Nat × Nat × Nat × Nat)}
    (hy : plainName y.cls = true) (hw : ws = Cond.codeWith y cc maxL ret hh :: ws')
    (body : ∀ p e s m args below meth c s₁, BodyLoose p l y (headSpec ws rm) cc maxL ret e s m args below meth c s₁ → c.maxLocals = maxL → Pc args s →
      W p l e rm s m args below meth c s.heap [] 0 0 (MQ below Qc args s mc ms free) (entryFrame m args maxL)) : Met l y ws rm Pc Qc mc ms free := va_MetW hy hw body
def jf_rm (d k : Nat) : Room := { frames := 12 + d, cells := k, slots := 6 * k, locals := 300 + 40 * d }
theorem jf_tab {y : MethodName} {rm : Room} {maxL : Nat} {ret : Option FieldType} {hh : List (Nat × Nat × Nat × Nat)} {s₁ : State} (B : BodyLoose p l y (headSpec (Cond.codeWith y cc maxL ret hh :: jn_T) rm) cc maxL ret e s m args below meth c s₁) : c.exceptionTable.toList.map (fun h => (h.startPc, h.endPc, h.handlerPc, h.catchType)) = hh := by
  obtain ⟨m9, meth9, c9, h1, h2, h3, -, -, h4, -⟩ := Cond.codeWith_spec (atoms_spec (ws := Cond.codeWith y cc maxL ret hh :: jn_T) B.pre _ List.mem_cons_self)
  cases B.named.symm.trans h1
  cases B.method.symm.trans h2
  cases (Stand.of_body B).code.symm.trans h3
  exact h4
end
theorem jq_74 : Cond.classLink "TypeOrThing$Programs" 74 "java/lang/IllegalArgumentException" ∈ jn_T := jn_of (List.mem_of_getElem? (i := 468) (by decide +kernel)) (by decide +kernel)
set_option maxRecDepth 100000 in
set_option maxHeartbeats 4000000 in
/-- firstUnfit: one cell of six slots at the most -/
theorem jf_76 {l : Launch} {D : va_G} {dA : Nat → ClassId} {ad : Nat → Nat} {CC : ja_C} {d : Nat} (hlt : l.stackTraces = false) (hC : ja_Cs l D dA ad jl_c yc_f wc_f CC d) {w w' : ja_w} {v : Option Value} (h : ja_R (ja_code tc_76) CC (.inl v, w') 0 [some (.ref 5), none] [] w) : ∀ sz, Met l yc_76 (Cond.codeWith yc_76 cc_76 2 (some .int) [(25, 56, 59, 74)] :: jn_T) (jf_rm (d + 1) 1) (ja_Pc D dA ad jl_c sz [.ref 5] w) (ja_Qc D dA ad jl_c (va_A (ja_ws dA ad jl_c w) sz) (.inl v, w')) 1 6 (va_A (ja_ws dA ad jl_c w) sz) := by
  intro sz
  refine jf_ofW (cc := cc_76) (maxL := 2) (ret := some .int) (by decide +kernel) rfl ?_
  intro p e s m args below meth c s₁ B hml hv
  obtain ⟨rfl, hsz, hP, hK, hZ, hD0⟩ := hv
  have hts : ∀ w ∈ jn_T, w.before ([Value.ref 5].map (ja_tv ad)).toArray s = true := jc_hts B
  have hown : s.vm.findClass "TypeOrThing$Programs" = some m.cls := findClass_of_methodNamed B.named
  have htab := jf_tab B
  obtain ⟨x0, hex, x1, x2, x3, x4⟩ : ∃ x0, c.exceptionTable.toList = [x0] ∧ x0.startPc = 25 ∧ x0.endPc = 56 ∧ x0.handlerPc = 59 ∧ x0.catchType = 74 := by
    cases hz : c.exceptionTable.toList with
    | nil => rw [hz] at htab; cases htab
    | cons a t =>
      cases t with
      | nil => rw [hz] at htab; simp at htab; exact ⟨a, rfl, htab⟩
      | cons b t => rw [hz] at htab; simp at htab
  subst hsz
  have hD := hD0.self (sz := s.heap.size)
  generalize hAe : va_A (ja_ws dA ad jl_c w) s.heap.size = A at hD hZ ⊢
  have hA : ∀ q : Nat, s.heap.size ≤ q → A q := fun q h => by rw [← hAe]; exact Or.inr h
  have hl := lv_entry ([Value.ref 5].map (ja_tv ad)) (n := 2) (Nat.le_of_ble_eq_true rfl)
  rw [lg_entry_eq]
  have hX0 : ja_X p l e (jf_rm (d + 1) 1) s m ([Value.ref 5].map (ja_tv ad)).toArray below meth c D dA ad A (.inl v, w') 2 0 0 1 6 "TypeOrThing$Programs" cc_76 (some .int) d := ⟨B.exec, B.bytes, hml, hown, hts, B.returns, B.notSynchronized, hK, hA, ⟨Nat.le_refl _, Nat.le_refl _, Nat.le_refl _, Nat.le_refl _, Nat.zero_le _, Nat.zero_le _, fun x hx => by cases hx⟩, hZ, hlt, fun x hx => by cases hx⟩
  have hX1 : ja_X p l e (jf_rm (d + 1) 1) s m ([Value.ref 5].map (ja_tv ad)).toArray below meth c D dA ad A (.inl v, w') 2 1 6 1 6 "TypeOrThing$Programs" cc_76 (some .int) d := ⟨B.exec, B.bytes, hml, hown, hts, B.returns, B.notSynchronized, hK, hA, ⟨Nat.le_refl _, Nat.le_refl _, Nat.le_refl _, Nat.le_refl _, Nat.le_refl _, Nat.le_refl _, fun x hx => by cases hx⟩, hZ, hlt, fun x hx => by cases hx⟩
  have hP0 : ∀ (pc : Nat) (L : ja_L) (st : List Value) (w : ja_w), ((pc < 59 → ja_G p l e (jf_rm (d + 1) 1) s m ([Value.ref 5].map (ja_tv ad)).toArray below meth c D dA ad jl_c A (.inl v, w') 2 0 0 1 6 pc L st w) ∧ (59 ≤ pc → ja_G p l e (jf_rm (d + 1) 1) s m ([Value.ref 5].map (ja_tv ad)).toArray below meth c D dA ad jl_c A (.inl v, w') 2 1 6 1 6 pc L st w)) → ja_G p l e (jf_rm (d + 1) 1) s m ([Value.ref 5].map (ja_tv ad)).toArray below meth c D dA ad jl_c A (.inl v, w') 2 0 0 1 6 pc L st w := by
    intro pc L st w k
    by_cases hp : pc < 59
    · exact k.1 hp
    · exact jf_lo (Nat.zero_le _) (Nat.zero_le _) (k.2 (by omega))
  have hall : ja_all (fun pc f => ∀ K : ja_K, (∀ pc L st w, K pc L st w → (pc < 59 → ja_G p l e (jf_rm (d + 1) 1) s m ([Value.ref 5].map (ja_tv ad)).toArray below meth c D dA ad jl_c A (.inl v, w') 2 0 0 1 6 pc L st w) ∧ (59 ≤ pc → ja_G p l e (jf_rm (d + 1) 1) s m ([Value.ref 5].map (ja_tv ad)).toArray below meth c D dA ad jl_c A (.inl v, w') 2 1 6 1 6 pc L st w)) → ∀ (L : ja_L) (st : List Value) (w : ja_w), f CC (.inl v, w') K L st w → (pc < 59 → ja_G p l e (jf_rm (d + 1) 1) s m ([Value.ref 5].map (ja_tv ad)).toArray below meth c D dA ad jl_c A (.inl v, w') 2 0 0 1 6 pc L st w) ∧ (59 ≤ pc → ja_G p l e (jf_rm (d + 1) 1) s m ([Value.ref 5].map (ja_tv ad)).toArray below meth c D dA ad jl_c A (.inl v, w') 2 1 6 1 6 pc L st w)) tc_76 :=
    And.intro (fun K hK L st w h => And.intro (fun _ => (jo_aload_n hX0 dc_76_0 rfl) K (fun pc L st w k => hP0 _ _ _ _ (hK pc L st w k)) L st w h) (fun z => absurd z (by decide)))
      (And.intro (fun K hK L st w h => And.intro (fun _ => (jo_cv hX0 rfl rfl (fun as w v w1 h => hC 77 as w (.inl v) w1 h) (jn_gV jw_469 jw_471 jv_4 jw_5 jw_472) (by decide +kernel) (by decide) dc_76_1) K (fun pc L st w k => hP0 _ _ _ _ (hK pc L st w k)) L st w h) (fun z => absurd z (by decide)))
      (And.intro (fun K hK L st w h => And.intro (fun _ => (jo_aload_n hX0 dc_76_4 rfl) K (fun pc L st w k => hP0 _ _ _ _ (hK pc L st w k)) L st w h) (fun z => absurd z (by decide)))
      (And.intro (fun K hK L st w h => And.intro (fun _ => (jo_get hX0 rfl jn_i8 (by decide) jw_221 dc_76_5) K (fun pc L st w k => hP0 _ _ _ _ (hK pc L st w k)) L st w h) (fun z => absurd z (by decide)))
      (And.intro (fun K hK L st w h => And.intro (fun _ => (jo_cv hX0 rfl rfl (fun as w v w1 h => hC 32 as w (.inl v) w1 h) (jn_gV jw_486 jw_487 jw_488 jw_6 jw_489) (by decide +kernel) (by decide) dc_76_8) K (fun pc L st w k => hP0 _ _ _ _ (hK pc L st w k)) L st w h) (fun z => absurd z (by decide)))
      (And.intro (fun K hK L st w h => And.intro (fun _ => (jo_aload_n hX0 dc_76_11 rfl) K (fun pc L st w k => hP0 _ _ _ _ (hK pc L st w k)) L st w h) (fun z => absurd z (by decide)))
      (And.intro (fun K hK L st w h => And.intro (fun _ => (jo_get hX0 rfl jn_i8 (by decide) jw_223 dc_76_12) K (fun pc L st w k => hP0 _ _ _ _ (hK pc L st w k)) L st w h) (fun z => absurd z (by decide)))
      (And.intro (fun K hK L st w h => And.intro (fun _ => (jo_aload_n hX0 dc_76_15 rfl) K (fun pc L st w k => hP0 _ _ _ _ (hK pc L st w k)) L st w h) (fun z => absurd z (by decide)))
      (And.intro (fun K hK L st w h => And.intro (fun _ => (jo_get hX0 rfl jn_i8 (by decide) jw_223 dc_76_16) K (fun pc L st w k => hP0 _ _ _ _ (hK pc L st w k)) L st w h) (fun z => absurd z (by decide)))
      (And.intro (fun K hK L st w h => And.intro (fun _ => (jo_cv hX0 rfl rfl (fun as w v w1 h => hC 42 as w (.inl v) w1 h) (jn_gV jw_491 jw_492 jw_493 jw_3 jw_494) (by decide +kernel) (by decide) dc_76_19) K (fun pc L st w k => hP0 _ _ _ _ (hK pc L st w k)) L st w h) (fun z => absurd z (by decide)))
      (And.intro (fun K hK L st w h => And.intro (fun _ => (jo_cv hX0 rfl rfl (fun as w v w1 h => hC 43 as w (.inl v) w1 h) (jn_gV jw_495 jw_496 jw_497 jw_3 jw_498) (by decide +kernel) (by decide) dc_76_22) K (fun pc L st w k => hP0 _ _ _ _ (hK pc L st w k)) L st w h) (fun z => absurd z (by decide)))
      (And.intro (fun K hK L st w h => And.intro (fun _ => (jo_iconst hX0 dc_76_25 (by decide)) K (fun pc L st w k => hP0 _ _ _ _ (hK pc L st w k)) L st w h) (fun z => absurd z (by decide)))
      (And.intro (fun K hK L st w h => And.intro (fun _ => (jo_istore_n hX0 dc_76_26 rfl (by decide)) K (fun pc L st w k => hP0 _ _ _ _ (hK pc L st w k)) L st w h) (fun z => absurd z (by decide)))
      (And.intro (fun K hK L st w h => And.intro (fun _ => (jo_iload_n hX0 dc_76_27 rfl) K (fun pc L st w k => hP0 _ _ _ _ (hK pc L st w k)) L st w h) (fun z => absurd z (by decide)))
      (And.intro (fun K hK L st w h => And.intro (fun _ => (jo_sipush hX0 dc_76_28 (by decide)) K (fun pc L st w k => hP0 _ _ _ _ (hK pc L st w k)) L st w h) (fun z => absurd z (by decide)))
      (And.intro (fun K hK L st w h => And.intro (fun _ => (jo_icmpge hX0 dc_76_31 (by decide)) K (fun pc L st w k => hP0 _ _ _ _ (hK pc L st w k)) L st w h) (fun z => absurd z (by decide)))
      (And.intro (fun K hK L st w h => And.intro (fun _ => (jo_aload_n hX0 dc_76_34 rfl) K (fun pc L st w k => hP0 _ _ _ _ (hK pc L st w k)) L st w h) (fun z => absurd z (by decide)))
      (And.intro (fun K hK L st w h => And.intro (fun _ => (jo_get hX0 rfl jn_i8 (by decide) jw_221 dc_76_35) K (fun pc L st w k => hP0 _ _ _ _ (hK pc L st w k)) L st w h) (fun z => absurd z (by decide)))
      (And.intro (fun K hK L st w h => And.intro (fun _ => (jo_iconst hX0 dc_76_38 (by decide)) K (fun pc L st w k => hP0 _ _ _ _ (hK pc L st w k)) L st w h) (fun z => absurd z (by decide)))
      (And.intro (fun K hK L st w h => And.intro (fun _ => (jo_cv hX0 rfl rfl (fun as w v w1 h => hC 35 as w (.inl v) w1 h) (jn_gV jw_499 jw_500 jw_501 jw_6 jw_502) (by decide +kernel) (by decide) dc_76_39) K (fun pc L st w k => hP0 _ _ _ _ (hK pc L st w k)) L st w h) (fun z => absurd z (by decide)))
      (And.intro (fun K hK L st w h => And.intro (fun _ => (jo_ifne hX0 dc_76_42 (by decide)) K (fun pc L st w k => hP0 _ _ _ _ (hK pc L st w k)) L st w h) (fun z => absurd z (by decide)))
      (And.intro (fun K hK L st w h => And.intro (fun _ => (jo_aload_n hX0 dc_76_45 rfl) K (fun pc L st w k => hP0 _ _ _ _ (hK pc L st w k)) L st w h) (fun z => absurd z (by decide)))
      (And.intro (fun K hK L st w h => And.intro (fun _ => (jo_iconst hX0 dc_76_46 (by decide)) K (fun pc L st w k => hP0 _ _ _ _ (hK pc L st w k)) L st w h) (fun z => absurd z (by decide)))
      (And.intro (fun K hK L st w h => And.intro (fun _ => jf_hv (i := 1) hX0 rfl rfl (fun as w o w1 h => hC 78 as w o w1 h) (jn_gV jw_503 jw_505 jv_5 jw_5 jw_506) (by decide +kernel) (by decide) dc_76_47 hex (by simp [covers, x1, x2]) (by rw [x4]; decide) x3 (by rw [x4]; exact jq_74) dc_76_59 rfl (by decide) (fun pc L st w k => hP0 _ _ _ _ (hK pc L st w k)) (fun L st w k => (hK _ _ _ _ k).2 (by decide)) L st w h) (fun z => absurd z (by decide)))
      (And.intro (fun K hK L st w h => And.intro (fun _ => (jo_iinc hX0 dc_76_50 (by decide) (by decide)) K (fun pc L st w k => hP0 _ _ _ _ (hK pc L st w k)) L st w h) (fun z => absurd z (by decide)))
      (And.intro (fun K hK L st w h => And.intro (fun _ => (jo_goto hX0 dc_76_53 (by decide)) K (fun pc L st w k => hP0 _ _ _ _ (hK pc L st w k)) L st w h) (fun z => absurd z (by decide)))
      (And.intro (fun K hK L st w h => And.intro (fun _ => (jo_goto hX0 dc_76_56 (by decide)) K (fun pc L st w k => hP0 _ _ _ _ (hK pc L st w k)) L st w h) (fun z => absurd z (by decide)))
      (And.intro (fun K hK L st w h => And.intro (fun z => absurd z (by decide)) (fun _ => (jo_aload_n hX1 dc_76_60 rfl) (fun pc L st w => 59 ≤ pc ∧ K pc L st w) (fun pc L st w k => (hK pc L st w k.2).2 k.1) L st w (jm_aload h (fun _ _ _ k => ⟨by decide, k⟩))))
      (And.intro (fun K hK L st w h => And.intro (fun z => absurd z (by decide)) (fun _ => (jo_cv hX1 rfl rfl (fun as w v w1 h => hC 77 as w (.inl v) w1 h) (jn_gV jw_469 jw_471 jv_4 jw_5 jw_472) (by decide +kernel) (by decide) dc_76_61) (fun pc L st w => 59 ≤ pc ∧ K pc L st w) (fun pc L st w k => (hK pc L st w k.2).2 k.1) L st w (jm_cv h (fun _ _ _ k => ⟨by decide, k⟩))))
      (And.intro (fun K hK L st w h => And.intro (fun z => absurd z (by decide)) (fun _ => (jo_aload_n hX1 dc_76_64 rfl) (fun pc L st w => 59 ≤ pc ∧ K pc L st w) (fun pc L st w k => (hK pc L st w k.2).2 k.1) L st w (jm_aload h (fun _ _ _ k => ⟨by decide, k⟩))))
      (And.intro (fun K hK L st w h => And.intro (fun z => absurd z (by decide)) (fun _ => (jo_get hX1 rfl jn_i8 (by decide) jw_221 dc_76_65) (fun pc L st w => 59 ≤ pc ∧ K pc L st w) (fun pc L st w k => (hK pc L st w k.2).2 k.1) L st w (jm_get h (fun _ _ _ k => ⟨by decide, k⟩))))
      (And.intro (fun K hK L st w h => And.intro (fun z => absurd z (by decide)) (fun _ => (jo_get hX1 rfl jn_i4 (by decide) jw_155 dc_76_68) (fun pc L st w => 59 ≤ pc ∧ K pc L st w) (fun pc L st w k => (hK pc L st w k.2).2 k.1) L st w (jm_get h (fun _ _ _ k => ⟨by decide, k⟩))))
      (And.intro (fun K hK L st w h => And.intro (fun z => absurd z (by decide)) (fun _ => (jo_iret (CC := CC) hX1 dc_76_71) (fun _ _ _ _ => False) (fun _ _ _ _ k => k.elim) L st w h))
      (And.intro (fun K hK L st w h => And.intro (fun z => absurd z (by decide)) (fun _ => (jo_iconst hX1 dc_76_72 (by decide)) (fun pc L st w => 59 ≤ pc ∧ K pc L st w) (fun pc L st w k => (hK pc L st w k.2).2 k.1) L st w (jm_ic h (fun _ _ _ k => ⟨by decide, k⟩))))
      (And.intro (fun K hK L st w h => And.intro (fun z => absurd z (by decide)) (fun _ => (jo_iret (CC := CC) hX1 dc_76_73) (fun _ _ _ _ => False) (fun _ _ _ _ k => k.elim) L st w h))
      (trivial)))))))))))))))))))))))))))))))))))
  have hG := h (fun pc L st w => (pc < 59 → ja_G p l e (jf_rm (d + 1) 1) s m ([Value.ref 5].map (ja_tv ad)).toArray below meth c D dA ad jl_c A (.inl v, w') 2 0 0 1 6 pc L st w) ∧ (59 ≤ pc → ja_G p l e (jf_rm (d + 1) 1) s m ([Value.ref 5].map (ja_tv ad)).toArray below meth c D dA ad jl_c A (.inl v, w') 2 1 6 1 6 pc L st w))
    (fun K pc L st w hK h => ja_codeok hall (fun _ _ _ _ _ _ h => h.elim) pc K hK L st w h)
    (fun pc L L' st w hle h => ⟨fun z ls H locs hl hP hD hS => h.1 z ls H locs ⟨hl.1, hl.2.1, fun i v hi => hl.2.2 i v (hle i v hi)⟩ hP hD hS, fun z ls H locs hl hP hD hS => h.2 z ls H locs ⟨hl.1, hl.2.1, fun i v hi => hl.2.2 i v (hle i v hi)⟩ hP hD hS⟩)
  exact hG.1 (by decide) _ _ _ (ja_entry (as := [Value.ref 5]) ad hl) hP hD va_S.rf
