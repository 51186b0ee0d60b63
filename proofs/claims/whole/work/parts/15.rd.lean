/-! read (method 2): it calls firstUnfit, which may have made a cell, and may throw -/
section
variable {p : Program} {l : Launch} {e : Env} {R : Room} {s : State} {m : MethodId} {args : Array Value} {below : List Frame} {meth : Method} {c : Code} {D : va_G} {dA : Nat → ClassId} {ad : Nat → Nat} {lay : List ja_E} {A : Nat → Prop} {r : ja_O × ja_w} {nL c0 s0 kc ks : Nat}
variable {own : String} {cc : ByteArray} {rt : Option FieldType} {d : Nat} {CC : ja_C} {pc : Nat}
theorem jf_gW {own C : String} {idx : Nat} {y : MethodName} {bytes : ByteArray} {maxL : Nat} {ret : Option FieldType} {hh : List (Nat × Nat × Nat × Nat)} (h1 : Cond.methodLink own idx y ∈ jn_T) (h2 : Cond.instanceMethod y ∈ jn_T) (h3 : Cond.selects C y y ∈ jn_T) (h4 : Cond.initialized C ∈ jn_T) (h5 : Cond.codeWith y bytes maxL ret hh ∈ jn_T) : GoodIn jn_T (wsV own idx C y (Cond.codeWith y bytes maxL ret hh :: jn_T)) := by
  intro w hw
  have h : w ∈ jn_T := by
    rcases List.mem_append.mp hw with h | h
    · simp only [List.mem_cons, List.not_mem_nil, or_false] at h
      rcases h with rfl | rfl | rfl | rfl
      · exact h1
      · exact h2
      · exact h3
      · exact h4
    · rcases List.mem_cons.mp h with rfl | h
      · exact h5
      · exact h
  exact ⟨h, jn_good h⟩
/-- a call of a method that catches, by invokevirtual: it comes back -/
theorem jf_V {H : Heap} {locs : List Loc} {cells slots : Nat} {C : String} {index : Nat} {y : MethodName} {bytes : ByteArray} {maxL : Nat} {ret : Option FieldType} {hh : List (Nat × Nat × Nat × Nat)} {ws ws' : List Cond} {rm : Room} {mc ms n : Nat} {Pc : Array Value → State → Prop} {Qc : Array Value → State → Outcome → State → Prop} {free : Addr → Prop} {b : Addr} {As rest : List Value} {g : JFrame}
    (S : CallFix p m c cc nL s args jn_T own) (hM : Met l y ws rm Pc Qc mc ms free) (hG : GoodIn jn_T (wsV own index C y ws)) (hw : ws = Cond.codeWith y bytes maxL ret hh :: ws') (hy : y.cls = C ∧ y.cls ≠ "java/lang/invoke/MethodHandle" ∧ y.cls ≠ "java/lang/invoke/VarHandle" ∧ (parseMethodDescriptor y.desc).map (fun d => d.parameters.length) = some n)
    (hR : rm.cells = mc ∧ rm.slots = ms ∧ rm.frames + 1 ≤ R.frames ∧ 8 + (maxL + 11) + rm.locals ≤ R.locals) (hp : PreV s H C b Pc As)
    (hg : g.method = m) (hn : As.length = n) (hsize : g.locals.size = nL) (hstack : g.stack = As.reverse ++ .ref b :: rest) (hW : 2 * g.monitorRoom + (rest.map fun v => v.category).sum ≤ 8) (hdg : decode cc g.pc = .ok (.invokevirtual index, 3)) (hf : cells + mc ≤ R.cells ∧ slots + ms ≤ R.slots) :
    va_Run p l e R s m args below meth c H locs cells slots mc ms g rest (Qc (Value.ref b :: As).toArray) free := by
  obtain ⟨hx, hb, hml, ho, ht⟩ := S
  obtain ⟨hrc, hrs, hfr, hlo⟩ := hR
  obtain ⟨hbl, ⟨cellB, hcB, hoB, hclB⟩, hPc⟩ := hp
  have ok : ∀ w ∈ wsV own index C y ws, w.before args s = true := fun w h => ht w (hG w h).1
  have hGw : GoodIn jn_T ws := fun w h => hG w (List.mem_append_right _ h)
  have hcw : Cond.codeWith y bytes maxL ret hh ∈ ws := by rw [hw]; exact List.mem_cons_self
  have hlink : (Cond.methodLink own index y).before args s = true := ok _ (by simp [wsV])
  have hinst : (Cond.instanceMethod y).before args s = true := ok _ (by simp [wsV])
  have hsel : (Cond.selects C y y).before args s = true := ok _ (by simp [wsV])
  have hini : (Cond.initialized y.cls).before args s = true := by rw [hy.1]; exact ok _ (by simp [wsV])
  have hK : Back l R p e below s args y 3 8 (PreOf R mc ms Pc) (PostOf Qc mc ms free) := va_backW (hh := hh) (bytes := bytes) (maxL := maxL) (ret := ret) hM hbl hrc hrs hfr hlo (pay_in ht hGw) hcw (fun a' U hW => word_at hW (Or.inl (by first | rfl | simp [Cond.onTables, Cond.keeps, Cond.steady])) hini)
  obtain ⟨mk, methM, hnamed, hmethM, hstM, habM⟩ := Cond.instanceMethod_spec hinst
  obtain ⟨m9, methM', cM, hn9, hmethM', -, -, -, -, -, -, hsigM⟩ := Cond.codeWith_spec (ht _ (hGw _ hcw).1)
  cases hnamed.symm.trans hn9
  cases hmethM.symm.trans hmethM'
  have hy2 : y.cls ≠ "java/lang/invoke/MethodHandle" ∧ y.cls ≠ "java/lang/invoke/VarHandle" := ⟨hy.2.1, hy.2.2.1⟩
  obtain ⟨c2, r2, m2, q1, q2, q3, q4, kP, hkP, hkPi⟩ := Cond.selects_spec hsel
  cases hclB.symm.trans q1
  cases (State.methodFound?_of_named hnamed hy2).symm.trans q2
  cases hnamed.symm.trans q3
  have hlen : n = methM.sig.parameters.length := by
    have h2 := hy.2.2.2
    rw [hsigM] at h2
    exact (Option.some.inj h2).symm
  intro T hT X
  have hselP : selectMethod e.platform s.vm cellB.cls mk = .method mk := by rw [Launch.admits_selectMethod X.admits]; exact q4
  obtain ⟨vm₁, X₁, hstep₁⟩ := X.invokevirtual hx ho hlink hnamed hmethM hstM hkP hkPi hy2 (a := b) (cell := cellB) (by rw [hT]; exact hcB)
    (fun z h => by rw [h] at hoB; cases hoB) hselP hmethM habM hkP hkPi (g := g) hg (argsL := As) (rest := rest) (hn.trans hlen) hstack (by rw [hb]; exact hdg)
  obtain ⟨v, ⟨U', l2, c2, s2⟩, X', ⟨g', mk', t, L, e1, e2, hq, h1, hL, h2, h3⟩, hsteps⟩ := hK m meth c ⟨T.setVm vm₁, locs, cells, slots⟩ { g with stack := rest } (.invokevirtual index) mk (Value.ref b :: As).toArray X₁ hg (hsize.trans hml.symm) (by rw [hb]; exact hdg) hW (X₁.named hnamed) ⟨hf.1, hf.2, hPc (T.setVm vm₁) hT X₁.warmed⟩
  dsimp only [Pt.U, Pt.locs, Pt.cells, Pt.slots] at X' e1 e2 h1 h2 h3 hsteps
  subst h1; subst h2; subst h3
  exact ⟨v, (T.setVm vm₁).calling g' mk' (Value.ref b :: As).toArray, t, U', L, hT, X', hL, e1, e2, hq, fun target h => hstep₁ _ fun acts => by rw [doInvoke_state]; exact hsteps.trans h⟩
theorem jf_back {mc ms : Nat} {H : Heap} {locs : List Loc} {ls : Array Slot} {st0 rest : List Value} {a : Array Value} {A1 : Nat → Prop} {free : Addr → Prop} {Q : State → Prop} {v : Option Value} {w1 : ja_w} {H0 : Heap}
    (hr : va_Run p l e R s m args below meth c H locs c0 s0 mc ms (F0 m pc ls st0) rest (ja_Qc D dA ad lay A1 (.inl v, w1) a) free) (hS : va_S A H0 H locs) (hA : ∀ q, q < H.size → A1 q → A q) (hA2 : ∀ q, A1 q → A q) (hf : ∀ q, free q → A q)
    (kk : ∀ (H1 : Heap) (locs1 : List Loc), va_P D jn_cl (ja_ws dA ad lay w1) H1 → va_D A (ja_ws dA ad lay w1) → va_S A H0 H1 locs1 → W p l e R s m args below meth c H1 locs1 (c0 + mc) (s0 + ms) Q (F0 m (pc + 3) ls ((v.map (ja_tv ad)).toList ++ rest))) : W p l e R s m args below meth c H locs c0 s0 Q (F0 m pc ls st0) := by
  intro T hT X
  obtain ⟨v', st₀, t, T', L, h0, X', hL, e1, e2, ⟨⟨hv, hp, hd⟩, hz, hk⟩, st⟩ := hr T hT X
  cases hv
  rw [h0] at hz hk
  obtain ⟨t2, a1, b1⟩ := kk T'.heap (locs ++ L) (by rw [e1]; exact hp) (hd.weaken (fun k q _ h => hA2 q.1 h))
    ⟨Nat.le_trans hS.1 (by rw [e1]; exact hz), fun q h1 h2 => by rw [e1, hk q (Nat.lt_of_lt_of_le h1 hS.1) (fun z => h2 (hA q (Nat.lt_of_lt_of_le h1 hS.1) z))]; exact hS.2.1 q h1 h2, fun q hq => by
      rcases List.mem_append.mp hq with h | h
      · exact hS.2.2 q h
      · exact hf _ (hL q h)⟩ T' rfl X'
  exact ⟨t2, st t2 a1, b1⟩
theorem jf_cv (X : ja_X p l e R s m args below meth c D dA ad A r nL 0 0 kc ks own cc rt d) {C : String} {T : u_T} {N ci idx j na : Nat} {y : MethodName} {bytes : ByteArray} {maxL : Nat} {ret : Option FieldType} {hh : List (Nat × Nat × Nat × Nat)} {wj Tj : List Cond} (hc : jn_cl[ci]? = some (C, T, N)) (hw : wj = Cond.codeWith y bytes maxL ret hh :: Tj)
    (hM : ∀ as w v w1, CC j as w (.inl v) w1 → ∀ sz : Nat, Met l y wj (jf_rm d 1) (ja_Pc D dA ad lay sz as w) (ja_Qc D dA ad lay (va_A (ja_ws dA ad lay w) sz) (.inl v, w1)) 1 6 (va_A (ja_ws dA ad lay w) sz)) (hG : GoodIn jn_T (wsV own idx C y wj)) (hy : y.cls = C ∧ y.cls ≠ "java/lang/invoke/MethodHandle" ∧ y.cls ≠ "java/lang/invoke/VarHandle" ∧ (parseMethodDescriptor y.desc).map (fun d => d.parameters.length) = some na) (hm : maxL ≤ 21) (hd : decode cc pc = .ok (.invokevirtual idx, 3)) (hkc : 1 ≤ kc) (hks : 6 ≤ ks)
    {K : ja_K} (hK : ∀ L st w, K (pc + 3) L st w → ja_G p l e R s m args below meth c D dA ad lay A r nL 1 6 kc ks (pc + 3) L st w) (L : ja_L) (st : List Value) (w : ja_w) (h : js_cv lay ci j na (pc + 3) CC r K L st w) : ja_G p l e R s m args below meth c D dA ad lay A r nL 0 0 kc ks pc L st w := by
  intro ls H locs hl hP hD hS
  unfold js_cv at h
  split at h
  · rename_i q t hst
    split at h
    · rename_i cj fs hq
      split at h
      · rename_i hcj
        have e := Nat.eq_of_beq_eq_true hcj
        subst e
        obtain ⟨h1, v, w1, hcall, hk⟩ := h
        have hF : ∀ x, va_A (ja_ws dA ad lay w) H.size x → A x := ja_free hD hS X.2.2.2.2.2.2.2.2.1
        obtain ⟨hQ1, hQ2, hQ3, hQ4, hQ5, hQ6, hQ7⟩ := X.2.2.2.2.2.2.2.2.2.1
        have hR1 : (jf_rm d 1).frames + 1 ≤ R.frames := by show 12 + d + 1 ≤ R.frames; omega
        have hR2 : 8 + (maxL + 11) + (jf_rm d 1).locals ≤ R.locals := by show 8 + (maxL + 11) + (300 + 40 * d) ≤ R.locals; omega
        have hlen := ja_tkl hst
        have hst2 : st.map (ja_tv ad) = (((st.take na).reverse).map (ja_tv ad)).reverse ++ .ref (ad q) :: t.map (ja_tv ad) := by
          rw [← List.map_reverse, List.reverse_reverse]
          conv => lhs; rw [← List.take_append_drop na st, hst]
          simp [ja_tv]
        refine jf_back (mc := 1) (ms := 6) (jf_V (As := ((st.take na).reverse).map (ja_tv ad)) (rest := t.map (ja_tv ad)) ⟨X.1, X.2.1, X.2.2.1, X.2.2.2.1, X.2.2.2.2.1⟩ (hM _ w v w1 hcall H.size) hG hw hy ⟨rfl, rfl, hR1, hR2⟩ ⟨ja_blind, va_recv X.2.2.2.2.2.2.2.1 hP hc (ja_wsAt w hq), ja_preU (as := .ref q :: (st.take na).reverse) X.2.2.2.2.2.2.2.1 X.2.2.2.2.2.2.2.2.2.2.1 X.2.2.2.2.2.2.2.2.1 hP hD hS⟩ rfl (by rw [List.length_map, List.length_reverse, hlen]) hl.1 hst2 (lv_room (by rw [ja_sum]; exact Nat.le_of_ble_eq_true h1)) hd ⟨by omega, by omega⟩) hS (fun x _ z => hF x z) hF hF (fun H1 locs1 hP1 hD1 hS1 => ?_)
        rw [ja_vtl]
        exact hK _ _ _ hk ls H1 locs1 hl hP1 hD1 hS1
      · exact h.elim
    · exact h.elim
  · exact h.elim
end
def jf_ro (d : Nat) (o : ja_O) : Room := { frames := 12 + d, cells := 1 + ja_mc o, slots := 6 + ja_ms o, locals := 300 + 40 * d }
def jf_Met (l : Launch) (D : va_G) (dA : Nat → ClassId) (ad : Nat → Nat) (lay : List ja_E) (y : MethodName) (ws : List Cond) (d : Nat) (as : List Value) (w : ja_w) (o : ja_O) (w' : ja_w) : Prop := match o with
  | .inl v => ∀ sz : Nat, Met l y ws (jf_ro d (.inl v)) (ja_Pc D dA ad lay sz as w) (ja_Qc D dA ad lay (va_A (ja_ws dA ad lay w) sz) (.inl v, w')) 1 6 (va_A (ja_ws dA ad lay w) sz)
  | .inr x => ∀ sz : Nat, jx_MT l y ws (jf_ro d (.inr x)) (ja_Pc D dA ad lay sz as w) (ja_Qc D dA ad lay (va_A (ja_ws dA ad lay w) sz) (.inr x, w')) 2 12 (va_A (ja_ws dA ad lay w) sz)
theorem jw_464 : (Cond.methodLink "TypeOrThing" 67 ⟨"TypeOrThing$Programs", "firstUnfit", "()I"⟩ : Cond) ∈ jn_T := jn_of (List.mem_of_getElem? (i := 464) (by decide +kernel)) (by decide +kernel)
theorem jw_465 : (Cond.instanceMethod ⟨"TypeOrThing$Programs", "firstUnfit", "()I"⟩ : Cond) ∈ jn_T := jn_of (List.mem_of_getElem? (i := 465) (by decide +kernel)) (by decide +kernel)
theorem jw_466 : (Cond.selects "TypeOrThing$Programs" ⟨"TypeOrThing$Programs", "firstUnfit", "()I"⟩ ⟨"TypeOrThing$Programs", "firstUnfit", "()I"⟩ : Cond) ∈ jn_T := jn_of (List.mem_of_getElem? (i := 466) (by decide +kernel)) (by decide +kernel)
theorem jq_76 : (Cond.codeWith yc_76 cc_76 2 (some .int) [(25, 56, 59, 74)] : Cond) ∈ jn_T := jn_of (List.mem_of_getElem? (i := 467) (by decide +kernel)) (by decide +kernel)
set_option maxRecDepth 100000 in
set_option maxHeartbeats 4000000 in
/-- read: one cell of six slots, or two where it throws -/
theorem jf_2 {l : Launch} {D : va_G} {dA : Nat → ClassId} {ad : Nat → Nat} {CC : ja_C} {d : Nat} (hlt : l.stackTraces = false) (h24 : ∀ as w v w1, CC 24 as w (.inl v) w1 → ja_Met l D dA ad jl_c (yc_f 24) (wc_f 24) d as w (.inl v) w1)
    (h76 : ∀ as w v w1, CC 76 as w (.inl v) w1 → ∀ sz : Nat, Met l yc_76 (Cond.codeWith yc_76 cc_76 2 (some .int) [(25, 56, 59, 74)] :: jn_T) (jf_rm d 1) (ja_Pc D dA ad jl_c sz as w) (ja_Qc D dA ad jl_c (va_A (ja_ws dA ad jl_c w) sz) (.inl v, w1)) 1 6 (va_A (ja_ws dA ad jl_c w) sz))
    {w w' : ja_w} {o : ja_O} (h : ja_R (ja_code tc_2) CC (o, w') 0 [some (.ref 0)] [] w) : jf_Met l D dA ad jl_c yc_2 (Cond.code yc_2 cc_2 1 (some .int) :: jn_T) (d + 1) [.ref 0] w o w' := by
  have key : ∀ sz : Nat, MetFree l yc_2 (headSpec (Cond.code yc_2 cc_2 1 (some .int) :: jn_T) (jf_ro (d + 1) o)) (ja_Pc D dA ad jl_c sz [.ref 0] w) (fun _ _ _ _ _ => True) (ja_Qx D dA ad jl_c (va_A (ja_ws dA ad jl_c w) sz) (o, w') (1 + ja_mc o) (6 + ja_ms o)) := by
    intro sz
    refine ja_ofW (cc := cc_2) (maxL := 1) (ret := some .int) (by decide +kernel) rfl ?_
    intro p e s m args below meth c s₁ B hml hv
    obtain ⟨rfl, hsz, hP, hK, hZ, hD0⟩ := hv
    have hnoh : c.exceptionTable.toList = [] := by
      have h1 := B.noHandlers (atoms_spec (ws := Cond.code yc_2 cc_2 1 (some .int) :: jn_T) B.pre _ List.mem_cons_self)
      have h2 : c.exceptionTable = #[] := Array.isEmpty_iff.mp h1
      rw [h2]
    have hts : ∀ w ∈ jn_T, w.before ([Value.ref 0].map (ja_tv ad)).toArray s = true := jc_hts B
    have hown : s.vm.findClass "TypeOrThing" = some m.cls := findClass_of_methodNamed B.named
    subst hsz
    have hD := hD0.self (sz := s.heap.size)
    generalize hAe : va_A (ja_ws dA ad jl_c w) s.heap.size = A at hD hZ ⊢
    have hA : ∀ q : Nat, s.heap.size ≤ q → A q := fun q h => by rw [← hAe]; exact Or.inr h
    have hl := lv_entry ([Value.ref 0].map (ja_tv ad)) (n := 1) (Nat.le_of_ble_eq_true rfl)
    rw [lg_entry_eq]
    have hX0 : ja_X p l e (jf_ro (d + 1) o) s m ([Value.ref 0].map (ja_tv ad)).toArray below meth c D dA ad A (o, w') 1 0 0 (1 + ja_mc o) (6 + ja_ms o) "TypeOrThing" cc_2 (some .int) d := ⟨B.exec, B.bytes, hml, hown, hts, B.returns, B.notSynchronized, hK, hA, ⟨Nat.le_refl _, Nat.le_refl _, Nat.le_refl _, Nat.le_refl _, Nat.zero_le _, Nat.zero_le _, fun x hx => by have hx : o = .inr x := hx; subst hx; exact ⟨Nat.le_add_left 1 1, Nat.le_add_left 6 6⟩⟩, hZ, hlt, fun _ _ => hnoh⟩
    have hX1 : ja_X p l e (jf_ro (d + 1) o) s m ([Value.ref 0].map (ja_tv ad)).toArray below meth c D dA ad A (o, w') 1 1 6 (1 + ja_mc o) (6 + ja_ms o) "TypeOrThing" cc_2 (some .int) d := ⟨B.exec, B.bytes, hml, hown, hts, B.returns, B.notSynchronized, hK, hA, ⟨Nat.le_refl _, Nat.le_refl _, Nat.le_refl _, Nat.le_refl _, Nat.le_add_right _ _, Nat.le_add_right _ _, fun x hx => by have hx : o = .inr x := hx; subst hx; exact ⟨Nat.le_refl 2, Nat.le_refl 12⟩⟩, hZ, hlt, fun _ _ => hnoh⟩
    have hP0 : ∀ (pc : Nat) (L : ja_L) (st : List Value) (w : ja_w), ((pc < 23 → ja_G p l e (jf_ro (d + 1) o) s m ([Value.ref 0].map (ja_tv ad)).toArray below meth c D dA ad jl_c A (o, w') 1 0 0 (1 + ja_mc o) (6 + ja_ms o) pc L st w) ∧ (23 ≤ pc → ja_G p l e (jf_ro (d + 1) o) s m ([Value.ref 0].map (ja_tv ad)).toArray below meth c D dA ad jl_c A (o, w') 1 1 6 (1 + ja_mc o) (6 + ja_ms o) pc L st w)) → ja_G p l e (jf_ro (d + 1) o) s m ([Value.ref 0].map (ja_tv ad)).toArray below meth c D dA ad jl_c A (o, w') 1 0 0 (1 + ja_mc o) (6 + ja_ms o) pc L st w := by
      intro pc L st w k
      by_cases hp : pc < 23
      · exact k.1 hp
      · exact jf_lo (Nat.zero_le _) (Nat.zero_le _) (k.2 (by omega))
    have hall : ja_all (fun pc f => ∀ K : ja_K, (∀ pc L st w, K pc L st w → (pc < 23 → ja_G p l e (jf_ro (d + 1) o) s m ([Value.ref 0].map (ja_tv ad)).toArray below meth c D dA ad jl_c A (o, w') 1 0 0 (1 + ja_mc o) (6 + ja_ms o) pc L st w) ∧ (23 ≤ pc → ja_G p l e (jf_ro (d + 1) o) s m ([Value.ref 0].map (ja_tv ad)).toArray below meth c D dA ad jl_c A (o, w') 1 1 6 (1 + ja_mc o) (6 + ja_ms o) pc L st w)) → ∀ (L : ja_L) (st : List Value) (w : ja_w), f CC (o, w') K L st w → (pc < 23 → ja_G p l e (jf_ro (d + 1) o) s m ([Value.ref 0].map (ja_tv ad)).toArray below meth c D dA ad jl_c A (o, w') 1 0 0 (1 + ja_mc o) (6 + ja_ms o) pc L st w) ∧ (23 ≤ pc → ja_G p l e (jf_ro (d + 1) o) s m ([Value.ref 0].map (ja_tv ad)).toArray below meth c D dA ad jl_c A (o, w') 1 1 6 (1 + ja_mc o) (6 + ja_ms o) pc L st w)) tc_2 :=
      And.intro (fun K hK L st w h => And.intro (fun _ => (jo_aload_n hX0 dc_2_0 rfl) K (fun pc L st w k => hP0 _ _ _ _ (hK pc L st w k)) L st w h) (fun z => absurd z (by decide)))
      (And.intro (fun K hK L st w h => And.intro (fun _ => (jo_get hX0 rfl jn_i1 (by decide) jw_244 dc_2_1) K (fun pc L st w k => hP0 _ _ _ _ (hK pc L st w k)) L st w h) (fun z => absurd z (by decide)))
      (And.intro (fun K hK L st w h => And.intro (fun _ => (jo_aload_n hX0 dc_2_4 rfl) K (fun pc L st w k => hP0 _ _ _ _ (hK pc L st w k)) L st w h) (fun z => absurd z (by decide)))
      (And.intro (fun K hK L st w h => And.intro (fun _ => (jo_get hX0 rfl jn_i1 (by decide) jw_240 dc_2_5) K (fun pc L st w k => hP0 _ _ _ _ (hK pc L st w k)) L st w h) (fun z => absurd z (by decide)))
      (And.intro (fun K hK L st w h => And.intro (fun _ => (jo_aload_n hX0 dc_2_8 rfl) K (fun pc L st w k => hP0 _ _ _ _ (hK pc L st w k)) L st w h) (fun z => absurd z (by decide)))
      (And.intro (fun K hK L st w h => And.intro (fun _ => (jo_get hX0 rfl jn_i1 (by decide) jw_241 dc_2_9) K (fun pc L st w k => hP0 _ _ _ _ (hK pc L st w k)) L st w h) (fun z => absurd z (by decide)))
      (And.intro (fun K hK L st w h => And.intro (fun _ => (jo_cv hX0 rfl rfl h24 (jn_gV jw_312 jw_313 jw_314 jw_2 jw_315) (by decide +kernel) (by decide) dc_2_12) K (fun pc L st w k => hP0 _ _ _ _ (hK pc L st w k)) L st w h) (fun z => absurd z (by decide)))
      (And.intro (fun K hK L st w h => And.intro (fun _ => (jo_aload_n hX0 dc_2_15 rfl) K (fun pc L st w k => hP0 _ _ _ _ (hK pc L st w k)) L st w h) (fun z => absurd z (by decide)))
      (And.intro (fun K hK L st w h => And.intro (fun _ => (jo_aload_n hX0 dc_2_16 rfl) K (fun pc L st w k => hP0 _ _ _ _ (hK pc L st w k)) L st w h) (fun z => absurd z (by decide)))
      (And.intro (fun K hK L st w h => And.intro (fun _ => (jo_get hX0 rfl jn_i1 (by decide) jw_247 dc_2_17) K (fun pc L st w k => hP0 _ _ _ _ (hK pc L st w k)) L st w h) (fun z => absurd z (by decide)))
      (And.intro (fun K hK L st w h => And.intro (fun _ => jf_cv hX0 rfl rfl h76 (jf_gW jw_464 jw_465 jw_466 jw_5 jq_76) (by decide +kernel) (by decide) dc_2_20 (Nat.le_add_right _ _) (Nat.le_add_right _ _) (fun L st w k => (hK _ _ _ _ k).2 (by decide)) L st w h) (fun z => absurd z (by decide)))
      (And.intro (fun K hK L st w h => And.intro (fun z => absurd z (by decide)) (fun _ => (jo_put hX1 rfl jn_i1 (by decide) jw_243 jn_y1 jn_t1 jn_n1 rfl (by decide +kernel) dc_2_23) (fun pc L st w => 23 ≤ pc ∧ K pc L st w) (fun pc L st w k => (hK pc L st w k.2).2 k.1) L st w (jm_put h (fun _ _ _ k => ⟨by decide, k⟩))))
      (And.intro (fun K hK L st w h => And.intro (fun z => absurd z (by decide)) (fun _ => (jo_aload_n hX1 dc_2_26 rfl) (fun pc L st w => 23 ≤ pc ∧ K pc L st w) (fun pc L st w k => (hK pc L st w k.2).2 k.1) L st w (jm_aload h (fun _ _ _ k => ⟨by decide, k⟩))))
      (And.intro (fun K hK L st w h => And.intro (fun z => absurd z (by decide)) (fun _ => (jo_get hX1 rfl jn_i1 (by decide) jw_243 dc_2_27) (fun pc L st w => 23 ≤ pc ∧ K pc L st w) (fun pc L st w k => (hK pc L st w k.2).2 k.1) L st w (jm_get h (fun _ _ _ k => ⟨by decide, k⟩))))
      (And.intro (fun K hK L st w h => And.intro (fun z => absurd z (by decide)) (fun _ => (jo_iconst hX1 dc_2_30 (by decide)) (fun pc L st w => 23 ≤ pc ∧ K pc L st w) (fun pc L st w k => (hK pc L st w k.2).2 k.1) L st w (jm_ic h (fun _ _ _ k => ⟨by decide, k⟩))))
      (And.intro (fun K hK L st w h => And.intro (fun z => absurd z (by decide)) (fun _ => (jo_icmpeq hX1 dc_2_31 (by decide)) (fun pc L st w => 23 ≤ pc ∧ K pc L st w) (fun pc L st w k => (hK pc L st w k.2).2 k.1) L st w (jm_icmp h (fun _ _ _ k => ⟨by decide, k⟩) (fun _ _ _ k => ⟨by decide, k⟩))))
      (And.intro (fun K hK L st w h => And.intro (fun z => absurd z (by decide)) (fun _ => (jo_aload_n hX1 dc_2_34 rfl) (fun pc L st w => 23 ≤ pc ∧ K pc L st w) (fun pc L st w k => (hK pc L st w k.2).2 k.1) L st w (jm_aload h (fun _ _ _ k => ⟨by decide, k⟩))))
      (And.intro (fun K hK L st w h => And.intro (fun z => absurd z (by decide)) (fun _ => (jo_iconst hX1 dc_2_35 (by decide)) (fun pc L st w => 23 ≤ pc ∧ K pc L st w) (fun pc L st w k => (hK pc L st w k.2).2 k.1) L st w (jm_ic h (fun _ _ _ k => ⟨by decide, k⟩))))
      (And.intro (fun K hK L st w h => And.intro (fun z => absurd z (by decide)) (fun _ => (jo_put hX1 rfl jn_i1 (by decide) jw_242 jn_y1 jn_t1 jn_n1 rfl (by decide +kernel) dc_2_36) (fun pc L st w => 23 ≤ pc ∧ K pc L st w) (fun pc L st w k => (hK pc L st w k.2).2 k.1) L st w (jm_put h (fun _ _ _ k => ⟨by decide, k⟩))))
      (And.intro (fun K hK L st w h => And.intro (fun z => absurd z (by decide)) (fun _ => (jo_thr (CC := CC) (x := 0) hX1 rfl (by decide +kernel) jh_T_73_0 jw_811 jw_19 dc_2_39 dc_2_42 dc_2_43 dc_2_46) (fun _ _ _ _ => False) (fun _ _ _ _ k => k.elim) L st w h))
      (And.intro (fun K hK L st w h => And.intro (fun z => absurd z (by decide)) (fun _ => (jo_aload_n hX1 dc_2_47 rfl) (fun pc L st w => 23 ≤ pc ∧ K pc L st w) (fun pc L st w k => (hK pc L st w k.2).2 k.1) L st w (jm_aload h (fun _ _ _ k => ⟨by decide, k⟩))))
      (And.intro (fun K hK L st w h => And.intro (fun z => absurd z (by decide)) (fun _ => (jo_aload_n hX1 dc_2_48 rfl) (fun pc L st w => 23 ≤ pc ∧ K pc L st w) (fun pc L st w k => (hK pc L st w k.2).2 k.1) L st w (jm_aload h (fun _ _ _ k => ⟨by decide, k⟩))))
      (And.intro (fun K hK L st w h => And.intro (fun z => absurd z (by decide)) (fun _ => (jo_get hX1 rfl jn_i1 (by decide) jw_244 dc_2_49) (fun pc L st w => 23 ≤ pc ∧ K pc L st w) (fun pc L st w k => (hK pc L st w k.2).2 k.1) L st w (jm_get h (fun _ _ _ k => ⟨by decide, k⟩))))
      (And.intro (fun K hK L st w h => And.intro (fun z => absurd z (by decide)) (fun _ => (jo_get hX1 rfl jn_i3 (by decide) jw_40 dc_2_52) (fun pc L st w => 23 ≤ pc ∧ K pc L st w) (fun pc L st w k => (hK pc L st w k.2).2 k.1) L st w (jm_get h (fun _ _ _ k => ⟨by decide, k⟩))))
      (And.intro (fun K hK L st w h => And.intro (fun z => absurd z (by decide)) (fun _ => (jo_put hX1 rfl jn_i1 (by decide) jw_242 jn_y1 jn_t1 jn_n1 rfl (by decide +kernel) dc_2_55) (fun pc L st w => 23 ≤ pc ∧ K pc L st w) (fun pc L st w k => (hK pc L st w k.2).2 k.1) L st w (jm_put h (fun _ _ _ k => ⟨by decide, k⟩))))
      (And.intro (fun K hK L st w h => And.intro (fun z => absurd z (by decide)) (fun _ => (jo_aload_n hX1 dc_2_58 rfl) (fun pc L st w => 23 ≤ pc ∧ K pc L st w) (fun pc L st w k => (hK pc L st w k.2).2 k.1) L st w (jm_aload h (fun _ _ _ k => ⟨by decide, k⟩))))
      (And.intro (fun K hK L st w h => And.intro (fun z => absurd z (by decide)) (fun _ => (jo_get hX1 rfl jn_i1 (by decide) jw_242 dc_2_59) (fun pc L st w => 23 ≤ pc ∧ K pc L st w) (fun pc L st w k => (hK pc L st w k.2).2 k.1) L st w (jm_get h (fun _ _ _ k => ⟨by decide, k⟩))))
      (And.intro (fun K hK L st w h => And.intro (fun z => absurd z (by decide)) (fun _ => (jo_iret (CC := CC) hX1 dc_2_62) (fun _ _ _ _ => False) (fun _ _ _ _ k => k.elim) L st w h))
      (trivial))))))))))))))))))))))))))))
    have hG := h (fun pc L st w => (pc < 23 → ja_G p l e (jf_ro (d + 1) o) s m ([Value.ref 0].map (ja_tv ad)).toArray below meth c D dA ad jl_c A (o, w') 1 0 0 (1 + ja_mc o) (6 + ja_ms o) pc L st w) ∧ (23 ≤ pc → ja_G p l e (jf_ro (d + 1) o) s m ([Value.ref 0].map (ja_tv ad)).toArray below meth c D dA ad jl_c A (o, w') 1 1 6 (1 + ja_mc o) (6 + ja_ms o) pc L st w))
      (fun K pc L st w hK h => ja_codeok hall (fun _ _ _ _ _ _ h => h.elim) pc K hK L st w h)
      (fun pc L L' st w hle h => ⟨fun z ls H locs hl hP hD hS => h.1 z ls H locs ⟨hl.1, hl.2.1, fun i v hi => hl.2.2 i v (hle i v hi)⟩ hP hD hS, fun z ls H locs hl hP hD hS => h.2 z ls H locs ⟨hl.1, hl.2.1, fun i v hi => hl.2.2 i v (hle i v hi)⟩ hP hD hS⟩)
    have hG2 := hG.1 (by decide) _ _ _ (ja_entry (as := [Value.ref 0]) ad hl) hP hD va_S.rf
    rw [ja_Qeq] at hG2
    exact hG2
  cases o with
  | inl v => exact key
  | inr x => exact key
