/-! exceptions that leave a method: own rows over the library's laws (launches without stack traces) -/
section
variable {p : Program} {l : Launch} {e : Env} {R : Room} {s : State} {m : MethodId} {args : Array Value} {below : List Frame} {meth : Method} {c : Code} {T : State} {locs : List Loc} {cells slots : Nat}
/-- the start of the invocation with the heap of now -/
def jx_rb (s T : State) : State := { s with heap := T.heap, slotsUsed := T.slotsUsed }
theorem jx_hears (s T : State) (m : MethodId) (b : List Frame) : (jx_rb s T).hears m b = s.hears m b := by
  cases b with
  | nil => rfl
  | cons f t => cases f <;> rfl
theorem jx_rbE (X : Stand p l e R s m args below meth c T locs cells slots) : T.setVm s.vm = (jx_rb s T).setFrames T.frames := X.same.1
theorem jx_rebase (X : Stand p l e R s m args below meth c T locs cells slots) {R' : Room} (h1 : R'.frames ≤ R.frames) (h2 : R'.locals ≤ R.locals) (h3 : cells + R'.cells ≤ R.cells) (h4 : slots + R'.slots ≤ R.slots) : Stand p l e R' (jx_rb s T) m args below meth c T [] 0 0 := by
  refine ⟨X.admits, X.cas, X.clock, X.frames, ?_, ?_, X.method, X.code, X.here, X.tail, X.warmed, X.limits, X.bytes, ?_⟩
  · have h := X.room
    have hsz := X.heapSize
    have hus := X.used
    have hbk := X.book
    have e1 : (jx_rb s T).localsInUse = s.localsInUse := rfl
    have e2 : (jx_rb s T).frames = s.frames := rfl
    have e3 : (jx_rb s T).me = s.me := rfl
    have e4 : (jx_rb s T).heap = T.heap := rfl
    have e5 : (jx_rb s T).slotsUsed = T.slotsUsed := rfl
    have e6 : (jx_rb s T).slotsTrue = T.slotsTrue := rfl
    simp only [State.hasRoom, Bool.and_eq_true, decide_eq_true_eq] at h ⊢
    rw [e1, e2, e3, e4, e5, e6]
    obtain ⟨⟨⟨⟨a0, a1, a2, a3, a4, a5⟩, b1⟩, b2⟩, -⟩ := h
    refine ⟨⟨⟨⟨by omega, by omega, by omega, by omega, by omega, a5⟩, by omega⟩, by omega⟩, hbk⟩
  · rw [jx_hears]
    exact X.hears
  · have hdr : T.heap.toList.drop T.heap.size = [] := List.drop_eq_nil_of_le (by simp)
    show (jx_rb s T).sameButNew (T.setVm s.vm) [] 0 0
    rw [jx_rbE X]
    refine ⟨?_, Nat.le_refl _, Nat.le_refl _, ?_, ?_, ?_⟩
    · have hcur : (jx_rb s T).cur < (jx_rb s T).threads.size := X.cur
      rw [State.frames_setFrames _ hcur]
    · show T.slotsUsed = T.slotsUsed + ((T.heap.toList.drop T.heap.size).map (·.slots.size)).sum
      rw [hdr]
      rfl
    · show ((T.heap.toList.drop T.heap.size).map (·.slots.size)).sum ≤ 0
      rw [hdr]
      exact Nat.le_refl _
    · intro a c0 hc0
      exact ⟨c0, hc0, rfl, rfl, fun _ _ => rfl⟩
/-- back to the start of the invocation -/
theorem jx_unbase (X : Stand p l e R s m args below meth c T locs cells slots) {U : State} {k n : Nat} (h : (jx_rb s T).sameButNew ({ U with vm := (jx_rb s T).vm } : State) [] k n) : s.sameButNew ({ U with vm := s.vm } : State) locs (cells + k) (slots + n) := by
  have h2 : (T.setVm s.vm).sameButNew ({ U with vm := s.vm } : State) [] k n := by
    obtain ⟨a1, a2, a3, a4, a5, a6⟩ := h
    refine ⟨?_, a2, a3, a4, a5, a6⟩
    rw [jx_rbE X, State.setFrames_setFrames]
    exact a1
  have h3 := X.same.trans h2
  rw [List.append_nil] at h3
  exact h3
theorem jx_old {U : State} {k n : Nat} (h : (jx_rb s T).sameButNew ({ U with vm := (jx_rb s T).vm } : State) [] k n) : T.heap.size ≤ U.heap.size ∧ ∀ q, q < T.heap.size → U.heap[q]? = T.heap[q]? := by
  refine ⟨h.2.1, fun q hq => ?_⟩
  obtain ⟨c0, hc0⟩ : ∃ c0, T.heap[q]? = some c0 := ⟨_, Array.getElem?_eq_getElem hq⟩
  rw [hc0]
  exact h.old_cell hc0
/-! what a method that throws owes -/
def jx_FT (first : State) (o : Outcome) (t : State) (L : List Loc) (k n : Nat) : Prop := (∃ x, o = .threw x) ∧ first.WarmedH t.vm ∧ first.sameButNew ({ t with vm := first.vm } : State) L k n
def jx_MT (l : Launch) (y : MethodName) (ws : List Cond) (rm : Room) (Pc : Array Value → State → Prop) (Qc : Array Value → State → Outcome → State → Prop) (mc ms : Nat) (free : Addr → Prop) : Prop :=
  MetFree l y (headSpec ws rm) Pc (fun _ _ _ _ _ => True) (fun a st o t => Qc a st o t ∧ ∃ L, jx_FT st o t L mc ms ∧ ∀ q ∈ L, free q.base)
def jx_QT (below : List Frame) (Qc : Array Value → State → Outcome → State → Prop) (a : Array Value) (s : State) (mc ms : Nat) (free : Addr → Prop) : State → Prop := fun t =>
  ∃ o, t.status = .running ∧ Ended t below o ∧ Qc a s o t ∧ ∃ L, jx_FT s o t L mc ms ∧ ∀ q ∈ L, free q.base
/-- a static of Throwable that holds a reference or null, and lies outside A -/
def jx_Z (n d : String) (A : Nat → Prop) (U : State) (H : Heap) : Prop := ∃ (c : ClassId) (k : Class) (i : Nat) (f : Field) (a : Nat) (cell : Cell) (v : Value), U.vm.findClass Bundle.tN = some c ∧ U.fieldFound? Bundle.tN n d = some (c, k, i, f) ∧ f.isStatic = true ∧ k.statics = some a ∧ H[a]? = some cell ∧ cell.vm.isStatics = true ∧ cell.cls = c ∧ f.slot < cell.slots.size ∧ k.staticTypes[f.slot]? = some f.type ∧ cell.slots[f.slot]? = some v ∧ v.isRef = true ∧ ¬ A a
theorem jx_Z.moved {n d : String} {A : Nat → Prop} {u U : State} {H : Heap} (hvm : u.vm.Alike U.vm) (h : jx_Z n d A u H) : jx_Z n d A U H := by
  obtain ⟨c, k, i, f, a, cell, v, h1, h2, h3, h4, h5, h6, h7, h8, h9, h10⟩ := h
  obtain ⟨k', hi', he⟩ := State.fieldFound?_setVm hvm h2
  exact ⟨c, k', i, f, a, cell, v, by rw [hvm.findClass]; exact h1, hi', h3, by rw [he]; exact h4, h5, h6, h7, h8, by rw [he]; exact h9, h10⟩
theorem jx_Z.kept {n d : String} {A : Nat → Prop} {U : State} {H H1 : Heap} (h : jx_Z n d A U H) (hq : ∀ a : Nat, a < H.size → ¬ A a → H1[a]? = H[a]?) : jx_Z n d A U H1 := by
  obtain ⟨c, k, i, f, a, cell, v, h1, h2, h3, h4, h5, h6, h7, h8, h9, h10, h11, h12⟩ := h
  exact ⟨c, k, i, f, a, cell, v, h1, h2, h3, h4, by rw [hq a (Array.getElem?_eq_some_iff.mp h5).1 h12]; exact h5, h6, h7, h8, h9, h10, h11, h12⟩
theorem jx_Z.narrow {n d : String} {A B : Nat → Prop} {U : State} {H : Heap} (h : jx_Z n d A U H) (hAB : ∀ q, B q → A q) : jx_Z n d B U H := by
  obtain ⟨c, k, i, f, a, cell, v, h1, h2, h3, h4, h5, h6, h7, h8, h9, h10, h11, h12⟩ := h
  exact ⟨c, k, i, f, a, cell, v, h1, h2, h3, h4, h5, h6, h7, h8, h9, h10, h11, fun z => h12 (hAB a z)⟩
theorem jx_Z.of {n d : String} {A : Nat → Prop} (hl : (Cond.laysStatic Bundle.tN n d).before args s = true) (h : (Cond.isRef (.static Bundle.tN n d)).before args s = true) (hA : ∀ a : Nat, a < s.heap.size → ¬ A a) : jx_Z n d A s s.heap := by
  obtain ⟨c, k, i, f, a, cell, hc, hi, hst, ha, hcell, hs, hcls, hlt, hty⟩ := Cond.laysStatic_spec hl
  cases hv : (Term.static Bundle.tN n d).eval args s none [] s with
  | none => simp [Cond.before, Cond.holds, Cond.value, hv] at h
  | some w =>
    obtain ⟨-, a', cell', ha', hcell', -, hslot⟩ := Term.static_spec hi hv
    cases ha.symm.trans ha'
    cases hcell.symm.trans hcell'
    refine ⟨c, k, i, f, a, cell, w, hc, hi, hst, ha, hcell, hs, hcls, hlt, hty, hslot, ?_, hA a (Array.getElem?_eq_some_iff.mp hcell).1⟩
    simp only [Cond.before, Cond.holds, Cond.value, hv] at h
    cases w <;> simp_all [Value.isRef]
theorem jx_Z.lays {n d : String} {A : Nat → Prop} (h : jx_Z n d A s s.heap) : (Cond.laysStatic Bundle.tN n d).before args s = true := by
  obtain ⟨c, k, i, f, a, cell, v, h1, h2, h3, h4, h5, h6, h7, h8, h9, h10⟩ := h
  simp [Cond.before, Cond.holds, Cond.value, h1, h2, h3, h4, h5, h6, h7, h8, h9]
theorem jx_Z.isRef {n d : String} {A : Nat → Prop} (h : jx_Z n d A s s.heap) : (Cond.isRef (.static Bundle.tN n d)).before args s = true := by
  obtain ⟨c, k, i, f, a, cell, v, h1, h2, h3, h4, h5, h6, h7, h8, h9, h10, h11, h12⟩ := h
  have hv : (Term.static Bundle.tN n d).eval args s none [] s = some v := by
    simp only [Term.eval, State.fieldNamed?, h2, Option.bind_eq_bind, Option.bind_some, h3, beq_self_eq_true, if_true, Option.pure_def, h4, h5]
    cases hz : cell.vm <;> simp_all [VmData.isStatics]
  simp only [Cond.before, Cond.holds, Cond.value, hv]
  cases v <;> simp_all [Value.isRef]
end
section
variable {p : Program} {l : Launch} {e : Env} {R : Room} {s : State} {m : MethodId} {args : Array Value} {below : List Frame} {meth : Method} {c : Code} {H : Heap} {locs : List Loc} {cells slots : Nat}
variable {cc : ByteArray} {pc : Nat} {ls : Array Slot} {Qc : Array Value → State → Outcome → State → Prop} {free : Addr → Prop}
/-- throw new E(), nothing on the stack -/
theorem jx_throw (hexec : p.tables.exec = Jvm.exec) (hb : c.code = cc) (hsize : ls.size = c.maxLocals) (hl : l.stackTraces = false) {own cls : String} {names : List String} {ik ic : Nat} (hown : s.vm.findClass own = some m.cls) (hcls : Bundle.fit cls = true) (hnames : ∀ n ∈ names, Bundle.fit n = true)
    (hat : ∀ U : State, U.vm = s.vm → U.heap = H → (∀ w ∈ Bundle.ownAtoms0 own ic cls names, w.before args U = true) ∧ (Cond.classLink own ik cls).before args U = true ∧ (Cond.initialized cls).before args U = true)
    (hlocks : meth.locks = false) (hnoh : c.exceptionTable.toList = [])
    (d0 : decode cc pc = .ok (.new ik, 3)) (d3 : decode cc (pc + 3) = .ok (.dup, 1)) (d4 : decode cc (pc + 4) = .ok (.invokespecial ic, 3)) (d7 : decode cc (pc + 7) = .ok (.athrow, 1))
    (hRf : names.length + 3 < R.frames) (hRl : 13 * (names.length + 1) + 42 ≤ R.locals) (hc : cells + 1 ≤ R.cells) (hs : slots + 6 ≤ R.slots)
    (hq : ∀ (a : Addr) (t : State) (ce : Cell), H.size ≤ t.heap.size → (∀ q, q < H.size → t.heap[q]? = H[q]?) → t.heap[a]? = some ce → ce.vm = .none → s.vm.findClass cls = some ce.cls → s.WarmedH t.vm → Qc args s (.threw a) t) (hf : ∀ q ∈ locs, free q.base) :
    W p l e R s m args below meth c H locs cells slots (jx_QT below Qc args s (cells + 1) (slots + 6) free) (F0 m pc ls []) := by
  intro T hT X
  subst hT
  have htr : e.platform.stackTraces = false := (show e.platform.stackTraces = l.stackTraces by rw [X.admits.platform]).trans hl
  have Y := jx_rebase X (R' := { frames := R.frames, locals := R.locals, cells := 1, slots := 6 }) (Nat.le_refl _) (Nat.le_refl _) hc hs
  obtain ⟨hat1, hat2, hat3⟩ := hat (jx_rb s T) rfl rfl
  have hins : (Cond.instantiable cls 6).before args (jx_rb s T) = true := hat1 _ (by simp [Bundle.ownAtoms0])
  have hown' : (jx_rb s T).vm.findClass own = some m.cls := hown
  obtain ⟨vm₁, cX, kX, hfX, hkX, -, -, X₁, st1⟩ := Y.newCold hexec (own := own) (C := cls) (index := ik) (n := 6) hown' hat2 hins hat3 (g := F0 m pc ls []) rfl (by rw [hb]; exact d0) (Nat.le_refl _) (Nat.le_refl _)
  generalize hT1 : (T.setVm vm₁).pushCell { cls := cX, slots := kX.instanceTypes.map defaultValue, vm := .none } = T1 at X₁ st1
  have hcellA : T1.heap[T.heap.size]? = some (freshCell cX kX) := by rw [← hT1]; exact State.heap_pushCell_size _ _
  have d3' : decode c.code (pc + 3) = .ok (.dup, 1) := by rw [hb]; exact d3
  obtain ⟨U, hsteps, hrun, hend, hW, hsame, ce, hce, K⟩ := X₁.ctorThrow0 hexec htr (own := own) (cls := cls) (names := names) (ic := ic) hown' hcls hnames hat1 (fun x hx => nomatch hx) hfX hkX hcellA (Nat.le_refl _)
    (g := { method := m, pc := pc + 4, locals := ls, stack := [.ref T.heap.size, .ref T.heap.size], locked := none }) rfl hsize rfl rfl (rest := []) rfl
    (by rw [hb]; exact d4) (by rw [hb]; exact d7) (by rw [hnoh]; exact fun x hx => nomatch hx) hRf (by show 2 * 0 + _ + _ ≤ R.locals; simp [Value.category]; omega) hlocks
  obtain ⟨h1, h2⟩ := jx_old hsame
  refine ⟨U, st1 _ ?_, .threw T.heap.size, hrun, hend, hq _ U ce h1 h2 hce K.vm K.cls hW, locs, ⟨⟨_, rfl⟩, hW, jx_unbase X hsame⟩, hf⟩
  show Steps p.tables e below (T1.setTop { method := m, pc := pc + 3, locals := ls, stack := [.ref T.heap.size], locked := none }) _
  jvm_step X₁.here [X₁.here.top, hexec, d3', Value.category]
  exact hsteps
/-- a call of a method that throws, up to the note over the caller's frame -/
theorem jx_into {U : State} (X : Stand p l e R s m args below meth c U locs cells slots) {g : JFrame} (hg : g.method = m) (hsize : g.locals.size = c.maxLocals) {ig : Instr} {len : Nat} (hdg : decode c.code g.pc = .ok (ig, len)) (hW : 2 * g.monitorRoom + (g.stack.map fun v => v.category).sum ≤ 8)
    {y : MethodName} {mk : MethodId} (hn : U.methodNamed? y = some mk) {ws : List Cond} {rm : Room} {Pc : Array Value → State → Prop} {mc ms : Nat} {bytes : ByteArray} {maxL : Nat} {ret : Option FieldType} {a : Array Value} (hM : jx_MT l y ws rm Pc Qc mc ms free) (hrc : rm.cells = mc) (hrs : rm.slots = ms)
    (hfr : rm.frames + 1 ≤ R.frames) (hlo : 8 + (maxL + 11) + rm.locals ≤ R.locals) (hws : ∀ w ∈ ws, w.before a U = true) (hcode : (Cond.code y bytes maxL ret).before a U = true) (hini : (Cond.initialized y.cls).before a U = true) (hc : cells + mc ≤ R.cells) (hs : slots + ms ≤ R.slots) (hPc : Pc a (U.calling g mk a)) :
    ∃ (x : Addr) (t T' : State) (L : List Loc), Stand p l e R s m args below meth c T' (locs ++ L) (cells + mc) (slots + ms) ∧ (∀ q ∈ L, free q.base) ∧ T'.heap = t.heap ∧ T'.vm = t.vm ∧ Qc a (U.calling g mk a) (.threw x) t ∧ Steps p.tables e below (doInvoke e (U.setTop g) [] mk a).1 ((T'.setTop g).pushFrame (.throwing x)) := by
  obtain ⟨methY, cY, hmY, hcY, -, hlY, -, -, -, -⟩ := Cond.code_spec hn hcode
  obtain ⟨kY, hkY, -⟩ := className_of_methodNamed hn
  have hinitY : kY.init = .initialized := Cond.initialized_spec (findClass_of_methodNamed hn) hkY hini
  have h : At U g.method c below := by rw [hg]; exact X.here
  have happ : (headSpec ws rm).appliesLoose y e.platform (U.calling g mk a) = true :=
    Spec.appliesLoose_calling (g := g) h hdg hn hkY hinitY
      (X.room_calling (g := g) (R' := rm) hsize hmY hcY hfr (by rw [hlY]; omega) (by rw [hrc]; exact hc) (by rw [hrs]; exact hs)) (atoms_intro hws)
  obtain ⟨mid, hmid⟩ := h.above
  have hfr2 : (U.setTop g).frames = (.java g :: mid) ++ below := by rw [State.frames_setTop' g h.top, hmid]; rfl
  obtain ⟨o, s₂, hsteps, -, hend, hq⟩ := Steps.callFree hM p X.admits X.cas X.clock (acts := []) hfr2 happ hPc trivial
  rw [State.frames_setTop' g h.top, X.tail] at hend
  obtain ⟨hq1, L, ⟨⟨x, rfl⟩, hW₂, hsame⟩, hL⟩ := hq
  obtain ⟨T', X', hWT, hB, ht⟩ := X.outOfThrown hg (mk := mk) (a := a) (t := s₂) (x := x) (L := L) (k := mc) (n := ms) hend hW₂ hsame
  refine ⟨x, s₂, T', L, X', hL, ?_, ?_, hq1, ?_⟩
  · rw [ht, Stand.throwing_heap]
  · rw [ht, Stand.throwing_vm]
  · rw [← ht]; exact hsteps
/-- .. by invokevirtual -/
theorem jx_V {T : State} (X : Stand p l e R s m args below meth c T locs cells slots) (hexec : p.tables.exec = Jvm.exec) {own C : String} {index : Nat} {y : MethodName} {bytes : ByteArray} {maxL : Nat} {ret : Option FieldType} {ws : List Cond} {rm : Room} {mc ms n : Nat} {Pc : Array Value → State → Prop}
    (hown : s.vm.findClass own = some m.cls) (cw : CallW R s args own C index y bytes maxL ret ws rm mc ms n) (hM : jx_MT l y ws rm Pc Qc mc ms free) {b : Addr} {As rest : List Value} (hp : PreV s T.heap C b Pc As)
    {g : JFrame} (hg : g.method = m) (hn : As.length = n) (hsize : g.locals.size = c.maxLocals) (hstack : g.stack = As.reverse ++ .ref b :: rest) (hW : 2 * g.monitorRoom + (rest.map fun v => v.category).sum ≤ 8) (hdg : decode c.code g.pc = .ok (.invokevirtual index, 3)) (hf : cells + mc ≤ R.cells ∧ slots + ms ≤ R.slots) :
    ∃ (x : Addr) (st₀ t T' : State) (L : List Loc), st₀.heap = T.heap ∧ Stand p l e R s m args below meth c T' (locs ++ L) (cells + mc) (slots + ms) ∧ (∀ q ∈ L, free q.base) ∧ T'.heap = t.heap ∧ T'.vm = t.vm ∧ Qc (Value.ref b :: As).toArray st₀ (.threw x) t ∧
      ∀ target, Steps p.tables e below ((T'.setTop { g with stack := rest }).pushFrame (.throwing x)) target → Steps p.tables e below (T.setTop g) target := by
  obtain ⟨⟨hrc, hrs, hfr, hlo, hws, hcw, hcode, hini, hy, hlen, hlink⟩, hinst, hsel⟩ := cw
  obtain ⟨hbl, ⟨cellB, hcB, hoB, hclB⟩, hPc⟩ := hp
  obtain ⟨mk, methM, hnamed, hmethM, hstM, habM⟩ := Cond.instanceMethod_spec hinst
  obtain ⟨methM', cM, hmethM', -, -, -, -, -, -, hsigM⟩ := Cond.code_spec hnamed hcode
  cases hmethM.symm.trans hmethM'
  obtain ⟨c2, r2, m2, q1, q2, q3, q4, kP, hkP, hkPi⟩ := Cond.selects_spec hsel
  cases hclB.symm.trans q1
  cases (State.methodFound?_of_named hnamed hy).symm.trans q2
  cases hnamed.symm.trans q3
  have hselP : selectMethod e.platform s.vm cellB.cls mk = .method mk := by rw [Launch.admits_selectMethod X.admits]; exact q4
  obtain ⟨vm₁, X₁, hstep₁⟩ := X.invokevirtual hexec hown hlink hnamed hmethM hstM hkP hkPi hy (a := b) (cell := cellB) hcB
    (fun z h => by rw [h] at hoB; cases hoB) hselP hmethM habM hkP hkPi (g := g) hg (argsL := As) (rest := rest) (hn.trans (hlen _ hsigM)) hstack hdg
  obtain ⟨x, t, T', L, X', hL, e1, e2, hq, hsteps⟩ := jx_into X₁ (g := { g with stack := rest }) hg hsize hdg hW (y := y) (mk := mk) (X₁.named hnamed) (a := (Value.ref b :: As).toArray) hM hrc hrs hfr hlo (fun w hw => hws w hw _ _ X₁.warmed) (hws _ hcw _ _ X₁.warmed)
    (word_at X₁.warmed (Or.inl (by first | rfl | simp [Cond.onTables, Cond.keeps, Cond.steady])) hini) hf.1 hf.2 (hbl _ _ _ _ (hPc (T.setVm vm₁) rfl X₁.warmed))
  exact ⟨x, (T.setVm vm₁).calling { g with stack := rest } mk (Value.ref b :: As).toArray, t, T', L, rfl, X', hL, e1, e2, hq, fun target h => hstep₁ _ fun acts => by rw [doInvoke_state]; exact hsteps.trans h⟩
/-- .. by invokestatic -/
theorem jx_S {T : State} (X : Stand p l e R s m args below meth c T locs cells slots) (hexec : p.tables.exec = Jvm.exec) {own : String} {index : Nat} {y : MethodName} {bytes : ByteArray} {maxL : Nat} {ret : Option FieldType} {ws : List Cond} {rm : Room} {mc ms n : Nat} {Pc : Array Value → State → Prop}
    (hown : s.vm.findClass own = some m.cls) (cw : CallB R s args own index y bytes maxL ret ws rm mc ms n ∧ (Cond.static y).before args s = true) (hM : jx_MT l y ws rm Pc Qc mc ms free) {As rest : List Value} (hp : PreS s T.heap Pc As)
    {g : JFrame} (hg : g.method = m) (hn : As.length = n) (hsize : g.locals.size = c.maxLocals) (hstack : g.stack = As.reverse ++ rest) (hW : 2 * g.monitorRoom + (rest.map fun v => v.category).sum ≤ 8) (hdg : decode c.code g.pc = .ok (.invokestatic index, 3)) (hf : cells + mc ≤ R.cells ∧ slots + ms ≤ R.slots) :
    ∃ (x : Addr) (st₀ t T' : State) (L : List Loc), st₀.heap = T.heap ∧ Stand p l e R s m args below meth c T' (locs ++ L) (cells + mc) (slots + ms) ∧ (∀ q ∈ L, free q.base) ∧ T'.heap = t.heap ∧ T'.vm = t.vm ∧ Qc As.toArray st₀ (.threw x) t ∧
      ∀ target, Steps p.tables e below ((T'.setTop { g with stack := rest }).pushFrame (.throwing x)) target → Steps p.tables e below (T.setTop g) target := by
  obtain ⟨⟨hrc, hrs, hfr, hlo, hws, hcw, hcode, hini, hy, hlen, hlink⟩, hstat⟩ := cw
  obtain ⟨hbl, hPc⟩ := hp
  obtain ⟨mk, hnamed⟩ := Cond.code_named hcode
  obtain ⟨methM, cM, hmethM, -, -, -, -, -, -, hsigM⟩ := Cond.code_spec hnamed hcode
  have hstatic : methM.isStatic = true := Cond.static_spec hnamed hmethM hstat
  obtain ⟨kP, hkP, -⟩ := className_of_methodNamed hnamed
  have hinitP : kP.init = .initialized := Cond.initialized_spec (findClass_of_methodNamed hnamed) hkP hini
  obtain ⟨vm₁, X₁, hstep₁⟩ := X.invokestatic hexec hown hlink hnamed hmethM hstatic hkP hinitP hy (g := g) hg (argsL := As) (rest := rest) (hn.trans (hlen _ hsigM)) hstack hdg
  obtain ⟨x, t, T', L, X', hL, e1, e2, hq, hsteps⟩ := jx_into X₁ (g := { g with stack := rest }) hg hsize hdg hW (y := y) (mk := mk) (X₁.named hnamed) (a := As.toArray) hM hrc hrs hfr hlo (fun w hw => hws w hw _ _ X₁.warmed) (hws _ hcw _ _ X₁.warmed)
    (word_at X₁.warmed (Or.inl (by first | rfl | simp [Cond.onTables, Cond.keeps, Cond.steady])) hini) hf.1 hf.2 (hbl _ _ _ _ (hPc (T.setVm vm₁) rfl X₁.warmed))
  exact ⟨x, (T.setVm vm₁).calling { g with stack := rest } mk As.toArray, t, T', L, rfl, X', hL, e1, e2, hq, fun target h => hstep₁ _ fun acts => by rw [doInvoke_state]; exact hsteps.trans h⟩
end
section
/-- a handler is found and its class is linked there -/
def jx_Fd (e : Env) (s : State) (f : JFrame) (a : Addr) (h : Handler) (vm' : Vm) : Prop :=
  ∀ (Q : Handler → Pre) (E : CtlPost) (d : Bool) (acts : List Action), wp (findHandler f a) Q E e d acts s ↔ Q h d acts (s.setVm vm')
theorem jx_go {e : Env} {s : State} {f : JFrame} {a : Addr} {x : ExceptionTableEntry} {c : ClassId} {cell : Cell} {meth : Method} {code : Code} (hm : s.vm.method? f.method = some meth) (hc : meth.code = some code) (hsplit : code.exceptionTable.toList = [x]) (hx : covers x f.pc = true) (h0 : x.catchType ≠ 0)
    (hl : s.vm.ClassLinks e.platform f.method.cls x.catchType c) (hcell : s.heap[a]? = some cell) (hobj : ∀ k, cell.vm ≠ .statics k)
    (hk : ∃ k, s.vm.classes[cell.cls]? = some k) (hc2 : ∃ k, s.vm.classes[c]? = some k) (hyes : s.vm.assignable cell.cls c = true) :
    jx_Fd e s f a (.found x.handlerPc) (s.vm.noted f.method.cls x.catchType (.cls c)) := by
  intro Q E d acts
  rw [Jvm.W.findHandler_eq hm hc, hsplit]
  simp only [covers] at hx
  obtain ⟨ha, ht⟩ := (resolveClass_links e.toSetting hl).op (op := VmOp.resolveClass f.method.cls x.catchType) rfl
  have hal : s.vm.Alike (s.vm.noted f.method.cls x.catchType (.cls c)) := (Vm.Alike.refl s.vm).noted _ _ _
  obtain ⟨k1, hk1⟩ := hk
  obtain ⟨k2, hk2⟩ := hc2
  obtain ⟨k1', hk1', -⟩ := hal.2.2 _ _ hk1
  obtain ⟨k2', hk2', -⟩ := hal.2.2 _ _ hk2
  have hyes' : (s.vm.noted f.method.cls x.catchType (.cls c)).assignable cell.cls c = true := by rw [hal.assignable]; exact hyes
  simp [findHandler.go, hx, h0, ha, ht, hcell, hobj, hk1', hk2', hyes', VmOp.dirties, VmOp.acts]
theorem jx_cstep {e : Env} {s : State} {a : Addr} {f : JFrame} {r : List Frame} {pc : Nat} {vm' : Vm} (hfind : jx_Fd e s f a (.found pc) vm') :
    (stepThrowing e s a (.java f :: r)).Is ((s.setVm vm').setFrames (.java { f with pc := pc, stack := [.ref a] } :: r)) [] := by
  simp only [stepThrowing, searchFrame, vmDo]
  generalize hr : Sem.go _ e false [] s = res
  obtain ⟨as, rfl, ha⟩ := Sem.eq_ok_of hr (a := Handler.found pc) (s' := s.setVm vm') (acts' := []) (by simp [hfind _ _ _ _])
  exact ⟨rfl, ha⟩
theorem jx_caught {tb : Tables} {e : Env} {s target : State} {g : JFrame} {c : Code} {below : List Frame} {a : Addr} (h : At s g.method c below) {pc : Nat} {vm' : Vm} (hfind : jx_Fd e ((s.setTop g).pushFrame (.throwing a)) g a (.found pc) vm')
    (hrest : Steps tb e below ((s.setVm vm').setTop { g with pc := pc, stack := [.ref a] }) target) :
    Steps tb e below ((s.setTop g).pushFrame (.throwing a)) target := by
  obtain ⟨hgo, hw⟩ := h.throwing a
  refine Steps.head hgo hw ?_
  rw [stepThread_throwing (frames_entered h.top _), (jx_cstep (s := (s.setTop g).pushFrame (.throwing a)) hfind).1]
  obtain ⟨g₀, hg⟩ := Option.isSome_iff_exists.mp h.top
  obtain ⟨r, hr⟩ := State.topJava?_eq_some.mp hg
  have hr' : (s.setVm vm').frames = .java g₀ :: r := hr
  rw [State.setTop_of_frames _ hr'] at hrest
  have e1 : (((s.setTop g).pushFrame (.throwing a)).setVm vm') = ((s.setVm vm').setTop g).pushFrame (.throwing a) := rfl
  rw [e1, State.pushFrame, State.setFrames_setFrames, State.setTop_of_frames _ hr', State.setFrames_setFrames, hr]
  exact hrest
variable {p : Program} {l : Launch} {e : Env} {R : Room} {s : State} {m : MethodId} {args : Array Value} {below : List Frame} {meth : Method} {c : Code} {T : State} {locs : List Loc} {cells slots : Nat}
theorem jx_catch (X : Stand p l e R s m args below meth c T locs cells slots) {a : Addr} {g : JFrame} (hg : g.method = m) {cell : Cell} (hcell : T.heap[a]? = some cell) (hvm : cell.vm = .none) {own name E : String} (hown : s.vm.findClass own = some m.cls) (hcl : s.vm.findClass E = some cell.cls)
    {x : ExceptionTableEntry} (hsplit : c.exceptionTable.toList = [x]) (hx : covers x g.pc = true) (h0 : x.catchType ≠ 0) (hlink : (Cond.classLink own x.catchType name).before args s = true) (hcast : (Cond.castable E name).before args s = true) :
    ∃ vm', Stand p l e R s m args below meth c (T.setVm vm') locs cells slots ∧ ∀ target, Steps p.tables e below ((T.setVm vm').setTop { g with pc := x.handlerPc, stack := [.ref a] }) target → Steps p.tables e below ((T.setTop g).pushFrame (.throwing a)) target := by
  subst hg
  have hpl : e.platform.magicAccessors = ({} : Platform).magicAccessors := by rw [X.admits.platform]
  obtain ⟨c3, c4, hc3, hc4, hasg⟩ := Cond.castable_spec hcast
  cases Option.some.inj (hc3.symm.trans hcl)
  obtain ⟨c5, hc5, hl5⟩ := Cond.classLink_spec hown hlink e.platform hpl
  cases Option.some.inj (hc4.symm.trans hc5)
  obtain ⟨dk, _, _, kt, hd, _, _, _, _, hkt, _, hopen⟩ := hl5.here
  obtain ⟨k9, h9, -⟩ := Vm.findClass_spec hcl
  obtain ⟨k9', h9', -⟩ := X.warmed.alike.2.2 _ _ h9
  obtain ⟨kt', hkt', -⟩ := X.warmed.alike.2.2 _ _ hkt
  have hW' := X.warmed.noted hd hopen (State.rightAt_cls hl5)
  refine ⟨_, X.noted hW', fun target hrest => ?_⟩
  refine jx_caught (vm' := T.vm.noted g.method.cls x.catchType (.cls c4)) X.here ?_ hrest
  exact jx_go (s := (T.setTop g).pushFrame (.throwing a)) (cell := cell) X.method' X.code hsplit hx h0 (X.warmed.classLinks hl5) hcell (fun k z => by rw [hvm] at z; cases z) ⟨k9', h9'⟩ ⟨kt', hkt'⟩ (by rw [Stand.throwing_vm, X.warmed.alike.assignable]; exact hasg)
end
