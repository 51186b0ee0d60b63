/-! Contracts over cells, their frame, and how they are called. -/
abbrev lPc (D : va_G) (dA : Nat → ClassId) (ad : Nat → Nat) (wc : va_W) (sz : Nat) (As : List Value) : Array Value → State → Prop := va_Pc As (fun U => U.heap.size = sz ∧ va_P D jn_cl wc U.heap ∧ va_K D jn_cl (ja_ty dA) U ∧ ja_Kz ad (va_A wc sz) U ∧ va_D (fun _ => True) wc)
abbrev lQc (D : va_G) (A : Nat → Prop) (X : Outcome → State → Prop) (w1 : va_W) : Array Value → State → Outcome → State → Prop := fun _ st oc t => (X oc t ∧ va_P D jn_cl w1 t.heap ∧ va_D A w1) ∧ va_F A st t
def lM (l : Launch) (D : va_G) (dA : Nat → ClassId) (ad : Nat → Nat) (y : MethodName) (ws : List Cond) (rm : Room) (As : List Value) (wc : va_W) (v : Option Value) (w1 : va_W) (mc ms : Nat) : Prop := ∀ sz : Nat, Met l y ws rm (lPc D dA ad wc sz As) (lQc D (va_A wc sz) (fun oc _ => oc = .returned v) w1) mc ms (va_A wc sz)
def lT (x : Nat) (l : Launch) (D : va_G) (dA : Nat → ClassId) (ad : Nat → Nat) (y : MethodName) (ws : List Cond) (rm : Room) (As : List Value) (wc : va_W) (w1 : va_W) (mc ms : Nat) : Prop := ∀ sz : Nat, jx_MT l y ws rm (lPc D dA ad wc sz As) (lQc D (va_A wc sz) (fun oc t => ∃ a, oc = .threw a ∧ ja_Th x a t) w1) mc ms (va_A wc sz)
section
variable {l : Launch} {D : va_G} {dA : Nat → ClassId} {ad : Nat → Nat} {y : MethodName} {ws : List Cond} {rm : Room} {As : List Value} {wc wr w1 : va_W} {mc ms d : Nat} {lay : List ja_E} {as : List Value} {w w' : ja_w}
theorem lM_of {v : Option Value} (h : ja_Met l D dA ad lay y ws d as w (.inl v) w') : lM l D dA ad y ws (ja_rm d (.inl v)) (as.map (ja_tv ad)) (ja_ws dA ad lay w) (v.map (ja_tv ad)) (ja_ws dA ad lay w') 0 0 := h
theorem lT_of {x : Nat} (h : ja_Met l D dA ad lay y ws d as w (.inr x) w') : lT x l D dA ad y ws (ja_rm d (.inr x)) (as.map (ja_tv ad)) (ja_ws dA ad lay w) (ja_ws dA ad lay w') 1 6 := h
theorem lKz {A A' : Nat → Prop} {U : State} (hAA : ∀ q, A' q → A q) (h : ja_Kz ad A U) : ja_Kz ad A' U := by
  obtain ⟨h1, h2, h3, h4, h5, k1, ⟨v, hv, k2⟩, k3, k4⟩ := h
  exact ⟨h1, h2, h3, h4.narrow hAA, h5.narrow hAA, k1.narrow hAA, ⟨v, hv, k2.narrow hAA⟩, k3.narrow hAA, k4⟩
theorem lA_up {sz : Nat} : ∀ q, va_A wc sz q → va_A (wc ++ wr) sz q := by
  rintro q (⟨k, e, hk⟩ | h)
  · exact Or.inl ⟨k, e, by rw [List.getElem?_append_left (List.getElem?_eq_some_iff.mp hk).1]; exact hk⟩
  · exact Or.inr h
theorem lP_l {cl : List vw_C} {H : Heap} (h : va_P D cl (wc ++ wr) H) : va_P D cl wc H := fun k q hk => h k q (by rw [List.getElem?_append_left (List.getElem?_eq_some_iff.mp hk).1]; exact hk)
theorem l_rt {k : Nat} {q : Nat × va_E} (hk : wr[k]? = some q) : (wc ++ wr)[wc.length + k]? = some q := by
  rw [List.getElem?_append_right (by omega), show wc.length + k - wc.length = k by omega]; exact hk
theorem l_lt {k : Nat} {q : Nat × va_E} (hk : wc[k]? = some q) : (wc ++ wr)[k]? = some q := by
  rw [List.getElem?_append_left (List.getElem?_eq_some_iff.mp hk).1]; exact hk
theorem lP_r {cl : List vw_C} {H : Heap} (h : va_P D cl (wc ++ wr) H) : va_P D cl wr H := fun k q hk => h _ q (l_rt hk)
theorem lD_l {A : Nat → Prop} (h : va_D A (wc ++ wr)) : va_D A wc := ⟨fun i j p q hp hq e => h.1 i j p q (l_lt hp) (l_lt hq) e, fun k q hk => h.2 k q (l_lt hk)⟩
theorem lD_r {A : Nat → Prop} (h : va_D A (wc ++ wr)) : va_D A wr := ⟨fun i j p q hp hq e => by have := h.1 _ _ p q (l_rt hp) (l_rt hq) e; omega, fun k q hk => h.2 _ q (l_rt hk)⟩
theorem lD_x {A : Nat → Prop} (h : va_D A (wc ++ wr)) : ∀ (i j : Nat) (p q : Nat × va_E), wc[i]? = some p → wr[j]? = some q → p.1 ≠ q.1 := fun i j p q hp hq e => by
  have h1 := h.1 _ _ p q (l_lt hp) (l_rt hq) e
  have h2 := (List.getElem?_eq_some_iff.mp hp).1
  omega
/-- two parts change places -/
theorem lP_sw {cl : List vw_C} {a b c : va_W} {H : Heap} (h : va_P D cl (a ++ (b ++ c)) H) : va_P D cl (b ++ (a ++ c)) H := va_P.app (lP_l (lP_r h)) (va_P.app (lP_l h) (lP_r (lP_r h)))
theorem lD_sw {A : Nat → Prop} {a b c : va_W} (h : va_D A (a ++ (b ++ c))) : va_D A (b ++ (a ++ c)) := by
  have hx := lD_x h
  have hbc := lD_r h
  refine va_D.app (lD_l hbc) (va_D.app (lD_l h) (lD_r hbc) (fun i j p q hp hq => hx i _ p q hp (l_rt hq))) (fun i j p q hp hq e => ?_)
  by_cases hj : j < a.length
  · rw [List.getElem?_append_left hj] at hq
    exact hx j i q p hq (l_lt hp) e.symm
  · rw [List.getElem?_append_right (by omega)] at hq
    exact lD_x hbc i _ p q hp hq e
/-- the last two parts change places -/
theorem lP_s2 {cl : List vw_C} {a b c : va_W} {H : Heap} (h : va_P D cl (a ++ (b ++ c)) H) : va_P D cl ((a ++ c) ++ b) H := va_P.app (va_P.app (lP_l h) (lP_r (lP_r h))) (lP_l (lP_r h))
theorem lD_s2 {A : Nat → Prop} {a b c : va_W} (h : va_D A (a ++ (b ++ c))) : va_D A ((a ++ c) ++ b) := by
  have hx := lD_x h
  have hbc := lD_r h
  refine va_D.app (va_D.app (lD_l h) (lD_r hbc) (fun i j p q hp hq => hx i _ p q hp (l_rt hq))) (lD_l hbc) (fun i j p q hp hq e => ?_)
  by_cases hj : i < a.length
  · rw [List.getElem?_append_left hj] at hp
    exact hx i j p q hp (l_lt hq) e
  · rw [List.getElem?_append_right (by omega)] at hp
    exact lD_x hbc j _ q p hq hp e.symm
theorem lP_s3 {cl : List vw_C} {a b c : va_W} {H : Heap} (h : va_P D cl ((a ++ c) ++ b) H) : va_P D cl (a ++ (b ++ c)) H := va_P.app (lP_l (lP_l h)) (va_P.app (lP_r h) (lP_r (lP_l h)))
theorem lD_s3 {A : Nat → Prop} {a b c : va_W} (h : va_D A ((a ++ c) ++ b)) : va_D A (a ++ (b ++ c)) := by
  have hx := lD_x h
  have hac := lD_l h
  refine va_D.app (lD_l hac) (va_D.app (lD_r h) (lD_r hac) (fun i j p q hp hq e => hx _ i q p (l_rt hq) hp e.symm)) (fun i j p q hp hq e => ?_)
  by_cases hj : j < b.length
  · rw [List.getElem?_append_left hj] at hq
    exact hx i j p q (l_lt hp) hq e
  · rw [List.getElem?_append_right (by omega)] at hq
    exact lD_x hac i _ p q hp hq e
/-- the frame: what lies beside a callee's cells stays -/
theorem l_fr {S : Spec} {X : Outcome → State → Prop} {FE : State → Outcome → State → List Loc → Prop} {K : Program → Env → List Frame → State → Array Value → Prop} {sz : Nat} (h : MetFree l y S (lPc D dA ad wc sz As) K (fun a st o t => lQc D (va_A wc sz) X w1 a st o t ∧ ∃ L, FE st o t L ∧ ∀ q ∈ L, va_A wc sz q.base)) : MetFree l y S (lPc D dA ad (wc ++ wr) sz As) K (fun a st o t => lQc D (va_A (wc ++ wr) sz) X (w1 ++ wr) a st o t ∧ ∃ L, FE st o t L ∧ ∀ q ∈ L, va_A (wc ++ wr) sz q.base) := by
  refine MetFree.mono h (fun a U hU => ?_) (fun _ _ _ _ _ k => k) (fun a st o t hP' hQ => ?_)
  · obtain ⟨e, hsz, hP, hK, hZ, hD⟩ := hU
    exact ⟨e, hsz, lP_l hP, hK, lKz lA_up hZ, lD_l hD⟩
  · obtain ⟨e, hsz, hP, hK, hZ, hD⟩ := hP'
    obtain ⟨⟨⟨hX, hp1, hd1⟩, hF1, hF2⟩, L, hfe, hL⟩ := hQ
    have apart : ∀ (j : Nat) (q : Nat × va_E), wr[j]? = some q → q.1 < st.heap.size ∧ ¬ va_A wc sz q.1 := by
      intro j q hj
      have hlt := (hP _ q (l_rt hj)).lt
      refine ⟨hlt, ?_⟩
      rintro (⟨k, e, hk⟩ | h)
      · exact lD_x hD k j (q.1, e) q hk hj rfl
      · omega
    refine ⟨⟨⟨hX, va_P.app hp1 ((lP_r hP).kept (fun k q hk => hF2 q.1 (apart k q hk).1 (apart k q hk).2)), va_D.app (hd1.weaken (fun _ q _ h => lA_up q.1 h)) ((lD_r hD).weaken (fun k q hk _ => va_A.in (l_rt hk))) (fun i j p q hp hq e => ?_)⟩, hF1, fun q h1 h2 => hF2 q h1 (fun z => h2 (lA_up q z))⟩, L, hfe, fun q hq => lA_up _ (hL q hq)⟩
    exact (apart j q hq).2 (by rw [← e]; exact hd1.2 i p hp)
theorem lM_fr {v : Option Value} (h : lM l D dA ad y ws rm As wc v w1 mc ms) : lM l D dA ad y ws rm As (wc ++ wr) v (w1 ++ wr) mc ms := fun sz => l_fr (FE := fun st o t L => FrameEnd st o t L mc ms) (h sz)
theorem lT_fr {x : Nat} (h : lT x l D dA ad y ws rm As wc w1 mc ms) : lT x l D dA ad y ws rm As (wc ++ wr) (w1 ++ wr) mc ms := fun sz => l_fr (FE := fun st o t L => jx_FT st o t L mc ms) (h sz)
theorem l_blind {sz : Nat} : FrameBlind (lPc D dA ad wc sz As) := fun a U g mk q => by
  obtain ⟨q0, q1, qP, qK, qZ, qD⟩ := q
  exact ⟨q0, q1, qP, va_K.moved (u := U) (U := U.calling g mk a) (Vm.Alike.refl U.vm) qK, ja_KzC qZ, qD⟩
end
section
variable {p : Program} {l : Launch} {e : Env} {R : Room} {s : State} {m : MethodId} {args : Array Value} {below : List Frame} {meth : Method} {c : Code} {D : va_G} {dA : Nat → ClassId} {ad : Nat → Nat} {A : Nat → Prop} {nL c0 s0 : Nat}
variable {own : String} {cc : ByteArray} {pc : Nat} {Q : State → Prop} {H : Heap} {locs : List Loc} {ls : Array Slot} {wc w1 : va_W} {As rest : List Value} {rm : Room} {mc ms : Nat} {v : Option Value}
theorem l_preU (hK : va_K D jn_cl (ja_ty dA) s) (hz : ja_Kz ad A s) (hA : ∀ q, s.heap.size ≤ q → A q) (hP : va_P D jn_cl wc H) (hD : va_D A wc) (hS : va_S A s.heap H locs) : ∀ U : State, U.heap = H → s.WarmedH U.vm → lPc D dA ad wc H.size As As.toArray U := fun U hU hW =>
  ⟨rfl, by rw [hU], by rw [hU]; exact hP, va_K.moved hW.alike hK, ja_KzU hS (ja_free hD hS hA) hU hW hz, hD.weaken (fun _ _ _ _ => trivial)⟩
theorem l_back {st0 : List Value} {a : Array Value} {A1 : Nat → Prop} {free : Addr → Prop} {H0 : Heap}
    (hr : va_Run p l e R s m args below meth c H locs c0 s0 mc ms (F0 m pc ls st0) rest (lQc D A1 (fun oc _ => oc = .returned v) w1 a) free) (hS : va_S A H0 H locs) (hA2 : ∀ q, A1 q → A q) (hf : ∀ q, free q → A q)
    (kk : ∀ (H1 : Heap) (locs1 : List Loc), va_P D jn_cl w1 H1 → va_D A w1 → va_S A H0 H1 locs1 → W p l e R s m args below meth c H1 locs1 (c0 + mc) (s0 + ms) Q (F0 m (pc + 3) ls (v.toList ++ rest))) : W p l e R s m args below meth c H locs c0 s0 Q (F0 m pc ls st0) := by
  intro T hT X
  obtain ⟨v', st₀, t, T', L, h0, X', hL, e1, e2, ⟨⟨hv, hp, hd⟩, hz, hk⟩, st⟩ := hr T hT X
  cases hv
  rw [h0] at hz hk
  obtain ⟨t2, a1, b1⟩ := kk T'.heap (locs ++ L) (by rw [e1]; exact hp) (hd.weaken (fun k q _ h => hA2 q.1 h))
    ⟨Nat.le_trans hS.1 (by rw [e1]; exact hz), fun q h1 h2 => by rw [e1, hk q (Nat.lt_of_lt_of_le h1 hS.1) (fun z => h2 (hA2 q z))]; exact hS.2.1 q h1 h2, fun q hq => by
      rcases List.mem_append.mp hq with h | h
      · exact hS.2.2 q h
      · exact hf _ (hL q h)⟩ T' rfl X'
  exact ⟨t2, st t2 a1, b1⟩
/-- a call of an object's method -/
theorem l_V (S : CallFix p m c cc nL s args jn_T own) (hK : va_K D jn_cl (ja_ty dA) s) (hz : ja_Kz ad A s) (hA : ∀ q, s.heap.size ≤ q → A q) {C : String} {T : u_T} {N ci idx na q0 b maxL : Nat} {fs : List Value} {y : MethodName} {bytes : ByteArray} {ret : Option FieldType} {wj Tj : List Cond} (hc : jn_cl[ci]? = some (C, T, N)) (hw : wj = Cond.code y bytes maxL ret :: Tj) (hM : lM l D dA ad y wj rm (.ref b :: As) wc v w1 mc ms) (hat : wc[q0]? = some (b, .inr (ci, fs))) (hG : GoodIn jn_T (wsV own idx C y wj)) (hy : y.cls = C ∧ y.cls ≠ "java/lang/invoke/MethodHandle" ∧ y.cls ≠ "java/lang/invoke/VarHandle" ∧ (parseMethodDescriptor y.desc).map (fun d => d.parameters.length) = some na) (hrc : rm.cells = mc) (hrs : rm.slots = ms) (hR : rm.frames + 1 ≤ R.frames ∧ 8 + (maxL + 11) + rm.locals ≤ R.locals) (hd : decode cc pc = .ok (.invokevirtual idx, 3)) (hn : As.length = na) (hl : ls.size = nL) (hr8 : (rest.map fun v => v.category).sum ≤ 8) (hfit : c0 + mc ≤ R.cells ∧ s0 + ms ≤ R.slots)
    (hP : va_P D jn_cl wc H) (hD : va_D A wc) (hS : va_S A s.heap H locs) (kk : ∀ (H1 : Heap) (locs1 : List Loc), va_P D jn_cl w1 H1 → va_D A w1 → va_S A s.heap H1 locs1 → W p l e R s m args below meth c H1 locs1 (c0 + mc) (s0 + ms) Q (F0 m (pc + 3) ls (v.toList ++ rest))) : W p l e R s m args below meth c H locs c0 s0 Q (F0 m pc ls (As.reverse ++ .ref b :: rest)) :=
  l_back (va_runV (As := As) (rest := rest) S (hM H.size) (cwV na S.2.2.2.2 hG hw hrc hrs hy hR) ⟨l_blind, va_recv hK hP hc hat, l_preU hK hz hA hP hD hS⟩ rfl hn hl rfl (lv_room hr8) hd hfit) hS (ja_free hD hS hA) (ja_free hD hS hA) kk
/-- a call of a static method that catches -/
theorem l_S (S : CallFix p m c cc nL s args jn_T own) (hK : va_K D jn_cl (ja_ty dA) s) (hz : ja_Kz ad A s) (hA : ∀ q, s.heap.size ≤ q → A q) {idx na maxL : Nat} {y : MethodName} {bytes : ByteArray} {ret : Option FieldType} {hh : List (Nat × Nat × Nat × Nat)} {wj Tj : List Cond} (hw : wj = Cond.codeWith y bytes maxL ret hh :: Tj) (hM : lM l D dA ad y wj rm As wc v w1 mc ms) (hG : GoodIn jn_T wj) (hlk : Cond.methodLink own idx y ∈ jn_T) (hst : Cond.static y ∈ jn_T) (hin : Cond.initialized y.cls ∈ jn_T) (hy : y.cls ≠ "java/lang/invoke/MethodHandle" ∧ y.cls ≠ "java/lang/invoke/VarHandle" ∧ (parseMethodDescriptor y.desc).map (fun d => d.parameters.length) = some na) (hrc : rm.cells = mc) (hrs : rm.slots = ms) (hR : rm.frames + 1 ≤ R.frames ∧ 8 + (maxL + 11) + rm.locals ≤ R.locals) (hd : decode cc pc = .ok (.invokestatic idx, 3)) (hn : As.length = na) (hl : ls.size = nL) (hr8 : (rest.map fun v => v.category).sum ≤ 8) (hfit : c0 + mc ≤ R.cells ∧ s0 + ms ≤ R.slots)
    (hP : va_P D jn_cl wc H) (hD : va_D A wc) (hS : va_S A s.heap H locs) (kk : ∀ (H1 : Heap) (locs1 : List Loc), va_P D jn_cl w1 H1 → va_D A w1 → va_S A s.heap H1 locs1 → W p l e R s m args below meth c H1 locs1 (c0 + mc) (s0 + ms) Q (F0 m (pc + 3) ls (v.toList ++ rest))) : W p l e R s m args below meth c H locs c0 s0 Q (F0 m pc ls (As.reverse ++ rest)) := by
  refine l_back (D := D) (w1 := w1) (v := v) (mc := mc) (ms := ms) (rest := rest) (A1 := va_A wc H.size) (free := va_A wc H.size) (a := As.toArray) (A := A) (H0 := s.heap) ?_ hS (ja_free hD hS hA) (ja_free hD hS hA) kk
  obtain ⟨hx, hb, hml, ho, ht⟩ := S
  have hcw : Cond.codeWith y bytes maxL ret hh ∈ wj := by rw [hw]; exact List.mem_cons_self
  have hini : (Cond.initialized y.cls).before args s = true := ht _ hin
  have hBk : Back l R p e below s args y 3 8 (PreOf R mc ms (lPc D dA ad wc H.size As)) (PostOf (lQc D (va_A wc H.size) (fun oc _ => oc = .returned v) w1) mc ms (va_A wc H.size)) := va_backW (hh := hh) (bytes := bytes) (maxL := maxL) (ret := ret) (hM H.size) l_blind hrc hrs hR.1 hR.2 (pay_in ht hG) hcw (fun a' U hW => word_at hW (Or.inl (by first | rfl | simp [Cond.onTables, Cond.keeps, Cond.steady])) hini)
  obtain ⟨mk, methM, cM, hnamed, hmethM, -, -, -, -, -, -, hsigM⟩ := Cond.codeWith_spec (ht _ (hG _ hcw).1)
  have hstatic : methM.isStatic = true := Cond.static_spec hnamed hmethM (ht _ hst)
  obtain ⟨kP, hkP, -⟩ := className_of_methodNamed hnamed
  have hinitP : kP.init = .initialized := Cond.initialized_spec (findClass_of_methodNamed hnamed) hkP hini
  have hlen : na = methM.sig.parameters.length := by
    have h2 := hy.2.2
    rw [hsigM] at h2
    exact (Option.some.inj h2).symm
  intro T hT X
  obtain ⟨vm₁, X₁, hstep₁⟩ := X.invokestatic hx ho (ht _ hlk) hnamed hmethM hstatic hkP hinitP ⟨hy.1, hy.2.1⟩ (g := F0 m pc ls (As.reverse ++ rest)) rfl (argsL := As) (rest := rest) (hn.trans hlen) rfl (by rw [hb]; exact hd)
  obtain ⟨v', ⟨U', l2, c2, s2⟩, X', ⟨g', mk', t, L, e1, e2, hq, h1, hL, h2, h3⟩, hsteps⟩ := hBk m meth c ⟨T.setVm vm₁, locs, c0, s0⟩ { F0 m pc ls (As.reverse ++ rest) with stack := rest } (.invokestatic idx) mk As.toArray X₁ rfl (hl.trans hml.symm) (by rw [hb]; exact hd) (lv_room hr8) (X₁.named hnamed) ⟨hfit.1, hfit.2, l_preU hK hz hA hP hD hS (T.setVm vm₁) hT X₁.warmed⟩
  dsimp only [Pt.U, Pt.locs, Pt.cells, Pt.slots] at X' e1 e2 h1 h2 h3 hsteps
  subst h1; subst h2; subst h3
  exact ⟨v', (T.setVm vm₁).calling g' mk' As.toArray, t, U', L, hT, X', hL, e1, e2, hq, fun target h => hstep₁ _ fun acts => by rw [doInvoke_state]; exact hsteps.trans h⟩
/-- a call that throws, in a method that catches it -/
theorem l_H (S : CallFix p m c cc nL s args jn_T own) (hK : va_K D jn_cl (ja_ty dA) s) (hz : ja_Kz ad A s) (hA : ∀ q, s.heap.size ≤ q → A q) {C nm : String} {T : u_T} {x N ci idx na q0 b maxL : Nat} {fs : List Value} {y : MethodName} {bytes : ByteArray} {ret : Option FieldType} {wj Tj : List Cond} (hc : jn_cl[ci]? = some (C, T, N)) (hw : wj = Cond.code y bytes maxL ret :: Tj) (hM : lT x l D dA ad y wj rm (.ref b :: As) wc w1 mc ms) (hat : wc[q0]? = some (b, .inr (ci, fs))) (hG : GoodIn jn_T (wsV own idx C y wj)) (hy : y.cls = C ∧ y.cls ≠ "java/lang/invoke/MethodHandle" ∧ y.cls ≠ "java/lang/invoke/VarHandle" ∧ (parseMethodDescriptor y.desc).map (fun d => d.parameters.length) = some na) (hrc : rm.cells = mc) (hrs : rm.slots = ms) (hR : rm.frames + 1 ≤ R.frames ∧ 8 + (maxL + 11) + rm.locals ≤ R.locals) (hd : decode cc pc = .ok (.invokevirtual idx, 3)) (hn : As.length = na) (hl : ls.size = nL) (hr8 : (rest.map fun v => v.category).sum ≤ 8) (hfit : c0 + mc ≤ R.cells ∧ s0 + ms ≤ R.slots)
    {x0 : ExceptionTableEntry} {hp : Nat} (hex : c.exceptionTable.toList = [x0]) (hcov : covers x0 pc = true) (hct : x0.catchType ≠ 0) (hhp : x0.handlerPc = hp) (hnm : ["java/lang/IllegalArgumentException", "java/lang/IndexOutOfBoundsException"].getD x "" = nm) (hlk : Cond.classLink own x0.catchType nm ∈ jn_T) (hcast : va_Nw (.castable nm nm) s)
    (hP : va_P D jn_cl wc H) (hD : va_D A wc) (hS : va_S A s.heap H locs) (kk : ∀ (H1 : Heap) (locs1 : List Loc) (x9 : Nat), va_P D jn_cl w1 H1 → va_D A w1 → va_S A s.heap H1 locs1 → W p l e R s m args below meth c H1 locs1 (c0 + mc) (s0 + ms) Q (F0 m hp ls [.ref x9])) : W p l e R s m args below meth c H locs c0 s0 Q (F0 m pc ls (As.reverse ++ .ref b :: rest)) := by
  have hF := ja_free hD hS hA
  intro T0 hT0 X0
  subst hT0
  obtain ⟨x9, st₀, t9, T', L9, h0, X', hL, e1, e2, hq9, st9⟩ := jx_V X0 S.1 S.2.2.2.1 (cwV na S.2.2.2.2 hG hw hrc hrs hy hR) (hM T0.heap.size) (As := As) (rest := rest) ⟨l_blind, va_recv hK hP hc hat, l_preU hK hz hA hP hD hS⟩ (g := F0 m pc ls (As.reverse ++ .ref b :: rest)) rfl hn (hl.trans S.2.2.1.symm) rfl (lv_room hr8) (by rw [S.2.1]; exact hd) hfit
  obtain ⟨⟨⟨a9, ha9, cell9, cX9, g1, g2, g3, g4⟩, hP1, hD1⟩, hz9, hk9⟩ := hq9
  cases ha9
  rw [h0] at hz9 hk9
  have h4 : T'.vm.findClass nm = some cX9 := by rw [e2, ← hnm]; exact g4
  rw [X'.warmed.alike.findClass] at h4
  have hcell : T'.heap[x9]? = some cell9 := by rw [e1]; exact g1
  obtain ⟨vm', X2, st2⟩ := jx_catch X' (a := x9) (g := { F0 m pc ls (As.reverse ++ .ref b :: rest) with stack := rest }) rfl hcell g3 S.2.2.2.1 (by rw [g2]; exact h4) hex hcov hct (S.2.2.2.2 _ hlk) (va_Nw.use rfl hcast)
  have hS' : va_S A s.heap T'.heap (locs ++ L9) := by
    refine ⟨by rw [e1]; exact Nat.le_trans hS.1 hz9, fun q h1 h2 => ?_, fun q hq => ?_⟩
    · rw [e1, hk9 q (Nat.lt_of_lt_of_le h1 hS.1) (fun z => h2 (hF q z))]
      exact hS.2.1 q h1 h2
    · rcases List.mem_append.mp hq with h | h
      · exact hS.2.2 q h
      · exact hF _ (hL q h)
  obtain ⟨t2, a2, b2⟩ := kk T'.heap (locs ++ L9) x9 (by rw [e1]; exact hP1) (hD1.weaken (fun k q _ h => hF q.1 h)) hS' (T'.setVm vm') rfl X2
  exact ⟨t2, st9 _ (st2 _ (by rw [hhp]; exact a2)), b2⟩
end
theorem l_at {a : va_W} {x : Nat × va_E} : (a ++ [x])[a.length]? = some x := by
  rw [List.getElem?_append_right (Nat.le_refl _), Nat.sub_self]; rfl
theorem l_set {a : va_W} {x y : Nat × va_E} : (a ++ [x]).set a.length y = a ++ [y] := by
  rw [List.set_append_right _ _ (Nat.le_refl _), Nat.sub_self]; rfl
/-- the room of a helper of the law -/
def lh_rm (d mc ms : Nat) : Room := { frames := 14 + d, cells := mc, slots := ms, locals := 400 + 40 * d }
