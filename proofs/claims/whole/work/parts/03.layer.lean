/-! the pure machine: a world is numbers at places; references are places that never change -/
abbrev ja_I : Type := Nat → Nat → Int32
abbrev ja_J : Type := Nat → Nat → Int64
abbrev ja_w : Type := ja_I × ja_I × ja_J
abbrev ja_E : Type := (Nat × List (Option Nat)) ⊕ (Nat × Nat)
def ja_up (f : ja_I) (p k : Nat) (v : Int32) : ja_I := fun q j => cond (Nat.beq q p && Nat.beq j k) v (f q j)
def ja_uL (f : ja_J) (p k : Nat) (v : Int64) : ja_J := fun q j => cond (Nat.beq q p && Nat.beq j k) v (f q j)
def ja_tv (ad : Nat → Nat) (v : Value) : Value := match v with
  | .ref q => .ref (ad q)
  | x => x
def ja_fv (ad : Nat → Nat) (f : Nat → Int32) (k : Nat) (o : Option Nat) : Value := match o with
  | none => .int (f k)
  | some q => .ref (ad q)
def ja_c (dA : Nat → ClassId) (ad : Nat → Nat) (w : ja_w) (p : Nat) (x : ja_E) : Nat × va_E := (ad p, match x with
  | .inl o => .inr (o.1, o.2.mapIdx (ja_fv ad (w.1 p)))
  | .inr a => .inl (dA a.1, a.2, if a.1 = 2 then .inr (.inl (w.2.2 p)) else .inl (w.2.1 p)))
def ja_ws (dA : Nat → ClassId) (ad : Nat → Nat) (lay : List ja_E) (w : ja_w) : va_W := lay.mapIdx (ja_c dA ad w)
def ja_ty (dA : Nat → ClassId) : List (ClassId × FieldType) := [(dA 0, .int), (dA 1, .char), (dA 2, .long)]
abbrev ja_L : Type := List (Option Value)
abbrev ja_K : Type := Nat → ja_L → List Value → ja_w → Prop
abbrev ja_O : Type := Option Value ⊕ Nat
abbrev ja_C : Type := Nat → List Value → ja_w → ja_O → ja_w → Prop
abbrev ja_S : Type := ja_C → (ja_O × ja_w) → ja_K → ja_L → List Value → ja_w → Prop
def ja_le (L' L : ja_L) : Prop := ∀ (i : Nat) (v : Value), L'[i]? = some (some v) → L[i]? = some (some v)
def ja_R (code : Nat → ja_S) (C : ja_C) (r : ja_O × ja_w) : ja_K := fun pc L st w => ∀ P : ja_K, (∀ (K : ja_K) (pc : Nat) (L : ja_L) (st : List Value) (w : ja_w), (∀ pc L st w, K pc L st w → P pc L st w) → code pc C r K L st w → P pc L st w) → (∀ (pc : Nat) (L L' : ja_L) (st : List Value) (w : ja_w), ja_le L' L → P pc L' st w → P pc L st w) → P pc L st w
theorem ja_st {code : Nat → ja_S} {C : ja_C} {r : ja_O × ja_w} {pc : Nat} {L : ja_L} {st : List Value} {w : ja_w} (h : code pc C r (ja_R code C r) L st w) : ja_R code C r pc L st w := fun P h1 h2 => h1 _ pc L st w (fun _ _ _ _ k => k P h1 h2) h
theorem ja_wk {code : Nat → ja_S} {C : ja_C} {r : ja_O × ja_w} {pc : Nat} {L L' : ja_L} {st : List Value} {w : ja_w} (hl : ja_le L' L) (h : ja_R code C r pc L' st w) : ja_R code C r pc L st w := fun P h1 h2 => h2 pc L L' st w hl (h P h1 h2)
def ja_kl (ks : List Bool) (L : ja_L) : ja_L := match ks, L with
  | true :: ks, x :: L => x :: ja_kl ks L
  | false :: ks, _ :: L => none :: ja_kl ks L
  | [], L => L
  | _, [] => []
theorem ja_klle (ks : List Bool) (L : ja_L) : ja_le (ja_kl ks L) L := by
  induction ks generalizing L with
  | nil => intro i v h; cases L <;> simpa [ja_kl] using h
  | cons b ks ih =>
    cases L with
    | nil => intro i v h; cases b <;> simp [ja_kl] at h
    | cons x L =>
      intro i v h
      cases b <;> cases i with
      | zero => simp [ja_kl] at h ⊢; try exact h
      | succ i => simp only [ja_kl, List.getElem?_cons_succ] at h ⊢; exact ih L i v h
theorem ja_wkb {code : Nat → ja_S} {C : ja_C} {r : ja_O × ja_w} {pc : Nat} {L : ja_L} {st : List Value} {w : ja_w} (ks : List Bool) (h : ja_R code C r pc (ja_kl ks L) st w) : ja_R code C r pc L st w := ja_wk (ja_klle ks L) h
def ja_code (l : List (Nat × ja_S)) (pc : Nat) : ja_S := match l with
  | [] => fun _ _ _ _ _ _ => False
  | (k, f) :: t => match Nat.beq pc k with
    | true => f
    | false => ja_code t pc
def ja_all (P : Nat → ja_S → Prop) (l : List (Nat × ja_S)) : Prop := match l with
  | [] => True
  | (k, f) :: t => P k f ∧ ja_all P t
/-- the locals at the entry -/
def ja_en1 (as : List Value) : ja_L := match as with
  | [] => []
  | v :: t => match v.category with
    | 2 => some v :: none :: ja_en1 t
    | _ => some v :: ja_en1 t
def ja_en (n : Nat) (as : List Value) : ja_L := ja_en1 as ++ List.replicate (n - (ja_en1 as).length) none
def ja_Ev (code : Nat → Nat → ja_S) (nl : Nat → Nat) : Nat → ja_C
  | 0 => fun _ _ _ _ _ => False
  | d + 1 => fun j as w o w' => Nat.ble (ja_en1 as).length (nl j) = true ∧ ja_R (code j) (ja_Ev code nl d) (o, w') 0 (ja_en (nl j) as) [] w
/-- no long lies just below slot i -/
def ja_nl (L : ja_L) (i : Nat) : Bool := match i with
  | 0 => true
  | k + 1 => match L[k]? with
    | some (some (.long _)) => false
    | some (some (.double _)) => false
    | _ => true
/-! the instructions; n: the next place in the code -/
def js_iload (i n : Nat) : ja_S := fun _ _ K L st w => match L[i]? with
  | some (some (.int x)) => K n L (.int x :: st) w
  | _ => False
def js_lload (i n : Nat) : ja_S := fun _ _ K L st w => match L[i]? with
  | some (some (.long x)) => K n L (.long x :: st) w
  | _ => False
def js_aload (i n : Nat) : ja_S := fun _ _ K L st w => match L[i]? with
  | some (some (.ref x)) => K n L (.ref x :: st) w
  | _ => False
def js_istore (i n : Nat) : ja_S := fun _ _ K L st w => match st, ja_nl L i with
  | .int x :: t, true => K n (L.set i (some (.int x))) t w
  | _, _ => False
def js_lstore (i n : Nat) : ja_S := fun _ _ K L st w => match st, ja_nl L i with
  | .long x :: t, true => K n ((L.set i (some (.long x))).set (i + 1) none) t w
  | _, _ => False
def js_iinc (i : Nat) (v : Int32) (n : Nat) : ja_S := fun _ _ K L st w => match L[i]?, ja_nl L i with
  | some (some (.int x)), true => K n (L.set i (some (.int (x + v)))) st w
  | _, _ => False
def js_ic (v : Int32) (n : Nat) : ja_S := fun _ _ K L st w => K n L (.int v :: st) w
def js_lc (v : Int64) (n : Nat) : ja_S := fun _ _ K L st w => K n L (.long v :: st) w
def js_ib (f : Int32 → Int32 → Int32) (n : Nat) : ja_S := fun _ _ K L st w => match st with
  | .int y :: .int x :: t => K n L (.int (f x y) :: t) w
  | _ => False
def js_idiv (n : Nat) : ja_S := fun _ _ K L st w => match st with
  | .int y :: .int x :: t => ¬ y = 0 ∧ K n L (.int (x / y) :: t) w
  | _ => False
def js_irem (n : Nat) : ja_S := fun _ _ K L st w => match st with
  | .int y :: .int x :: t => ¬ y = 0 ∧ K n L (.int (x - x / y * y) :: t) w
  | _ => False
def js_lb (f : Int64 → Int64 → Int64) (n : Nat) : ja_S := fun _ _ K L st w => match st with
  | .long y :: .long x :: t => K n L (.long (f x y) :: t) w
  | _ => False
def js_ls (f : Int64 → Int32 → Int64) (n : Nat) : ja_S := fun _ _ K L st w => match st with
  | .int y :: .long x :: t => K n L (.long (f x y) :: t) w
  | _ => False
def js_lcmp (n : Nat) : ja_S := fun _ _ K L st w => match st with
  | .long y :: .long x :: t => K n L (.int (lg_cmp x y) :: t) w
  | _ => False
def js_i2l (n : Nat) : ja_S := fun _ _ K L st w => match st with
  | .int x :: t => K n L (.long x.toInt64 :: t) w
  | _ => False
def js_l2i (n : Nat) : ja_S := fun _ _ K L st w => match st with
  | .long x :: t => K n L (.int x.toInt32 :: t) w
  | _ => False
def js_i2c (n : Nat) : ja_S := fun _ _ K L st w => match st with
  | .int x :: t => K n L (.int (x.toUInt32 % 65536).toInt32 :: t) w
  | _ => False
def js_dup (n : Nat) : ja_S := fun _ _ K L st w => match st with
  | .int x :: t => K n L (.int x :: .int x :: t) w
  | .ref x :: t => K n L (.ref x :: .ref x :: t) w
  | _ => False
def js_dup2 (n : Nat) : ja_S := fun _ _ K L st w => match st with
  | .int y :: .ref x :: t => K n L (.int y :: .ref x :: .int y :: .ref x :: t) w
  | _ => False
def js_pop (n : Nat) : ja_S := fun _ _ K L st w => match st with
  | .int _ :: t => K n L t w
  | _ => False
def js_goto (n : Nat) : ja_S := fun _ _ K L st w => K n L st w
def js_if (f : Int32 → Prop) (t n : Nat) : ja_S := fun _ _ K L st w => match st with
  | .int x :: u => (f x → K t L u w) ∧ (¬ f x → K n L u w)
  | _ => False
def js_ic2 (f : Int32 → Int32 → Prop) (t n : Nat) : ja_S := fun _ _ K L st w => match st with
  | .int y :: .int x :: u => (f x y → K t L u w) ∧ (¬ f x y → K n L u w)
  | _ => False
def ja_sw (x : Int32) (k : Nat → Prop) (dflt : Nat) (l : List (Int32 × Nat)) : Prop := match l with
  | [] => k dflt
  | (v, t) :: u => (x = v → k t) ∧ (¬ x = v → ja_sw x k dflt u)
def js_sw (l : List (Int32 × Nat)) (dflt : Nat) : ja_S := fun _ _ K L st w => match st with
  | .int x :: u => ja_sw x (fun n => K n L u w) dflt l
  | _ => False
def js_get (lay : List ja_E) (ci k n : Nat) : ja_S := fun _ _ K L st w => match st with
  | .ref p :: t => match lay[p]? with
    | some (.inl (cj, fs)) => match Nat.beq cj ci, fs[k]? with
      | true, some none => K n L (.int (w.1 p k) :: t) w
      | true, some (some q) => K n L (.ref q :: t) w
      | _, _ => False
    | _ => False
  | _ => False
def js_put (lay : List ja_E) (ci k n : Nat) : ja_S := fun _ _ K L st w => match st with
  | .int v :: .ref p :: t => match lay[p]? with
    | some (.inl (cj, fs)) => match Nat.beq cj ci, fs[k]? with
      | true, some none => K n L t (ja_up w.1 p k v, w.2.1, w.2.2)
      | _, _ => False
    | _ => False
  | _ => False
/-- into a boolean field -/
def js_putz (lay : List ja_E) (ci k n : Nat) : ja_S := fun _ _ K L st w => match st with
  | .int v :: .ref p :: t => match lay[p]? with
    | some (.inl (cj, fs)) => match Nat.beq cj ci, fs[k]? with
      | true, some none => (v = 0 ∨ v = 1) ∧ K n L t (ja_up w.1 p k v, w.2.1, w.2.2)
      | _, _ => False
    | _ => False
  | _ => False
def js_ald (lay : List ja_E) (ty n : Nat) : ja_S := fun _ _ K L st w => match st with
  | .int i :: .ref p :: t => match lay[p]? with
    | some (.inr (tz, len)) => match Nat.beq tz ty with
      | true => vp_in i len ∧ K n L (.int (w.2.1 p i.toNatClampNeg) :: t) w
      | false => False
    | _ => False
  | _ => False
def js_ast (lay : List ja_E) (n : Nat) : ja_S := fun _ _ K L st w => match st with
  | .int x :: .int i :: .ref p :: t => match lay[p]? with
    | some (.inr (tz, len)) => match Nat.beq tz 0 with
      | true => vp_in i len ∧ K n L t (w.1, ja_up w.2.1 p i.toNatClampNeg x, w.2.2)
      | false => False
    | _ => False
  | _ => False
def js_cst (lay : List ja_E) (n : Nat) : ja_S := fun _ _ K L st w => match st with
  | .int x :: .int i :: .ref p :: t => match lay[p]? with
    | some (.inr (tz, len)) => match Nat.beq tz 1 with
      | true => vp_in i len ∧ K n L t (w.1, ja_up w.2.1 p i.toNatClampNeg (vp_nar .char x), w.2.2)
      | false => False
    | _ => False
  | _ => False
def js_lald (lay : List ja_E) (n : Nat) : ja_S := fun _ _ K L st w => match st with
  | .int i :: .ref p :: t => match lay[p]? with
    | some (.inr (tz, len)) => match Nat.beq tz 2 with
      | true => vp_in i len ∧ K n L (.long (w.2.2 p i.toNatClampNeg) :: t) w
      | false => False
    | _ => False
  | _ => False
def js_last (lay : List ja_E) (n : Nat) : ja_S := fun _ _ K L st w => match st with
  | .long x :: .int i :: .ref p :: t => match lay[p]? with
    | some (.inr (tz, len)) => match Nat.beq tz 2 with
      | true => vp_in i len ∧ K n L t (w.1, w.2.1, ja_uL w.2.2 p i.toNatClampNeg x)
      | false => False
    | _ => False
  | _ => False
/-- a call of method j on an object of class ci with na values, which comes back -/
def js_cv (lay : List ja_E) (ci j na n : Nat) : ja_S := fun C _ K L st w => match st.drop na with
  | .ref q :: t => match lay[q]? with
    | some (.inl (cj, _)) => match Nat.beq cj ci with
      | true => Nat.ble (t.map fun v => v.category).sum 8 = true ∧ ∃ (v : Option Value) (w1 : ja_w), C j (.ref q :: (st.take na).reverse) w (.inl v) w1 ∧ K n L (v.toList ++ t) w1
      | false => False
    | _ => False
  | _ => False
/-- a static call -/
def js_cs (j na n : Nat) : ja_S := fun C _ K L st w => Nat.ble na st.length = true ∧ Nat.ble ((st.drop na).map fun v => v.category).sum 8 = true ∧ ∃ (v : Option Value) (w1 : ja_w), C j (st.take na).reverse w (.inl v) w1 ∧ K n L (v.toList ++ st.drop na) w1
/-- .. that may throw -/
def js_xv (lay : List ja_E) (ci j na n : Nat) : ja_S := fun C r K L st w => match st.drop na with
  | .ref q :: t => match lay[q]? with
    | some (.inl (cj, _)) => match Nat.beq cj ci with
      | true => Nat.ble (t.map fun v => v.category).sum 8 = true ∧ ((∃ (v : Option Value) (w1 : ja_w), C j (.ref q :: (st.take na).reverse) w (.inl v) w1 ∧ K n L (v.toList ++ t) w1) ∨ ∃ (x : Nat) (w1 : ja_w), C j (.ref q :: (st.take na).reverse) w (.inr x) w1 ∧ r = (.inr x, w1))
      | false => False
    | _ => False
  | _ => False
def js_xs (j na n : Nat) : ja_S := fun C r K L st w => Nat.ble na st.length = true ∧ Nat.ble ((st.drop na).map fun v => v.category).sum 8 = true ∧ ((∃ (v : Option Value) (w1 : ja_w), C j (st.take na).reverse w (.inl v) w1 ∧ K n L (v.toList ++ st.drop na) w1) ∨ ∃ (x : Nat) (w1 : ja_w), C j (st.take na).reverse w (.inr x) w1 ∧ r = (.inr x, w1))
/-- throw new E() -/
def js_thr (x : Nat) : ja_S := fun _ r _ _ st w => match st with
  | [] => r = (.inr x, w)
  | _ => False
/-- Math.min -/
def js_min (n : Nat) : ja_S := fun _ _ K L st w => match st with
  | .int y :: .int x :: t => Nat.ble (t.map fun v => v.category).sum 8 = true ∧ K n L (.int (if y < x then y else x) :: t) w
  | _ => False
/-- a method given by what it answers: of one int, of one long -/
def js_e1 (f : Int32 → Int32) : ja_S := fun _ r _ L _ w => match L with
  | [some (.int x)] => r = (.inl (some (.int (f x))), w)
  | _ => False
def js_eL (f : Int64 → Int32) : ja_S := fun _ r _ L _ w => match L with
  | [some (.long x), none] => r = (.inl (some (.int (f x))), w)
  | _ => False
def js_ret : ja_S := fun _ r _ _ st w => match st with
  | [] => r = (.inl none, w)
  | _ => False
def js_iret : ja_S := fun _ r _ _ st w => match st with
  | [.int x] => r = (.inl (some (.int x)), w)
  | _ => False
def js_zret : ja_S := fun _ r _ _ st w => match st with
  | [.int x] => (x = 0 ∨ x = 1) ∧ r = (.inl (some (.int x)), w)
  | _ => False
def js_cret : ja_S := fun _ r _ _ st w => match st with
  | [.int x] => narrow .char (.int x) = .int x ∧ r = (.inl (some (.int x)), w)
  | _ => False
def js_lret : ja_S := fun _ r _ _ st w => match st with
  | [.long x] => r = (.inl (some (.long x)), w)
  | _ => False
/-! what it means for the real machine -/
def ja_has (ad : Nat → Nat) (ls : Array Slot) (nL : Nat) (L : ja_L) : Prop := ls.size = nL ∧ lv_wf ls ∧ ∀ (i : Nat) (v : Value), L[i]? = some (some v) → ls[i]? = some (.val (ja_tv ad v))
def ja_mc (o : ja_O) : Nat := match o with
  | .inl _ => 0
  | .inr _ => 1
def ja_ms (o : ja_O) : Nat := match o with
  | .inl _ => 0
  | .inr _ => 6
def ja_rm (d : Nat) (o : ja_O) : Room := { frames := 12 + d, cells := ja_mc o, slots := ja_ms o, locals := 300 + 40 * d }
/-- a thrown object: of class number x in a list of names -/
def ja_Th (x : Nat) (a : Addr) (t : State) : Prop := ∃ (cell : Cell) (cX : ClassId), t.heap[a]? = some cell ∧ cell.cls = cX ∧ cell.vm = .none ∧ t.vm.findClass (["java/lang/IllegalArgumentException", "java/lang/IndexOutOfBoundsException"].getD x "") = some cX
def ja_Qc (D : va_G) (dA : Nat → ClassId) (ad : Nat → Nat) (lay : List ja_E) (A : Nat → Prop) (r : ja_O × ja_w) : Array Value → State → Outcome → State → Prop := fun _ st oc t =>
  ((match r.1 with
    | .inl v => oc = .returned (v.map (ja_tv ad))
    | .inr x => ∃ a, oc = .threw a ∧ ja_Th x a t) ∧ va_P D jn_cl (ja_ws dA ad lay r.2) t.heap ∧ va_D A (ja_ws dA ad lay r.2)) ∧ va_F A st t
/-- the literals: lengths, bytes, their places in the pool of Tokens -/
def ji_len : List Nat := [16, 7, 3, 4, 4, 2, 4, 5, 6, 6]
def ji_byt : List (List Int32) := [[40, 41, 91, 93, 123, 125, 59, 44, 42, 61, 43, 45, 47, 60, 38, 33], [116, 121, 112, 101, 100, 101, 102], [105, 110, 116], [99, 104, 97, 114], [118, 111, 105, 100], [105, 102], [101, 108, 115, 101], [119, 104, 105, 108, 101], [114, 101, 116, 117, 114, 110], [115, 105, 122, 101, 111, 102]]
def ji_lit : List (Nat × String × Nat) := [(56, "()[]{};,*=+-/<&!", 0), (63, "typedef", 1), (69, "int", 2), (71, "char", 3), (73, "void", 4), (75, "if", 5), (77, "else", 6), (79, "while", 7), (81, "return", 8), (83, "sizeof", 9)]
/-- what a contract carries of the literals -/
def ja_Ks (ad : Nat → Nat) (A : Nat → Prop) (U : State) : Prop := va_Z "java/lang/String" "COMPACT_STRINGS" "Z" (.int 1) A U U.heap ∧ (∃ v : Value, (v = .null ∨ v = .ref (ad 300)) ∧ va_Z "jdk/internal/util/Preconditions" "SIOOBE_FORMATTER" "Ljava/util/function/BiFunction;" v A U U.heap) ∧ vk_S 10 ji_len ji_byt (fun i => ad (100 + i)) (fun i => ad (200 + i)) A U U.heap ∧ ∀ q ∈ ji_lit, vk_R "TypeOrThing$Tokens" q.1 q.2.1 (ad (100 + q.2.2)) U
theorem ja_KsU {ad : Nat → Nat} {A A' : Nat → Prop} {s U : State} {H : Heap} {locs : List Loc} (hS : va_S A s.heap H locs) (hAA : ∀ q, A' q → A q) (hU : U.heap = H) (hW : s.WarmedH U.vm) (h : ja_Ks ad A s) : ja_Ks ad A' U := by
  obtain ⟨h1, ⟨v, hv, h4⟩, h2, h3⟩ := h
  exact ⟨by rw [hU]; exact ((va_Z.moved hW.alike h1).kept hS.2.1).narrow hAA, ⟨v, hv, by rw [hU]; exact ((va_Z.moved hW.alike h4).kept hS.2.1).narrow hAA⟩, by rw [hU]; exact ((vk_S.moved hW.alike h2).kept hS.2.1).narrow hAA, fun q hq => (h3 q hq).warm hW⟩
theorem ja_KsC {ad : Nat → Nat} {A : Nat → Prop} {U : State} {g : JFrame} {mk : MethodId} {a : Array Value} (h : ja_Ks ad A U) : ja_Ks ad A (U.calling g mk a) := by
  obtain ⟨h1, ⟨v, hv, h4⟩, h2, h3⟩ := h
  exact ⟨va_Z.moved (u := U) (U := U.calling g mk a) (Vm.Alike.refl U.vm) h1, ⟨v, hv, va_Z.moved (u := U) (U := U.calling g mk a) (Vm.Alike.refl U.vm) h4⟩, vk_S.moved (u := U) (U := U.calling g mk a) (Vm.Alike.refl U.vm) h2, fun q hq => vk_R.same (u := U) rfl (h3 q hq)⟩
/-- what a contract carries of the start: links across the nest, what Throwable needs -/
def ja_Kz (ad : Nat → Nat) (A : Nat → Prop) (U : State) : Prop := (∀ q ∈ jn_NW, va_Nw (.methodLinkNest q.1 q.2.1 q.2.2.1 q.2.2.2) U) ∧ (∀ x ∈ jn_De, va_Nw (.declares x) U) ∧ (∀ x ∈ jn_Ex, va_Nw (.castable x x) U) ∧ jx_Z "UNASSIGNED_STACK" Bundle.steD A U U.heap ∧ jx_Z "SUPPRESSED_SENTINEL" Bundle.listD A U U.heap ∧ ja_Ks ad A U
theorem ja_KzU {ad : Nat → Nat} {A A' : Nat → Prop} {s U : State} {H : Heap} {locs : List Loc} (hS : va_S A s.heap H locs) (hAA : ∀ q, A' q → A q) (hU : U.heap = H) (hW : s.WarmedH U.vm) (h : ja_Kz ad A s) : ja_Kz ad A' U :=
  ⟨fun q hq => va_Nw.warmM hW (h.1 q hq), fun x hx => va_Nw.warmD hW (h.2.1 x hx), fun x hx => va_Nw.warmC hW (h.2.2.1 x hx), by rw [hU]; exact ((jx_Z.moved hW.alike h.2.2.2.1).kept hS.2.1).narrow hAA, by rw [hU]; exact ((jx_Z.moved hW.alike h.2.2.2.2.1).kept hS.2.1).narrow hAA, ja_KsU hS hAA hU hW h.2.2.2.2.2⟩
theorem ja_KzC {ad : Nat → Nat} {A : Nat → Prop} {U : State} {g : JFrame} {mk : MethodId} {a : Array Value} (h : ja_Kz ad A U) : ja_Kz ad A (U.calling g mk a) :=
  ⟨fun q hq => va_Nw.same rfl rfl (h.1 q hq), fun x hx => va_Nw.same rfl rfl (h.2.1 x hx), fun x hx => va_Nw.same rfl rfl (h.2.2.1 x hx), jx_Z.moved (u := U) (U := U.calling g mk a) (Vm.Alike.refl U.vm) h.2.2.2.1, jx_Z.moved (u := U) (U := U.calling g mk a) (Vm.Alike.refl U.vm) h.2.2.2.2.1, ja_KsC h.2.2.2.2.2⟩
def ja_Pc (D : va_G) (dA : Nat → ClassId) (ad : Nat → Nat) (lay : List ja_E) (sz : Nat) (as : List Value) (w : ja_w) : Array Value → State → Prop := va_Pc (as.map (ja_tv ad)) (fun U => U.heap.size = sz ∧ va_P D jn_cl (ja_ws dA ad lay w) U.heap ∧ va_K D jn_cl (ja_ty dA) U ∧ ja_Kz ad (va_A (ja_ws dA ad lay w) sz) U ∧ va_D (fun _ => True) (ja_ws dA ad lay w))
def ja_Met (l : Launch) (D : va_G) (dA : Nat → ClassId) (ad : Nat → Nat) (lay : List ja_E) (y : MethodName) (ws : List Cond) (d : Nat) (as : List Value) (w : ja_w) (o : ja_O) (w' : ja_w) : Prop :=
  match o with
  | .inl v => ∀ sz : Nat, Met l y ws (ja_rm d (.inl v)) (ja_Pc D dA ad lay sz as w) (ja_Qc D dA ad lay (va_A (ja_ws dA ad lay w) sz) (.inl v, w')) 0 0 (va_A (ja_ws dA ad lay w) sz)
  | .inr x => ∀ sz : Nat, jx_MT l y ws (ja_rm d (.inr x)) (ja_Pc D dA ad lay sz as w) (ja_Qc D dA ad lay (va_A (ja_ws dA ad lay w) sz) (.inr x, w')) 1 6 (va_A (ja_ws dA ad lay w) sz)
def ja_MQ (below : List Frame) (Qc : Array Value → State → Outcome → State → Prop) (a : Array Value) (s : State) (o : ja_O) (kc ks : Nat) (free : Addr → Prop) : State → Prop := match o with
  | .inl _ => MQ below Qc a s kc ks free
  | .inr _ => jx_QT below Qc a s kc ks free
def ja_G (p : Program) (l : Launch) (e : Env) (R : Room) (s : State) (m : MethodId) (args : Array Value) (below : List Frame) (meth : Method) (c : Code) (D : va_G) (dA : Nat → ClassId) (ad : Nat → Nat) (lay : List ja_E) (A : Nat → Prop) (r : ja_O × ja_w) (nL c0 s0 kc ks : Nat) : ja_K := fun pc L st w =>
  ∀ (ls : Array Slot) (H : Heap) (locs : List Loc), ja_has ad ls nL L → va_P D jn_cl (ja_ws dA ad lay w) H → va_D A (ja_ws dA ad lay w) → va_S A s.heap H locs → W p l e R s m args below meth c H locs c0 s0 (ja_MQ below (ja_Qc D dA ad lay A r) args s r.1 kc ks A) (F0 m pc ls (st.map (ja_tv ad)))
def ja_X (p : Program) (l : Launch) (e : Env) (R : Room) (s : State) (m : MethodId) (args : Array Value) (below : List Frame) (meth : Method) (c : Code) (D : va_G) (dA : Nat → ClassId) (ad : Nat → Nat) (A : Nat → Prop) (r : ja_O × ja_w) (nL c0 s0 kc ks : Nat) (own : String) (cc : ByteArray) (rt : Option FieldType) (d : Nat) : Prop :=
  p.tables.exec = Jvm.exec ∧ c.code = cc ∧ c.maxLocals = nL ∧ s.vm.findClass own = some m.cls ∧ (∀ w ∈ jn_T, w.before args s = true) ∧ meth.sig.returnType = rt ∧ meth.locks = false ∧ va_K D jn_cl (ja_ty dA) s ∧ (∀ q, s.heap.size ≤ q → A q) ∧ (12 + (d + 1) ≤ R.frames ∧ 300 + 40 * (d + 1) ≤ R.locals ∧ kc ≤ R.cells ∧ ks ≤ R.slots ∧ c0 ≤ kc ∧ s0 ≤ ks ∧ ∀ x, r.1 = .inr x → c0 + 1 ≤ kc ∧ s0 + 6 ≤ ks) ∧ ja_Kz ad A s ∧ l.stackTraces = false ∧ ∀ x, r.1 = .inr x → c.exceptionTable.toList = []
def ja_ok (p : Program) (l : Launch) (e : Env) (R : Room) (s : State) (m : MethodId) (args : Array Value) (below : List Frame) (meth : Method) (c : Code) (D : va_G) (dA : Nat → ClassId) (ad : Nat → Nat) (lay : List ja_E) (A : Nat → Prop) (r : ja_O × ja_w) (nL c0 s0 kc ks : Nat) (CC : ja_C) (pc : Nat) (f : ja_S) : Prop :=
  ∀ K : ja_K, (∀ pc L st w, K pc L st w → ja_G p l e R s m args below meth c D dA ad lay A r nL c0 s0 kc ks pc L st w) → ∀ (L : ja_L) (st : List Value) (w : ja_w), f CC r K L st w → ja_G p l e R s m args below meth c D dA ad lay A r nL c0 s0 kc ks pc L st w
theorem ja_cat (ad : Nat → Nat) (v : Value) : (ja_tv ad v).category = v.category := by cases v <;> rfl
theorem ja_wsAt {dA : Nat → ClassId} {ad : Nat → Nat} {lay : List ja_E} (w : ja_w) {q : Nat} {x : ja_E} (h : lay[q]? = some x) : (ja_ws dA ad lay w)[q]? = some (ja_c dA ad w q x) := by
  unfold ja_ws
  rw [List.getElem?_mapIdx, h]
  rfl
theorem ja_ext {dA : Nat → ClassId} {ad : Nat → Nat} {lay : List ja_E} {w w' : ja_w} {q : Nat} {x : ja_E} {y : va_E} (h : lay[q]? = some x) (hy : ja_c dA ad w' q x = (ad q, y)) (ho : ∀ j, j ≠ q → ∀ z, ja_c dA ad w' j z = ja_c dA ad w j z) : (ja_ws dA ad lay w).set q (ad q, y) = ja_ws dA ad lay w' := by
  have hq : q < (ja_ws dA ad lay w).length := (List.getElem?_eq_some_iff.mp (ja_wsAt (dA := dA) (ad := ad) w h)).1
  apply List.ext_getElem?
  intro i
  by_cases hi : i = q
  · subst hi
    rw [List.getElem?_set_self hq, ja_wsAt w' h, hy]
  · rw [List.getElem?_set_ne (Ne.symm hi)]
    unfold ja_ws
    rw [List.getElem?_mapIdx, List.getElem?_mapIdx]
    cases hz : lay[i]? with
    | none => rfl
    | some z => simp only [Option.map_some, ho i hi z]
theorem ja_bq (q : Nat) : Nat.beq q q = true := Nat.beq_refl q
theorem ja_bn {q p : Nat} (h : q ≠ p) : Nat.beq q p = false := by
  cases hb : Nat.beq q p with
  | false => rfl
  | true => exact absurd (Nat.eq_of_beq_eq_true hb) h
theorem ja_upS (f : ja_I) (q k : Nat) (v : Int32) : ja_up f q k v q = upd (f q) k v := by
  funext j
  unfold ja_up upd
  rw [ja_bq]
  by_cases h : j = k
  · subst h; rw [ja_bq]; simp
  · rw [ja_bn h]; simp [h]
theorem ja_upN (f : ja_I) {q j : Nat} (k : Nat) (v : Int32) (h : j ≠ q) : ja_up f q k v j = f j := by
  funext i
  unfold ja_up
  rw [ja_bn h]
  rfl
theorem ja_uLS (f : ja_J) (q k : Nat) (v : Int64) : ja_uL f q k v q = vp_updL (f q) k v := by
  funext j
  unfold ja_uL vp_updL
  rw [ja_bq]
  by_cases h : j = k
  · subst h; rw [ja_bq]; simp
  · rw [ja_bn h]; simp [h]
theorem ja_uLN (f : ja_J) {q j : Nat} (k : Nat) (v : Int64) (h : j ≠ q) : ja_uL f q k v j = f j := by
  funext i
  unfold ja_uL
  rw [ja_bn h]
  rfl
theorem ja_setF {dA : Nat → ClassId} {ad : Nat → Nat} {lay : List ja_E} (w : ja_w) {q ci k : Nat} {fs : List (Option Nat)} (h : lay[q]? = some (.inl (ci, fs))) (hk : fs[k]? = some none) (v : Int32) : (ja_ws dA ad lay w).set q (ad q, .inr (ci, (fs.mapIdx (ja_fv ad (w.1 q))).set k (.int v))) = ja_ws dA ad lay (ja_up w.1 q k v, w.2.1, w.2.2) := by
  refine ja_ext h ?_ (fun j hj z => ?_)
  · show (ad q, Sum.inr (ci, fs.mapIdx (ja_fv ad (ja_up w.1 q k v q)))) = _
    rw [ja_upS]
    congr 3
    apply List.ext_getElem?
    intro i
    by_cases hi : i = k
    · subst hi
      have hl : i < (fs.mapIdx (ja_fv ad (w.1 q))).length := by
        rw [List.length_mapIdx]
        exact (List.getElem?_eq_some_iff.mp hk).1
      rw [List.getElem?_set_self hl, List.getElem?_mapIdx, hk]
      simp [ja_fv, upd]
    · rw [List.getElem?_set_ne (Ne.symm hi), List.getElem?_mapIdx, List.getElem?_mapIdx]
      cases fs[i]? with
      | none => rfl
      | some o => cases o <;> simp [ja_fv, upd, hi]
  · unfold ja_c
    simp only [ja_upN _ _ _ hj]
theorem ja_setA {dA : Nat → ClassId} {ad : Nat → Nat} {lay : List ja_E} (w : ja_w) {q ty n : Nat} (h : lay[q]? = some (.inr (ty, n))) (ht : ty ≠ 2) (i : Nat) (v : Int32) : (ja_ws dA ad lay w).set q (ad q, .inl (dA ty, n, .inl (upd (w.2.1 q) i v))) = ja_ws dA ad lay (w.1, ja_up w.2.1 q i v, w.2.2) := by
  refine ja_ext h ?_ (fun j hj z => ?_)
  · unfold ja_c
    simp only [ht, if_false, ja_upS]
  · unfold ja_c
    simp only [ja_upN _ _ _ hj]
theorem ja_setL {dA : Nat → ClassId} {ad : Nat → Nat} {lay : List ja_E} (w : ja_w) {q n : Nat} (h : lay[q]? = some (.inr (2, n))) (i : Nat) (v : Int64) : (ja_ws dA ad lay w).set q (ad q, .inl (dA 2, n, .inr (.inl (vp_updL (w.2.2 q) i v)))) = ja_ws dA ad lay (w.1, w.2.1, ja_uL w.2.2 q i v) := by
  refine ja_ext h ?_ (fun j hj z => ?_)
  · unfold ja_c
    simp only [if_true, ja_uLS]
  · unfold ja_c
    simp only [ja_uLN _ _ _ hj]
section
variable {p : Program} {l : Launch} {e : Env} {R : Room} {s : State} {m : MethodId} {args : Array Value} {below : List Frame} {meth : Method} {c : Code} {D : va_G} {dA : Nat → ClassId} {ad : Nat → Nat} {lay : List ja_E} {A : Nat → Prop} {r : ja_O × ja_w} {nL c0 s0 kc ks : Nat}
variable {own : String} {cc : ByteArray} {rt : Option FieldType} {d : Nat} {CC : ja_C} {pc : Nat}
theorem jo_iload_n (X : ja_X p l e R s m args below meth c D dA ad A r nL c0 s0 kc ks own cc rt d) {k : Fin 4} {i : Nat} (hd : decode cc pc = .ok (.iload_n k, 1)) (hi : (k : Nat) = i) : ja_ok p l e R s m args below meth c D dA ad lay A r nL c0 s0 kc ks CC pc (js_iload i (pc + 1)) := by
  intro K hK L st w h ls H locs hl hP hD hS
  unfold js_iload at h
  split at h
  · rename_i x hx
    exact lv_iload_n X.1 X.2.1 hd hi (hl.2.2 _ _ hx) (hK _ _ _ _ h ls H locs hl hP hD hS)
  · exact h.elim
theorem jo_iload (X : ja_X p l e R s m args below meth c D dA ad A r nL c0 s0 kc ks own cc rt d) {i : Nat} (hd : decode cc pc = .ok (.iload i, 2)) : ja_ok p l e R s m args below meth c D dA ad lay A r nL c0 s0 kc ks CC pc (js_iload i (pc + 2)) := by
  intro K hK L st w h ls H locs hl hP hD hS
  unfold js_iload at h
  split at h
  · rename_i x hx
    exact lv_iload X.1 X.2.1 hd (hl.2.2 _ _ hx) (hK _ _ _ _ h ls H locs hl hP hD hS)
  · exact h.elim
theorem jo_lload_n (X : ja_X p l e R s m args below meth c D dA ad A r nL c0 s0 kc ks own cc rt d) {k : Fin 4} {i : Nat} (hd : decode cc pc = .ok (.lload_n k, 1)) (hi : (k : Nat) = i) : ja_ok p l e R s m args below meth c D dA ad lay A r nL c0 s0 kc ks CC pc (js_lload i (pc + 1)) := by
  intro K hK L st w h ls H locs hl hP hD hS
  unfold js_lload at h
  split at h
  · rename_i x hx
    exact lv_lload_n X.1 X.2.1 hd hi (hl.2.2 _ _ hx) (hK _ _ _ _ h ls H locs hl hP hD hS)
  · exact h.elim
theorem jo_lload (X : ja_X p l e R s m args below meth c D dA ad A r nL c0 s0 kc ks own cc rt d) {i : Nat} (hd : decode cc pc = .ok (.lload i, 2)) : ja_ok p l e R s m args below meth c D dA ad lay A r nL c0 s0 kc ks CC pc (js_lload i (pc + 2)) := by
  intro K hK L st w h ls H locs hl hP hD hS
  unfold js_lload at h
  split at h
  · rename_i x hx
    exact lv_lload X.1 X.2.1 hd (hl.2.2 _ _ hx) (hK _ _ _ _ h ls H locs hl hP hD hS)
  · exact h.elim
theorem jo_aload_n (X : ja_X p l e R s m args below meth c D dA ad A r nL c0 s0 kc ks own cc rt d) {k : Fin 4} {i : Nat} (hd : decode cc pc = .ok (.aload_n k, 1)) (hi : (k : Nat) = i) : ja_ok p l e R s m args below meth c D dA ad lay A r nL c0 s0 kc ks CC pc (js_aload i (pc + 1)) := by
  intro K hK L st w h ls H locs hl hP hD hS
  unfold js_aload at h
  split at h
  · rename_i x hx
    exact lv_aload_n X.1 X.2.1 hd hi (hl.2.2 _ _ hx) (hK _ _ _ _ h ls H locs hl hP hD hS)
  · exact h.elim
theorem jo_aload (X : ja_X p l e R s m args below meth c D dA ad A r nL c0 s0 kc ks own cc rt d) {i : Nat} (hd : decode cc pc = .ok (.aload i, 2)) : ja_ok p l e R s m args below meth c D dA ad lay A r nL c0 s0 kc ks CC pc (js_aload i (pc + 2)) := by
  intro K hK L st w h ls H locs hl hP hD hS
  unfold js_aload at h
  split at h
  · rename_i x hx
    exact lv_aload X.1 X.2.1 hd (hl.2.2 _ _ hx) (hK _ _ _ _ h ls H locs hl hP hD hS)
  · exact h.elim
theorem jo_iconst (X : ja_X p l e R s m args below meth c D dA ad A r nL c0 s0 kc ks own cc rt d) {n : Int} {v : Int32} (hd : decode cc pc = .ok (.iconst n, 1)) (hv : Int32.ofInt n = v) : ja_ok p l e R s m args below meth c D dA ad lay A r nL c0 s0 kc ks CC pc (js_ic v (pc + 1)) := by
  intro K hK L st w h ls H locs hl hP hD hS
  unfold js_ic at h
  exact lv_iconst X.1 X.2.1 hd hv (hK _ _ _ _ h ls H locs hl hP hD hS)
theorem jo_bipush (X : ja_X p l e R s m args below meth c D dA ad A r nL c0 s0 kc ks own cc rt d) {n : Int} {v : Int32} (hd : decode cc pc = .ok (.bipush n, 2)) (hv : (Int8.ofInt n).toInt32 = v) : ja_ok p l e R s m args below meth c D dA ad lay A r nL c0 s0 kc ks CC pc (js_ic v (pc + 2)) := by
  intro K hK L st w h ls H locs hl hP hD hS
  unfold js_ic at h
  exact lv_bipush X.1 X.2.1 hd hv (hK _ _ _ _ h ls H locs hl hP hD hS)
theorem jo_sipush (X : ja_X p l e R s m args below meth c D dA ad A r nL c0 s0 kc ks own cc rt d) {n : Int} {v : Int32} (hd : decode cc pc = .ok (.sipush n, 3)) (hv : (Int16.ofInt n).toInt32 = v) : ja_ok p l e R s m args below meth c D dA ad lay A r nL c0 s0 kc ks CC pc (js_ic v (pc + 3)) := by
  intro K hK L st w h ls H locs hl hP hD hS
  unfold js_ic at h
  exact lv_sipush X.1 X.2.1 hd hv (hK _ _ _ _ h ls H locs hl hP hD hS)
theorem jo_lconst (X : ja_X p l e R s m args below meth c D dA ad A r nL c0 s0 kc ks own cc rt d) {n : Fin 2} {v : Int64} (hd : decode cc pc = .ok (.lconst n, 1)) (hv : Int64.ofNat (n : Nat) = v) : ja_ok p l e R s m args below meth c D dA ad lay A r nL c0 s0 kc ks CC pc (js_lc v (pc + 1)) := by
  intro K hK L st w h ls H locs hl hP hD hS
  unfold js_lc at h
  exact lv_lconst X.1 X.2.1 hd hv (hK _ _ _ _ h ls H locs hl hP hD hS)
theorem jo_ldc (X : ja_X p l e R s m args below meth c D dA ad A r nL c0 s0 kc ks own cc rt d) {i : Nat} {v : Int32} (hc : Jvm.Cond.constant own i v ∈ jn_T) (hd : decode cc pc = .ok (.ldc i, 2)) : ja_ok p l e R s m args below meth c D dA ad lay A r nL c0 s0 kc ks CC pc (js_ic v (pc + 2)) := by
  intro K hK L st w h ls H locs hl hP hD hS
  unfold js_ic at h
  exact lv_ldc X.1 X.2.1 X.2.2.2.1 (X.2.2.2.2.1 _ hc) hd (hK _ _ _ _ h ls H locs hl hP hD hS)
theorem jo_ldc2 (X : ja_X p l e R s m args below meth c D dA ad A r nL c0 s0 kc ks own cc rt d) {i : Nat} {v : Int64} (hc : Jvm.Cond.constantLong own i v ∈ jn_T) (hd : decode cc pc = .ok (.ldc2_w i, 3)) : ja_ok p l e R s m args below meth c D dA ad lay A r nL c0 s0 kc ks CC pc (js_lc v (pc + 3)) := by
  intro K hK L st w h ls H locs hl hP hD hS
  unfold js_lc at h
  exact lv_ldc2 X.1 X.2.1 X.2.2.2.1 (X.2.2.2.2.1 _ hc) hd (hK _ _ _ _ h ls H locs hl hP hD hS)
theorem jo_goto (X : ja_X p l e R s m args below meth c D dA ad A r nL c0 s0 kc ks own cc rt d) {off : Int} {tgt : Nat} (hd : decode cc pc = .ok (.goto off, 3)) (ht : (pc : Int) + off = (tgt : Int)) : ja_ok p l e R s m args below meth c D dA ad lay A r nL c0 s0 kc ks CC pc (js_goto tgt) := by
  intro K hK L st w h ls H locs hl hP hD hS
  unfold js_goto at h
  exact lv_goto X.1 X.2.1 hd ht (hK _ _ _ _ h ls H locs hl hP hD hS)
theorem jo_iadd (X : ja_X p l e R s m args below meth c D dA ad A r nL c0 s0 kc ks own cc rt d) (hd : decode cc pc = .ok (.iadd, 1)) : ja_ok p l e R s m args below meth c D dA ad lay A r nL c0 s0 kc ks CC pc (js_ib (fun x y => x + y) (pc + 1)) := by
  intro K hK L st w h ls H locs hl hP hD hS
  unfold js_ib at h
  split at h
  · exact lv_iadd X.1 X.2.1 hd (hK _ _ _ _ h ls H locs hl hP hD hS)
  · exact h.elim
theorem jo_isub (X : ja_X p l e R s m args below meth c D dA ad A r nL c0 s0 kc ks own cc rt d) (hd : decode cc pc = .ok (.isub, 1)) : ja_ok p l e R s m args below meth c D dA ad lay A r nL c0 s0 kc ks CC pc (js_ib (fun x y => x - y) (pc + 1)) := by
  intro K hK L st w h ls H locs hl hP hD hS
  unfold js_ib at h
  split at h
  · exact lv_isub X.1 X.2.1 hd (hK _ _ _ _ h ls H locs hl hP hD hS)
  · exact h.elim
theorem jo_imul (X : ja_X p l e R s m args below meth c D dA ad A r nL c0 s0 kc ks own cc rt d) (hd : decode cc pc = .ok (.imul, 1)) : ja_ok p l e R s m args below meth c D dA ad lay A r nL c0 s0 kc ks CC pc (js_ib (fun x y => x * y) (pc + 1)) := by
  intro K hK L st w h ls H locs hl hP hD hS
  unfold js_ib at h
  split at h
  · exact lv_imul X.1 X.2.1 hd (hK _ _ _ _ h ls H locs hl hP hD hS)
  · exact h.elim
theorem jo_iand (X : ja_X p l e R s m args below meth c D dA ad A r nL c0 s0 kc ks own cc rt d) (hd : decode cc pc = .ok (.iand, 1)) : ja_ok p l e R s m args below meth c D dA ad lay A r nL c0 s0 kc ks CC pc (js_ib (fun x y => x &&& y) (pc + 1)) := by
  intro K hK L st w h ls H locs hl hP hD hS
  unfold js_ib at h
  split at h
  · exact lv_iand X.1 X.2.1 hd (hK _ _ _ _ h ls H locs hl hP hD hS)
  · exact h.elim
theorem jo_ishr (X : ja_X p l e R s m args below meth c D dA ad A r nL c0 s0 kc ks own cc rt d) (hd : decode cc pc = .ok (.ishr, 1)) : ja_ok p l e R s m args below meth c D dA ad lay A r nL c0 s0 kc ks CC pc (js_ib (fun x y => x >>> (y &&& 31)) (pc + 1)) := by
  intro K hK L st w h ls H locs hl hP hD hS
  unfold js_ib at h
  split at h
  · exact lv_ishr X.1 X.2.1 hd (hK _ _ _ _ h ls H locs hl hP hD hS)
  · exact h.elim
theorem jo_lor (X : ja_X p l e R s m args below meth c D dA ad A r nL c0 s0 kc ks own cc rt d) (hd : decode cc pc = .ok (.lor, 1)) : ja_ok p l e R s m args below meth c D dA ad lay A r nL c0 s0 kc ks CC pc (js_lb (fun x y => x ||| y) (pc + 1)) := by
  intro K hK L st w h ls H locs hl hP hD hS
  unfold js_lb at h
  split at h
  · exact lv_lor X.1 X.2.1 hd (hK _ _ _ _ h ls H locs hl hP hD hS)
  · exact h.elim
theorem jo_land (X : ja_X p l e R s m args below meth c D dA ad A r nL c0 s0 kc ks own cc rt d) (hd : decode cc pc = .ok (.land, 1)) : ja_ok p l e R s m args below meth c D dA ad lay A r nL c0 s0 kc ks CC pc (js_lb (fun x y => x &&& y) (pc + 1)) := by
  intro K hK L st w h ls H locs hl hP hD hS
  unfold js_lb at h
  split at h
  · exact lv_land X.1 X.2.1 hd (hK _ _ _ _ h ls H locs hl hP hD hS)
  · exact h.elim
theorem jo_lshl (X : ja_X p l e R s m args below meth c D dA ad A r nL c0 s0 kc ks own cc rt d) (hd : decode cc pc = .ok (.lshl, 1)) : ja_ok p l e R s m args below meth c D dA ad lay A r nL c0 s0 kc ks CC pc (js_ls (fun x y => x <<< (y.toInt64 &&& 63)) (pc + 1)) := by
  intro K hK L st w h ls H locs hl hP hD hS
  unfold js_ls at h
  split at h
  · exact lv_lshl X.1 X.2.1 hd rfl (hK _ _ _ _ h ls H locs hl hP hD hS)
  · exact h.elim
theorem jo_lshr (X : ja_X p l e R s m args below meth c D dA ad A r nL c0 s0 kc ks own cc rt d) (hd : decode cc pc = .ok (.lshr, 1)) : ja_ok p l e R s m args below meth c D dA ad lay A r nL c0 s0 kc ks CC pc (js_ls (fun x y => x >>> (y.toInt64 &&& 63)) (pc + 1)) := by
  intro K hK L st w h ls H locs hl hP hD hS
  unfold js_ls at h
  split at h
  · exact lv_lshr X.1 X.2.1 hd rfl (hK _ _ _ _ h ls H locs hl hP hD hS)
  · exact h.elim
theorem jo_lushr (X : ja_X p l e R s m args below meth c D dA ad A r nL c0 s0 kc ks own cc rt d) (hd : decode cc pc = .ok (.lushr, 1)) : ja_ok p l e R s m args below meth c D dA ad lay A r nL c0 s0 kc ks CC pc (js_ls (fun x y => (x.toUInt64 >>> (y.toInt64.toUInt64 &&& Int64.toUInt64 63)).toInt64) (pc + 1)) := by
  intro K hK L st w h ls H locs hl hP hD hS
  unfold js_ls at h
  split at h
  · exact lv_lushr X.1 X.2.1 hd rfl (hK _ _ _ _ h ls H locs hl hP hD hS)
  · exact h.elim
theorem jo_lcmp (X : ja_X p l e R s m args below meth c D dA ad A r nL c0 s0 kc ks own cc rt d) (hd : decode cc pc = .ok (.lcmp, 1)) : ja_ok p l e R s m args below meth c D dA ad lay A r nL c0 s0 kc ks CC pc (js_lcmp (pc + 1)) := by
  intro K hK L st w h ls H locs hl hP hD hS
  unfold js_lcmp at h
  split at h
  · exact W.lcmp X.1 X.2.1 hd (hK _ _ _ _ h ls H locs hl hP hD hS)
  · exact h.elim
theorem jo_i2l (X : ja_X p l e R s m args below meth c D dA ad A r nL c0 s0 kc ks own cc rt d) (hd : decode cc pc = .ok (.i2l, 1)) : ja_ok p l e R s m args below meth c D dA ad lay A r nL c0 s0 kc ks CC pc (js_i2l (pc + 1)) := by
  intro K hK L st w h ls H locs hl hP hD hS
  unfold js_i2l at h
  split at h
  · exact lv_i2l X.1 X.2.1 hd rfl (hK _ _ _ _ h ls H locs hl hP hD hS)
  · exact h.elim
theorem jo_l2i (X : ja_X p l e R s m args below meth c D dA ad A r nL c0 s0 kc ks own cc rt d) (hd : decode cc pc = .ok (.l2i, 1)) : ja_ok p l e R s m args below meth c D dA ad lay A r nL c0 s0 kc ks CC pc (js_l2i (pc + 1)) := by
  intro K hK L st w h ls H locs hl hP hD hS
  unfold js_l2i at h
  split at h
  · exact lv_l2i X.1 X.2.1 hd rfl (hK _ _ _ _ h ls H locs hl hP hD hS)
  · exact h.elim
theorem jo_i2c (X : ja_X p l e R s m args below meth c D dA ad A r nL c0 s0 kc ks own cc rt d) (hd : decode cc pc = .ok (.i2c, 1)) : ja_ok p l e R s m args below meth c D dA ad lay A r nL c0 s0 kc ks CC pc (js_i2c (pc + 1)) := by
  intro K hK L st w h ls H locs hl hP hD hS
  unfold js_i2c at h
  split at h
  · exact lv_i2c X.1 X.2.1 hd rfl (hK _ _ _ _ h ls H locs hl hP hD hS)
  · exact h.elim
theorem jo_pop (X : ja_X p l e R s m args below meth c D dA ad A r nL c0 s0 kc ks own cc rt d) (hd : decode cc pc = .ok (.pop, 1)) : ja_ok p l e R s m args below meth c D dA ad lay A r nL c0 s0 kc ks CC pc (js_pop (pc + 1)) := by
  intro K hK L st w h ls H locs hl hP hD hS
  unfold js_pop at h
  split at h
  · exact lv_pop X.1 X.2.1 hd rfl (hK _ _ _ _ h ls H locs hl hP hD hS)
  · exact h.elim
theorem jo_dup2 (X : ja_X p l e R s m args below meth c D dA ad A r nL c0 s0 kc ks own cc rt d) (hd : decode cc pc = .ok (.dup2, 1)) : ja_ok p l e R s m args below meth c D dA ad lay A r nL c0 s0 kc ks CC pc (js_dup2 (pc + 1)) := by
  intro K hK L st w h ls H locs hl hP hD hS
  unfold js_dup2 at h
  split at h
  · exact lv_dup2_11 X.1 X.2.1 hd rfl rfl (hK _ _ _ _ h ls H locs hl hP hD hS)
  · exact h.elim
theorem jo_dup (X : ja_X p l e R s m args below meth c D dA ad A r nL c0 s0 kc ks own cc rt d) (hd : decode cc pc = .ok (.dup, 1)) : ja_ok p l e R s m args below meth c D dA ad lay A r nL c0 s0 kc ks CC pc (js_dup (pc + 1)) := by
  intro K hK L st w h ls H locs hl hP hD hS
  unfold js_dup at h
  split at h
  · exact lv_dup X.1 X.2.1 hd rfl (hK _ _ _ _ h ls H locs hl hP hD hS)
  · exact lv_dup X.1 X.2.1 hd rfl (hK _ _ _ _ h ls H locs hl hP hD hS)
  · exact h.elim
theorem jo_idiv (X : ja_X p l e R s m args below meth c D dA ad A r nL c0 s0 kc ks own cc rt d) (hd : decode cc pc = .ok (.idiv, 1)) : ja_ok p l e R s m args below meth c D dA ad lay A r nL c0 s0 kc ks CC pc (js_idiv (pc + 1)) := by
  intro K hK L st w h ls H locs hl hP hD hS
  unfold js_idiv at h
  split at h
  · exact lv_idiv X.1 X.2.1 hd h.1 (hK _ _ _ _ h.2 ls H locs hl hP hD hS)
  · exact h.elim
theorem jo_irem (X : ja_X p l e R s m args below meth c D dA ad A r nL c0 s0 kc ks own cc rt d) (hd : decode cc pc = .ok (.irem, 1)) : ja_ok p l e R s m args below meth c D dA ad lay A r nL c0 s0 kc ks CC pc (js_irem (pc + 1)) := by
  intro K hK L st w h ls H locs hl hP hD hS
  unfold js_irem at h
  split at h
  · exact lv_irem X.1 X.2.1 hd h.1 (hK _ _ _ _ h.2 ls H locs hl hP hD hS)
  · exact h.elim
theorem jo_ifeq (X : ja_X p l e R s m args below meth c D dA ad A r nL c0 s0 kc ks own cc rt d) {off : Int} {tgt : Nat} (hd : decode cc pc = .ok (.ifCond .eq off, 3)) (ht : (pc : Int) + off = (tgt : Int)) : ja_ok p l e R s m args below meth c D dA ad lay A r nL c0 s0 kc ks CC pc (js_if (fun x => x = 0) tgt (pc + 3)) := by
  intro K hK L st w h ls H locs hl hP hD hS
  unfold js_if at h
  split at h
  · exact lv_if_eq X.1 X.2.1 hd ht (fun z => hK _ _ _ _ (h.1 z) ls H locs hl hP hD hS) (fun z => hK _ _ _ _ (h.2 z) ls H locs hl hP hD hS)
  · exact h.elim
theorem jo_icmpeq (X : ja_X p l e R s m args below meth c D dA ad A r nL c0 s0 kc ks own cc rt d) {off : Int} {tgt : Nat} (hd : decode cc pc = .ok (.if_icmp .eq off, 3)) (ht : (pc : Int) + off = (tgt : Int)) : ja_ok p l e R s m args below meth c D dA ad lay A r nL c0 s0 kc ks CC pc (js_ic2 (fun x y => x = y) tgt (pc + 3)) := by
  intro K hK L st w h ls H locs hl hP hD hS
  unfold js_ic2 at h
  split at h
  · exact lv_icmp_eq X.1 X.2.1 hd ht (fun z => hK _ _ _ _ (h.1 z) ls H locs hl hP hD hS) (fun z => hK _ _ _ _ (h.2 z) ls H locs hl hP hD hS)
  · exact h.elim
theorem jo_iflt (X : ja_X p l e R s m args below meth c D dA ad A r nL c0 s0 kc ks own cc rt d) {off : Int} {tgt : Nat} (hd : decode cc pc = .ok (.ifCond .lt off, 3)) (ht : (pc : Int) + off = (tgt : Int)) : ja_ok p l e R s m args below meth c D dA ad lay A r nL c0 s0 kc ks CC pc (js_if (fun x => x < 0) tgt (pc + 3)) := by
  intro K hK L st w h ls H locs hl hP hD hS
  unfold js_if at h
  split at h
  · exact lv_if_lt X.1 X.2.1 hd ht (fun z => hK _ _ _ _ (h.1 z) ls H locs hl hP hD hS) (fun z => hK _ _ _ _ (h.2 z) ls H locs hl hP hD hS)
  · exact h.elim
theorem jo_icmplt (X : ja_X p l e R s m args below meth c D dA ad A r nL c0 s0 kc ks own cc rt d) {off : Int} {tgt : Nat} (hd : decode cc pc = .ok (.if_icmp .lt off, 3)) (ht : (pc : Int) + off = (tgt : Int)) : ja_ok p l e R s m args below meth c D dA ad lay A r nL c0 s0 kc ks CC pc (js_ic2 (fun x y => x < y) tgt (pc + 3)) := by
  intro K hK L st w h ls H locs hl hP hD hS
  unfold js_ic2 at h
  split at h
  · exact lv_icmp_lt X.1 X.2.1 hd ht (fun z => hK _ _ _ _ (h.1 z) ls H locs hl hP hD hS) (fun z => hK _ _ _ _ (h.2 z) ls H locs hl hP hD hS)
  · exact h.elim
theorem jo_ifge (X : ja_X p l e R s m args below meth c D dA ad A r nL c0 s0 kc ks own cc rt d) {off : Int} {tgt : Nat} (hd : decode cc pc = .ok (.ifCond .ge off, 3)) (ht : (pc : Int) + off = (tgt : Int)) : ja_ok p l e R s m args below meth c D dA ad lay A r nL c0 s0 kc ks CC pc (js_if (fun x => 0 ≤ x) tgt (pc + 3)) := by
  intro K hK L st w h ls H locs hl hP hD hS
  unfold js_if at h
  split at h
  · exact lv_if_ge X.1 X.2.1 hd ht (fun z => hK _ _ _ _ (h.1 z) ls H locs hl hP hD hS) (fun z => hK _ _ _ _ (h.2 z) ls H locs hl hP hD hS)
  · exact h.elim
theorem jo_icmpge (X : ja_X p l e R s m args below meth c D dA ad A r nL c0 s0 kc ks own cc rt d) {off : Int} {tgt : Nat} (hd : decode cc pc = .ok (.if_icmp .ge off, 3)) (ht : (pc : Int) + off = (tgt : Int)) : ja_ok p l e R s m args below meth c D dA ad lay A r nL c0 s0 kc ks CC pc (js_ic2 (fun x y => y ≤ x) tgt (pc + 3)) := by
  intro K hK L st w h ls H locs hl hP hD hS
  unfold js_ic2 at h
  split at h
  · exact lv_icmp_ge X.1 X.2.1 hd ht (fun z => hK _ _ _ _ (h.1 z) ls H locs hl hP hD hS) (fun z => hK _ _ _ _ (h.2 z) ls H locs hl hP hD hS)
  · exact h.elim
theorem jo_ifgt (X : ja_X p l e R s m args below meth c D dA ad A r nL c0 s0 kc ks own cc rt d) {off : Int} {tgt : Nat} (hd : decode cc pc = .ok (.ifCond .gt off, 3)) (ht : (pc : Int) + off = (tgt : Int)) : ja_ok p l e R s m args below meth c D dA ad lay A r nL c0 s0 kc ks CC pc (js_if (fun x => 0 < x) tgt (pc + 3)) := by
  intro K hK L st w h ls H locs hl hP hD hS
  unfold js_if at h
  split at h
  · exact lv_if_gt X.1 X.2.1 hd ht (fun z => hK _ _ _ _ (h.1 z) ls H locs hl hP hD hS) (fun z => hK _ _ _ _ (h.2 z) ls H locs hl hP hD hS)
  · exact h.elim
theorem jo_icmpgt (X : ja_X p l e R s m args below meth c D dA ad A r nL c0 s0 kc ks own cc rt d) {off : Int} {tgt : Nat} (hd : decode cc pc = .ok (.if_icmp .gt off, 3)) (ht : (pc : Int) + off = (tgt : Int)) : ja_ok p l e R s m args below meth c D dA ad lay A r nL c0 s0 kc ks CC pc (js_ic2 (fun x y => y < x) tgt (pc + 3)) := by
  intro K hK L st w h ls H locs hl hP hD hS
  unfold js_ic2 at h
  split at h
  · exact lv_icmp_gt X.1 X.2.1 hd ht (fun z => hK _ _ _ _ (h.1 z) ls H locs hl hP hD hS) (fun z => hK _ _ _ _ (h.2 z) ls H locs hl hP hD hS)
  · exact h.elim
theorem jo_ifle (X : ja_X p l e R s m args below meth c D dA ad A r nL c0 s0 kc ks own cc rt d) {off : Int} {tgt : Nat} (hd : decode cc pc = .ok (.ifCond .le off, 3)) (ht : (pc : Int) + off = (tgt : Int)) : ja_ok p l e R s m args below meth c D dA ad lay A r nL c0 s0 kc ks CC pc (js_if (fun x => x ≤ 0) tgt (pc + 3)) := by
  intro K hK L st w h ls H locs hl hP hD hS
  unfold js_if at h
  split at h
  · exact lv_if_le X.1 X.2.1 hd ht (fun z => hK _ _ _ _ (h.1 z) ls H locs hl hP hD hS) (fun z => hK _ _ _ _ (h.2 z) ls H locs hl hP hD hS)
  · exact h.elim
theorem jo_icmple (X : ja_X p l e R s m args below meth c D dA ad A r nL c0 s0 kc ks own cc rt d) {off : Int} {tgt : Nat} (hd : decode cc pc = .ok (.if_icmp .le off, 3)) (ht : (pc : Int) + off = (tgt : Int)) : ja_ok p l e R s m args below meth c D dA ad lay A r nL c0 s0 kc ks CC pc (js_ic2 (fun x y => x ≤ y) tgt (pc + 3)) := by
  intro K hK L st w h ls H locs hl hP hD hS
  unfold js_ic2 at h
  split at h
  · exact lv_icmp_le X.1 X.2.1 hd ht (fun z => hK _ _ _ _ (h.1 z) ls H locs hl hP hD hS) (fun z => hK _ _ _ _ (h.2 z) ls H locs hl hP hD hS)
  · exact h.elim
theorem jo_ifne (X : ja_X p l e R s m args below meth c D dA ad A r nL c0 s0 kc ks own cc rt d) {off : Int} {tgt : Nat} (hd : decode cc pc = .ok (.ifCond .ne off, 3)) (ht : (pc : Int) + off = (tgt : Int)) : ja_ok p l e R s m args below meth c D dA ad lay A r nL c0 s0 kc ks CC pc (js_if (fun x => x = 0) (pc + 3) tgt) := by
  intro K hK L st w h ls H locs hl hP hD hS
  unfold js_if at h
  split at h
  · exact lv_if_ne X.1 X.2.1 hd ht (fun z => hK _ _ _ _ (h.2 z) ls H locs hl hP hD hS) (fun z => hK _ _ _ _ (h.1 z) ls H locs hl hP hD hS)
  · exact h.elim
theorem jo_icmpne (X : ja_X p l e R s m args below meth c D dA ad A r nL c0 s0 kc ks own cc rt d) {off : Int} {tgt : Nat} (hd : decode cc pc = .ok (.if_icmp .ne off, 3)) (ht : (pc : Int) + off = (tgt : Int)) : ja_ok p l e R s m args below meth c D dA ad lay A r nL c0 s0 kc ks CC pc (js_ic2 (fun x y => x = y) (pc + 3) tgt) := by
  intro K hK L st w h ls H locs hl hP hD hS
  unfold js_ic2 at h
  split at h
  · exact lv_icmp_ne X.1 X.2.1 hd ht (fun z => hK _ _ _ _ (h.2 z) ls H locs hl hP hD hS) (fun z => hK _ _ _ _ (h.1 z) ls H locs hl hP hD hS)
  · exact h.elim
def ja_tab (pc : Nat) (lo : Int) (l : List (Int32 × Nat)) (os : List Int) : Bool := match l, os with
  | [], [] => true
  | (v, t) :: l, o :: os => decide (v.toInt = lo) && decide ((pc : Int) + o = (t : Int)) && ja_tab pc (lo + 1) l os
  | _, _ => false
theorem ja_tabOut {pc : Nat} {x : Int32} {k : Nat → Prop} {dflt : Nat} : ∀ (l : List (Int32 × Nat)) (lo : Int) (os : List Int), ja_tab pc lo l os = true → ja_sw x k dflt l → (x.toInt < lo ∨ lo + os.length ≤ x.toInt) → k dflt := by
  intro l
  induction l with
  | nil => intro lo os _ h _; exact h
  | cons q l ih =>
    intro lo os ht h hx
    obtain ⟨v, t⟩ := q
    cases os with
    | nil => simp [ja_tab] at ht
    | cons o os =>
      simp only [ja_tab, Bool.and_eq_true, decide_eq_true_eq] at ht
      obtain ⟨⟨h1, h2⟩, h3⟩ := ht
      have hne : ¬ x = v := by
        intro z
        subst z
        simp only [List.length_cons] at hx
        omega
      refine ih (lo + 1) os h3 (h.2 hne) ?_
      simp only [List.length_cons] at hx
      rcases hx with hx | hx
      · exact Or.inl (by omega)
      · exact Or.inr (by omega)
theorem ja_tabIn {pc : Nat} {x : Int32} {k : Nat → Prop} {dflt : Nat} : ∀ (l : List (Int32 × Nat)) (lo : Int) (os : List Int), ja_tab pc lo l os = true → ja_sw x k dflt l → lo ≤ x.toInt → x.toInt < lo + os.length → ∃ (off : Int) (t : Nat), os[(x.toInt - lo).toNat]? = some off ∧ (pc : Int) + off = (t : Int) ∧ k t := by
  intro l
  induction l with
  | nil =>
    intro lo os ht h h1 h2
    cases os with
    | nil => simp at h2; omega
    | cons o os => simp [ja_tab] at ht
  | cons q l ih =>
    intro lo os ht h hx1 hx2
    obtain ⟨v, t⟩ := q
    cases os with
    | nil => simp [ja_tab] at ht
    | cons o os =>
      simp only [ja_tab, Bool.and_eq_true, decide_eq_true_eq] at ht
      obtain ⟨⟨h1, h2⟩, h3⟩ := ht
      by_cases hv : x = v
      · refine ⟨o, t, ?_, h2, h.1 hv⟩
        subst hv
        rw [h1]
        simp
      · have hlt : lo < x.toInt := by
          rcases Int.lt_or_eq_of_le hx1 with z | z
          · exact z
          · exact absurd (Int32.toInt_inj.mp (z.symm.trans h1.symm)) hv
        simp only [List.length_cons] at hx2
        obtain ⟨off, t', g1, g2, g3⟩ := ih (lo + 1) os h3 (h.2 hv) (by omega) (by omega)
        refine ⟨off, t', ?_, g2, g3⟩
        have e : (x.toInt - lo).toNat = (x.toInt - (lo + 1)).toNat + 1 := by omega
        rw [e, List.getElem?_cons_succ]
        exact g1
def ja_lks (pc : Nat) (l : List (Int32 × Nat)) (os : List (Int × Int)) : Bool := match l, os with
  | [], [] => true
  | (v, t) :: l, (a, o) :: os => decide (v.toInt = a) && decide ((pc : Int) + o = (t : Int)) && ja_lks pc l os
  | _, _ => false
theorem ja_lksAt {pc : Nat} {x : Int32} {k : Nat → Prop} {dflt : Nat} {df : Int} (hdf : (pc : Int) + df = (dflt : Int)) : ∀ (l : List (Int32 × Nat)) (os : List (Int × Int)), ja_lks pc l os = true → ja_sw x k dflt l → ∃ t : Nat, (pc : Int) + Op.lookupswitch.offset os df x.toInt = (t : Int) ∧ k t := by
  intro l
  induction l with
  | nil =>
    intro os ht h
    cases os with
    | nil => exact ⟨dflt, hdf, h⟩
    | cons o os => simp [ja_lks] at ht
  | cons q l ih =>
    intro os ht h
    obtain ⟨v, t⟩ := q
    cases os with
    | nil => simp [ja_lks] at ht
    | cons o os =>
      obtain ⟨a, o⟩ := o
      simp only [ja_lks, Bool.and_eq_true, decide_eq_true_eq] at ht
      obtain ⟨⟨h1, h2⟩, h3⟩ := ht
      rw [Op.lookupswitch.offset_cons]
      by_cases hv : x = v
      · rw [if_pos (by rw [hv, h1])]
        exact ⟨t, h2, h.1 hv⟩
      · rw [if_neg (fun z => hv (Int32.toInt_inj.mp (z.symm.trans h1.symm)))]
        exact ih os h3 (h.2 hv)
theorem jo_table (X : ja_X p l e R s m args below meth c D dA ad A r nL c0 s0 kc ks own cc rt d) {df lo hi : Int} {offs : Array Int} {len dt : Nat} {sl : List (Int32 × Nat)} (hd : decode cc pc = .ok (.tableswitch df lo hi offs, len)) (ht : (pc : Int) + df = (dt : Int)) (hs : ja_tab pc lo sl offs.toList = true) (hh : hi + 1 = lo + offs.toList.length) : ja_ok p l e R s m args below meth c D dA ad lay A r nL c0 s0 kc ks CC pc (js_sw sl dt) := by
  intro K hK L st w h ls H locs hl hP hD hS
  unfold js_sw at h
  split at h
  · rename_i x u
    by_cases h1 : x.toInt < lo
    · exact lv_tableOut X.1 X.2.1 hd (Or.inl h1) ht (hK _ _ _ _ (ja_tabOut sl lo _ hs h (Or.inl h1)) ls H locs hl hP hD hS)
    · by_cases h2 : hi < x.toInt
      · exact lv_tableOut X.1 X.2.1 hd (Or.inr h2) ht (hK _ _ _ _ (ja_tabOut sl lo _ hs h (Or.inr (by omega))) ls H locs hl hP hD hS)
      · obtain ⟨off, t, g1, g2, g3⟩ := ja_tabIn sl lo _ hs h (by omega) (by omega)
        exact lv_tableIn X.1 X.2.1 hd h1 h2 (by rw [← Array.getElem?_toList]; exact g1) g2 (hK _ _ _ _ g3 ls H locs hl hP hD hS)
  · exact h.elim
theorem jo_lookup (X : ja_X p l e R s m args below meth c D dA ad A r nL c0 s0 kc ks own cc rt d) {df : Int} {ps : Array (Int × Int)} {len dt : Nat} {sl : List (Int32 × Nat)} (hd : decode cc pc = .ok (.lookupswitch df ps, len)) (hp : (ps.toList.zip (ps.toList.drop 1)).all (fun (a, next) => a.1 < next.1) = true) (ht : (pc : Int) + df = (dt : Int)) (hs : ja_lks pc sl ps.toList = true) : ja_ok p l e R s m args below meth c D dA ad lay A r nL c0 s0 kc ks CC pc (js_sw sl dt) := by
  intro K hK L st w h ls H locs hl hP hD hS
  unfold js_sw at h
  split at h
  · obtain ⟨t, g1, g2⟩ := ja_lksAt ht sl _ hs h
    exact lv_lookup X.1 X.2.1 hd hp rfl g1 (hK _ _ _ _ g2 ls H locs hl hP hD hS)
  · exact h.elim
def ja_al (ad : Nat → Nat) (L : ja_L) : List (Nat × Value) := (List.range L.length).filterMap (fun i => (L[i]?.join).map (fun v => (i, ja_tv ad v)))
theorem ja_alM {ad : Nat → Nat} {L : ja_L} {q : Nat × Value} : q ∈ ja_al ad L ↔ ∃ v, L[q.1]? = some (some v) ∧ q.2 = ja_tv ad v := by
  obtain ⟨i, u⟩ := q
  unfold ja_al
  rw [List.mem_filterMap]
  constructor
  · rintro ⟨j, hj, h⟩
    cases hz : L[j]? with
    | none => rw [hz] at h; cases h
    | some o =>
      cases o with
      | none => rw [hz] at h; cases h
      | some v =>
        rw [hz] at h
        have h' : (j, ja_tv ad v) = (i, u) := Option.some.inj h
        cases h'
        exact ⟨v, hz, rfl⟩
  · rintro ⟨v, hv, hu⟩
    refine ⟨i, List.mem_range.mpr (List.getElem?_eq_some_iff.mp hv).1, ?_⟩
    show (L[i]?.join).map _ = _
    rw [hv]
    show some (i, ja_tv ad v) = some (i, u)
    rw [← hu]
theorem ja_lv {ad : Nat → Nat} {ls : Array Slot} {nL : Nat} {L : ja_L} (h : ja_has ad ls nL L) : lv_has ls nL (ja_al ad L) := by
  refine ⟨h.1, h.2.1, fun q hq => ?_⟩
  obtain ⟨v, h1, h2⟩ := ja_alM.mp hq
  rw [h2]
  exact h.2.2 _ _ h1
theorem ja_nlU {L : ja_L} {i j : Nat} {v : Value} (h : ja_nl L i = true) (hj : L[j]? = some (some v)) (e : j + 1 = i) : ¬ v.category = 2 := by
  subst e
  simp only [ja_nl, hj] at h
  cases v <;> simp_all [Value.category]
theorem ja_s1 {ad : Nat → Nat} {ls' : Array Slot} {nL i : Nat} {L : ja_L} {v : Value} (hn : ja_nl L i = true) (h : lv_has ls' nL ((i, ja_tv ad v) :: (ja_al ad L).filter (fun q => !(q.1 == i) && !(q.1 + 1 == i && q.2.category == 2)))) : ja_has ad ls' nL (L.set i (some v)) := by
  refine ⟨h.1, h.2.1, fun j u hj => ?_⟩
  by_cases e : j = i
  · subst e
    have hlt : j < L.length := by
      have := (List.getElem?_eq_some_iff.mp hj).1
      rwa [List.length_set] at this
    rw [List.getElem?_set_self hlt] at hj
    cases hj
    exact h.2.2 (j, ja_tv ad v) List.mem_cons_self
  · rw [List.getElem?_set_ne (Ne.symm e)] at hj
    refine h.2.2 (j, ja_tv ad u) (List.mem_cons_of_mem _ (List.mem_filter.mpr ⟨ja_alM.mpr ⟨u, hj, rfl⟩, ?_⟩))
    have h2 : ¬ (j + 1 = i ∧ u.category = 2) := fun z => ja_nlU hn hj z.1 z.2
    simp [e, ja_cat]
    exact Classical.not_and_iff_not_or_not.mp h2
theorem ja_s2 {ad : Nat → Nat} {ls' : Array Slot} {nL i : Nat} {L : ja_L} {v : Value} (hn : ja_nl L i = true) (h : lv_has ls' nL ((i, ja_tv ad v) :: (ja_al ad L).filter (fun q => !(q.1 == i) && (!(q.1 == i + 1) && !(q.1 + 1 == i && q.2.category == 2))))) : ja_has ad ls' nL ((L.set i (some v)).set (i + 1) none) := by
  refine ⟨h.1, h.2.1, fun j u hj => ?_⟩
  by_cases e1 : j = i + 1
  · subst e1
    have hlt : i + 1 < (L.set i (some v)).length := by
      have := (List.getElem?_eq_some_iff.mp hj).1
      rwa [List.length_set] at this
    rw [List.getElem?_set_self hlt] at hj
    cases hj
  rw [List.getElem?_set_ne (Ne.symm e1)] at hj
  by_cases e : j = i
  · subst e
    have hlt : j < L.length := by
      have := (List.getElem?_eq_some_iff.mp hj).1
      rwa [List.length_set] at this
    rw [List.getElem?_set_self hlt] at hj
    cases hj
    exact h.2.2 (j, ja_tv ad v) List.mem_cons_self
  · rw [List.getElem?_set_ne (Ne.symm e)] at hj
    refine h.2.2 (j, ja_tv ad u) (List.mem_cons_of_mem _ (List.mem_filter.mpr ⟨ja_alM.mpr ⟨u, hj, rfl⟩, ?_⟩))
    have h2 : ¬ (j + 1 = i ∧ u.category = 2) := fun z => ja_nlU hn hj z.1 z.2
    simp [e, e1, ja_cat]
    exact Classical.not_and_iff_not_or_not.mp h2
theorem jo_istore_n (X : ja_X p l e R s m args below meth c D dA ad A r nL c0 s0 kc ks own cc rt d) {k : Fin 4} {i : Nat} (hd : decode cc pc = .ok (.istore_n k, 1)) (hi : (k : Nat) = i) (hn : i < nL) : ja_ok p l e R s m args below meth c D dA ad lay A r nL c0 s0 kc ks CC pc (js_istore i (pc + 1)) := by
  intro K hK L st w h ls H locs hl hP hD hS
  unfold js_istore at h
  split at h
  · rename_i x t hz
    exact lv_istore_n X.1 X.2.1 hd hi (ja_lv hl) hn rfl (fun ls' h' => hK _ _ _ _ h ls' H locs (ja_s1 hz h') hP hD hS)
  · exact h.elim
theorem jo_istore (X : ja_X p l e R s m args below meth c D dA ad A r nL c0 s0 kc ks own cc rt d) {i : Nat} (hd : decode cc pc = .ok (.istore i, 2)) (hn : i < nL) : ja_ok p l e R s m args below meth c D dA ad lay A r nL c0 s0 kc ks CC pc (js_istore i (pc + 2)) := by
  intro K hK L st w h ls H locs hl hP hD hS
  unfold js_istore at h
  split at h
  · rename_i x t hz
    exact lv_istore X.1 X.2.1 hd (ja_lv hl) hn rfl (fun ls' h' => hK _ _ _ _ h ls' H locs (ja_s1 hz h') hP hD hS)
  · exact h.elim
theorem jo_lstore_n (X : ja_X p l e R s m args below meth c D dA ad A r nL c0 s0 kc ks own cc rt d) {k : Fin 4} {i : Nat} (hd : decode cc pc = .ok (.lstore_n k, 1)) (hi : (k : Nat) = i) (hn : i + 1 < nL) : ja_ok p l e R s m args below meth c D dA ad lay A r nL c0 s0 kc ks CC pc (js_lstore i (pc + 1)) := by
  intro K hK L st w h ls H locs hl hP hD hS
  unfold js_lstore at h
  split at h
  · rename_i x t hz
    exact lv_lstore_n X.1 X.2.1 hd hi (ja_lv hl) hn rfl (fun ls' h' => hK _ _ _ _ h ls' H locs (ja_s2 hz h') hP hD hS)
  · exact h.elim
theorem jo_lstore (X : ja_X p l e R s m args below meth c D dA ad A r nL c0 s0 kc ks own cc rt d) {i : Nat} (hd : decode cc pc = .ok (.lstore i, 2)) (hn : i + 1 < nL) : ja_ok p l e R s m args below meth c D dA ad lay A r nL c0 s0 kc ks CC pc (js_lstore i (pc + 2)) := by
  intro K hK L st w h ls H locs hl hP hD hS
  unfold js_lstore at h
  split at h
  · rename_i x t hz
    exact lv_lstore X.1 X.2.1 hd (ja_lv hl) hn rfl (fun ls' h' => hK _ _ _ _ h ls' H locs (ja_s2 hz h') hP hD hS)
  · exact h.elim
theorem jo_iinc (X : ja_X p l e R s m args below meth c D dA ad A r nL c0 s0 kc ks own cc rt d) {i : Nat} {n : Int} {v : Int32} (hd : decode cc pc = .ok (.iinc i n, 3)) (hv : Int32.ofInt n = v) (hn : i < nL) : ja_ok p l e R s m args below meth c D dA ad lay A r nL c0 s0 kc ks CC pc (js_iinc i v (pc + 3)) := by
  intro K hK L st w h ls H locs hl hP hD hS
  unfold js_iinc at h
  split at h
  · rename_i x hx hz
    obtain ⟨k, hk⟩ := List.getElem?_of_mem (ja_alM (ad := ad) (q := (i, .int x)).mpr ⟨_, hx, rfl⟩)
    exact lv_iinc X.1 X.2.1 hd (ja_lv hl) hk (by rw [hv]) hn rfl (fun ls' h' => hK _ _ _ _ h ls' H locs (ja_s1 hz h') hP hD hS)
  · exact h.elim
theorem jo_get (X : ja_X p l e R s m args below meth c D dA ad A r nL c0 s0 kc ks own cc rt d) {C : String} {T : u_T} {N ci k idx : Nat} (hc : jn_cl[ci]? = some (C, T, N)) (hin : ∀ w ∈ u_ws C T N, w ∈ jn_T) (hk : k < N) (hlk : Cond.fieldLink own idx (T k).1 (T k).2.1 (T k).2.2.1 ∈ jn_T) (hd : decode cc pc = .ok (.getfield idx, 3)) : ja_ok p l e R s m args below meth c D dA ad lay A r nL c0 s0 kc ks CC pc (js_get lay ci k (pc + 3)) := by
  intro K hK L st w h ls H locs hl hP hD hS
  unfold js_get at h
  split at h
  · rename_i q t
    split at h
    · rename_i cj fs hq
      split at h
      · rename_i hcj hf
        have e := Nat.eq_of_beq_eq_true hcj
        subst e
        exact va_get (D := D) X.1 X.2.1 X.2.2.2.2.1 hin X.2.2.2.1 X.2.2.2.2.2.2.2.1 hP q (ja_wsAt w hq) hc k hk (X.2.2.2.2.1 _ hlk) (fun _ z => z) (v := .int (w.1 q k)) (by rw [List.getElem?_mapIdx, hf]; rfl) hd (hK _ _ _ _ h ls H locs hl hP hD hS)
      · rename_i q2 hcj hf
        have e := Nat.eq_of_beq_eq_true hcj
        subst e
        exact va_get (D := D) X.1 X.2.1 X.2.2.2.2.1 hin X.2.2.2.1 X.2.2.2.2.2.2.2.1 hP q (ja_wsAt w hq) hc k hk (X.2.2.2.2.1 _ hlk) (fun _ z => z) (v := .ref (ad q2)) (by rw [List.getElem?_mapIdx, hf]; rfl) hd (hK _ _ _ _ h ls H locs hl hP hD hS)
      · exact h.elim
    · exact h.elim
  · exact h.elim
theorem jo_put (X : ja_X p l e R s m args below meth c D dA ad A r nL c0 s0 kc ks own cc rt d) {C : String} {T : u_T} {N ci k idx : Nat} (hc : jn_cl[ci]? = some (C, T, N)) (hin : ∀ w ∈ u_ws C T N, w ∈ jn_T) (hk : k < N) (hlk : Cond.fieldLink own idx (T k).1 (T k).2.1 (T k).2.2.1 ∈ jn_T) (ty0 : Nat → FieldType) (hty : ∀ k, k < N → parseFieldDescriptor (T k).2.2.1 = some (ty0 k)) (hnm : ∀ a, a < N → ∀ b, b < N → a ≠ b → (T a).2.1 ≠ (T b).2.1) (hfin : (T k).2.2.2 = false) (hpd : parseFieldDescriptor (T k).2.2.1 = some .int) (hd : decode cc pc = .ok (.putfield idx, 3)) : ja_ok p l e R s m args below meth c D dA ad lay A r nL c0 s0 kc ks CC pc (js_put lay ci k (pc + 3)) := by
  intro K hK L st w h ls H locs hl hP hD hS
  unfold js_put at h
  split at h
  · rename_i v q t
    split at h
    · rename_i cj fs hq
      split at h
      · rename_i hcj hf
        have e := Nat.eq_of_beq_eq_true hcj
        subst e
        refine va_put (D := D) X.1 X.2.1 X.2.2.2.2.1 hin ty0 hty hnm X.2.2.2.1 X.2.2.2.2.2.2.2.1 hP hD hS q (ja_wsAt w hq) hc k hk (X.2.2.2.2.1 _ hlk) (fun _ z => z) hfin hpd rfl rfl (by rw [List.length_mapIdx]; exact (List.getElem?_eq_some_iff.mp hf).1) hd (fun H1 locs1 hP1 hD1 hS1 => ?_)
        have e1 := ja_setF (dA := dA) (ad := ad) w hq hf v
        exact hK _ _ _ _ h ls H1 locs1 hl (by rw [← e1]; exact hP1) (by rw [← e1]; exact hD1) hS1
      · exact h.elim
    · exact h.elim
  · exact h.elim
theorem jo_putz (X : ja_X p l e R s m args below meth c D dA ad A r nL c0 s0 kc ks own cc rt d) {C : String} {T : u_T} {N ci k idx : Nat} (hc : jn_cl[ci]? = some (C, T, N)) (hin : ∀ w ∈ u_ws C T N, w ∈ jn_T) (hk : k < N) (hlk : Cond.fieldLink own idx (T k).1 (T k).2.1 (T k).2.2.1 ∈ jn_T) (ty0 : Nat → FieldType) (hty : ∀ k, k < N → parseFieldDescriptor (T k).2.2.1 = some (ty0 k)) (hnm : ∀ a, a < N → ∀ b, b < N → a ≠ b → (T a).2.1 ≠ (T b).2.1) (hfin : (T k).2.2.2 = false) (hpd : parseFieldDescriptor (T k).2.2.1 = some .boolean) (hd : decode cc pc = .ok (.putfield idx, 3)) : ja_ok p l e R s m args below meth c D dA ad lay A r nL c0 s0 kc ks CC pc (js_putz lay ci k (pc + 3)) := by
  intro K hK L st w h ls H locs hl hP hD hS
  unfold js_putz at h
  split at h
  · rename_i v q t
    split at h
    · rename_i cj fs hq
      split at h
      · rename_i hcj hf
        have e := Nat.eq_of_beq_eq_true hcj
        subst e
        refine va_put (D := D) X.1 X.2.1 X.2.2.2.2.1 hin ty0 hty hnm X.2.2.2.1 X.2.2.2.2.2.2.2.1 hP hD hS q (ja_wsAt w hq) hc k hk (X.2.2.2.2.1 _ hlk) (fun _ z => z) hfin hpd (by rcases h.1 with z | z <;> subst z <;> rfl) (by rcases h.1 with z | z <;> subst z <;> rfl) (by rw [List.length_mapIdx]; exact (List.getElem?_eq_some_iff.mp hf).1) hd (fun H1 locs1 hP1 hD1 hS1 => ?_)
        have e1 := ja_setF (dA := dA) (ad := ad) w hq hf v
        exact hK _ _ _ _ h.2 ls H1 locs1 hl (by rw [← e1]; exact hP1) (by rw [← e1]; exact hD1) hS1
      · exact h.elim
    · exact h.elim
  · exact h.elim
theorem jo_iald (X : ja_X p l e R s m args below meth c D dA ad A r nL c0 s0 kc ks own cc rt d) (hd : decode cc pc = .ok (.iaload, 1)) : ja_ok p l e R s m args below meth c D dA ad lay A r nL c0 s0 kc ks CC pc (js_ald lay 0 (pc + 1)) := by
  intro K hK L st w h ls H locs hl hP hD hS
  unfold js_ald at h
  split at h
  · split at h
    · rename_i tz len hq
      split at h
      · rename_i hcj
        have e := Nat.eq_of_beq_eq_true hcj
        subst e
        exact va_iald X.1 X.2.1 X.2.2.2.2.2.2.2.1 hP _ 0 (ja_wsAt w hq) rfl h.1 hd (hK _ _ _ _ h.2 ls H locs hl hP hD hS)
      · exact h.elim
    · exact h.elim
  · exact h.elim
theorem jo_cald (X : ja_X p l e R s m args below meth c D dA ad A r nL c0 s0 kc ks own cc rt d) (hd : decode cc pc = .ok (.caload, 1)) : ja_ok p l e R s m args below meth c D dA ad lay A r nL c0 s0 kc ks CC pc (js_ald lay 1 (pc + 1)) := by
  intro K hK L st w h ls H locs hl hP hD hS
  unfold js_ald at h
  split at h
  · split at h
    · rename_i tz len hq
      split at h
      · rename_i hcj
        have e := Nat.eq_of_beq_eq_true hcj
        subst e
        exact va_cald X.1 X.2.1 X.2.2.2.2.2.2.2.1 hP _ 1 (ja_wsAt w hq) rfl h.1 hd (hK _ _ _ _ h.2 ls H locs hl hP hD hS)
      · exact h.elim
    · exact h.elim
  · exact h.elim
theorem jo_lald (X : ja_X p l e R s m args below meth c D dA ad A r nL c0 s0 kc ks own cc rt d) (hd : decode cc pc = .ok (.laload, 1)) : ja_ok p l e R s m args below meth c D dA ad lay A r nL c0 s0 kc ks CC pc (js_lald lay (pc + 1)) := by
  intro K hK L st w h ls H locs hl hP hD hS
  unfold js_lald at h
  split at h
  · split at h
    · rename_i tz len hq
      split at h
      · rename_i hcj
        have e := Nat.eq_of_beq_eq_true hcj
        subst e
        exact va_lald X.1 X.2.1 X.2.2.2.2.2.2.2.1 hP _ 2 (ja_wsAt w hq) rfl h.1 hd (hK _ _ _ _ h.2 ls H locs hl hP hD hS)
      · exact h.elim
    · exact h.elim
  · exact h.elim
theorem jo_iast (X : ja_X p l e R s m args below meth c D dA ad A r nL c0 s0 kc ks own cc rt d) (hd : decode cc pc = .ok (.iastore, 1)) : ja_ok p l e R s m args below meth c D dA ad lay A r nL c0 s0 kc ks CC pc (js_ast lay (pc + 1)) := by
  intro K hK L st w h ls H locs hl hP hD hS
  unfold js_ast at h
  split at h
  · rename_i x i q t
    split at h
    · rename_i tz len hq
      split at h
      · rename_i hcj
        have e := Nat.eq_of_beq_eq_true hcj
        subst e
        refine va_iast X.1 X.2.1 X.2.2.2.2.2.2.2.1 hP hD hS _ 0 (ja_wsAt w hq) rfl h.1 hd (fun H1 locs1 hP1 hD1 hS1 => ?_)
        have e1 := ja_setA (dA := dA) (ad := ad) w hq (by decide) i.toNatClampNeg x
        exact hK _ _ _ _ h.2 ls H1 locs1 hl (by rw [← e1]; exact hP1) (by rw [← e1]; exact hD1) hS1
      · exact h.elim
    · exact h.elim
  · exact h.elim
theorem jo_cast (X : ja_X p l e R s m args below meth c D dA ad A r nL c0 s0 kc ks own cc rt d) (hd : decode cc pc = .ok (.castore, 1)) : ja_ok p l e R s m args below meth c D dA ad lay A r nL c0 s0 kc ks CC pc (js_cst lay (pc + 1)) := by
  intro K hK L st w h ls H locs hl hP hD hS
  unfold js_cst at h
  split at h
  · rename_i x i q t
    split at h
    · rename_i tz len hq
      split at h
      · rename_i hcj
        have e := Nat.eq_of_beq_eq_true hcj
        subst e
        refine va_cast X.1 X.2.1 X.2.2.2.2.2.2.2.1 hP hD hS _ 1 (ja_wsAt w hq) rfl h.1 hd (fun H1 locs1 hP1 hD1 hS1 => ?_)
        have e1 := ja_setA (dA := dA) (ad := ad) w hq (by decide) i.toNatClampNeg (vp_nar .char x)
        exact hK _ _ _ _ h.2 ls H1 locs1 hl (by rw [← e1]; exact hP1) (by rw [← e1]; exact hD1) hS1
      · exact h.elim
    · exact h.elim
  · exact h.elim
theorem jo_last (X : ja_X p l e R s m args below meth c D dA ad A r nL c0 s0 kc ks own cc rt d) (hd : decode cc pc = .ok (.lastore, 1)) : ja_ok p l e R s m args below meth c D dA ad lay A r nL c0 s0 kc ks CC pc (js_last lay (pc + 1)) := by
  intro K hK L st w h ls H locs hl hP hD hS
  unfold js_last at h
  split at h
  · rename_i x i q t
    split at h
    · rename_i tz len hq
      split at h
      · rename_i hcj
        have e := Nat.eq_of_beq_eq_true hcj
        subst e
        refine va_last X.1 X.2.1 X.2.2.2.2.2.2.2.1 hP hD hS _ 2 (ja_wsAt w hq) rfl h.1 hd (fun H1 locs1 hP1 hD1 hS1 => ?_)
        have e1 := ja_setL (dA := dA) (ad := ad) w hq i.toNatClampNeg x
        exact hK _ _ _ _ h.2 ls H1 locs1 hl (by rw [← e1]; exact hP1) (by rw [← e1]; exact hD1) hS1
      · exact h.elim
    · exact h.elim
  · exact h.elim
theorem jo_ret (X : ja_X p l e R s m args below meth c D dA ad A r nL c0 s0 kc ks own cc none d) (hd : decode cc pc = .ok (.return_, 1)) : ja_ok p l e R s m args below meth c D dA ad lay A r nL c0 s0 kc ks CC pc (js_ret) := by
  intro K hK L st w h ls H locs hl hP hD hS
  unfold js_ret at h
  split at h
  · subst h
    exact W.widen X.2.2.2.2.2.2.2.2.2.1.2.2.2.2.1 X.2.2.2.2.2.2.2.2.2.1.2.2.2.2.2.1 (W.vret X.1 X.2.1 X.2.2.2.2.2.1 (fun t ht hW => ⟨⟨rfl, by rw [ht]; exact hP, hD⟩, hS.F ht⟩) hS.2.2 hd X.2.2.2.2.2.2.1)
  · exact h.elim
theorem jo_iret (X : ja_X p l e R s m args below meth c D dA ad A r nL c0 s0 kc ks own cc (some .int) d) (hd : decode cc pc = .ok (.ireturn, 1)) : ja_ok p l e R s m args below meth c D dA ad lay A r nL c0 s0 kc ks CC pc (js_iret) := by
  intro K hK L st w h ls H locs hl hP hD hS
  unfold js_iret at h
  split at h
  · subst h
    exact W.widen X.2.2.2.2.2.2.2.2.2.1.2.2.2.2.1 X.2.2.2.2.2.2.2.2.2.1.2.2.2.2.2.1 (W.iret X.1 X.2.1 X.2.2.2.2.2.1 (fun t ht hW => ⟨⟨rfl, by rw [ht]; exact hP, hD⟩, hS.F ht⟩) hS.2.2 hd X.2.2.2.2.2.2.1)
  · exact h.elim
theorem jo_lret (X : ja_X p l e R s m args below meth c D dA ad A r nL c0 s0 kc ks own cc (some .long) d) (hd : decode cc pc = .ok (.lreturn, 1)) : ja_ok p l e R s m args below meth c D dA ad lay A r nL c0 s0 kc ks CC pc (js_lret) := by
  intro K hK L st w h ls H locs hl hP hD hS
  unfold js_lret at h
  split at h
  · subst h
    exact W.widen X.2.2.2.2.2.2.2.2.2.1.2.2.2.2.1 X.2.2.2.2.2.2.2.2.2.1.2.2.2.2.2.1 (W.lret X.1 X.2.1 X.2.2.2.2.2.1 (fun t ht hW => ⟨⟨rfl, by rw [ht]; exact hP, hD⟩, hS.F ht⟩) hS.2.2 hd X.2.2.2.2.2.2.1)
  · exact h.elim
theorem jo_zret (X : ja_X p l e R s m args below meth c D dA ad A r nL c0 s0 kc ks own cc (some .boolean) d) (hd : decode cc pc = .ok (.ireturn, 1)) : ja_ok p l e R s m args below meth c D dA ad lay A r nL c0 s0 kc ks CC pc (js_zret) := by
  intro K hK L st w h ls H locs hl hP hD hS
  unfold js_zret at h
  split at h
  · obtain ⟨h1, h⟩ := h
    subst h
    exact W.widen X.2.2.2.2.2.2.2.2.2.1.2.2.2.2.1 X.2.2.2.2.2.2.2.2.2.1.2.2.2.2.2.1 (W.zret X.1 X.2.1 X.2.2.2.2.2.1 (by rcases h1 with z | z <;> subst z <;> rfl) (fun t ht hW => ⟨⟨rfl, by rw [ht]; exact hP, hD⟩, hS.F ht⟩) hS.2.2 hd X.2.2.2.2.2.2.1)
  · exact h.elim
theorem jo_cret (X : ja_X p l e R s m args below meth c D dA ad A r nL c0 s0 kc ks own cc (some .char) d) (hd : decode cc pc = .ok (.ireturn, 1)) : ja_ok p l e R s m args below meth c D dA ad lay A r nL c0 s0 kc ks CC pc (js_cret) := by
  intro K hK L st w h ls H locs hl hP hD hS
  unfold js_cret at h
  split at h
  · obtain ⟨h1, h⟩ := h
    subst h
    exact W.widen X.2.2.2.2.2.2.2.2.2.1.2.2.2.2.1 X.2.2.2.2.2.2.2.2.2.1.2.2.2.2.2.1 (W.zret X.1 X.2.1 X.2.2.2.2.2.1 h1 (fun t ht hW => ⟨⟨rfl, by rw [ht]; exact hP, hD⟩, hS.F ht⟩) hS.2.2 hd X.2.2.2.2.2.2.1)
  · exact h.elim
theorem ja_free {ws : va_W} {H : Heap} {locs : List Loc} (hD : va_D A ws) (hS : va_S A s.heap H locs) (hA : ∀ q, s.heap.size ≤ q → A q) : ∀ q, va_A ws H.size q → A q := by
  intro q h
  rcases h with ⟨k, z, h⟩ | h
  · exact hD.2 k (q, z) h
  · exact hA q (Nat.le_trans hS.1 h)
theorem ja_blind {sz : Nat} {as : List Value} {w : ja_w} : FrameBlind (ja_Pc D dA ad lay sz as w) := fun a U g mk q => by
  obtain ⟨q0, q1, qP, qK, qZ, qD⟩ := q
  exact ⟨q0, q1, qP, va_K.moved (u := U) (U := U.calling g mk a) (Vm.Alike.refl U.vm) qK, ja_KzC qZ, qD⟩
theorem ja_preU {H : Heap} {locs : List Loc} {as : List Value} {w : ja_w} (hK : va_K D jn_cl (ja_ty dA) s) (hz : ja_Kz ad A s) (hA : ∀ q, s.heap.size ≤ q → A q) (hP : va_P D jn_cl (ja_ws dA ad lay w) H) (hD : va_D A (ja_ws dA ad lay w)) (hS : va_S A s.heap H locs) : ∀ U : State, U.heap = H → s.WarmedH U.vm → ja_Pc D dA ad lay H.size as w (as.map (ja_tv ad)).toArray U := fun U hU hW =>
  ⟨rfl, by rw [hU], by rw [hU]; exact hP, va_K.moved hW.alike hK, ja_KzU hS (ja_free hD hS hA) hU hW hz, hD.weaken (fun _ _ _ _ => trivial)⟩
theorem ja_back {H : Heap} {locs : List Loc} {ls : Array Slot} {st0 rest : List Value} {a : Array Value} {A1 : Nat → Prop} {free : Addr → Prop} {Q : State → Prop} {v : Option Value} {w1 : ja_w} {H0 : Heap}
    (hr : va_Run p l e R s m args below meth c H locs c0 s0 0 0 (F0 m pc ls st0) rest (ja_Qc D dA ad lay A1 (.inl v, w1) a) free) (hS : va_S A H0 H locs) (hA : ∀ q, q < H.size → A1 q → A q) (hA2 : ∀ q, A1 q → A q) (hf : ∀ q, free q → A q)
    (kk : ∀ (H1 : Heap) (locs1 : List Loc), va_P D jn_cl (ja_ws dA ad lay w1) H1 → va_D A (ja_ws dA ad lay w1) → va_S A H0 H1 locs1 → W p l e R s m args below meth c H1 locs1 c0 s0 Q (F0 m (pc + 3) ls ((v.map (ja_tv ad)).toList ++ rest))) : W p l e R s m args below meth c H locs c0 s0 Q (F0 m pc ls st0) := by
  intro T hT X
  obtain ⟨v', st₀, t, T', L, h0, X', hL, e1, e2, ⟨⟨hv, hp, hd⟩, hz, hk⟩, st⟩ := hr T hT X
  cases hv
  rw [h0] at hz hk
  obtain ⟨t2, a1, b1⟩ := kk T'.heap (locs ++ L) (by rw [e1]; exact hp) (hd.weaken (fun k q _ h => hA2 q.1 h))
    ⟨Nat.le_trans hS.1 (by rw [e1]; exact hz), fun q h1 h2 => by rw [e1, hk q (Nat.lt_of_lt_of_le h1 hS.1) (fun z => h2 (hA q (Nat.lt_of_lt_of_le h1 hS.1) z))]; exact hS.2.1 q h1 h2, fun q hq => by
      rcases List.mem_append.mp hq with h | h
      · exact hS.2.2 q h
      · exact hf _ (hL q h)⟩ T' rfl X'
  exact ⟨t2, st t2 a1, b1⟩
theorem ja_tkl {α : Type} {l t : List α} {x : α} {n : Nat} (h : l.drop n = x :: t) : (l.take n).length = n := by
  rw [List.length_take]
  have h2 : (l.drop n).length = t.length + 1 := by rw [h]; rfl
  rw [List.length_drop] at h2
  omega
theorem ja_sum (ad : Nat → Nat) (t : List Value) : ((t.map (ja_tv ad)).map fun v => v.category).sum = (t.map fun v => v.category).sum := by
  rw [List.map_map]
  congr 1
  apply List.map_congr_left
  intro v _
  exact ja_cat ad v
theorem ja_vtl (ad : Nat → Nat) (v : Option Value) (t : List Value) : (v.map (ja_tv ad)).toList ++ t.map (ja_tv ad) = (v.toList ++ t).map (ja_tv ad) := by cases v <;> simp
theorem jo_cv (X : ja_X p l e R s m args below meth c D dA ad A r nL c0 s0 kc ks own cc rt d) {C : String} {T : u_T} {N ci idx j na : Nat} {y : MethodName} {bytes : ByteArray} {maxL : Nat} {ret : Option FieldType} {wj Tj : List Cond} (hc : jn_cl[ci]? = some (C, T, N)) (hw : wj = Cond.code y bytes maxL ret :: Tj) (hM : ∀ as w v w1, CC j as w (.inl v) w1 → ja_Met l D dA ad lay y wj d as w (.inl v) w1) (hG : GoodIn jn_T (wsV own idx C y wj)) (hy : y.cls = C ∧ y.cls ≠ "java/lang/invoke/MethodHandle" ∧ y.cls ≠ "java/lang/invoke/VarHandle" ∧ (parseMethodDescriptor y.desc).map (fun d => d.parameters.length) = some na) (hm : maxL ≤ 21) (hd : decode cc pc = .ok (.invokevirtual idx, 3)) : ja_ok p l e R s m args below meth c D dA ad lay A r nL c0 s0 kc ks CC pc (js_cv lay ci j na (pc + 3)) := by
  intro K hK L st w h ls H locs hl hP hD hS
  unfold js_cv at h
  split at h
  · rename_i q t hst
    split at h
    · rename_i cj fs hq
      split at h
      · rename_i hcj
        have e := Nat.eq_of_beq_eq_true hcj
        subst e
        obtain ⟨h1, v, w1, hcall, hk⟩ := h
        have hF : ∀ x, va_A (ja_ws dA ad lay w) H.size x → A x := ja_free hD hS X.2.2.2.2.2.2.2.2.1
        obtain ⟨hQ1, hQ2, hQ3, hQ4, hQ5, hQ6, hQ7⟩ := X.2.2.2.2.2.2.2.2.2.1
        have hR1 : (ja_rm d (.inl v)).frames + 1 ≤ R.frames := by show 12 + d + 1 ≤ R.frames; omega
        have hR2 : 8 + (maxL + 11) + (ja_rm d (.inl v)).locals ≤ R.locals := by show 8 + (maxL + 11) + (300 + 40 * d) ≤ R.locals; omega
        have hlen := ja_tkl hst
        have hst2 : st.map (ja_tv ad) = (((st.take na).reverse).map (ja_tv ad)).reverse ++ .ref (ad q) :: t.map (ja_tv ad) := by
          rw [← List.map_reverse, List.reverse_reverse]
          conv => lhs; rw [← List.take_append_drop na st, hst]
          simp [ja_tv]
        refine ja_back (va_runV (As := ((st.take na).reverse).map (ja_tv ad)) (rest := t.map (ja_tv ad)) ⟨X.1, X.2.1, X.2.2.1, X.2.2.2.1, X.2.2.2.2.1⟩ (hM _ w v w1 hcall H.size) (cwV na X.2.2.2.2.1 hG hw rfl rfl hy ⟨hR1, hR2⟩) ⟨ja_blind, va_recv X.2.2.2.2.2.2.2.1 hP hc (ja_wsAt w hq), ja_preU (as := .ref q :: (st.take na).reverse) X.2.2.2.2.2.2.2.1 X.2.2.2.2.2.2.2.2.2.2.1 X.2.2.2.2.2.2.2.2.1 hP hD hS⟩ rfl (by rw [List.length_map, List.length_reverse, hlen]) hl.1 hst2 (lv_room (by rw [ja_sum]; exact Nat.le_of_ble_eq_true h1)) hd ⟨by omega, by omega⟩) hS (fun x _ z => hF x z) hF hF (fun H1 locs1 hP1 hD1 hS1 => ?_)
        rw [ja_vtl]
        exact hK _ _ _ _ hk ls H1 locs1 hl hP1 hD1 hS1
      · exact h.elim
    · exact h.elim
  · exact h.elim
theorem jo_cs (X : ja_X p l e R s m args below meth c D dA ad A r nL c0 s0 kc ks own cc rt d) {idx j na : Nat} {y : MethodName} {bytes : ByteArray} {maxL : Nat} {ret : Option FieldType} {wj Tj : List Cond} (hw : wj = Cond.code y bytes maxL ret :: Tj) (hM : ∀ as w v w1, CC j as w (.inl v) w1 → ja_Met l D dA ad lay y wj d as w (.inl v) w1) (hG : GoodIn jn_T (wsS own idx y wj)) (hy : y.cls = own ∧ y.cls ≠ "java/lang/invoke/MethodHandle" ∧ y.cls ≠ "java/lang/invoke/VarHandle" ∧ (parseMethodDescriptor y.desc).map (fun d => d.parameters.length) = some na) (hm : maxL ≤ 21) (hd : decode cc pc = .ok (.invokestatic idx, 3)) : ja_ok p l e R s m args below meth c D dA ad lay A r nL c0 s0 kc ks CC pc (js_cs j na (pc + 3)) := by
  intro K hK L st w h ls H locs hl hP hD hS
  unfold js_cs at h
  obtain ⟨h0, h1, v, w1, hcall, hk⟩ := h
  have hF : ∀ x, va_A (ja_ws dA ad lay w) H.size x → A x := ja_free hD hS X.2.2.2.2.2.2.2.2.1
  obtain ⟨hQ1, hQ2, hQ3, hQ4, hQ5, hQ6, hQ7⟩ := X.2.2.2.2.2.2.2.2.2.1
  have hR1 : (ja_rm d (.inl v)).frames + 1 ≤ R.frames := by show 12 + d + 1 ≤ R.frames; omega
  have hR2 : 8 + (maxL + 11) + (ja_rm d (.inl v)).locals ≤ R.locals := by show 8 + (maxL + 11) + (300 + 40 * d) ≤ R.locals; omega
  have hlen : (st.take na).length = na := by rw [List.length_take]; have := Nat.le_of_ble_eq_true h0; omega
  have hst2 : st.map (ja_tv ad) = (((st.take na).reverse).map (ja_tv ad)).reverse ++ (st.drop na).map (ja_tv ad) := by
    rw [← List.map_reverse, List.reverse_reverse, ← List.map_append, List.take_append_drop]
  refine ja_back (va_runS (As := ((st.take na).reverse).map (ja_tv ad)) (rest := (st.drop na).map (ja_tv ad)) ⟨X.1, X.2.1, X.2.2.1, X.2.2.2.1, X.2.2.2.2.1⟩ (hM _ w v w1 hcall H.size) (cwS na X.2.2.2.2.1 hG hw rfl rfl hy ⟨hR1, hR2⟩) ⟨ja_blind, ja_preU (as := (st.take na).reverse) X.2.2.2.2.2.2.2.1 X.2.2.2.2.2.2.2.2.2.2.1 X.2.2.2.2.2.2.2.2.1 hP hD hS⟩ rfl (by rw [List.length_map, List.length_reverse, hlen]) hl.1 hst2 (lv_room (by rw [ja_sum]; exact Nat.le_of_ble_eq_true h1)) hd ⟨by omega, by omega⟩) hS (fun x _ z => hF x z) hF hF (fun H1 locs1 hP1 hD1 hS1 => ?_)
  rw [ja_vtl]
  exact hK _ _ _ _ hk ls H1 locs1 hl hP1 hD1 hS1
theorem jo_xv (X : ja_X p l e R s m args below meth c D dA ad A r nL c0 s0 kc ks own cc rt d) {C : String} {T : u_T} {N ci idx j na : Nat} {y : MethodName} {bytes : ByteArray} {maxL : Nat} {ret : Option FieldType} {wj Tj : List Cond} (hc : jn_cl[ci]? = some (C, T, N)) (hw : wj = Cond.code y bytes maxL ret :: Tj) (hM : ∀ as w o w1, CC j as w o w1 → ja_Met l D dA ad lay y wj d as w o w1) (hG : GoodIn jn_T (wsV own idx C y wj)) (hy : y.cls = C ∧ y.cls ≠ "java/lang/invoke/MethodHandle" ∧ y.cls ≠ "java/lang/invoke/VarHandle" ∧ (parseMethodDescriptor y.desc).map (fun d => d.parameters.length) = some na) (hm : maxL ≤ 21) (hd : decode cc pc = .ok (.invokevirtual idx, 3)) : ja_ok p l e R s m args below meth c D dA ad lay A r nL c0 s0 kc ks CC pc (js_xv lay ci j na (pc + 3)) := by
  intro K hK L st w h ls H locs hl hP hD hS
  unfold js_xv at h
  split at h
  · rename_i q t hst
    split at h
    · rename_i cj fs hq
      split at h
      · rename_i hcj
        rcases h with ⟨h1, ⟨v, w1, hcall, hk⟩ | ⟨x, w1, hcall, hr⟩⟩
        · refine jo_cv X hc hw (fun as w v w1 h => hM as w (.inl v) w1 h) hG hy hm hd K hK L st w ?_ ls H locs hl hP hD hS
          unfold js_cv
          simp only [hst, hq, hcj]
          exact ⟨h1, v, w1, hcall, hk⟩
        · have e := Nat.eq_of_beq_eq_true hcj
          subst e
          subst hr
          have hF : ∀ x, va_A (ja_ws dA ad lay w) H.size x → A x := ja_free hD hS X.2.2.2.2.2.2.2.2.1
          obtain ⟨hQ1, hQ2, hQ3, hQ4, hQ5, hQ6, hQ7⟩ := X.2.2.2.2.2.2.2.2.2.1
          have hR1 : (ja_rm d (.inr x)).frames + 1 ≤ R.frames := by show 12 + d + 1 ≤ R.frames; omega
          have hR2 : 8 + (maxL + 11) + (ja_rm d (.inr x)).locals ≤ R.locals := by show 8 + (maxL + 11) + (300 + 40 * d) ≤ R.locals; omega
          have hR8 := hQ7 x rfl; have hR3 : c0 + 1 ≤ R.cells ∧ s0 + 6 ≤ R.slots := ⟨by omega, by omega⟩
          have hlen := ja_tkl hst
          have hst2 : st.map (ja_tv ad) = (((st.take na).reverse).map (ja_tv ad)).reverse ++ .ref (ad q) :: t.map (ja_tv ad) := by
            rw [← List.map_reverse, List.reverse_reverse]
            conv => lhs; rw [← List.take_append_drop na st, hst]
            simp [ja_tv]
          intro T0 hT0 X0
          subst hT0
          obtain ⟨x9, st₀, t9, T', L9, h0, X', hL, e1, e2, hq, st9⟩ := jx_V X0 X.1 X.2.2.2.1 (cwV na X.2.2.2.2.1 hG hw rfl rfl hy ⟨hR1, hR2⟩) (hM _ w (.inr x) w1 hcall T0.heap.size) (As := ((st.take na).reverse).map (ja_tv ad)) (rest := t.map (ja_tv ad)) ⟨ja_blind, va_recv X.2.2.2.2.2.2.2.1 hP hc (ja_wsAt w hq), ja_preU (as := .ref q :: (st.take na).reverse) X.2.2.2.2.2.2.2.1 X.2.2.2.2.2.2.2.2.2.2.1 X.2.2.2.2.2.2.2.2.1 hP hD hS⟩ (g := F0 m pc ls (st.map (ja_tv ad))) rfl (by rw [List.length_map, List.length_reverse, hlen]) (hl.1.trans X.2.2.1.symm) hst2 (lv_room (by rw [ja_sum]; exact Nat.le_of_ble_eq_true h1)) (by rw [X.2.1]; exact hd) hR3
          obtain ⟨⟨⟨a9, ha9, cell9, cX9, g1, g2, g3, g4⟩, hP1, hD1⟩, hz9, hk9⟩ := hq
          cases ha9
          rw [h0] at hz9 hk9
          obtain ⟨hwalk, hrun, hend, hW9, hsame⟩ := X'.leaveThrown x9 (g := { F0 m pc ls (st.map (ja_tv ad)) with stack := t.map (ja_tv ad) }) rfl rfl rfl (by rw [X.2.2.2.2.2.2.2.2.2.2.2.2 x rfl]; exact fun z hz => nomatch hz) X.2.2.2.2.2.2.1
          refine ⟨_, st9 _ hwalk, .threw x9, hrun, hend, ⟨⟨⟨x9, rfl, cell9, cX9, by show T'.heap[x9]? = _; rw [e1]; exact g1, g2, g3, by show T'.vm.findClass _ = _; rw [e2]; exact g4⟩, by show va_P D jn_cl _ T'.heap; rw [e1]; exact hP1, hD1.weaken (fun k q _ h => hF q.1 h)⟩, ?_⟩, locs ++ L9, ⟨⟨_, rfl⟩, hW9, hsame.mono hR8.1 hR8.2⟩, ?_⟩
          · refine ⟨by show s.heap.size ≤ T'.heap.size; rw [e1]; exact Nat.le_trans hS.1 hz9, fun q h1 h2 => ?_⟩
            show T'.heap[q]? = s.heap[q]?
            rw [e1, hk9 q (Nat.lt_of_lt_of_le h1 hS.1) (fun z => h2 (hF q z))]
            exact hS.2.1 q h1 h2
          · intro q hq
            rcases List.mem_append.mp hq with h | h
            · exact hS.2.2 q h
            · exact hF _ (hL q h)
      · exact h.elim
    · exact h.elim
  · exact h.elim
theorem jo_xs (X : ja_X p l e R s m args below meth c D dA ad A r nL c0 s0 kc ks own cc rt d) {idx j na : Nat} {y : MethodName} {bytes : ByteArray} {maxL : Nat} {ret : Option FieldType} {wj Tj : List Cond} (hw : wj = Cond.code y bytes maxL ret :: Tj) (hM : ∀ as w o w1, CC j as w o w1 → ja_Met l D dA ad lay y wj d as w o w1) (hG : GoodIn jn_T (wsS own idx y wj)) (hy : y.cls = own ∧ y.cls ≠ "java/lang/invoke/MethodHandle" ∧ y.cls ≠ "java/lang/invoke/VarHandle" ∧ (parseMethodDescriptor y.desc).map (fun d => d.parameters.length) = some na) (hm : maxL ≤ 21) (hd : decode cc pc = .ok (.invokestatic idx, 3)) : ja_ok p l e R s m args below meth c D dA ad lay A r nL c0 s0 kc ks CC pc (js_xs j na (pc + 3)) := by
  intro K hK L st w h ls H locs hl hP hD hS
  unfold js_xs at h
  rcases h with ⟨h00, h1, ⟨v, w1, hcall, hk⟩ | ⟨x, w1, hcall, hr⟩⟩
  · exact jo_cs X hw (fun as w v w1 h => hM as w (.inl v) w1 h) hG hy hm hd K hK L st w ⟨h00, h1, v, w1, hcall, hk⟩ ls H locs hl hP hD hS
  · subst hr
    have hF : ∀ x, va_A (ja_ws dA ad lay w) H.size x → A x := ja_free hD hS X.2.2.2.2.2.2.2.2.1
    obtain ⟨hQ1, hQ2, hQ3, hQ4, hQ5, hQ6, hQ7⟩ := X.2.2.2.2.2.2.2.2.2.1
    have hR1 : (ja_rm d (.inr x)).frames + 1 ≤ R.frames := by show 12 + d + 1 ≤ R.frames; omega
    have hR2 : 8 + (maxL + 11) + (ja_rm d (.inr x)).locals ≤ R.locals := by show 8 + (maxL + 11) + (300 + 40 * d) ≤ R.locals; omega
    have hR8 := hQ7 x rfl; have hR3 : c0 + 1 ≤ R.cells ∧ s0 + 6 ≤ R.slots := ⟨by omega, by omega⟩
    have hlen : (st.take na).length = na := by rw [List.length_take]; have := Nat.le_of_ble_eq_true h00; omega
    have hst2 : st.map (ja_tv ad) = (((st.take na).reverse).map (ja_tv ad)).reverse ++ (st.drop na).map (ja_tv ad) := by
      rw [← List.map_reverse, List.reverse_reverse, ← List.map_append, List.take_append_drop]
    intro T0 hT0 X0
    subst hT0
    obtain ⟨x9, st₀, t9, T', L9, h0, X', hL, e1, e2, hq, st9⟩ := jx_S X0 X.1 X.2.2.2.1 (cwS na X.2.2.2.2.1 hG hw rfl rfl hy ⟨hR1, hR2⟩) (hM _ w (.inr x) w1 hcall T0.heap.size) (As := ((st.take na).reverse).map (ja_tv ad)) (rest := (st.drop na).map (ja_tv ad)) ⟨ja_blind, ja_preU (as := (st.take na).reverse) X.2.2.2.2.2.2.2.1 X.2.2.2.2.2.2.2.2.2.2.1 X.2.2.2.2.2.2.2.2.1 hP hD hS⟩ (g := F0 m pc ls (st.map (ja_tv ad))) rfl (by rw [List.length_map, List.length_reverse, hlen]) (hl.1.trans X.2.2.1.symm) hst2 (lv_room (by rw [ja_sum]; exact Nat.le_of_ble_eq_true h1)) (by rw [X.2.1]; exact hd) hR3
    obtain ⟨⟨⟨a9, ha9, cell9, cX9, g1, g2, g3, g4⟩, hP1, hD1⟩, hz9, hk9⟩ := hq
    cases ha9
    rw [h0] at hz9 hk9
    obtain ⟨hwalk, hrun, hend, hW9, hsame⟩ := X'.leaveThrown x9 (g := { F0 m pc ls (st.map (ja_tv ad)) with stack := (st.drop na).map (ja_tv ad) }) rfl rfl rfl (by rw [X.2.2.2.2.2.2.2.2.2.2.2.2 x rfl]; exact fun z hz => nomatch hz) X.2.2.2.2.2.2.1
    refine ⟨_, st9 _ hwalk, .threw x9, hrun, hend, ⟨⟨⟨x9, rfl, cell9, cX9, by show T'.heap[x9]? = _; rw [e1]; exact g1, g2, g3, by show T'.vm.findClass _ = _; rw [e2]; exact g4⟩, by show va_P D jn_cl _ T'.heap; rw [e1]; exact hP1, hD1.weaken (fun k q _ h => hF q.1 h)⟩, ?_⟩, locs ++ L9, ⟨⟨_, rfl⟩, hW9, hsame.mono hR8.1 hR8.2⟩, ?_⟩
    · refine ⟨by show s.heap.size ≤ T'.heap.size; rw [e1]; exact Nat.le_trans hS.1 hz9, fun q h1 h2 => ?_⟩
      show T'.heap[q]? = s.heap[q]?
      rw [e1, hk9 q (Nat.lt_of_lt_of_le h1 hS.1) (fun z => h2 (hF q z))]
      exact hS.2.1 q h1 h2
    · intro q hq
      rcases List.mem_append.mp hq with h | h
      · exact hS.2.2 q h
      · exact hF _ (hL q h)
theorem jo_csN (X : ja_X p l e R s m args below meth c D dA ad A r nL c0 s0 kc ks own cc rt d) {idx j na : Nat} {y : MethodName} {host : String} {bytes : ByteArray} {maxL : Nat} {ret : Option FieldType} {wj Tj : List Cond} (hw : wj = Cond.code y bytes maxL ret :: Tj) (hM : ∀ as w v w1, CC j as w (.inl v) w1 → ja_Met l D dA ad lay y wj d as w (.inl v) w1) (hG : GoodIn jn_T wj) (hN : (own, idx, y, host) ∈ jn_NW) (hst : Cond.static y ∈ jn_T) (hini : Cond.initialized y.cls ∈ jn_T) (hy : y.cls ≠ "java/lang/invoke/MethodHandle" ∧ y.cls ≠ "java/lang/invoke/VarHandle" ∧ (parseMethodDescriptor y.desc).map (fun d => d.parameters.length) = some na) (hm : maxL ≤ 21) (hd : decode cc pc = .ok (.invokestatic idx, 3)) : ja_ok p l e R s m args below meth c D dA ad lay A r nL c0 s0 kc ks CC pc (js_cs j na (pc + 3)) := by
  intro K hK L st w h ls H locs hl hP hD hS
  unfold js_cs at h
  obtain ⟨h0, h1, v, w1, hcall, hk⟩ := h
  have hF : ∀ x, va_A (ja_ws dA ad lay w) H.size x → A x := ja_free hD hS X.2.2.2.2.2.2.2.2.1
  obtain ⟨hQ1, hQ2, hQ3, hQ4, hQ5, hQ6, hQ7⟩ := X.2.2.2.2.2.2.2.2.2.1
  have hR1 : (ja_rm d (.inl v)).frames + 1 ≤ R.frames := by show 12 + d + 1 ≤ R.frames; omega
  have hR2 : 8 + (maxL + 11) + (ja_rm d (.inl v)).locals ≤ R.locals := by show 8 + (maxL + 11) + (300 + 40 * d) ≤ R.locals; omega
  have hlen : (st.take na).length = na := by rw [List.length_take]; have := Nat.le_of_ble_eq_true h0; omega
  have hst2 : st.map (ja_tv ad) = (((st.take na).reverse).map (ja_tv ad)).reverse ++ (st.drop na).map (ja_tv ad) := by
    rw [← List.map_reverse, List.reverse_reverse, ← List.map_append, List.take_append_drop]
  refine ja_back (va_runSN (As := ((st.take na).reverse).map (ja_tv ad)) (rest := (st.drop na).map (ja_tv ad)) ⟨X.1, X.2.1, X.2.2.1, X.2.2.2.1, X.2.2.2.2.1⟩ (hM _ w v w1 hcall H.size) ⟨va_cnB na X.2.2.2.2.1 hG hw rfl rfl (X.2.2.2.2.2.2.2.2.2.2.1.1 _ hN) (X.2.2.2.2.1 _ hini) hy ⟨hR1, hR2⟩, X.2.2.2.2.1 _ hst, trivial⟩ ⟨ja_blind, ja_preU (as := (st.take na).reverse) X.2.2.2.2.2.2.2.1 X.2.2.2.2.2.2.2.2.2.2.1 X.2.2.2.2.2.2.2.2.1 hP hD hS⟩ rfl (by rw [List.length_map, List.length_reverse, hlen]) hl.1 hst2 (lv_room (by rw [ja_sum]; exact Nat.le_of_ble_eq_true h1)) hd ⟨by omega, by omega⟩) hS (fun x _ z => hF x z) hF hF (fun H1 locs1 hP1 hD1 hS1 => ?_)
  rw [ja_vtl]
  exact hK _ _ _ _ hk ls H1 locs1 hl hP1 hD1 hS1
theorem jo_min (X : ja_X p l e R s m args below meth c D dA ad A r nL c0 s0 kc ks own cc rt d) {idx : Nat} (hlk : Cond.methodLink own idx Lib.Math.min.name ∈ jn_T) (h2 : Cond.static Lib.Math.min.name ∈ jn_T) (h3 : Cond.initialized "java/lang/Math" ∈ jn_T) (h4 : Cond.code Lib.Math.min.name Lib.Math.min.code 2 (some .int) ∈ jn_T) (hd : decode cc pc = .ok (.invokestatic idx, 3)) : ja_ok p l e R s m args below meth c D dA ad lay A r nL c0 s0 kc ks CC pc (js_min (pc + 3)) := by
  intro K hK L st w h ls H locs hl hP hD hS
  unfold js_min at h
  split at h
  · rename_i y x t
    obtain ⟨hQ1, hQ2, hQ3, hQ4, hQ5, hQ6, hQ7⟩ := X.2.2.2.2.2.2.2.2.2.1
    have hb8 := Nat.le_of_ble_eq_true h.1
    exact va_mmin X.1 X.2.1 (X.2.2.1.trans hl.1.symm) X.2.2.2.1 (X.2.2.2.2.1 _ hlk) (X.2.2.2.2.1 _ h2) (X.2.2.2.2.1 _ h3) (X.2.2.2.2.1 _ h4) (by omega) (by rw [ja_sum]; omega) (by omega) (by omega) hd (hK _ _ _ _ h.2 ls H locs hl hP hD hS)
  · exact h.elim
theorem ja_QTm {H : Heap} {locs : List Loc} {g : JFrame} {Qc : Array Value → State → Outcome → State → Prop} {free : Addr → Prop} {a b a' b' : Nat} (h1 : a ≤ a') (h2 : b ≤ b') (h : W p l e R s m args below meth c H locs c0 s0 (jx_QT below Qc args s a b free) g) : W p l e R s m args below meth c H locs c0 s0 (jx_QT below Qc args s a' b' free) g := by
  intro T hT X
  obtain ⟨t, u, o, v1, v2, v3, L, ⟨v4, v5, v6⟩, v7⟩ := h T hT X
  exact ⟨t, u, o, v1, v2, v3, L, ⟨v4, v5, v6.mono h1 h2⟩, v7⟩
/-- the words of 'throw new E()' that hold at any state of now -/
def jx_cls (w : Cond) : Bool := match w with
  | .declares x => decide (x ∈ jn_De)
  | .castable a b => decide (a = b) && decide (a ∈ jn_Ex)
  | .laysStatic o n d => decide (o = Bundle.tN) && (decide (n = "UNASSIGNED_STACK") && decide (d = Bundle.steD) || decide (n = "SUPPRESSED_SENTINEL") && decide (d = Bundle.listD))
  | .isRef (.static o n d) => decide (o = Bundle.tN) && (decide (n = "UNASSIGNED_STACK") && decide (d = Bundle.steD) || decide (n = "SUPPRESSED_SENTINEL") && decide (d = Bundle.listD))
  | w => decide (w ∈ tables_1) && goodWord w
theorem jx_own {U : State} {a : Array Value} (hts : ∀ w ∈ jn_T, w.before a U = true) (hz : ja_Kz ad A U) {w : Cond} (h : jx_cls w = true) : w.before a U = true := by
  unfold jx_cls at h
  split at h
  · exact va_Nw.use rfl (hz.2.1 _ (of_decide_eq_true h))
  · simp only [Bool.and_eq_true, decide_eq_true_eq] at h
    obtain ⟨rfl, h2⟩ := h
    exact va_Nw.use rfl (hz.2.2.1 _ h2)
  · simp only [Bool.and_eq_true, Bool.or_eq_true, decide_eq_true_eq] at h
    obtain ⟨rfl, ⟨rfl, rfl⟩ | ⟨rfl, rfl⟩⟩ := h
    · exact hz.2.2.2.1.lays
    · exact hz.2.2.2.2.1.lays
  · simp only [Bool.and_eq_true, Bool.or_eq_true, decide_eq_true_eq] at h
    obtain ⟨rfl, ⟨rfl, rfl⟩ | ⟨rfl, rfl⟩⟩ := h
    · exact hz.2.2.2.1.isRef
    · exact hz.2.2.2.2.1.isRef
  · simp only [Bool.and_eq_true, decide_eq_true_eq] at h
    exact hts _ (jn_of h.1 h.2)
theorem jo_thr (X : ja_X p l e R s m args below meth c D dA ad A r nL c0 s0 kc ks own cc rt d) {x ik ic : Nat} {cls : String} (hx : ["java/lang/IllegalArgumentException", "java/lang/IndexOutOfBoundsException"].getD x "" = cls) (hfit : Bundle.fit cls = true) (hall : (Bundle.ownAtoms0 own ic cls ["java/lang/RuntimeException", "java/lang/Exception"]).all jx_cls = true) (hck : Cond.classLink own ik cls ∈ jn_T) (hci : Cond.initialized cls ∈ jn_T) (d0 : decode cc pc = .ok (.new ik, 3)) (d3 : decode cc (pc + 3) = .ok (.dup, 1)) (d4 : decode cc (pc + 4) = .ok (.invokespecial ic, 3)) (d7 : decode cc (pc + 7) = .ok (.athrow, 1)) : ja_ok p l e R s m args below meth c D dA ad lay A r nL c0 s0 kc ks CC pc (js_thr x) := by
  intro K hK L st w h ls H locs hl hP hD hS
  unfold js_thr at h
  split at h
  · subst h
    obtain ⟨hQ1, hQ2, hQ3, hQ4, hQ5, hQ6, hQ7⟩ := X.2.2.2.2.2.2.2.2.2.1
    have hR8 := hQ7 x rfl
    refine ja_QTm hR8.1 hR8.2 ?_
    refine jx_throw (own := own) (cls := cls) (names := ["java/lang/RuntimeException", "java/lang/Exception"]) (ik := ik) (ic := ic) X.1 X.2.1 (hl.1.trans X.2.2.1.symm) X.2.2.2.2.2.2.2.2.2.2.2.1 X.2.2.2.1 hfit (by decide +kernel) (fun U hU1 hU2 => ?_) X.2.2.2.2.2.2.1 (X.2.2.2.2.2.2.2.2.2.2.2.2 x rfl) d0 d3 d4 d7 (by show 2 + 3 < R.frames; omega) (by show 13 * 3 + 42 ≤ R.locals; omega) (by omega) (by omega) (fun a t ce g1 g2 g3 g4 g5 g6 => ?_) hS.2.2
    · have hWU : s.WarmedH U.vm := by rw [hU1]; exact State.WarmedH.refl s
      have hts : ∀ w ∈ jn_T, w.before args U = true := fun w hw => word_at hWU (jn_good hw) (X.2.2.2.2.1 _ hw)
      have hz : ja_Kz ad A U := ja_KzU hS (fun _ h => h) hU2 hWU X.2.2.2.2.2.2.2.2.2.2.1
      exact ⟨fun w hw => jx_own hts hz (List.all_eq_true.mp hall w hw), hts _ hck, hts _ hci⟩
    · refine ⟨⟨⟨a, rfl, ce, ce.cls, g3, rfl, g4, ?_⟩, hP.kept (fun k q hq => g2 _ ((hP k q hq).lt)), hD⟩, Nat.le_trans hS.1 g1, fun q h1 h2 => (g2 q (Nat.lt_of_lt_of_le h1 hS.1)).trans (hS.2.1 q h1 h2)⟩
      rw [hx, g6.alike.findClass]
      exact g5
  · exact h.elim
def ja_Cs (l : Launch) (D : va_G) (dA : Nat → ClassId) (ad : Nat → Nat) (lay : List ja_E) (y : Nat → MethodName) (ws : Nat → List Cond) (CC : ja_C) (d : Nat) : Prop := ∀ (j : Nat) (as : List Value) (w : ja_w) (o : ja_O) (w' : ja_w), CC j as w o w' → ja_Met l D dA ad lay (y j) (ws j) d as w o w'
theorem ja_codeok {l : List (Nat × ja_S)} {P : Nat → ja_S → Prop} (h : ja_all P l) (hn : ∀ pc, P pc (fun _ _ _ _ _ _ => False)) : ∀ pc, P pc (ja_code l pc) := by
  intro pc
  induction l with
  | nil => exact hn pc
  | cons q t ih =>
    obtain ⟨k, f⟩ := q
    unfold ja_code
    cases hb : Nat.beq pc k with
    | true =>
      have := Nat.eq_of_beq_eq_true hb
      subst this
      exact h.1
    | false => exact ih h.2
theorem ja_argsM (ad : Nat → Nat) : ∀ (as : List Value) (k i : Nat) (v : Value), (ja_en1 as)[i]? = some (some v) → (k + i, ja_tv ad v) ∈ lv_args k (as.map (ja_tv ad)) := by
  intro as
  induction as with
  | nil => intro k i v h; simp [ja_en1] at h
  | cons x t ih =>
    intro k i v h
    simp only [List.map_cons, lv_args, ja_cat]
    unfold ja_en1 at h
    split at h
    · rename_i h2
      rw [if_pos h2]
      match i, h with
      | 0, h =>
        simp at h
        subst h
        exact List.mem_cons_self
      | 1, h => simp at h
      | i + 2, h =>
        simp only [List.getElem?_cons_succ] at h
        have := ih (k + 2) i v h
        rw [show k + (i + 2) = k + 2 + i by omega]
        exact List.mem_cons_of_mem _ this
    · rename_i h2
      rw [if_neg h2]
      match i, h with
      | 0, h =>
        simp at h
        subst h
        exact List.mem_cons_self
      | i + 1, h =>
        simp only [List.getElem?_cons_succ] at h
        have := ih (k + 1) i v h
        rw [show k + (i + 1) = k + 1 + i by omega]
        exact List.mem_cons_of_mem _ this
theorem ja_entry (ad : Nat → Nat) {as : List Value} {n : Nat} {ls : Array Slot} (h : lv_has ls n (lv_args 0 (as.map (ja_tv ad)))) : ja_has ad ls n (ja_en n as) := by
  refine ⟨h.1, h.2.1, fun i v hi => ?_⟩
  unfold ja_en at hi
  have h2 : (ja_en1 as)[i]? = some (some v) := by
    by_cases hlt : i < (ja_en1 as).length
    · rw [List.getElem?_append_left hlt] at hi
      exact hi
    · rw [List.getElem?_append_right (by omega), List.getElem?_replicate] at hi
      split at hi <;> simp at hi
  have := ja_argsM ad as 0 i v h2
  rw [Nat.zero_add] at this
  exact h.2.2 _ this
theorem ja_sl (ad : Nat → Nat) (as : List Value) : (lg_sl (as.map (ja_tv ad))).length = (ja_en1 as).length := by
  induction as with
  | nil => rfl
  | cons v t ih =>
    have e : lg_sl ((v :: t).map (ja_tv ad)) = (if (ja_tv ad v).category = 2 then [Slot.val (ja_tv ad v), .second] else [.val (ja_tv ad v)]) ++ lg_sl (t.map (ja_tv ad)) := by simp [lg_sl]
    rw [e, List.length_append, ih, ja_cat]
    cases v <;> simp [ja_en1, Value.category] <;> omega
def ja_Qx (D : va_G) (dA : Nat → ClassId) (ad : Nat → Nat) (lay : List ja_E) (A : Nat → Prop) (r : ja_O × ja_w) (kc ks : Nat) : Array Value → State → Outcome → State → Prop := match r.1 with
  | .inl _ => fun a st o t => ja_Qc D dA ad lay A r a st o t ∧ ∃ L, FrameEnd st o t L kc ks ∧ ∀ q ∈ L, A q.base
  | .inr _ => fun a st o t => ja_Qc D dA ad lay A r a st o t ∧ ∃ L, jx_FT st o t L kc ks ∧ ∀ q ∈ L, A q.base
theorem ja_Qeq {a : Array Value} : ja_MQ below (ja_Qc D dA ad lay A r) a s r.1 kc ks A = (fun t => ∃ o, t.status = .running ∧ Ended t below o ∧ ja_Qx D dA ad lay A r kc ks a s o t) := by
  obtain ⟨o, w⟩ := r
  cases o with
  | inl v => rfl
  | inr x => rfl
theorem ja_ofW {y : MethodName} {ws ws' : List Cond} {rm : Room} {Pc : Array Value → State → Prop} {Qx : Array Value → State → Outcome → State → Prop} {maxL : Nat} {ret : Option FieldType}
    (hy : plainName y.cls = true) (hw : ws = Cond.code y cc maxL ret :: ws')
    (body : ∀ p e s m args below meth c s₁, BodyLoose p l y (headSpec ws rm) cc maxL ret e s m args below meth c s₁ → c.maxLocals = maxL → Pc args s →
      W p l e (headSpec ws rm).room s m args below meth c s.heap [] 0 0 (fun t => ∃ o, t.status = .running ∧ Ended t below o ∧ Qx args s o t) (entryFrame m args maxL)) : MetFree l y (headSpec ws rm) Pc (fun _ _ _ _ _ => True) Qx := by
  refine MetFree.of_bodyS (code := cc) (maxLocals := maxL) (ret := ret) hy ?_ ?_
  · intro args s m h hn
    obtain ⟨meth, c, h1, h2, h3, h4, h5, h6, -, -⟩ := Cond.code_spec hn (atoms_spec (ws := ws) h _ (by rw [hw]; exact List.mem_cons_self))
    exact ⟨meth, c, h1, h2, h3, h4, h5, h6⟩
  · intro p e s m args below meth c s₁ B hml hP _
    have hh0 : s₁.heap = s.heap := by rw [B.state]; rfl
    obtain ⟨t, a1, o, b1, b2, b3⟩ := body p e s m args below meth c s₁ B hml hP s₁ hh0 (Stand.of_body B)
    exact ⟨t, o, a1, b1, b2, b3⟩
/-- a method whose instructions are all kept, kept -/
theorem ja_met {y : MethodName} {code : Nat → ja_S} {as : List Value} {w w' : ja_w} {o : ja_O} (hlt : l.stackTraces = false) (hy : plainName y.cls = true) (hen : Nat.ble (ja_en1 as).length nL = true)
    (hok : ∀ (p : Program) (e : Env) (R : Room) (s : State) (m : MethodId) (args : Array Value) (below : List Frame) (meth : Method) (c : Code) (A : Nat → Prop), ja_X p l e R s m args below meth c D dA ad A (o, w') nL 0 0 (ja_mc o) (ja_ms o) y.cls cc rt d → ∀ pc, ja_ok p l e R s m args below meth c D dA ad lay A (o, w') nL 0 0 (ja_mc o) (ja_ms o) CC pc (code pc))
    (h : ja_R code CC (o, w') 0 (ja_en nL as) [] w) : ja_Met l D dA ad lay y (Cond.code y cc nL rt :: jn_T) (d + 1) as w o w' := by
  have key : ∀ sz : Nat, MetFree l y (headSpec (Cond.code y cc nL rt :: jn_T) (ja_rm (d + 1) o)) (ja_Pc D dA ad lay sz as w) (fun _ _ _ _ _ => True) (ja_Qx D dA ad lay (va_A (ja_ws dA ad lay w) sz) (o, w') (ja_mc o) (ja_ms o)) := by
    intro sz
    refine ja_ofW (cc := cc) (maxL := nL) (ret := rt) hy rfl ?_
    intro p e s m args below meth c s₁ B hml hv
    obtain ⟨rfl, hsz, hP, hK, hZ, hD0⟩ := hv
    have hnoh : c.exceptionTable.toList = [] := by
      have h1 := B.noHandlers (atoms_spec (ws := Cond.code y cc nL rt :: jn_T) B.pre _ List.mem_cons_self)
      have h2 : c.exceptionTable = #[] := Array.isEmpty_iff.mp h1
      rw [h2]
    have hts0 := atoms_spec (ws := Cond.code y cc nL rt :: jn_T) B.pre
    have hts : ∀ w ∈ jn_T, w.before (as.map (ja_tv ad)).toArray s = true := fun w h => hts0 w (List.mem_cons_of_mem _ h)
    have hown : s.vm.findClass y.cls = some m.cls := findClass_of_methodNamed B.named
    subst hsz
    have hD := hD0.self (sz := s.heap.size)
    generalize hAe : va_A (ja_ws dA ad lay w) s.heap.size = A at hD hZ ⊢
    have hA : ∀ q : Nat, s.heap.size ≤ q → A q := fun q h => by rw [← hAe]; exact Or.inr h
    have hl := lv_entry (as.map (ja_tv ad)) (n := nL) (by rw [ja_sl]; exact Nat.le_of_ble_eq_true hen)
    rw [lg_entry_eq]
    have hX : ja_X p l e (ja_rm (d + 1) o) s m (as.map (ja_tv ad)).toArray below meth c D dA ad A (o, w') nL 0 0 (ja_mc o) (ja_ms o) y.cls cc rt d := ⟨B.exec, B.bytes, hml, hown, hts, B.returns, B.notSynchronized, hK, hA, ⟨Nat.le_refl _, Nat.le_refl _, Nat.le_refl _, Nat.le_refl _, Nat.zero_le _, Nat.zero_le _, fun x hx => by have hx : o = .inr x := hx; subst hx; exact ⟨Nat.le_refl _, Nat.le_refl _⟩⟩, hZ, hlt, fun _ _ => hnoh⟩
    have hG := h (ja_G p l e (ja_rm (d + 1) o) s m (as.map (ja_tv ad)).toArray below meth c D dA ad lay A (o, w') nL 0 0 (ja_mc o) (ja_ms o)) (fun K pc L st w hK h => hok _ _ _ _ _ _ _ _ _ _ hX pc K hK L st w h) (fun pc L L' st w hle h ls H locs hl hP hD hS => h ls H locs ⟨hl.1, hl.2.1, fun i v hi => hl.2.2 i v (hle i v hi)⟩ hP hD hS)
    have hG2 := hG _ _ _ (ja_entry ad hl) hP hD va_S.rf
    rw [ja_Qeq] at hG2
    exact hG2
  cases o with
  | inl v => exact key
  | inr x => exact key
theorem ja_nok : ja_ok p l e R s m args below meth c D dA ad lay A r nL c0 s0 kc ks CC pc (fun _ _ _ _ _ _ => False) := fun _ _ _ _ _ h => h.elim
end
