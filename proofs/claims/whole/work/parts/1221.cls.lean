/-! What a method's row asks for, step by step: there is an end y with F y and P y. -/
theorem cg_t {α : Type} {c : Prop} {F G P : α → Prop} (hc : c) (h : ∃ y, F y ∧ P y) : ∃ y, ((c → F y) ∧ (¬ c → G y)) ∧ P y :=
  match h with
  | ⟨y, a, b⟩ => ⟨y, ⟨fun _ => a, fun n => absurd hc n⟩, b⟩
theorem cg_f {α : Type} {c : Prop} {F G P : α → Prop} (hc : ¬ c) (h : ∃ y, G y ∧ P y) : ∃ y, ((c → F y) ∧ (¬ c → G y)) ∧ P y :=
  match h with
  | ⟨y, a, b⟩ => ⟨y, ⟨fun n => absurd n hc, fun _ => a⟩, b⟩
theorem cg_a {α : Type} {c : Prop} {F P : α → Prop} (hc : c) (h : ∃ y, F y ∧ P y) : ∃ y, (c ∧ F y) ∧ P y :=
  match h with
  | ⟨y, a, b⟩ => ⟨y, ⟨hc, a⟩, b⟩
theorem cg_r {α : Type} {P : α → Prop} {o : α} (h : P o) : ∃ y, y = o ∧ P y := ⟨o, rfl, h⟩
theorem cg_j {α : Type} {F G P : α → Prop} (h : ∃ y, F y ∧ P y) (k : ∀ y, F y → G y) : ∃ y, G y ∧ P y :=
  match h with
  | ⟨y, a, b⟩ => ⟨y, k y a, b⟩
theorem cg_I {α : Type} {E : ja_C} {j : Nat} {as : List Value} {w : ja_w} {Φ : Int32 → ja_I → ja_I → ja_J → α → Prop} {P : α → Prop} {z : Int32} {I1 A1 : ja_I} {J1 : ja_J} (h : E j as w (.inl (some (.int z))) (I1, A1, J1)) (k : ∃ y, Φ z I1 A1 J1 y ∧ P y) : ∃ y, (∃ (z : Int32) (I1 A1 : ja_I) (J1 : ja_J), E j as w (.inl (some (.int z))) (I1, A1, J1) ∧ Φ z I1 A1 J1 y) ∧ P y :=
  match k with
  | ⟨y, a, b⟩ => ⟨y, ⟨z, I1, A1, J1, h, a⟩, b⟩
theorem cg_L {α : Type} {E : ja_C} {j : Nat} {as : List Value} {w : ja_w} {Φ : Int64 → ja_I → ja_I → ja_J → α → Prop} {P : α → Prop} {z : Int64} {I1 A1 : ja_I} {J1 : ja_J} (h : E j as w (.inl (some (.long z))) (I1, A1, J1)) (k : ∃ y, Φ z I1 A1 J1 y ∧ P y) : ∃ y, (∃ (z : Int64) (I1 A1 : ja_I) (J1 : ja_J), E j as w (.inl (some (.long z))) (I1, A1, J1) ∧ Φ z I1 A1 J1 y) ∧ P y :=
  match k with
  | ⟨y, a, b⟩ => ⟨y, ⟨z, I1, A1, J1, h, a⟩, b⟩
theorem cg_V {α : Type} {E : ja_C} {j : Nat} {as : List Value} {w : ja_w} {Φ : ja_I → ja_I → ja_J → α → Prop} {P : α → Prop} {I1 A1 : ja_I} {J1 : ja_J} (h : E j as w (.inl none) (I1, A1, J1)) (k : ∃ y, Φ I1 A1 J1 y ∧ P y) : ∃ y, (∃ (I1 A1 : ja_I) (J1 : ja_J), E j as w (.inl (none)) (I1, A1, J1) ∧ Φ I1 A1 J1 y) ∧ P y :=
  match k with
  | ⟨y, a, b⟩ => ⟨y, ⟨I1, A1, J1, h, a⟩, b⟩
theorem cg_l {α : Type} {F G P : α → Prop} (h : ∃ y, F y ∧ P y) : ∃ y, (F y ∨ G y) ∧ P y :=
  match h with
  | ⟨y, a, b⟩ => ⟨y, Or.inl a, b⟩
theorem cg_x {E : ja_C} {j : Nat} {as : List Value} {w w1 : ja_w} {x : Nat} {F P : ja_O × ja_w → Prop} (h : E j as w (.inr x) w1) (k : P (.inr x, w1)) : ∃ y, (F y ∨ (∃ (x3 : Nat) (w3 : ja_w), E j as w (.inr x3) w3 ∧ y = (.inr x3, w3))) ∧ P y :=
  ⟨(.inr x, w1), Or.inr ⟨x, w1, h, rfl⟩, k⟩
theorem pp_bE {α β : Type} {r : pp_R α} {k : α → pp_S → pp_R β} {x : Nat ⊕ (β × pp_S)} (h : pp_b r k = some x) : (∃ p, r = some (.inl p) ∧ x = .inl p) ∨ (∃ v s1, r = some (.inr (v, s1)) ∧ k v s1 = some x) := by
  cases r with
  | none => exact absurd h (by simp [pp_b])
  | some q =>
    cases q with
    | inl p => exact Or.inl ⟨p, rfl, by simpa [pp_b] using h.symm⟩
    | inr q => exact Or.inr ⟨q.1, q.2, rfl, h⟩
theorem pp_bb {α β γ : Type} (r : pp_R α) (f : α → pp_S → pp_R β) (g : β → pp_S → pp_R γ) : pp_b (pp_b r f) g = pp_b r (fun a s => pp_b (f a s) g) := by
  cases r with
  | none => rfl
  | some q =>
    cases q with
    | inl p => rfl
    | inr q => rfl
/-! Lists and numbers -/
theorem nb_f {a b : Nat} (h : a ≠ b) : Nat.beq a b = false := by
  cases hb : Nat.beq a b with
  | false => rfl
  | true => exact absurd (Nat.eq_of_beq_eq_true hb) h
theorem gd_e {l : List Int32} {i : Nat} (h : i < l.length) : l.getD i 0 = l[i] := by
  simp [List.getD_eq_getElem?_getD, List.getElem?_eq_getElem h]
theorem gd_d {l : List Int32} {i : Nat} (h : l.length ≤ i) : l.getD i 0 = 0 := by
  simp [List.getD_eq_getElem?_getD, List.getElem?_eq_none h]
theorem gd_l {l m : List Int32} {i : Nat} (h : i < l.length) : (l ++ m).getD i 0 = l.getD i 0 := by
  simp only [List.getD_eq_getElem?_getD, List.getElem?_append_left h]
theorem gd_r {l m : List Int32} {i : Nat} (h : l.length ≤ i) : (l ++ m).getD i 0 = m.getD (i - l.length) 0 := by
  simp only [List.getD_eq_getElem?_getD, List.getElem?_append_right h]
theorem cn_in {x : Int32} {a n : Nat} (hx : x = nI a) (h : a < n) (hn : n < 2 ^ 31) : vp_in x n := hx ▸ vp_in_nI h hn
theorem cn_cl {x : Int32} {a : Nat} (hx : x = nI a) (h : a < 2 ^ 31) : x.toNatClampNeg = a := by rw [hx]; exact nI_clamp h
/-- fits a char -/
def cq_ch (x : Int32) : Prop := narrow .char (.int x) = .int x
theorem cq_chn {x : Int32} (h : cq_ch x) : vp_nar .char x = x := by
  unfold vp_nar; rw [h]
/-- f holds l from n on -/
def cq_h (f : Nat → Int32) (n : Nat) (l : List Int32) : Prop := ∀ i, i < l.length → f (n + i) = l.getD i 0
theorem cq_h0 (f : Nat → Int32) (n : Nat) : cq_h f n [] := fun i h => absurd h (Nat.not_lt_zero i)
theorem cq_ha {f : Nat → Int32} {n : Nat} {l m : List Int32} : cq_h f n (l ++ m) ↔ cq_h f n l ∧ cq_h f (n + l.length) m := by
  constructor
  · intro h
    refine ⟨fun i hi => ?_, fun i hi => ?_⟩
    · have := h i (by rw [List.length_append]; omega)
      rwa [gd_l hi] at this
    · have := h (l.length + i) (by rw [List.length_append]; omega)
      rw [gd_r (by omega)] at this
      rw [show n + l.length + i = n + (l.length + i) by omega, this, Nat.add_sub_cancel_left]
  · rintro ⟨a, b⟩ i hi
    rw [List.length_append] at hi
    by_cases h : i < l.length
    · rw [gd_l h]; exact a i h
    · rw [gd_r (by omega)]
      have := b (i - l.length) (by omega)
      rwa [show n + l.length + (i - l.length) = n + i by omega] at this
theorem cq_hu {f : Nat → Int32} {n k : Nat} {l : List Int32} {v : Int32} (h : cq_h f n l) (hk : n + l.length ≤ k) : cq_h (fun i => cond (Nat.beq i k) v (f i)) n l := by
  intro i hi
  have : Nat.beq (n + i) k = false := by
    exact nb_f (by omega)
  show cond (Nat.beq (n + i) k) v (f (n + i)) = _
  rw [this]; exact h i hi
theorem cq_h1 {f : Nat → Int32} {n k : Nat} {v : Int32} (hk : n = k) : cq_h (fun i => cond (Nat.beq i k) v (f i)) n [v] := by
  intro i hi
  have : i = 0 := by simp at hi; exact hi
  subst this; subst hk
  show cond (Nat.beq (n + 0) n) v _ = v
  rw [Nat.add_zero, Nat.beq_refl]; rfl
def cq_by (v : Int64) (i : Int32) : Int32 := (((((v.toUInt64 >>> ((8 * i).toInt64.toUInt64 &&& Int64.toUInt64 63)).toInt64) &&& 255).toInt32).toUInt32 % 65536).toInt32
/-- characters packed into a long -/
def rq_pk : List Int32 → Int64
  | [] => 0
  | c :: l => (rq_pk l <<< ((8 : Int32).toInt64 &&& 63)) ||| c.toInt64
/-- What holds of the tokens of any text. -/
def pp_ok (ts : List pp_T) : Prop := ts.length ≤ 160 ∧ ∀ t, t < ts.length → pp_k ts t ≠ 0 ∧ cq_ch (pp_k ts t) ∧ 1 ≤ (pp_cs ts t).length ∧ (pp_cs ts t).length ≤ 8 ∧ (∀ c ∈ pp_cs ts t, cq_ch c ∧ c ≠ 0) ∧ (∀ i, i < 8 → cq_by (pp_wd ts t) (nI i) = (pp_cs ts t).getD i 0) ∧ pp_wd ts t = rq_pk (pp_cs ts t)
/-! The program's world -/
abbrev cq_T (ts : List pp_T) (n : Int32) (ks : Nat → Int32) (ws : Nat → Int64) : Prop := n = nI ts.length ∧ ∀ i, i < ts.length → ks i = pp_k ts i ∧ ws i = pp_wd ts i
abbrev cq_P (ts : List pp_T) (c : Nat → Int32) (pos op : Nat) : Prop := c 1 = nI pos ∧ c 2 = pp_k ts pos ∧ c 3 = nI op ∧ pos ≤ ts.length ∧ op ≤ 8
abbrev cq_F (n : Int32) (f : Nat → Int32) (l : List Int32) : Prop := n = nI l.length ∧ l.length ≤ 640 ∧ cq_h f 0 l ∧ ∀ c ∈ l, cq_ch c
abbrev cq_Y (n : Int32) (f : Nat → Int32) (tn : Nat) (sig : List Int32) : Prop := n = nI tn ∧ tn ≤ 640 ∧ sig.length ≤ tn ∧ cq_h f (tn - sig.length) sig ∧ ∀ c ∈ sig, cq_ch c
/-- a piece of the types -/
abbrev cq_G (f : Nat → Int32) (tn : Nat) (a b : Int32) (ty : List Int32) : Prop := ∃ st, a = nI st ∧ b = nI (st + ty.length) ∧ st + ty.length ≤ tn ∧ cq_h f st ty ∧ ∀ c ∈ ty, cq_ch c
abbrev cq_N (ts : List pp_T) (n : Int32) (a11 a12 a13 a14 a15 a16 f : Nat → Int32) (tn : Nat) (dc : List pp_D) : Prop := n = nI dc.length ∧ dc.length ≤ 80 ∧ ∀ k x, dc[k]? = some x → a11 k = nI x.1 ∧ a16 k = nI x.2.1 ∧ a12 k = nI x.2.2.1 ∧ a15 k = nI x.2.2.2.1 ∧ cq_G f tn (a13 k) (a14 k) x.2.2.2.2 ∧ x.1 < ts.length ∧ x.2.1 < 1000 ∧ 1 ≤ x.2.2.1 ∧ x.2.2.1 ≤ 9 ∧ x.2.2.2.1 < 3
abbrev cq_S (d m : Int32) (a17 : Nat → Int32) (scs sd : List Nat) : Prop := d = nI scs.length ∧ m = nI sd.length ∧ scs.length ≤ 9 ∧ sd.length ≤ 1000 ∧ ∀ i q, scs[i]? = some q → a17 (i + 1) = nI q ∧ q < 1000
abbrev cq_L (a9 a10 rl mn : Nat → Int32) : Prop := ∀ i, i < 160 → a9 i = rl i ∧ a10 i = mn i
def cq_Q (a23 a24 a25 f : Nat → Int32) (tn : Nat) : List (Int32 × List Int32) → Prop
  | [] => True
  | x :: l => a23 l.length = x.1 ∧ (x.1 = 91 → cq_G f tn (a24 l.length) (a25 l.length) x.2) ∧ cq_ch x.1 ∧ cq_Q a23 a24 a25 f tn l
abbrev cq (ts : List pp_T) (f0 f1 : Nat → Int32) (Q : List (Int32 × List Int32)) (w : ja_w) (s : pp_S) : Prop :=
  cq_T ts (w.1 2 2) (w.2.1 6) (w.2.2 7) ∧ (w.1 0 = f0 ∧ w.2.1 1 = f1) ∧ cq_P ts (w.1 20) (pq_pos s) (pq_op s) ∧ cq_F (w.1 4 1) (w.2.1 18) (pq_frm s) ∧ cq_Y (w.1 8 1) (w.2.1 19) (pq_tn s) (pq_sig s) ∧
  cq_N ts (w.1 3 4) (w.2.1 11) (w.2.1 12) (w.2.1 13) (w.2.1 14) (w.2.1 15) (w.2.1 16) (w.2.1 19) (pq_tn s) (pq_dc s) ∧ cq_S (w.1 3 12) (w.1 3 13) (w.2.1 17) (pq_scs s) (pq_sd s) ∧ cq_L (w.2.1 9) (w.2.1 10) (pq_rl s) (pq_mn s) ∧
  (w.1 22 8 = nI Q.length ∧ Q.length = pq_pn s ∧ Q.length ≤ 160 ∧ cq_Q (w.2.1 23) (w.2.1 24) (w.2.1 25) (w.2.1 19) (pq_tn s) Q)
abbrev cq_bad (f0 f1 : Nat → Int32) (p : Nat) (w : ja_w) : Prop := w.1 0 = f0 ∧ w.2.1 1 = f1 ∧ w.1 20 1 = nI p
def cq_o (ts : List pp_T) (f0 f1 : Nat → Int32) (Q : List (Int32 × List Int32)) (vf : Nat → Option Value) (x : Nat ⊕ (Nat × pp_S)) (y : ja_O × ja_w) : Prop := match x with
  | .inl p => y.1 = .inr 0 ∧ cq_bad f0 f1 p y.2
  | .inr z => y.1 = .inl (vf z.1) ∧ cq ts f0 f1 Q y.2 z.2
/-- a method that may throw -/
def cq_M (ts : List pp_T) (f0 f1 : Nat → Int32) (E : ja_C) (j : Nat) (as : List Value) (vf : Nat → Option Value) (s : pp_S) (r : pp_R Nat) : Prop :=
  ∀ (Q : List (Int32 × List Int32)) (w : ja_w), cq ts f0 f1 Q w s → ∀ x, r = some x → ∃ y : ja_O × ja_w, E j as w y.1 y.2 ∧ cq_o ts f0 f1 Q vf x y
/-- one that does not -/
def cq_U (ts : List pp_T) (f0 f1 : Nat → Int32) (E : ja_C) (j : Nat) (as : List Value) (vf : Nat → Option Value) (s : pp_S) (r : pp_R Nat) : Prop :=
  (∀ p, r ≠ some (.inl p)) ∧ ∀ (Q : List (Int32 × List Int32)) (w : ja_w), cq ts f0 f1 Q w s → ∀ v s1, r = some (.inr (v, s1)) → ∃ (I1 A1 : ja_I) (J1 : ja_J), E j as w (.inl (vf v)) (I1, A1, J1) ∧ cq ts f0 f1 Q (I1, A1, J1) s1
abbrev vV : Nat → Option Value := fun _ => none
abbrev vI : Nat → Option Value := fun v => some (.int (nI v))
section
variable {ts : List pp_T} {f0 f1 : Nat → Int32} {Q Q' : List (Int32 × List Int32)} {E : ja_C} {j : Nat} {as : List Value} {s : pp_S} {r : pp_R Nat} {w : ja_w} {k : Nat → pp_S → pp_R Nat} {x : Nat ⊕ (Nat × pp_S)} {vf : Nat → Option Value}
theorem cg_bI {g : Nat → Int32} {Φ : Int32 → ja_I → ja_I → ja_J → ja_O × ja_w → Prop} (M : cq_M ts f0 f1 E j as (fun v => some (.int (g v))) s r) (hw : cq ts f0 f1 Q w s) (hx : pp_b r k = some x) (K : ∀ v s1 I1 A1 J1, r = some (.inr (v, s1)) → cq ts f0 f1 Q (I1, A1, J1) s1 → k v s1 = some x → ∃ y, Φ (g v) I1 A1 J1 y ∧ cq_o ts f0 f1 Q' vf x y) : ∃ y, ((∃ (z : Int32) (I1 A1 : ja_I) (J1 : ja_J), E j as w (.inl (some (.int z))) (I1, A1, J1) ∧ Φ z I1 A1 J1 y) ∨ (∃ (x3 : Nat) (w3 : ja_w), E j as w (.inr x3) w3 ∧ y = (.inr x3, w3))) ∧ cq_o ts f0 f1 Q' vf x y := by
  rcases pp_bE hx with ⟨p, hr, hp⟩ | ⟨v, s1, hr, hk⟩
  · obtain ⟨⟨o, w1⟩, hE, ho⟩ := M Q w hw _ hr
    subst hp
    obtain ⟨h1, h2⟩ := ho
    obtain rfl : o = .inr 0 := h1
    exact cg_x hE ⟨rfl, h2⟩
  · obtain ⟨⟨o, w1⟩, hE, ho⟩ := M Q w hw _ hr
    obtain ⟨h1, h2⟩ := ho
    obtain rfl : o = .inl (some (.int (g v))) := h1
    exact cg_l (cg_I hE (K v s1 w1.1 w1.2.1 w1.2.2 hr h2 hk))
theorem cg_bV {Φ : ja_I → ja_I → ja_J → ja_O × ja_w → Prop} (M : cq_M ts f0 f1 E j as vV s r) (hw : cq ts f0 f1 Q w s) (hx : pp_b r k = some x) (K : ∀ v s1 I1 A1 J1, r = some (.inr (v, s1)) → cq ts f0 f1 Q (I1, A1, J1) s1 → k v s1 = some x → ∃ y, Φ I1 A1 J1 y ∧ cq_o ts f0 f1 Q' vf x y) : ∃ y, ((∃ (I1 A1 : ja_I) (J1 : ja_J), E j as w (.inl (none)) (I1, A1, J1) ∧ Φ I1 A1 J1 y) ∨ (∃ (x3 : Nat) (w3 : ja_w), E j as w (.inr x3) w3 ∧ y = (.inr x3, w3))) ∧ cq_o ts f0 f1 Q' vf x y := by
  rcases pp_bE hx with ⟨p, hr, hp⟩ | ⟨v, s1, hr, hk⟩
  · obtain ⟨⟨o, w1⟩, hE, ho⟩ := M Q w hw _ hr
    subst hp
    obtain ⟨h1, h2⟩ := ho
    obtain rfl : o = .inr 0 := h1
    exact cg_x hE ⟨rfl, h2⟩
  · obtain ⟨⟨o, w1⟩, hE, ho⟩ := M Q w hw _ hr
    obtain ⟨h1, h2⟩ := ho
    obtain rfl : o = .inl (vV v) := h1
    exact cg_l (cg_V hE (K v s1 w1.1 w1.2.1 w1.2.2 hr h2 hk))
theorem cg_uV {Φ : ja_I → ja_I → ja_J → ja_O × ja_w → Prop} (M : cq_U ts f0 f1 E j as vV s r) (hw : cq ts f0 f1 Q w s) (hx : pp_b r k = some x) (K : ∀ v s1 I1 A1 J1, r = some (.inr (v, s1)) → cq ts f0 f1 Q (I1, A1, J1) s1 → k v s1 = some x → ∃ y, Φ I1 A1 J1 y ∧ cq_o ts f0 f1 Q' vf x y) : ∃ y, (∃ (I1 A1 : ja_I) (J1 : ja_J), E j as w (.inl (none)) (I1, A1, J1) ∧ Φ I1 A1 J1 y) ∧ cq_o ts f0 f1 Q' vf x y := by
  rcases pp_bE hx with ⟨p, hr, hp⟩ | ⟨v, s1, hr, hk⟩
  · exact absurd hr (M.1 p)
  · obtain ⟨I1, A1, J1, hE, ho⟩ := M.2 Q w hw _ _ hr
    exact cg_V hE (K v s1 I1 A1 J1 hr ho hk)
theorem cg_uI {g : Nat → Int32} {Φ : Int32 → ja_I → ja_I → ja_J → ja_O × ja_w → Prop} (M : cq_U ts f0 f1 E j as (fun v => some (.int (g v))) s r) (hw : cq ts f0 f1 Q w s) (hx : pp_b r k = some x) (K : ∀ v s1 I1 A1 J1, r = some (.inr (v, s1)) → cq ts f0 f1 Q (I1, A1, J1) s1 → k v s1 = some x → ∃ y, Φ (g v) I1 A1 J1 y ∧ cq_o ts f0 f1 Q' vf x y) : ∃ y, (∃ (z : Int32) (I1 A1 : ja_I) (J1 : ja_J), E j as w (.inl (some (.int z))) (I1, A1, J1) ∧ Φ z I1 A1 J1 y) ∧ cq_o ts f0 f1 Q' vf x y := by
  rcases pp_bE hx with ⟨p, hr, hp⟩ | ⟨v, s1, hr, hk⟩
  · exact absurd hr (M.1 p)
  · obtain ⟨I1, A1, J1, hE, ho⟩ := M.2 Q w hw _ _ hr
    exact cg_I hE (K v s1 I1 A1 J1 hr ho hk)
/-- the last call of a method -/
theorem cg_eV (M : cq_M ts f0 f1 E j as vV s r) (hw : cq ts f0 f1 Q w s) (hx : r = some x) : ∃ y, ((∃ (I1 A1 : ja_I) (J1 : ja_J), E j as w (.inl (none)) (I1, A1, J1) ∧ y = (.inl none, (I1, A1, J1))) ∨ (∃ (x3 : Nat) (w3 : ja_w), E j as w (.inr x3) w3 ∧ y = (.inr x3, w3))) ∧ cq_o ts f0 f1 Q vV x y := by
  obtain ⟨⟨o, w1⟩, hE, ho⟩ := M Q w hw _ hx
  cases x with
  | inl p =>
    obtain ⟨h1, h2⟩ := ho
    obtain rfl : o = .inr 0 := h1
    exact cg_x hE ⟨rfl, h2⟩
  | inr z =>
    obtain ⟨h1, h2⟩ := ho
    obtain rfl : o = .inl none := h1
    exact cg_l (cg_V hE (cg_r ⟨rfl, h2⟩))
theorem cg_uw (M : cq_U ts f0 f1 E j as vV s r) (hw : cq ts f0 f1 Q w s) (hx : r = some x) : ∃ y, (∃ (I1 A1 : ja_I) (J1 : ja_J), E j as w (.inl (none)) (I1, A1, J1) ∧ y = (.inl none, (I1, A1, J1))) ∧ cq_o ts f0 f1 Q vV x y := by
  cases x with
  | inl p => exact absurd hx (M.1 p)
  | inr z =>
    obtain ⟨I1, A1, J1, hE, ho⟩ := M.2 Q w hw _ _ hx
    exact cg_V hE (cg_r ⟨rfl, ho⟩)
end
