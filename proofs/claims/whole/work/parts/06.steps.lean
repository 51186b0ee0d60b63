theorem ja_sq {code : Nat → ja_S} {C : ja_C} {r : ja_O × ja_w} {pc : Nat} {L : ja_L} {st : List Value} {w : ja_w} {f : ja_S} (e : code pc = f) (h : f C r (ja_R code C r) L st w) : ja_R code C r pc L st w := by
  subst e
  exact ja_st h
theorem jt_iload {code : Nat → ja_S} {C : ja_C} {r : ja_O × ja_w} {pc : Nat} {n : Nat} {L : ja_L} {st : List Value} {w : ja_w} {i : Nat} {x : Int32} (e : code pc = js_iload i n) (hx : L[i]? = some (some (.int x))) (h : ja_R code C r n L (.int x :: st) w) : ja_R code C r pc L st w :=
  ja_sq e (by unfold js_iload; rw [hx]; exact h)
theorem jt_lload {code : Nat → ja_S} {C : ja_C} {r : ja_O × ja_w} {pc : Nat} {n : Nat} {L : ja_L} {st : List Value} {w : ja_w} {i : Nat} {x : Int64} (e : code pc = js_lload i n) (hx : L[i]? = some (some (.long x))) (h : ja_R code C r n L (.long x :: st) w) : ja_R code C r pc L st w :=
  ja_sq e (by unfold js_lload; rw [hx]; exact h)
theorem jt_aload {code : Nat → ja_S} {C : ja_C} {r : ja_O × ja_w} {pc : Nat} {n : Nat} {L : ja_L} {st : List Value} {w : ja_w} {i : Nat} {x : Nat} (e : code pc = js_aload i n) (hx : L[i]? = some (some (.ref x))) (h : ja_R code C r n L (.ref x :: st) w) : ja_R code C r pc L st w :=
  ja_sq e (by unfold js_aload; rw [hx]; exact h)
theorem jt_istore {code : Nat → ja_S} {C : ja_C} {r : ja_O × ja_w} {pc : Nat} {n : Nat} {L : ja_L} {st : List Value} {w : ja_w} {i : Nat} {x : Int32} (e : code pc = js_istore i n) (hn : ja_nl L i = true) (h : ja_R code C r n (L.set i (some (.int x))) st w) : ja_R code C r pc L (.int x :: st) w :=
  ja_sq e (by unfold js_istore; rw [hn]; exact h)
theorem jt_lstore {code : Nat → ja_S} {C : ja_C} {r : ja_O × ja_w} {pc : Nat} {n : Nat} {L : ja_L} {st : List Value} {w : ja_w} {i : Nat} {x : Int64} (e : code pc = js_lstore i n) (hn : ja_nl L i = true) (h : ja_R code C r n ((L.set i (some (.long x))).set (i + 1) none) st w) : ja_R code C r pc L (.long x :: st) w :=
  ja_sq e (by unfold js_lstore; rw [hn]; exact h)
theorem jt_iinc {code : Nat → ja_S} {C : ja_C} {r : ja_O × ja_w} {pc : Nat} {n : Nat} {L : ja_L} {st : List Value} {w : ja_w} {i : Nat} {x v : Int32} (e : code pc = js_iinc i v n) (hx : L[i]? = some (some (.int x))) (hn : ja_nl L i = true) (h : ja_R code C r n (L.set i (some (.int (x + v)))) st w) : ja_R code C r pc L st w :=
  ja_sq e (by unfold js_iinc; rw [hx, hn]; exact h)
theorem jt_ic {code : Nat → ja_S} {C : ja_C} {r : ja_O × ja_w} {pc : Nat} {n : Nat} {L : ja_L} {st : List Value} {w : ja_w} {v : Int32} (e : code pc = js_ic v n) (h : ja_R code C r n L (.int v :: st) w) : ja_R code C r pc L st w :=
  ja_sq e h
theorem jt_lc {code : Nat → ja_S} {C : ja_C} {r : ja_O × ja_w} {pc : Nat} {n : Nat} {L : ja_L} {st : List Value} {w : ja_w} {v : Int64} (e : code pc = js_lc v n) (h : ja_R code C r n L (.long v :: st) w) : ja_R code C r pc L st w :=
  ja_sq e h
theorem jt_ib {code : Nat → ja_S} {C : ja_C} {r : ja_O × ja_w} {pc : Nat} {n : Nat} {L : ja_L} {st : List Value} {w : ja_w} {f : Int32 → Int32 → Int32} {x y : Int32} (e : code pc = js_ib f n) (h : ja_R code C r n L (.int (f x y) :: st) w) : ja_R code C r pc L (.int y :: .int x :: st) w :=
  ja_sq e h
theorem jt_lb {code : Nat → ja_S} {C : ja_C} {r : ja_O × ja_w} {pc : Nat} {n : Nat} {L : ja_L} {st : List Value} {w : ja_w} {f : Int64 → Int64 → Int64} {x y : Int64} (e : code pc = js_lb f n) (h : ja_R code C r n L (.long (f x y) :: st) w) : ja_R code C r pc L (.long y :: .long x :: st) w :=
  ja_sq e h
theorem jt_ls {code : Nat → ja_S} {C : ja_C} {r : ja_O × ja_w} {pc : Nat} {n : Nat} {L : ja_L} {st : List Value} {w : ja_w} {f : Int64 → Int32 → Int64} {x : Int64} {y : Int32} (e : code pc = js_ls f n) (h : ja_R code C r n L (.long (f x y) :: st) w) : ja_R code C r pc L (.int y :: .long x :: st) w :=
  ja_sq e h
theorem jt_idiv {code : Nat → ja_S} {C : ja_C} {r : ja_O × ja_w} {pc : Nat} {n : Nat} {L : ja_L} {st : List Value} {w : ja_w} {x y : Int32} (e : code pc = js_idiv n) (hy : ¬ y = 0) (h : ja_R code C r n L (.int (x / y) :: st) w) : ja_R code C r pc L (.int y :: .int x :: st) w :=
  ja_sq e ⟨hy, h⟩
theorem jt_irem {code : Nat → ja_S} {C : ja_C} {r : ja_O × ja_w} {pc : Nat} {n : Nat} {L : ja_L} {st : List Value} {w : ja_w} {x y : Int32} (e : code pc = js_irem n) (hy : ¬ y = 0) (h : ja_R code C r n L (.int (x - x / y * y) :: st) w) : ja_R code C r pc L (.int y :: .int x :: st) w :=
  ja_sq e ⟨hy, h⟩
theorem jt_lcmp {code : Nat → ja_S} {C : ja_C} {r : ja_O × ja_w} {pc : Nat} {n : Nat} {L : ja_L} {st : List Value} {w : ja_w} {x y : Int64} (e : code pc = js_lcmp n) (h : ja_R code C r n L (.int (lg_cmp x y) :: st) w) : ja_R code C r pc L (.long y :: .long x :: st) w :=
  ja_sq e h
theorem jt_i2l {code : Nat → ja_S} {C : ja_C} {r : ja_O × ja_w} {pc : Nat} {n : Nat} {L : ja_L} {st : List Value} {w : ja_w} {x : Int32} (e : code pc = js_i2l n) (h : ja_R code C r n L (.long x.toInt64 :: st) w) : ja_R code C r pc L (.int x :: st) w :=
  ja_sq e h
theorem jt_l2i {code : Nat → ja_S} {C : ja_C} {r : ja_O × ja_w} {pc : Nat} {n : Nat} {L : ja_L} {st : List Value} {w : ja_w} {x : Int64} (e : code pc = js_l2i n) (h : ja_R code C r n L (.int x.toInt32 :: st) w) : ja_R code C r pc L (.long x :: st) w :=
  ja_sq e h
theorem jt_i2c {code : Nat → ja_S} {C : ja_C} {r : ja_O × ja_w} {pc : Nat} {n : Nat} {L : ja_L} {st : List Value} {w : ja_w} {x : Int32} (e : code pc = js_i2c n) (h : ja_R code C r n L (.int (x.toUInt32 % 65536).toInt32 :: st) w) : ja_R code C r pc L (.int x :: st) w :=
  ja_sq e h
theorem jt_dupi {code : Nat → ja_S} {C : ja_C} {r : ja_O × ja_w} {pc : Nat} {n : Nat} {L : ja_L} {st : List Value} {w : ja_w} {x : Int32} (e : code pc = js_dup n) (h : ja_R code C r n L (.int x :: .int x :: st) w) : ja_R code C r pc L (.int x :: st) w :=
  ja_sq e h
theorem jt_dupr {code : Nat → ja_S} {C : ja_C} {r : ja_O × ja_w} {pc : Nat} {n : Nat} {L : ja_L} {st : List Value} {w : ja_w} {x : Nat} (e : code pc = js_dup n) (h : ja_R code C r n L (.ref x :: .ref x :: st) w) : ja_R code C r pc L (.ref x :: st) w :=
  ja_sq e h
theorem jt_dup2 {code : Nat → ja_S} {C : ja_C} {r : ja_O × ja_w} {pc : Nat} {n : Nat} {L : ja_L} {st : List Value} {w : ja_w} {x : Nat} {y : Int32} (e : code pc = js_dup2 n) (h : ja_R code C r n L (.int y :: .ref x :: .int y :: .ref x :: st) w) : ja_R code C r pc L (.int y :: .ref x :: st) w :=
  ja_sq e h
theorem jt_pop {code : Nat → ja_S} {C : ja_C} {r : ja_O × ja_w} {pc : Nat} {n : Nat} {L : ja_L} {st : List Value} {w : ja_w} {x : Int32} (e : code pc = js_pop n) (h : ja_R code C r n L st w) : ja_R code C r pc L (.int x :: st) w :=
  ja_sq e h
theorem jt_goto {code : Nat → ja_S} {C : ja_C} {r : ja_O × ja_w} {pc : Nat} {n : Nat} {L : ja_L} {st : List Value} {w : ja_w}  (e : code pc = js_goto n) (h : ja_R code C r n L st w) : ja_R code C r pc L st w :=
  ja_sq e h
theorem jt_if {code : Nat → ja_S} {C : ja_C} {r : ja_O × ja_w} {pc : Nat} {n : Nat} {L : ja_L} {st : List Value} {w : ja_w} {f : Int32 → Prop} {x : Int32} {t : Nat} (e : code pc = js_if f t n) (h1 : f x → ja_R code C r t L st w) (h2 : ¬ f x → ja_R code C r n L st w) : ja_R code C r pc L (.int x :: st) w :=
  ja_sq e ⟨h1, h2⟩
theorem jt_icmp {code : Nat → ja_S} {C : ja_C} {r : ja_O × ja_w} {pc : Nat} {n : Nat} {L : ja_L} {st : List Value} {w : ja_w} {f : Int32 → Int32 → Prop} {x y : Int32} {t : Nat} (e : code pc = js_ic2 f t n) (h1 : f x y → ja_R code C r t L st w) (h2 : ¬ f x y → ja_R code C r n L st w) : ja_R code C r pc L (.int y :: .int x :: st) w :=
  ja_sq e ⟨h1, h2⟩
theorem jt_sw {code : Nat → ja_S} {C : ja_C} {r : ja_O × ja_w} {pc : Nat} {n : Nat} {L : ja_L} {st : List Value} {w : ja_w} {x : Int32} {l : List (Int32 × Nat)} (e : code pc = js_sw l n) (h : ja_sw x (fun k => ja_R code C r k L st w) n l) : ja_R code C r pc L (.int x :: st) w :=
  ja_sq e h
theorem jt_geti {code : Nat → ja_S} {C : ja_C} {r : ja_O × ja_w} {pc : Nat} {n : Nat} {L : ja_L} {st : List Value} {lay : List ja_E} {ci k p : Nat} {fs : List (Option Nat)} {I A : ja_I} {J : ja_J} (e : code pc = js_get lay ci k n) (hl : lay[p]? = some (.inl (ci, fs))) (hf : fs[k]? = some none) (h : ja_R code C r n L (.int (I p k) :: st) (I, A, J)) : ja_R code C r pc L (.ref p :: st) (I, A, J) :=
  ja_sq e (by unfold js_get; simp only [hl, hf, ja_bq]; exact h)
theorem jt_getr {code : Nat → ja_S} {C : ja_C} {r : ja_O × ja_w} {pc : Nat} {n : Nat} {L : ja_L} {st : List Value} {w : ja_w} {lay : List ja_E} {ci k p q : Nat} {fs : List (Option Nat)} (e : code pc = js_get lay ci k n) (hl : lay[p]? = some (.inl (ci, fs))) (hf : fs[k]? = some (some q)) (h : ja_R code C r n L (.ref q :: st) w) : ja_R code C r pc L (.ref p :: st) w :=
  ja_sq e (by unfold js_get; simp only [hl, hf, ja_bq]; exact h)
theorem jt_put {code : Nat → ja_S} {C : ja_C} {r : ja_O × ja_w} {pc : Nat} {n : Nat} {L : ja_L} {st : List Value} {lay : List ja_E} {ci k p : Nat} {fs : List (Option Nat)} {I A : ja_I} {J : ja_J} {v : Int32} (e : code pc = js_put lay ci k n) (hl : lay[p]? = some (.inl (ci, fs))) (hf : fs[k]? = some none) (h : ja_R code C r n L st (ja_up I p k v, A, J)) : ja_R code C r pc L (.int v :: .ref p :: st) (I, A, J) :=
  ja_sq e (by unfold js_put; simp only [hl, hf, ja_bq]; exact h)
theorem jt_putz {code : Nat → ja_S} {C : ja_C} {r : ja_O × ja_w} {pc : Nat} {n : Nat} {L : ja_L} {st : List Value} {lay : List ja_E} {ci k p : Nat} {fs : List (Option Nat)} {I A : ja_I} {J : ja_J} {v : Int32} (e : code pc = js_putz lay ci k n) (hl : lay[p]? = some (.inl (ci, fs))) (hf : fs[k]? = some none) (hz : v = 0 ∨ v = 1) (h : ja_R code C r n L st (ja_up I p k v, A, J)) : ja_R code C r pc L (.int v :: .ref p :: st) (I, A, J) :=
  ja_sq e (by unfold js_putz; simp only [hl, hf, ja_bq]; exact ⟨hz, h⟩)
theorem jt_ald {code : Nat → ja_S} {C : ja_C} {r : ja_O × ja_w} {pc : Nat} {n : Nat} {L : ja_L} {st : List Value} {lay : List ja_E} {ty p len : Nat} {I A : ja_I} {J : ja_J} {i : Int32} (e : code pc = js_ald lay ty n) (hl : lay[p]? = some (.inr (ty, len))) (hi : vp_in i len) (h : ja_R code C r n L (.int (A p i.toNatClampNeg) :: st) (I, A, J)) : ja_R code C r pc L (.int i :: .ref p :: st) (I, A, J) :=
  ja_sq e (by unfold js_ald; simp only [hl, ja_bq]; exact ⟨hi, h⟩)
theorem jt_lald {code : Nat → ja_S} {C : ja_C} {r : ja_O × ja_w} {pc : Nat} {n : Nat} {L : ja_L} {st : List Value} {lay : List ja_E} {p len : Nat} {I A : ja_I} {J : ja_J} {i : Int32} (e : code pc = js_lald lay n) (hl : lay[p]? = some (.inr (2, len))) (hi : vp_in i len) (h : ja_R code C r n L (.long (J p i.toNatClampNeg) :: st) (I, A, J)) : ja_R code C r pc L (.int i :: .ref p :: st) (I, A, J) :=
  ja_sq e (by unfold js_lald; simp only [hl, ja_bq]; exact ⟨hi, h⟩)
theorem jt_ast {code : Nat → ja_S} {C : ja_C} {r : ja_O × ja_w} {pc : Nat} {n : Nat} {L : ja_L} {st : List Value} {lay : List ja_E} {p len : Nat} {I A : ja_I} {J : ja_J} {i x : Int32} (e : code pc = js_ast lay n) (hl : lay[p]? = some (.inr (0, len))) (hi : vp_in i len) (h : ja_R code C r n L st (I, ja_up A p i.toNatClampNeg x, J)) : ja_R code C r pc L (.int x :: .int i :: .ref p :: st) (I, A, J) :=
  ja_sq e (by unfold js_ast; simp only [hl, ja_bq]; exact ⟨hi, h⟩)
theorem jt_cst {code : Nat → ja_S} {C : ja_C} {r : ja_O × ja_w} {pc : Nat} {n : Nat} {L : ja_L} {st : List Value} {lay : List ja_E} {p len : Nat} {I A : ja_I} {J : ja_J} {i x : Int32} (e : code pc = js_cst lay n) (hl : lay[p]? = some (.inr (1, len))) (hi : vp_in i len) (h : ja_R code C r n L st (I, ja_up A p i.toNatClampNeg (vp_nar .char x), J)) : ja_R code C r pc L (.int x :: .int i :: .ref p :: st) (I, A, J) :=
  ja_sq e (by unfold js_cst; simp only [hl, ja_bq]; exact ⟨hi, h⟩)
theorem jt_last {code : Nat → ja_S} {C : ja_C} {r : ja_O × ja_w} {pc : Nat} {n : Nat} {L : ja_L} {st : List Value} {lay : List ja_E} {p len : Nat} {I A : ja_I} {J : ja_J} {i : Int32} {x : Int64} (e : code pc = js_last lay n) (hl : lay[p]? = some (.inr (2, len))) (hi : vp_in i len) (h : ja_R code C r n L st (I, A, ja_uL J p i.toNatClampNeg x)) : ja_R code C r pc L (.long x :: .int i :: .ref p :: st) (I, A, J) :=
  ja_sq e (by unfold js_last; simp only [hl, ja_bq]; exact ⟨hi, h⟩)
theorem jt_cvV {code : Nat → ja_S} {C : ja_C} {r : ja_O × ja_w} {pc : Nat} {n : Nat} {L : ja_L} {st : List Value} {w : ja_w} {lay : List ja_E} {ci j na q : Nat} {fs : List (Option Nat)} {t as : List Value} {w1 : ja_w}  (e : code pc = js_cv lay ci j na n) (hs : st.drop na = .ref q :: t) (ha : .ref q :: (st.take na).reverse = as) (hl : lay[q]? = some (.inl (ci, fs))) (hb : Nat.ble (t.map fun v => v.category).sum 8 = true) (hc : C j as w (.inl none) w1) (h : ja_R code C r n L t w1) : ja_R code C r pc L st w :=
  ja_sq e (by unfold js_cv; simp only [hs, hl, ja_bq]; exact ⟨hb, none, w1, ha ▸ hc, h⟩)
theorem jt_csV {code : Nat → ja_S} {C : ja_C} {r : ja_O × ja_w} {pc : Nat} {n : Nat} {L : ja_L} {st : List Value} {w : ja_w} {j na : Nat} {t as : List Value} {w1 : ja_w}  (e : code pc = js_cs j na n) (hn : Nat.ble na st.length = true) (hs : st.drop na = t) (ha : (st.take na).reverse = as) (hb : Nat.ble (t.map fun v => v.category).sum 8 = true) (hc : C j as w (.inl none) w1) (h : ja_R code C r n L t w1) : ja_R code C r pc L st w :=
  ja_sq e (by subst hs; exact ⟨hn, hb, none, w1, ha ▸ hc, h⟩)
theorem jt_cvI {code : Nat → ja_S} {C : ja_C} {r : ja_O × ja_w} {pc : Nat} {n : Nat} {L : ja_L} {st : List Value} {w : ja_w} {lay : List ja_E} {ci j na q : Nat} {fs : List (Option Nat)} {t as : List Value} {w1 : ja_w} {z : Int32}  (e : code pc = js_cv lay ci j na n) (hs : st.drop na = .ref q :: t) (ha : .ref q :: (st.take na).reverse = as) (hl : lay[q]? = some (.inl (ci, fs))) (hb : Nat.ble (t.map fun v => v.category).sum 8 = true) (hc : C j as w (.inl (some (.int z))) w1) (h : ja_R code C r n L (.int z :: t) w1) : ja_R code C r pc L st w :=
  ja_sq e (by unfold js_cv; simp only [hs, hl, ja_bq]; exact ⟨hb, (some (.int z)), w1, ha ▸ hc, h⟩)
theorem jt_csI {code : Nat → ja_S} {C : ja_C} {r : ja_O × ja_w} {pc : Nat} {n : Nat} {L : ja_L} {st : List Value} {w : ja_w} {j na : Nat} {t as : List Value} {w1 : ja_w} {z : Int32}  (e : code pc = js_cs j na n) (hn : Nat.ble na st.length = true) (hs : st.drop na = t) (ha : (st.take na).reverse = as) (hb : Nat.ble (t.map fun v => v.category).sum 8 = true) (hc : C j as w (.inl (some (.int z))) w1) (h : ja_R code C r n L (.int z :: t) w1) : ja_R code C r pc L st w :=
  ja_sq e (by subst hs; exact ⟨hn, hb, (some (.int z)), w1, ha ▸ hc, h⟩)
theorem jt_cvJ {code : Nat → ja_S} {C : ja_C} {r : ja_O × ja_w} {pc : Nat} {n : Nat} {L : ja_L} {st : List Value} {w : ja_w} {lay : List ja_E} {ci j na q : Nat} {fs : List (Option Nat)} {t as : List Value} {w1 : ja_w} {z : Int64}  (e : code pc = js_cv lay ci j na n) (hs : st.drop na = .ref q :: t) (ha : .ref q :: (st.take na).reverse = as) (hl : lay[q]? = some (.inl (ci, fs))) (hb : Nat.ble (t.map fun v => v.category).sum 8 = true) (hc : C j as w (.inl (some (.long z))) w1) (h : ja_R code C r n L (.long z :: t) w1) : ja_R code C r pc L st w :=
  ja_sq e (by unfold js_cv; simp only [hs, hl, ja_bq]; exact ⟨hb, (some (.long z)), w1, ha ▸ hc, h⟩)
theorem jt_csJ {code : Nat → ja_S} {C : ja_C} {r : ja_O × ja_w} {pc : Nat} {n : Nat} {L : ja_L} {st : List Value} {w : ja_w} {j na : Nat} {t as : List Value} {w1 : ja_w} {z : Int64}  (e : code pc = js_cs j na n) (hn : Nat.ble na st.length = true) (hs : st.drop na = t) (ha : (st.take na).reverse = as) (hb : Nat.ble (t.map fun v => v.category).sum 8 = true) (hc : C j as w (.inl (some (.long z))) w1) (h : ja_R code C r n L (.long z :: t) w1) : ja_R code C r pc L st w :=
  ja_sq e (by subst hs; exact ⟨hn, hb, (some (.long z)), w1, ha ▸ hc, h⟩)
theorem jt_xvV {code : Nat → ja_S} {C : ja_C} {r : ja_O × ja_w} {pc : Nat} {n : Nat} {L : ja_L} {st : List Value} {w : ja_w} {lay : List ja_E} {ci j na q : Nat} {fs : List (Option Nat)} {t as : List Value} {w1 : ja_w}  (e : code pc = js_xv lay ci j na n) (hs : st.drop na = .ref q :: t) (ha : .ref q :: (st.take na).reverse = as) (hl : lay[q]? = some (.inl (ci, fs))) (hb : Nat.ble (t.map fun v => v.category).sum 8 = true) (hc : C j as w (.inl none) w1) (h : ja_R code C r n L t w1) : ja_R code C r pc L st w :=
  ja_sq e (by unfold js_xv; simp only [hs, hl, ja_bq]; exact ⟨hb, Or.inl ⟨none, w1, ha ▸ hc, h⟩⟩)
theorem jt_xsV {code : Nat → ja_S} {C : ja_C} {r : ja_O × ja_w} {pc : Nat} {n : Nat} {L : ja_L} {st : List Value} {w : ja_w} {j na : Nat} {t as : List Value} {w1 : ja_w}  (e : code pc = js_xs j na n) (hn : Nat.ble na st.length = true) (hs : st.drop na = t) (ha : (st.take na).reverse = as) (hb : Nat.ble (t.map fun v => v.category).sum 8 = true) (hc : C j as w (.inl none) w1) (h : ja_R code C r n L t w1) : ja_R code C r pc L st w :=
  ja_sq e (by subst hs; exact ⟨hn, hb, Or.inl ⟨none, w1, ha ▸ hc, h⟩⟩)
theorem jt_xvI {code : Nat → ja_S} {C : ja_C} {r : ja_O × ja_w} {pc : Nat} {n : Nat} {L : ja_L} {st : List Value} {w : ja_w} {lay : List ja_E} {ci j na q : Nat} {fs : List (Option Nat)} {t as : List Value} {w1 : ja_w} {z : Int32}  (e : code pc = js_xv lay ci j na n) (hs : st.drop na = .ref q :: t) (ha : .ref q :: (st.take na).reverse = as) (hl : lay[q]? = some (.inl (ci, fs))) (hb : Nat.ble (t.map fun v => v.category).sum 8 = true) (hc : C j as w (.inl (some (.int z))) w1) (h : ja_R code C r n L (.int z :: t) w1) : ja_R code C r pc L st w :=
  ja_sq e (by unfold js_xv; simp only [hs, hl, ja_bq]; exact ⟨hb, Or.inl ⟨(some (.int z)), w1, ha ▸ hc, h⟩⟩)
theorem jt_xsI {code : Nat → ja_S} {C : ja_C} {r : ja_O × ja_w} {pc : Nat} {n : Nat} {L : ja_L} {st : List Value} {w : ja_w} {j na : Nat} {t as : List Value} {w1 : ja_w} {z : Int32}  (e : code pc = js_xs j na n) (hn : Nat.ble na st.length = true) (hs : st.drop na = t) (ha : (st.take na).reverse = as) (hb : Nat.ble (t.map fun v => v.category).sum 8 = true) (hc : C j as w (.inl (some (.int z))) w1) (h : ja_R code C r n L (.int z :: t) w1) : ja_R code C r pc L st w :=
  ja_sq e (by subst hs; exact ⟨hn, hb, Or.inl ⟨(some (.int z)), w1, ha ▸ hc, h⟩⟩)
theorem jt_xvJ {code : Nat → ja_S} {C : ja_C} {r : ja_O × ja_w} {pc : Nat} {n : Nat} {L : ja_L} {st : List Value} {w : ja_w} {lay : List ja_E} {ci j na q : Nat} {fs : List (Option Nat)} {t as : List Value} {w1 : ja_w} {z : Int64}  (e : code pc = js_xv lay ci j na n) (hs : st.drop na = .ref q :: t) (ha : .ref q :: (st.take na).reverse = as) (hl : lay[q]? = some (.inl (ci, fs))) (hb : Nat.ble (t.map fun v => v.category).sum 8 = true) (hc : C j as w (.inl (some (.long z))) w1) (h : ja_R code C r n L (.long z :: t) w1) : ja_R code C r pc L st w :=
  ja_sq e (by unfold js_xv; simp only [hs, hl, ja_bq]; exact ⟨hb, Or.inl ⟨(some (.long z)), w1, ha ▸ hc, h⟩⟩)
theorem jt_xsJ {code : Nat → ja_S} {C : ja_C} {r : ja_O × ja_w} {pc : Nat} {n : Nat} {L : ja_L} {st : List Value} {w : ja_w} {j na : Nat} {t as : List Value} {w1 : ja_w} {z : Int64}  (e : code pc = js_xs j na n) (hn : Nat.ble na st.length = true) (hs : st.drop na = t) (ha : (st.take na).reverse = as) (hb : Nat.ble (t.map fun v => v.category).sum 8 = true) (hc : C j as w (.inl (some (.long z))) w1) (h : ja_R code C r n L (.long z :: t) w1) : ja_R code C r pc L st w :=
  ja_sq e (by subst hs; exact ⟨hn, hb, Or.inl ⟨(some (.long z)), w1, ha ▸ hc, h⟩⟩)
theorem jt_xvt {code : Nat → ja_S} {C : ja_C} {r : ja_O × ja_w} {pc : Nat} {n : Nat} {L : ja_L} {st : List Value} {w : ja_w} {lay : List ja_E} {ci j na q x : Nat} {fs : List (Option Nat)} {t as : List Value} {w1 : ja_w} (e : code pc = js_xv lay ci j na n) (hs : st.drop na = .ref q :: t) (ha : .ref q :: (st.take na).reverse = as) (hl : lay[q]? = some (.inl (ci, fs))) (hb : Nat.ble (t.map fun v => v.category).sum 8 = true) (hc : C j as w (.inr x) w1) (h : r = (.inr x, w1)) : ja_R code C r pc L st w :=
  ja_sq e (by unfold js_xv; simp only [hs, hl, ja_bq]; exact ⟨hb, Or.inr ⟨x, w1, ha ▸ hc, h⟩⟩)
theorem jt_xst {code : Nat → ja_S} {C : ja_C} {r : ja_O × ja_w} {pc : Nat} {n : Nat} {L : ja_L} {st : List Value} {w : ja_w} {j na x : Nat} {t as : List Value} {w1 : ja_w} (e : code pc = js_xs j na n) (hn : Nat.ble na st.length = true) (hs : st.drop na = t) (ha : (st.take na).reverse = as) (hb : Nat.ble (t.map fun v => v.category).sum 8 = true) (hc : C j as w (.inr x) w1) (h : r = (.inr x, w1)) : ja_R code C r pc L st w :=
  ja_sq e (by subst hs; exact ⟨hn, hb, Or.inr ⟨x, w1, ha ▸ hc, h⟩⟩)
/-- a call that may throw, caught: the handler's first instruction puts the exception into local k -/
def js_hv (lay : List ja_E) (ci j na n h k : Nat) : ja_S := fun C _ K L st w => match st.drop na with
  | .ref q :: t => match lay[q]? with
    | some (.inl (cj, _)) => match Nat.beq cj ci with
      | true => Nat.ble (t.map fun v => v.category).sum 8 = true ∧ ((∃ (v : Option Value) (w1 : ja_w), C j (.ref q :: (st.take na).reverse) w (.inl v) w1 ∧ K n L (v.toList ++ t) w1) ∨ ∃ w1 : ja_w, C j (.ref q :: (st.take na).reverse) w (.inr 0) w1 ∧ ja_nl L k = true ∧ K h (L.set k none) [] w1)
      | false => False
    | _ => False
  | _ => False
theorem jt_hvnV {code : Nat → ja_S} {C : ja_C} {r : ja_O × ja_w} {pc : Nat} {n : Nat} {L : ja_L} {st : List Value} {w : ja_w} {lay : List ja_E} {ci j na q h k : Nat} {fs : List (Option Nat)} {t as : List Value} {w1 : ja_w}  (e : code pc = js_hv lay ci j na n h k) (hs : st.drop na = .ref q :: t) (ha : .ref q :: (st.take na).reverse = as) (hl : lay[q]? = some (.inl (ci, fs))) (hb : Nat.ble (t.map fun v => v.category).sum 8 = true) (hc : C j as w (.inl none) w1) (hk : ja_R code C r n L t w1) : ja_R code C r pc L st w :=
  ja_sq e (by unfold js_hv; simp only [hs, hl, ja_bq]; exact ⟨hb, Or.inl ⟨none, w1, ha ▸ hc, hk⟩⟩)
theorem jt_hvnI {code : Nat → ja_S} {C : ja_C} {r : ja_O × ja_w} {pc : Nat} {n : Nat} {L : ja_L} {st : List Value} {w : ja_w} {lay : List ja_E} {ci j na q h k : Nat} {fs : List (Option Nat)} {t as : List Value} {w1 : ja_w} {z : Int32}  (e : code pc = js_hv lay ci j na n h k) (hs : st.drop na = .ref q :: t) (ha : .ref q :: (st.take na).reverse = as) (hl : lay[q]? = some (.inl (ci, fs))) (hb : Nat.ble (t.map fun v => v.category).sum 8 = true) (hc : C j as w (.inl (some (.int z))) w1) (hk : ja_R code C r n L (.int z :: t) w1) : ja_R code C r pc L st w :=
  ja_sq e (by unfold js_hv; simp only [hs, hl, ja_bq]; exact ⟨hb, Or.inl ⟨(some (.int z)), w1, ha ▸ hc, hk⟩⟩)
theorem jt_hv {code : Nat → ja_S} {C : ja_C} {r : ja_O × ja_w} {pc : Nat} {n : Nat} {L : ja_L} {st : List Value} {w : ja_w} {lay : List ja_E} {ci j na q h k : Nat} {fs : List (Option Nat)} {t as : List Value} {w1 : ja_w} (e : code pc = js_hv lay ci j na n h k) (hs : st.drop na = .ref q :: t) (ha : .ref q :: (st.take na).reverse = as) (hl : lay[q]? = some (.inl (ci, fs))) (hb : Nat.ble (t.map fun v => v.category).sum 8 = true) (hn : ja_nl L k = true) (hc : C j as w (.inr 0) w1) (hk : ja_R code C r h (L.set k none) [] w1) : ja_R code C r pc L st w :=
  ja_sq e (by unfold js_hv; simp only [hs, hl, ja_bq]; exact ⟨hb, Or.inr ⟨w1, ha ▸ hc, hn, hk⟩⟩)
theorem jt_thr {code : Nat → ja_S} {C : ja_C} {r : ja_O × ja_w} {pc : Nat} {L : ja_L} {w : ja_w} {x : Nat} (e : code pc = js_thr x) (h : r = (.inr x, w)) : ja_R code C r pc L [] w :=
  ja_sq e h
theorem jt_min {code : Nat → ja_S} {C : ja_C} {r : ja_O × ja_w} {pc : Nat} {n : Nat} {L : ja_L} {st : List Value} {w : ja_w} {x y : Int32} (e : code pc = js_min n) (hb : Nat.ble (st.map fun v => v.category).sum 8 = true) (h : ja_R code C r n L (.int (if y < x then y else x) :: st) w) : ja_R code C r pc L (.int y :: .int x :: st) w :=
  ja_sq e ⟨hb, h⟩
theorem jt_ret {code : Nat → ja_S} {C : ja_C} {r : ja_O × ja_w} {pc : Nat} {L : ja_L} {w : ja_w}  (e : code pc = js_ret) (h : r = (.inl none, w)) : ja_R code C r pc L [] w :=
  ja_sq e h
theorem jt_iret {code : Nat → ja_S} {C : ja_C} {r : ja_O × ja_w} {pc : Nat} {L : ja_L} {w : ja_w} {x : Int32} (e : code pc = js_iret) (h : r = (.inl (some (.int x)), w)) : ja_R code C r pc L [.int x] w :=
  ja_sq e h
theorem jt_zret {code : Nat → ja_S} {C : ja_C} {r : ja_O × ja_w} {pc : Nat} {L : ja_L} {w : ja_w} {x : Int32} (e : code pc = js_zret) (hz : x = 0 ∨ x = 1) (h : r = (.inl (some (.int x)), w)) : ja_R code C r pc L [.int x] w :=
  ja_sq e ⟨hz, h⟩
theorem jt_cret {code : Nat → ja_S} {C : ja_C} {r : ja_O × ja_w} {pc : Nat} {L : ja_L} {w : ja_w} {x : Int32} (e : code pc = js_cret) (hz : narrow .char (.int x) = .int x) (h : r = (.inl (some (.int x)), w)) : ja_R code C r pc L [.int x] w :=
  ja_sq e ⟨hz, h⟩
theorem jt_lret {code : Nat → ja_S} {C : ja_C} {r : ja_O × ja_w} {pc : Nat} {L : ja_L} {w : ja_w} {x : Int64} (e : code pc = js_lret) (h : r = (.inl (some (.long x)), w)) : ja_R code C r pc L [.long x] w :=
  ja_sq e h
