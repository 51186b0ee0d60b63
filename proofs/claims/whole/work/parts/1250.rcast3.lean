section
variable {ts : List pp_T} {f2 : Int32} {f1 : Nat → Int32} {d : Nat} {T : rq_A} {X : rq_X} {I A : ja_I} {J : ja_J} {s s1 s2 s3 : pp_S} {w : ja_w} {C C' : pp_C} {v : Nat}
theorem rk_n {c : Int32} (h : ¬ pp_at ts s = c) (c1 : c ≠ 1 := by decide) (c2 : c ≠ 2 := by decide) (c3 : c ≠ 3 := by decide) : ¬ rk (pp_at ts s) = c := fun e => h ((rk_o c1 c2 c3 _).mp e)
/-- UNARY at an operator -/
theorem rt_31p (hts : pp_ok ts) {b : Int32} (hw : rq ts f2 f1 ((31, b) :: T) X (I, A, J) s) (hl : T.length < 1190) (hk : pp_at ts s = 45 ∨ pp_at ts s = 42 ∨ pp_at ts s = 38 ∨ pp_at ts s = 33) (hx : pp_tk ts s = some (.inr (v, s1))) : rG (d + 3) (I, A, J) (fun w => rq ts f2 f1 ((28, 0) :: (rq_ps [(pp_68 (pp_at ts s), [])] ++ T)) X w s1) := by
  have h160 := hts.1
  have h0 := rq_pop hw
  have ho : pp_opens (pp_at ts s) = false := by rcases hk with h | h | h | h <;> (rw [h]; rfl)
  have hs : pp_shuts (pp_at ts s) = false := by rcases hk with h | h | h | h <;> (rw [h]; rfl)
  have e9 : (rpo I) 0 9 = nI (pq_pos s) := h0.2.2.1.1
  have lp : pq_pos s ≤ ts.length := h0.2.2.1.2.1
  have ek : A 2 ((rpo I) 0 9).toNatClampNeg = rk (pp_at ts s) := by
    rw [cn_cl e9 (by omega)]; exact h0.1.2.1 _ lp
  have v161 : vp_in ((rpo I) 0 9) 161 := cn_in e9 (by omega) (by omega)
  have fin : ∀ (T' : rq_A) (I1 A1 : ja_I) (J1 : ja_J), rq ts f2 f1 T' X (I1, A1, J1) s → rq ts f2 f1 T' X (ja_up I1 0 9 (I1 0 9 + 1), A1, J1) s1 := fun T' I1 A1 J1 h => rq_tk h hx ho hs
  rcases hk with h | h | h | h
  · have n42 : ¬ rk (pp_at ts s) = 42 := by rw [h]; decide
    have y45 : rk (pp_at ts s) = 45 := by rw [h]; rfl
    obtain ⟨I1, A1, J1, hE1, hw1⟩ := rl_11 (d := d) h0 (by omega) 36 126
    obtain ⟨I2, A2, J2, hE2, hw2⟩ := rl_11 (d := d) hw1 (by rw [List.length_cons]; omega) 28 0
    refine rt_31 (G := fun w => rq ts f2 f1 ((28, 0) :: (rq_ps [(pp_68 (pp_at ts s), [])] ++ T)) X w s1) hw (rP_of (G := fun w => rq ts f2 f1 ((28, 0) :: (rq_ps [(pp_68 (pp_at ts s), [])] ++ T)) X w s1) (cg_j ?_ (fun y h => er_57 (r := y) h)))
    refine cg_I (rl_13f hts h0 n42) (cg_t rfl (cg_I (rl_13t hts h0 y45) (cg_f (by decide) (cg_I (rl_13t hts h0 y45) (cg_f (by decide) (cg_V hE1 (cg_V hE2 (cg_r ⟨rfl, ?_⟩))))))))
    rw [h]
    exact fin _ _ _ _ hw2
  · have n45 : ¬ rk (pp_at ts s) = 45 := by rw [h]; decide
    have y42 : rk (pp_at ts s) = 42 := by rw [h]; rfl
    obtain ⟨I0, A0, J0, hE0, hw0⟩ := rl_11 (d := d) h0 (by omega) 37 0
    obtain ⟨I1, A1, J1, hE1, hw1⟩ := rl_11 (d := d) hw0 (by rw [List.length_cons]; omega) 36 64
    obtain ⟨I2, A2, J2, hE2, hw2⟩ := rl_11 (d := d) hw1 (by rw [List.length_cons, List.length_cons]; omega) 28 0
    refine rt_31 (G := fun w => rq ts f2 f1 ((28, 0) :: (rq_ps [(pp_68 (pp_at ts s), [])] ++ T)) X w s1) hw (rP_of (G := fun w => rq ts f2 f1 ((28, 0) :: (rq_ps [(pp_68 (pp_at ts s), [])] ++ T)) X w s1) (cg_j ?_ (fun y h => er_57 (r := y) h)))
    refine cg_I (rl_13t hts h0 y42) (cg_f (by decide) (cg_V hE0 (cg_I (rl_13f hts hw0 n45) (cg_t rfl (cg_I (rl_13t hts hw0 y42) (cg_f (by decide) (cg_I (rl_13f hts hw0 n45) (cg_t rfl (cg_I (rl_13t hts hw0 y42) (cg_f (by decide) (cg_V hE1 (cg_V hE2 (cg_r ⟨rfl, ?_⟩)))))))))))))
    rw [h]
    exact fin _ _ _ _ hw2
  · have n42 : ¬ rk (pp_at ts s) = 42 := by rw [h]; decide
    have n45 : ¬ rk (pp_at ts s) = 45 := by rw [h]; decide
    have y38 : rk (pp_at ts s) = 38 := by rw [h]; rfl
    obtain ⟨I1, A1, J1, hE1, hw1⟩ := rl_11 (d := d) h0 (by omega) 36 (rk (pp_at ts s))
    obtain ⟨I2, A2, J2, hE2, hw2⟩ := rl_11 (d := d) hw1 (by rw [List.length_cons]; omega) 28 0
    rw [← ek] at hE1
    refine rt_31 (G := fun w => rq ts f2 f1 ((28, 0) :: (rq_ps [(pp_68 (pp_at ts s), [])] ++ T)) X w s1) hw (rP_of (G := fun w => rq ts f2 f1 ((28, 0) :: (rq_ps [(pp_68 (pp_at ts s), [])] ++ T)) X w s1) (cg_j ?_ (fun y h => er_57 (r := y) h)))
    refine cg_I (rl_13f hts h0 n42) (cg_t rfl (cg_I (rl_13f hts h0 n45) (cg_t rfl (cg_I (rl_13f hts h0 n42) (cg_t rfl (cg_I (rl_13t hts h0 y38) (cg_f (by decide) (cg_I (rl_13f hts h0 n45) (cg_t rfl (cg_I (rl_13f hts h0 n42) (cg_t rfl (cg_a v161 (cg_V hE1 (cg_V hE2 (cg_r ⟨rfl, ?_⟩)))))))))))))))
    have := fin _ _ _ _ hw2
    rw [h] at this ⊢
    exact this
  · have n42 : ¬ rk (pp_at ts s) = 42 := by rw [h]; decide
    have n45 : ¬ rk (pp_at ts s) = 45 := by rw [h]; decide
    have n38 : ¬ rk (pp_at ts s) = 38 := by rw [h]; decide
    have y33 : rk (pp_at ts s) = 33 := by rw [h]; rfl
    obtain ⟨I1, A1, J1, hE1, hw1⟩ := rl_11 (d := d) h0 (by omega) 36 (rk (pp_at ts s))
    obtain ⟨I2, A2, J2, hE2, hw2⟩ := rl_11 (d := d) hw1 (by rw [List.length_cons]; omega) 28 0
    rw [← ek] at hE1
    refine rt_31 (G := fun w => rq ts f2 f1 ((28, 0) :: (rq_ps [(pp_68 (pp_at ts s), [])] ++ T)) X w s1) hw (rP_of (G := fun w => rq ts f2 f1 ((28, 0) :: (rq_ps [(pp_68 (pp_at ts s), [])] ++ T)) X w s1) (cg_j ?_ (fun y h => er_57 (r := y) h)))
    refine cg_I (rl_13f hts h0 n42) (cg_t rfl (cg_I (rl_13f hts h0 n45) (cg_t rfl (cg_I (rl_13f hts h0 n42) (cg_t rfl (cg_I (rl_13f hts h0 n38) (cg_t rfl (cg_I (rl_13t hts h0 y33) (cg_f (by decide) (cg_I (rl_13f hts h0 n45) (cg_t rfl (cg_I (rl_13f hts h0 n42) (cg_t rfl (cg_a v161 (cg_V hE1 (cg_V hE2 (cg_r ⟨rfl, ?_⟩)))))))))))))))))
    have := fin _ _ _ _ hw2
    rw [h] at this ⊢
    exact this
/-- UNARY where no operator stands -/
theorem rt_31e (hts : pp_ok ts) {b : Int32} (hw : rq ts f2 f1 ((31, b) :: T) X (I, A, J) s) (hl : T.length < 1190) (h45 : ¬ pp_at ts s = 45) (h42 : ¬ pp_at ts s = 42) (h38 : ¬ pp_at ts s = 38) (h33 : ¬ pp_at ts s = 33) (h12 : ¬ pp_at ts s = 12) : rG (d + 3) (I, A, J) (fun w => rq ts f2 f1 ((33, 0) :: T) X w s) := by
  have h0 := rq_pop hw
  obtain ⟨I1, A1, J1, hE1, hw1⟩ := rl_11 (d := d) h0 (by omega) 33 0
  refine rt_31 (G := fun w => rq ts f2 f1 ((33, 0) :: T) X w s) hw (rP_of (G := fun w => rq ts f2 f1 ((33, 0) :: T) X w s) (cg_j ?_ (fun y h => er_57 (r := y) h)))
  exact cg_I (rl_13f hts h0 (rk_n h42)) (cg_t rfl (cg_I (rl_13f hts h0 (rk_n h45)) (cg_t rfl (cg_I (rl_13f hts h0 (rk_n h42)) (cg_t rfl (cg_I (rl_13f hts h0 (rk_n h38)) (cg_t rfl (cg_I (rl_13f hts h0 (rk_n h33)) (cg_t rfl (cg_I (rl_13f hts h0 (rk_n h12)) (cg_t rfl (cg_V hE1 (cg_r ⟨rfl, hw1⟩)))))))))))))
/-- is a type's name here -/
def rtn (ts : List pp_T) (s : pp_S) (b : Bool) : Prop := (pp_at ts s = 40 → pp_ib ts s (pq_pos s + 1) = some b) ∧ (¬ pp_at ts s = 40 → b = false)
theorem rl_51 (hts : pp_ok ts) (hw : rq ts f2 f1 T X (I, A, J) s) {b : Bool} (h : rtn ts s b) : er_E (d + 5) 51 [.ref 0] (I, A, J) (.inl (some (.int (bI b)))) (I, A, J) := by
  by_cases h40 : pp_at ts s = 40
  · exact rl_51t hts hw h40 (h.1 h40)
  · rw [h.2 h40]
    exact rl_51f hts hw h40
/-- UNARY at sizeof, no type's name behind it -/
theorem rt_31z (hts : pp_ok ts) {b : Int32} (hw : rq ts f2 f1 ((31, b) :: T) X (I, A, J) s) (hl : T.length < 1190) (h12 : pp_at ts s = 12) (hx : pp_tk ts s = some (.inr (v, s1))) (hn : rtn ts s1 false) : rG (d + 7) (I, A, J) (fun w => rq ts f2 f1 ((31, 0) :: (36, 36) :: T) X w s1) := by
  have h0 := rq_pop hw
  have h1 := rq_tk h0 hx (by rw [h12]; rfl) (by rw [h12]; rfl)
  obtain ⟨I1, A1, J1, hE1, hw1⟩ := rl_11 (d := d + 4) h1 (by omega) 36 36
  obtain ⟨I2, A2, J2, hE2, hw2⟩ := rl_11 (d := d + 4) hw1 (by rw [List.length_cons]; omega) 31 0
  refine rt_31 (G := fun w => rq ts f2 f1 ((31, 0) :: (36, 36) :: T) X w s1) hw (rP_of (G := fun w => rq ts f2 f1 ((31, 0) :: (36, 36) :: T) X w s1) (cg_j ?_ (fun y h => er_57 (r := y) h)))
  have n : ∀ c : Int32, c ≠ 12 → ¬ rk (pp_at ts s) = c := fun c hc e => hc (by rw [← e, h12]; rfl)
  exact cg_I (rl_13f hts h0 (n 42 (by decide))) (cg_t rfl (cg_I (rl_13f hts h0 (n 45 (by decide))) (cg_t rfl (cg_I (rl_13f hts h0 (n 42 (by decide))) (cg_t rfl (cg_I (rl_13f hts h0 (n 38 (by decide))) (cg_t rfl (cg_I (rl_13f hts h0 (n 33 (by decide))) (cg_t rfl (cg_I (rl_13t hts h0 (by rw [h12]; rfl)) (cg_f (by decide) (cg_I (rl_51 hts h1 hn) (cg_t rfl (cg_V hE1 (cg_V hE2 (cg_r ⟨rfl, hw2⟩))))))))))))))))
/-- UNARY at sizeof, a type's name behind it -/
theorem rt_31t (hts : pp_ok ts) {b : Int32} {st nm fs pl : Int32} {wl : List Int32} (hw : rq ts f2 f1 ((31, b) :: T) (st, nm, fs, wl, pl) (I, A, J) s) (hl : T.length < 1190) (h12 : pp_at ts s = 12) (hx : pp_tk ts s = some (.inr (v, s1))) (hn : rtn ts s1 true) {x : Nat ⊕ (Nat × pp_S)} (hy : (pp_b (pp_tk ts s1) fun _ s => pp_base ts (pp_z s)) = some x) : rG (d + 8) (I, A, J) (rO f2 f1 x (fun b s2 w => rq ts f2 f1 ((6, 2) :: (32, pp_bv ts s2 b) :: T) (0, -1, fs, wl, pl) w s2)) := by
  have h0 := rq_pop hw
  have h1 := rq_tk h0 hx (by rw [h12]; rfl) (by rw [h12]; rfl)
  have h40 : pp_at ts s1 = 40 := Decidable.byContradiction fun c => absurd (hn.2 c) (by decide)
  obtain ⟨I1, A1, J1, hE1, hw1⟩ := rl_52 (d := d) (a := 32) hts h1 hl h40 hy
  refine rt_31 (G := rO f2 f1 x (fun b s2 w => rq ts f2 f1 ((6, 2) :: (32, pp_bv ts s2 b) :: T) (0, -1, fs, wl, pl) w s2)) hw (rP_of (G := rO f2 f1 x (fun b s2 w => rq ts f2 f1 ((6, 2) :: (32, pp_bv ts s2 b) :: T) (0, -1, fs, wl, pl) w s2)) (cg_j ?_ (fun y h => er_57 (r := y) h)))
  have n : ∀ c : Int32, c ≠ 12 → ¬ rk (pp_at ts s) = c := fun c hc e => hc (by rw [← e, h12]; rfl)
  exact cg_I (rl_13f hts h0 (n 42 (by decide))) (cg_t rfl (cg_I (rl_13f hts h0 (n 45 (by decide))) (cg_t rfl (cg_I (rl_13f hts h0 (n 42 (by decide))) (cg_t rfl (cg_I (rl_13f hts h0 (n 38 (by decide))) (cg_t rfl (cg_I (rl_13f hts h0 (n 33 (by decide))) (cg_t rfl (cg_I (rl_13t hts h0 (by rw [h12]; rfl)) (cg_f (by decide) (cg_I (rl_51 hts h1 hn) (cg_f (by decide) (cg_V hE1 (cg_r ⟨rfl, hw1⟩)))))))))))))))
/-- CAST, no type's name -/
theorem rt_28b (hts : pp_ok ts) {b : Int32} (hw : rq ts f2 f1 ((28, b) :: T) X (I, A, J) s) (hl : T.length < 1190) (hn : rtn ts s false) : rG (d + 7) (I, A, J) (fun w => rq ts f2 f1 ((31, 0) :: T) X w s) := by
  have h0 := rq_pop hw
  obtain ⟨I1, A1, J1, hE1, hw1⟩ := rl_11 (d := d + 4) h0 (by omega) 31 0
  exact rt_28 (G := fun w => rq ts f2 f1 ((31, 0) :: T) X w s) hw ⟨_, _, _, er_53 (r := (_, _)) ⟨_, _, _, _, rl_51 hts h0 hn, fun _ => ⟨_, _, _, hE1, rfl⟩, fun n => absurd rfl n⟩, hw1⟩
/-- CAST, a type's name -/
theorem rt_28a (hts : pp_ok ts) {b : Int32} {st nm fs pl : Int32} {wl : List Int32} (hw : rq ts f2 f1 ((28, b) :: T) (st, nm, fs, wl, pl) (I, A, J) s) (hl : T.length < 1180) (hn : rtn ts s true) {x : Nat ⊕ (Nat × pp_S)} (hy : (pp_b (pp_tk ts s) fun _ s => pp_base ts (pp_z s)) = some x) : rG (d + 8) (I, A, J) (rO f2 f1 x (fun b s2 w => rq ts f2 f1 ((6, 2) :: (29, pp_bv ts s2 b) :: (28, 0) :: (30, 0) :: T) (0, -1, fs, wl, pl) w s2)) := by
  have h0 := rq_pop hw
  have h40 : pp_at ts s = 40 := Decidable.byContradiction fun c => absurd (hn.2 c) (by decide)
  obtain ⟨I1, A1, J1, hE1, hw1⟩ := rl_11 (d := d + 5) h0 (by omega) 30 0
  obtain ⟨I2, A2, J2, hE2, hw2⟩ := rl_11 (d := d + 5) hw1 (by rw [List.length_cons]; omega) 28 0
  obtain ⟨I3, A3, J3, hE3, hw3⟩ := rl_52 (d := d) (a := 29) hts hw2 (by rw [List.length_cons, List.length_cons]; omega) h40 hy
  exact rt_28 (G := rO f2 f1 x (fun b s2 w => rq ts f2 f1 ((6, 2) :: (29, pp_bv ts s2 b) :: (28, 0) :: (30, 0) :: T) (0, -1, fs, wl, pl) w s2)) hw ⟨_, _, _, er_53 (r := (_, _)) ⟨_, _, _, _, rl_51 hts h0 hn, fun n => absurd n (by decide), fun _ => ⟨_, _, _, hE1, _, _, _, hE2, _, _, _, hE3, rfl⟩⟩, hw3⟩
/-- sayType where it is broken -/
theorem rl_30b {p a b c : Nat} : ∀ (m i : Nat) (I A : ja_I) (J : ja_J) (n c' : Nat), i + m = n → I 0 30 = nI n → n ≤ 700 → c' + m ≤ c → c ≤ 3900 → rb f2 f1 p (I, A, J) → rbn a b c' (I, A, J) → ∃ y, ja_R (ja_code tr_30) (er_E (d + 1)) y 2 [some (.ref 0), some (.int (nI i))] [] (I, A, J) ∧ rP (fun w => rb f2 f1 p w ∧ rbn a b c w) y := by
  intro m
  induction m with
  | zero =>
    intro i I A J n c' hi e30 hn hc hc2 hb hbn
    refine cg_j (cg_t (by rw [e30]; exact nI_le (by omega) (by omega)) (cg_r ⟨rfl, hb, hbn.1, hbn.2.1, ?_⟩)) (fun y h => br_30_2 h)
    obtain ⟨k, e, l⟩ := hbn.2.2
    exact ⟨k, e, by omega⟩
  | succ m ih =>
    intro i I A J n c' hi e30 hn hc hc2 hb hbn
    obtain ⟨k, e, l⟩ := hbn.2.2
    have e' : I 0 38 = nI k := e
    refine cg_j (cg_f (by rw [e30]; exact nI_ge (by omega) (by omega)) (cg_a (vp_in_nI (by omega) (by omega)) (cg_V (er_26 (r := (_, _)) ⟨cn_in e' (by omega) (by omega), rfl⟩) ?_))) (fun y h => br_30_2 h)
    rw [nI_1]
    refine ih (i + 1) _ _ J n (c' + 1) (by omega) e30 hn (by omega) hc2 hb ⟨hbn.1, hbn.2.1, ⟨k + 1, ?_, by omega⟩⟩
    show I 0 38 + 1 = nI (k + 1)
    rw [e', nI_1]
/-- SIZE_TYPE -/
theorem rl_56 (hts : pp_ok ts) {st nm fs pl : Int32} {wl : List Int32} {t : Nat} (hw : rq ts f2 f1 T (st, nm, fs, wl, pl) (I, A, J) s) (hwb : pp_wb ts t s = some (.inr (v, s1))) {x : Nat ⊕ (Nat × pp_S)} (hx : (pp_b (pp_ex ts 41 s1) fun _ s => pp_pf (91 :: (pq_sig s ++ [93, 36])) s) = some x) : ∃ (I1 A1 : ja_I) (J1 : ja_J), er_E (d + 4) 56 [.ref 0, .int (pp_bv ts s t)] (I, A, J) (.inl none) (I1, A1, J1) ∧ rO f2 f1 x (fun _ s2 w => rq ts f2 f1 T (st, nm, fs, wl, 0) w s2) (I1, A1, J1) := by
  obtain ⟨I1, A1, J1, hE1, hw1⟩ := rl_25 (d := d + 1) hts hw hwb
  rcases pp_bE hx with ⟨p, hr, hp⟩ | ⟨v2, s2, hr, hk⟩
  · obtain ⟨I2, A2, J2, hE2, hw2⟩ := rl_16 (d := d + 1) hts hw1 (k := 41) (f := 1) (Or.inl ⟨rfl, rfl, rfl⟩) rfl hr
    obtain ⟨rfl, e⟩ := hw2
    subst hp
    cases e
    obtain ⟨b0, n0⟩ := rb_of hw1
    have e30 : (rbk I1) 0 30 = nI (pq_sig s1).length := hw1.2.2.2.2.2.2.1.1
    have l1 : (pq_sig s1).length ≤ 640 := Nat.le_trans hw1.2.2.2.2.2.2.1.2.1 hw1.2.2.2.2.2.2.1.2.2.1
    obtain ⟨k, ek, lk⟩ := n0.2.2
    have ek' : (rbk I1) 0 38 = nI k := ek
    have hE3 : er_E (d + 3) 26 [.ref 0, .int 91] (rbk I1, A1, J1) (.inl none) (ja_up (rbk I1) 0 38 ((rbk I1) 0 38 + 1), ja_up A1 20 ((rbk I1) 0 38).toNatClampNeg 91, J1) := er_26 (r := (_, _)) ⟨cn_in ek' (by omega) (by omega), rfl⟩
    have n3 : rbn T.length 640 641 (ja_up (rbk I1) 0 38 ((rbk I1) 0 38 + 1), ja_up A1 20 ((rbk I1) 0 38).toNatClampNeg 91, J1) := ⟨n0.1, n0.2.1, ⟨k + 1, by show (rbk I1) 0 38 + 1 = _; rw [ek', nI_1], by omega⟩⟩
    obtain ⟨I4, A4, J4, hE4, b4, n4⟩ := rP_of (G := fun w => rb f2 f1 (pq_pos s1) w ∧ rbn T.length 640 1400 w) (cg_j (rl_30b (d := d + 1) (pq_sig s1).length 0 (ja_up (rbk I1) 0 38 ((rbk I1) 0 38 + 1)) (ja_up A1 20 ((rbk I1) 0 38).toNatClampNeg 91) J1 (pq_sig s1).length 641 (by omega) e30 (by omega) (by omega) (by omega) b0 n3) (fun y h => er_30 (r := y) h))
    obtain ⟨I5, A5, J5, hE5, b5, n5⟩ := rl_26b (d := d + 2) b4 n4 (by omega) 93
    obtain ⟨I6, A6, J6, hE6, b6, n6⟩ := rl_26b (d := d + 2) b5 n5 (by omega) 36
    exact ⟨_, _, _, er_56 (r := (_, _)) ⟨_, _, _, hE1, _, _, _, hE2, _, _, _, hE3, _, _, _, hE4, _, _, _, hE5, _, _, _, hE6, rfl⟩, b6⟩
  · obtain ⟨I2, A2, J2, hE2, hw2⟩ := rl_16 (d := d + 1) hts hw1 (k := 41) (f := 1) (Or.inl ⟨rfl, rfl, rfl⟩) rfl hr
    have hw2' : rq ts f2 f1 T (st, nm, fs, wl, pl) (I2, A2, J2) s2 := hw2
    rw [pp_pf_c] at hk
    rcases pp_bE hk with ⟨p, hr3, hp⟩ | ⟨v3, s3, hr3, hk3⟩
    · exact absurd hr3 (pp_pf_n _ _ _)
    · obtain ⟨I3, A3, J3, ⟨hE3, _⟩, hw3⟩ := rl_26 (d := d + 2) hw2' hr3
      rw [pp_pf_a] at hk3
      rcases pp_bE hk3 with ⟨p, hr4, hp⟩ | ⟨v4, s4, hr4, hk4⟩
      · exact absurd hr4 (pp_pf_n _ _ _)
      · have es : pq_sig s3 = pq_sig s2 := by
          obtain ⟨pos, op, cc, tn, tl, wt, pn, scs, sd, sig, frm, rl, mn, dc, fc⟩ := s2
          simp only [pp_pf] at hr3
          split at hr3
          · cases hr3; rfl
          · cases hr3
        rw [← es] at hr4
        obtain ⟨I4, A4, J4, hE4, hw4⟩ := rl_30 (d := d + 1) hw3 hr4
        rw [pp_pf_c] at hk4
        rcases pp_bE hk4 with ⟨p, hr5, hp⟩ | ⟨v5, s5, hr5, hk5⟩
        · exact absurd hr5 (pp_pf_n _ _ _)
        · obtain ⟨I5, A5, J5, ⟨hE5, _⟩, hw5⟩ := rl_26 (d := d + 2) hw4 hr5
          cases x with
          | inl p => exact absurd hk5 (pp_pf_n _ _ _)
          | inr z =>
            obtain ⟨I6, A6, J6, ⟨hE6, _⟩, hw6⟩ := rl_26 (d := d + 2) hw5 hk5
            exact ⟨_, _, _, er_56 (r := (_, _)) ⟨_, _, _, hE1, _, _, _, hE2, _, _, _, hE3, _, _, _, hE4, _, _, _, hE5, _, _, _, hE6, rfl⟩, rq_pl hw6 0⟩
end
