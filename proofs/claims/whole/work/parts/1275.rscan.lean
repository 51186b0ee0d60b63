/-! The reference finds the tokens. -/
def r10w (C : ja_C) (r : ja_O × ja_w) (I A : ja_I) (J : ja_J) (b1 b2 : Int32) : Prop := ∃ (z1 : Int64) (I1 A1 : ja_I) (J1 : ja_J), C 7 [.ref 0, .int b2, .int (b1 - b2)] (I, A, J) (.inl (some (.long z1))) (I1, A1, J1) ∧ (∃ (z2 : Int32) (I2 A2 : ja_I) (J2 : ja_J), C 8 [.long z1] (I1, A1, J1) (.inl (some (.int z2))) (I2, A2, J2) ∧ (∃ (I3 A3 : ja_I) (J3 : ja_J), C 9 [.ref 0, .int z2, .int b2, .int (b1 - b2)] (I2, A2, J2) (.inl (none)) (I3, A3, J3) ∧ ((((I3 0 2) ≤ b1) → ja_R (ja_code tr_10) C r 7 [some (.ref 0), some (.int b1), none, none] [] (I3, A3, J3)) ∧ (¬ ((I3 0 2) ≤ b1) → (((b1 - b2) = 8) → vp_in b1 160 ∧ (∃ (z4 : Int32) (I4 A4 : ja_I) (J4 : ja_J), C 4 [.int (A3 1 b1.toNatClampNeg)] (I3, A3, J3) (.inl (some (.int z4))) (I4, A4, J4) ∧ (((z4 = 0) → vp_in b1 160 ∧ (∃ (z5 : Int32) (I5 A5 : ja_I) (J5 : ja_J), C 5 [.int (A4 1 b1.toNatClampNeg)] (I4, A4, J4) (.inl (some (.int z5))) (I5, A5, J5) ∧ (((z5 = 0) → ja_R (ja_code tr_10) C r 7 [some (.ref 0), some (.int b1), none, none] [] (I5, A5, J5)) ∧ (¬ (z5 = 0) → ∃ (I6 A6 : ja_I) (J6 : ja_J), C 9 [.ref 0, .int 3, .int b1, .int 1] (I5, A5, J5) (.inl (none)) (I6, A6, J6) ∧ (ja_R (ja_code tr_10) C r 7 [some (.ref 0), some (.int (b1 + 1)), none, none] [] (I6, A6, J6)))))) ∧ (¬ (z4 = 0) → ∃ (I7 A7 : ja_I) (J7 : ja_J), C 9 [.ref 0, .int 3, .int b1, .int 1] (I4, A4, J4) (.inl (none)) (I7, A7, J7) ∧ (ja_R (ja_code tr_10) C r 7 [some (.ref 0), some (.int (b1 + 1)), none, none] [] (I7, A7, J7)))))) ∧ (¬ ((b1 - b2) = 8) → ja_R (ja_code tr_10) C r 7 [some (.ref 0), some (.int b1), none, none] [] (I3, A3, J3))))))
def r10n (C : ja_C) (r : ja_O × ja_w) (I A : ja_I) (J : ja_J) (b1 b2 : Int32) : Prop := ∃ (I1 A1 : ja_I) (J1 : ja_J), C 9 [.ref 0, .int 2, .int b2, .int (b1 - b2)] (I, A, J) (.inl (none)) (I1, A1, J1) ∧ ((((I1 0 2) ≤ b1) → ja_R (ja_code tr_10) C r 7 [some (.ref 0), some (.int b1), none, none] [] (I1, A1, J1)) ∧ (¬ ((I1 0 2) ≤ b1) → (((b1 - b2) = 4) → vp_in b1 160 ∧ (∃ (z2 : Int32) (I2 A2 : ja_I) (J2 : ja_J), C 5 [.int (A1 1 b1.toNatClampNeg)] (I1, A1, J1) (.inl (some (.int z2))) (I2, A2, J2) ∧ (((z2 = 0) → ja_R (ja_code tr_10) C r 7 [some (.ref 0), some (.int b1), none, none] [] (I2, A2, J2)) ∧ (¬ (z2 = 0) → ∃ (I3 A3 : ja_I) (J3 : ja_J), C 9 [.ref 0, .int 3, .int b1, .int 1] (I2, A2, J2) (.inl (none)) (I3, A3, J3) ∧ (ja_R (ja_code tr_10) C r 7 [some (.ref 0), some (.int (b1 + 1)), none, none] [] (I3, A3, J3)))))) ∧ (¬ ((b1 - b2) = 4) → ja_R (ja_code tr_10) C r 7 [some (.ref 0), some (.int b1), none, none] [] (I1, A1, J1))))
def rcR (a1 a2 a3 a4 a5 a6 : Nat → Int32) : sk_T → Prop
  | [] => True
  | x :: l => a2 l.length = rk (fk x) ∧ (∃ fr, a3 l.length = nI fr ∧ a4 l.length = nI x.2.length ∧ fr + x.2.length ≤ 160 ∧ cq_h a1 fr (x.2.map nI)) ∧ a5 l.length = 0 ∧ a6 l.length = -1 ∧ rcR a1 a2 a3 a4 a5 a6 l
theorem rcR_u {a1 a2 a3 a4 a5 a6 : Nat → Int32} {n : Nat} {x2 x3 x4 x5 x6 : Int32} : ∀ {l : sk_T}, l.length ≤ n → rcR a1 a2 a3 a4 a5 a6 l → rcR a1 (fun i => cond (Nat.beq i n) x2 (a2 i)) (fun i => cond (Nat.beq i n) x3 (a3 i)) (fun i => cond (Nat.beq i n) x4 (a4 i)) (fun i => cond (Nat.beq i n) x5 (a5 i)) (fun i => cond (Nat.beq i n) x6 (a6 i)) l
  | [], _, _ => trivial
  | q :: l, hn, h => by
    have hn' : l.length + 1 ≤ n := hn
    have e : Nat.beq l.length n = false := by exact nb_f (by omega)
    obtain ⟨h1, ⟨fr, h2, h3, h4, h5⟩, h6, h7, h8⟩ := h
    refine ⟨?_, ⟨fr, ?_, ?_, h4, h5⟩, ?_, ?_, rcR_u (by omega) h8⟩
    · show cond (Nat.beq l.length n) x2 _ = _
      rw [e]; exact h1
    · show cond (Nat.beq l.length n) x3 _ = _
      rw [e]; exact h2
    · show cond (Nat.beq l.length n) x4 _ = _
      rw [e]; exact h3
    · show cond (Nat.beq l.length n) x5 _ = _
      rw [e]; exact h6
    · show cond (Nat.beq l.length n) x6 _ = _
      rw [e]; exact h7
abbrev tq (f2 : Int32) (f1 : Nat → Int32) (l : sk_T) (w : ja_w) : Prop := (w.1 0 3 = nI l.length ∧ rcR (w.2.1 1) (w.2.1 2) (w.2.1 3) (w.2.1 4) (w.2.1 5) (w.2.1 6) l) ∧ w.1 0 2 = f2 ∧ w.2.1 1 = f1 ∧ w.1 0 0 = 0
abbrev tE (f2 : Int32) (f1 : Nat → Int32) (l : sk_T) (w : ja_w) : Prop := tq f2 f1 l w ∧ w.2.1 2 l.length = 0
section
variable {f2 : Int32} {f1 : Nat → Int32} {d c : Nat} {l : sk_T} {I A : ja_I} {J : ja_J} {k : Int32} {u : List Nat} {w : ja_w}
/-- token -/
theorem tq_9 (hw : tq f2 f1 l (I, A, J)) (hl : l.length < 161) {k : Int32} {u : List Nat} {fr : Nat} {z : Int32} (hz : z = rk (fk (k, u))) (hf : fr + u.length ≤ 160) (hh : cq_h f1 fr (u.map nI)) : ∃ (I1 A1 : ja_I) (J1 : ja_J), er_E (d + 1) 9 [.ref 0, .int z, .int (nI fr), .int (nI u.length)] (I, A, J) (.inl none) (I1, A1, J1) ∧ tq f2 f1 ((k, u) :: l) (I1, A1, J1) := by
  have e : I 0 3 = nI l.length := hw.1.1
  have ek : (I 0 3).toNatClampNeg = l.length := cn_cl e (by omega)
  have v : vp_in (I 0 3) 161 := cn_in e (by omega) (by omega)
  have e1 : A 1 = f1 := hw.2.2.1
  refine ⟨_, _, _, er_9 (r := (_, _)) ⟨v, v, v, v, v, rfl⟩, ⟨?_, ?_⟩, hw.2.1, hw.2.2.1, hw.2.2.2⟩
  · show I 0 3 + 1 = nI (l.length + 1)
    rw [e, nI_1]
  · show rcR (A 1) (fun i => cond (Nat.beq i (I 0 3).toNatClampNeg) z (A 2 i)) (fun i => cond (Nat.beq i (I 0 3).toNatClampNeg) (nI fr) (A 3 i)) (fun i => cond (Nat.beq i (I 0 3).toNatClampNeg) (nI u.length) (A 4 i)) (fun i => cond (Nat.beq i (I 0 3).toNatClampNeg) 0 (A 5 i)) (fun i => cond (Nat.beq i (I 0 3).toNatClampNeg) (-1) (A 6 i)) ((k, u) :: l)
    rw [ek]
    refine ⟨?_, ⟨fr, ?_, ?_, hf, by rw [e1]; exact hh⟩, ?_, ?_, rcR_u (Nat.le_refl _) hw.1.2⟩
    · show cond (Nat.beq l.length l.length) z _ = _
      rw [Nat.beq_refl]; exact hz
    · show cond (Nat.beq l.length l.length) _ _ = _
      rw [Nat.beq_refl]; rfl
    · show cond (Nat.beq l.length l.length) _ _ = _
      rw [Nat.beq_refl]; rfl
    · show cond (Nat.beq l.length l.length) _ _ = _
      rw [Nat.beq_refl]; rfl
    · show cond (Nat.beq l.length l.length) _ _ = _
      rw [Nat.beq_refl]; rfl
/-- the end's token -/
theorem tq_e (hw : tq f2 f1 l (I, A, J)) (hl : l.length < 161) (x : Int32) : ∃ (I1 A1 : ja_I) (J1 : ja_J), er_E (d + 1) 9 [.ref 0, .int 0, .int x, .int 0] (I, A, J) (.inl none) (I1, A1, J1) ∧ tE f2 f1 l (ja_up I1 0 3 (I1 0 3 - 1), A1, J1) := by
  have e : I 0 3 = nI l.length := hw.1.1
  have ek : (I 0 3).toNatClampNeg = l.length := cn_cl e (by omega)
  have v : vp_in (I 0 3) 161 := cn_in e (by omega) (by omega)
  refine ⟨_, _, _, er_9 (r := (_, _)) ⟨v, v, v, v, v, rfl⟩, ⟨⟨?_, ?_⟩, hw.2.1, hw.2.2.1, hw.2.2.2⟩, ?_⟩
  · show I 0 3 + 1 - 1 = nI l.length
    rw [e, nI_1, nI_pred]
  · show rcR (A 1) (fun i => cond (Nat.beq i (I 0 3).toNatClampNeg) 0 (A 2 i)) (fun i => cond (Nat.beq i (I 0 3).toNatClampNeg) x (A 3 i)) (fun i => cond (Nat.beq i (I 0 3).toNatClampNeg) 0 (A 4 i)) (fun i => cond (Nat.beq i (I 0 3).toNatClampNeg) 0 (A 5 i)) (fun i => cond (Nat.beq i (I 0 3).toNatClampNeg) (-1) (A 6 i)) l
    rw [ek]
    exact rcR_u (Nat.le_refl _) hw.1.2
  · show cond (Nat.beq l.length (I 0 3).toNatClampNeg) 0 _ = 0
    rw [ek, Nat.beq_refl]; rfl
theorem rl_4 {c : Int32} : er_E (d + 1) 4 [.int c] w (.inl (some (.int (bI (isL c))))) w := by
  obtain ⟨I, A, J⟩ := w
  unfold isL
  refine er_4 (r := (_, _)) ⟨fun h => ?_, fun h => ⟨fun h2 => ?_, fun h2 => ?_⟩⟩
  · rw [decide_eq_false (show ¬ (97 : Int32) ≤ c from Int32.not_le.mpr h)]; rfl
  · rw [decide_eq_true (show (97 : Int32) ≤ c from Int32.not_lt.mp h), decide_eq_false (show ¬ c ≤ (122 : Int32) from Int32.not_le.mpr h2)]; rfl
  · rw [decide_eq_true (show (97 : Int32) ≤ c from Int32.not_lt.mp h), decide_eq_true (show c ≤ (122 : Int32) from Int32.not_lt.mp h2)]; rfl
theorem rl_5 {c : Int32} : er_E (d + 1) 5 [.int c] w (.inl (some (.int (bI (isD c))))) w := by
  obtain ⟨I, A, J⟩ := w
  unfold isD
  refine er_5 (r := (_, _)) ⟨fun h => ?_, fun h => ⟨fun h2 => ?_, fun h2 => ?_⟩⟩
  · rw [decide_eq_false (show ¬ (48 : Int32) ≤ c from Int32.not_le.mpr h)]; rfl
  · rw [decide_eq_true (show (48 : Int32) ≤ c from Int32.not_lt.mp h), decide_eq_false (show ¬ c ≤ (57 : Int32) from Int32.not_le.mpr h2)]; rfl
  · rw [decide_eq_true (show (48 : Int32) ≤ c from Int32.not_lt.mp h), decide_eq_true (show c ≤ (57 : Int32) from Int32.not_lt.mp h2)]; rfl
/-- isSign -/
def isS (c : Int32) : Bool := if c < 40 then (c == 38 || c == 33) else if c ≤ 45 then true else (c == 47 || c == 91 || c == 93 || c == 123 || c == 125 || c == 59 || c == 61 || c == 60)
theorem rl_6 {m : Nat} (hm : m < 128) : er_E (d + 1) 6 [.int (nI m)] w (.inl (some (.int (bI (isS (nI m)))))) w := by
  obtain ⟨I, A, J⟩ := w
  have key : ∀ m, m < 128 → isS (nI m) = decide (nI m < 40 ∧ (nI m = 38 ∨ nI m = 33) ∨ ¬ nI m < 40 ∧ (nI m ≤ 45 ∨ nI m = 47 ∨ nI m = 91 ∨ nI m = 93 ∨ nI m = 123 ∨ nI m = 125 ∨ nI m = 59 ∨ nI m = 61 ∨ nI m = 60)) := by decide +kernel
  have big : ∀ m, m < 128 → nI m < 40 → nI m = 47 ∨ nI m = 91 ∨ nI m = 93 ∨ nI m = 123 ∨ nI m = 125 ∨ nI m = 59 ∨ nI m = 61 ∨ nI m = 60 → False := by decide +kernel
  have sml : ∀ m, m < 128 → ¬ nI m < 40 → nI m = 38 ∨ nI m = 33 → False := by decide +kernel
  have h := key m hm
  have hb := big m hm
  have hs := sml m hm
  generalize nI m = c at h hb hs
  have e1 : ∀ (p : Prop) [Decidable p], isS c = decide p → p → ((.inl (some (.int (bI (isS c)))), (I, A, J)) : ja_O × ja_w) = (.inl (some (.int 1)), (I, A, J)) := fun p _ e hp => by rw [e, decide_eq_true hp]; rfl
  have e0 : ∀ (p : Prop) [Decidable p], isS c = decide p → ¬ p → ((.inl (some (.int (bI (isS c)))), (I, A, J)) : ja_O × ja_w) = (.inl (some (.int 0)), (I, A, J)) := fun p _ e hp => by rw [e, decide_eq_false hp]; rfl
  refine er_6 (r := (_, _)) ⟨fun h40 => ⟨fun h1 => (hb h40 (by simp [h1])).elim, fun h1 => ⟨fun h2 => (hb h40 (by simp [h2])).elim, fun h2 => ⟨fun h3 => (hb h40 (by simp [h3])).elim, fun h3 => ⟨fun h4 => (hb h40 (by simp [h4])).elim, fun h4 => ⟨fun h5 => (hb h40 (by simp [h5])).elim, fun h5 => ⟨fun h6 => (hb h40 (by simp [h6])).elim, fun h6 => ⟨fun h7 => (hb h40 (by simp [h7])).elim, fun h7 => ⟨fun h8 => (hb h40 (by simp [h8])).elim, fun h8 => ⟨fun h9 => e1 _ h (Or.inl ⟨h40, Or.inl h9⟩), fun h9 => ⟨fun h10 => e1 _ h (Or.inl ⟨h40, Or.inr h10⟩), fun h10 => e0 _ h (by simp [h40, h9, h10])⟩⟩⟩⟩⟩⟩⟩⟩⟩⟩, fun h40 => ⟨fun h0 => e1 _ h (Or.inr ⟨h40, Or.inl h0⟩), fun h0 => ⟨fun h1 => e1 _ h (by simp [h40, h1]), fun h1 => ⟨fun h2 => e1 _ h (by simp [h40, h2]), fun h2 => ⟨fun h3 => e1 _ h (by simp [h40, h3]), fun h3 => ⟨fun h4 => e1 _ h (by simp [h40, h4]), fun h4 => ⟨fun h5 => e1 _ h (by simp [h40, h5]), fun h5 => ⟨fun h6 => e1 _ h (by simp [h40, h6]), fun h6 => ⟨fun h7 => e1 _ h (by simp [h40, h7]), fun h7 => ⟨fun h8 => e1 _ h (by simp [h40, h8]), fun h8 => ⟨fun h9 => (hs h40 (Or.inl h9)).elim, fun h9 => ⟨fun h10 => (hs h40 (Or.inr h10)).elim, fun h10 => e0 _ h (by simp [h40, h0, h1, h2, h3, h4, h5, h6, h7, h8])⟩⟩⟩⟩⟩⟩⟩⟩⟩⟩⟩⟩
theorem kdf_s : ∀ m, m < 128 → isL (nI m) = false → isD (nI m) = false → kdf m = (if isS (nI m) then nI m else 1) ∧ (isS (nI m) = true → 33 ≤ m) := by decide +kernel
theorem kdf_L {m : Nat} (h : isL (nI m) = true) : kdf m = 2 := by unfold kdf; rw [h, if_pos rfl]
theorem kdf_D {m : Nat} (h1 : isL (nI m) = false) (h : isD (nI m) = true) : kdf m = 3 := by unfold kdf; rw [h1, h, if_neg (by decide), if_pos rfl]
/-- wordKind -/
theorem rl_8 {v : Int64} : er_E (d + 1) 8 [.long v] w (.inl (some (.int (rk (wdf v))))) w := by
  obtain ⟨I, A, J⟩ := w
  rw [wdf_e]
  have y : ∀ a b : Int64, lg_cmp a b = 0 → a = b := fun a b h => (lg_cmp_eq _ _).mp h
  have n : ∀ a b : Int64, ¬ lg_cmp a b = 0 → ¬ a = b := fun a b h e => h ((lg_cmp_eq _ _).mpr e)
  unfold ec_word
  refine er_8 (r := (_, _)) ⟨fun h => ?_, fun h1 => ⟨fun h => ?_, fun h2 => ⟨fun h => ?_, fun h3 => ⟨fun h => ?_, fun h4 => ⟨fun h => ?_, fun h5 => ⟨fun h => ?_, fun h6 => ⟨fun h => ?_, fun h7 => ⟨fun h => ?_, fun h8 => ⟨fun h => ?_, fun h9 => ?_⟩⟩⟩⟩⟩⟩⟩⟩⟩
  · rw [if_pos (y _ _ h)]; rfl
  · rw [if_neg (n _ _ h1), if_pos (y _ _ h)]; rfl
  · rw [if_neg (n _ _ h1), if_neg (n _ _ h2), if_pos (y _ _ h)]; rfl
  · rw [if_neg (n _ _ h1), if_neg (n _ _ h2), if_neg (n _ _ h3), if_pos (y _ _ h)]; rfl
  · rw [if_neg (n _ _ h1), if_neg (n _ _ h2), if_neg (n _ _ h3), if_neg (n _ _ h4), if_pos (y _ _ h)]; rfl
  · rw [if_neg (n _ _ h1), if_neg (n _ _ h2), if_neg (n _ _ h3), if_neg (n _ _ h4), if_neg (n _ _ h5), if_pos (y _ _ h)]; rfl
  · rw [if_neg (n _ _ h1), if_neg (n _ _ h2), if_neg (n _ _ h3), if_neg (n _ _ h4), if_neg (n _ _ h5), if_neg (n _ _ h6), if_pos (y _ _ h)]; rfl
  · rw [if_neg (n _ _ h1), if_neg (n _ _ h2), if_neg (n _ _ h3), if_neg (n _ _ h4), if_neg (n _ _ h5), if_neg (n _ _ h6), if_neg (n _ _ h7), if_pos (y _ _ h)]; rfl
  · rw [if_neg (n _ _ h1), if_neg (n _ _ h2), if_neg (n _ _ h3), if_neg (n _ _ h4), if_neg (n _ _ h5), if_neg (n _ _ h6), if_neg (n _ _ h7), if_neg (n _ _ h8), if_pos (y _ _ h)]; rfl
  · rw [if_neg (n _ _ h1), if_neg (n _ _ h2), if_neg (n _ _ h3), if_neg (n _ _ h4), if_neg (n _ _ h5), if_neg (n _ _ h6), if_neg (n _ _ h7), if_neg (n _ _ h8), if_neg (n _ _ h9)]; rfl
end
/-- the next character does not continue the last token -/
def frs (tx : List Nat) (l : sk_T) (t : Bool) (i : Nat) : Prop := ∀ k u r, l = (k, u) :: r → t = true → i < tx.length → sk_c k (tx.getD i 0) = false
theorem sk_f {tx : List Nat} {l : sk_T} {t : Bool} {i : Nat} (h : frs tx l t i) (hi : i < tx.length) : sk (l, t) (tx.drop i) = sk (sk_n l (tx.getD i 0)) (tx.drop (i + 1)) := by
  have e : tx.getD i 0 = tx[i] := by rw [List.getD_eq_getElem?_getD, List.getElem?_eq_getElem hi]; rfl
  rw [List.drop_eq_getElem_cons hi, e]
  show List.foldl sk_s (sk_s (l, t) tx[i]) _ = _
  have : sk_s (l, t) tx[i] = sk_n l tx[i] := by
    cases l with
    | nil => cases t <;> rfl
    | cons x l =>
      obtain ⟨k, u⟩ := x
      cases t with
      | false => rfl
      | true =>
        have := h k u l rfl rfl hi
        rw [e] at this
        show (if sk_c k tx[i] then _ else sk_n ((k, u) :: l) tx[i]) = _
        rw [this, if_neg (by decide)]
  rw [this]; rfl
theorem sk_g {tx : List Nat} {l : sk_T} {k : Int32} {u : List Nat} {i : Nat} (hc : sk_c k (tx.getD i 0) = true) (hi : i < tx.length) : sk ((k, u) :: l, true) (tx.drop i) = sk (if u.length < sk_m k then ((k, u ++ [tx.getD i 0]) :: l, true) else ((1, [tx.getD i 0]) :: (k, u) :: l, true)) (tx.drop (i + 1)) := by
  have e : tx.getD i 0 = tx[i] := by rw [List.getD_eq_getElem?_getD, List.getElem?_eq_getElem hi]; rfl
  rw [List.drop_eq_getElem_cons hi, e]
  show List.foldl sk_s (sk_s ((k, u) :: l, true) tx[i]) _ = _
  rw [e] at hc
  show List.foldl sk_s (if sk_c k tx[i] then (if u.length < sk_m k then ((k, u ++ [tx[i]]) :: l, true) else ((1, [tx[i]]) :: (k, u) :: l, true)) else sk_n ((k, u) :: l) tx[i]) _ = _
  rw [hc, if_pos rfl]; rfl
/-- a piece of the text -/
def pc (tx : List Nat) (i : Nat) (u : List Nat) : Prop := i + u.length ≤ tx.length ∧ ∀ j, j < u.length → u.getD j 0 = tx.getD (i + j) 0
theorem pc_a {tx : List Nat} {i : Nat} {u : List Nat} (h : pc tx i u) (hl : i + u.length < tx.length) : pc tx i (u ++ [tx.getD (i + u.length) 0]) := by
  refine ⟨by rw [List.length_append]; exact hl, fun j hj => ?_⟩
  rw [List.length_append] at hj
  have hj' : j < u.length + 1 := hj
  rw [List.getD_eq_getElem?_getD]
  by_cases hu : j < u.length
  · rw [List.getElem?_append_left hu, ← List.getD_eq_getElem?_getD]; exact h.2 j hu
  · have e : j = u.length := by omega
    rw [e, List.getElem?_append_right (Nat.le_refl _), Nat.sub_self]; rfl
theorem pc_h {tx : List Nat} {i : Nat} {u : List Nat} {f1 : Nat → Int32} (h : pc tx i u) (hf : ∀ i, i < tx.length → f1 i = nI (tx.getD i 0)) : cq_h f1 i (u.map nI) := by
  intro j hj
  rw [List.length_map] at hj
  rw [hf (i + j) (by have := h.1; omega), ← h.2 j hj, List.getD_eq_getElem?_getD, List.getD_eq_getElem?_getD, List.getElem?_map, List.getElem?_eq_getElem hj]; rfl
theorem pc_c {tx : List Nat} {i : Nat} {u : List Nat} (h : pc tx i u) (htx : ∀ c ∈ tx, 1 ≤ c ∧ c < 128) : ∀ c ∈ u, 1 ≤ c ∧ c < 128 := by
  intro c hc
  obtain ⟨j, hj, e⟩ := List.getElem_of_mem hc
  have h1 := h.2 j hj
  rw [List.getD_eq_getElem?_getD, List.getElem?_eq_getElem hj] at h1
  have hl : i + j < tx.length := by have := h.1; omega
  rw [List.getD_eq_getElem?_getD, List.getElem?_eq_getElem hl] at h1
  have h2 : c = tx[i + j] := by rw [← e]; exact h1
  rw [h2]
  exact htx _ (List.getElem_mem hl)
section
variable {f2 : Int32} {f1 : Nat → Int32} {d : Nat} {tx : List Nat} {F : sk_T}
/-- at the head of the loop -/
def P7 (d : Nat) (f2 : Int32) (f1 : Nat → Int32) (tx : List Nat) (F : sk_T) (i : Nat) : Prop := ∀ (l : sk_T) (t : Bool) (I A : ja_I) (J : ja_J), tq f2 f1 l (I, A, J) → (∀ x ∈ l, tkO x) → tot l ≤ i → frs tx l t i → (sk (l, t) (tx.drop i)).1 = F → ∃ w', ja_R (ja_code tr_10) (er_E (d + 1)) (.inl none, w') 7 [some (.ref 0), some (.int (nI i)), none, none] [] (I, A, J) ∧ tE f2 f1 F w'
theorem tx_c (htx : ∀ c ∈ tx, 1 ≤ c ∧ c < 128) {i : Nat} (hi : i < tx.length) : 1 ≤ tx.getD i 0 ∧ tx.getD i 0 < 128 := by
  rw [List.getD_eq_getElem?_getD, List.getElem?_eq_getElem hi]
  exact htx _ (List.getElem_mem hi)
theorem skc_1 {c : Nat} : sk_c 1 c = false := by
  unfold sk_c
  split
  · rfl
  · rw [Bool.and_eq_false_iff]; exact Or.inr rfl
theorem tot_c {x : Int32 × List Nat} {l : sk_T} : tot (x :: l) = x.2.length + tot l := by unfold tot; rw [List.map_cons, List.sum_cons]
/-- behind a word or number: perhaps a character too many -/
theorem p_un (htx : ∀ c ∈ tx, 1 ≤ c ∧ c < 128) (hn : tx.length ≤ 160) (hf : ∀ i, i < tx.length → f1 i = nI (tx.getD i 0)) {j : Nat} (hj : j < tx.length) {k : Int32} {u : List Nat} {l : sk_T} {I A : ja_I} {J : ja_J} (hP : P7 d f2 f1 tx F (j + 1)) (hw : tq f2 f1 ((k, u) :: l) (I, A, J)) (hl : ∀ x ∈ (k, u) :: l, tkO x) (ht : tot ((k, u) :: l) ≤ j) (hc : sk_c k (tx.getD j 0) = true) (hm : ¬ u.length < sk_m k) (hF : (sk ((k, u) :: l, true) (tx.drop j)).1 = F) : ∃ (I1 A1 : ja_I) (J1 : ja_J) (w' : ja_w), er_E (d + 1) 9 [.ref 0, .int 3, .int (nI j), .int 1] (I, A, J) (.inl none) (I1, A1, J1) ∧ ja_R (ja_code tr_10) (er_E (d + 1)) (.inl none, w') 7 [some (.ref 0), some (.int (nI j + 1)), none, none] [] (I1, A1, J1) ∧ tE f2 f1 F w' := by
  have hcc := tx_c htx hj
  have hlen := tot_le _ hl
  have hp : pc tx j [tx.getD j 0] := ⟨by show j + 1 ≤ tx.length; omega, fun i hi => by
    have : i < 1 := hi
    obtain rfl : i = 0 := by omega
    rfl⟩
  obtain ⟨I1, A1, J1, hE, hw1⟩ := tq_9 (d := d) (k := 1) (u := [tx.getD j 0]) (fr := j) (z := 3) hw (by omega) (by unfold fk; rfl) (by show j + 1 ≤ 160; omega) (pc_h hp hf)
  rw [sk_g hc hj, if_neg hm] at hF
  obtain ⟨w', h1, h2⟩ := hP _ true I1 A1 J1 hw1 (fun x hx => by
    rcases List.mem_cons.mp hx with h | h
    · rw [h]; exact tkO_1 hcc.1 hcc.2 ⟨1, rfl, by decide, by decide⟩
    · exact hl x h) (by rw [tot_c]; show 1 + _ ≤ _; omega) (fun k' u' r' e _ _ => by cases e; exact skc_1) hF
  refine ⟨I1, A1, J1, w', hE, ?_, h2⟩
  rw [nI_1]
  exact h1
/-- a word ends -/
theorem p_we (htx : ∀ c ∈ tx, 1 ≤ c ∧ c < 128) (hn : tx.length ≤ 160) (hf2 : f2 = nI tx.length) (hf : ∀ i, i < tx.length → f1 i = nI (tx.getD i 0)) {i j : Nat} {u : List Nat} {l : sk_T} {I A : ja_I} {J : ja_J} (hj : j = i + u.length) (hP : P7 d f2 f1 tx F j) (hP1 : j < tx.length → P7 d f2 f1 tx F (j + 1)) (hu : pc tx i u) (h1 : 1 ≤ u.length) (h8 : u.length ≤ 8) (hw : tq f2 f1 l (I, A, J)) (hl : ∀ x ∈ l, tkO x) (ht : tot l ≤ i) (hF : (sk ((2, u) :: l, true) (tx.drop j)).1 = F) (hs : j < tx.length → u.length < 8 → sk_c 2 (tx.getD j 0) = false) : ∃ w', r10w (er_E (d + 1)) (.inl none, w') I A J (nI j) (nI i) ∧ tE f2 f1 F w' := by
  have hjl : j ≤ tx.length := by have := hu.1; omega
  have hlen := tot_le _ hl
  have esub : nI j - nI i = nI u.length := by rw [hj, pk_sub (by omega)]; congr 1; omega
  have hok : ∀ x ∈ (2, u) :: l, tkO x := fun x hx => by
    rcases List.mem_cons.mp hx with h | h
    · rw [h]; exact ⟨h1, h8, pc_c hu htx, 2, rfl, by decide, by decide⟩
    · exact hl x h
  have htt : tot ((2, u) :: l) ≤ j := by rw [tot_c]; show u.length + _ ≤ _; omega
  have h7 : er_E (d + 1) 7 [.ref 0, .int (nI i), .int (nI u.length)] (I, A, J) (.inl (some (.long (rq_pk (u.map nI))))) (I, A, J) := by
    have e1 : A 1 = f1 := hw.2.2.1
    have := rl_7 (d := d) (I := I) (A := A) (J := J) (cs := u.map nI) (fr := i) (by rw [List.length_map]; omega) (by rw [e1]; exact pc_h hu hf)
    rwa [List.length_map] at this
  obtain ⟨I3, A3, J3, hE9, hw3⟩ := tq_9 (d := d) (k := 2) (u := u) (fr := i) (z := rk (wdf (rq_pk (u.map nI)))) hw (by omega) (by unfold fk; rw [if_pos rfl]) (by omega) (pc_h hu hf)
  have e2 : I3 0 2 = nI tx.length := hw3.2.1.trans hf2
  have ea : j < tx.length → A3 1 (nI j).toNatClampNeg = nI (tx.getD j 0) := fun h => by
    have e1 : A3 1 = f1 := hw3.2.2.1
    rw [e1, nI_clamp (by omega), hf j h]
  unfold r10w
  rw [esub]
  by_cases hjn : j = tx.length
  · obtain ⟨w', r1, r2⟩ := hP _ true I3 A3 J3 hw3 hok htt (fun _ _ _ _ _ h => absurd h (by omega)) hF
    exact ⟨w', ⟨_, I, A, J, h7, _, I, A, J, rl_8, I3, A3, J3, hE9, fun _ => r1, fun h => absurd (by rw [e2]; exact nI_le (by omega) (by omega)) h⟩, r2⟩
  · have hjl' : j < tx.length := by omega
    have hcc := tx_c htx hjl'
    have nle : ¬ I3 0 2 ≤ nI j := by rw [e2]; exact nI_ge hjl' (by omega)
    have vj : vp_in (nI j) 160 := vp_in_nI (by omega) (by omega)
    by_cases h8' : u.length = 8
    · have e8 : nI u.length = 8 := by rw [h8']; rfl
      by_cases hc : sk_c 2 (tx.getD j 0) = true
      · obtain ⟨I6, A6, J6, w', q1, q2, q3⟩ := p_un htx hn hf hjl' (hP1 hjl') hw3 hok htt hc (by unfold sk_m; rw [if_pos rfl]; omega) hF
        refine ⟨w', ⟨_, I, A, J, h7, _, I, A, J, rl_8, I3, A3, J3, hE9, fun h => absurd h nle, fun _ => ⟨fun _ => ⟨vj, ?_⟩, fun h => absurd e8 h⟩⟩, q3⟩
        rw [ea hjl']
        refine ⟨_, I3, A3, J3, rl_4, fun hL => ⟨vj, ?_⟩, fun _ => ⟨I6, A6, J6, q1, q2⟩⟩
        rw [ea hjl']
        refine ⟨_, I3, A3, J3, rl_5, fun hD => ?_, fun _ => ⟨I6, A6, J6, q1, q2⟩⟩
        exfalso
        unfold sk_c at hc
        rw [bI_0 hL, bI_0 hD] at hc
        exact absurd hc (by decide)
      · have hc : sk_c 2 (tx.getD j 0) = false := by cases hh : sk_c 2 (tx.getD j 0) with | false => rfl | true => exact absurd hh hc
        obtain ⟨w', r1, r2⟩ := hP _ true I3 A3 J3 hw3 hok htt (fun _ _ _ e _ _ => by cases e; exact hc) hF
        refine ⟨w', ⟨_, I, A, J, h7, _, I, A, J, rl_8, I3, A3, J3, hE9, fun h => absurd h nle, fun _ => ⟨fun _ => ⟨vj, ?_⟩, fun h => absurd e8 h⟩⟩, r2⟩
        rw [ea hjl']
        refine ⟨_, I3, A3, J3, rl_4, fun hL => ⟨vj, ?_⟩, fun hL => ?_⟩
        · rw [ea hjl']
          refine ⟨_, I3, A3, J3, rl_5, fun hD => r1, fun hD => ?_⟩
          exfalso
          unfold sk_c at hc
          rw [bI_1 hD, if_pos rfl] at hc
          exact absurd hc (by decide)
        · exfalso
          unfold sk_c at hc
          rw [bI_1 hL] at hc
          cases hd : isD (nI (tx.getD j 0)) with
          | true => rw [hd] at hc; exact absurd hc (by decide)
          | false => rw [hd] at hc; exact absurd hc (by decide)
    · have e8 : ¬ nI u.length = 8 := fun e => h8' ((nI_eq (b := 8) (by omega) (by omega)).mp e)
      obtain ⟨w', r1, r2⟩ := hP _ true I3 A3 J3 hw3 hok htt (fun _ _ _ e _ _ => by cases e; exact hs hjl' (by omega)) hF
      exact ⟨w', ⟨_, I, A, J, h7, _, I, A, J, rl_8, I3, A3, J3, hE9, fun h => absurd h nle, fun _ => ⟨fun h => absurd h e8, fun _ => r1⟩⟩, r2⟩
/-- a number ends -/
theorem p_ne (htx : ∀ c ∈ tx, 1 ≤ c ∧ c < 128) (hn : tx.length ≤ 160) (hf2 : f2 = nI tx.length) (hf : ∀ i, i < tx.length → f1 i = nI (tx.getD i 0)) {i j : Nat} {u : List Nat} {l : sk_T} {I A : ja_I} {J : ja_J} (hj : j = i + u.length) (hP : P7 d f2 f1 tx F j) (hP1 : j < tx.length → P7 d f2 f1 tx F (j + 1)) (hu : pc tx i u) (h1 : 1 ≤ u.length) (h4 : u.length ≤ 4) (hw : tq f2 f1 l (I, A, J)) (hl : ∀ x ∈ l, tkO x) (ht : tot l ≤ i) (hF : (sk ((3, u) :: l, true) (tx.drop j)).1 = F) (hs : j < tx.length → u.length < 4 → sk_c 3 (tx.getD j 0) = false) : ∃ w', r10n (er_E (d + 1)) (.inl none, w') I A J (nI j) (nI i) ∧ tE f2 f1 F w' := by
  have hjl : j ≤ tx.length := by have := hu.1; omega
  have hlen := tot_le _ hl
  have esub : nI j - nI i = nI u.length := by rw [hj, pk_sub (by omega)]; congr 1; omega
  have hok : ∀ x ∈ (3, u) :: l, tkO x := fun x hx => by
    rcases List.mem_cons.mp hx with h | h
    · rw [h]; exact ⟨h1, by show u.length ≤ 8; omega, pc_c hu htx, 3, rfl, by decide, by decide⟩
    · exact hl x h
  have htt : tot ((3, u) :: l) ≤ j := by rw [tot_c]; show u.length + _ ≤ _; omega
  obtain ⟨I3, A3, J3, hE9, hw3⟩ := tq_9 (d := d) (k := 3) (u := u) (fr := i) (z := 2) hw (by omega) (by unfold fk; rfl) (by omega) (pc_h hu hf)
  have e2 : I3 0 2 = nI tx.length := hw3.2.1.trans hf2
  have ea : j < tx.length → A3 1 (nI j).toNatClampNeg = nI (tx.getD j 0) := fun h => by
    have e1 : A3 1 = f1 := hw3.2.2.1
    rw [e1, nI_clamp (by omega), hf j h]
  have c3 : ∀ c, sk_c 3 c = isD (nI c) := fun c => by
    unfold sk_c
    cases isD (nI c) with
    | true => rfl
    | false => rw [if_neg (by decide), show ((3 : Int32) == 2) = false from rfl, Bool.and_false]
  unfold r10n
  rw [esub]
  by_cases hjn : j = tx.length
  · obtain ⟨w', r1, r2⟩ := hP _ true I3 A3 J3 hw3 hok htt (fun _ _ _ _ _ h => absurd h (by omega)) hF
    exact ⟨w', ⟨I3, A3, J3, hE9, fun _ => r1, fun h => absurd (by rw [e2]; exact nI_le (by omega) (by omega)) h⟩, r2⟩
  · have hjl' : j < tx.length := by omega
    have hcc := tx_c htx hjl'
    have nle : ¬ I3 0 2 ≤ nI j := by rw [e2]; exact nI_ge hjl' (by omega)
    have vj : vp_in (nI j) 160 := vp_in_nI (by omega) (by omega)
    by_cases h8' : u.length = 4
    · have e8 : nI u.length = 4 := by rw [h8']; rfl
      by_cases hc : sk_c 3 (tx.getD j 0) = true
      · obtain ⟨I6, A6, J6, w', q1, q2, q3⟩ := p_un htx hn hf hjl' (hP1 hjl') hw3 hok htt hc (by unfold sk_m; rw [if_neg (by decide)]; omega) hF
        refine ⟨w', ⟨I3, A3, J3, hE9, fun h => absurd h nle, fun _ => ⟨fun _ => ⟨vj, ?_⟩, fun h => absurd e8 h⟩⟩, q3⟩
        rw [ea hjl']
        refine ⟨_, I3, A3, J3, rl_5, fun hD => ?_, fun _ => ⟨I6, A6, J6, q1, q2⟩⟩
        rw [c3, bI_0 hD] at hc
        exact absurd hc (by decide)
      · have hc : sk_c 3 (tx.getD j 0) = false := by cases hh : sk_c 3 (tx.getD j 0) with | false => rfl | true => exact absurd hh hc
        obtain ⟨w', r1, r2⟩ := hP _ true I3 A3 J3 hw3 hok htt (fun _ _ _ e _ _ => by cases e; exact hc) hF
        refine ⟨w', ⟨I3, A3, J3, hE9, fun h => absurd h nle, fun _ => ⟨fun _ => ⟨vj, ?_⟩, fun h => absurd e8 h⟩⟩, r2⟩
        rw [ea hjl']
        refine ⟨_, I3, A3, J3, rl_5, fun _ => r1, fun hD => ?_⟩
        rw [c3, bI_1 hD] at hc
        exact absurd hc (by decide)
    · have e8 : ¬ nI u.length = 4 := fun e => h8' ((nI_eq (b := 4) (by omega) (by omega)).mp e)
      obtain ⟨w', r1, r2⟩ := hP _ true I3 A3 J3 hw3 hok htt (fun _ _ _ e _ _ => by cases e; exact hs hjl' (by omega)) hF
      exact ⟨w', ⟨I3, A3, J3, hE9, fun h => absurd h nle, fun _ => ⟨fun h => absurd h e8, fun _ => r1⟩⟩, r2⟩
/-- a word's loop -/
theorem p_34 (htx : ∀ c ∈ tx, 1 ≤ c ∧ c < 128) (hn : tx.length ≤ 160) (hf2 : f2 = nI tx.length) (hf : ∀ i, i < tx.length → f1 i = nI (tx.getD i 0)) {i : Nat} {l : sk_T} {I A : ja_I} {J : ja_J} (hP : ∀ j, i < j → j ≤ tx.length → P7 d f2 f1 tx F j) (hw : tq f2 f1 l (I, A, J)) (hl : ∀ x ∈ l, tkO x) (ht : tot l ≤ i) : ∀ (m j : Nat) (u : List Nat), j + m = tx.length → j = i + u.length → pc tx i u → 1 ≤ u.length → u.length ≤ 8 → (sk ((2, u) :: l, true) (tx.drop j)).1 = F → ∃ w', ja_R (ja_code tr_10) (er_E (d + 1)) (.inl none, w') 34 [some (.ref 0), some (.int (nI j)), some (.int (nI i)), none] [] (I, A, J) ∧ tE f2 f1 F w'
  | 0, j, u, hm, hj, hu, h1, h8, hF => by
    obtain ⟨w', r1, r2⟩ := p_we htx hn hf2 hf hj (hP j (by omega) (by omega)) (fun h => hP (j + 1) (by omega) (by omega)) hu h1 h8 hw hl ht hF (fun h => absurd h (by omega))
    have e2 : I 0 2 = nI tx.length := hw.2.1.trans hf2
    exact ⟨w', br_10_34 ⟨fun _ => r1, fun h => absurd (by rw [e2]; exact nI_le (by omega) (by omega)) h⟩, r2⟩
  | m + 1, j, u, hm, hj, hu, h1, h8, hF => by
    have hjl : j < tx.length := by omega
    have hcc := tx_c htx hjl
    have e2 : I 0 2 = nI tx.length := hw.2.1.trans hf2
    have nle : ¬ I 0 2 ≤ nI j := by rw [e2]; exact nI_ge hjl (by omega)
    have vj : vp_in (nI j) 160 := vp_in_nI (by omega) (by omega)
    have esub : nI j - nI i = nI u.length := by rw [hj, pk_sub (by omega)]; congr 1; omega
    have ea : A 1 (nI j).toNatClampNeg = nI (tx.getD j 0) := by
      have e1 : A 1 = f1 := hw.2.2.1
      rw [e1, nI_clamp (by omega), hf j hjl]
    have ends := fun hs => p_we htx hn hf2 hf hj (hP j (by omega) (by omega)) (fun h => hP (j + 1) (by omega) (by omega)) hu h1 h8 hw hl ht hF hs
    by_cases h8' : u.length = 8
    · obtain ⟨w', r1, r2⟩ := ends (fun _ h => absurd h (by omega))
      refine ⟨w', br_10_34 ⟨fun h => absurd h nle, fun _ => ⟨fun _ => r1, fun h => absurd (by rw [esub, h8']; decide) h⟩⟩, r2⟩
    · have n8 : ¬ (8 : Int32) ≤ nI j - nI i := by rw [esub]; exact nI_ge (b := 8) (by omega) (by omega)
      have more : sk_c 2 (tx.getD j 0) = true → ∃ w', ja_R (ja_code tr_10) (er_E (d + 1)) (.inl none, w') 34 [some (.ref 0), some (.int (nI j + 1)), some (.int (nI i)), none] [] (I, A, J) ∧ tE f2 f1 F w' := by
        intro hc
        rw [sk_g hc hjl, if_pos (by unfold sk_m; rw [if_pos rfl]; omega)] at hF
        have ha := pc_a hu (by omega)
        rw [← hj] at ha
        have el : (u ++ [tx.getD j 0]).length = u.length + 1 := by rw [List.length_append]; rfl
        obtain ⟨w', r1, r2⟩ := p_34 htx hn hf2 hf hP hw hl ht m (j + 1) (u ++ [tx.getD j 0]) (by omega) (by omega) ha (by omega) (by omega) hF
        rw [nI_1]
        exact ⟨w', r1, r2⟩
      cases hL : isL (nI (tx.getD j 0)) with
      | true =>
        obtain ⟨w', r1, r2⟩ := more (by
          unfold sk_c
          rw [hL]
          cases isD (nI (tx.getD j 0)) <;> rfl)
        refine ⟨w', br_10_34 ⟨fun h => absurd h nle, fun _ => ⟨fun h => absurd h n8, fun _ => ⟨vj, ?_⟩⟩⟩, r2⟩
        rw [ea]
        refine ⟨_, I, A, J, rl_4, fun h => ?_, fun _ => r1⟩
        rw [hL] at h
        exact absurd h (by decide)
      | false =>
        cases hD : isD (nI (tx.getD j 0)) with
        | true =>
          obtain ⟨w', r1, r2⟩ := more (by
            unfold sk_c
            rw [hD]; rfl)
          refine ⟨w', br_10_34 ⟨fun h => absurd h nle, fun _ => ⟨fun h => absurd h n8, fun _ => ⟨vj, ?_⟩⟩⟩, r2⟩
          rw [ea]
          refine ⟨_, I, A, J, rl_4, fun h => ⟨vj, ?_⟩, fun _ => r1⟩
          rw [ea]
          refine ⟨_, I, A, J, rl_5, fun h => ?_, fun _ => r1⟩
          rw [hD] at h
          exact absurd h (by decide)
        | false =>
          obtain ⟨w', r1, r2⟩ := ends (fun _ _ => by unfold sk_c; rw [hD, hL]; rfl)
          refine ⟨w', br_10_34 ⟨fun h => absurd h nle, fun _ => ⟨fun h => absurd h n8, fun _ => ⟨vj, ?_⟩⟩⟩, r2⟩
          rw [ea]
          refine ⟨_, I, A, J, rl_4, fun h => ⟨vj, ?_⟩, fun h => ?_⟩
          · rw [ea]
            refine ⟨_, I, A, J, rl_5, fun h => r1, fun h => ?_⟩
            rw [hD] at h
            exact absurd rfl h
          · rw [hL] at h
            exact absurd rfl h
/-- a number's loop -/
theorem p_159 (htx : ∀ c ∈ tx, 1 ≤ c ∧ c < 128) (hn : tx.length ≤ 160) (hf2 : f2 = nI tx.length) (hf : ∀ i, i < tx.length → f1 i = nI (tx.getD i 0)) {i : Nat} {l : sk_T} {I A : ja_I} {J : ja_J} (hP : ∀ j, i < j → j ≤ tx.length → P7 d f2 f1 tx F j) (hw : tq f2 f1 l (I, A, J)) (hl : ∀ x ∈ l, tkO x) (ht : tot l ≤ i) : ∀ (m j : Nat) (u : List Nat), j + m = tx.length → j = i + u.length → pc tx i u → 1 ≤ u.length → u.length ≤ 4 → (sk ((3, u) :: l, true) (tx.drop j)).1 = F → ∃ w', ja_R (ja_code tr_10) (er_E (d + 1)) (.inl none, w') 159 [some (.ref 0), some (.int (nI j)), some (.int (nI i)), none] [] (I, A, J) ∧ tE f2 f1 F w'
  | 0, j, u, hm, hj, hu, h1, h8, hF => by
    obtain ⟨w', r1, r2⟩ := p_ne htx hn hf2 hf hj (hP j (by omega) (by omega)) (fun h => hP (j + 1) (by omega) (by omega)) hu h1 h8 hw hl ht hF (fun h => absurd h (by omega))
    have e2 : I 0 2 = nI tx.length := hw.2.1.trans hf2
    exact ⟨w', br_10_159 ⟨fun _ => r1, fun h => absurd (by rw [e2]; exact nI_le (by omega) (by omega)) h⟩, r2⟩
  | m + 1, j, u, hm, hj, hu, h1, h8, hF => by
    have hjl : j < tx.length := by omega
    have hcc := tx_c htx hjl
    have e2 : I 0 2 = nI tx.length := hw.2.1.trans hf2
    have nle : ¬ I 0 2 ≤ nI j := by rw [e2]; exact nI_ge hjl (by omega)
    have vj : vp_in (nI j) 160 := vp_in_nI (by omega) (by omega)
    have esub : nI j - nI i = nI u.length := by rw [hj, pk_sub (by omega)]; congr 1; omega
    have ea : A 1 (nI j).toNatClampNeg = nI (tx.getD j 0) := by
      have e1 : A 1 = f1 := hw.2.2.1
      rw [e1, nI_clamp (by omega), hf j hjl]
    have c3 : ∀ c, sk_c 3 c = isD (nI c) := fun c => by
      unfold sk_c
      cases isD (nI c) with
      | true => rfl
      | false => rw [if_neg (by decide), show ((3 : Int32) == 2) = false from rfl, Bool.and_false]
    have ends := fun hs => p_ne htx hn hf2 hf hj (hP j (by omega) (by omega)) (fun h => hP (j + 1) (by omega) (by omega)) hu h1 h8 hw hl ht hF hs
    by_cases h8' : u.length = 4
    · obtain ⟨w', r1, r2⟩ := ends (fun _ h => absurd h (by omega))
      refine ⟨w', br_10_159 ⟨fun h => absurd h nle, fun _ => ⟨fun _ => r1, fun h => absurd (by rw [esub, h8']; decide) h⟩⟩, r2⟩
    · have n8 : ¬ (4 : Int32) ≤ nI j - nI i := by rw [esub]; exact nI_ge (b := 4) (by omega) (by omega)
      cases hD : isD (nI (tx.getD j 0)) with
      | true =>
        have hc : sk_c 3 (tx.getD j 0) = true := by rw [c3]; exact hD
        rw [sk_g hc hjl, if_pos (by unfold sk_m; rw [if_neg (by decide)]; omega)] at hF
        have ha := pc_a hu (by omega)
        rw [← hj] at ha
        have el : (u ++ [tx.getD j 0]).length = u.length + 1 := by rw [List.length_append]; rfl
        obtain ⟨w', r1, r2⟩ := p_159 htx hn hf2 hf hP hw hl ht m (j + 1) (u ++ [tx.getD j 0]) (by omega) (by omega) ha (by omega) (by omega) hF
        refine ⟨w', br_10_159 ⟨fun h => absurd h nle, fun _ => ⟨fun h => absurd h n8, fun _ => ⟨vj, ?_⟩⟩⟩, r2⟩
        rw [ea]
        refine ⟨_, I, A, J, rl_5, fun h => ?_, fun _ => by rw [nI_1]; exact r1⟩
        rw [hD] at h
        exact absurd h (by decide)
      | false =>
        obtain ⟨w', r1, r2⟩ := ends (fun _ _ => by rw [c3]; exact hD)
        refine ⟨w', br_10_159 ⟨fun h => absurd h nle, fun _ => ⟨fun h => absurd h n8, fun _ => ⟨vj, ?_⟩⟩⟩, r2⟩
        rw [ea]
        refine ⟨_, I, A, J, rl_5, fun h => r1, fun h => ?_⟩
        rw [hD] at h
        exact absurd rfl h
/-- the head of the loop, from every place -/
theorem p_7e (hn : tx.length ≤ 160) (hf2 : f2 = nI tx.length) : P7 d f2 f1 tx F tx.length := by
  intro l t I A J hw hl ht _ hF
  rw [List.drop_length] at hF
  have hF : l = F := hF
  subst hF
  have hlen := tot_le _ hl
  have e2 : I 0 2 = nI tx.length := hw.2.1.trans hf2
  obtain ⟨I1, A1, J1, hE, h⟩ := tq_e (d := d) hw (by omega) (I 0 2)
  exact ⟨_, br_10_7 ⟨fun _ => ⟨I1, A1, J1, hE, rfl⟩, fun h => absurd (by rw [e2]; exact nI_le (by omega) (by omega)) h⟩, h⟩
theorem p_7 (htx : ∀ c ∈ tx, 1 ≤ c ∧ c < 128) (hn : tx.length ≤ 160) (hf2 : f2 = nI tx.length) (hf : ∀ i, i < tx.length → f1 i = nI (tx.getD i 0)) : ∀ (m i : Nat), tx.length ≤ i + m → i ≤ tx.length → P7 d f2 f1 tx F i
  | 0, i, hm, hi => by
    have e : i = tx.length := by omega
    rw [e]
    exact p_7e hn hf2
  | m + 1, i, hm, hi => by
    by_cases hil : tx.length ≤ i
    · have e : i = tx.length := by omega
      rw [e]
      exact p_7e hn hf2
    have hP : ∀ j, i < j → j ≤ tx.length → P7 d f2 f1 tx F j := fun j h1 h2 => p_7 htx hn hf2 hf m j (by omega) h2
    intro l t I A J hw hl ht hfr hF
    have hil : i < tx.length := by omega
    have hcc := tx_c htx hil
    have hlen := tot_le _ hl
    have e2 : I 0 2 = nI tx.length := hw.2.1.trans hf2
    have nle : ¬ I 0 2 ≤ nI i := by rw [e2]; exact nI_ge hil (by omega)
    have vi : vp_in (nI i) 160 := vp_in_nI (by omega) (by omega)
    have ea : A 1 (nI i).toNatClampNeg = nI (tx.getD i 0) := by
      have e1 : A 1 = f1 := hw.2.2.1
      rw [e1, nI_clamp (by omega), hf i hil]
    have hp : pc tx i [tx.getD i 0] := ⟨by show i + 1 ≤ tx.length; omega, fun j hj => by
      have : j < 1 := hj
      obtain rfl : j = 0 := by omega
      rfl⟩
    rw [sk_f hfr hil] at hF
    have enn : ∀ x : Int32, (sk_b (tx.getD i 0) = false) → kdf (tx.getD i 0) = x → sk_n l (tx.getD i 0) = ((x, [tx.getD i 0]) :: l, true) := fun x h1 h2 => by
      unfold sk_n
      rw [h1, if_neg (by decide), h2]
    have nb : isL (nI (tx.getD i 0)) = true ∨ isD (nI (tx.getD i 0)) = true → sk_b (tx.getD i 0) = false := by
      intro h
      cases hb : sk_b (tx.getD i 0) with
      | false => rfl
      | true =>
        obtain ⟨h1, h2⟩ := skc_b _ hcc.2 hb
        rcases h with h | h
        · rw [h2] at h; cases h
        · rw [h1] at h; cases h
    cases hL : isL (nI (tx.getD i 0)) with
    | true =>
      rw [enn 2 (nb (Or.inl hL)) (kdf_L hL)] at hF
      obtain ⟨w', r1, r2⟩ := p_34 htx hn hf2 hf hP hw hl ht (tx.length - (i + 1)) (i + 1) [tx.getD i 0] (by omega) rfl hp (by show 1 ≤ 1; decide) (by show 1 ≤ 8; decide) hF
      refine ⟨w', br_10_7 ⟨fun h => absurd h nle, fun _ => ⟨vi, ?_⟩⟩, r2⟩
      rw [ea]
      refine ⟨_, I, A, J, rl_4, fun h => ?_, fun _ => by rw [nI_1]; exact r1⟩
      rw [hL] at h
      exact absurd h (by decide)
    | false =>
      cases hD : isD (nI (tx.getD i 0)) with
      | true =>
        rw [enn 3 (nb (Or.inr hD)) (kdf_D hL hD)] at hF
        obtain ⟨w', r1, r2⟩ := p_159 htx hn hf2 hf hP hw hl ht (tx.length - (i + 1)) (i + 1) [tx.getD i 0] (by omega) rfl hp (by show 1 ≤ 1; decide) (by show 1 ≤ 4; decide) hF
        refine ⟨w', br_10_7 ⟨fun h => absurd h nle, fun _ => ⟨vi, ?_⟩⟩, r2⟩
        rw [ea]
        refine ⟨_, I, A, J, rl_4, fun _ => ?_, fun h => by rw [hL] at h; exact absurd rfl h⟩
        refine ⟨_, I, A, J, rl_5, fun h => ?_, fun _ => by rw [nI_1]; exact r1⟩
        rw [hD] at h
        exact absurd h (by decide)
      | false =>
        have pre : ∀ (r : ja_O × ja_w), ((nI (tx.getD i 0) = 10 → ja_R (ja_code tr_10) (er_E (d + 1)) r 7 [some (.ref 0), some (.int (nI i + 1)), none, none] [] (I, A, J)) ∧ (¬ nI (tx.getD i 0) = 10 → (nI (tx.getD i 0) = 32 → ja_R (ja_code tr_10) (er_E (d + 1)) r 7 [some (.ref 0), some (.int (nI i + 1)), none, none] [] (I, A, J)) ∧ (¬ nI (tx.getD i 0) = 32 → ∃ (z4 : Int32) (I4 A4 : ja_I) (J4 : ja_J), er_E (d + 1) 6 [.int (nI (tx.getD i 0))] (I, A, J) (.inl (some (.int z4))) (I4, A4, J4) ∧ ((z4 = 0 → ∃ (I5 A5 : ja_I) (J5 : ja_J), er_E (d + 1) 9 [.ref 0, .int 3, .int (nI i), .int 1] (I4, A4, J4) (.inl (none)) (I5, A5, J5) ∧ ja_R (ja_code tr_10) (er_E (d + 1)) r 7 [some (.ref 0), some (.int (nI i + 1)), none, none] [] (I5, A5, J5)) ∧ (¬ z4 = 0 → ∃ (I6 A6 : ja_I) (J6 : ja_J), er_E (d + 1) 9 [.ref 0, .int (nI (tx.getD i 0)), .int (nI i), .int 1] (I4, A4, J4) (.inl (none)) (I6, A6, J6) ∧ ja_R (ja_code tr_10) (er_E (d + 1)) r 7 [some (.ref 0), some (.int (nI i + 1)), none, none] [] (I6, A6, J6)))))) → ja_R (ja_code tr_10) (er_E (d + 1)) r 7 [some (.ref 0), some (.int (nI i)), none, none] [] (I, A, J) := by
          intro r h
          refine br_10_7 ⟨fun h => absurd h nle, fun _ => ⟨vi, ?_⟩⟩
          rw [ea]
          refine ⟨_, I, A, J, rl_4, fun _ => ⟨_, I, A, J, rl_5, fun _ => h, fun h => by rw [hD] at h; exact absurd rfl h⟩, fun h => by rw [hL] at h; exact absurd rfl h⟩
        have next := hP (i + 1) (by omega) (by omega)
        cases hb : sk_b (tx.getD i 0) with
        | true =>
          have en : sk_n l (tx.getD i 0) = (l, false) := by unfold sk_n; rw [hb, if_pos rfl]
          rw [en] at hF
          obtain ⟨w', r1, r2⟩ := next l false I A J hw hl (by omega) (fun _ _ _ _ h => by cases h) hF
          rw [← nI_1] at r1
          refine ⟨w', pre _ ⟨fun _ => r1, fun n10 => ⟨fun _ => r1, fun n32 => ?_⟩⟩, r2⟩
          rcases skb_c hcc.2 hb with e | e
          · exact absurd e n32
          · exact absurd e n10
        | false =>
          obtain ⟨n32, n10⟩ := skb_n hcc.2 hb
          obtain ⟨ek, hk33⟩ := kdf_s _ hcc.2 hL hD
          have fin : ∀ (x z : Int32), kdf (tx.getD i 0) = x → z = rk (fk (x, [tx.getD i 0])) → (∃ m, x = nI m ∧ 1 ≤ m ∧ m < 128) → sk_c x (tx.getD (i + 1) 0) = false → ∃ (I5 A5 : ja_I) (J5 : ja_J) (w' : ja_w), er_E (d + 1) 9 [.ref 0, .int z, .int (nI i), .int 1] (I, A, J) (.inl (none)) (I5, A5, J5) ∧ ja_R (ja_code tr_10) (er_E (d + 1)) (.inl none, w') 7 [some (.ref 0), some (.int (nI i + 1)), none, none] [] (I5, A5, J5) ∧ tE f2 f1 F w' := by
            intro x z hx hz hm hsc
            rw [enn x hb hx] at hF
            obtain ⟨I5, A5, J5, hE, hw5⟩ := tq_9 (d := d) (k := x) (u := [tx.getD i 0]) (fr := i) (z := z) hw (by omega) hz (by show i + 1 ≤ 160; omega) (pc_h hp hf)
            obtain ⟨w', r1, r2⟩ := next _ true I5 A5 J5 hw5 (fun y hy => by
              rcases List.mem_cons.mp hy with h | h
              · rw [h]; exact tkO_1 hcc.1 hcc.2 hm
              · exact hl y h) (by rw [tot_c]; show 1 + _ ≤ _; omega) (fun k' u' r' e _ _ => by cases e; exact hsc) hF
            rw [← nI_1] at r1
            exact ⟨I5, A5, J5, w', hE, r1, r2⟩
          cases hS : isS (nI (tx.getD i 0)) with
          | true =>
            rw [hS, if_pos rfl] at ek
            have h33 := hk33 hS
            have n2 : ¬ nI (tx.getD i 0) = 2 := fun e => by have := (nI_eq (b := 2) (by omega) (by omega)).mp e; omega
            have n3 : ¬ nI (tx.getD i 0) = 3 := fun e => by have := (nI_eq (b := 3) (by omega) (by omega)).mp e; omega
            have n1 : ¬ nI (tx.getD i 0) = 1 := fun e => by have := (nI_eq (b := 1) (by omega) (by omega)).mp e; omega
            obtain ⟨I5, A5, J5, w', q1, q2, q3⟩ := fin (nI (tx.getD i 0)) (nI (tx.getD i 0)) ek (by
              unfold fk rk
              rw [if_neg n2, if_neg n2, if_neg n3, if_neg n1]) ⟨_, rfl, hcc.1, hcc.2⟩ (by
              unfold sk_c
              rw [show (nI (tx.getD i 0) == 2) = false from beq_eq_false_iff_ne.mpr n2, show (nI (tx.getD i 0) == 3) = false from beq_eq_false_iff_ne.mpr n3, Bool.and_false]
              split <;> rfl)
            refine ⟨w', pre _ ⟨fun h => absurd h n10, fun _ => ⟨fun h => absurd h n32, fun _ => ⟨_, I, A, J, rl_6 hcc.2, fun h => ?_, fun _ => ⟨I5, A5, J5, q1, q2⟩⟩⟩⟩, q3⟩
            rw [hS] at h
            exact absurd h (by decide)
          | false =>
            rw [hS, if_neg (by decide)] at ek
            obtain ⟨I5, A5, J5, w', q1, q2, q3⟩ := fin 1 3 ek (by unfold fk; rfl) ⟨1, rfl, by decide, by decide⟩ skc_1
            refine ⟨w', pre _ ⟨fun h => absurd h n10, fun _ => ⟨fun h => absurd h n32, fun _ => ⟨_, I, A, J, rl_6 hcc.2, fun _ => ⟨I5, A5, J5, q1, q2⟩, fun h => ?_⟩⟩⟩, q3⟩
            rw [hS] at h
            exact absurd rfl h
/-- findTokens -/
theorem tq_10 {I A : ja_I} {J : ja_J} (htx : ∀ c ∈ tx, 1 ≤ c ∧ c < 128) (hn : tx.length ≤ 160) (hf : ∀ i, i < tx.length → f1 i = nI (tx.getD i 0)) (h2 : I 0 2 = nI tx.length) (h1 : A 1 = f1) (h0 : I 0 0 = 0) : ∃ (I1 A1 : ja_I) (J1 : ja_J), er_E (d + 2) 10 [.ref 0] (I, A, J) (.inl none) (I1, A1, J1) ∧ tE (nI tx.length) f1 (sk ([], false) tx).1 (I1, A1, J1) := by
  obtain ⟨⟨I1, A1, J1⟩, r1, r2⟩ := p_7 (d := d) (f2 := nI tx.length) (F := (sk ([], false) tx).1) htx hn rfl hf tx.length 0 (by omega) (by omega) [] false (ja_up I 0 3 0) A J ⟨⟨rfl, trivial⟩, h2, h1, h0⟩ (fun x h => by cases h) (Nat.zero_le _) (fun _ _ _ h => by cases h) (by rw [List.drop_zero])
  exact ⟨I1, A1, J1, er_10 (r := (_, _)) r1, r2⟩
/-- the tokens as the reading wants them -/
theorem rcR_at {a1 a2 a3 a4 a5 a6 : Nat → Int32} : ∀ {l : sk_T}, rcR a1 a2 a3 a4 a5 a6 l → ∀ (i : Nat) (x : Int32 × List Nat), l.reverse[i]? = some x → a2 i = rk (fk x) ∧ (∃ fr, a3 i = nI fr ∧ a4 i = nI x.2.length ∧ fr + x.2.length ≤ 160 ∧ cq_h a1 fr (x.2.map nI)) ∧ a5 i = 0 ∧ a6 i = -1
  | [], _, i, x, h => by cases h
  | y :: l, hs, i, x, h => by
    rw [List.reverse_cons] at h
    by_cases hi : i < l.reverse.length
    · rw [List.getElem?_append_left hi] at h
      exact rcR_at hs.2.2.2.2 i x h
    · rw [List.getElem?_append_right (by omega)] at h
      have hi2 : i - l.reverse.length = 0 := by
        cases hz : i - l.reverse.length with
        | zero => rfl
        | succ z => rw [hz] at h; cases h
      rw [hi2] at h
      cases h
      have e : i = l.length := by rw [List.length_reverse] at hi hi2; omega
      rw [e]
      exact ⟨hs.1, hs.2.1, hs.2.2.1, hs.2.2.2.1⟩
theorem tE_K {l : sk_T} {I A : ja_I} {J : ja_J} (h : tE f2 f1 l (I, A, J)) : rq_K (tsOf l) (I 0 3) (A 1) (A 2) (A 3) (A 4) ∧ ∀ i, i < (tsOf l).length → A 5 i = 0 ∧ A 6 i = -1 := by
  have hat : ∀ i, i < l.length → ∃ x, l.reverse[i]? = some x ∧ pp_k (tsOf l) i = fk x ∧ pp_cs (tsOf l) i = x.2.map nI := by
    intro i hi
    have e := ts_at hi
    refine ⟨_, List.getElem?_eq_getElem (by rw [List.length_reverse]; exact hi), ?_, ?_⟩
    · unfold pp_k; rw [e]; rfl
    · unfold pp_cs; rw [e]; rfl
  refine ⟨⟨by rw [ts_len]; exact h.1.1.1, fun i hi => ?_, fun i hi => ?_⟩, fun i hi => ?_⟩
  · rw [ts_len] at hi
    by_cases hl : i < l.length
    · obtain ⟨x, hx, ek, _⟩ := hat i hl
      rw [ek]
      exact (rcR_at h.1.1.2 i x hx).1
    · have e : i = l.length := by omega
      rw [pp_k_ge (by rw [ts_len]; omega), e]
      exact h.2
  · rw [ts_len] at hi
    obtain ⟨x, hx, _, ec⟩ := hat i hi
    rw [ec, List.length_map]
    exact (rcR_at h.1.1.2 i x hx).2.1
  · rw [ts_len] at hi
    obtain ⟨x, hx, _, _⟩ := hat i hi
    exact (rcR_at h.1.1.2 i x hx).2.2
end
