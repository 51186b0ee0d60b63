/-- where the reference's loop stands -/
def LH (d : Nat) (w : ja_w) (r : ja_O × ja_w) : Prop := ja_R (ja_code tr_67) (er_E d) r 19 [some (.ref 0), none, none] [] w
def rs (d : Nat) (w w' : ja_w) : Prop := ∀ r, LH d w' r → LH d w r
def rG (d : Nat) (w : ja_w) (G : ja_w → Prop) : Prop := ∃ w', rs d w w' ∧ G w'
theorem rG_0 {d : Nat} {w : ja_w} {G : ja_w → Prop} (h : G w) : rG d w G := ⟨w, fun _ h => h, h⟩
theorem rG_t {d : Nat} {w : ja_w} {G G' : ja_w → Prop} (h : rG d w G) (k : ∀ w', G w' → rG d w' G') : rG d w G' := by
  obtain ⟨w1, h1, g1⟩ := h
  obtain ⟨w2, h2, g2⟩ := k w1 g1
  exact ⟨w2, fun r hr => h1 r (h2 r hr), g2⟩
theorem rG_m {d : Nat} {w : ja_w} {G G' : ja_w → Prop} (h : rG d w G) (k : ∀ w', G w' → G' w') : rG d w G' := rG_t h (fun w' g => rG_0 (k w' g))
def rO {α : Type} (f2 : Int32) (f1 : Nat → Int32) (x : Nat ⊕ (α × pp_S)) (good : α → pp_S → ja_w → Prop) (w : ja_w) : Prop := match x with
  | .inl p => rb f2 f1 p w
  | .inr z => good z.1 z.2 w
theorem rG_b {α β : Type} {f2 : Int32} {f1 : Nat → Int32} {d : Nat} {w : ja_w} {r : pp_R α} {k : α → pp_S → pp_R β} {x : Nat ⊕ (β × pp_S)} {g1 : α → pp_S → ja_w → Prop} {g2 : β → pp_S → ja_w → Prop} (hx : pp_b r k = some x) (H : ∀ y, r = some y → rG d w (rO f2 f1 y g1)) (K : ∀ v s1 w1, r = some (.inr (v, s1)) → g1 v s1 w1 → k v s1 = some x → rG d w1 (rO f2 f1 x g2)) : rG d w (rO f2 f1 x g2) := by
  rcases pp_bE hx with ⟨p, hr, hp⟩ | ⟨v, s1, hr, hk⟩
  · subst hp
    exact H _ hr
  · exact rG_t (H _ hr) (fun w1 h1 => K v s1 w1 hr h1 hk)
section
variable {ts : List pp_T} {f2 : Int32} {f1 : Nat → Int32} {d : Nat} {T : rq_A} {X : rq_X} {I A : ja_I} {J : ja_J} {s : pp_S} {a b : Int32} {w' : ja_w}
/-- the world with the last task taken off -/
abbrev rpo (I : ja_I) : ja_I := ja_up I 0 12 (I 0 12 - 1)
theorem rq_pop (hw : rq ts f2 f1 ((a, b) :: T) X (I, A, J) s) : rq ts f2 f1 T X (rpo I, A, J) s := by
  obtain ⟨hK, h0, hP, hT, hR⟩ := hw
  have e : I 0 12 = nI (T.length + 1) := hT.1
  have l : T.length + 1 ≤ 1200 := hT.2.1
  refine ⟨hK, h0, hP, ⟨?_, by omega, hT.2.2.2.2⟩, hR⟩
  show I 0 12 - 1 = nI T.length
  rw [e, nI_pred]
theorem rs_row (hw : rq ts f2 f1 ((a, b) :: T) X (I, A, J) s) : ¬ (I 0 12 ≤ 0) ∧ I 0 16 = 0 ∧ vp_in (I 0 12 - 1) 1200 ∧ A 7 (I 0 12 - 1).toNatClampNeg = a ∧ A 8 (I 0 12 - 1).toNatClampNeg = b := by
  obtain ⟨hK, h0, hP, hT, hR⟩ := hw
  have e : I 0 12 = nI (T.length + 1) := hT.1
  have l : T.length + 1 ≤ 1200 := hT.2.1
  have e1 : I 0 12 - 1 = nI T.length := by rw [e, nI_pred]
  refine ⟨?_, hP.2.2.2.2, ?_, ?_, ?_⟩
  · rw [e]; exact nI_nle (by omega) (by omega)
  · rw [e1]; exact vp_in_nI (by omega) (by omega)
  · rw [e1, nI_clamp (by omega)]; exact hT.2.2.1
  · rw [e1, nI_clamp (by omega)]; exact hT.2.2.2.1
theorem rs_63 (hw : rq ts f2 f1 ((a, b) :: T) X (I, A, J) s) (ha : ¬ (15 : Int32) ≤ a) (h : er_E d 63 [.ref 0, .int a, .int b] (rpo I, A, J) (.inl none) w') : rs d (I, A, J) w' := by
  obtain ⟨h1, h2, h3, h4, h5⟩ := rs_row hw
  intro r hr
  refine br_67_19 ⟨fun n => absurd n h1, fun _ => ⟨fun _ => ⟨h3, h3, ?_⟩, fun n => absurd h2 n⟩⟩
  rw [h4, h5]
  exact ⟨fun n => absurd n ha, fun _ => ⟨w'.1, w'.2.1, w'.2.2, h, hr⟩⟩
theorem rs_64 (hw : rq ts f2 f1 ((a, b) :: T) X (I, A, J) s) (ha : (15 : Int32) ≤ a) (ha2 : ¬ (22 : Int32) ≤ a) (h : er_E d 64 [.ref 0, .int a, .int b] (rpo I, A, J) (.inl none) w') : rs d (I, A, J) w' := by
  obtain ⟨h1, h2, h3, h4, h5⟩ := rs_row hw
  intro r hr
  refine br_67_19 ⟨fun n => absurd n h1, fun _ => ⟨fun _ => ⟨h3, h3, ?_⟩, fun n => absurd h2 n⟩⟩
  rw [h4, h5]
  exact ⟨fun _ => ⟨fun n => absurd n ha2, fun _ => ⟨w'.1, w'.2.1, w'.2.2, h, hr⟩⟩, fun n => absurd ha n⟩
theorem rs_65 (hw : rq ts f2 f1 ((a, b) :: T) X (I, A, J) s) (ha : (15 : Int32) ≤ a) (ha2 : (22 : Int32) ≤ a) (h : er_E d 65 [.ref 0, .int a, .int b] (rpo I, A, J) (.inl none) w') : rs d (I, A, J) w' := by
  obtain ⟨h1, h2, h3, h4, h5⟩ := rs_row hw
  intro r hr
  refine br_67_19 ⟨fun n => absurd n h1, fun _ => ⟨fun _ => ⟨h3, h3, ?_⟩, fun n => absurd h2 n⟩⟩
  rw [h4, h5]
  exact ⟨fun _ => ⟨fun _ => ⟨w'.1, w'.2.1, w'.2.2, h, hr⟩, fun n => absurd ha2 n⟩, fun n => absurd ha n⟩
end
section
variable {ts : List pp_T} {f2 : Int32} {f1 : Nat → Int32} {d : Nat} {T : rq_A} {X : rq_X} {I A : ja_I} {J : ja_J} {s : pp_S} {b : Int32} {G : ja_w → Prop}
theorem rt_1 (hw : rq ts f2 f1 ((1, b) :: T) X (I, A, J) s) (h : ∃ (I1 A1 : ja_I) (J1 : ja_J), er_E d 61 [.ref 0] (rpo I, A, J) (.inl none) (I1, A1, J1) ∧ G (I1, A1, J1)) : rG (d + 1) (I, A, J) G := by
  obtain ⟨I1, A1, J1, hE, hG⟩ := h
  exact ⟨(I1, A1, J1), rs_63 hw (by decide) (er_63 (r := (_, _)) ⟨fun _ => ⟨I1, A1, J1, hE, rfl⟩, fun n => absurd rfl n⟩), hG⟩
theorem rt_2 (hw : rq ts f2 f1 ((2, b) :: T) X (I, A, J) s) (h : ∃ (I1 A1 : ja_I) (J1 : ja_J), er_E d 32 [.ref 0, .int b] (rpo I, A, J) (.inl none) (I1, A1, J1) ∧ G (I1, A1, J1)) : rG (d + 1) (I, A, J) G := by
  obtain ⟨I1, A1, J1, hE, hG⟩ := h
  exact ⟨(I1, A1, J1), rs_63 hw (by decide) (er_63 (r := (_, _)) ⟨fun n => absurd n (by decide), fun _ => ⟨fun _ => ⟨I1, A1, J1, hE, rfl⟩, fun n => absurd rfl n⟩⟩), hG⟩
theorem rt_3 (hw : rq ts f2 f1 ((3, b) :: T) X (I, A, J) s) (h : ∃ (I1 A1 : ja_I) (J1 : ja_J), er_E d 34 [.ref 0, .int b] (rpo I, A, J) (.inl none) (I1, A1, J1) ∧ G (I1, A1, J1)) : rG (d + 1) (I, A, J) G := by
  obtain ⟨I1, A1, J1, hE, hG⟩ := h
  exact ⟨(I1, A1, J1), rs_63 hw (by decide) (er_63 (r := (_, _)) ⟨fun n => absurd n (by decide), fun _ => ⟨fun n => absurd n (by decide), fun _ => ⟨fun _ => ⟨I1, A1, J1, hE, rfl⟩, fun n => absurd rfl n⟩⟩⟩), hG⟩
theorem rt_5 (hw : rq ts f2 f1 ((5, b) :: T) X (I, A, J) s) (h : ∃ (I1 A1 : ja_I) (J1 : ja_J), er_E d 35 [.ref 0, .int b] (rpo I, A, J) (.inl none) (I1, A1, J1) ∧ G (I1, A1, J1)) : rG (d + 1) (I, A, J) G := by
  obtain ⟨I1, A1, J1, hE, hG⟩ := h
  exact ⟨(I1, A1, J1), rs_63 hw (by decide) (er_63 (r := (_, _)) ⟨fun n => absurd n (by decide), fun _ => ⟨fun n => absurd n (by decide), fun _ => ⟨fun n => absurd n (by decide), fun _ => ⟨fun n => absurd n (by decide), fun _ => ⟨fun _ => ⟨I1, A1, J1, hE, rfl⟩, fun n => absurd rfl n⟩⟩⟩⟩⟩), hG⟩
theorem rt_6 (hw : rq ts f2 f1 ((6, b) :: T) X (I, A, J) s) (h : ∃ (I1 A1 : ja_I) (J1 : ja_J), er_E d 37 [.ref 0, .int b] (rpo I, A, J) (.inl none) (I1, A1, J1) ∧ G (I1, A1, J1)) : rG (d + 1) (I, A, J) G := by
  obtain ⟨I1, A1, J1, hE, hG⟩ := h
  exact ⟨(I1, A1, J1), rs_63 hw (by decide) (er_63 (r := (_, _)) ⟨fun n => absurd n (by decide), fun _ => ⟨fun n => absurd n (by decide), fun _ => ⟨fun n => absurd n (by decide), fun _ => ⟨fun n => absurd n (by decide), fun _ => ⟨fun n => absurd n (by decide), fun _ => ⟨fun _ => ⟨I1, A1, J1, hE, rfl⟩, fun n => absurd rfl n⟩⟩⟩⟩⟩⟩), hG⟩
theorem rt_7 (hw : rq ts f2 f1 ((7, b) :: T) X (I, A, J) s) (h : ∃ (I1 A1 : ja_I) (J1 : ja_J), er_E d 38 [.ref 0] (rpo I, A, J) (.inl none) (I1, A1, J1) ∧ G (I1, A1, J1)) : rG (d + 1) (I, A, J) G := by
  obtain ⟨I1, A1, J1, hE, hG⟩ := h
  exact ⟨(I1, A1, J1), rs_63 hw (by decide) (er_63 (r := (_, _)) ⟨fun n => absurd n (by decide), fun _ => ⟨fun n => absurd n (by decide), fun _ => ⟨fun n => absurd n (by decide), fun _ => ⟨fun n => absurd n (by decide), fun _ => ⟨fun n => absurd n (by decide), fun _ => ⟨fun n => absurd n (by decide), fun _ => ⟨fun _ => ⟨I1, A1, J1, hE, rfl⟩, fun n => absurd rfl n⟩⟩⟩⟩⟩⟩⟩), hG⟩
theorem rt_8 (hw : rq ts f2 f1 ((8, b) :: T) X (I, A, J) s) (h : ∃ (I1 A1 : ja_I) (J1 : ja_J), er_E d 62 [.ref 0, .int b] (rpo I, A, J) (.inl none) (I1, A1, J1) ∧ G (I1, A1, J1)) : rG (d + 1) (I, A, J) G := by
  obtain ⟨I1, A1, J1, hE, hG⟩ := h
  exact ⟨(I1, A1, J1), rs_63 hw (by decide) (er_63 (r := (_, _)) ⟨fun n => absurd n (by decide), fun _ => ⟨fun n => absurd n (by decide), fun _ => ⟨fun n => absurd n (by decide), fun _ => ⟨fun n => absurd n (by decide), fun _ => ⟨fun n => absurd n (by decide), fun _ => ⟨fun n => absurd n (by decide), fun _ => ⟨fun n => absurd n (by decide), fun _ => ⟨fun _ => ⟨I1, A1, J1, hE, rfl⟩, fun n => absurd rfl n⟩⟩⟩⟩⟩⟩⟩⟩), hG⟩
theorem rt_9 (hw : rq ts f2 f1 ((9, b) :: T) X (I, A, J) s) (h : ∃ (I1 A1 : ja_I) (J1 : ja_J), er_E d 40 [.ref 0] (rpo I, A, J) (.inl none) (I1, A1, J1) ∧ G (I1, A1, J1)) : rG (d + 1) (I, A, J) G := by
  obtain ⟨I1, A1, J1, hE, hG⟩ := h
  exact ⟨(I1, A1, J1), rs_63 hw (by decide) (er_63 (r := (_, _)) ⟨fun n => absurd n (by decide), fun _ => ⟨fun n => absurd n (by decide), fun _ => ⟨fun n => absurd n (by decide), fun _ => ⟨fun n => absurd n (by decide), fun _ => ⟨fun n => absurd n (by decide), fun _ => ⟨fun n => absurd n (by decide), fun _ => ⟨fun n => absurd n (by decide), fun _ => ⟨fun n => absurd n (by decide), fun _ => ⟨fun _ => ⟨I1, A1, J1, hE, rfl⟩, fun n => absurd rfl n⟩⟩⟩⟩⟩⟩⟩⟩⟩), hG⟩
theorem rt_10 (hw : rq ts f2 f1 ((10, b) :: T) X (I, A, J) s) (h : ∃ (I1 A1 : ja_I) (J1 : ja_J), er_E d 41 [.ref 0, .int b] (rpo I, A, J) (.inl none) (I1, A1, J1) ∧ G (I1, A1, J1)) : rG (d + 1) (I, A, J) G := by
  obtain ⟨I1, A1, J1, hE, hG⟩ := h
  exact ⟨(I1, A1, J1), rs_63 hw (by decide) (er_63 (r := (_, _)) ⟨fun n => absurd n (by decide), fun _ => ⟨fun n => absurd n (by decide), fun _ => ⟨fun n => absurd n (by decide), fun _ => ⟨fun n => absurd n (by decide), fun _ => ⟨fun n => absurd n (by decide), fun _ => ⟨fun n => absurd n (by decide), fun _ => ⟨fun n => absurd n (by decide), fun _ => ⟨fun n => absurd n (by decide), fun _ => ⟨fun n => absurd n (by decide), fun _ => ⟨fun _ => ⟨I1, A1, J1, hE, rfl⟩, fun n => absurd rfl n⟩⟩⟩⟩⟩⟩⟩⟩⟩⟩), hG⟩
theorem rt_13 (hw : rq ts f2 f1 ((13, b) :: T) X (I, A, J) s) (h : ∃ (I1 A1 : ja_I) (J1 : ja_J), er_E d 42 [.ref 0] (rpo I, A, J) (.inl none) (I1, A1, J1) ∧ G (I1, A1, J1)) : rG (d + 1) (I, A, J) G := by
  obtain ⟨I1, A1, J1, hE, hG⟩ := h
  exact ⟨(I1, A1, J1), rs_63 hw (by decide) (er_63 (r := (_, _)) ⟨fun n => absurd n (by decide), fun _ => ⟨fun n => absurd n (by decide), fun _ => ⟨fun n => absurd n (by decide), fun _ => ⟨fun n => absurd n (by decide), fun _ => ⟨fun n => absurd n (by decide), fun _ => ⟨fun n => absurd n (by decide), fun _ => ⟨fun n => absurd n (by decide), fun _ => ⟨fun n => absurd n (by decide), fun _ => ⟨fun n => absurd n (by decide), fun _ => ⟨fun n => absurd n (by decide), fun _ => ⟨fun n => absurd n (by decide), fun _ => ⟨fun n => absurd n (by decide), fun _ => ⟨fun _ => ⟨I1, A1, J1, hE, rfl⟩, fun n => absurd rfl n⟩⟩⟩⟩⟩⟩⟩⟩⟩⟩⟩⟩⟩), hG⟩
theorem rt_14 (hw : rq ts f2 f1 ((14, b) :: T) X (I, A, J) s) (h : ∃ (I1 A1 : ja_I) (J1 : ja_J), er_E d 43 [.ref 0] (rpo I, A, J) (.inl none) (I1, A1, J1) ∧ G (I1, A1, J1)) : rG (d + 1) (I, A, J) G := by
  obtain ⟨I1, A1, J1, hE, hG⟩ := h
  exact ⟨(I1, A1, J1), rs_63 hw (by decide) (er_63 (r := (_, _)) ⟨fun n => absurd n (by decide), fun _ => ⟨fun n => absurd n (by decide), fun _ => ⟨fun n => absurd n (by decide), fun _ => ⟨fun n => absurd n (by decide), fun _ => ⟨fun n => absurd n (by decide), fun _ => ⟨fun n => absurd n (by decide), fun _ => ⟨fun n => absurd n (by decide), fun _ => ⟨fun n => absurd n (by decide), fun _ => ⟨fun n => absurd n (by decide), fun _ => ⟨fun n => absurd n (by decide), fun _ => ⟨fun n => absurd n (by decide), fun _ => ⟨fun n => absurd n (by decide), fun _ => ⟨fun n => absurd n (by decide), fun _ => ⟨I1, A1, J1, hE, rfl⟩⟩⟩⟩⟩⟩⟩⟩⟩⟩⟩⟩⟩⟩), hG⟩
theorem rt_15 (hw : rq ts f2 f1 ((15, b) :: T) X (I, A, J) s) (h : ∃ (I1 A1 : ja_I) (J1 : ja_J), er_E d 44 [.ref 0, .int b] (rpo I, A, J) (.inl none) (I1, A1, J1) ∧ G (I1, A1, J1)) : rG (d + 1) (I, A, J) G := by
  obtain ⟨I1, A1, J1, hE, hG⟩ := h
  exact ⟨(I1, A1, J1), rs_64 hw (by decide) (by decide) (er_64 (r := (_, _)) ⟨fun _ => ⟨I1, A1, J1, hE, rfl⟩, fun n => absurd rfl n⟩), hG⟩
theorem rt_16 (hw : rq ts f2 f1 ((16, b) :: T) X (I, A, J) s) (h : ∃ (I1 A1 : ja_I) (J1 : ja_J), er_E d 45 [.ref 0] (rpo I, A, J) (.inl none) (I1, A1, J1) ∧ G (I1, A1, J1)) : rG (d + 1) (I, A, J) G := by
  obtain ⟨I1, A1, J1, hE, hG⟩ := h
  exact ⟨(I1, A1, J1), rs_64 hw (by decide) (by decide) (er_64 (r := (_, _)) ⟨fun n => absurd n (by decide), fun _ => ⟨fun _ => ⟨I1, A1, J1, hE, rfl⟩, fun n => absurd rfl n⟩⟩), hG⟩
theorem rt_17 (hw : rq ts f2 f1 ((17, b) :: T) X (I, A, J) s) (h : ∃ (I1 A1 : ja_I) (J1 : ja_J), er_E d 47 [.ref 0] (rpo I, A, J) (.inl none) (I1, A1, J1) ∧ G (I1, A1, J1)) : rG (d + 1) (I, A, J) G := by
  obtain ⟨I1, A1, J1, hE, hG⟩ := h
  exact ⟨(I1, A1, J1), rs_64 hw (by decide) (by decide) (er_64 (r := (_, _)) ⟨fun n => absurd n (by decide), fun _ => ⟨fun n => absurd n (by decide), fun _ => ⟨fun _ => ⟨I1, A1, J1, hE, rfl⟩, fun n => absurd rfl n⟩⟩⟩), hG⟩
theorem rt_18 (hw : rq ts f2 f1 ((18, b) :: T) X (I, A, J) s) (h : ∃ (I1 A1 : ja_I) (J1 : ja_J), er_E d 16 [.ref 0, .int b, .int 1] (rpo I, A, J) (.inl none) (I1, A1, J1) ∧ G (I1, A1, J1)) : rG (d + 1) (I, A, J) G := by
  obtain ⟨I1, A1, J1, hE, hG⟩ := h
  exact ⟨(I1, A1, J1), rs_64 hw (by decide) (by decide) (er_64 (r := (_, _)) ⟨fun n => absurd n (by decide), fun _ => ⟨fun n => absurd n (by decide), fun _ => ⟨fun n => absurd n (by decide), fun _ => ⟨fun _ => ⟨I1, A1, J1, hE, rfl⟩, fun n => absurd rfl n⟩⟩⟩⟩), hG⟩
theorem rt_19 (hw : rq ts f2 f1 ((19, b) :: T) X (I, A, J) s) (h : ∃ (I1 A1 : ja_I) (J1 : ja_J), er_E d 26 [.ref 0, .int b] (rpo I, A, J) (.inl none) (I1, A1, J1) ∧ G (I1, A1, J1)) : rG (d + 1) (I, A, J) G := by
  obtain ⟨I1, A1, J1, hE, hG⟩ := h
  exact ⟨(I1, A1, J1), rs_64 hw (by decide) (by decide) (er_64 (r := (_, _)) ⟨fun n => absurd n (by decide), fun _ => ⟨fun n => absurd n (by decide), fun _ => ⟨fun n => absurd n (by decide), fun _ => ⟨fun n => absurd n (by decide), fun _ => ⟨fun _ => ⟨I1, A1, J1, hE, rfl⟩, fun n => absurd rfl n⟩⟩⟩⟩⟩), hG⟩
theorem rt_20 (hw : rq ts f2 f1 ((20, b) :: T) X (I, A, J) s) (h : ∃ (I1 A1 : ja_I) (J1 : ja_J), er_E d 48 [.ref 0] (rpo I, A, J) (.inl none) (I1, A1, J1) ∧ G (I1, A1, J1)) : rG (d + 1) (I, A, J) G := by
  obtain ⟨I1, A1, J1, hE, hG⟩ := h
  exact ⟨(I1, A1, J1), rs_64 hw (by decide) (by decide) (er_64 (r := (_, _)) ⟨fun n => absurd n (by decide), fun _ => ⟨fun n => absurd n (by decide), fun _ => ⟨fun n => absurd n (by decide), fun _ => ⟨fun n => absurd n (by decide), fun _ => ⟨fun n => absurd n (by decide), fun _ => ⟨fun _ => ⟨I1, A1, J1, hE, rfl⟩, fun n => absurd rfl n⟩⟩⟩⟩⟩⟩), hG⟩
theorem rt_23 (hw : rq ts f2 f1 ((23, b) :: T) X (I, A, J) s) (h : ∃ (I1 A1 : ja_I) (J1 : ja_J), er_E d 49 [.ref 0] (rpo I, A, J) (.inl none) (I1, A1, J1) ∧ G (I1, A1, J1)) : rG (d + 1) (I, A, J) G := by
  obtain ⟨I1, A1, J1, hE, hG⟩ := h
  exact ⟨(I1, A1, J1), rs_65 hw (by decide) (by decide) (er_65 (r := (_, _)) ⟨fun n => absurd n (by decide), fun _ => ⟨fun _ => ⟨I1, A1, J1, hE, rfl⟩, fun n => absurd rfl n⟩⟩), hG⟩
theorem rt_25 (hw : rq ts f2 f1 ((25, b) :: T) X (I, A, J) s) (h : ∃ (I1 A1 : ja_I) (J1 : ja_J), er_E d 50 [.ref 0, .int 43, .int 45, .int 26, .int 25] (rpo I, A, J) (.inl none) (I1, A1, J1) ∧ G (I1, A1, J1)) : rG (d + 1) (I, A, J) G := by
  obtain ⟨I1, A1, J1, hE, hG⟩ := h
  exact ⟨(I1, A1, J1), rs_65 hw (by decide) (by decide) (er_65 (r := (_, _)) ⟨fun n => absurd n (by decide), fun _ => ⟨fun n => absurd n (by decide), fun _ => ⟨fun n => absurd n (by decide), fun _ => ⟨fun _ => ⟨I1, A1, J1, hE, rfl⟩, fun n => absurd rfl n⟩⟩⟩⟩), hG⟩
theorem rt_27 (hw : rq ts f2 f1 ((27, b) :: T) X (I, A, J) s) (h : ∃ (I1 A1 : ja_I) (J1 : ja_J), er_E d 50 [.ref 0, .int 42, .int 47, .int 28, .int 27] (rpo I, A, J) (.inl none) (I1, A1, J1) ∧ G (I1, A1, J1)) : rG (d + 1) (I, A, J) G := by
  obtain ⟨I1, A1, J1, hE, hG⟩ := h
  exact ⟨(I1, A1, J1), rs_65 hw (by decide) (by decide) (er_65 (r := (_, _)) ⟨fun n => absurd n (by decide), fun _ => ⟨fun n => absurd n (by decide), fun _ => ⟨fun n => absurd n (by decide), fun _ => ⟨fun n => absurd n (by decide), fun _ => ⟨fun n => absurd n (by decide), fun _ => ⟨fun _ => ⟨I1, A1, J1, hE, rfl⟩, fun n => absurd rfl n⟩⟩⟩⟩⟩⟩), hG⟩
theorem rt_28 (hw : rq ts f2 f1 ((28, b) :: T) X (I, A, J) s) (h : ∃ (I1 A1 : ja_I) (J1 : ja_J), er_E d 53 [.ref 0] (rpo I, A, J) (.inl none) (I1, A1, J1) ∧ G (I1, A1, J1)) : rG (d + 1) (I, A, J) G := by
  obtain ⟨I1, A1, J1, hE, hG⟩ := h
  exact ⟨(I1, A1, J1), rs_65 hw (by decide) (by decide) (er_65 (r := (_, _)) ⟨fun n => absurd n (by decide), fun _ => ⟨fun n => absurd n (by decide), fun _ => ⟨fun n => absurd n (by decide), fun _ => ⟨fun n => absurd n (by decide), fun _ => ⟨fun n => absurd n (by decide), fun _ => ⟨fun n => absurd n (by decide), fun _ => ⟨fun _ => ⟨I1, A1, J1, hE, rfl⟩, fun n => absurd rfl n⟩⟩⟩⟩⟩⟩⟩), hG⟩
theorem rt_29 (hw : rq ts f2 f1 ((29, b) :: T) X (I, A, J) s) (h : ∃ (I1 A1 : ja_I) (J1 : ja_J), er_E d 54 [.ref 0, .int b] (rpo I, A, J) (.inl none) (I1, A1, J1) ∧ G (I1, A1, J1)) : rG (d + 1) (I, A, J) G := by
  obtain ⟨I1, A1, J1, hE, hG⟩ := h
  exact ⟨(I1, A1, J1), rs_65 hw (by decide) (by decide) (er_65 (r := (_, _)) ⟨fun n => absurd n (by decide), fun _ => ⟨fun n => absurd n (by decide), fun _ => ⟨fun n => absurd n (by decide), fun _ => ⟨fun n => absurd n (by decide), fun _ => ⟨fun n => absurd n (by decide), fun _ => ⟨fun n => absurd n (by decide), fun _ => ⟨fun n => absurd n (by decide), fun _ => ⟨fun _ => ⟨I1, A1, J1, hE, rfl⟩, fun n => absurd rfl n⟩⟩⟩⟩⟩⟩⟩⟩), hG⟩
theorem rt_30 (hw : rq ts f2 f1 ((30, b) :: T) X (I, A, J) s) (h : ∃ (I1 A1 : ja_I) (J1 : ja_J), er_E d 55 [.ref 0] (rpo I, A, J) (.inl none) (I1, A1, J1) ∧ G (I1, A1, J1)) : rG (d + 1) (I, A, J) G := by
  obtain ⟨I1, A1, J1, hE, hG⟩ := h
  exact ⟨(I1, A1, J1), rs_65 hw (by decide) (by decide) (er_65 (r := (_, _)) ⟨fun n => absurd n (by decide), fun _ => ⟨fun n => absurd n (by decide), fun _ => ⟨fun n => absurd n (by decide), fun _ => ⟨fun n => absurd n (by decide), fun _ => ⟨fun n => absurd n (by decide), fun _ => ⟨fun n => absurd n (by decide), fun _ => ⟨fun n => absurd n (by decide), fun _ => ⟨fun n => absurd n (by decide), fun _ => ⟨fun _ => ⟨I1, A1, J1, hE, rfl⟩, fun n => absurd rfl n⟩⟩⟩⟩⟩⟩⟩⟩⟩), hG⟩
theorem rt_31 (hw : rq ts f2 f1 ((31, b) :: T) X (I, A, J) s) (h : ∃ (I1 A1 : ja_I) (J1 : ja_J), er_E d 57 [.ref 0] (rpo I, A, J) (.inl none) (I1, A1, J1) ∧ G (I1, A1, J1)) : rG (d + 1) (I, A, J) G := by
  obtain ⟨I1, A1, J1, hE, hG⟩ := h
  exact ⟨(I1, A1, J1), rs_65 hw (by decide) (by decide) (er_65 (r := (_, _)) ⟨fun n => absurd n (by decide), fun _ => ⟨fun n => absurd n (by decide), fun _ => ⟨fun n => absurd n (by decide), fun _ => ⟨fun n => absurd n (by decide), fun _ => ⟨fun n => absurd n (by decide), fun _ => ⟨fun n => absurd n (by decide), fun _ => ⟨fun n => absurd n (by decide), fun _ => ⟨fun n => absurd n (by decide), fun _ => ⟨fun n => absurd n (by decide), fun _ => ⟨fun _ => ⟨I1, A1, J1, hE, rfl⟩, fun n => absurd rfl n⟩⟩⟩⟩⟩⟩⟩⟩⟩⟩), hG⟩
theorem rt_32 (hw : rq ts f2 f1 ((32, b) :: T) X (I, A, J) s) (h : ∃ (I1 A1 : ja_I) (J1 : ja_J), er_E d 56 [.ref 0, .int b] (rpo I, A, J) (.inl none) (I1, A1, J1) ∧ G (I1, A1, J1)) : rG (d + 1) (I, A, J) G := by
  obtain ⟨I1, A1, J1, hE, hG⟩ := h
  exact ⟨(I1, A1, J1), rs_65 hw (by decide) (by decide) (er_65 (r := (_, _)) ⟨fun n => absurd n (by decide), fun _ => ⟨fun n => absurd n (by decide), fun _ => ⟨fun n => absurd n (by decide), fun _ => ⟨fun n => absurd n (by decide), fun _ => ⟨fun n => absurd n (by decide), fun _ => ⟨fun n => absurd n (by decide), fun _ => ⟨fun n => absurd n (by decide), fun _ => ⟨fun n => absurd n (by decide), fun _ => ⟨fun n => absurd n (by decide), fun _ => ⟨fun n => absurd n (by decide), fun _ => ⟨fun _ => ⟨I1, A1, J1, hE, rfl⟩, fun n => absurd rfl n⟩⟩⟩⟩⟩⟩⟩⟩⟩⟩⟩), hG⟩
theorem rt_33 (hw : rq ts f2 f1 ((33, b) :: T) X (I, A, J) s) (h : ∃ (I1 A1 : ja_I) (J1 : ja_J), er_E d 58 [.ref 0] (rpo I, A, J) (.inl none) (I1, A1, J1) ∧ G (I1, A1, J1)) : rG (d + 1) (I, A, J) G := by
  obtain ⟨I1, A1, J1, hE, hG⟩ := h
  exact ⟨(I1, A1, J1), rs_65 hw (by decide) (by decide) (er_65 (r := (_, _)) ⟨fun n => absurd n (by decide), fun _ => ⟨fun n => absurd n (by decide), fun _ => ⟨fun n => absurd n (by decide), fun _ => ⟨fun n => absurd n (by decide), fun _ => ⟨fun n => absurd n (by decide), fun _ => ⟨fun n => absurd n (by decide), fun _ => ⟨fun n => absurd n (by decide), fun _ => ⟨fun n => absurd n (by decide), fun _ => ⟨fun n => absurd n (by decide), fun _ => ⟨fun n => absurd n (by decide), fun _ => ⟨fun n => absurd n (by decide), fun _ => ⟨fun _ => ⟨I1, A1, J1, hE, rfl⟩, fun n => absurd rfl n⟩⟩⟩⟩⟩⟩⟩⟩⟩⟩⟩⟩), hG⟩
theorem rt_34 (hw : rq ts f2 f1 ((34, b) :: T) X (I, A, J) s) (h : ∃ (I1 A1 : ja_I) (J1 : ja_J), er_E d 59 [.ref 0] (rpo I, A, J) (.inl none) (I1, A1, J1) ∧ G (I1, A1, J1)) : rG (d + 1) (I, A, J) G := by
  obtain ⟨I1, A1, J1, hE, hG⟩ := h
  exact ⟨(I1, A1, J1), rs_65 hw (by decide) (by decide) (er_65 (r := (_, _)) ⟨fun n => absurd n (by decide), fun _ => ⟨fun n => absurd n (by decide), fun _ => ⟨fun n => absurd n (by decide), fun _ => ⟨fun n => absurd n (by decide), fun _ => ⟨fun n => absurd n (by decide), fun _ => ⟨fun n => absurd n (by decide), fun _ => ⟨fun n => absurd n (by decide), fun _ => ⟨fun n => absurd n (by decide), fun _ => ⟨fun n => absurd n (by decide), fun _ => ⟨fun n => absurd n (by decide), fun _ => ⟨fun n => absurd n (by decide), fun _ => ⟨fun n => absurd n (by decide), fun _ => ⟨fun _ => ⟨I1, A1, J1, hE, rfl⟩, fun n => absurd rfl n⟩⟩⟩⟩⟩⟩⟩⟩⟩⟩⟩⟩⟩), hG⟩
theorem rt_35 (hw : rq ts f2 f1 ((35, b) :: T) X (I, A, J) s) (h : ∃ (I1 A1 : ja_I) (J1 : ja_J), er_E d 60 [.ref 0, .int b] (rpo I, A, J) (.inl none) (I1, A1, J1) ∧ G (I1, A1, J1)) : rG (d + 1) (I, A, J) G := by
  obtain ⟨I1, A1, J1, hE, hG⟩ := h
  exact ⟨(I1, A1, J1), rs_65 hw (by decide) (by decide) (er_65 (r := (_, _)) ⟨fun n => absurd n (by decide), fun _ => ⟨fun n => absurd n (by decide), fun _ => ⟨fun n => absurd n (by decide), fun _ => ⟨fun n => absurd n (by decide), fun _ => ⟨fun n => absurd n (by decide), fun _ => ⟨fun n => absurd n (by decide), fun _ => ⟨fun n => absurd n (by decide), fun _ => ⟨fun n => absurd n (by decide), fun _ => ⟨fun n => absurd n (by decide), fun _ => ⟨fun n => absurd n (by decide), fun _ => ⟨fun n => absurd n (by decide), fun _ => ⟨fun n => absurd n (by decide), fun _ => ⟨fun n => absurd n (by decide), fun _ => ⟨fun _ => ⟨I1, A1, J1, hE, rfl⟩, fun n => absurd rfl n⟩⟩⟩⟩⟩⟩⟩⟩⟩⟩⟩⟩⟩⟩), hG⟩
theorem rt_39 (hw : rq ts f2 f1 ((39, b) :: T) X (I, A, J) s) (h : ∃ (I1 A1 : ja_I) (J1 : ja_J), er_E d 16 [.ref 0, .int b, .int 0] (rpo I, A, J) (.inl none) (I1, A1, J1) ∧ G (I1, A1, J1)) : rG (d + 1) (I, A, J) G := by
  obtain ⟨I1, A1, J1, hE, hG⟩ := h
  exact ⟨(I1, A1, J1), rs_65 hw (by decide) (by decide) (er_65 (r := (_, _)) ⟨fun n => absurd n (by decide), fun _ => ⟨fun n => absurd n (by decide), fun _ => ⟨fun n => absurd n (by decide), fun _ => ⟨fun n => absurd n (by decide), fun _ => ⟨fun n => absurd n (by decide), fun _ => ⟨fun n => absurd n (by decide), fun _ => ⟨fun n => absurd n (by decide), fun _ => ⟨fun n => absurd n (by decide), fun _ => ⟨fun n => absurd n (by decide), fun _ => ⟨fun n => absurd n (by decide), fun _ => ⟨fun n => absurd n (by decide), fun _ => ⟨fun n => absurd n (by decide), fun _ => ⟨fun n => absurd n (by decide), fun _ => ⟨fun n => absurd n (by decide), fun _ => ⟨fun n => absurd n (by decide), fun _ => ⟨fun n => absurd n (by decide), fun _ => ⟨fun n => absurd n (by decide), fun _ => ⟨fun _ => ⟨I1, A1, J1, hE, rfl⟩, fun n => absurd rfl n⟩⟩⟩⟩⟩⟩⟩⟩⟩⟩⟩⟩⟩⟩⟩⟩⟩⟩), hG⟩
/-- NAME_BACK -/
theorem rt_11 {st nm fs pl : Int32} {wl : List Int32} (hw : rq ts f2 f1 ((11, b) :: T) (st, nm, fs, wl, pl) (I, A, J) s) : rG (d + 1) (I, A, J) (fun w => rq ts f2 f1 T (st, b, fs, wl, pl) w s) := by
  obtain ⟨hK, h0, hP, hT, hS, hN, hG, hF, hL, hX⟩ := rq_pop hw
  exact ⟨_, rs_63 hw (by decide) (er_63 (r := (_, _)) ⟨fun n => absurd n (by decide), fun _ => ⟨fun n => absurd n (by decide), fun _ => ⟨fun n => absurd n (by decide), fun _ => ⟨fun n => absurd n (by decide), fun _ => ⟨fun n => absurd n (by decide), fun _ => ⟨fun n => absurd n (by decide), fun _ => ⟨fun n => absurd n (by decide), fun _ => ⟨fun n => absurd n (by decide), fun _ => ⟨fun n => absurd n (by decide), fun _ => ⟨fun n => absurd n (by decide), fun _ => ⟨fun _ => rfl, fun n => absurd rfl n⟩⟩⟩⟩⟩⟩⟩⟩⟩⟩⟩), hK, h0, hP, hT, hS, hN, hG, hF, hL, hX.1, rfl, hX.2.2⟩
/-- START_BACK -/
theorem rt_12 {st nm fs pl : Int32} {wl : List Int32} (hw : rq ts f2 f1 ((12, b) :: T) (st, nm, fs, wl, pl) (I, A, J) s) : rG (d + 1) (I, A, J) (fun w => rq ts f2 f1 T (b, nm, fs, wl, pl) w s) := by
  obtain ⟨hK, h0, hP, hT, hS, hN, hG, hF, hL, hX⟩ := rq_pop hw
  exact ⟨_, rs_63 hw (by decide) (er_63 (r := (_, _)) ⟨fun n => absurd n (by decide), fun _ => ⟨fun n => absurd n (by decide), fun _ => ⟨fun n => absurd n (by decide), fun _ => ⟨fun n => absurd n (by decide), fun _ => ⟨fun n => absurd n (by decide), fun _ => ⟨fun n => absurd n (by decide), fun _ => ⟨fun n => absurd n (by decide), fun _ => ⟨fun n => absurd n (by decide), fun _ => ⟨fun n => absurd n (by decide), fun _ => ⟨fun n => absurd n (by decide), fun _ => ⟨fun n => absurd n (by decide), fun _ => ⟨fun _ => rfl, fun n => absurd rfl n⟩⟩⟩⟩⟩⟩⟩⟩⟩⟩⟩⟩), hK, h0, hP, hT, hS, hN, hG, hF, hL, rfl, hX.2⟩
/-- LESS_OPEN -/
theorem rt_21 {s1 : pp_S} {v : Nat} (hw : rq ts f2 f1 ((21, b) :: T) X (I, A, J) s) (hx : pp_es s = some (.inr (v, s1))) : rG (d + 1) (I, A, J) (fun w => rq ts f2 f1 T X w s1) := by
  obtain ⟨pos, op, cc, tn, tl, wt, pn, scs, sd, sig, frm, rl, mn, dc, fc⟩ := s
  simp only [pp_es] at hx
  split at hx
  · cases hx
  · rename_i h8
    cases hx
    obtain ⟨hK, h0, hP, hR⟩ := rq_pop hw
    have e : I 0 15 = nI op := hP.2.2.1
    have l : op ≤ 8 := hP.2.2.2.1
    refine ⟨_, rs_64 hw (by decide) (by decide) (er_64 (r := (_, _)) ⟨fun n => absurd n (by decide), fun _ => ⟨fun n => absurd n (by decide), fun _ => ⟨fun n => absurd n (by decide), fun _ => ⟨fun n => absurd n (by decide), fun _ => ⟨fun n => absurd n (by decide), fun _ => ⟨fun n => absurd n (by decide), fun _ => rfl⟩⟩⟩⟩⟩⟩), hK, h0, ⟨hP.1, hP.2.1, ?_, by show op - 1 ≤ 8; omega, hP.2.2.2.2⟩, hR⟩
    show I 0 15 - 1 = nI (op - 1)
    rw [e]
    obtain ⟨o, rfl⟩ : ∃ o, op = o + 1 := ⟨op - 1, by omega⟩
    exact nI_pred o
theorem rt_22 (hw : rq ts f2 f1 ((22, b) :: T) X (I, A, J) s) (hl : T.length < 1190) : rG (d + 2) (I, A, J) (fun w => rq ts f2 f1 ((24, 0) :: (23, 0) :: T) X w s) := by
  obtain ⟨I1, A1, J1, hE1, hw1⟩ := rl_11 (d := d) (rq_pop hw) (by omega) 23 0
  obtain ⟨I2, A2, J2, hE2, hw2⟩ := rl_11 (d := d) hw1 (by rw [List.length_cons]; omega) 24 0
  exact ⟨_, rs_65 hw (by decide) (by decide) (er_65 (r := (_, _)) ⟨fun _ => ⟨I1, A1, J1, hE1, I2, A2, J2, hE2, rfl⟩, fun n => absurd rfl n⟩), hw2⟩
theorem rt_24 (hw : rq ts f2 f1 ((24, b) :: T) X (I, A, J) s) (hl : T.length < 1190) : rG (d + 2) (I, A, J) (fun w => rq ts f2 f1 ((26, 0) :: (25, 0) :: T) X w s) := by
  obtain ⟨I1, A1, J1, hE1, hw1⟩ := rl_11 (d := d) (rq_pop hw) (by omega) 25 0
  obtain ⟨I2, A2, J2, hE2, hw2⟩ := rl_11 (d := d) hw1 (by rw [List.length_cons]; omega) 26 0
  exact ⟨_, rs_65 hw (by decide) (by decide) (er_65 (r := (_, _)) ⟨fun n => absurd n (by decide), fun _ => ⟨fun n => absurd n (by decide), fun _ => ⟨fun _ => ⟨I1, A1, J1, hE1, I2, A2, J2, hE2, rfl⟩, fun n => absurd rfl n⟩⟩⟩), hw2⟩
theorem rt_26 (hw : rq ts f2 f1 ((26, b) :: T) X (I, A, J) s) (hl : T.length < 1190) : rG (d + 2) (I, A, J) (fun w => rq ts f2 f1 ((28, 0) :: (27, 0) :: T) X w s) := by
  obtain ⟨I1, A1, J1, hE1, hw1⟩ := rl_11 (d := d) (rq_pop hw) (by omega) 27 0
  obtain ⟨I2, A2, J2, hE2, hw2⟩ := rl_11 (d := d) hw1 (by rw [List.length_cons]; omega) 28 0
  exact ⟨_, rs_65 hw (by decide) (by decide) (er_65 (r := (_, _)) ⟨fun n => absurd n (by decide), fun _ => ⟨fun n => absurd n (by decide), fun _ => ⟨fun n => absurd n (by decide), fun _ => ⟨fun n => absurd n (by decide), fun _ => ⟨fun _ => ⟨I1, A1, J1, hE1, I2, A2, J2, hE2, rfl⟩, fun n => absurd rfl n⟩⟩⟩⟩⟩), hw2⟩
/-- OPERATOR -/
theorem rt_36 {st nm fs pl : Int32} {wl : List Int32} {s1 : pp_S} {v : Nat} (hw : rq ts f2 f1 ((36, b) :: T) (st, nm, fs, wl, pl) (I, A, J) s) (hx : pp_pf [b] s = some (.inr (v, s1))) : rG (d + 2) (I, A, J) (fun w => rq ts f2 f1 T (st, nm, fs, wl, 0) w s1) := by
  obtain ⟨I1, A1, J1, ⟨hE1, _⟩, hw1⟩ := rl_26 (d := d) (rq_pop hw) hx
  obtain ⟨hK, h0, hP, hT, hS, hN, hG, hF, hL, hX⟩ := hw1
  exact ⟨_, rs_65 hw (by decide) (by decide) (er_65 (r := (_, _)) ⟨fun n => absurd n (by decide), fun _ => ⟨fun n => absurd n (by decide), fun _ => ⟨fun n => absurd n (by decide), fun _ => ⟨fun n => absurd n (by decide), fun _ => ⟨fun n => absurd n (by decide), fun _ => ⟨fun n => absurd n (by decide), fun _ => ⟨fun n => absurd n (by decide), fun _ => ⟨fun n => absurd n (by decide), fun _ => ⟨fun n => absurd n (by decide), fun _ => ⟨fun n => absurd n (by decide), fun _ => ⟨fun n => absurd n (by decide), fun _ => ⟨fun n => absurd n (by decide), fun _ => ⟨fun n => absurd n (by decide), fun _ => ⟨fun n => absurd n (by decide), fun _ => ⟨fun _ => ⟨I1, A1, J1, hE1, rfl⟩, fun n => absurd rfl n⟩⟩⟩⟩⟩⟩⟩⟩⟩⟩⟩⟩⟩⟩⟩), hK, h0, hP, hT, hS, hN, hG, hF, hL, hX.1, hX.2.1, hX.2.2.1, hX.2.2.2.1, hX.2.2.2.2.1, hX.2.2.2.2.2.1, rfl⟩
/-- PLACE -/
theorem rt_37 {st nm fs pl : Int32} {wl : List Int32} (hw : rq ts f2 f1 ((37, b) :: T) (st, nm, fs, wl, pl) (I, A, J) s) : rG (d + 1) (I, A, J) (fun w => rq ts f2 f1 T (st, nm, fs, wl, 1) w s) := by
  obtain ⟨hK, h0, hP, hT, hS, hN, hG, hF, hL, hX⟩ := rq_pop hw
  exact ⟨_, rs_65 hw (by decide) (by decide) (er_65 (r := (_, _)) ⟨fun n => absurd n (by decide), fun _ => ⟨fun n => absurd n (by decide), fun _ => ⟨fun n => absurd n (by decide), fun _ => ⟨fun n => absurd n (by decide), fun _ => ⟨fun n => absurd n (by decide), fun _ => ⟨fun n => absurd n (by decide), fun _ => ⟨fun n => absurd n (by decide), fun _ => ⟨fun n => absurd n (by decide), fun _ => ⟨fun n => absurd n (by decide), fun _ => ⟨fun n => absurd n (by decide), fun _ => ⟨fun n => absurd n (by decide), fun _ => ⟨fun n => absurd n (by decide), fun _ => ⟨fun n => absurd n (by decide), fun _ => ⟨fun n => absurd n (by decide), fun _ => ⟨fun n => absurd n (by decide), fun _ => ⟨fun _ => ⟨fun _ => rfl, fun n => absurd rfl n⟩, fun n => absurd rfl n⟩⟩⟩⟩⟩⟩⟩⟩⟩⟩⟩⟩⟩⟩⟩⟩), hK, h0, hP, hT, hS, hN, hG, hF, hL, hX.1, hX.2.1, hX.2.2.1, hX.2.2.2.1, hX.2.2.2.2.1, hX.2.2.2.2.2.1, rfl⟩
/-- NO_PLACE -/
theorem rt_38 {st nm fs pl : Int32} {wl : List Int32} (hw : rq ts f2 f1 ((38, b) :: T) (st, nm, fs, wl, pl) (I, A, J) s) : rG (d + 1) (I, A, J) (fun w => rq ts f2 f1 T (st, nm, fs, wl, 0) w s) := by
  obtain ⟨hK, h0, hP, hT, hS, hN, hG, hF, hL, hX⟩ := rq_pop hw
  exact ⟨_, rs_65 hw (by decide) (by decide) (er_65 (r := (_, _)) ⟨fun n => absurd n (by decide), fun _ => ⟨fun n => absurd n (by decide), fun _ => ⟨fun n => absurd n (by decide), fun _ => ⟨fun n => absurd n (by decide), fun _ => ⟨fun n => absurd n (by decide), fun _ => ⟨fun n => absurd n (by decide), fun _ => ⟨fun n => absurd n (by decide), fun _ => ⟨fun n => absurd n (by decide), fun _ => ⟨fun n => absurd n (by decide), fun _ => ⟨fun n => absurd n (by decide), fun _ => ⟨fun n => absurd n (by decide), fun _ => ⟨fun n => absurd n (by decide), fun _ => ⟨fun n => absurd n (by decide), fun _ => ⟨fun n => absurd n (by decide), fun _ => ⟨fun n => absurd n (by decide), fun _ => ⟨fun n => absurd n (by decide), fun _ => ⟨fun _ => ⟨fun n => absurd n (by decide), fun _ => rfl⟩, fun n => absurd rfl n⟩⟩⟩⟩⟩⟩⟩⟩⟩⟩⟩⟩⟩⟩⟩⟩⟩), hK, h0, hP, hT, hS, hN, hG, hF, hL, hX.1, hX.2.1, hX.2.2.1, hX.2.2.2.1, hX.2.2.2.2.1, hX.2.2.2.2.2.1, rfl⟩
/-- SAY -/
theorem rt_19s {s1 : pp_S} {v : Nat} (hw : rq ts f2 f1 ((19, b) :: T) X (I, A, J) s) (hx : pp_pf [b] s = some (.inr (v, s1))) : rG (d + 2) (I, A, J) (fun w => rq ts f2 f1 T X w s1) := by
  obtain ⟨I1, A1, J1, ⟨hE1, _⟩, hw1⟩ := rl_26 (d := d) (rq_pop hw) hx
  exact rt_19 hw ⟨I1, A1, J1, hE1, hw1⟩
/-- SHUT and SKIP -/
theorem rt_18s (hts : pp_ok ts) (hw : rq ts f2 f1 ((18, b) :: T) X (I, A, J) s) (hb : pp_shuts b = true ∧ pp_opens b = false ∧ rk b = b) {x : Nat ⊕ (Nat × pp_S)} (hx : pp_ex ts b s = some x) : rG (d + 3) (I, A, J) (rO f2 f1 x (fun _ s1 w => rq ts f2 f1 T X w s1)) := by
  obtain ⟨I1, A1, J1, hE1, hw1⟩ := rl_16 (d := d) hts (rq_pop hw) (k := b) (f := 1) (Or.inl ⟨rfl, hb.1, hb.2.1⟩) hb.2.2 hx
  refine rt_18 hw ⟨I1, A1, J1, hE1, ?_⟩
  cases x with
  | inl p =>
    obtain ⟨rfl, e⟩ := hw1
    rw [e]
    exact (rb_of (rq_pop hw)).1
  | inr z => exact hw1
theorem rt_39s (hts : pp_ok ts) (hw : rq ts f2 f1 ((39, b) :: T) X (I, A, J) s) (hb : pp_shuts b = false ∧ pp_opens b = false ∧ rk b = b) {x : Nat ⊕ (Nat × pp_S)} (hx : pp_ex ts b s = some x) : rG (d + 3) (I, A, J) (rO f2 f1 x (fun _ s1 w => rq ts f2 f1 T X w s1)) := by
  obtain ⟨I1, A1, J1, hE1, hw1⟩ := rl_16 (d := d) hts (rq_pop hw) (k := b) (f := 0) (Or.inr ⟨rfl, hb.1, hb.2.1⟩) hb.2.2 hx
  refine rt_39 hw ⟨I1, A1, J1, hE1, ?_⟩
  cases x with
  | inl p =>
    obtain ⟨rfl, e⟩ := hw1
    rw [e]
    exact (rb_of (rq_pop hw)).1
  | inr z => exact hw1
end
