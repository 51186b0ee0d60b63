section
variable {ts : List pp_T} {f2 : Int32} {f1 : Nat → Int32} {d : Nat} {T : rq_A} {X : rq_X} {I A : ja_I} {J : ja_J} {s s1 s2 s3 : pp_S} {w : ja_w} {C C' : pp_C} {v : Nat}
theorem rq_pu {X : rq_X} (h : pp_pu s = some (.inr (v, s1))) (hw : rq ts f2 f1 T X w s) : rq ts f2 f1 T X w s1 := by
  obtain ⟨pos, op, cc, tn, tl, wt, pn, r⟩ := s
  simp only [pp_pu] at h
  split at h
  · cases h; exact hw
  · cases h
theorem rq_po {X : rq_X} {n : Nat} (hw : rq ts f2 f1 T X w s) : rq ts f2 f1 T X w (pp_po n s) := by
  obtain ⟨pos, op, cc, tn, tl, wt, pn, r⟩ := s
  exact hw
theorem pp_pu_at (h : pp_pu s = some (.inr (v, s1))) : pp_at ts s1 = pp_at ts s ∧ pq_sig s1 = pq_sig s ∧ pp_67 ts s1 = pp_67 ts s ∧ (∀ b, rtn ts s b → rtn ts s1 b) ∧ (pp_tk ts s1 = none → pp_tk ts s = none) ∧ pq_tn s1 = pq_tn s := by
  obtain ⟨pos, op, cc, tn, tl, wt, pn, scs, sd, sig, frm, rl, mn, dc, fc⟩ := s
  simp only [pp_pu] at h
  split at h
  · cases h
    refine ⟨rfl, rfl, rfl, fun b h => h, fun h => ?_, rfl⟩
    rw [pp_tk_t3] at h ⊢
    cases ht : t3 ts pos op cc with
    | none => rfl
    | some y =>
      rw [ht] at h
      cases y <;> cases h
  · cases h
/-- the head of typed, as the reference goes through it -/
theorem pp_55_2 {x : Nat ⊕ (Nat × pp_S)} (h : pp_55 ts C' 2 s = some x) : (∃ p, pp_base ts s = some (.inl p) ∧ x = .inl p) ∨ ∃ b s1, pp_base ts s = some (.inr (b, s1)) ∧ ((∃ p, pp_c C' 56 2 0 4 0 s1 = some (.inl p) ∧ x = .inl p) ∨ ∃ s2, pp_c C' 56 2 0 4 0 s1 = some (.inr (0, s2)) ∧ pp_bv ts s2 b = pp_bv ts s1 b ∧ ∃ v s3, pp_wb ts b s2 = some (.inr (v, s3)) ∧ x = .inr (0, s3)) := by
  unfold pp_55 at h
  rcases pp_bE h with ⟨p, hr, hp⟩ | ⟨b, s1, hr, hk⟩
  · exact Or.inl ⟨p, hr, hp⟩
  · refine Or.inr ⟨b, s1, hr, ?_⟩
    rcases pp_bE hk with ⟨p, hr2, hp⟩ | ⟨nm, s2, hr2, hk2⟩
    · exact Or.inl ⟨p, hr2, hp⟩
    · split at hk2
      · rename_i hg
        have h0 : nm = 0 := hg.2 rfl
        subst h0
        refine Or.inr ⟨s2, hr2, hg.1, ?_⟩
        rcases pp_bE hk2 with ⟨p, hr3, hp⟩ | ⟨v3, s3, hr3, hk3⟩
        · unfold pp_wb at hr3
          repeat' split at hr3
          all_goals first
            | exact absurd hr3 (pp_pt_n _ _ _)
            | (cases hr3; done)
        · rw [if_pos rfl] at hk3
          cases hk3
          exact ⟨v3, s3, hr3, rfl⟩
      · cases hk2
/-- more room for what waits -/
def sh (m n : Nat) : pp_S → pp_S
  | (pos, op, cc, tn, tl, wt, r) => (pos, op, cc, tn, tl + m, wt + n, r)
theorem pp_tk_sh {m n : Nat} : pp_tk ts (sh m n s) = (pp_tk ts s).map (fun x => match x with | .inl p => .inl p | .inr z => .inr (z.1, sh m n z.2)) := by
  obtain ⟨pos, op, cc, tn, tl, wt, r⟩ := s
  show pp_tk ts (pos, op, cc, tn, tl + m, wt + n, r) = _
  rw [pp_tk_t3, pp_tk_t3]
  cases t3 ts pos op cc with
  | none => rfl
  | some y => cases y <;> rfl
theorem rq_sh {m n : Nat} (hw : rq ts f2 f1 T X w s) : rq ts f2 f1 T X w (sh m n s) := by
  obtain ⟨pos, op, cc, tn, tl, wt, r⟩ := s
  exact hw
theorem sh_at {m n : Nat} : pp_at ts (sh m n s) = pp_at ts s ∧ (∀ b, rtn ts s b → rtn ts (sh m n s) b) ∧ pp_z (sh m n s) = sh m n (pp_z s) := by
  obtain ⟨pos, op, cc, tn, tl, wt, pn, scs, sd, sig, frm, rl, mn, dc, fc⟩ := s
  exact ⟨rfl, fun _ h => h, rfl⟩
/-- typed of an abstract, up to the base's signs -/
theorem rr_55a (H : rD ts f2 f1 (d + 9) C') {a : Int32} {fs pl : Int32} {wl : List Int32} {s0 : pp_S} {y : Nat ⊕ (Nat × pp_S)} (hy : pp_55 ts C' 2 s0 = some y) (hT : T.length + 1 ≤ (tw s0).1 + 4) (hX : wl.length ≤ (tw s0).2)
    (first : ∀ x, pp_base ts s0 = some x → rG (d + 9) w (rO f2 f1 x (fun b s2 w => rq ts f2 f1 ((6, 2) :: (a, pp_bv ts s2 b) :: T) (0, -1, fs, wl, pl) w s2))) : rG (d + 9) w (rO f2 f1 y (fun v0 s3 w' => v0 = 0 ∧ ∃ b v s2 fs2, pp_wb ts b s2 = some (.inr (v, s3)) ∧ rq ts f2 f1 ((a, pp_bv ts s2 b) :: T) (0, nI 0 - 1, fs2, wl, pl) w' s2)) := by
  rcases pp_55_2 hy with ⟨p, hb, rfl⟩ | ⟨b, s1, hb, hrest⟩
  · exact first _ hb
  · refine rG_t (first _ hb) (fun w1 h1 => ?_)
    have t1 := pp_base_tw hb
    have h1' : rq ts f2 f1 ((6, nI 2) :: (a, pp_bv ts s1 b) :: T) (0, -1, fs, wl, pl) w1 s1 := h1
    rcases hrest with ⟨p, hc, rfl⟩ | ⟨s2, hc, hbv, v, s3, hwb, rfl⟩
    · exact rD_c (m := 2) H (by omega) h1' rfl (by rw [List.length_cons, t1]; exact hT) (by rw [t1]; exact hX) hc
    · refine rG_m (rD_c (m := 2) H (by omega) h1' rfl (by rw [List.length_cons, t1]; exact hT) (by rw [t1]; exact hX) hc) (fun w2 h2 => ?_)
      obtain ⟨⟨a1, a2, a3, a4⟩, ⟨g1, g2, g3⟩, hw2⟩ := h2
      obtain rfl : a1 = 0 := g1
      obtain rfl : a2 = nI 0 - 1 := g2
      obtain rfl : a4 = (wl, pl) := g3
      refine ⟨rfl, b, v, s2, a3, hwb, ?_⟩
      rw [hbv]
      exact hw2
/-- what follows the operand -/
abbrev p66 (ts : List pp_T) (C : pp_C) (n : Nat) (a : pp_A) (s : pp_S) : pp_R Nat :=
  pp_b (if a.2.2 then pp_c C 71 0 0 (2 * a.1.length) (pp_wl a.1) s else pp_ret 0 s) fun p s =>
    pp_01 p <| pp_b (pp_pf (pp_ou a.1) s) fun _ s =>
      pp_ret (match a.1.getLast? with | none => p | some x => if x.1 = 64 then 1 else 0) (pp_po n s)
theorem nI_gl {l : List (Int32 × List Int32)} {p : Nat} : (match l.getLast? with | none => nI p | some x => if x.1 = 64 then 1 else 0) = nI (match l.getLast? with | none => p | some x => if x.1 = 64 then 1 else 0) := by
  cases l.getLast? with
  | none => rfl
  | some x =>
    show (if x.1 = 64 then 1 else 0) = nI (if x.1 = 64 then 1 else 0)
    split <;> rfl
/-- the operand, and all that waits for it -/
theorem rr_66e (hts : pp_ok ts) (H : rH ts f2 f1 (d + 9) C) {l : List (Int32 × List Int32)} {n : Nat} {st nm fs pl : Int32} {wl : List Int32} (hw : rq ts f2 f1 ((31, 0) :: (rq_ps l ++ T)) (st, nm, fs, wl ++ rq_wt l, pl) w s) (hk : pp_67 ts s = some false) (hT : T.length ≤ (tw s).1) (hX : wl.length ≤ (tw s).2) {bs : Bool} {x : Nat ⊕ (Nat × pp_S)} (hx : p66 ts C n (l, bs, true) s = some x) : rG (d + 9) w (rO f2 f1 x (fun v s' w' => ∃ X' : rq_X, (X'.2.2.2.1 = wl ∧ X'.2.2.2.2 = nI v) ∧ rq ts f2 f1 T X' w' s')) := by
  obtain ⟨I, A, J⟩ := w
  have hx' : (pp_b (pp_c C 71 0 0 (2 * l.length) (pp_wl l) s) fun p s => pp_01 p <| pp_b (pp_pf (pp_ou l) s) fun _ s => pp_ret (match l.getLast? with | none => p | some x => if x.1 = 64 then 1 else 0) (pp_po n s)) = some x := hx
  have hl := rC_b H.1 hx'
  have hps := rq_ps_l l
  have hwt := rq_wt_l l
  have hlen : (rq_ps l ++ T).length = (rq_ps l).length + T.length := List.length_append
  unfold pp_67 at hk
  have h1 : ¬ (pp_at ts s = 45 ∨ pp_at ts s = 42 ∨ pp_at ts s = 38 ∨ pp_at ts s = 33 ∨ pp_at ts s = 12) := fun c => by rw [if_pos c] at hk; cases hk
  refine rG_t (rt_31e (d := d + 6) hts hw (by omega) (fun c => h1 (Or.inl c)) (fun c => h1 (Or.inr (Or.inl c))) (fun c => h1 (Or.inr (Or.inr (Or.inl c)))) (fun c => h1 (Or.inr (Or.inr (Or.inr (Or.inl c))))) (fun c => h1 (Or.inr (Or.inr (Or.inr (Or.inr c)))))) (fun w1 hw1 => ?_)
  refine rG_b hx' (fun y hy => rM_c H.2.2.2.2.2.1 (fun _ _ => trivial) hw1 (by omega) (by show (wl ++ rq_wt l).length ≤ _; rw [List.length_append]; omega) hy) (fun p s2 w2 hr2 h2 hk2 => ?_)
  obtain ⟨⟨st2, nm2, fs2, wl2, pl2⟩, ⟨g1, g2⟩, hw2⟩ := h2
  obtain rfl : wl2 = wl ++ rq_wt l := g1
  obtain rfl : pl2 = nI p := g2
  unfold pp_01 at hk2
  split at hk2
  · rcases pp_bE hk2 with ⟨p', hr3, hp'⟩ | ⟨v3, s3, hr3, hk3⟩
    · exact absurd hr3 (pp_pf_n _ _ _)
    · cases hk3
      refine rG_m (rr_unw l s2 st2 nm2 fs2 (nI p) w2 hw2 _ hr3) (fun w' h => ?_)
      obtain ⟨X', ⟨g1, g2⟩, h⟩ := h
      exact ⟨X', ⟨g1, by rw [g2]; exact nI_gl⟩, rq_po h⟩
  · cases hk2
end
