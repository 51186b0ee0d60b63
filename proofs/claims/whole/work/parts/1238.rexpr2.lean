section
variable {ts : List pp_T} {f2 : Int32} {f1 : Nat → Int32} {d : Nat} {T : rq_A} {X : rq_X} {I A : ja_I} {J : ja_J} {s s1 : pp_S} {w : ja_w} {C : pp_C} {v : Nat}
theorem rr_63t (hts : pp_ok ts) (H : rH ts f2 f1 (d + 9) C) {a p : Nat} (hw : rq ts f2 f1 ((23, 0) :: (List.replicate a (36, 61) ++ T)) X w s) (hp : X.2.2.2.2 = nI p) (hp1 : p ≤ 1) (hT : T.length ≤ (tw s).1) (hX : X.2.2.2.1.length ≤ (tw s).2) (hc : (Nat.beq p 1 && pp_at ts s == 61) = false) {x : Nat ⊕ (Nat × pp_S)} (hx : (pp_b (if pp_at ts s = 60 then pp_b (pp_tk ts s) fun _ s => pp_b (pp_c C 64 0 0 (a + 1) 0 s) fun _ s => pp_pf [60] s else pp_ret 0 s) fun _ s => pp_pf (List.replicate a 61) s) = some x) : rG (d + 9) w (rO f2 f1 x (fun v s' w' => ∃ X', g63 v X X' ∧ rq ts f2 f1 T X' w' s')) := by
  obtain ⟨I, A, J⟩ := w
  have hlen : (List.replicate a ((36 : Int32), (61 : Int32)) ++ T).length = a + T.length := by rw [List.length_append, List.length_replicate]
  by_cases h60 : pp_at ts s = 60
  · rw [if_pos h60, pp_bb] at hx
    rcases pp_bE hx with ⟨p', hr, hp'⟩ | ⟨v, s1, hr, hk⟩
    · exact absurd hr (pp_tk_n (by rw [h60]; rfl))
    · rw [pp_bb] at hk
      have t1 := pp_tk_tw hr
      have hl := rC_b H.1 hk
      rw [t1] at hl
      refine rG_t (rt_23a (d := d + 6) hts hw (by omega) h60 hr) (fun w1 h1 => ?_)
      refine rG_b hk (fun y hy => rM_c H.2.2.1 (fun _ _ => trivial) h1 (by rw [List.length_cons, hlen, t1]; omega) (by rw [t1]; exact hX) hy) (fun v2 s2 w2 hr2 h2 hk2 => ?_)
      obtain ⟨⟨st, nm, fs, wl, pl⟩, hg, hw2⟩ := h2
      rcases pp_bE hk2 with ⟨p', hr3, hp'⟩ | ⟨v3, s3, hr3, hk3⟩
      · exact absurd hr3 (pp_pf_n _ _ _)
      · obtain ⟨I2, A2, J2⟩ := w2
        refine rG_t (rt_36 (d := d + 7) hw2 hr3) (fun w3 h3 => ?_)
        refine rG_m (rr_eq (d := d + 7) a s3 _ w3 h3 x hk3) (fun w' h => ?_)
        cases x with
        | inl p => exact h
        | inr z =>
          obtain ⟨X', g, h⟩ := h
          exact ⟨X', g.trans hg.1, h⟩
  · rw [if_neg h60] at hx
    refine rG_t (rt_23c (d := d + 6) hts hw h60 (fun c => ?_)) (fun w1 h1 => ?_)
    · obtain ⟨c1, c2⟩ := c
      rw [hp] at c2
      have : p = 1 := by
        rcases p with _ | p
        · exact absurd rfl c2
        · omega
      rw [this, c1] at hc
      exact absurd hc (by decide)
    · refine rG_m (rr_eq (d := d + 7) a s _ w1 h1 x hx) (fun w' h => ?_)
      cases x with
      | inl p => exact h
      | inr z => exact h
theorem rr_63l (hts : pp_ok ts) (H : rH ts f2 f1 (d + 9) C) : ∀ (m a p : Nat) (s : pp_S) (X : rq_X) (w : ja_w), rq ts f2 f1 ((23, 0) :: (List.replicate a (36, 61) ++ T)) X w s → X.2.2.2.2 = nI p → p ≤ 1 → T.length ≤ (tw s).1 → X.2.2.2.1.length ≤ (tw s).2 → ∀ x, pp_b (pp_w (fun (a : Nat × Nat) s => some (Nat.beq a.2 1 && pp_at ts s == 61)) (fun a s => pp_b (pp_tk ts s) fun _ s => pp_b (pp_c C 64 0 0 (a.1 + 2) 0 s) fun p s => pp_01 p <| pp_ret (a.1 + 1, p) s) m (a, p) s) (fun a s => pp_b (if pp_at ts s = 60 then pp_b (pp_tk ts s) fun _ s => pp_b (pp_c C 64 0 0 (a.1 + 1) 0 s) fun _ s => pp_pf [60] s else pp_ret 0 s) fun _ s => pp_pf (List.replicate a.1 61) s) = some x → rG (d + 9) w (rO f2 f1 x (fun v s' w' => ∃ X', g63 v X X' ∧ rq ts f2 f1 T X' w' s')) := by
  intro m
  induction m with
  | zero =>
    intro a p s X w hw hp hp1 hT hX x hx
    simp only [pp_w] at hx
    cases hb : (Nat.beq p 1 && pp_at ts s == 61) with
    | true => rw [hb] at hx; cases hx
    | false =>
      rw [hb] at hx
      exact rr_63t hts H hw hp hp1 hT hX hb hx
  | succ m ih =>
    intro a p s X w hw hp hp1 hT hX x hx
    simp only [pp_w] at hx
    have hlen : (List.replicate a ((36 : Int32), (61 : Int32)) ++ T).length = a + T.length := by rw [List.length_append, List.length_replicate]
    cases hb : (Nat.beq p 1 && pp_at ts s == 61) with
    | false =>
      rw [hb] at hx
      exact rr_63t hts H hw hp hp1 hT hX hb hx
    | true =>
      rw [hb] at hx
      simp only at hx
      rw [pp_bb, pp_bb] at hx
      have hb' := hb
      rw [Bool.and_eq_true] at hb'
      have hp' : p = 1 := Nat.eq_of_beq_eq_true hb'.1
      have h61 : pp_at ts s = 61 := eq_of_beq hb'.2
      subst hp'
      obtain ⟨I, A, J⟩ := w
      obtain ⟨st, nm, fs, wl, pl⟩ := X
      obtain rfl : pl = 1 := hp
      rcases pp_bE hx with ⟨p', hr, hp'⟩ | ⟨v, s1, hr, hk⟩
      · exact absurd hr (pp_tk_n (by rw [h61]; rfl))
      · have t1 := pp_tk_tw hr
        rw [pp_bb] at hk
        have hl := rC_b H.1 hk
        rw [t1] at hl
        have hl' : (tw s).1 + (a + 2) + 20 ≤ 1200 := hl
        refine rG_t (rt_23b (d := d + 6) hts hw (by omega) h61 hr) (fun w1 h1 => ?_)
        obtain ⟨I1, A1, J1⟩ := w1
        refine rG_t (rt_22 (d := d + 7) h1 (by rw [List.length_cons]; omega)) (fun w2 h2 => ?_)
        refine rG_b hk (fun y hy => rM_c H.2.2.1 (fun _ _ => trivial) h2 (by rw [List.length_cons, List.length_cons, hlen, t1]; show a + T.length + 1 + 1 ≤ (tw s).1 + (a + 2); omega) (by rw [t1]; exact hX) hy) (fun v2 s2 w3 hr2 h3 hk2 => ?_)
        obtain ⟨X', hg, hw3⟩ := h3
        unfold pp_01 at hk2
        split at hk2
        · rename_i hp2
          have t2 := pp_c_tw hr2
          have := ih (a + 1) v2 s2 X' w3 hw3 hg.2 hp2 (by rw [t2, t1]; exact hT) (by rw [t2, t1, hg.1]; exact hX) x hk2
          refine rG_m this (fun w' h => ?_)
          cases x with
          | inl p => exact h
          | inr z =>
            obtain ⟨X'', g, h⟩ := h
            exact ⟨X'', g.trans hg.1, h⟩
        · cases hk2
theorem rr_63 (hts : pp_ok ts) (H : rH ts f2 f1 (d + 9) C) : rM ts f2 f1 (d + 9) 22 0 (fun s => (tw s).1 + 20 ≤ 1200) [] g63 (pp_63 ts C) := by
  intro s T X w hs hw hT hX x hx
  have hs' : (tw s).1 + 20 ≤ 1200 := hs
  unfold pp_63 at hx
  obtain ⟨I, A, J⟩ := w
  refine rG_t (rt_22 (d := d + 7) hw (by omega)) (fun w1 h1 => ?_)
  refine rG_b hx (fun y hy => rM_c H.2.2.1 (fun _ _ => trivial) h1 (by rw [List.length_cons]; omega) hX hy) (fun p s1 w2 hr h2 hk => ?_)
  obtain ⟨X', hg, hw2⟩ := h2
  unfold pp_01 at hk
  split at hk
  · rename_i hp
    have t1 := pp_c_tw hr
    refine rG_m (rr_63l (T := T) hts H 160 0 p s1 X' w2 hw2 hg.2 hp (by rw [t1]; exact hT) (by rw [t1, hg.1]; exact hX) x hk) (fun w' h => ?_)
    cases x with
    | inl p => exact h
    | inr z =>
      obtain ⟨X'', g, h⟩ := h
      exact ⟨X'', g.trans hg.1, h⟩
  · cases hk
end
