section
variable {ts : List pp_T} {f2 : Int32} {f1 : Nat → Int32} {d : Nat} {T : rq_A} {X : rq_X} {I A : ja_I} {J : ja_J} {s s' s0 s1 s2 s3 s4 s5 : pp_S} {w : ja_w} {C C' : pp_C} {v : Nat} {sp : Int32} {G : ja_w → Prop}
theorem run_e {n j a b : Nat} {x : Nat ⊕ (Nat × pp_S)} (h : pp_run ts n j a b s = some x) : (tw s).1 + 20 ≤ 1200 ∧ pp_body ts (pp_run ts (n - 1)) j a b s = some x := by
  cases n with
  | zero => cases h
  | succ n =>
    unfold pp_run at h
    split at h
    · rename_i hg
      exact ⟨hg, h⟩
    · cases h
theorem rC_run (n : Nat) : rC (pp_run ts n) := fun _ _ _ _ _ h => (run_e h).1
/-- what the reference does for a block -/
def rB (ts : List pp_T) (f2 : Int32) (f1 : Nat → Int32) (d : Nat) (C : pp_C) : Prop := ∀ (q : Nat) (s s0 : pp_S) (b : Int32) (T : rq_A) (X : rq_X) (w : ja_w), pp_at ts s = 123 → ((b = nI q ∧ sr s0 s) ∨ (b = -1 ∧ ∃ s1, pp_ns s0 = some (.inr (q, s1)) ∧ sr s1 s)) → rq ts f2 f1 ((15, b) :: T) X w s0 → T.length ≤ (tw s).1 → X.2.2.2.1.length ≤ (tw s).2 → ∀ x, C 81 q 0 s = some x → rG d w (rO f2 f1 x (fun v s' w' => ∃ X', g63 v X X' ∧ rq ts f2 f1 T X' w' s'))
/-- what the reference does for every call -/
def rAl (ts : List pp_T) (f2 : Int32) (f1 : Nat → Int32) (d : Nat) (C : pp_C) : Prop := rH ts f2 f1 d C ∧ rD ts f2 f1 d C ∧ rM ts f2 f1 d 9 0 any [(13, 0)] gS (C 55 1 0) ∧ rM ts f2 f1 d 7 0 (fun s => pp_at ts s = 40) [(7, 0)] gS (C 61 0 0) ∧ rM ts f2 f1 d 17 0 any [] g63 (C 82 0 0) ∧ rM ts f2 f1 d 2 0 any [] g63 (C 78 0 0) ∧ rM ts f2 f1 d 2 1 any [] g63 (C 78 1 0) ∧ rB ts f2 f1 d C
theorem rM_u {a b : Int32} {T' : rq_A} {g : Nat → rq_X → rq_X → Prop} {j p q n : Nat} {B : pp_S → pp_R Nat} (e : ∀ s, pp_body ts (pp_run ts (n - 1)) j p q s = B s) (h : rM ts f2 f1 d a b (fun s => (tw s).1 + 20 ≤ 1200) T' g B) : rM ts f2 f1 d a b any T' g (pp_run ts n j p q) := by
  intro s T X w _ hw hT hX x hx
  obtain ⟨hg, hx⟩ := run_e hx
  rw [e] at hx
  exact h s T X w hg hw hT hX x hx
theorem rM_v {a b k : Int32} {T' : rq_A} {g : Nat → rq_X → rq_X → Prop} {j p q n : Nat} {B : pp_S → pp_R Nat} (e : ∀ s, pp_body ts (pp_run ts (n - 1)) j p q s = B s) (h : rM ts f2 f1 d a b (fun s => (tw s).1 + 20 ≤ 1200 ∧ pp_at ts s = k) T' g B) : rM ts f2 f1 d a b (fun s => pp_at ts s = k) T' g (pp_run ts n j p q) := by
  intro s T X w hp hw hT hX x hx
  obtain ⟨hg, hx⟩ := run_e hx
  rw [e] at hx
  exact h s T X w ⟨hg, hp⟩ hw hT hX x hx
theorem rAl_0 : rAl ts f2 f1 d (pp_run ts 0) := by
  refine ⟨⟨rC_run 0, ?_, ?_, ?_, ?_, ?_, ?_, ?_, ?_⟩, ?_, ?_, ?_, ?_, ?_, ?_, ?_⟩
  all_goals first
    | (intro s T X w _ _ _ _ x hx; cases hx; done)
    | (intro m _ s T X w _ _ _ _ x hx; cases hx; done)
    | (intro q s s0 b T X w _ _ _ _ _ x hx; cases hx; done)
theorem rAl_s (hts : pp_ok ts) {n : Nat} (h : rAl ts f2 f1 (d + 9) (pp_run ts n)) (h1 : rAl ts f2 f1 (d + 9) (pp_run ts (n - 1))) (h2 : rAl ts f2 f1 (d + 9) (pp_run ts (n - 1 - 1))) : rAl ts f2 f1 (d + 9) (pp_run ts (n + 1)) := by
  obtain ⟨H, HD, H55, H61, H82, H780, H781, HB⟩ := h
  have c := rC_run (ts := ts)
  refine ⟨⟨c (n + 1), ?_, ?_, ?_, ?_, ?_, ?_, ?_, ?_⟩, ?_, ?_, ?_, ?_, ?_, ?_, ?_⟩
  · exact rM_u (n := n + 1) (fun _ => rfl) (rr_63 hts H)
  · exact rM_u (n := n + 1) (fun _ => rfl) (rr_64 hts H)
  · exact rM_u (n := n + 1) (fun _ => rfl) (rr_65 hts H)
  · exact rM_u (n := n + 1) (fun _ => rfl) (rr_66 hts H h1.2.1 (fun s x hx => (run_e hx).2))
  · exact rM_u (n := n + 1) (fun _ => rfl) (rr_71 hts H)
  · exact rM_v (n := n + 1) (fun _ => rfl) (rr_72 hts H)
  · exact rM_v (n := n + 1) (fun _ => rfl) (rr_73 hts H)
  · exact rM_u (n := n + 1) (fun _ => rfl) (rr_74 hts H)
  · intro m hm s T X w hw hnm hT hX x hx
    obtain ⟨hg, hx⟩ := run_e hx
    exact rr_56 hts (c n) (c (n - 1)) (fun a s x hx => (run_e hx).2) h1.2.1 H61 hm hg hw hnm hT hX hx
  · exact rM_u (n := n + 1) (fun _ => rfl) (rr_55 hts (c n) HD)
  · exact rM_v (n := n + 1) (fun _ => rfl) (rr_61 hts (c n) H55)
  · exact rM_u (n := n + 1) (fun _ => rfl) (rr_82 hts (c n) H.2.1 h1.1.2.1 h2.1.2.1 h1.2.2.2.2.1 h2.2.2.2.2.1 HB (fun s x hx => (run_e hx).2) (fun s x hx => (run_e hx).2) (fun s x hx => (run_e hx).2))
  · exact rM_u (n := n + 1) (fun _ => rfl) (rr_78 hts (c n) h1.2.1 H.2.1 (fun b ty s x hx => (run_e hx).2) HB (o := 0) (by decide))
  · exact rM_u (n := n + 1) (fun _ => rfl) (rr_78 hts (c n) h1.2.1 H.2.1 (fun b ty s x hx => (run_e hx).2) HB (o := 1) (by decide))
  · intro q s s0 b T X w hk hent hw hT hX x hx
    obtain ⟨hg, hx⟩ := run_e hx
    exact rr_81 hts (c n) H780 H82 q s s0 b T X w hk hent hw hT hX hg hx
theorem rAl_n (hts : pp_ok ts) : ∀ n, rAl ts f2 f1 (d + 9) (pp_run ts n) ∧ rAl ts f2 f1 (d + 9) (pp_run ts (n - 1)) ∧ rAl ts f2 f1 (d + 9) (pp_run ts (n - 1 - 1))
  | 0 => ⟨rAl_0, rAl_0, rAl_0⟩
  | n + 1 => by
    obtain ⟨h, h1, h2⟩ := rAl_n hts n
    exact ⟨rAl_s hts h h1 h2, h, h1⟩
/-- the program -/
theorem rr_prog (hts : pp_ok ts) (n : Nat) : ∀ (m a : Nat) (s : pp_S) (X : rq_X) (w : ja_w), rq ts f2 f1 [(1, 0)] X w s → X.2.2.2.1.length ≤ (tw s).2 → ∀ x, pp_w (fun _ s => some (!(pp_at ts s == 0))) (fun _ s => pp_c (pp_run ts n) 78 1 0 1 0 s) m a s = some x → rG (d + 9) w (rO f2 f1 x (fun _ s' w' => ∃ X', rq ts f2 f1 [] X' w' s')) := by
  have h781 := (rAl_n (f2 := f2) (f1 := f1) (d := d) hts n).1.2.2.2.2.2.2.1
  have fin : ∀ (a : Nat) (s : pp_S) (X : rq_X) (w : ja_w), rq ts f2 f1 [(1, 0)] X w s → pp_at ts s = 0 → rG (d + 9) w (rO f2 f1 (.inr (a, s)) (fun _ s' w' => ∃ X', rq ts f2 f1 [] X' w' s')) := by
    intro a s X w hw h0
    obtain ⟨I, A, J⟩ := w
    have hw0 := rq_pop hw
    exact rt_1 (d := d + 8) hw ⟨_, _, _, er_61 (r := (_, _)) ⟨1, _, _, _, rl_13t hts hw0 (by rw [h0]; rfl), fun e => absurd e (by decide), fun _ => rfl⟩, X, hw0⟩
  intro m
  induction m with
  | zero =>
    intro a s X w hw hX x hx
    simp only [pp_w] at hx
    cases hb : (!(pp_at ts s == 0)) with
    | true => rw [hb] at hx; cases hx
    | false =>
      rw [hb] at hx
      cases hx
      exact fin a s X w hw (by simpa using hb)
  | succ m ih =>
    intro a s X w hw hX x hx
    simp only [pp_w] at hx
    cases hb : (!(pp_at ts s == 0)) with
    | false =>
      rw [hb] at hx
      cases hx
      exact fin a s X w hw (by simpa using hb)
    | true =>
      rw [hb] at hx
      have hx1 : pp_b (pp_c (pp_run ts n) 78 1 0 1 0 s) (pp_w (fun _ s => some (!(pp_at ts s == 0))) (fun _ s => pp_c (pp_run ts n) 78 1 0 1 0 s) m) = some x := hx
      have hn0 : ¬ pp_at ts s = 0 := by simpa using hb
      obtain ⟨I, A, J⟩ := w
      have h0 := rq_pop hw
      obtain ⟨I1, A1, J1, hE1, hw1⟩ := rl_11 (d := d + 6) h0 (by decide) 1 0
      obtain ⟨I2, A2, J2, hE2, hw2⟩ := rl_11 (d := d + 6) hw1 (by decide) 2 1
      have e9 : I1 0 9 = nI (pq_pos s) := hw1.2.2.1.1
      have lp : pq_pos s ≤ ts.length := hw1.2.2.1.2.1
      have go : rG (d + 9) (I, A, J) (fun w => rq ts f2 f1 [(2, 1), (1, 0)] X w s) → rG (d + 9) (I, A, J) (rO f2 f1 x (fun _ s' w' => ∃ X', rq ts f2 f1 [] X' w' s')) := by
        intro hg
        refine rG_t hg (fun w1 h1 => ?_)
        refine rG_b hx1 (fun y hy => rM_c h781 (fun _ _ => trivial) h1 (by rw [List.length_cons, List.length_nil]; omega) (by omega) hy) (fun v2 s2 w2 hr2 h2 hk2 => ?_)
        obtain ⟨X2, g2, h2⟩ := h2
        have e2 : X2.2.2.2.1 = X.2.2.2.1 := g2
        exact ih v2 s2 X2 w2 h2 (by rw [pp_c_tw hr2, e2]; exact hX) x hk2
      by_cases h4 : pp_at ts s = 4
      · exact go (rt_1 (d := d + 8) hw ⟨_, _, _, er_61 (r := (_, _)) ⟨0, _, _, _, rl_13f hts h0 (rk_n hn0), fun _ => ⟨_, _, _, hE1, 1, _, _, _, rl_13t hts hw1 (by rw [h4]; rfl), fun e => absurd e (by decide), fun _ => ⟨_, _, _, hE2, rfl⟩⟩, fun e => absurd rfl e⟩, hw2⟩)
      · -- what a call asks
        have key : ∀ y, pp_c (pp_run ts n) 78 1 0 1 0 s = some y → pp_ib ts s (pq_pos s) = some true ∨ (pp_ib ts s (pq_pos s) = some false ∧ y = .inl (pq_pos s)) := by
          intro y hy
          obtain ⟨pos, op, cc, tn, tl, wt, r⟩ := s
          simp only [pp_c] at hy
          have hc : ∃ y', pp_run ts n 78 1 0 (pos, op, cc, tn, tl + 1, wt + 0, r) = some y' ∧ (∀ p, y' = .inl p → y = .inl p) := by
            rcases pp_bE hy with ⟨p, hr, hp⟩ | ⟨v, s1, hr, hk⟩
            · exact ⟨_, hr, fun p' e => by rw [hp]; cases e; rfl⟩
            · exact ⟨_, hr, fun p' e => by cases e⟩
          obtain ⟨y', hy', hp⟩ := hc
          have h78 : pp_78 ts (pp_run ts (n - 1)) 1 (pos, op, cc, tn, tl + 1, wt + 0, r) = some y' := (run_e hy').2
          have e79 : pp_79 ts (pos, op, cc, tn, tl + 1, wt + 0, r) = pp_b (pp_base ts (pos, op, cc, tn, tl + 1, wt + 0, r)) fun b s => if pp_at ts s = 4 then pp_b (pp_tk ts s) fun _ s => pp_ret b s else pp_ret b s := by
            unfold pp_79
            rw [if_neg (show ¬ pp_at ts (pos, op, cc, tn, tl + 1, wt + 0, r) = 4 from h4)]
          have eib : pp_ib ts (pos, op, cc, tn, tl + 1, wt + 0, r) pos = pp_ib ts (pos, op, cc, tn, tl, wt, r) pos := rfl
          unfold pp_78 at h78
          rw [e79] at h78
          unfold pp_base at h78
          rw [show pp_ib ts (pos, op, cc, tn, tl + 1, wt + 0, r) (pq_pos (pos, op, cc, tn, tl + 1, wt + 0, r)) = pp_ib ts (pos, op, cc, tn, tl, wt, r) (pq_pos (pos, op, cc, tn, tl, wt, r)) from rfl] at h78
          cases hib : pp_ib ts (pos, op, cc, tn, tl, wt, r) (pq_pos (pos, op, cc, tn, tl, wt, r)) with
          | none => rw [hib] at h78; cases h78
          | some b =>
            cases b with
            | true => exact Or.inl rfl
            | false =>
              rw [hib] at h78
              refine Or.inr ⟨rfl, ?_⟩
              have : some (.inl pos) = some y' := h78
              cases this
              exact hp _ rfl
        cases hc : pp_c (pp_run ts n) 78 1 0 1 0 s with
        | none => rw [hc] at hx1; cases hx1
        | some y =>
          rcases key y hc with hib | ⟨hib, hy⟩
          · have h19 := rl_19 (d := d + 3) hts hw1 lp hib
            rw [← e9] at h19
            exact go (rt_1 (d := d + 8) hw ⟨_, _, _, er_61 (r := (_, _)) ⟨0, _, _, _, rl_13f hts h0 (rk_n hn0), fun _ => ⟨_, _, _, hE1, 0, _, _, _, rl_13f hts hw1 (rk_n h4), fun _ => ⟨_, _, _, _, h19, fun e => absurd e (by decide), fun _ => ⟨_, _, _, hE2, rfl⟩⟩, fun e => absurd rfl e⟩, fun e => absurd rfl e⟩, hw2⟩)
          · have h19 := rl_19 (d := d + 3) hts hw1 lp hib
            rw [← e9] at h19
            subst hy
            rw [hc] at hx1
            cases hx1
            exact rt_1 (d := d + 8) hw ⟨_, _, _, er_61 (r := (_, _)) ⟨0, _, _, _, rl_13f hts h0 (rk_n hn0), fun _ => ⟨_, _, _, hE1, 0, _, _, _, rl_13f hts hw1 (rk_n h4), fun _ => ⟨_, _, _, _, h19, fun _ => ⟨_, _, _, rl_12, rfl⟩, fun e => absurd rfl e⟩, fun e => absurd rfl e⟩, fun e => absurd rfl e⟩, (rb_of hw1).1⟩
end
