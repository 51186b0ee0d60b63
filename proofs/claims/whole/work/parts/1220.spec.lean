/-- A token: its kind as the program numbers it, its characters, and the packed word. -/
abbrev pp_T : Type := Int32 × List Int32 × Int64
/-- A declaration: token, scope, depth, sort, type. -/
abbrev pp_D : Type := Nat × Nat × Nat × Nat × List Int32
/-- pos, op, c, tn, tl, wt, pn, scs, sd, sig, frm, rl, mn, dc, fc -/
abbrev pp_S : Type := Nat × Nat × Nat × Nat × Nat × Nat × Nat × List Nat × List Nat × List Int32 × List Int32 × (Nat → Int32) × (Nat → Int32) × List pp_D × Nat
abbrev pq_pos (s : pp_S) : Nat := s.1
abbrev pq_op (s : pp_S) : Nat := s.2.1
abbrev pq_c (s : pp_S) : Nat := s.2.2.1
abbrev pq_tn (s : pp_S) : Nat := s.2.2.2.1
abbrev pq_tl (s : pp_S) : Nat := s.2.2.2.2.1
abbrev pq_wt (s : pp_S) : Nat := s.2.2.2.2.2.1
abbrev pq_pn (s : pp_S) : Nat := s.2.2.2.2.2.2.1
abbrev pq_scs (s : pp_S) : List Nat := s.2.2.2.2.2.2.2.1
abbrev pq_sd (s : pp_S) : List Nat := s.2.2.2.2.2.2.2.2.1
abbrev pq_sig (s : pp_S) : List Int32 := s.2.2.2.2.2.2.2.2.2.1
abbrev pq_frm (s : pp_S) : List Int32 := s.2.2.2.2.2.2.2.2.2.2.1
abbrev pq_rl (s : pp_S) : Nat → Int32 := s.2.2.2.2.2.2.2.2.2.2.2.1
abbrev pq_mn (s : pp_S) : Nat → Int32 := s.2.2.2.2.2.2.2.2.2.2.2.2.1
abbrev pq_dc (s : pp_S) : List pp_D := s.2.2.2.2.2.2.2.2.2.2.2.2.2.1
abbrev pq_fc (s : pp_S) : Nat := s.2.2.2.2.2.2.2.2.2.2.2.2.2.2
abbrev pp_R (α : Type) : Type := Option (Nat ⊕ (α × pp_S))
abbrev pp_C : Type := Nat → Nat → Nat → pp_S → pp_R Nat
def pp_ret {α : Type} (a : α) (s : pp_S) : pp_R α := some (.inr (a, s))
def pp_bad {α : Type} (s : pp_S) : pp_R α := some (.inl (pq_pos s))
def pp_b {α β : Type} (x : pp_R α) (f : α → pp_S → pp_R β) : pp_R β := match x with
  | none => none
  | some (.inl p) => some (.inl p)
  | some (.inr (a, s)) => f a s
/-- A loop: a : what it carries. -/
def pp_w {α : Type} (cd : α → pp_S → Option Bool) (bd : α → pp_S → pp_R α) : Nat → α → pp_S → pp_R α
  | 0, a, s => match cd a s with
    | some false => pp_ret a s
    | _ => none
  | n + 1, a, s => match cd a s with
    | some false => pp_ret a s
    | some true => pp_b (bd a s) (pp_w cd bd n)
    | none => none
def pp_k (ts : List pp_T) (t : Nat) : Int32 := match ts[t]? with
  | some x => x.1
  | none => 0
def pp_cs (ts : List pp_T) (t : Nat) : List Int32 := match ts[t]? with
  | some x => x.2.1
  | none => []
def pp_wd (ts : List pp_T) (t : Nat) : Int64 := match ts[t]? with
  | some x => x.2.2
  | none => 0
def pp_opens (k : Int32) : Bool := k == 40 || k == 91 || k == 123 || k == 8 || k == 10 || k == 9
def pp_shuts (k : Int32) : Bool := k == 41 || k == 93 || k == 125
/-- Go behind the token here. -/
def pp_tk (ts : List pp_T) : pp_S → pp_R Nat
  | (pos, op, c, tn, tl, wt, pn, scs, sd, sig, frm, rl, mn, dc, fc) =>
    if ts.length ≤ pos then none else if 8 < op then none else
    if pp_opens (pp_k ts pos) then
      (if op = 8 then some (.inl pos) else some (.inr (pos, pos + 1, op + 1, c + (pp_cs ts pos).length, tn, tl, wt, pn, scs, sd, sig, frm, rl, mn, dc, fc)))
    else if pp_shuts (pp_k ts pos) then
      (if op = 0 then none else some (.inr (pos, pos + 1, op - 1, c + (pp_cs ts pos).length, tn, tl, wt, pn, scs, sd, sig, frm, rl, mn, dc, fc)))
    else some (.inr (pos, pos + 1, op, c + (pp_cs ts pos).length, tn, tl, wt, pn, scs, sd, sig, frm, rl, mn, dc, fc))
def pp_ex (ts : List pp_T) (k : Int32) (s : pp_S) : pp_R Nat := if pp_k ts (pq_pos s) = k then pp_tk ts s else pp_bad s
/-- Write to the plain form. -/
def pp_pf (l : List Int32) : pp_S → pp_R Nat
  | (pos, op, c, tn, tl, wt, pn, scs, sd, sig, frm, rl, mn, dc, fc) =>
    if frm.length + l.length ≤ 640 then some (.inr (0, pos, op, c, tn, tl, wt, pn, scs, sd, sig, frm ++ l, rl, mn, dc, fc)) else none
/-- Write to the types. -/
def pp_pt (l : List Int32) : pp_S → pp_R Nat
  | (pos, op, c, tn, tl, wt, pn, scs, sd, sig, frm, rl, mn, dc, fc) =>
    if tn + l.length ≤ 640 then some (.inr (0, pos, op, c, tn + l.length, tl, wt, pn, scs, sd, sig ++ l, frm, rl, mn, dc, fc)) else none
/-- A new type begins. -/
def pp_z : pp_S → pp_S
  | (pos, op, c, tn, tl, wt, pn, scs, sd, _, frm, rl, mn, dc, fc) => (pos, op, c, tn, tl, wt, pn, scs, sd, [], frm, rl, mn, dc, fc)
/-- the type of a name begins -/
def pp_z0 : pp_S → pp_S
  | (pos, op, c, tn, tl, wt, pn, scs, sd, _, frm, rl, mn, dc, _) => (pos, op, c, tn, tl, wt, pn, scs, sd, [], frm, rl, mn, dc, 0)
/-- the first scope of a declarator -/
def pp_sf (e : Bool) (n : Nat) : pp_S → pp_S
  | (pos, op, c, tn, tl, wt, pn, scs, sd, sig, frm, rl, mn, dc, fc) => (pos, op, c, tn, tl, wt, pn, scs, sd, sig, frm, rl, mn, dc, cond e n fc)
def pp_os (q : Nat) : pp_S → pp_R Nat
  | (pos, op, c, tn, tl, wt, pn, scs, sd, sig, frm, rl, mn, dc, fc) =>
    if scs.length ≤ 8 ∧ q < 1000 then some (.inr (0, pos, op, c, tn, tl, wt, pn, scs ++ [q], sd, sig, frm, rl, mn, dc, fc)) else none
def pp_ns : pp_S → pp_R Nat
  | (pos, op, c, tn, tl, wt, pn, scs, sd, sig, frm, rl, mn, dc, fc) =>
    if sd.length < 1000 then some (.inr (sd.length, pos, op, c, tn, tl, wt, pn, scs, sd ++ [scs.length + 1], sig, frm, rl, mn, dc, fc)) else none
def pp_xs : pp_S → pp_R Nat
  | (pos, op, c, tn, tl, wt, pn, scs, sd, sig, frm, rl, mn, dc, fc) =>
    if scs = [] then none else some (.inr (0, pos, op, c, tn, tl, wt, pn, scs.dropLast, sd, sig, frm, rl, mn, dc, fc))
/-- An if, while or else ends. -/
def pp_es : pp_S → pp_R Nat
  | (pos, op, c, tn, tl, wt, pn, scs, sd, sig, frm, rl, mn, dc, fc) =>
    if op = 0 then none else some (.inr (0, pos, op - 1, c, tn, tl, wt, pn, scs, sd, sig, frm, rl, mn, dc, fc))
/-- What a name means, as the program finds it: b is the best so far (number, depth). -/
def pp_mf (ts : List pp_T) (scs : List Nat) (v : Int64) : List pp_D → Nat → Option (Nat × Nat) → Option (Nat × Nat)
  | [], _, b => b
  | x :: l, k, b => pp_mf ts scs v l (k + 1)
      (if x.2.2.1 ≤ scs.length ∧ 1 ≤ x.2.2.1 ∧ scs[x.2.2.1 - 1]? = some x.2.1 ∧ (match b with | none => true | some y => Nat.blt y.2 x.2.2.1) = true ∧ pp_wd ts x.1 = v then some (k, x.2.2.1) else b)
def pp_mc (ts : List pp_T) (scs : List Nat) (dc : List pp_D) (v : Int64) : Option Nat := (pp_mf ts scs v dc 0 none).map (fun y => y.1)
/-- What a name means, as the reference finds it. -/
def pp_m1 (ts : List pp_T) (v : Int64) (q : Nat) : List pp_D → Nat → Option Nat
  | [], _ => none
  | x :: l, k => if x.2.1 = q ∧ pp_wd ts x.1 = v then some k else pp_m1 ts v q l (k + 1)
def pp_mr (ts : List pp_T) (dc : List pp_D) (v : Int64) : List Nat → Option Nat
  | [] => none
  | q :: l => match pp_m1 ts v q dc 0 with
    | some k => some k
    | none => pp_mr ts dc v l
/-- Both agree, or nothing is said. -/
def pp_me (ts : List pp_T) (s : pp_S) (t : Nat) : Option (Option Nat) :=
  if pp_mc ts (pq_scs s) (pq_dc s) (pp_wd ts t) = pp_mr ts (pq_dc s) (pp_wd ts t) (pq_scs s).reverse then some (pp_mc ts (pq_scs s) (pq_dc s) (pp_wd ts t)) else none
def pp_so (s : pp_S) (k : Nat) : Nat := match (pq_dc s)[k]? with
  | some x => x.2.2.2.1
  | none => 0
def pp_ib (ts : List pp_T) (s : pp_S) (t : Nat) : Option Bool :=
  if pp_k ts t = 2 then (match pp_me ts s t with
    | none => none
    | some none => some false
    | some (some k) => some (Nat.beq (pp_so s k) 1))
  else some (pp_k ts t == 5 || pp_k ts t == 6 || pp_k ts t == 7)
def pp_mt (ts : List pp_T) (s : pp_S) (t : Nat) : Option Bool := match pp_me ts s t with
  | none => none
  | some none => some false
  | some (some k) => some (!Nat.beq (pp_so s k) 1)
def pp_cd (ts : List pp_T) (s : pp_S) (t : Nat) : Option Bool := if pq_scs s = [] then none else match pp_me ts s t with
  | none => none
  | some none => some true
  | some (some k) => (match (pq_dc s)[k]? with
    | some x => if Nat.blt x.2.2.1 (pq_scs s).length = !(Nat.beq x.2.1 ((pq_scs s).getLastD 0)) then some (Nat.blt x.2.2.1 (pq_scs s).length) else none
    | none => none)
def pp_fu (f : Nat → Int32) (t : Nat) (v : Int32) : Nat → Int32 := fun i => if i = t then v else f i
def pp_use (ts : List pp_T) (t : Nat) (s : pp_S) : pp_R Nat := match pp_me ts s t with
  | some (some k) => (match s with
    | (pos, op, c, tn, tl, wt, pn, scs, sd, sig, frm, rl, mn, dc, fc) =>
      some (.inr (t, pos, op, c, tn, tl, wt, pn, scs, sd, sig, frm, pp_fu rl t (if pp_so s k = 1 then 1 else 2), pp_fu mn t (Int32.ofNat k), dc, fc)))
  | _ => none
/-- A condition that must hold, said or not. -/
def pp_if {α : Type} (x : Option Bool) (a b : pp_R α) : pp_R α := match x with
  | none => none
  | some true => a
  | some false => b
def pp_base (ts : List pp_T) (s : pp_S) : pp_R Nat :=
  pp_if (pp_ib ts s (pq_pos s)) (pp_b (pp_tk ts s) fun t s => if pp_k ts t = 2 then pp_use ts t s else pp_ret t s) (pp_bad s)
def pp_bv (ts : List pp_T) (s : pp_S) (t : Nat) : Int32 :=
  if pp_k ts t = 5 then 105 else if pp_k ts t = 6 then 99 else if pp_k ts t = 7 then 118 else 1000 + pq_mn s t
def pp_dig (n : Nat) : List Int32 := if 10 ≤ n then [Int32.ofNat (48 + n / 10), Int32.ofNat (48 + n % 10)] else [Int32.ofNat (48 + n)]
def pp_wb (ts : List pp_T) (t : Nat) (s : pp_S) : pp_R Nat :=
  if pp_k ts t = 5 then pp_pt [105] s else if pp_k ts t = 6 then pp_pt [99] s else if pp_k ts t = 7 then pp_pt [118] s
  else if (pq_mn s t).toNatClampNeg < 100 ∧ pq_mn s t = Int32.ofNat (pq_mn s t).toNatClampNeg then pp_pt (pp_dig (pq_mn s t).toNatClampNeg ++ [46]) s else none
def pp_tt (dc : List pp_D) : Nat := (dc.map (fun x => x.2.2.2.2.length)).sum
def pp_de (ts : List pp_T) (t st tn0 ty : Nat) : pp_S → pp_R Nat
  | (pos, op, c, tn, tl, wt, pn, scs, sd, sig, frm, rl, mn, dc, fc) =>
    if dc.length < 80 ∧ scs ≠ [] ∧ st < sig.length ∧ t < ts.length ∧ pp_tt dc + (sig.length - st) ≤ 6000 ∧ tn0 + (sig.length - st) = tn then
      some (.inr (dc.length, pos, op, c, tn, tl, wt, pn, scs, sd, sig, frm, pp_fu rl t (if ty = 1 then 3 else 4), pp_fu mn t (Int32.ofNat dc.length),
        dc ++ [(t, scs.getLastD 0, scs.length, if ty = 1 then 1 else if (sig.drop st).headD 0 = 40 then 2 else 0, sig.drop st)], fc))
    else none
/-- A call: m more tasks and x more cells wait below it. -/
def pp_c (C : pp_C) (j a b m x : Nat) : pp_S → pp_R Nat
  | (pos, op, c, tn, tl, wt, r) => pp_b (C j a b (pos, op, c, tn, tl + m, wt + x, r)) fun v s => (match s with
    | (pos, op, c, tn, _, _, r) => some (.inr (v, pos, op, c, tn, tl, wt, r)))
def pp_01 {α : Type} (p : Nat) (x : pp_R α) : pp_R α := if p ≤ 1 then x else none
def pp_at (ts : List pp_T) (s : pp_S) : Int32 := pp_k ts (pq_pos s)
def pp_nx (ts : List pp_T) (s : pp_S) : Int32 := pp_k ts (pq_pos s + 1)
/-- typed -/
def pp_55 (ts : List pp_T) (C : pp_C) (m : Nat) (s : pp_S) : pp_R Nat :=
  pp_b (pp_base ts s) fun b s1 => pp_b (pp_c C 56 m 0 4 0 s1) fun nm s2 =>
    if pp_bv ts s2 b = pp_bv ts s1 b ∧ (m = 2 → nm = 0) then pp_b (pp_wb ts b s2) fun _ s3 =>
      if nm = 0 then pp_ret 0 s3 else pp_b (pp_de ts (nm - 1) (pq_sig s).length (pq_tn s) 0 s3) fun _ s4 => pp_ret 0 s4
    else none
def pp_57 (ts : List pp_T) (s : pp_S) : pp_R Nat :=
  pp_w (fun _ s => some (pp_at ts s == 42)) (fun a s => pp_b (pp_tk ts s) fun _ s => pp_ret (a + 1) s) 160 0 s
/-- is it a group -/
def pp_59 (ts : List pp_T) (m : Nat) (s : pp_S) : Option Bool :=
  if m = 0 then some true else if pp_nx ts s = 42 ∨ pp_nx ts s = 40 ∨ pp_nx ts s = 91 then some true
  else if pp_nx ts s = 2 ∧ m = 1 then (pp_ib ts s (pq_pos s + 1)).map (fun b => !b) else some false
/-- direct -/
def pp_58 (ts : List pp_T) (C : pp_C) (m : Nat) (s : pp_S) : pp_R Nat :=
  if pp_at ts s = 2 ∧ m ≠ 2 then pp_if (pp_cd ts s (pq_pos s)) (pp_b (pp_tk ts s) fun t s => pp_ret (t + 1) s) (pp_bad s)
  else if pp_at ts s = 40 then pp_if (pp_59 ts m s)
    (pp_b (pp_tk ts s) fun _ s => pp_b (pp_c C 56 m 0 3 0 s) fun nm s => pp_b (pp_ex ts 41 s) fun _ s => pp_ret nm s)
    (pp_ret 0 s)
  else if m = 0 then pp_bad s else pp_ret 0 s
/-- dimension -/
def pp_60 (ts : List pp_T) (s : pp_S) : pp_R Nat :=
  pp_b (pp_ex ts 91 s) fun _ s => pp_b (pp_pt [91] s) fun _ s =>
    pp_b (if pp_at ts s = 3 then pp_b (pp_tk ts s) fun t s => pp_pt (pp_cs ts t) s else pp_ret 0 s) fun _ s =>
      pp_b (pp_pt [93] s) fun _ s => pp_b (pp_ex ts 93 s) fun _ s => pp_ret 0 s
/-- parameters -/
def pp_61 (ts : List pp_T) (C : pp_C) (s : pp_S) : pp_R Nat :=
  pp_b (pp_ex ts 40 s) fun _ s0 => pp_b (pp_pt [40] s0) fun _ s => pp_b (pp_ns s) fun q s => pp_b (pp_os q (pp_sf (pq_sig s0).isEmpty (q + 1) s)) fun _ s =>
    pp_b (if pp_at ts s = 7 ∧ pp_nx ts s = 41 then pp_tk ts s else if pp_at ts s = 41 then pp_ret 0 s else
        pp_b (pp_c C 55 1 0 2 0 s) fun _ s => pp_w (fun _ s => some (pp_at ts s == 44))
          (fun _ s => pp_b (pp_tk ts s) fun _ s => pp_b (pp_pt [44] s) fun _ s => pp_c C 55 1 0 2 0 s) 160 0 s) fun _ s =>
      pp_b (pp_xs s) fun _ s => pp_b (pp_ex ts 41 s) fun _ s => pp_pt [41] s
/-- declarator -/
def pp_56 (ts : List pp_T) (C : pp_C) (m : Nat) (s : pp_S) : pp_R Nat :=
  pp_b (pp_57 ts s) fun n s => pp_b (pp_c C 58 m 0 2 0 s) fun nm s =>
    pp_b (pp_w (fun _ s => some (pp_at ts s == 91 || pp_at ts s == 40))
      (fun _ s => if pp_at ts s = 91 then pp_60 ts s else pp_c C 61 0 0 1 0 s) 160 0 s) fun _ s =>
      pp_b (pp_pt (List.replicate n 42) s) fun _ s => pp_ret nm s
/-- namedDeclarator -/
def pp_54 (ts : List pp_T) (C : pp_C) (b ty : Nat) (s : pp_S) : pp_R Nat :=
  pp_b (pp_c C 56 0 0 1 0 (pp_z0 s)) fun nm s2 => if pp_bv ts s2 b = pp_bv ts s b ∧ nm ≠ 0 then
    pp_b (pp_wb ts b s2) fun _ s3 => pp_de ts (nm - 1) 0 (pq_tn s) ty s3 else none
/-- expression -/
def pp_63 (ts : List pp_T) (C : pp_C) (s : pp_S) : pp_R Nat :=
  pp_b (pp_c C 64 0 0 1 0 s) fun p s => pp_01 p <| pp_b (pp_w (fun (a : Nat × Nat) s => some (Nat.beq a.2 1 && pp_at ts s == 61))
      (fun a s => pp_b (pp_tk ts s) fun _ s => pp_b (pp_c C 64 0 0 (a.1 + 2) 0 s) fun p s => pp_01 p <| pp_ret (a.1 + 1, p) s) 160 (0, p) s) fun a s =>
    pp_b (if pp_at ts s = 60 then pp_b (pp_tk ts s) fun _ s => pp_b (pp_c C 64 0 0 (a.1 + 1) 0 s) fun _ s => pp_pf [60] s else pp_ret 0 s) fun _ s =>
      pp_pf (List.replicate a.1 61) s
/-- sum and product -/
def pp_64 (ts : List pp_T) (C : pp_C) (j : Nat) (x y : Int32) (s : pp_S) : pp_R Nat :=
  pp_b (pp_c C j 0 0 1 0 s) fun p s => pp_01 p <| pp_w (fun _ s => some (pp_at ts s == x || pp_at ts s == y))
    (fun _ s => pp_b (pp_tk ts s) fun t s => pp_b (pp_c C j 0 0 2 0 s) fun _ s => pp_b (pp_pf [pp_k ts t] s) fun _ s => pp_ret 0 s) 160 p s
def pp_67 (ts : List pp_T) (s : pp_S) : Option Bool :=
  if pp_at ts s = 45 ∨ pp_at ts s = 42 ∨ pp_at ts s = 38 ∨ pp_at ts s = 33 ∨ pp_at ts s = 12 then some true
  else if pp_at ts s = 40 then pp_ib ts s (pq_pos s + 1) else some false
def pp_68 (k : Int32) : Int32 := if k = 40 then 91 else if k = 45 then 126 else if k = 42 then 64 else if k = 12 then 36 else k
def pp_pu : pp_S → pp_R Nat
  | (pos, op, c, tn, tl, wt, pn, r) => if pn < 160 then some (.inr (0, pos, op, c, tn, tl, wt, pn + 1, r)) else none
def pp_po (n : Nat) : pp_S → pp_S
  | (pos, op, c, tn, tl, wt, _, r) => (pos, op, c, tn, tl, wt, n, r)
abbrev pp_A : Type := List (Int32 × List Int32) × Bool × Bool
def pp_wl (l : List (Int32 × List Int32)) : Nat := (l.map (fun x => x.2.length + 1)).sum
def pp_ou (l : List (Int32 × List Int32)) : List Int32 := l.flatMap (fun x => x.1 :: (if x.1 = 91 then x.2 ++ [93] else []))
def pp_66b (ts : List pp_T) (C : pp_C) (a : pp_A) (s : pp_S) : pp_R pp_A :=
  if pq_tl s + 2 * a.1.length + 30 ≤ 1200 then pp_b (pp_tk ts s) fun t s =>
    if pp_68 (pp_k ts t) = 91 then (if pq_wt s + pp_wl a.1 + 700 ≤ 2400 then pp_b (pp_c C 55 2 0 (2 * a.1.length + 3) (pp_wl a.1) (pp_z s)) fun _ s1 => pp_b (pp_ex ts 41 s1) fun _ s1 =>
      if pq_tn s1 = pq_tn s + (pq_sig s1).length then
      pp_b (pp_pu s1) fun _ s1 => pp_ret ((91, pq_sig s1) :: a.1, false, !a.2.1) s1 else none else none)
    else pp_b (pp_pu s) fun _ s => pp_ret ((pp_68 (pp_k ts t), []) :: a.1, pp_k ts t == 12, true) s
  else none
/-- cast -/
def pp_66 (ts : List pp_T) (C : pp_C) (s0 : pp_S) : pp_R Nat :=
  pp_b (pp_w (fun (a : pp_A) s => if a.2.2 then pp_67 ts s else some false) (pp_66b ts C) 160 ([], false, true) s0) fun a s =>
    pp_b (if a.2.2 then pp_c C 71 0 0 (2 * a.1.length) (pp_wl a.1) s else pp_ret 0 s) fun p s =>
      pp_01 p <| pp_b (pp_pf (pp_ou a.1) s) fun _ s =>
        pp_ret (match a.1.getLast? with | none => p | some x => if x.1 = 64 then 1 else 0) (pp_po (pq_pn s0) s)
/-- what stands behind a primary -/
def pp_71 (ts : List pp_T) (C : pp_C) (s : pp_S) : pp_R Nat :=
  pp_b (pp_c C 74 0 0 1 0 s) fun p s => pp_01 p <| pp_w (fun _ s => some (pp_at ts s == 91 || pp_at ts s == 40))
    (fun _ s => pp_b (if pp_at ts s = 91 then pp_c C 72 0 0 0 0 s else pp_c C 73 0 0 0 0 s) fun _ s => pp_ret 1 s) 160 p s
def pp_72 (ts : List pp_T) (C : pp_C) (s : pp_S) : pp_R Nat :=
  pp_b (pp_ex ts 91 s) fun _ s => pp_b (pp_c C 63 0 0 4 0 s) fun _ s => pp_b (pp_ex ts 93 s) fun _ s => pp_pf [93] s
def pp_73 (ts : List pp_T) (C : pp_C) (s : pp_S) : pp_R Nat :=
  pp_b (pp_ex ts 40 s) fun _ s => pp_b (if pp_at ts s = 41 then pp_ret 0 s else
      pp_b (pp_c C 63 0 0 3 0 s) fun _ s => pp_w (fun _ s => some (pp_at ts s == 44))
        (fun n s => pp_b (pp_tk ts s) fun _ s => pp_b (pp_c C 63 0 0 3 0 s) fun _ s => pp_ret (n + 1) s) 160 1 s) fun n s =>
    pp_b (pp_ex ts 41 s) fun _ s => if n < 100 then pp_pf (40 :: (pp_dig n ++ [41])) s else none
def pp_75 (ts : List pp_T) (t : Nat) (s : pp_S) : pp_R Nat := pp_pf (pp_cs ts t ++ [32]) s
def pp_74 (ts : List pp_T) (C : pp_C) (s : pp_S) : pp_R Nat :=
  if pp_at ts s = 40 then pp_b (pp_tk ts s) fun _ s => pp_b (pp_c C 63 0 0 3 0 s) fun _ s => pp_b (pp_ex ts 41 s) fun _ s => pp_ret 0 s
  else if pp_at ts s = 2 then pp_if (pp_mt ts s (pq_pos s)) (pp_b (pp_use ts (pq_pos s) s) fun _ s => pp_b (pp_tk ts s) fun t s => pp_b (pp_75 ts t s) fun _ s => pp_ret 1 s) (pp_bad s)
  else pp_b (pp_ex ts 3 s) fun t s => pp_b (pp_75 ts t s) fun _ s => pp_ret 0 s
def pp_79 (ts : List pp_T) (s : pp_S) : pp_R Nat :=
  if pp_at ts s = 4 then pp_b (pp_tk ts s) fun _ s => pp_base ts s
  else pp_b (pp_base ts s) fun b s => if pp_at ts s = 4 then pp_b (pp_tk ts s) fun _ s => pp_ret b s else pp_ret b s
def pp_80 (ts : List pp_T) (k : Nat) (s : pp_S) : pp_R Nat := match (pq_dc s)[k]? with
  | some x => pp_pf ((if x.2.2.2.1 = 1 then [35] else []) ++ (pp_cs ts x.1 ++ (58 :: x.2.2.2.2))) s
  | none => none
/-- one turn of the loop of a declaration; it carries (turn, 0: no more, 1: more, 2: a block ended it) -/
def pp_78b (ts : List pp_T) (C : pp_C) (o b ty : Nat) (v : Int32) (a : Nat × Nat) (s : pp_S) : pp_R (Nat × Nat) :=
  if pp_bv ts s b = v then pp_b (pp_c C 54 b ty 1 0 s) fun k s1 => pp_b (pp_80 ts k s1) fun _ s1 =>
    if o = 1 ∧ a.1 = 0 ∧ pp_at ts s1 = 123 ∧ pp_so s1 k = 2 then (if pq_fc s1 = (pq_sd s).length + 1 then pp_b (pp_c C 81 (pq_sd s).length 0 1 0 s1) fun _ s1 => pp_ret (1, 2) s1 else none)
    else pp_b (if pp_at ts s1 = 61 then pp_b (pp_tk ts s1) fun _ s1 => pp_b (pp_c C 63 0 0 2 0 s1) fun _ s1 => pp_pf [61] s1 else pp_ret 0 s1) fun _ s1 =>
      pp_b (pp_pf [59] s1) fun _ s1 => if pp_at ts s1 = 44 then pp_b (pp_tk ts s1) fun _ s1 => pp_ret (a.1 + 1, 1) s1 else pp_ret (a.1 + 1, 0) s1
  else none
/-- declaration -/
def pp_78 (ts : List pp_T) (C : pp_C) (o : Nat) (s : pp_S) : pp_R Nat :=
  pp_b (pp_79 ts s) fun b s1 =>
    if (pp_bv ts s1 b).toNatClampNeg < 2000 ∧ pp_bv ts s1 b = Int32.ofNat (pp_bv ts s1 b).toNatClampNeg then pp_b (pp_w (fun (a : Nat × Nat) _ => some (Nat.beq a.2 1)) (pp_78b ts C o b (if pq_pos s1 - pq_pos s = 2 then 1 else 0) (pp_bv ts s1 b)) 160
        (0, if pp_at ts s1 = 59 then 0 else 1) s1) fun a s2 =>
      if a.2 = 2 then pp_ret 0 s2 else pp_ex ts 59 s2
    else none
/-- block -/
def pp_81 (ts : List pp_T) (C : pp_C) (q : Nat) (s : pp_S) : pp_R Nat :=
  pp_b (pp_ex ts 123 s) fun _ s => pp_b (pp_os q s) fun _ s => pp_b (pp_pf [123] s) fun _ s =>
    pp_b (pp_w (fun _ s => some (!(pp_at ts s == 125))) (fun _ s => pp_if (if pp_at ts s = 4 then some true else pp_ib ts s (pq_pos s))
        (pp_c C 78 0 0 1 0 s) (pp_c C 82 0 0 1 0 s)) 160 0 s) fun _ s =>
      pp_b (pp_ex ts 125 s) fun _ s => pp_b (pp_pf [125] s) fun _ s => pp_xs s
def pp_83 (ts : List pp_T) (c : Int32) (s : pp_S) : pp_R Nat := pp_b (pp_ex ts 59 s) fun _ s => pp_pf [c] s
/-- statement -/
def pp_82 (ts : List pp_T) (C : pp_C) (s : pp_S) : pp_R Nat :=
  if pp_at ts s = 123 then pp_b (pp_ns s) fun q s => pp_c C 81 q 0 0 0 s
  else if pp_at ts s = 59 then pp_83 ts 59 s
  else if pp_at ts s = 8 then pp_c C 84 0 0 0 0 s
  else if pp_at ts s = 10 then pp_b (pp_tk ts s) fun _ s => pp_c C 85 37 0 1 0 s
  else if pp_at ts s = 11 then pp_b (pp_tk ts s) fun _ s => pp_b (if pp_at ts s = 59 then pp_ret 0 s else pp_c C 63 0 0 2 0 s) fun _ s => pp_83 ts 94 s
  else pp_b (pp_c C 63 0 0 2 0 s) fun _ s => pp_83 ts 59 s
/-- choice -/
def pp_84 (ts : List pp_T) (C : pp_C) (s : pp_S) : pp_R Nat :=
  pp_b (pp_ex ts 8 s) fun _ s => pp_b (pp_c C 85 63 0 1 0 s) fun _ s =>
    if pp_at ts s = 9 then pp_b (pp_tk ts s) fun _ s => pp_b (pp_pf [58] s) fun _ s => pp_b (pp_c C 82 0 0 1 0 s) fun _ s => pp_es s else pp_ret 0 s
/-- conditional -/
def pp_85 (ts : List pp_T) (C : pp_C) (c : Nat) (s : pp_S) : pp_R Nat :=
  pp_b (pp_ex ts 40 s) fun _ s => pp_b (pp_c C 63 0 0 4 0 s) fun _ s => pp_b (pp_ex ts 41 s) fun _ s => pp_b (pp_pf [Int32.ofNat c] s) fun _ s =>
    pp_b (pp_c C 82 0 0 1 0 s) fun _ s => pp_es s
def pp_body (ts : List pp_T) (C : pp_C) (j a b : Nat) (s : pp_S) : pp_R Nat := match j with
  | 54 => pp_54 ts C a b s
  | 55 => pp_55 ts C a s
  | 56 => pp_56 ts C a s
  | 58 => pp_58 ts C a s
  | 61 => pp_61 ts C s
  | 63 => pp_63 ts C s
  | 64 => pp_64 ts C 65 43 45 s
  | 65 => pp_64 ts C 66 42 47 s
  | 66 => pp_66 ts C s
  | 71 => pp_71 ts C s
  | 72 => pp_72 ts C s
  | 73 => pp_73 ts C s
  | 74 => pp_74 ts C s
  | 78 => pp_78 ts C a s
  | 81 => pp_81 ts C a s
  | 82 => pp_82 ts C s
  | 84 => pp_84 ts C s
  | 85 => pp_85 ts C a s
  | _ => none
def pp_run (ts : List pp_T) : Nat → pp_C
  | 0 => fun _ _ _ _ => none
  | n + 1 => fun j a b s => if pq_tl s + 20 ≤ 1200 then pp_body ts (pp_run ts n) j a b s else none
def pp_s0 : pp_S := (0, 0, 0, 0, 1, 0, 0, [0], [1], [], [], fun _ => 0, fun _ => -1, [], 0)
def pp_prog (ts : List pp_T) (n : Nat) : pp_R Nat :=
  pp_w (fun _ s => some (!(pp_at ts s == 0))) (fun _ s => pp_c (pp_run ts n) 78 1 0 1 0 s) 160 0 pp_s0
