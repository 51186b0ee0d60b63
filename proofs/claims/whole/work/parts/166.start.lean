/-- from the entry, for every script of at most 2048 ints, the law comes to its end with true -/
theorem whole_start {p : Program} {e : Env} {s : State} {m : MethodId} {below : List Frame} {meth : Method} {c : Code} (l : Launch) (hlt : l.stackTraces = false) {b L : Nat} {xs : Nat → Int32} (hL : L ≤ 2048) (C0 : lw_At p s m meth c b L xs) : W p l e room_1 s m #[Value.ref b] below meth c s.heap [] 0 0 (lw_Z below #[Value.ref b] s) (entryFrame m ([Value.ref b] : List Value).toArray 7) := by
  obtain ⟨hx, hb, hret, hml, hown, hts0, hX, hbl, hlocks, hgv⟩ := C0
  have hts : ∀ w ∈ jn_T, w.before #[Value.ref b] s = true := fun w hw => hts0 w (List.mem_filter.mp hw).1
  obtain ⟨D, dA, hK⟩ := ls_K hts
  obtain ⟨la, lv, lc, hKz⟩ := ls_Kz hts0 hgv
  have hN : jc_N s := (hKz (fun _ => 0)).1
  have hC : CallFix p m c code 7 s #[Value.ref b] jn_T "TypeOrThingLaw" := ⟨hx, hb, hml, hown, hts⟩
  have hA : ∀ q : Nat, s.heap.size ≤ q → (fun q => s.heap.size ≤ q) q := fun _ h => h
  have hl0 := lv_entry ([.ref b] : List Value) (n := 7) (Nat.le_of_ble_eq_true rfl)
  rw [lg_entry_eq]
  have hl : ja_has (fun q => q) _ 7 [some (.ref b), none, none, none, none, none, none] := ja_entry (as := [.ref b]) (fun q => q) hl0
  refine lw_newC (la := la) (lv := lv) (lc := lc) l hC hK hN hl.1 (fun g1 H locs hP hD hS => ?_)
  have hzC := hKz g1
  have e1 : g1 0 = ladm g1 la lv lc 0 := rfl
  rw [e1]
  generalize ladm g1 la lv lc = aC at hzC hP hD ⊢
  refine lv_astore_n (i := 1) (x := aC 0) hx hb dw_7 rfl (ja_lv hl) (by decide) rfl (fun ls1 hq1 => ?_)
  have hl1 : ja_has (fun q => q) ls1 7 [some (.ref b), some (.ref (aC 0)), none, none, none, none, none] := ja_s1 (ad := fun q => q) (i := 1) (L := [some (.ref b), none, none, none, none, none, none]) (v := .ref (aC 0)) rfl hq1
  refine lw_newR (la := la) (lv := lv) (lc := lc) l hC hK hN hl1.1 hP hD hS (by decide) (by decide) (fun g2 H locs hP hD hS => ?_)
  have hzR := hKz g2
  have e2 : g2 0 = ladm g2 la lv lc 0 := rfl
  rw [e2]
  generalize ladm g2 la lv lc = aR at hzR hP hD ⊢
  refine lv_astore_n (i := 2) (x := aR 0) hx hb dw_15 rfl (ja_lv hl1) (by decide) rfl (fun ls2 hq2 => ?_)
  have hl2 : ja_has (fun q => q) ls2 7 [some (.ref b), some (.ref (aC 0)), some (.ref (aR 0)), none, none, none, none] := ja_s1 (ad := fun q => q) (i := 2) (L := [some (.ref b), some (.ref (aC 0)), none, none, none, none, none]) (v := .ref (aR 0)) rfl hq2
  refine lv_iconst (v := 1) hx hb dw_16 (by decide) ?_
  refine jc_newa (dA := dA) (atype := .long) (ty := .long) (N' := 1) (a0 := (1, .inr (.inl (fun _ => 0)))) hx hb (hts _ ls_a2) rfl 2 rfl (fun _ h => h) hK hP hD hS hA (jc_v2 1) (by decide) (by decide) (by decide) (by decide) (by decide) dw_17 (fun ao H hP hD hS => ?_)
  rw [List.append_assoc] at hP hD
  refine lv_astore_n (i := 3) (x := ao) hx hb dw_19 rfl (ja_lv hl2) (by decide) rfl (fun ls3 hq3 => ?_)
  have hl3 : ja_has (fun q => q) ls3 7 [some (.ref b), some (.ref (aC 0)), some (.ref (aR 0)), some (.ref ao), none, none, none] := ja_s1 (ad := fun q => q) (i := 3) (L := [some (.ref b), some (.ref (aC 0)), some (.ref (aR 0)), none, none, none, none]) (v := .ref ao) rfl hq3
  refine lv_iconst (v := 0) hx hb dw_20 (by decide) ?_
  refine lv_istore (x := 0) hx hb dw_21 (ja_lv hl3) (by decide) rfl (fun ls4 hq4 => ?_)
  have hl4 : ja_has (fun q => q) ls4 7 (lLo b (aC 0) (aR 0) ao (nI (4 * 0)) none none) := ja_s1 (ad := fun q => q) (i := 4) (L := [some (.ref b), some (.ref (aC 0)), some (.ref (aR 0)), some (.ref ao), none, none, none]) (v := .int 0) rfl hq4
  exact lw_loop (xs := xs) (L := L) (D := D) (dA := dA) (aC := aC) (aR := aR) ⟨hC, hK, hzC, hzR, hX, hbl, hlt, hL⟩ hret hlocks 512 0 lu0 lwC0 lwR0 (fun _ => 0) _ _ H locs ls4 none none (by omega) (by omega) lu_c lu_r hl4 (by unfold lcs; exact hP) (by unfold lcs; exact hD) hS (by decide) (by decide)
