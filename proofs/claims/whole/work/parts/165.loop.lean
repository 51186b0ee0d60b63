/-! THE CLAIM OUT OF ONE WALK OF THE LAW'S BODY. Your part is whole_start (and what it stands on); all else here is the same for every law, but numbers. -/
def R_law : String := "TypeOrThingLaw"
def lw_P (b : Addr) (xs : List Int32) (args : Array Value) (s : State) : Prop := args = #[.ref b] ∧ s.IntsAt b xs ∧ xs.length ≤ 2048 ∧ (Jvm.Cond.and given_1 narrow_1).before args s = true
def lw_Q (_ : Array Value) (s : State) (o : Outcome) (t : State) : Prop := o = .returned (some (.int 1)) ∧ Framed s o t [] 601024 7293034
def lw_Z (below : List Frame) (a : Array Value) (s : State) : State → Prop := fun t => ∃ o, t.status = .running ∧ Ended t below o ∧ lw_Q a s o t
/-- the law's own end, with 1 on the stack, nothing written that was there before, its room as the claim has it -/
theorem lw_ret {p : Program} {l : Launch} {e : Env} {s : State} {m : MethodId} {below : List Frame} {meth : Method} {c : Code} {b : Nat} (hx : p.tables.exec = Jvm.exec) (hb : c.code = code) (hr : meth.sig.returnType = ret) (hlocks : meth.locks = false) {pc : Nat} {H : Heap} {ls : Array Slot} (hdg : decode code pc = .ok (.ireturn, 1)) : W p l e room_1 s m #[Value.ref b] below meth c H [] 601024 7293034 (lw_Z below #[Value.ref b] s) (F0 m pc ls [.int 1]) := by
  intro T hT X
  obtain ⟨fs, hret, hrun, hended, hW, hframe⟩ := X.leave (v := some (.int 1)) (hlocks := hlocks) (fun h => by rw [hr] at h; cases h)
  have hmeth' : T.vm.method? m = some meth := X.method'
  refine ⟨T.setFrames fs, ?_, .returned (some (.int 1)), hrun, hended, rfl, ⟨_, rfl⟩, hW, hframe⟩
  jvm_step X.here [X.here.top, hx, hb, hdg, hmeth', hr, ret, narrow_b1]
  (try refine ⟨rfl, ?_⟩); (try refine ⟨rfl, ?_⟩)
  first | (intro acts; rw [hret _ acts rfl rfl rfl]) | rw [hret _ _ rfl rfl rfl]
  exact Steps.refl _
/-- what holds at the law's entry: the machine, the code, the tables' words (any of lw_tbl by 'hts w (by decide +kernel)'), the script of L ints xs at the cell b, what the Statement gives of the start (any of its parts by flat_of_before) -/
def lw_At (p : Program) (s : State) (m : MethodId) (meth : Method) (c : Code) (b L : Nat) (xs : Nat → Int32) : Prop :=
  p.tables.exec = Jvm.exec ∧ c.code = code ∧ meth.sig.returnType = ret ∧ c.maxLocals = 7 ∧ s.vm.findClass R_law = some m.cls ∧ (∀ w ∈ lw_tbl, w.before #[Value.ref b] s = true) ∧ va_X b L xs s s.heap ∧ b < s.heap.size ∧ meth.locks = false ∧ (Jvm.Cond.and given_1 narrow_1).before #[Value.ref b] s = true
section
variable {p : Program} {l : Launch} {e : Env} {s : State} {m : MethodId} {below : List Frame} {meth : Method} {c : Code} {D : va_G} {dA : Nat → ClassId} {aC aR : Nat → Nat} {b L ao : Nat} {xs : Nat → Int32}
theorem lw_step {Q : State → Prop} {t : Nat} {u : vU} {wC wR : ja_w} {f : Nat → Int64} {c0 s0 : Nat} {H : Heap} {locs : List Loc} {ls : Array Slot} {k5 k6 : Option Value} (X : lX p l s m c D dA aC aR b L xs) (ht0 : 4 * t ≤ L) (hu : cV u wC) (hr : rV u wR) (hl : ja_has (fun q => q) ls 7 (lLo b (aC 0) (aR 0) ao (nI (4 * t)) k5 k6)) (hP : va_P D jn_cl (lcs dA aC aR ao wC wR f) H) (hD : va_D (fun q => s.heap.size ≤ q) (lcs dA aC aR ao wC wR f)) (hS : va_S (fun q => s.heap.size ≤ q) s.heap H locs) (hcs : 4 * t + 4 ≤ L → c0 + 2 ≤ 601024 ∧ s0 + 12 ≤ 7293034)
    (kend : W p l e room_1 s m #[Value.ref b] below meth c H locs c0 s0 Q (F0 m 521 ls []))
    (kk : 4 * t + 4 ≤ L → lK p l e s m below meth c D dA aC aR b ao t c0 s0 Q) : W p l e room_1 s m #[Value.ref b] below meth c H locs c0 s0 Q (F0 m 23 ls []) := by
  have X' := X
  obtain ⟨hC, hK, hzC, hzR, hX, hbl, hlt, hL⟩ := X'
  have hx := hC.1
  have hb := hC.2.1
  have hbA : ¬ s.heap.size ≤ b := by omega
  refine lv_iload hx hb dw_23 (hl.2.2 4 (.int _) rfl) ?_
  refine lv_aload_n hx hb dw_25 rfl (hl.2.2 0 (.ref b) rfl) ?_
  refine va_slen hx hb hX hbl hbA hS dw_26 ?_
  refine lv_iconst (v := 4) hx hb dw_27 (by decide) ?_
  refine lv_isub hx hb dw_28 ?_
  refine lv_icmp_gt hx hb dw_29 (tgt := 521) (by decide) (fun _ => kend) (fun h => ?_)
  have h1 : (nI L - nI 4).toInt = (L : Int) - (4 : Nat) := pk_sub_toInt (by omega) (by omega)
  have h2 : (nI (4 * t)).toInt = ((4 * t : Nat) : Int) := nI_toInt (by omega)
  have h3 : ¬ (nI L - nI 4).toInt < (nI (4 * t)).toInt := fun z => h (Int32.lt_iff_toInt_lt.mpr z)
  rw [h1, h2] at h3
  have ht : 4 * t + 4 ≤ L := by omega
  obtain ⟨hc, hs⟩ := hcs ht
  have kk := kk ht
  refine lv_aload_n hx hb dw_32 rfl (hl.2.2 0 (.ref b) rfl) ?_
  refine lv_iload hx hb dw_33 (hl.2.2 4 (.int _) rfl) ?_
  refine va_sld hx hb hX hbl hbA hS (l_in0 ht hL) dw_35 ?_
  refine lv_bipush (v := 15) hx hb dw_36 (by decide) ?_
  refine lv_iand hx hb dw_38 ?_
  obtain ⟨j, hj, ej⟩ := pk_andE (xs (nI (4 * t)).toNatClampNeg) (m := 15) 4 (by decide)
  rw [ej]
  have hj2 : j = 0 ∨ j = 1 ∨ j = 2 ∨ j = 3 ∨ j = 4 ∨ j = 5 ∨ j = 6 ∨ j = 7 ∨ j = 8 ∨ j = 9 ∨ j = 10 ∨ 11 ≤ j := by omega
  rcases hj2 with rfl | rfl | rfl | rfl | rfl | rfl | rfl | rfl | rfl | rfl | rfl | hj2
  · refine lv_tableIn (off := 57) hx hb dw_39 (by decide +kernel) (by decide +kernel) (by decide +kernel) (tgt := 96) (by decide) ?_
    exact lw_c0 X ht hu hr hl hP hD hS hc hs kk
  · refine lv_tableIn (off := 126) hx hb dw_39 (by decide +kernel) (by decide +kernel) (by decide +kernel) (tgt := 165) (by decide) ?_
    exact lw_c1 X ht hu hr hl hP hD hS hc hs kk
  · refine lv_tableIn (off := 151) hx hb dw_39 (by decide +kernel) (by decide +kernel) (by decide +kernel) (tgt := 190) (by decide) ?_
    exact lw_c2 X ht hu hr hl hP hD hS hc hs kk
  · refine lv_tableIn (off := 195) hx hb dw_39 (by decide +kernel) (by decide +kernel) (by decide +kernel) (tgt := 234) (by decide) ?_
    exact lw_c3 X ht hu hr hl hP hD hS hc hs kk
  · refine lv_tableIn (off := 208) hx hb dw_39 (by decide +kernel) (by decide +kernel) (by decide +kernel) (tgt := 247) (by decide) ?_
    exact lw_c4 X ht hu hr hl hP hD hS hc hs kk
  · refine lv_tableIn (off := 233) hx hb dw_39 (by decide +kernel) (by decide +kernel) (by decide +kernel) (tgt := 272) (by decide) ?_
    exact lw_c5 X ht hu hr hl hP hD hS hc hs kk
  · refine lv_tableIn (off := 258) hx hb dw_39 (by decide +kernel) (by decide +kernel) (by decide +kernel) (tgt := 297) (by decide) ?_
    exact lw_c6 X ht hu hr hl hP hD hS hc hs kk
  · refine lv_tableIn (off := 271) hx hb dw_39 (by decide +kernel) (by decide +kernel) (by decide +kernel) (tgt := 310) (by decide) ?_
    exact lw_c7 X ht hu hr hl hP hD hS hc hs kk
  · refine lv_tableIn (off := 339) hx hb dw_39 (by decide +kernel) (by decide +kernel) (by decide +kernel) (tgt := 378) (by decide) ?_
    exact lw_c8 X ht hu hr hl hP hD hS hc hs kk
  · refine lv_tableIn (off := 407) hx hb dw_39 (by decide +kernel) (by decide +kernel) (by decide +kernel) (tgt := 446) (by decide) ?_
    exact lw_c9 X ht hu hr hl hP hD hS hc hs kk
  · refine lv_tableIn (off := 420) hx hb dw_39 (by decide +kernel) (by decide +kernel) (by decide +kernel) (tgt := 459) (by decide) ?_
    exact lw_c10 X ht hu hr hl hP hD hS hc hs kk
  · refine lv_tableOut hx hb dw_39 (Or.inr (by rw [nI_toInt (by omega)]; omega)) (tgt := 515) (by decide) ?_
    exact W.widen (by omega) (by omega) (kk u wC wR f k5 k6 ls H locs hu hr hl hP hD hS)
theorem lw_loop (X : lX p l s m c D dA aC aR b L xs) (hret : meth.sig.returnType = ret) (hlocks : meth.locks = false) : ∀ (r t : Nat) (u : vU) (wC wR : ja_w) (f : Nat → Int64) (c0 s0 : Nat) (H : Heap) (locs : List Loc) (ls : Array Slot) (k5 k6 : Option Value), 4 * t ≤ L → L < 4 * t + 4 * r + 4 → cV u wC → rV u wR → ja_has (fun q => q) ls 7 (lLo b (aC 0) (aR 0) ao (nI (4 * t)) k5 k6) → va_P D jn_cl (lcs dA aC aR ao wC wR f) H → va_D (fun q => s.heap.size ≤ q) (lcs dA aC aR ao wC wR f) → va_S (fun q => s.heap.size ≤ q) s.heap H locs → c0 + 2 * r ≤ 601024 → s0 + 12 * r ≤ 7293034 → W p l e room_1 s m #[Value.ref b] below meth c H locs c0 s0 (lw_Z below #[Value.ref b] s) (F0 m 23 ls []) := by
  have hx := X.1.1
  have hb := X.1.2.1
  intro r
  induction r with
  | zero =>
    intro t u wC wR f c0 s0 H locs ls k5 k6 h1 h2 hu hr hl hP hD hS hc hs
    refine lw_step X h1 hu hr hl hP hD hS (fun h => by omega) ?_ (fun h => by omega)
    refine lv_iconst (v := 1) hx hb dw_521 (by decide) ?_
    exact va_forget hS.2.2 (W.widen (by omega) (by omega) (lw_ret hx hb hret hlocks dw_522))
  | succ r ih =>
    intro t u wC wR f c0 s0 H locs ls k5 k6 h1 h2 hu hr hl hP hD hS hc hs
    refine lw_step X h1 hu hr hl hP hD hS (fun h => ⟨by omega, by omega⟩) ?_ (fun h => ?_)
    · refine lv_iconst (v := 1) hx hb dw_521 (by decide) ?_
      exact va_forget hS.2.2 (W.widen (by omega) (by omega) (lw_ret hx hb hret hlocks dw_522))
    · intro u1 wC1 wR1 f1 q5 q6 ls1 H1 locs1 hu1 hr1 hl1 hP1 hD1 hS1
      obtain ⟨k, hk⟩ := List.getElem?_of_mem (ja_alM (ad := fun q => q) (L := lLo b (aC 0) (aR 0) ao (nI (4 * t)) q5 q6) (q := (4, .int (nI (4 * t)))).mpr ⟨_, rfl, rfl⟩)
      refine lv_iinc hx hb dw_515 (ja_lv hl1) hk (v := nI (4 * (t + 1))) (by rw [show Int32.ofInt 4 = nI 4 by decide]; exact nI_add (4 * t) 4) (by decide) rfl (fun ls2 hq2 => ?_)
      have hl2 : ja_has (fun q => q) ls2 7 (lLo b (aC 0) (aR 0) ao (nI (4 * (t + 1))) q5 q6) := ja_s1 (L := lLo b (aC 0) (aR 0) ao (nI (4 * t)) q5 q6) (v := .int (nI (4 * (t + 1)))) rfl hq2
      refine lv_goto hx hb dw_518 (tgt := 23) (by decide) ?_
      exact ih (t + 1) u1 wC1 wR1 f1 (c0 + 2) (s0 + 12) H1 locs1 ls2 q5 q6 (by omega) (by omega) hu1 hr1 hl2 hP1 hD1 hS1 (by omega) (by omega)
end
