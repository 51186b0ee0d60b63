theorem jr_none {C : ja_C} {r : ja_O × ja_w} {pc : Nat} {L : ja_L} {st : List Value} {w : ja_w} (h : ja_R (ja_code []) C r pc L st w) : False := h (fun _ _ _ _ => False) (fun _ _ _ _ _ _ hc => hc) (fun _ _ _ _ _ _ h => h)
set_option maxRecDepth 100000 in
set_option maxHeartbeats 4000000 in
theorem jr_sound (l : Launch) (hlt : l.stackTraces = false) (D : va_G) (dA : Nat → ClassId) (ad : Nat → Nat) : ∀ d, ja_Cs l D dA ad jl_r yr_f wr_f (er_E d) d := by
  intro d
  induction d with
  | zero => intro j as w o w' h; exact h.elim
  | succ d ih =>
    intro j as w o w' h
    match j, h with
    | 0, h => exact or_0 hlt ih h
    | 1, h => exact or_1 hlt ih h
    | 2, h => exact or_2 hlt ih h
    | 3, h => exact or_3 hlt ih h
    | 4, h => exact or_4 hlt ih h
    | 5, h => exact or_5 hlt ih h
    | 6, h => exact or_6 hlt ih h
    | 7, h => exact or_7 hlt ih h
    | 8, h => exact or_8 hlt ih h
    | 9, h => exact or_9 hlt ih h
    | 10, h => exact or_10 hlt ih h
    | 11, h => exact or_11 hlt ih h
    | 12, h => exact or_12 hlt ih h
    | 13, h => exact or_13 hlt ih h
    | 14, h => exact or_14 hlt ih h
    | 15, h => exact or_15 hlt ih h
    | 16, h => exact or_16 hlt ih h
    | 17, h => exact or_17 hlt ih h
    | 18, h => exact or_18 hlt ih h
    | 19, h => exact or_19 hlt ih h
    | 20, h => exact or_20 hlt ih h
    | 21, h => exact or_21 hlt ih h
    | 22, h => exact or_22 hlt ih h
    | 23, h => exact or_23 hlt ih h
    | 24, h => exact or_24 hlt ih h
    | 25, h => exact or_25 hlt ih h
    | 26, h => exact or_26 hlt ih h
    | 27, h => exact or_27 hlt ih h
    | 28, h => exact or_28 hlt ih h
    | 29, h => exact or_29 hlt ih h
    | 30, h => exact or_30 hlt ih h
    | 31, h => exact or_31 hlt ih h
    | 32, h => exact or_32 hlt ih h
    | 33, h => exact or_33 hlt ih h
    | 34, h => exact or_34 hlt ih h
    | 35, h => exact or_35 hlt ih h
    | 36, h => exact or_36 hlt ih h
    | 37, h => exact or_37 hlt ih h
    | 38, h => exact or_38 hlt ih h
    | 39, h => exact or_39 hlt ih h
    | 40, h => exact or_40 hlt ih h
    | 41, h => exact or_41 hlt ih h
    | 42, h => exact or_42 hlt ih h
    | 43, h => exact or_43 hlt ih h
    | 44, h => exact or_44 hlt ih h
    | 45, h => exact or_45 hlt ih h
    | 46, h => exact or_46 hlt ih h
    | 47, h => exact or_47 hlt ih h
    | 48, h => exact or_48 hlt ih h
    | 49, h => exact or_49 hlt ih h
    | 50, h => exact or_50 hlt ih h
    | 51, h => exact or_51 hlt ih h
    | 52, h => exact or_52 hlt ih h
    | 53, h => exact or_53 hlt ih h
    | 54, h => exact or_54 hlt ih h
    | 55, h => exact or_55 hlt ih h
    | 56, h => exact or_56 hlt ih h
    | 57, h => exact or_57 hlt ih h
    | 58, h => exact or_58 hlt ih h
    | 59, h => exact or_59 hlt ih h
    | 60, h => exact or_60 hlt ih h
    | 61, h => exact or_61 hlt ih h
    | 62, h => exact or_62 hlt ih h
    | 63, h => exact or_63 hlt ih h
    | 64, h => exact or_64 hlt ih h
    | 65, h => exact or_65 hlt ih h
    | 66, h => exact or_66 hlt ih h
    | 67, h => exact or_67 hlt ih h
    | 68, h => exact or_68 hlt ih h
    | 69, h => exact or_69 hlt ih h
    | 70, h => exact or_70 hlt ih h
    | 71, h => exact or_71 hlt ih h
    | 72, h => exact or_72 hlt ih h
    | 73, h => exact or_73 hlt ih h
    | 74, h => exact or_74 hlt ih h
    | 75, h => exact or_75 hlt ih h
    | 76, h => exact or_76 hlt ih h
    | k + 77, h => exact (jr_none h.2).elim
