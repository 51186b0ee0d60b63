def jn_T : List Cond := lw_tbl.filter goodWord
theorem jn_of {w : Cond} (h : w ∈ tables_1) (g : goodWord w = true) : w ∈ jn_T := List.mem_filter.mpr ⟨List.mem_append_right _ h, g⟩
theorem jn_ps {w : Cond} (h : w ∈ k2_sels lw_privs) (g : goodWord w = true) : w ∈ jn_T := List.mem_filter.mpr ⟨List.mem_append_left _ h, g⟩
theorem jn_good {w : Cond} (h : w ∈ jn_T) : (w.onTables && w.keeps) = true ∨ ∃ ty, w = .arrayClass ty := good_of_word (List.mem_filter.mp h).2
theorem jn_sub {ws : List Cond} (ps : List Nat) (hp : ws = ps.filterMap (fun i => tables_1[i]?)) (h : ws.all goodWord = true) : ∀ w ∈ ws, w ∈ jn_T := by
  intro w hw
  have h1 := List.all_eq_true.mp h w hw
  rw [hp] at hw
  obtain ⟨i, -, hi⟩ := List.mem_filterMap.mp hw
  exact jn_of (List.mem_of_getElem? hi) h1
theorem jn_gV {own C : String} {idx : Nat} {y : MethodName} {bytes : ByteArray} {maxL : Nat} {ret : Option FieldType} (h1 : Cond.methodLink own idx y ∈ jn_T) (h2 : Cond.instanceMethod y ∈ jn_T) (h3 : Cond.selects C y y ∈ jn_T) (h4 : Cond.initialized C ∈ jn_T) (h5 : Cond.code y bytes maxL ret ∈ jn_T) : GoodIn jn_T (wsV own idx C y (Cond.code y bytes maxL ret :: jn_T)) := by
  intro w hw
  have h : w ∈ jn_T := by
    rcases List.mem_append.mp hw with h | h
    · simp only [List.mem_cons, List.not_mem_nil, or_false] at h
      rcases h with rfl | rfl | rfl | rfl
      · exact h1
      · exact h2
      · exact h3
      · exact h4
    · rcases List.mem_cons.mp h with rfl | h
      · exact h5
      · exact h
  exact ⟨h, jn_good h⟩
theorem jn_gC {y : MethodName} {bytes : ByteArray} {maxL : Nat} {ret : Option FieldType} (h5 : Cond.code y bytes maxL ret ∈ jn_T) : GoodIn jn_T (Cond.code y bytes maxL ret :: jn_T) := by
  intro w hw
  rcases List.mem_cons.mp hw with rfl | h
  · exact ⟨h5, jn_good h5⟩
  · exact ⟨h, jn_good h⟩
theorem jn_gS {own : String} {idx : Nat} {y : MethodName} {bytes : ByteArray} {maxL : Nat} {ret : Option FieldType} (h1 : Cond.methodLink own idx y ∈ jn_T) (h2 : Cond.static y ∈ jn_T) (h4 : Cond.initialized own ∈ jn_T) (h5 : Cond.code y bytes maxL ret ∈ jn_T) : GoodIn jn_T (wsS own idx y (Cond.code y bytes maxL ret :: jn_T)) := by
  intro w hw
  have h : w ∈ jn_T := by
    rcases List.mem_append.mp hw with h | h
    · simp only [List.mem_cons, List.not_mem_nil, or_false] at h
      rcases h with rfl | rfl | rfl
      · exact h1
      · exact h2
      · exact h4
    · rcases List.mem_cons.mp h with rfl | h
      · exact h5
      · exact h
  exact ⟨h, jn_good h⟩
def jn_NW : List (String × Nat × MethodName × String) := [("TypeOrThing", 25, ⟨"TypeOrThing$Tokens", "<init>", "()V"⟩, "TypeOrThing"), ("TypeOrThing$Names", 11, ⟨"TypeOrThing$Tape", "<init>", "()V"⟩, "TypeOrThing"), ("TypeOrThing", 41, ⟨"TypeOrThing$Tape", "<init>", "()V"⟩, "TypeOrThing"), ("TypeOrThing$Tape", 27, ⟨"TypeOrThing", "characterOf", "(JI)C"⟩, "TypeOrThing")]
def jn_De : List MethodName := [⟨"java/lang/RuntimeException", "<init>", "()V"⟩, ⟨"java/lang/RuntimeException", "<init>", "(Ljava/lang/String;)V"⟩, ⟨"java/lang/Exception", "<init>", "()V"⟩, ⟨"java/lang/Exception", "<init>", "(Ljava/lang/String;)V"⟩, ⟨"java/lang/Throwable", "<init>", "()V"⟩, ⟨"java/lang/Throwable", "<init>", "(Ljava/lang/String;)V"⟩]
def jn_Ex : List String := ["java/lang/IllegalArgumentException", "java/lang/IndexOutOfBoundsException"]
def jn_F0 : u_T := fun k => match k with
  | 0 => ("TypeOrThingModel", "thrown", "I", false)
  | 1 => ("TypeOrThingModel", "text", "[I", true)
  | 2 => ("TypeOrThingModel", "size", "I", false)
  | 3 => ("TypeOrThingModel", "tokens", "I", false)
  | 4 => ("TypeOrThingModel", "kind", "[I", true)
  | 5 => ("TypeOrThingModel", "from", "[I", true)
  | 6 => ("TypeOrThingModel", "wide", "[I", true)
  | 7 => ("TypeOrThingModel", "roles", "[I", true)
  | 8 => ("TypeOrThingModel", "meanings", "[I", true)
  | 9 => ("TypeOrThingModel", "now", "I", false)
  | 10 => ("TypeOrThingModel", "at", "I", false)
  | 11 => ("TypeOrThingModel", "read", "Z", false)
  | 12 => ("TypeOrThingModel", "tasks", "I", false)
  | 13 => ("TypeOrThingModel", "task", "[I", true)
  | 14 => ("TypeOrThingModel", "number", "[I", true)
  | 15 => ("TypeOrThingModel", "open", "I", false)
  | 16 => ("TypeOrThingModel", "broken", "Z", false)
  | 17 => ("TypeOrThingModel", "scopes", "I", false)
  | 18 => ("TypeOrThingModel", "depth", "I", false)
  | 19 => ("TypeOrThingModel", "inner", "[I", true)
  | 20 => ("TypeOrThingModel", "count", "I", false)
  | 21 => ("TypeOrThingModel", "nameOf", "[I", true)
  | 22 => ("TypeOrThingModel", "scopeOf", "[I", true)
  | 23 => ("TypeOrThingModel", "depthOf", "[I", true)
  | 24 => ("TypeOrThingModel", "sort", "[I", true)
  | 25 => ("TypeOrThingModel", "typeFrom", "[I", true)
  | 26 => ("TypeOrThingModel", "typeSize", "[I", true)
  | 27 => ("TypeOrThingModel", "types", "I", false)
  | 28 => ("TypeOrThingModel", "typeText", "[I", true)
  | 29 => ("TypeOrThingModel", "spelt", "[J", true)
  | 30 => ("TypeOrThingModel", "signs", "I", false)
  | 31 => ("TypeOrThingModel", "sign", "[I", true)
  | 32 => ("TypeOrThingModel", "start", "I", false)
  | 33 => ("TypeOrThingModel", "named", "I", false)
  | 34 => ("TypeOrThingModel", "firstScope", "I", false)
  | 35 => ("TypeOrThingModel", "waits", "I", false)
  | 36 => ("TypeOrThingModel", "waiting", "[I", true)
  | 37 => ("TypeOrThingModel", "place", "Z", false)
  | 38 => ("TypeOrThingModel", "length", "I", false)
  | _ => ("TypeOrThingModel", "form", "[I", true)
def jn_y0 : Nat → FieldType := fun k => match k with
  | 0 => .int
  | 1 => .array .int
  | 2 => .int
  | 3 => .int
  | 4 => .array .int
  | 5 => .array .int
  | 6 => .array .int
  | 7 => .array .int
  | 8 => .array .int
  | 9 => .int
  | 10 => .int
  | 11 => .boolean
  | 12 => .int
  | 13 => .array .int
  | 14 => .array .int
  | 15 => .int
  | 16 => .boolean
  | 17 => .int
  | 18 => .int
  | 19 => .array .int
  | 20 => .int
  | 21 => .array .int
  | 22 => .array .int
  | 23 => .array .int
  | 24 => .array .int
  | 25 => .array .int
  | 26 => .array .int
  | 27 => .int
  | 28 => .array .int
  | 29 => .array .long
  | 30 => .int
  | 31 => .array .int
  | 32 => .int
  | 33 => .int
  | 34 => .int
  | 35 => .int
  | 36 => .array .int
  | 37 => .boolean
  | 38 => .int
  | _ => .array .int
theorem jn_n0 : ∀ a, a < 40 → ∀ b, b < 40 → a ≠ b → (jn_F0 a).2.1 ≠ (jn_F0 b).2.1 := by decide +kernel
theorem jn_t0 : ∀ k, k < 40 → parseFieldDescriptor (jn_F0 k).2.2.1 = some (jn_y0 k) := by decide +kernel
set_option maxRecDepth 20000 in
theorem jn_i0 : ∀ w ∈ u_ws "TypeOrThingModel" jn_F0 40, w ∈ jn_T := jn_sub [900, 902, 904, 906, 908, 910, 912, 914, 916, 918, 920, 922, 924, 926, 928, 930, 932, 934, 936, 938, 940, 942, 944, 946, 948, 950, 952, 954, 956, 958, 960, 962, 964, 966, 968, 970, 972, 974, 976, 978] (by decide +kernel) (by decide +kernel)
def jn_F1 : u_T := fun k => match k with
  | 0 => ("TypeOrThing", "text", "[C", true)
  | 1 => ("TypeOrThing", "size", "I", false)
  | 2 => ("TypeOrThing", "tokensRead", "I", false)
  | 3 => ("TypeOrThing", "refusedAt", "I", false)
  | 4 => ("TypeOrThing", "tokens", "LTypeOrThing$Tokens;", true)
  | 5 => ("TypeOrThing", "names", "LTypeOrThing$Names;", true)
  | 6 => ("TypeOrThing", "plainForm", "LTypeOrThing$Tape;", true)
  | _ => ("TypeOrThing", "programs", "LTypeOrThing$Programs;", true)
def jn_y1 : Nat → FieldType := fun k => match k with
  | 0 => .array .char
  | 1 => .int
  | 2 => .int
  | 3 => .int
  | 4 => .object "TypeOrThing$Tokens"
  | 5 => .object "TypeOrThing$Names"
  | 6 => .object "TypeOrThing$Tape"
  | _ => .object "TypeOrThing$Programs"
theorem jn_n1 : ∀ a, a < 8 → ∀ b, b < 8 → a ≠ b → (jn_F1 a).2.1 ≠ (jn_F1 b).2.1 := by decide +kernel
theorem jn_t1 : ∀ k, k < 8 → parseFieldDescriptor (jn_F1 k).2.2.1 = some (jn_y1 k) := by decide +kernel
set_option maxRecDepth 20000 in
theorem jn_i1 : ∀ w ∈ u_ws "TypeOrThing" jn_F1 8, w ∈ jn_T := jn_sub [248, 250, 252, 254, 256, 258, 260, 262] (by decide +kernel) (by decide +kernel)
def jn_F2 : u_T := fun k => match k with
  | 0 => ("TypeOrThing$Tape", "cells", "[C", true)
  | _ => ("TypeOrThing$Tape", "size", "I", false)
def jn_y2 : Nat → FieldType := fun k => match k with
  | 0 => .array .char
  | _ => .int
theorem jn_n2 : ∀ a, a < 2 → ∀ b, b < 2 → a ≠ b → (jn_F2 a).2.1 ≠ (jn_F2 b).2.1 := by decide +kernel
theorem jn_t2 : ∀ k, k < 2 → parseFieldDescriptor (jn_F2 k).2.2.1 = some (jn_y2 k) := by decide +kernel
set_option maxRecDepth 20000 in
theorem jn_i2 : ∀ w ∈ u_ws "TypeOrThing$Tape" jn_F2 2, w ∈ jn_T := jn_sub [73, 75] (by decide +kernel) (by decide +kernel)
def jn_F3 : u_T := fun k => match k with
  | 0 => ("TypeOrThing$Tokens", "kinds", "[I", true)
  | 1 => ("TypeOrThing$Tokens", "words", "[J", true)
  | 2 => ("TypeOrThing$Tokens", "count", "I", false)
  | _ => ("TypeOrThing$Tokens", "lastLength", "I", false)
def jn_y3 : Nat → FieldType := fun k => match k with
  | 0 => .array .int
  | 1 => .array .long
  | 2 => .int
  | _ => .int
theorem jn_n3 : ∀ a, a < 4 → ∀ b, b < 4 → a ≠ b → (jn_F3 a).2.1 ≠ (jn_F3 b).2.1 := by decide +kernel
theorem jn_t3 : ∀ k, k < 4 → parseFieldDescriptor (jn_F3 k).2.2.1 = some (jn_y3 k) := by decide +kernel
set_option maxRecDepth 20000 in
theorem jn_i3 : ∀ w ∈ u_ws "TypeOrThing$Tokens" jn_F3 4, w ∈ jn_T := jn_sub [43, 45, 47, 49] (by decide +kernel) (by decide +kernel)
def jn_F4 : u_T := fun k => match k with
  | 0 => ("TypeOrThing$Cursor", "tokens", "LTypeOrThing$Tokens;", true)
  | 1 => ("TypeOrThing$Cursor", "position", "I", false)
  | 2 => ("TypeOrThing$Cursor", "kind", "I", false)
  | _ => ("TypeOrThing$Cursor", "open", "I", false)
def jn_y4 : Nat → FieldType := fun k => match k with
  | 0 => .object "TypeOrThing$Tokens"
  | 1 => .int
  | 2 => .int
  | _ => .int
theorem jn_n4 : ∀ a, a < 4 → ∀ b, b < 4 → a ≠ b → (jn_F4 a).2.1 ≠ (jn_F4 b).2.1 := by decide +kernel
theorem jn_t4 : ∀ k, k < 4 → parseFieldDescriptor (jn_F4 k).2.2.1 = some (jn_y4 k) := by decide +kernel
set_option maxRecDepth 20000 in
theorem jn_i4 : ∀ w ∈ u_ws "TypeOrThing$Cursor" jn_F4 4, w ∈ jn_T := jn_sub [159, 161, 163, 165] (by decide +kernel) (by decide +kernel)
def jn_F5 : u_T := fun k => match k with
  | 0 => ("TypeOrThing$Names", "tokens", "LTypeOrThing$Tokens;", true)
  | 1 => ("TypeOrThing$Names", "types", "LTypeOrThing$Tape;", true)
  | 2 => ("TypeOrThing$Names", "roles", "[I", true)
  | 3 => ("TypeOrThing$Names", "meanings", "[I", true)
  | 4 => ("TypeOrThing$Names", "count", "I", false)
  | 5 => ("TypeOrThing$Names", "nameTokens", "[I", true)
  | 6 => ("TypeOrThing$Names", "depths", "[I", true)
  | 7 => ("TypeOrThing$Names", "typeStarts", "[I", true)
  | 8 => ("TypeOrThing$Names", "typeEnds", "[I", true)
  | 9 => ("TypeOrThing$Names", "sorts", "[I", true)
  | 10 => ("TypeOrThing$Names", "scopes", "[I", true)
  | 11 => ("TypeOrThing$Names", "openScopes", "[I", true)
  | 12 => ("TypeOrThing$Names", "depth", "I", false)
  | _ => ("TypeOrThing$Names", "scopesMade", "I", false)
def jn_y5 : Nat → FieldType := fun k => match k with
  | 0 => .object "TypeOrThing$Tokens"
  | 1 => .object "TypeOrThing$Tape"
  | 2 => .array .int
  | 3 => .array .int
  | 4 => .int
  | 5 => .array .int
  | 6 => .array .int
  | 7 => .array .int
  | 8 => .array .int
  | 9 => .array .int
  | 10 => .array .int
  | 11 => .array .int
  | 12 => .int
  | _ => .int
theorem jn_n5 : ∀ a, a < 14 → ∀ b, b < 14 → a ≠ b → (jn_F5 a).2.1 ≠ (jn_F5 b).2.1 := by decide +kernel
theorem jn_t5 : ∀ k, k < 14 → parseFieldDescriptor (jn_F5 k).2.2.1 = some (jn_y5 k) := by decide +kernel
set_option maxRecDepth 20000 in
theorem jn_i5 : ∀ w ∈ u_ws "TypeOrThing$Names" jn_F5 14, w ∈ jn_T := jn_sub [109, 111, 113, 115, 117, 119, 121, 123, 125, 127, 129, 131, 133, 135] (by decide +kernel) (by decide +kernel)
def jn_F6 : u_T := fun k => match k with
  | 0 => ("TypeOrThing$Declarators", "cursor", "LTypeOrThing$Cursor;", true)
  | 1 => ("TypeOrThing$Declarators", "tokens", "LTypeOrThing$Tokens;", true)
  | 2 => ("TypeOrThing$Declarators", "names", "LTypeOrThing$Names;", true)
  | _ => ("TypeOrThing$Declarators", "types", "LTypeOrThing$Tape;", true)
def jn_y6 : Nat → FieldType := fun k => match k with
  | 0 => .object "TypeOrThing$Cursor"
  | 1 => .object "TypeOrThing$Tokens"
  | 2 => .object "TypeOrThing$Names"
  | _ => .object "TypeOrThing$Tape"
theorem jn_n6 : ∀ a, a < 4 → ∀ b, b < 4 → a ≠ b → (jn_F6 a).2.1 ≠ (jn_F6 b).2.1 := by decide +kernel
theorem jn_t6 : ∀ k, k < 4 → parseFieldDescriptor (jn_F6 k).2.2.1 = some (jn_y6 k) := by decide +kernel
set_option maxRecDepth 20000 in
theorem jn_i6 : ∀ w ∈ u_ws "TypeOrThing$Declarators" jn_F6 4, w ∈ jn_T := jn_sub [178, 180, 182, 184] (by decide +kernel) (by decide +kernel)
def jn_F7 : u_T := fun k => match k with
  | 0 => ("TypeOrThing$Expressions", "cursor", "LTypeOrThing$Cursor;", true)
  | 1 => ("TypeOrThing$Expressions", "tokens", "LTypeOrThing$Tokens;", true)
  | 2 => ("TypeOrThing$Expressions", "names", "LTypeOrThing$Names;", true)
  | 3 => ("TypeOrThing$Expressions", "declarators", "LTypeOrThing$Declarators;", true)
  | 4 => ("TypeOrThing$Expressions", "plainForm", "LTypeOrThing$Tape;", true)
  | 5 => ("TypeOrThing$Expressions", "prefixes", "[C", true)
  | 6 => ("TypeOrThing$Expressions", "castStarts", "[I", true)
  | 7 => ("TypeOrThing$Expressions", "castEnds", "[I", true)
  | _ => ("TypeOrThing$Expressions", "prefixCount", "I", false)
def jn_y7 : Nat → FieldType := fun k => match k with
  | 0 => .object "TypeOrThing$Cursor"
  | 1 => .object "TypeOrThing$Tokens"
  | 2 => .object "TypeOrThing$Names"
  | 3 => .object "TypeOrThing$Declarators"
  | 4 => .object "TypeOrThing$Tape"
  | 5 => .array .char
  | 6 => .array .int
  | 7 => .array .int
  | _ => .int
theorem jn_n7 : ∀ a, a < 9 → ∀ b, b < 9 → a ≠ b → (jn_F7 a).2.1 ≠ (jn_F7 b).2.1 := by decide +kernel
theorem jn_t7 : ∀ k, k < 9 → parseFieldDescriptor (jn_F7 k).2.2.1 = some (jn_y7 k) := by decide +kernel
set_option maxRecDepth 20000 in
theorem jn_i7 : ∀ w ∈ u_ws "TypeOrThing$Expressions" jn_F7 9, w ∈ jn_T := jn_sub [202, 204, 206, 208, 210, 212, 214, 216, 218] (by decide +kernel) (by decide +kernel)
def jn_F8 : u_T := fun k => match k with
  | 0 => ("TypeOrThing$Programs", "cursor", "LTypeOrThing$Cursor;", true)
  | 1 => ("TypeOrThing$Programs", "tokens", "LTypeOrThing$Tokens;", true)
  | 2 => ("TypeOrThing$Programs", "names", "LTypeOrThing$Names;", true)
  | 3 => ("TypeOrThing$Programs", "plainForm", "LTypeOrThing$Tape;", true)
  | 4 => ("TypeOrThing$Programs", "declarators", "LTypeOrThing$Declarators;", true)
  | _ => ("TypeOrThing$Programs", "expressions", "LTypeOrThing$Expressions;", true)
def jn_y8 : Nat → FieldType := fun k => match k with
  | 0 => .object "TypeOrThing$Cursor"
  | 1 => .object "TypeOrThing$Tokens"
  | 2 => .object "TypeOrThing$Names"
  | 3 => .object "TypeOrThing$Tape"
  | 4 => .object "TypeOrThing$Declarators"
  | _ => .object "TypeOrThing$Expressions"
theorem jn_n8 : ∀ a, a < 6 → ∀ b, b < 6 → a ≠ b → (jn_F8 a).2.1 ≠ (jn_F8 b).2.1 := by decide +kernel
theorem jn_t8 : ∀ k, k < 6 → parseFieldDescriptor (jn_F8 k).2.2.1 = some (jn_y8 k) := by decide +kernel
set_option maxRecDepth 20000 in
theorem jn_i8 : ∀ w ∈ u_ws "TypeOrThing$Programs" jn_F8 6, w ∈ jn_T := jn_sub [227, 229, 231, 233, 235, 237] (by decide +kernel) (by decide +kernel)
abbrev jn_cl : List vw_C := [("TypeOrThingModel", jn_F0, 40), ("TypeOrThing", jn_F1, 8), ("TypeOrThing$Tape", jn_F2, 2), ("TypeOrThing$Tokens", jn_F3, 4), ("TypeOrThing$Cursor", jn_F4, 4), ("TypeOrThing$Names", jn_F5, 14), ("TypeOrThing$Declarators", jn_F6, 4), ("TypeOrThing$Expressions", jn_F7, 9), ("TypeOrThing$Programs", jn_F8, 6)]
abbrev cr_0 : ByteArray := prog_10_method_2_code
def yr_0 : MethodName := ⟨"TypeOrThingModel", "thrown", "()I"⟩
abbrev cr_1 : ByteArray := prog_10_method_3_code
def yr_1 : MethodName := ⟨"TypeOrThingModel", "fail", "(I)I"⟩
abbrev cr_2 : ByteArray := prog_10_method_4_code
def yr_2 : MethodName := ⟨"TypeOrThingModel", "type", "(JI)Z"⟩
abbrev cr_3 : ByteArray := prog_10_method_5_code
def yr_3 : MethodName := ⟨"TypeOrThingModel", "cut", "(I)Z"⟩
abbrev cr_4 : ByteArray := prog_10_method_6_code
def yr_4 : MethodName := ⟨"TypeOrThingModel", "isSmall", "(I)Z"⟩
abbrev cr_5 : ByteArray := prog_10_method_7_code
def yr_5 : MethodName := ⟨"TypeOrThingModel", "isDigit", "(I)Z"⟩
abbrev cr_6 : ByteArray := prog_10_method_8_code
def yr_6 : MethodName := ⟨"TypeOrThingModel", "isSign", "(I)Z"⟩
abbrev cr_7 : ByteArray := prog_10_method_9_code
def yr_7 : MethodName := ⟨"TypeOrThingModel", "spelling", "(II)J"⟩
abbrev cr_8 : ByteArray := prog_10_method_10_code
def yr_8 : MethodName := ⟨"TypeOrThingModel", "wordKind", "(J)I"⟩
abbrev cr_9 : ByteArray := prog_10_method_11_code
def yr_9 : MethodName := ⟨"TypeOrThingModel", "token", "(III)V"⟩
abbrev cr_10 : ByteArray := prog_10_method_12_code
def yr_10 : MethodName := ⟨"TypeOrThingModel", "findTokens", "()V"⟩
abbrev cr_11 : ByteArray := prog_10_method_13_code
def yr_11 : MethodName := ⟨"TypeOrThingModel", "todo", "(II)V"⟩
abbrev cr_12 : ByteArray := prog_10_method_14_code
def yr_12 : MethodName := ⟨"TypeOrThingModel", "breakHere", "()V"⟩
abbrev cr_13 : ByteArray := prog_10_method_15_code
def yr_13 : MethodName := ⟨"TypeOrThingModel", "is", "(I)Z"⟩
abbrev cr_14 : ByteArray := prog_10_method_16_code
def yr_14 : MethodName := ⟨"TypeOrThingModel", "behind", "()I"⟩
abbrev cr_15 : ByteArray := prog_10_method_17_code
def yr_15 : MethodName := ⟨"TypeOrThingModel", "enter", "()V"⟩
abbrev cr_16 : ByteArray := prog_10_method_18_code
def yr_16 : MethodName := ⟨"TypeOrThingModel", "pass", "(IZ)V"⟩
abbrev cr_17 : ByteArray := prog_10_method_19_code
def yr_17 : MethodName := ⟨"TypeOrThingModel", "meant", "(I)I"⟩
abbrev cr_18 : ByteArray := prog_10_method_20_code
def yr_18 : MethodName := ⟨"TypeOrThingModel", "isType", "(I)Z"⟩
abbrev cr_19 : ByteArray := prog_10_method_21_code
def yr_19 : MethodName := ⟨"TypeOrThingModel", "isBase", "(I)Z"⟩
abbrev cr_20 : ByteArray := prog_10_method_22_code
def yr_20 : MethodName := ⟨"TypeOrThingModel", "canDeclare", "(I)Z"⟩
abbrev cr_21 : ByteArray := prog_10_method_23_code
def yr_21 : MethodName := ⟨"TypeOrThingModel", "takeBase", "()I"⟩
abbrev cr_22 : ByteArray := prog_10_method_24_code
def yr_22 : MethodName := ⟨"TypeOrThingModel", "openScope", "(I)V"⟩
abbrev cr_23 : ByteArray := prog_10_method_25_code
def yr_23 : MethodName := ⟨"TypeOrThingModel", "newScope", "()I"⟩
abbrev cr_24 : ByteArray := prog_10_method_26_code
def yr_24 : MethodName := ⟨"TypeOrThingModel", "mark", "(I)V"⟩
abbrev cr_25 : ByteArray := prog_10_method_27_code
def yr_25 : MethodName := ⟨"TypeOrThingModel", "markBase", "(I)V"⟩
abbrev cr_26 : ByteArray := prog_10_method_28_code
def yr_26 : MethodName := ⟨"TypeOrThingModel", "say", "(I)V"⟩
abbrev cr_27 : ByteArray := prog_10_method_29_code
def yr_27 : MethodName := ⟨"TypeOrThingModel", "sayNumber", "(I)V"⟩
abbrev cr_28 : ByteArray := prog_10_method_30_code
def yr_28 : MethodName := ⟨"TypeOrThingModel", "sayNumber2", "(I)V"⟩
abbrev cr_29 : ByteArray := prog_10_method_31_code
def yr_29 : MethodName := ⟨"TypeOrThingModel", "sayToken", "(I)V"⟩
abbrev cr_30 : ByteArray := prog_10_method_32_code
def yr_30 : MethodName := ⟨"TypeOrThingModel", "sayType", "()V"⟩
abbrev cr_31 : ByteArray := prog_10_method_33_code
def yr_31 : MethodName := ⟨"TypeOrThingModel", "declare", "(Z)V"⟩
abbrev cr_32 : ByteArray := prog_10_method_34_code
def yr_32 : MethodName := ⟨"TypeOrThingModel", "declaration", "(I)V"⟩
abbrev cr_33 : ByteArray := prog_10_method_35_code
def yr_33 : MethodName := ⟨"TypeOrThingModel", "beginDeclarator", "(I)V"⟩
abbrev cr_34 : ByteArray := prog_10_method_36_code
def yr_34 : MethodName := ⟨"TypeOrThingModel", "finish", "(I)V"⟩
abbrev cr_35 : ByteArray := prog_10_method_37_code
def yr_35 : MethodName := ⟨"TypeOrThingModel", "next", "(I)V"⟩
abbrev cr_36 : ByteArray := prog_10_method_38_code
def yr_36 : MethodName := ⟨"TypeOrThingModel", "isGroup", "(I)Z"⟩
abbrev cr_37 : ByteArray := prog_10_method_39_code
def yr_37 : MethodName := ⟨"TypeOrThingModel", "declarator", "(I)V"⟩
abbrev cr_38 : ByteArray := prog_10_method_40_code
def yr_38 : MethodName := ⟨"TypeOrThingModel", "suffixes", "()V"⟩
abbrev cr_39 : ByteArray := prog_10_method_41_code
def yr_39 : MethodName := ⟨"TypeOrThingModel", "parameters", "()V"⟩
abbrev cr_40 : ByteArray := prog_10_method_42_code
def yr_40 : MethodName := ⟨"TypeOrThingModel", "parameter", "()V"⟩
abbrev cr_41 : ByteArray := prog_10_method_43_code
def yr_41 : MethodName := ⟨"TypeOrThingModel", "parameterEnd", "(I)V"⟩
abbrev cr_42 : ByteArray := prog_10_method_44_code
def yr_42 : MethodName := ⟨"TypeOrThingModel", "parametersMore", "()V"⟩
abbrev cr_43 : ByteArray := prog_10_method_45_code
def yr_43 : MethodName := ⟨"TypeOrThingModel", "parametersEnd", "()V"⟩
abbrev cr_44 : ByteArray := prog_10_method_46_code
def yr_44 : MethodName := ⟨"TypeOrThingModel", "block", "(I)V"⟩
abbrev cr_45 : ByteArray := prog_10_method_47_code
def yr_45 : MethodName := ⟨"TypeOrThingModel", "items", "()V"⟩
abbrev cr_46 : ByteArray := prog_10_method_48_code
def yr_46 : MethodName := ⟨"TypeOrThingModel", "conditional", "(II)V"⟩
abbrev cr_47 : ByteArray := prog_10_method_49_code
def yr_47 : MethodName := ⟨"TypeOrThingModel", "statement", "()V"⟩
abbrev cr_48 : ByteArray := prog_10_method_50_code
def yr_48 : MethodName := ⟨"TypeOrThingModel", "ifEnd", "()V"⟩
abbrev cr_49 : ByteArray := prog_10_method_51_code
def yr_49 : MethodName := ⟨"TypeOrThingModel", "expressionMore", "()V"⟩
abbrev cr_50 : ByteArray := prog_10_method_52_code
def yr_50 : MethodName := ⟨"TypeOrThingModel", "more", "(IIII)V"⟩
abbrev cr_51 : ByteArray := prog_10_method_53_code
def yr_51 : MethodName := ⟨"TypeOrThingModel", "isTypeName", "()Z"⟩
abbrev cr_52 : ByteArray := prog_10_method_54_code
def yr_52 : MethodName := ⟨"TypeOrThingModel", "typeName", "(I)V"⟩
abbrev cr_53 : ByteArray := prog_10_method_55_code
def yr_53 : MethodName := ⟨"TypeOrThingModel", "cast", "()V"⟩
abbrev cr_54 : ByteArray := prog_10_method_56_code
def yr_54 : MethodName := ⟨"TypeOrThingModel", "castType", "(I)V"⟩
abbrev cr_55 : ByteArray := prog_10_method_57_code
def yr_55 : MethodName := ⟨"TypeOrThingModel", "castEnd", "()V"⟩
abbrev cr_56 : ByteArray := prog_10_method_58_code
def yr_56 : MethodName := ⟨"TypeOrThingModel", "sizeType", "(I)V"⟩
abbrev cr_57 : ByteArray := prog_10_method_59_code
def yr_57 : MethodName := ⟨"TypeOrThingModel", "unary", "()V"⟩
abbrev cr_58 : ByteArray := prog_10_method_60_code
def yr_58 : MethodName := ⟨"TypeOrThingModel", "postfix", "()V"⟩
abbrev cr_59 : ByteArray := prog_10_method_61_code
def yr_59 : MethodName := ⟨"TypeOrThingModel", "postfixMore", "()V"⟩
abbrev cr_60 : ByteArray := prog_10_method_62_code
def yr_60 : MethodName := ⟨"TypeOrThingModel", "arguments", "(I)V"⟩
abbrev cr_61 : ByteArray := prog_10_method_63_code
def yr_61 : MethodName := ⟨"TypeOrThingModel", "program", "()V"⟩
abbrev cr_62 : ByteArray := prog_10_method_64_code
def yr_62 : MethodName := ⟨"TypeOrThingModel", "stars", "(I)V"⟩
abbrev cr_63 : ByteArray := prog_10_method_65_code
def yr_63 : MethodName := ⟨"TypeOrThingModel", "doDeclaring", "(II)V"⟩
abbrev cr_64 : ByteArray := prog_10_method_66_code
def yr_64 : MethodName := ⟨"TypeOrThingModel", "doStating", "(II)V"⟩
abbrev cr_65 : ByteArray := prog_10_method_67_code
def yr_65 : MethodName := ⟨"TypeOrThingModel", "doExpressing", "(II)V"⟩
abbrev cr_66 : ByteArray := prog_10_method_68_code
def yr_66 : MethodName := ⟨"TypeOrThingModel", "forget", "()V"⟩
abbrev cr_67 : ByteArray := prog_10_method_69_code
def yr_67 : MethodName := ⟨"TypeOrThingModel", "read", "()I"⟩
abbrev cr_68 : ByteArray := prog_10_method_70_code
def yr_68 : MethodName := ⟨"TypeOrThingModel", "at", "()I"⟩
abbrev cr_69 : ByteArray := prog_10_method_71_code
def yr_69 : MethodName := ⟨"TypeOrThingModel", "isToken", "(I)Z"⟩
abbrev cr_70 : ByteArray := prog_10_method_72_code
def yr_70 : MethodName := ⟨"TypeOrThingModel", "role", "(I)I"⟩
abbrev cr_71 : ByteArray := prog_10_method_73_code
def yr_71 : MethodName := ⟨"TypeOrThingModel", "meaning", "(I)I"⟩
abbrev cr_72 : ByteArray := prog_10_method_74_code
def yr_72 : MethodName := ⟨"TypeOrThingModel", "declared", "()I"⟩
abbrev cr_73 : ByteArray := prog_10_method_75_code
def yr_73 : MethodName := ⟨"TypeOrThingModel", "about", "(II)I"⟩
abbrev cr_74 : ByteArray := prog_10_method_76_code
def yr_74 : MethodName := ⟨"TypeOrThingModel", "typeAt", "(II)I"⟩
abbrev cr_75 : ByteArray := prog_10_method_77_code
def yr_75 : MethodName := ⟨"TypeOrThingModel", "length", "()I"⟩
abbrev cr_76 : ByteArray := prog_10_method_78_code
def yr_76 : MethodName := ⟨"TypeOrThingModel", "form", "(I)I"⟩
abbrev cc_0 : ByteArray := prog_1_method_2_code
def yc_0 : MethodName := ⟨"TypeOrThing", "type", "(JI)Z"⟩
abbrev cc_1 : ByteArray := prog_1_method_3_code
def yc_1 : MethodName := ⟨"TypeOrThing", "cut", "(I)Z"⟩
abbrev cc_2 : ByteArray := prog_1_method_4_code
def yc_2 : MethodName := ⟨"TypeOrThing", "read", "()I"⟩
abbrev cc_3 : ByteArray := prog_1_method_5_code
def yc_3 : MethodName := ⟨"TypeOrThing", "at", "()I"⟩
abbrev cc_4 : ByteArray := prog_1_method_6_code
def yc_4 : MethodName := ⟨"TypeOrThing", "role", "(I)I"⟩
abbrev cc_5 : ByteArray := prog_1_method_7_code
def yc_5 : MethodName := ⟨"TypeOrThing", "meaning", "(I)I"⟩
abbrev cc_6 : ByteArray := prog_1_method_8_code
def yc_6 : MethodName := ⟨"TypeOrThing", "declared", "()I"⟩
abbrev cc_7 : ByteArray := prog_1_method_9_code
def yc_7 : MethodName := ⟨"TypeOrThing", "about", "(II)I"⟩
abbrev cc_8 : ByteArray := prog_1_method_10_code
def yc_8 : MethodName := ⟨"TypeOrThing", "typeAt", "(II)I"⟩
abbrev cc_9 : ByteArray := prog_1_method_11_code
def yc_9 : MethodName := ⟨"TypeOrThing", "length", "()I"⟩
abbrev cc_10 : ByteArray := prog_1_method_12_code
def yc_10 : MethodName := ⟨"TypeOrThing", "form", "(I)I"⟩
abbrev cc_11 : ByteArray := prog_1_method_13_code
def yc_11 : MethodName := ⟨"TypeOrThing", "wasRead", "(I)Z"⟩
abbrev cc_12 : ByteArray := prog_1_method_14_code
def yc_12 : MethodName := ⟨"TypeOrThing", "characterOf", "(JI)C"⟩
abbrev cc_13 : ByteArray := prog_1_method_15_code
def yc_13 : MethodName := ⟨"TypeOrThing", "isTypable", "(C)Z"⟩
abbrev cc_14 : ByteArray := prog_1_method_16_code
def yc_14 : MethodName := ⟨"TypeOrThing", "requireIndex", "(II)V"⟩
abbrev cc_15 : ByteArray := prog_7_method_2_code
def yc_15 : MethodName := ⟨"TypeOrThing$Tape", "clear", "()V"⟩
abbrev cc_16 : ByteArray := prog_7_method_3_code
def yc_16 : MethodName := ⟨"TypeOrThing$Tape", "cell", "(I)C"⟩
abbrev cc_17 : ByteArray := prog_7_method_4_code
def yc_17 : MethodName := ⟨"TypeOrThing$Tape", "put", "(C)V"⟩
abbrev cc_18 : ByteArray := prog_7_method_5_code
def yc_18 : MethodName := ⟨"TypeOrThing$Tape", "putTimes", "(CI)V"⟩
abbrev cc_19 : ByteArray := prog_7_method_6_code
def yc_19 : MethodName := ⟨"TypeOrThing$Tape", "putPart", "(LTypeOrThing$Tape;II)V"⟩
abbrev cc_20 : ByteArray := prog_7_method_7_code
def yc_20 : MethodName := ⟨"TypeOrThing$Tape", "putWord", "(J)V"⟩
abbrev cc_21 : ByteArray := prog_7_method_8_code
def yc_21 : MethodName := ⟨"TypeOrThing$Tape", "putCount", "(I)V"⟩
abbrev cc_22 : ByteArray := prog_8_method_2_code
def yc_22 : MethodName := ⟨"TypeOrThing$Tokens", "kindAt", "(I)I"⟩
abbrev cc_23 : ByteArray := prog_8_method_3_code
def yc_23 : MethodName := ⟨"TypeOrThing$Tokens", "wordAt", "(I)J"⟩
abbrev cc_24 : ByteArray := prog_8_method_4_code
def yc_24 : MethodName := ⟨"TypeOrThing$Tokens", "scan", "([CI)V"⟩
abbrev cc_25 : ByteArray := prog_8_method_5_code
def yc_25 : MethodName := ⟨"TypeOrThing$Tokens", "continuesLast", "(C)Z"⟩
abbrev cc_26 : ByteArray := prog_8_method_6_code
def yc_26 : MethodName := ⟨"TypeOrThing$Tokens", "lengthenLast", "(C)V"⟩
abbrev cc_27 : ByteArray := prog_8_method_7_code
def yc_27 : MethodName := ⟨"TypeOrThing$Tokens", "begin", "(IC)V"⟩
abbrev cc_28 : ByteArray := prog_8_method_8_code
def yc_28 : MethodName := ⟨"TypeOrThing$Tokens", "kindOf", "(C)I"⟩
abbrev cc_29 : ByteArray := prog_8_method_9_code
def yc_29 : MethodName := ⟨"TypeOrThing$Tokens", "isLetter", "(C)Z"⟩
abbrev cc_30 : ByteArray := prog_8_method_10_code
def yc_30 : MethodName := ⟨"TypeOrThing$Tokens", "isDigit", "(C)Z"⟩
abbrev cc_31 : ByteArray := prog_8_method_11_code
def yc_31 : MethodName := ⟨"TypeOrThing$Tokens", "kindOfWord", "(J)I"⟩
abbrev cc_32 : ByteArray := prog_2_method_2_code
def yc_32 : MethodName := ⟨"TypeOrThing$Cursor", "restart", "()V"⟩
abbrev cc_33 : ByteArray := prog_2_method_3_code
def yc_33 : MethodName := ⟨"TypeOrThing$Cursor", "kindHere", "()I"⟩
abbrev cc_34 : ByteArray := prog_2_method_4_code
def yc_34 : MethodName := ⟨"TypeOrThing$Cursor", "kindBehind", "()I"⟩
abbrev cc_35 : ByteArray := prog_2_method_5_code
def yc_35 : MethodName := ⟨"TypeOrThing$Cursor", "sees", "(I)Z"⟩
abbrev cc_36 : ByteArray := prog_2_method_6_code
def yc_36 : MethodName := ⟨"TypeOrThing$Cursor", "require", "(Z)V"⟩
abbrev cc_37 : ByteArray := prog_2_method_7_code
def yc_37 : MethodName := ⟨"TypeOrThing$Cursor", "take", "()I"⟩
abbrev cc_38 : ByteArray := prog_2_method_8_code
def yc_38 : MethodName := ⟨"TypeOrThing$Cursor", "expect", "(I)I"⟩
abbrev cc_39 : ByteArray := prog_2_method_9_code
def yc_39 : MethodName := ⟨"TypeOrThing$Cursor", "endStatement", "()V"⟩
abbrev cc_40 : ByteArray := prog_5_method_2_code
def yc_40 : MethodName := ⟨"TypeOrThing$Names", "clear", "()V"⟩
abbrev cc_41 : ByteArray := prog_5_method_3_code
def yc_41 : MethodName := ⟨"TypeOrThing$Names", "nextScope", "()I"⟩
abbrev cc_42 : ByteArray := prog_5_method_4_code
def yc_42 : MethodName := ⟨"TypeOrThing$Names", "newScope", "()I"⟩
abbrev cc_43 : ByteArray := prog_5_method_5_code
def yc_43 : MethodName := ⟨"TypeOrThing$Names", "openScope", "(I)V"⟩
abbrev cc_44 : ByteArray := prog_5_method_6_code
def yc_44 : MethodName := ⟨"TypeOrThing$Names", "closeScope", "()V"⟩
abbrev cc_45 : ByteArray := prog_5_method_7_code
def yc_45 : MethodName := ⟨"TypeOrThing$Names", "meaningOf", "(I)I"⟩
abbrev cc_46 : ByteArray := prog_5_method_8_code
def yc_46 : MethodName := ⟨"TypeOrThing$Names", "isBase", "(I)Z"⟩
abbrev cc_47 : ByteArray := prog_5_method_9_code
def yc_47 : MethodName := ⟨"TypeOrThing$Names", "meansThing", "(I)Z"⟩
abbrev cc_48 : ByteArray := prog_5_method_10_code
def yc_48 : MethodName := ⟨"TypeOrThing$Names", "canDeclare", "(I)Z"⟩
abbrev cc_49 : ByteArray := prog_5_method_11_code
def yc_49 : MethodName := ⟨"TypeOrThing$Names", "use", "(I)V"⟩
abbrev cc_50 : ByteArray := prog_5_method_12_code
def yc_50 : MethodName := ⟨"TypeOrThing$Names", "declare", "(IIZ)I"⟩
abbrev cc_51 : ByteArray := prog_5_method_13_code
def yc_51 : MethodName := ⟨"TypeOrThing$Names", "sortOf", "(IZ)I"⟩
abbrev cc_52 : ByteArray := prog_3_method_2_code
def yc_52 : MethodName := ⟨"TypeOrThing$Declarators", "base", "()I"⟩
abbrev cc_53 : ByteArray := prog_3_method_3_code
def yc_53 : MethodName := ⟨"TypeOrThing$Declarators", "writeBase", "(I)V"⟩
abbrev cc_54 : ByteArray := prog_3_method_4_code
def yc_54 : MethodName := ⟨"TypeOrThing$Declarators", "namedDeclarator", "(IZ)I"⟩
abbrev cc_55 : ByteArray := prog_3_method_5_code
def yc_55 : MethodName := ⟨"TypeOrThing$Declarators", "typed", "(I)V"⟩
abbrev cc_56 : ByteArray := prog_3_method_6_code
def yc_56 : MethodName := ⟨"TypeOrThing$Declarators", "declarator", "(I)I"⟩
abbrev cc_57 : ByteArray := prog_3_method_7_code
def yc_57 : MethodName := ⟨"TypeOrThing$Declarators", "stars", "()I"⟩
abbrev cc_58 : ByteArray := prog_3_method_8_code
def yc_58 : MethodName := ⟨"TypeOrThing$Declarators", "direct", "(I)I"⟩
abbrev cc_59 : ByteArray := prog_3_method_9_code
def yc_59 : MethodName := ⟨"TypeOrThing$Declarators", "isGroup", "(I)Z"⟩
abbrev cc_60 : ByteArray := prog_3_method_10_code
def yc_60 : MethodName := ⟨"TypeOrThing$Declarators", "dimension", "()V"⟩
abbrev cc_61 : ByteArray := prog_3_method_11_code
def yc_61 : MethodName := ⟨"TypeOrThing$Declarators", "parameters", "()V"⟩
abbrev cc_62 : ByteArray := prog_4_method_2_code
def yc_62 : MethodName := ⟨"TypeOrThing$Expressions", "clear", "()V"⟩
abbrev cc_63 : ByteArray := prog_4_method_3_code
def yc_63 : MethodName := ⟨"TypeOrThing$Expressions", "expression", "()V"⟩
abbrev cc_64 : ByteArray := prog_4_method_4_code
def yc_64 : MethodName := ⟨"TypeOrThing$Expressions", "sum", "()Z"⟩
abbrev cc_65 : ByteArray := prog_4_method_5_code
def yc_65 : MethodName := ⟨"TypeOrThing$Expressions", "product", "()Z"⟩
abbrev cc_66 : ByteArray := prog_4_method_6_code
def yc_66 : MethodName := ⟨"TypeOrThing$Expressions", "cast", "()Z"⟩
abbrev cc_67 : ByteArray := prog_4_method_7_code
def yc_67 : MethodName := ⟨"TypeOrThing$Expressions", "seesPrefix", "()Z"⟩
abbrev cc_68 : ByteArray := prog_4_method_8_code
def yc_68 : MethodName := ⟨"TypeOrThing$Expressions", "prefixFor", "(I)C"⟩
abbrev cc_69 : ByteArray := prog_4_method_9_code
def yc_69 : MethodName := ⟨"TypeOrThing$Expressions", "push", "(CII)V"⟩
abbrev cc_70 : ByteArray := prog_4_method_10_code
def yc_70 : MethodName := ⟨"TypeOrThing$Expressions", "popTo", "(I)V"⟩
abbrev cc_71 : ByteArray := prog_4_method_11_code
def yc_71 : MethodName := ⟨"TypeOrThing$Expressions", "postfix", "()Z"⟩
abbrev cc_72 : ByteArray := prog_4_method_12_code
def yc_72 : MethodName := ⟨"TypeOrThing$Expressions", "index", "()V"⟩
abbrev cc_73 : ByteArray := prog_4_method_13_code
def yc_73 : MethodName := ⟨"TypeOrThing$Expressions", "call", "()V"⟩
abbrev cc_74 : ByteArray := prog_4_method_14_code
def yc_74 : MethodName := ⟨"TypeOrThing$Expressions", "primary", "()Z"⟩
abbrev cc_75 : ByteArray := prog_4_method_15_code
def yc_75 : MethodName := ⟨"TypeOrThing$Expressions", "writeAtom", "(I)V"⟩
abbrev cc_76 : ByteArray := prog_6_method_2_code
def yc_76 : MethodName := ⟨"TypeOrThing$Programs", "firstUnfit", "()I"⟩
abbrev cc_77 : ByteArray := prog_6_method_3_code
def yc_77 : MethodName := ⟨"TypeOrThing$Programs", "clear", "()V"⟩
abbrev cc_78 : ByteArray := prog_6_method_4_code
def yc_78 : MethodName := ⟨"TypeOrThing$Programs", "declaration", "(Z)V"⟩
abbrev cc_79 : ByteArray := prog_6_method_5_code
def yc_79 : MethodName := ⟨"TypeOrThing$Programs", "specifiers", "()I"⟩
abbrev cc_80 : ByteArray := prog_6_method_6_code
def yc_80 : MethodName := ⟨"TypeOrThing$Programs", "writeDeclared", "(I)V"⟩
abbrev cc_81 : ByteArray := prog_6_method_7_code
def yc_81 : MethodName := ⟨"TypeOrThing$Programs", "block", "(I)V"⟩
abbrev cc_82 : ByteArray := prog_6_method_8_code
def yc_82 : MethodName := ⟨"TypeOrThing$Programs", "statement", "()V"⟩
abbrev cc_83 : ByteArray := prog_6_method_9_code
def yc_83 : MethodName := ⟨"TypeOrThing$Programs", "endWith", "(C)V"⟩
abbrev cc_84 : ByteArray := prog_6_method_10_code
def yc_84 : MethodName := ⟨"TypeOrThing$Programs", "choice", "()V"⟩
abbrev cc_85 : ByteArray := prog_6_method_11_code
def yc_85 : MethodName := ⟨"TypeOrThing$Programs", "conditional", "(C)V"⟩
abbrev cc_86 : ByteArray := prog_8_method_12_code
def yc_86 : MethodName := ⟨"TypeOrThing$Tokens", "packed", "(Ljava/lang/String;)J"⟩
abbrev cc_87 : ByteArray := prog_17_method_79_code
def yc_87 : MethodName := ⟨"java/lang/String", "indexOf", "(I)I"⟩
abbrev cc_88 : ByteArray := prog_17_method_80_code
def yc_88 : MethodName := ⟨"java/lang/String", "indexOf", "(II)I"⟩
abbrev cc_89 : ByteArray := prog_17_method_154_code
def yc_89 : MethodName := ⟨"java/lang/String", "isLatin1", "()Z"⟩
abbrev cc_90 : ByteArray := prog_17_method_54_code
def yc_90 : MethodName := ⟨"java/lang/String", "length", "()I"⟩
abbrev cc_91 : ByteArray := prog_17_method_152_code
def yc_91 : MethodName := ⟨"java/lang/String", "coder", "()B"⟩
abbrev cc_92 : ByteArray := prog_17_method_56_code
def yc_92 : MethodName := ⟨"java/lang/String", "charAt", "(I)C"⟩
abbrev cc_93 : ByteArray := prog_17_method_155_code
def yc_93 : MethodName := ⟨"java/lang/String", "checkIndex", "(II)V"⟩
abbrev cc_94 : ByteArray := prog_18_method_22_code
def yc_94 : MethodName := ⟨"java/lang/StringLatin1", "indexOf", "([BIII)I"⟩
abbrev cc_95 : ByteArray := prog_18_method_4_code
def yc_95 : MethodName := ⟨"java/lang/StringLatin1", "canEncode", "(I)Z"⟩
abbrev cc_96 : ByteArray := prog_18_method_23_code
def yc_96 : MethodName := ⟨"java/lang/StringLatin1", "indexOfChar", "([BIII)I"⟩
abbrev cc_97 : ByteArray := prog_18_method_2_code
def yc_97 : MethodName := ⟨"java/lang/StringLatin1", "charAt", "([BI)C"⟩
abbrev cc_98 : ByteArray := prog_15_method_65_code
def yc_98 : MethodName := ⟨"java/lang/Math", "max", "(II)I"⟩
abbrev cc_99 : ByteArray := prog_21_method_11_code
def yc_99 : MethodName := ⟨"jdk/internal/util/Preconditions", "checkIndex", "(IILjava/util/function/BiFunction;)I"⟩
def ec_kind (c : Int32) : Int32 := if 97 ≤ c ∧ c ≤ 122 then 2 else if 48 ≤ c ∧ c ≤ 57 then 3 else if c = 40 ∨ c = 41 ∨ c = 91 ∨ c = 93 ∨ c = 123 ∨ c = 125 ∨ c = 59 ∨ c = 44 ∨ c = 42 ∨ c = 61 ∨ c = 43 ∨ c = 45 ∨ c = 47 ∨ c = 60 ∨ c = 38 ∨ c = 33 then c else 1
def ec_word (v : Int64) : Int32 := if v = 28821929497491828 then 4 else if v = 7630441 then 5 else if v = 1918986339 then 6 else if v = 1684631414 then 7 else if v = 26217 then 8 else if v = 1702063205 then 9 else if v = 435610544247 then 10 else if v = 121437875889522 then 11 else if v = 112628629924211 then 12 else 2
theorem jn_min : Cond.code Lib.Math.min.name Lib.Math.min.code 2 (some .int) ∈ jn_T := jn_of (List.mem_of_getElem? (i := 375) (by decide +kernel)) (by decide +kernel)
theorem jv_0 : (Cond.selects "TypeOrThing" ⟨"TypeOrThing", "wasRead", "(I)Z"⟩ ⟨"TypeOrThing", "wasRead", "(I)Z"⟩ : Cond) ∈ jn_T := jn_ps (List.mem_of_getElem? (i := 0) (by decide +kernel)) (by decide +kernel)
theorem jv_1 : (Cond.selects "TypeOrThing$Tokens" ⟨"TypeOrThing$Tokens", "continuesLast", "(C)Z"⟩ ⟨"TypeOrThing$Tokens", "continuesLast", "(C)Z"⟩ : Cond) ∈ jn_T := jn_ps (List.mem_of_getElem? (i := 1) (by decide +kernel)) (by decide +kernel)
theorem jv_10 : (Cond.selects "TypeOrThing$Declarators" ⟨"TypeOrThing$Declarators", "stars", "()I"⟩ ⟨"TypeOrThing$Declarators", "stars", "()I"⟩ : Cond) ∈ jn_T := jn_ps (List.mem_of_getElem? (i := 10) (by decide +kernel)) (by decide +kernel)
theorem jv_11 : (Cond.selects "TypeOrThing$Declarators" ⟨"TypeOrThing$Declarators", "direct", "(I)I"⟩ ⟨"TypeOrThing$Declarators", "direct", "(I)I"⟩ : Cond) ∈ jn_T := jn_ps (List.mem_of_getElem? (i := 11) (by decide +kernel)) (by decide +kernel)
theorem jv_12 : (Cond.selects "TypeOrThing$Declarators" ⟨"TypeOrThing$Declarators", "isGroup", "(I)Z"⟩ ⟨"TypeOrThing$Declarators", "isGroup", "(I)Z"⟩ : Cond) ∈ jn_T := jn_ps (List.mem_of_getElem? (i := 12) (by decide +kernel)) (by decide +kernel)
theorem jv_13 : (Cond.selects "TypeOrThing$Declarators" ⟨"TypeOrThing$Declarators", "dimension", "()V"⟩ ⟨"TypeOrThing$Declarators", "dimension", "()V"⟩ : Cond) ∈ jn_T := jn_ps (List.mem_of_getElem? (i := 13) (by decide +kernel)) (by decide +kernel)
theorem jv_14 : (Cond.selects "TypeOrThing$Declarators" ⟨"TypeOrThing$Declarators", "parameters", "()V"⟩ ⟨"TypeOrThing$Declarators", "parameters", "()V"⟩ : Cond) ∈ jn_T := jn_ps (List.mem_of_getElem? (i := 14) (by decide +kernel)) (by decide +kernel)
theorem jv_15 : (Cond.selects "TypeOrThing$Declarators" ⟨"TypeOrThing$Declarators", "writeBase", "(I)V"⟩ ⟨"TypeOrThing$Declarators", "writeBase", "(I)V"⟩ : Cond) ∈ jn_T := jn_ps (List.mem_of_getElem? (i := 15) (by decide +kernel)) (by decide +kernel)
theorem jv_16 : (Cond.selects "TypeOrThing$Names" ⟨"TypeOrThing$Names", "sortOf", "(IZ)I"⟩ ⟨"TypeOrThing$Names", "sortOf", "(IZ)I"⟩ : Cond) ∈ jn_T := jn_ps (List.mem_of_getElem? (i := 16) (by decide +kernel)) (by decide +kernel)
theorem jv_17 : (Cond.selects "TypeOrThing$Programs" ⟨"TypeOrThing$Programs", "writeDeclared", "(I)V"⟩ ⟨"TypeOrThing$Programs", "writeDeclared", "(I)V"⟩ : Cond) ∈ jn_T := jn_ps (List.mem_of_getElem? (i := 17) (by decide +kernel)) (by decide +kernel)
theorem jv_18 : (Cond.selects "TypeOrThing$Programs" ⟨"TypeOrThing$Programs", "block", "(I)V"⟩ ⟨"TypeOrThing$Programs", "block", "(I)V"⟩ : Cond) ∈ jn_T := jn_ps (List.mem_of_getElem? (i := 18) (by decide +kernel)) (by decide +kernel)
theorem jv_19 : (Cond.selects "TypeOrThing$Programs" ⟨"TypeOrThing$Programs", "statement", "()V"⟩ ⟨"TypeOrThing$Programs", "statement", "()V"⟩ : Cond) ∈ jn_T := jn_ps (List.mem_of_getElem? (i := 19) (by decide +kernel)) (by decide +kernel)
theorem jv_2 : (Cond.selects "TypeOrThing$Tokens" ⟨"TypeOrThing$Tokens", "lengthenLast", "(C)V"⟩ ⟨"TypeOrThing$Tokens", "lengthenLast", "(C)V"⟩ : Cond) ∈ jn_T := jn_ps (List.mem_of_getElem? (i := 2) (by decide +kernel)) (by decide +kernel)
theorem jv_20 : (Cond.selects "TypeOrThing$Programs" ⟨"TypeOrThing$Programs", "endWith", "(C)V"⟩ ⟨"TypeOrThing$Programs", "endWith", "(C)V"⟩ : Cond) ∈ jn_T := jn_ps (List.mem_of_getElem? (i := 20) (by decide +kernel)) (by decide +kernel)
theorem jv_21 : (Cond.selects "TypeOrThing$Programs" ⟨"TypeOrThing$Programs", "choice", "()V"⟩ ⟨"TypeOrThing$Programs", "choice", "()V"⟩ : Cond) ∈ jn_T := jn_ps (List.mem_of_getElem? (i := 21) (by decide +kernel)) (by decide +kernel)
theorem jv_22 : (Cond.selects "TypeOrThing$Programs" ⟨"TypeOrThing$Programs", "conditional", "(C)V"⟩ ⟨"TypeOrThing$Programs", "conditional", "(C)V"⟩ : Cond) ∈ jn_T := jn_ps (List.mem_of_getElem? (i := 22) (by decide +kernel)) (by decide +kernel)
theorem jv_23 : (Cond.selects "TypeOrThing$Expressions" ⟨"TypeOrThing$Expressions", "sum", "()Z"⟩ ⟨"TypeOrThing$Expressions", "sum", "()Z"⟩ : Cond) ∈ jn_T := jn_ps (List.mem_of_getElem? (i := 23) (by decide +kernel)) (by decide +kernel)
theorem jv_24 : (Cond.selects "TypeOrThing$Expressions" ⟨"TypeOrThing$Expressions", "product", "()Z"⟩ ⟨"TypeOrThing$Expressions", "product", "()Z"⟩ : Cond) ∈ jn_T := jn_ps (List.mem_of_getElem? (i := 24) (by decide +kernel)) (by decide +kernel)
theorem jv_25 : (Cond.selects "TypeOrThing$Expressions" ⟨"TypeOrThing$Expressions", "cast", "()Z"⟩ ⟨"TypeOrThing$Expressions", "cast", "()Z"⟩ : Cond) ∈ jn_T := jn_ps (List.mem_of_getElem? (i := 25) (by decide +kernel)) (by decide +kernel)
theorem jv_26 : (Cond.selects "TypeOrThing$Expressions" ⟨"TypeOrThing$Expressions", "seesPrefix", "()Z"⟩ ⟨"TypeOrThing$Expressions", "seesPrefix", "()Z"⟩ : Cond) ∈ jn_T := jn_ps (List.mem_of_getElem? (i := 26) (by decide +kernel)) (by decide +kernel)
theorem jv_27 : (Cond.selects "TypeOrThing$Expressions" ⟨"TypeOrThing$Expressions", "push", "(CII)V"⟩ ⟨"TypeOrThing$Expressions", "push", "(CII)V"⟩ : Cond) ∈ jn_T := jn_ps (List.mem_of_getElem? (i := 27) (by decide +kernel)) (by decide +kernel)
theorem jv_28 : (Cond.selects "TypeOrThing$Expressions" ⟨"TypeOrThing$Expressions", "postfix", "()Z"⟩ ⟨"TypeOrThing$Expressions", "postfix", "()Z"⟩ : Cond) ∈ jn_T := jn_ps (List.mem_of_getElem? (i := 28) (by decide +kernel)) (by decide +kernel)
theorem jv_29 : (Cond.selects "TypeOrThing$Expressions" ⟨"TypeOrThing$Expressions", "primary", "()Z"⟩ ⟨"TypeOrThing$Expressions", "primary", "()Z"⟩ : Cond) ∈ jn_T := jn_ps (List.mem_of_getElem? (i := 29) (by decide +kernel)) (by decide +kernel)
theorem jv_3 : (Cond.selects "TypeOrThing$Tokens" ⟨"TypeOrThing$Tokens", "begin", "(IC)V"⟩ ⟨"TypeOrThing$Tokens", "begin", "(IC)V"⟩ : Cond) ∈ jn_T := jn_ps (List.mem_of_getElem? (i := 3) (by decide +kernel)) (by decide +kernel)
theorem jv_30 : (Cond.selects "TypeOrThing$Expressions" ⟨"TypeOrThing$Expressions", "writeAtom", "(I)V"⟩ ⟨"TypeOrThing$Expressions", "writeAtom", "(I)V"⟩ : Cond) ∈ jn_T := jn_ps (List.mem_of_getElem? (i := 30) (by decide +kernel)) (by decide +kernel)
theorem jv_31 : (Cond.selects "TypeOrThing$Expressions" ⟨"TypeOrThing$Expressions", "index", "()V"⟩ ⟨"TypeOrThing$Expressions", "index", "()V"⟩ : Cond) ∈ jn_T := jn_ps (List.mem_of_getElem? (i := 31) (by decide +kernel)) (by decide +kernel)
theorem jv_32 : (Cond.selects "TypeOrThing$Expressions" ⟨"TypeOrThing$Expressions", "call", "()V"⟩ ⟨"TypeOrThing$Expressions", "call", "()V"⟩ : Cond) ∈ jn_T := jn_ps (List.mem_of_getElem? (i := 32) (by decide +kernel)) (by decide +kernel)
theorem jv_33 : (Cond.selects "TypeOrThing$Expressions" ⟨"TypeOrThing$Expressions", "popTo", "(I)V"⟩ ⟨"TypeOrThing$Expressions", "popTo", "(I)V"⟩ : Cond) ∈ jn_T := jn_ps (List.mem_of_getElem? (i := 33) (by decide +kernel)) (by decide +kernel)
theorem jv_34 : (Cond.selects "TypeOrThingModel" ⟨"TypeOrThingModel", "findTokens", "()V"⟩ ⟨"TypeOrThingModel", "findTokens", "()V"⟩ : Cond) ∈ jn_T := jn_ps (List.mem_of_getElem? (i := 34) (by decide +kernel)) (by decide +kernel)
theorem jv_35 : (Cond.selects "TypeOrThingModel" ⟨"TypeOrThingModel", "spelling", "(II)J"⟩ ⟨"TypeOrThingModel", "spelling", "(II)J"⟩ : Cond) ∈ jn_T := jn_ps (List.mem_of_getElem? (i := 35) (by decide +kernel)) (by decide +kernel)
theorem jv_36 : (Cond.selects "TypeOrThingModel" ⟨"TypeOrThingModel", "token", "(III)V"⟩ ⟨"TypeOrThingModel", "token", "(III)V"⟩ : Cond) ∈ jn_T := jn_ps (List.mem_of_getElem? (i := 36) (by decide +kernel)) (by decide +kernel)
theorem jv_37 : (Cond.selects "TypeOrThingModel" ⟨"TypeOrThingModel", "forget", "()V"⟩ ⟨"TypeOrThingModel", "forget", "()V"⟩ : Cond) ∈ jn_T := jn_ps (List.mem_of_getElem? (i := 37) (by decide +kernel)) (by decide +kernel)
theorem jv_38 : (Cond.selects "TypeOrThingModel" ⟨"TypeOrThingModel", "todo", "(II)V"⟩ ⟨"TypeOrThingModel", "todo", "(II)V"⟩ : Cond) ∈ jn_T := jn_ps (List.mem_of_getElem? (i := 38) (by decide +kernel)) (by decide +kernel)
theorem jv_39 : (Cond.selects "TypeOrThingModel" ⟨"TypeOrThingModel", "doDeclaring", "(II)V"⟩ ⟨"TypeOrThingModel", "doDeclaring", "(II)V"⟩ : Cond) ∈ jn_T := jn_ps (List.mem_of_getElem? (i := 39) (by decide +kernel)) (by decide +kernel)
theorem jv_4 : (Cond.selects "TypeOrThing$Programs" ⟨"TypeOrThing$Programs", "clear", "()V"⟩ ⟨"TypeOrThing$Programs", "clear", "()V"⟩ : Cond) ∈ jn_T := jn_ps (List.mem_of_getElem? (i := 4) (by decide +kernel)) (by decide +kernel)
theorem jv_40 : (Cond.selects "TypeOrThingModel" ⟨"TypeOrThingModel", "program", "()V"⟩ ⟨"TypeOrThingModel", "program", "()V"⟩ : Cond) ∈ jn_T := jn_ps (List.mem_of_getElem? (i := 40) (by decide +kernel)) (by decide +kernel)
theorem jv_41 : (Cond.selects "TypeOrThingModel" ⟨"TypeOrThingModel", "is", "(I)Z"⟩ ⟨"TypeOrThingModel", "is", "(I)Z"⟩ : Cond) ∈ jn_T := jn_ps (List.mem_of_getElem? (i := 41) (by decide +kernel)) (by decide +kernel)
theorem jv_42 : (Cond.selects "TypeOrThingModel" ⟨"TypeOrThingModel", "isBase", "(I)Z"⟩ ⟨"TypeOrThingModel", "isBase", "(I)Z"⟩ : Cond) ∈ jn_T := jn_ps (List.mem_of_getElem? (i := 42) (by decide +kernel)) (by decide +kernel)
theorem jv_43 : (Cond.selects "TypeOrThingModel" ⟨"TypeOrThingModel", "isType", "(I)Z"⟩ ⟨"TypeOrThingModel", "isType", "(I)Z"⟩ : Cond) ∈ jn_T := jn_ps (List.mem_of_getElem? (i := 43) (by decide +kernel)) (by decide +kernel)
theorem jv_44 : (Cond.selects "TypeOrThingModel" ⟨"TypeOrThingModel", "meant", "(I)I"⟩ ⟨"TypeOrThingModel", "meant", "(I)I"⟩ : Cond) ∈ jn_T := jn_ps (List.mem_of_getElem? (i := 44) (by decide +kernel)) (by decide +kernel)
theorem jv_45 : (Cond.selects "TypeOrThingModel" ⟨"TypeOrThingModel", "breakHere", "()V"⟩ ⟨"TypeOrThingModel", "breakHere", "()V"⟩ : Cond) ∈ jn_T := jn_ps (List.mem_of_getElem? (i := 45) (by decide +kernel)) (by decide +kernel)
theorem jv_46 : (Cond.selects "TypeOrThingModel" ⟨"TypeOrThingModel", "declaration", "(I)V"⟩ ⟨"TypeOrThingModel", "declaration", "(I)V"⟩ : Cond) ∈ jn_T := jn_ps (List.mem_of_getElem? (i := 46) (by decide +kernel)) (by decide +kernel)
theorem jv_47 : (Cond.selects "TypeOrThingModel" ⟨"TypeOrThingModel", "takeBase", "()I"⟩ ⟨"TypeOrThingModel", "takeBase", "()I"⟩ : Cond) ∈ jn_T := jn_ps (List.mem_of_getElem? (i := 47) (by decide +kernel)) (by decide +kernel)
theorem jv_48 : (Cond.selects "TypeOrThingModel" ⟨"TypeOrThingModel", "beginDeclarator", "(I)V"⟩ ⟨"TypeOrThingModel", "beginDeclarator", "(I)V"⟩ : Cond) ∈ jn_T := jn_ps (List.mem_of_getElem? (i := 48) (by decide +kernel)) (by decide +kernel)
theorem jv_49 : (Cond.selects "TypeOrThingModel" ⟨"TypeOrThingModel", "finish", "(I)V"⟩ ⟨"TypeOrThingModel", "finish", "(I)V"⟩ : Cond) ∈ jn_T := jn_ps (List.mem_of_getElem? (i := 49) (by decide +kernel)) (by decide +kernel)
theorem jv_5 : (Cond.selects "TypeOrThing$Programs" ⟨"TypeOrThing$Programs", "declaration", "(Z)V"⟩ ⟨"TypeOrThing$Programs", "declaration", "(Z)V"⟩ : Cond) ∈ jn_T := jn_ps (List.mem_of_getElem? (i := 5) (by decide +kernel)) (by decide +kernel)
theorem jv_50 : (Cond.selects "TypeOrThingModel" ⟨"TypeOrThingModel", "markBase", "(I)V"⟩ ⟨"TypeOrThingModel", "markBase", "(I)V"⟩ : Cond) ∈ jn_T := jn_ps (List.mem_of_getElem? (i := 50) (by decide +kernel)) (by decide +kernel)
theorem jv_51 : (Cond.selects "TypeOrThingModel" ⟨"TypeOrThingModel", "mark", "(I)V"⟩ ⟨"TypeOrThingModel", "mark", "(I)V"⟩ : Cond) ∈ jn_T := jn_ps (List.mem_of_getElem? (i := 51) (by decide +kernel)) (by decide +kernel)
theorem jv_52 : (Cond.selects "TypeOrThingModel" ⟨"TypeOrThingModel", "declare", "(Z)V"⟩ ⟨"TypeOrThingModel", "declare", "(Z)V"⟩ : Cond) ∈ jn_T := jn_ps (List.mem_of_getElem? (i := 52) (by decide +kernel)) (by decide +kernel)
theorem jv_53 : (Cond.selects "TypeOrThingModel" ⟨"TypeOrThingModel", "say", "(I)V"⟩ ⟨"TypeOrThingModel", "say", "(I)V"⟩ : Cond) ∈ jn_T := jn_ps (List.mem_of_getElem? (i := 53) (by decide +kernel)) (by decide +kernel)
theorem jv_54 : (Cond.selects "TypeOrThingModel" ⟨"TypeOrThingModel", "sayToken", "(I)V"⟩ ⟨"TypeOrThingModel", "sayToken", "(I)V"⟩ : Cond) ∈ jn_T := jn_ps (List.mem_of_getElem? (i := 54) (by decide +kernel)) (by decide +kernel)
theorem jv_55 : (Cond.selects "TypeOrThingModel" ⟨"TypeOrThingModel", "sayType", "()V"⟩ ⟨"TypeOrThingModel", "sayType", "()V"⟩ : Cond) ∈ jn_T := jn_ps (List.mem_of_getElem? (i := 55) (by decide +kernel)) (by decide +kernel)
theorem jv_56 : (Cond.selects "TypeOrThingModel" ⟨"TypeOrThingModel", "next", "(I)V"⟩ ⟨"TypeOrThingModel", "next", "(I)V"⟩ : Cond) ∈ jn_T := jn_ps (List.mem_of_getElem? (i := 56) (by decide +kernel)) (by decide +kernel)
theorem jv_57 : (Cond.selects "TypeOrThingModel" ⟨"TypeOrThingModel", "pass", "(IZ)V"⟩ ⟨"TypeOrThingModel", "pass", "(IZ)V"⟩ : Cond) ∈ jn_T := jn_ps (List.mem_of_getElem? (i := 57) (by decide +kernel)) (by decide +kernel)
theorem jv_58 : (Cond.selects "TypeOrThingModel" ⟨"TypeOrThingModel", "declarator", "(I)V"⟩ ⟨"TypeOrThingModel", "declarator", "(I)V"⟩ : Cond) ∈ jn_T := jn_ps (List.mem_of_getElem? (i := 58) (by decide +kernel)) (by decide +kernel)
theorem jv_59 : (Cond.selects "TypeOrThingModel" ⟨"TypeOrThingModel", "canDeclare", "(I)Z"⟩ ⟨"TypeOrThingModel", "canDeclare", "(I)Z"⟩ : Cond) ∈ jn_T := jn_ps (List.mem_of_getElem? (i := 59) (by decide +kernel)) (by decide +kernel)
theorem jv_6 : (Cond.selects "TypeOrThing$Programs" ⟨"TypeOrThing$Programs", "specifiers", "()I"⟩ ⟨"TypeOrThing$Programs", "specifiers", "()I"⟩ : Cond) ∈ jn_T := jn_ps (List.mem_of_getElem? (i := 6) (by decide +kernel)) (by decide +kernel)
theorem jv_60 : (Cond.selects "TypeOrThingModel" ⟨"TypeOrThingModel", "isGroup", "(I)Z"⟩ ⟨"TypeOrThingModel", "isGroup", "(I)Z"⟩ : Cond) ∈ jn_T := jn_ps (List.mem_of_getElem? (i := 60) (by decide +kernel)) (by decide +kernel)
theorem jv_61 : (Cond.selects "TypeOrThingModel" ⟨"TypeOrThingModel", "behind", "()I"⟩ ⟨"TypeOrThingModel", "behind", "()I"⟩ : Cond) ∈ jn_T := jn_ps (List.mem_of_getElem? (i := 61) (by decide +kernel)) (by decide +kernel)
theorem jv_62 : (Cond.selects "TypeOrThingModel" ⟨"TypeOrThingModel", "enter", "()V"⟩ ⟨"TypeOrThingModel", "enter", "()V"⟩ : Cond) ∈ jn_T := jn_ps (List.mem_of_getElem? (i := 62) (by decide +kernel)) (by decide +kernel)
theorem jv_63 : (Cond.selects "TypeOrThingModel" ⟨"TypeOrThingModel", "suffixes", "()V"⟩ ⟨"TypeOrThingModel", "suffixes", "()V"⟩ : Cond) ∈ jn_T := jn_ps (List.mem_of_getElem? (i := 63) (by decide +kernel)) (by decide +kernel)
theorem jv_64 : (Cond.selects "TypeOrThingModel" ⟨"TypeOrThingModel", "parameters", "()V"⟩ ⟨"TypeOrThingModel", "parameters", "()V"⟩ : Cond) ∈ jn_T := jn_ps (List.mem_of_getElem? (i := 64) (by decide +kernel)) (by decide +kernel)
theorem jv_65 : (Cond.selects "TypeOrThingModel" ⟨"TypeOrThingModel", "newScope", "()I"⟩ ⟨"TypeOrThingModel", "newScope", "()I"⟩ : Cond) ∈ jn_T := jn_ps (List.mem_of_getElem? (i := 65) (by decide +kernel)) (by decide +kernel)
theorem jv_66 : (Cond.selects "TypeOrThingModel" ⟨"TypeOrThingModel", "openScope", "(I)V"⟩ ⟨"TypeOrThingModel", "openScope", "(I)V"⟩ : Cond) ∈ jn_T := jn_ps (List.mem_of_getElem? (i := 66) (by decide +kernel)) (by decide +kernel)
theorem jv_67 : (Cond.selects "TypeOrThingModel" ⟨"TypeOrThingModel", "stars", "(I)V"⟩ ⟨"TypeOrThingModel", "stars", "(I)V"⟩ : Cond) ∈ jn_T := jn_ps (List.mem_of_getElem? (i := 67) (by decide +kernel)) (by decide +kernel)
theorem jv_68 : (Cond.selects "TypeOrThingModel" ⟨"TypeOrThingModel", "parameter", "()V"⟩ ⟨"TypeOrThingModel", "parameter", "()V"⟩ : Cond) ∈ jn_T := jn_ps (List.mem_of_getElem? (i := 68) (by decide +kernel)) (by decide +kernel)
theorem jv_69 : (Cond.selects "TypeOrThingModel" ⟨"TypeOrThingModel", "parameterEnd", "(I)V"⟩ ⟨"TypeOrThingModel", "parameterEnd", "(I)V"⟩ : Cond) ∈ jn_T := jn_ps (List.mem_of_getElem? (i := 69) (by decide +kernel)) (by decide +kernel)
theorem jv_70 : (Cond.selects "TypeOrThingModel" ⟨"TypeOrThingModel", "parametersMore", "()V"⟩ ⟨"TypeOrThingModel", "parametersMore", "()V"⟩ : Cond) ∈ jn_T := jn_ps (List.mem_of_getElem? (i := 70) (by decide +kernel)) (by decide +kernel)
theorem jv_71 : (Cond.selects "TypeOrThingModel" ⟨"TypeOrThingModel", "parametersEnd", "()V"⟩ ⟨"TypeOrThingModel", "parametersEnd", "()V"⟩ : Cond) ∈ jn_T := jn_ps (List.mem_of_getElem? (i := 71) (by decide +kernel)) (by decide +kernel)
theorem jv_72 : (Cond.selects "TypeOrThingModel" ⟨"TypeOrThingModel", "doStating", "(II)V"⟩ ⟨"TypeOrThingModel", "doStating", "(II)V"⟩ : Cond) ∈ jn_T := jn_ps (List.mem_of_getElem? (i := 72) (by decide +kernel)) (by decide +kernel)
theorem jv_73 : (Cond.selects "TypeOrThingModel" ⟨"TypeOrThingModel", "block", "(I)V"⟩ ⟨"TypeOrThingModel", "block", "(I)V"⟩ : Cond) ∈ jn_T := jn_ps (List.mem_of_getElem? (i := 73) (by decide +kernel)) (by decide +kernel)
theorem jv_74 : (Cond.selects "TypeOrThingModel" ⟨"TypeOrThingModel", "items", "()V"⟩ ⟨"TypeOrThingModel", "items", "()V"⟩ : Cond) ∈ jn_T := jn_ps (List.mem_of_getElem? (i := 74) (by decide +kernel)) (by decide +kernel)
theorem jv_75 : (Cond.selects "TypeOrThingModel" ⟨"TypeOrThingModel", "statement", "()V"⟩ ⟨"TypeOrThingModel", "statement", "()V"⟩ : Cond) ∈ jn_T := jn_ps (List.mem_of_getElem? (i := 75) (by decide +kernel)) (by decide +kernel)
theorem jv_76 : (Cond.selects "TypeOrThingModel" ⟨"TypeOrThingModel", "conditional", "(II)V"⟩ ⟨"TypeOrThingModel", "conditional", "(II)V"⟩ : Cond) ∈ jn_T := jn_ps (List.mem_of_getElem? (i := 76) (by decide +kernel)) (by decide +kernel)
theorem jv_77 : (Cond.selects "TypeOrThingModel" ⟨"TypeOrThingModel", "ifEnd", "()V"⟩ ⟨"TypeOrThingModel", "ifEnd", "()V"⟩ : Cond) ∈ jn_T := jn_ps (List.mem_of_getElem? (i := 77) (by decide +kernel)) (by decide +kernel)
theorem jv_78 : (Cond.selects "TypeOrThingModel" ⟨"TypeOrThingModel", "doExpressing", "(II)V"⟩ ⟨"TypeOrThingModel", "doExpressing", "(II)V"⟩ : Cond) ∈ jn_T := jn_ps (List.mem_of_getElem? (i := 78) (by decide +kernel)) (by decide +kernel)
theorem jv_79 : (Cond.selects "TypeOrThingModel" ⟨"TypeOrThingModel", "expressionMore", "()V"⟩ ⟨"TypeOrThingModel", "expressionMore", "()V"⟩ : Cond) ∈ jn_T := jn_ps (List.mem_of_getElem? (i := 79) (by decide +kernel)) (by decide +kernel)
theorem jv_8 : (Cond.selects "TypeOrThing$Names" ⟨"TypeOrThing$Names", "meaningOf", "(I)I"⟩ ⟨"TypeOrThing$Names", "meaningOf", "(I)I"⟩ : Cond) ∈ jn_T := jn_ps (List.mem_of_getElem? (i := 8) (by decide +kernel)) (by decide +kernel)
theorem jv_80 : (Cond.selects "TypeOrThingModel" ⟨"TypeOrThingModel", "more", "(IIII)V"⟩ ⟨"TypeOrThingModel", "more", "(IIII)V"⟩ : Cond) ∈ jn_T := jn_ps (List.mem_of_getElem? (i := 80) (by decide +kernel)) (by decide +kernel)
theorem jv_81 : (Cond.selects "TypeOrThingModel" ⟨"TypeOrThingModel", "cast", "()V"⟩ ⟨"TypeOrThingModel", "cast", "()V"⟩ : Cond) ∈ jn_T := jn_ps (List.mem_of_getElem? (i := 81) (by decide +kernel)) (by decide +kernel)
theorem jv_82 : (Cond.selects "TypeOrThingModel" ⟨"TypeOrThingModel", "isTypeName", "()Z"⟩ ⟨"TypeOrThingModel", "isTypeName", "()Z"⟩ : Cond) ∈ jn_T := jn_ps (List.mem_of_getElem? (i := 82) (by decide +kernel)) (by decide +kernel)
theorem jv_83 : (Cond.selects "TypeOrThingModel" ⟨"TypeOrThingModel", "typeName", "(I)V"⟩ ⟨"TypeOrThingModel", "typeName", "(I)V"⟩ : Cond) ∈ jn_T := jn_ps (List.mem_of_getElem? (i := 83) (by decide +kernel)) (by decide +kernel)
theorem jv_84 : (Cond.selects "TypeOrThingModel" ⟨"TypeOrThingModel", "castType", "(I)V"⟩ ⟨"TypeOrThingModel", "castType", "(I)V"⟩ : Cond) ∈ jn_T := jn_ps (List.mem_of_getElem? (i := 84) (by decide +kernel)) (by decide +kernel)
theorem jv_85 : (Cond.selects "TypeOrThingModel" ⟨"TypeOrThingModel", "castEnd", "()V"⟩ ⟨"TypeOrThingModel", "castEnd", "()V"⟩ : Cond) ∈ jn_T := jn_ps (List.mem_of_getElem? (i := 85) (by decide +kernel)) (by decide +kernel)
theorem jv_86 : (Cond.selects "TypeOrThingModel" ⟨"TypeOrThingModel", "unary", "()V"⟩ ⟨"TypeOrThingModel", "unary", "()V"⟩ : Cond) ∈ jn_T := jn_ps (List.mem_of_getElem? (i := 86) (by decide +kernel)) (by decide +kernel)
theorem jv_87 : (Cond.selects "TypeOrThingModel" ⟨"TypeOrThingModel", "sizeType", "(I)V"⟩ ⟨"TypeOrThingModel", "sizeType", "(I)V"⟩ : Cond) ∈ jn_T := jn_ps (List.mem_of_getElem? (i := 87) (by decide +kernel)) (by decide +kernel)
theorem jv_88 : (Cond.selects "TypeOrThingModel" ⟨"TypeOrThingModel", "postfix", "()V"⟩ ⟨"TypeOrThingModel", "postfix", "()V"⟩ : Cond) ∈ jn_T := jn_ps (List.mem_of_getElem? (i := 88) (by decide +kernel)) (by decide +kernel)
theorem jv_89 : (Cond.selects "TypeOrThingModel" ⟨"TypeOrThingModel", "postfixMore", "()V"⟩ ⟨"TypeOrThingModel", "postfixMore", "()V"⟩ : Cond) ∈ jn_T := jn_ps (List.mem_of_getElem? (i := 89) (by decide +kernel)) (by decide +kernel)
theorem jv_9 : (Cond.selects "TypeOrThing$Declarators" ⟨"TypeOrThing$Declarators", "declarator", "(I)I"⟩ ⟨"TypeOrThing$Declarators", "declarator", "(I)I"⟩ : Cond) ∈ jn_T := jn_ps (List.mem_of_getElem? (i := 9) (by decide +kernel)) (by decide +kernel)
theorem jv_90 : (Cond.selects "TypeOrThingModel" ⟨"TypeOrThingModel", "arguments", "(I)V"⟩ ⟨"TypeOrThingModel", "arguments", "(I)V"⟩ : Cond) ∈ jn_T := jn_ps (List.mem_of_getElem? (i := 90) (by decide +kernel)) (by decide +kernel)
theorem jv_91 : (Cond.selects "TypeOrThingModel" ⟨"TypeOrThingModel", "sayNumber", "(I)V"⟩ ⟨"TypeOrThingModel", "sayNumber", "(I)V"⟩ : Cond) ∈ jn_T := jn_ps (List.mem_of_getElem? (i := 91) (by decide +kernel)) (by decide +kernel)
theorem jv_92 : (Cond.selects "TypeOrThingModel" ⟨"TypeOrThingModel", "sayNumber2", "(I)V"⟩ ⟨"TypeOrThingModel", "sayNumber2", "(I)V"⟩ : Cond) ∈ jn_T := jn_ps (List.mem_of_getElem? (i := 92) (by decide +kernel)) (by decide +kernel)
theorem jv_93 : (Cond.selects "TypeOrThingModel" ⟨"TypeOrThingModel", "fail", "(I)I"⟩ ⟨"TypeOrThingModel", "fail", "(I)I"⟩ : Cond) ∈ jn_T := jn_ps (List.mem_of_getElem? (i := 93) (by decide +kernel)) (by decide +kernel)
theorem jv_94 : (Cond.selects "TypeOrThingModel" ⟨"TypeOrThingModel", "isToken", "(I)Z"⟩ ⟨"TypeOrThingModel", "isToken", "(I)Z"⟩ : Cond) ∈ jn_T := jn_ps (List.mem_of_getElem? (i := 94) (by decide +kernel)) (by decide +kernel)
theorem jw_1 : (Cond.initialized "TypeOrThing" : Cond) ∈ jn_T := jn_of (List.mem_of_getElem? (i := 1) (by decide +kernel)) (by decide +kernel)
theorem jw_10 : (Cond.initialized "java/lang/String" : Cond) ∈ jn_T := jn_of (List.mem_of_getElem? (i := 10) (by decide +kernel)) (by decide +kernel)
theorem jw_100 : (Cond.fieldLink "TypeOrThing$Programs" 141 "TypeOrThing$Names" "typeEnds" "[I" : Cond) ∈ jn_T := jn_of (List.mem_of_getElem? (i := 100) (by decide +kernel)) (by decide +kernel)
theorem jw_1000 : (Cond.instanceMethod ⟨"TypeOrThingModel", "findTokens", "()V"⟩ : Cond) ∈ jn_T := jn_of (List.mem_of_getElem? (i := 1000) (by decide +kernel)) (by decide +kernel)
theorem jw_1001 : (Cond.code ⟨"TypeOrThingModel", "findTokens", "()V"⟩ prog_10_method_12_code 4 none : Cond) ∈ jn_T := jn_of (List.mem_of_getElem? (i := 1001) (by decide +kernel)) (by decide +kernel)
theorem jw_1002 : (Cond.methodLink "TypeOrThingModel" 104 ⟨"TypeOrThingModel", "isSmall", "(I)Z"⟩ : Cond) ∈ jn_T := jn_of (List.mem_of_getElem? (i := 1002) (by decide +kernel)) (by decide +kernel)
theorem jw_1003 : (Cond.static ⟨"TypeOrThingModel", "isSmall", "(I)Z"⟩ : Cond) ∈ jn_T := jn_of (List.mem_of_getElem? (i := 1003) (by decide +kernel)) (by decide +kernel)
theorem jw_1004 : (Cond.code ⟨"TypeOrThingModel", "isSmall", "(I)Z"⟩ prog_10_method_6_code 1 (some .boolean) : Cond) ∈ jn_T := jn_of (List.mem_of_getElem? (i := 1004) (by decide +kernel)) (by decide +kernel)
theorem jw_1005 : (Cond.methodLink "TypeOrThingModel" 108 ⟨"TypeOrThingModel", "isDigit", "(I)Z"⟩ : Cond) ∈ jn_T := jn_of (List.mem_of_getElem? (i := 1005) (by decide +kernel)) (by decide +kernel)
theorem jw_1006 : (Cond.static ⟨"TypeOrThingModel", "isDigit", "(I)Z"⟩ : Cond) ∈ jn_T := jn_of (List.mem_of_getElem? (i := 1006) (by decide +kernel)) (by decide +kernel)
theorem jw_1007 : (Cond.code ⟨"TypeOrThingModel", "isDigit", "(I)Z"⟩ prog_10_method_7_code 1 (some .boolean) : Cond) ∈ jn_T := jn_of (List.mem_of_getElem? (i := 1007) (by decide +kernel)) (by decide +kernel)
theorem jw_1008 : (Cond.methodLink "TypeOrThingModel" 111 ⟨"TypeOrThingModel", "spelling", "(II)J"⟩ : Cond) ∈ jn_T := jn_of (List.mem_of_getElem? (i := 1008) (by decide +kernel)) (by decide +kernel)
theorem jw_101 : (Cond.fieldLink "TypeOrThing" 99 "TypeOrThing$Names" "typeEnds" "[I" : Cond) ∈ jn_T := jn_of (List.mem_of_getElem? (i := 101) (by decide +kernel)) (by decide +kernel)
theorem jw_1010 : (Cond.instanceMethod ⟨"TypeOrThingModel", "spelling", "(II)J"⟩ : Cond) ∈ jn_T := jn_of (List.mem_of_getElem? (i := 1010) (by decide +kernel)) (by decide +kernel)
theorem jw_1011 : (Cond.code ⟨"TypeOrThingModel", "spelling", "(II)J"⟩ prog_10_method_9_code 6 (some .long) : Cond) ∈ jn_T := jn_of (List.mem_of_getElem? (i := 1011) (by decide +kernel)) (by decide +kernel)
theorem jw_1012 : (Cond.methodLink "TypeOrThingModel" 115 ⟨"TypeOrThingModel", "wordKind", "(J)I"⟩ : Cond) ∈ jn_T := jn_of (List.mem_of_getElem? (i := 1012) (by decide +kernel)) (by decide +kernel)
theorem jw_1013 : (Cond.static ⟨"TypeOrThingModel", "wordKind", "(J)I"⟩ : Cond) ∈ jn_T := jn_of (List.mem_of_getElem? (i := 1013) (by decide +kernel)) (by decide +kernel)
theorem jw_1014 : (Cond.code ⟨"TypeOrThingModel", "wordKind", "(J)I"⟩ prog_10_method_10_code 2 (some .int) : Cond) ∈ jn_T := jn_of (List.mem_of_getElem? (i := 1014) (by decide +kernel)) (by decide +kernel)
theorem jw_1015 : (Cond.constantLong "TypeOrThingModel" 83 (28821929497491828 : Int64) : Cond) ∈ jn_T := jn_of (List.mem_of_getElem? (i := 1015) (by decide +kernel)) (by decide +kernel)
theorem jw_1016 : (Cond.constantLong "TypeOrThingModel" 85 (7630441 : Int64) : Cond) ∈ jn_T := jn_of (List.mem_of_getElem? (i := 1016) (by decide +kernel)) (by decide +kernel)
theorem jw_1017 : (Cond.constantLong "TypeOrThingModel" 87 (1918986339 : Int64) : Cond) ∈ jn_T := jn_of (List.mem_of_getElem? (i := 1017) (by decide +kernel)) (by decide +kernel)
theorem jw_1018 : (Cond.constantLong "TypeOrThingModel" 89 (1684631414 : Int64) : Cond) ∈ jn_T := jn_of (List.mem_of_getElem? (i := 1018) (by decide +kernel)) (by decide +kernel)
theorem jw_1019 : (Cond.constantLong "TypeOrThingModel" 91 (26217 : Int64) : Cond) ∈ jn_T := jn_of (List.mem_of_getElem? (i := 1019) (by decide +kernel)) (by decide +kernel)
theorem jw_102 : (Cond.fieldLink "TypeOrThing$Names" 41 "TypeOrThing$Names" "sorts" "[I" : Cond) ∈ jn_T := jn_of (List.mem_of_getElem? (i := 102) (by decide +kernel)) (by decide +kernel)
theorem jw_1020 : (Cond.constantLong "TypeOrThingModel" 93 (1702063205 : Int64) : Cond) ∈ jn_T := jn_of (List.mem_of_getElem? (i := 1020) (by decide +kernel)) (by decide +kernel)
theorem jw_1021 : (Cond.constantLong "TypeOrThingModel" 95 (435610544247 : Int64) : Cond) ∈ jn_T := jn_of (List.mem_of_getElem? (i := 1021) (by decide +kernel)) (by decide +kernel)
theorem jw_1022 : (Cond.constantLong "TypeOrThingModel" 97 (121437875889522 : Int64) : Cond) ∈ jn_T := jn_of (List.mem_of_getElem? (i := 1022) (by decide +kernel)) (by decide +kernel)
theorem jw_1023 : (Cond.constantLong "TypeOrThingModel" 99 (112628629924211 : Int64) : Cond) ∈ jn_T := jn_of (List.mem_of_getElem? (i := 1023) (by decide +kernel)) (by decide +kernel)
theorem jw_1024 : (Cond.methodLink "TypeOrThingModel" 119 ⟨"TypeOrThingModel", "token", "(III)V"⟩ : Cond) ∈ jn_T := jn_of (List.mem_of_getElem? (i := 1024) (by decide +kernel)) (by decide +kernel)
theorem jw_1026 : (Cond.instanceMethod ⟨"TypeOrThingModel", "token", "(III)V"⟩ : Cond) ∈ jn_T := jn_of (List.mem_of_getElem? (i := 1026) (by decide +kernel)) (by decide +kernel)
theorem jw_1027 : (Cond.code ⟨"TypeOrThingModel", "token", "(III)V"⟩ prog_10_method_11_code 4 none : Cond) ∈ jn_T := jn_of (List.mem_of_getElem? (i := 1027) (by decide +kernel)) (by decide +kernel)
theorem jw_1028 : (Cond.methodLink "TypeOrThingModel" 123 ⟨"TypeOrThingModel", "isSign", "(I)Z"⟩ : Cond) ∈ jn_T := jn_of (List.mem_of_getElem? (i := 1028) (by decide +kernel)) (by decide +kernel)
theorem jw_1029 : (Cond.static ⟨"TypeOrThingModel", "isSign", "(I)Z"⟩ : Cond) ∈ jn_T := jn_of (List.mem_of_getElem? (i := 1029) (by decide +kernel)) (by decide +kernel)
theorem jw_103 : (Cond.fieldLink "TypeOrThing$Programs" 98 "TypeOrThing$Names" "sorts" "[I" : Cond) ∈ jn_T := jn_of (List.mem_of_getElem? (i := 103) (by decide +kernel)) (by decide +kernel)
theorem jw_1030 : (Cond.code ⟨"TypeOrThingModel", "isSign", "(I)Z"⟩ prog_10_method_8_code 1 (some .boolean) : Cond) ∈ jn_T := jn_of (List.mem_of_getElem? (i := 1030) (by decide +kernel)) (by decide +kernel)
theorem jw_1031 : (Cond.methodLink "TypeOrThingModel" 342 ⟨"TypeOrThingModel", "forget", "()V"⟩ : Cond) ∈ jn_T := jn_of (List.mem_of_getElem? (i := 1031) (by decide +kernel)) (by decide +kernel)
theorem jw_1033 : (Cond.instanceMethod ⟨"TypeOrThingModel", "forget", "()V"⟩ : Cond) ∈ jn_T := jn_of (List.mem_of_getElem? (i := 1033) (by decide +kernel)) (by decide +kernel)
theorem jw_1034 : (Cond.code ⟨"TypeOrThingModel", "forget", "()V"⟩ prog_10_method_68_code 1 none : Cond) ∈ jn_T := jn_of (List.mem_of_getElem? (i := 1034) (by decide +kernel)) (by decide +kernel)
theorem jw_1035 : (Cond.methodLink "TypeOrThingModel" 199 ⟨"TypeOrThingModel", "todo", "(II)V"⟩ : Cond) ∈ jn_T := jn_of (List.mem_of_getElem? (i := 1035) (by decide +kernel)) (by decide +kernel)
theorem jw_1037 : (Cond.instanceMethod ⟨"TypeOrThingModel", "todo", "(II)V"⟩ : Cond) ∈ jn_T := jn_of (List.mem_of_getElem? (i := 1037) (by decide +kernel)) (by decide +kernel)
theorem jw_1038 : (Cond.code ⟨"TypeOrThingModel", "todo", "(II)V"⟩ prog_10_method_13_code 3 none : Cond) ∈ jn_T := jn_of (List.mem_of_getElem? (i := 1038) (by decide +kernel)) (by decide +kernel)
theorem jw_1039 : (Cond.methodLink "TypeOrThingModel" 345 ⟨"TypeOrThingModel", "doDeclaring", "(II)V"⟩ : Cond) ∈ jn_T := jn_of (List.mem_of_getElem? (i := 1039) (by decide +kernel)) (by decide +kernel)
theorem jw_104 : (Cond.fieldLink "TypeOrThing" 105 "TypeOrThing$Names" "sorts" "[I" : Cond) ∈ jn_T := jn_of (List.mem_of_getElem? (i := 104) (by decide +kernel)) (by decide +kernel)
theorem jw_1041 : (Cond.instanceMethod ⟨"TypeOrThingModel", "doDeclaring", "(II)V"⟩ : Cond) ∈ jn_T := jn_of (List.mem_of_getElem? (i := 1041) (by decide +kernel)) (by decide +kernel)
theorem jw_1042 : (Cond.code ⟨"TypeOrThingModel", "doDeclaring", "(II)V"⟩ prog_10_method_65_code 3 none : Cond) ∈ jn_T := jn_of (List.mem_of_getElem? (i := 1042) (by decide +kernel)) (by decide +kernel)
theorem jw_1043 : (Cond.methodLink "TypeOrThingModel" 260 ⟨"TypeOrThingModel", "program", "()V"⟩ : Cond) ∈ jn_T := jn_of (List.mem_of_getElem? (i := 1043) (by decide +kernel)) (by decide +kernel)
theorem jw_1045 : (Cond.instanceMethod ⟨"TypeOrThingModel", "program", "()V"⟩ : Cond) ∈ jn_T := jn_of (List.mem_of_getElem? (i := 1045) (by decide +kernel)) (by decide +kernel)
theorem jw_1046 : (Cond.code ⟨"TypeOrThingModel", "program", "()V"⟩ prog_10_method_63_code 1 none : Cond) ∈ jn_T := jn_of (List.mem_of_getElem? (i := 1046) (by decide +kernel)) (by decide +kernel)
theorem jw_1047 : (Cond.methodLink "TypeOrThingModel" 142 ⟨"TypeOrThingModel", "is", "(I)Z"⟩ : Cond) ∈ jn_T := jn_of (List.mem_of_getElem? (i := 1047) (by decide +kernel)) (by decide +kernel)
theorem jw_1049 : (Cond.instanceMethod ⟨"TypeOrThingModel", "is", "(I)Z"⟩ : Cond) ∈ jn_T := jn_of (List.mem_of_getElem? (i := 1049) (by decide +kernel)) (by decide +kernel)
theorem jw_105 : (Cond.fieldLink "TypeOrThing$Names" 44 "TypeOrThing$Names" "scopes" "[I" : Cond) ∈ jn_T := jn_of (List.mem_of_getElem? (i := 105) (by decide +kernel)) (by decide +kernel)
theorem jw_1050 : (Cond.code ⟨"TypeOrThingModel", "is", "(I)Z"⟩ prog_10_method_15_code 2 (some .boolean) : Cond) ∈ jn_T := jn_of (List.mem_of_getElem? (i := 1050) (by decide +kernel)) (by decide +kernel)
theorem jw_1051 : (Cond.methodLink "TypeOrThingModel" 158 ⟨"TypeOrThingModel", "isBase", "(I)Z"⟩ : Cond) ∈ jn_T := jn_of (List.mem_of_getElem? (i := 1051) (by decide +kernel)) (by decide +kernel)
theorem jw_1053 : (Cond.instanceMethod ⟨"TypeOrThingModel", "isBase", "(I)Z"⟩ : Cond) ∈ jn_T := jn_of (List.mem_of_getElem? (i := 1053) (by decide +kernel)) (by decide +kernel)
theorem jw_1054 : (Cond.code ⟨"TypeOrThingModel", "isBase", "(I)Z"⟩ prog_10_method_21_code 2 (some .boolean) : Cond) ∈ jn_T := jn_of (List.mem_of_getElem? (i := 1054) (by decide +kernel)) (by decide +kernel)
theorem jw_1055 : (Cond.methodLink "TypeOrThingModel" 155 ⟨"TypeOrThingModel", "isType", "(I)Z"⟩ : Cond) ∈ jn_T := jn_of (List.mem_of_getElem? (i := 1055) (by decide +kernel)) (by decide +kernel)
theorem jw_1057 : (Cond.instanceMethod ⟨"TypeOrThingModel", "isType", "(I)Z"⟩ : Cond) ∈ jn_T := jn_of (List.mem_of_getElem? (i := 1057) (by decide +kernel)) (by decide +kernel)
theorem jw_1058 : (Cond.code ⟨"TypeOrThingModel", "isType", "(I)Z"⟩ prog_10_method_20_code 3 (some .boolean) : Cond) ∈ jn_T := jn_of (List.mem_of_getElem? (i := 1058) (by decide +kernel)) (by decide +kernel)
theorem jw_1059 : (Cond.methodLink "TypeOrThingModel" 151 ⟨"TypeOrThingModel", "meant", "(I)I"⟩ : Cond) ∈ jn_T := jn_of (List.mem_of_getElem? (i := 1059) (by decide +kernel)) (by decide +kernel)
theorem jw_106 : (Cond.fieldLink "TypeOrThing$Names" 47 "TypeOrThing$Names" "openScopes" "[I" : Cond) ∈ jn_T := jn_of (List.mem_of_getElem? (i := 106) (by decide +kernel)) (by decide +kernel)
theorem jw_1061 : (Cond.instanceMethod ⟨"TypeOrThingModel", "meant", "(I)I"⟩ : Cond) ∈ jn_T := jn_of (List.mem_of_getElem? (i := 1061) (by decide +kernel)) (by decide +kernel)
theorem jw_1062 : (Cond.code ⟨"TypeOrThingModel", "meant", "(I)I"⟩ prog_10_method_19_code 6 (some .int) : Cond) ∈ jn_T := jn_of (List.mem_of_getElem? (i := 1062) (by decide +kernel)) (by decide +kernel)
theorem jw_1063 : (Cond.methodLink "TypeOrThingModel" 139 ⟨"TypeOrThingModel", "breakHere", "()V"⟩ : Cond) ∈ jn_T := jn_of (List.mem_of_getElem? (i := 1063) (by decide +kernel)) (by decide +kernel)
theorem jw_1065 : (Cond.instanceMethod ⟨"TypeOrThingModel", "breakHere", "()V"⟩ : Cond) ∈ jn_T := jn_of (List.mem_of_getElem? (i := 1065) (by decide +kernel)) (by decide +kernel)
theorem jw_1066 : (Cond.code ⟨"TypeOrThingModel", "breakHere", "()V"⟩ prog_10_method_14_code 1 none : Cond) ∈ jn_T := jn_of (List.mem_of_getElem? (i := 1066) (by decide +kernel)) (by decide +kernel)
theorem jw_1067 : (Cond.methodLink "TypeOrThingModel" 263 ⟨"TypeOrThingModel", "declaration", "(I)V"⟩ : Cond) ∈ jn_T := jn_of (List.mem_of_getElem? (i := 1067) (by decide +kernel)) (by decide +kernel)
theorem jw_1069 : (Cond.instanceMethod ⟨"TypeOrThingModel", "declaration", "(I)V"⟩ : Cond) ∈ jn_T := jn_of (List.mem_of_getElem? (i := 1069) (by decide +kernel)) (by decide +kernel)
theorem jw_107 : (Cond.fieldLink "TypeOrThing$Names" 50 "TypeOrThing$Names" "depth" "I" : Cond) ∈ jn_T := jn_of (List.mem_of_getElem? (i := 107) (by decide +kernel)) (by decide +kernel)
theorem jw_1070 : (Cond.code ⟨"TypeOrThingModel", "declaration", "(I)V"⟩ prog_10_method_34_code 4 none : Cond) ∈ jn_T := jn_of (List.mem_of_getElem? (i := 1070) (by decide +kernel)) (by decide +kernel)
theorem jw_1071 : (Cond.methodLink "TypeOrThingModel" 189 ⟨"TypeOrThingModel", "takeBase", "()I"⟩ : Cond) ∈ jn_T := jn_of (List.mem_of_getElem? (i := 1071) (by decide +kernel)) (by decide +kernel)
theorem jw_1073 : (Cond.instanceMethod ⟨"TypeOrThingModel", "takeBase", "()I"⟩ : Cond) ∈ jn_T := jn_of (List.mem_of_getElem? (i := 1073) (by decide +kernel)) (by decide +kernel)
theorem jw_1074 : (Cond.code ⟨"TypeOrThingModel", "takeBase", "()I"⟩ prog_10_method_23_code 3 (some .int) : Cond) ∈ jn_T := jn_of (List.mem_of_getElem? (i := 1074) (by decide +kernel)) (by decide +kernel)
theorem jw_1075 : (Cond.methodLink "TypeOrThingModel" 193 ⟨"TypeOrThingModel", "beginDeclarator", "(I)V"⟩ : Cond) ∈ jn_T := jn_of (List.mem_of_getElem? (i := 1075) (by decide +kernel)) (by decide +kernel)
theorem jw_1077 : (Cond.instanceMethod ⟨"TypeOrThingModel", "beginDeclarator", "(I)V"⟩ : Cond) ∈ jn_T := jn_of (List.mem_of_getElem? (i := 1077) (by decide +kernel)) (by decide +kernel)
theorem jw_1078 : (Cond.code ⟨"TypeOrThingModel", "beginDeclarator", "(I)V"⟩ prog_10_method_35_code 2 none : Cond) ∈ jn_T := jn_of (List.mem_of_getElem? (i := 1078) (by decide +kernel)) (by decide +kernel)
theorem jw_1079 : (Cond.methodLink "TypeOrThingModel" 266 ⟨"TypeOrThingModel", "finish", "(I)V"⟩ : Cond) ∈ jn_T := jn_of (List.mem_of_getElem? (i := 1079) (by decide +kernel)) (by decide +kernel)
theorem jw_108 : (Cond.fieldLink "TypeOrThing$Names" 53 "TypeOrThing$Names" "scopesMade" "I" : Cond) ∈ jn_T := jn_of (List.mem_of_getElem? (i := 108) (by decide +kernel)) (by decide +kernel)
theorem jw_1081 : (Cond.instanceMethod ⟨"TypeOrThingModel", "finish", "(I)V"⟩ : Cond) ∈ jn_T := jn_of (List.mem_of_getElem? (i := 1081) (by decide +kernel)) (by decide +kernel)
theorem jw_1082 : (Cond.code ⟨"TypeOrThingModel", "finish", "(I)V"⟩ prog_10_method_36_code 3 none : Cond) ∈ jn_T := jn_of (List.mem_of_getElem? (i := 1082) (by decide +kernel)) (by decide +kernel)
theorem jw_1083 : (Cond.methodLink "TypeOrThingModel" 203 ⟨"TypeOrThingModel", "markBase", "(I)V"⟩ : Cond) ∈ jn_T := jn_of (List.mem_of_getElem? (i := 1083) (by decide +kernel)) (by decide +kernel)
theorem jw_1085 : (Cond.instanceMethod ⟨"TypeOrThingModel", "markBase", "(I)V"⟩ : Cond) ∈ jn_T := jn_of (List.mem_of_getElem? (i := 1085) (by decide +kernel)) (by decide +kernel)
theorem jw_1086 : (Cond.code ⟨"TypeOrThingModel", "markBase", "(I)V"⟩ prog_10_method_27_code 4 none : Cond) ∈ jn_T := jn_of (List.mem_of_getElem? (i := 1086) (by decide +kernel)) (by decide +kernel)
theorem jw_1087 : (Cond.methodLink "TypeOrThingModel" 167 ⟨"TypeOrThingModel", "mark", "(I)V"⟩ : Cond) ∈ jn_T := jn_of (List.mem_of_getElem? (i := 1087) (by decide +kernel)) (by decide +kernel)
theorem jw_1089 : (Cond.instanceMethod ⟨"TypeOrThingModel", "mark", "(I)V"⟩ : Cond) ∈ jn_T := jn_of (List.mem_of_getElem? (i := 1089) (by decide +kernel)) (by decide +kernel)
theorem jw_1090 : (Cond.code ⟨"TypeOrThingModel", "mark", "(I)V"⟩ prog_10_method_26_code 2 none : Cond) ∈ jn_T := jn_of (List.mem_of_getElem? (i := 1090) (by decide +kernel)) (by decide +kernel)
theorem jw_1091 : (Cond.methodLink "TypeOrThingModel" 206 ⟨"TypeOrThingModel", "declare", "(Z)V"⟩ : Cond) ∈ jn_T := jn_of (List.mem_of_getElem? (i := 1091) (by decide +kernel)) (by decide +kernel)
theorem jw_1093 : (Cond.instanceMethod ⟨"TypeOrThingModel", "declare", "(Z)V"⟩ : Cond) ∈ jn_T := jn_of (List.mem_of_getElem? (i := 1093) (by decide +kernel)) (by decide +kernel)
theorem jw_1094 : (Cond.code ⟨"TypeOrThingModel", "declare", "(Z)V"⟩ prog_10_method_33_code 3 none : Cond) ∈ jn_T := jn_of (List.mem_of_getElem? (i := 1094) (by decide +kernel)) (by decide +kernel)
theorem jw_1095 : (Cond.methodLink "TypeOrThingModel" 177 ⟨"TypeOrThingModel", "say", "(I)V"⟩ : Cond) ∈ jn_T := jn_of (List.mem_of_getElem? (i := 1095) (by decide +kernel)) (by decide +kernel)
theorem jw_1097 : (Cond.instanceMethod ⟨"TypeOrThingModel", "say", "(I)V"⟩ : Cond) ∈ jn_T := jn_of (List.mem_of_getElem? (i := 1097) (by decide +kernel)) (by decide +kernel)
theorem jw_1098 : (Cond.code ⟨"TypeOrThingModel", "say", "(I)V"⟩ prog_10_method_28_code 2 none : Cond) ∈ jn_T := jn_of (List.mem_of_getElem? (i := 1098) (by decide +kernel)) (by decide +kernel)
theorem jw_1099 : (Cond.methodLink "TypeOrThingModel" 210 ⟨"TypeOrThingModel", "sayToken", "(I)V"⟩ : Cond) ∈ jn_T := jn_of (List.mem_of_getElem? (i := 1099) (by decide +kernel)) (by decide +kernel)
theorem jw_11 : (Cond.initialized "java/lang/StringLatin1" : Cond) ∈ jn_T := jn_of (List.mem_of_getElem? (i := 11) (by decide +kernel)) (by decide +kernel)
theorem jw_1101 : (Cond.instanceMethod ⟨"TypeOrThingModel", "sayToken", "(I)V"⟩ : Cond) ∈ jn_T := jn_of (List.mem_of_getElem? (i := 1101) (by decide +kernel)) (by decide +kernel)
theorem jw_1102 : (Cond.code ⟨"TypeOrThingModel", "sayToken", "(I)V"⟩ prog_10_method_31_code 3 none : Cond) ∈ jn_T := jn_of (List.mem_of_getElem? (i := 1102) (by decide +kernel)) (by decide +kernel)
theorem jw_1103 : (Cond.methodLink "TypeOrThingModel" 213 ⟨"TypeOrThingModel", "sayType", "()V"⟩ : Cond) ∈ jn_T := jn_of (List.mem_of_getElem? (i := 1103) (by decide +kernel)) (by decide +kernel)
theorem jw_1105 : (Cond.instanceMethod ⟨"TypeOrThingModel", "sayType", "()V"⟩ : Cond) ∈ jn_T := jn_of (List.mem_of_getElem? (i := 1105) (by decide +kernel)) (by decide +kernel)
theorem jw_1106 : (Cond.code ⟨"TypeOrThingModel", "sayType", "()V"⟩ prog_10_method_32_code 2 none : Cond) ∈ jn_T := jn_of (List.mem_of_getElem? (i := 1106) (by decide +kernel)) (by decide +kernel)
theorem jw_1107 : (Cond.methodLink "TypeOrThingModel" 269 ⟨"TypeOrThingModel", "next", "(I)V"⟩ : Cond) ∈ jn_T := jn_of (List.mem_of_getElem? (i := 1107) (by decide +kernel)) (by decide +kernel)
theorem jw_1109 : (Cond.instanceMethod ⟨"TypeOrThingModel", "next", "(I)V"⟩ : Cond) ∈ jn_T := jn_of (List.mem_of_getElem? (i := 1109) (by decide +kernel)) (by decide +kernel)
theorem jw_1110 : (Cond.code ⟨"TypeOrThingModel", "next", "(I)V"⟩ prog_10_method_37_code 2 none : Cond) ∈ jn_T := jn_of (List.mem_of_getElem? (i := 1110) (by decide +kernel)) (by decide +kernel)
theorem jw_1111 : (Cond.methodLink "TypeOrThingModel" 216 ⟨"TypeOrThingModel", "pass", "(IZ)V"⟩ : Cond) ∈ jn_T := jn_of (List.mem_of_getElem? (i := 1111) (by decide +kernel)) (by decide +kernel)
theorem jw_1113 : (Cond.instanceMethod ⟨"TypeOrThingModel", "pass", "(IZ)V"⟩ : Cond) ∈ jn_T := jn_of (List.mem_of_getElem? (i := 1113) (by decide +kernel)) (by decide +kernel)
theorem jw_1114 : (Cond.code ⟨"TypeOrThingModel", "pass", "(IZ)V"⟩ prog_10_method_18_code 3 none : Cond) ∈ jn_T := jn_of (List.mem_of_getElem? (i := 1114) (by decide +kernel)) (by decide +kernel)
theorem jw_1115 : (Cond.methodLink "TypeOrThingModel" 272 ⟨"TypeOrThingModel", "declarator", "(I)V"⟩ : Cond) ∈ jn_T := jn_of (List.mem_of_getElem? (i := 1115) (by decide +kernel)) (by decide +kernel)
theorem jw_1117 : (Cond.instanceMethod ⟨"TypeOrThingModel", "declarator", "(I)V"⟩ : Cond) ∈ jn_T := jn_of (List.mem_of_getElem? (i := 1117) (by decide +kernel)) (by decide +kernel)
theorem jw_1118 : (Cond.code ⟨"TypeOrThingModel", "declarator", "(I)V"⟩ prog_10_method_39_code 3 none : Cond) ∈ jn_T := jn_of (List.mem_of_getElem? (i := 1118) (by decide +kernel)) (by decide +kernel)
theorem jw_1119 : (Cond.methodLink "TypeOrThingModel" 223 ⟨"TypeOrThingModel", "canDeclare", "(I)Z"⟩ : Cond) ∈ jn_T := jn_of (List.mem_of_getElem? (i := 1119) (by decide +kernel)) (by decide +kernel)
theorem jw_1121 : (Cond.instanceMethod ⟨"TypeOrThingModel", "canDeclare", "(I)Z"⟩ : Cond) ∈ jn_T := jn_of (List.mem_of_getElem? (i := 1121) (by decide +kernel)) (by decide +kernel)
theorem jw_1122 : (Cond.code ⟨"TypeOrThingModel", "canDeclare", "(I)Z"⟩ prog_10_method_22_code 3 (some .boolean) : Cond) ∈ jn_T := jn_of (List.mem_of_getElem? (i := 1122) (by decide +kernel)) (by decide +kernel)
theorem jw_1123 : (Cond.methodLink "TypeOrThingModel" 226 ⟨"TypeOrThingModel", "isGroup", "(I)Z"⟩ : Cond) ∈ jn_T := jn_of (List.mem_of_getElem? (i := 1123) (by decide +kernel)) (by decide +kernel)
theorem jw_1125 : (Cond.instanceMethod ⟨"TypeOrThingModel", "isGroup", "(I)Z"⟩ : Cond) ∈ jn_T := jn_of (List.mem_of_getElem? (i := 1125) (by decide +kernel)) (by decide +kernel)
theorem jw_1126 : (Cond.code ⟨"TypeOrThingModel", "isGroup", "(I)Z"⟩ prog_10_method_38_code 3 (some .boolean) : Cond) ∈ jn_T := jn_of (List.mem_of_getElem? (i := 1126) (by decide +kernel)) (by decide +kernel)
theorem jw_1127 : (Cond.methodLink "TypeOrThingModel" 220 ⟨"TypeOrThingModel", "behind", "()I"⟩ : Cond) ∈ jn_T := jn_of (List.mem_of_getElem? (i := 1127) (by decide +kernel)) (by decide +kernel)
theorem jw_1129 : (Cond.instanceMethod ⟨"TypeOrThingModel", "behind", "()I"⟩ : Cond) ∈ jn_T := jn_of (List.mem_of_getElem? (i := 1129) (by decide +kernel)) (by decide +kernel)
theorem jw_1130 : (Cond.code ⟨"TypeOrThingModel", "behind", "()I"⟩ prog_10_method_16_code 1 (some .int) : Cond) ∈ jn_T := jn_of (List.mem_of_getElem? (i := 1130) (by decide +kernel)) (by decide +kernel)
theorem jw_1131 : (Cond.methodLink "TypeOrThingModel" 229 ⟨"TypeOrThingModel", "enter", "()V"⟩ : Cond) ∈ jn_T := jn_of (List.mem_of_getElem? (i := 1131) (by decide +kernel)) (by decide +kernel)
theorem jw_1133 : (Cond.instanceMethod ⟨"TypeOrThingModel", "enter", "()V"⟩ : Cond) ∈ jn_T := jn_of (List.mem_of_getElem? (i := 1133) (by decide +kernel)) (by decide +kernel)
theorem jw_1134 : (Cond.code ⟨"TypeOrThingModel", "enter", "()V"⟩ prog_10_method_17_code 1 none : Cond) ∈ jn_T := jn_of (List.mem_of_getElem? (i := 1134) (by decide +kernel)) (by decide +kernel)
theorem jw_1135 : (Cond.methodLink "TypeOrThingModel" 275 ⟨"TypeOrThingModel", "suffixes", "()V"⟩ : Cond) ∈ jn_T := jn_of (List.mem_of_getElem? (i := 1135) (by decide +kernel)) (by decide +kernel)
theorem jw_1137 : (Cond.instanceMethod ⟨"TypeOrThingModel", "suffixes", "()V"⟩ : Cond) ∈ jn_T := jn_of (List.mem_of_getElem? (i := 1137) (by decide +kernel)) (by decide +kernel)
theorem jw_1138 : (Cond.code ⟨"TypeOrThingModel", "suffixes", "()V"⟩ prog_10_method_40_code 2 none : Cond) ∈ jn_T := jn_of (List.mem_of_getElem? (i := 1138) (by decide +kernel)) (by decide +kernel)
theorem jw_1139 : (Cond.methodLink "TypeOrThingModel" 232 ⟨"TypeOrThingModel", "parameters", "()V"⟩ : Cond) ∈ jn_T := jn_of (List.mem_of_getElem? (i := 1139) (by decide +kernel)) (by decide +kernel)
theorem jw_1141 : (Cond.instanceMethod ⟨"TypeOrThingModel", "parameters", "()V"⟩ : Cond) ∈ jn_T := jn_of (List.mem_of_getElem? (i := 1141) (by decide +kernel)) (by decide +kernel)
theorem jw_1142 : (Cond.code ⟨"TypeOrThingModel", "parameters", "()V"⟩ prog_10_method_41_code 2 none : Cond) ∈ jn_T := jn_of (List.mem_of_getElem? (i := 1142) (by decide +kernel)) (by decide +kernel)
theorem jw_1143 : (Cond.methodLink "TypeOrThingModel" 235 ⟨"TypeOrThingModel", "newScope", "()I"⟩ : Cond) ∈ jn_T := jn_of (List.mem_of_getElem? (i := 1143) (by decide +kernel)) (by decide +kernel)
theorem jw_1145 : (Cond.instanceMethod ⟨"TypeOrThingModel", "newScope", "()I"⟩ : Cond) ∈ jn_T := jn_of (List.mem_of_getElem? (i := 1145) (by decide +kernel)) (by decide +kernel)
theorem jw_1146 : (Cond.code ⟨"TypeOrThingModel", "newScope", "()I"⟩ prog_10_method_25_code 1 (some .int) : Cond) ∈ jn_T := jn_of (List.mem_of_getElem? (i := 1146) (by decide +kernel)) (by decide +kernel)
theorem jw_1147 : (Cond.methodLink "TypeOrThingModel" 238 ⟨"TypeOrThingModel", "openScope", "(I)V"⟩ : Cond) ∈ jn_T := jn_of (List.mem_of_getElem? (i := 1147) (by decide +kernel)) (by decide +kernel)
theorem jw_1149 : (Cond.instanceMethod ⟨"TypeOrThingModel", "openScope", "(I)V"⟩ : Cond) ∈ jn_T := jn_of (List.mem_of_getElem? (i := 1149) (by decide +kernel)) (by decide +kernel)
theorem jw_1150 : (Cond.code ⟨"TypeOrThingModel", "openScope", "(I)V"⟩ prog_10_method_24_code 2 none : Cond) ∈ jn_T := jn_of (List.mem_of_getElem? (i := 1150) (by decide +kernel)) (by decide +kernel)
theorem jw_1151 : (Cond.methodLink "TypeOrThingModel" 278 ⟨"TypeOrThingModel", "stars", "(I)V"⟩ : Cond) ∈ jn_T := jn_of (List.mem_of_getElem? (i := 1151) (by decide +kernel)) (by decide +kernel)
theorem jw_1153 : (Cond.instanceMethod ⟨"TypeOrThingModel", "stars", "(I)V"⟩ : Cond) ∈ jn_T := jn_of (List.mem_of_getElem? (i := 1153) (by decide +kernel)) (by decide +kernel)
theorem jw_1154 : (Cond.code ⟨"TypeOrThingModel", "stars", "(I)V"⟩ prog_10_method_64_code 3 none : Cond) ∈ jn_T := jn_of (List.mem_of_getElem? (i := 1154) (by decide +kernel)) (by decide +kernel)
theorem jw_1155 : (Cond.methodLink "TypeOrThingModel" 281 ⟨"TypeOrThingModel", "parameter", "()V"⟩ : Cond) ∈ jn_T := jn_of (List.mem_of_getElem? (i := 1155) (by decide +kernel)) (by decide +kernel)
theorem jw_1157 : (Cond.instanceMethod ⟨"TypeOrThingModel", "parameter", "()V"⟩ : Cond) ∈ jn_T := jn_of (List.mem_of_getElem? (i := 1157) (by decide +kernel)) (by decide +kernel)
theorem jw_1158 : (Cond.code ⟨"TypeOrThingModel", "parameter", "()V"⟩ prog_10_method_42_code 2 none : Cond) ∈ jn_T := jn_of (List.mem_of_getElem? (i := 1158) (by decide +kernel)) (by decide +kernel)
theorem jw_1159 : (Cond.methodLink "TypeOrThingModel" 284 ⟨"TypeOrThingModel", "parameterEnd", "(I)V"⟩ : Cond) ∈ jn_T := jn_of (List.mem_of_getElem? (i := 1159) (by decide +kernel)) (by decide +kernel)
theorem jw_1161 : (Cond.instanceMethod ⟨"TypeOrThingModel", "parameterEnd", "(I)V"⟩ : Cond) ∈ jn_T := jn_of (List.mem_of_getElem? (i := 1161) (by decide +kernel)) (by decide +kernel)
theorem jw_1162 : (Cond.code ⟨"TypeOrThingModel", "parameterEnd", "(I)V"⟩ prog_10_method_43_code 2 none : Cond) ∈ jn_T := jn_of (List.mem_of_getElem? (i := 1162) (by decide +kernel)) (by decide +kernel)
theorem jw_1163 : (Cond.methodLink "TypeOrThingModel" 287 ⟨"TypeOrThingModel", "parametersMore", "()V"⟩ : Cond) ∈ jn_T := jn_of (List.mem_of_getElem? (i := 1163) (by decide +kernel)) (by decide +kernel)
theorem jw_1165 : (Cond.instanceMethod ⟨"TypeOrThingModel", "parametersMore", "()V"⟩ : Cond) ∈ jn_T := jn_of (List.mem_of_getElem? (i := 1165) (by decide +kernel)) (by decide +kernel)
theorem jw_1166 : (Cond.code ⟨"TypeOrThingModel", "parametersMore", "()V"⟩ prog_10_method_44_code 1 none : Cond) ∈ jn_T := jn_of (List.mem_of_getElem? (i := 1166) (by decide +kernel)) (by decide +kernel)
theorem jw_1167 : (Cond.methodLink "TypeOrThingModel" 290 ⟨"TypeOrThingModel", "parametersEnd", "()V"⟩ : Cond) ∈ jn_T := jn_of (List.mem_of_getElem? (i := 1167) (by decide +kernel)) (by decide +kernel)
theorem jw_1169 : (Cond.instanceMethod ⟨"TypeOrThingModel", "parametersEnd", "()V"⟩ : Cond) ∈ jn_T := jn_of (List.mem_of_getElem? (i := 1169) (by decide +kernel)) (by decide +kernel)
theorem jw_1170 : (Cond.code ⟨"TypeOrThingModel", "parametersEnd", "()V"⟩ prog_10_method_45_code 1 none : Cond) ∈ jn_T := jn_of (List.mem_of_getElem? (i := 1170) (by decide +kernel)) (by decide +kernel)
theorem jw_1171 : (Cond.methodLink "TypeOrThingModel" 348 ⟨"TypeOrThingModel", "doStating", "(II)V"⟩ : Cond) ∈ jn_T := jn_of (List.mem_of_getElem? (i := 1171) (by decide +kernel)) (by decide +kernel)
theorem jw_1173 : (Cond.instanceMethod ⟨"TypeOrThingModel", "doStating", "(II)V"⟩ : Cond) ∈ jn_T := jn_of (List.mem_of_getElem? (i := 1173) (by decide +kernel)) (by decide +kernel)
theorem jw_1174 : (Cond.code ⟨"TypeOrThingModel", "doStating", "(II)V"⟩ prog_10_method_66_code 3 none : Cond) ∈ jn_T := jn_of (List.mem_of_getElem? (i := 1174) (by decide +kernel)) (by decide +kernel)
theorem jw_1175 : (Cond.methodLink "TypeOrThingModel" 293 ⟨"TypeOrThingModel", "block", "(I)V"⟩ : Cond) ∈ jn_T := jn_of (List.mem_of_getElem? (i := 1175) (by decide +kernel)) (by decide +kernel)
theorem jw_1177 : (Cond.instanceMethod ⟨"TypeOrThingModel", "block", "(I)V"⟩ : Cond) ∈ jn_T := jn_of (List.mem_of_getElem? (i := 1177) (by decide +kernel)) (by decide +kernel)
theorem jw_1178 : (Cond.code ⟨"TypeOrThingModel", "block", "(I)V"⟩ prog_10_method_46_code 2 none : Cond) ∈ jn_T := jn_of (List.mem_of_getElem? (i := 1178) (by decide +kernel)) (by decide +kernel)
theorem jw_1179 : (Cond.methodLink "TypeOrThingModel" 296 ⟨"TypeOrThingModel", "items", "()V"⟩ : Cond) ∈ jn_T := jn_of (List.mem_of_getElem? (i := 1179) (by decide +kernel)) (by decide +kernel)
theorem jw_1181 : (Cond.instanceMethod ⟨"TypeOrThingModel", "items", "()V"⟩ : Cond) ∈ jn_T := jn_of (List.mem_of_getElem? (i := 1181) (by decide +kernel)) (by decide +kernel)
theorem jw_1182 : (Cond.code ⟨"TypeOrThingModel", "items", "()V"⟩ prog_10_method_47_code 1 none : Cond) ∈ jn_T := jn_of (List.mem_of_getElem? (i := 1182) (by decide +kernel)) (by decide +kernel)
theorem jw_1183 : (Cond.methodLink "TypeOrThingModel" 299 ⟨"TypeOrThingModel", "statement", "()V"⟩ : Cond) ∈ jn_T := jn_of (List.mem_of_getElem? (i := 1183) (by decide +kernel)) (by decide +kernel)
theorem jw_1185 : (Cond.instanceMethod ⟨"TypeOrThingModel", "statement", "()V"⟩ : Cond) ∈ jn_T := jn_of (List.mem_of_getElem? (i := 1185) (by decide +kernel)) (by decide +kernel)
theorem jw_1186 : (Cond.code ⟨"TypeOrThingModel", "statement", "()V"⟩ prog_10_method_49_code 1 none : Cond) ∈ jn_T := jn_of (List.mem_of_getElem? (i := 1186) (by decide +kernel)) (by decide +kernel)
theorem jw_1187 : (Cond.methodLink "TypeOrThingModel" 241 ⟨"TypeOrThingModel", "conditional", "(II)V"⟩ : Cond) ∈ jn_T := jn_of (List.mem_of_getElem? (i := 1187) (by decide +kernel)) (by decide +kernel)
theorem jw_1189 : (Cond.instanceMethod ⟨"TypeOrThingModel", "conditional", "(II)V"⟩ : Cond) ∈ jn_T := jn_of (List.mem_of_getElem? (i := 1189) (by decide +kernel)) (by decide +kernel)
theorem jw_1190 : (Cond.code ⟨"TypeOrThingModel", "conditional", "(II)V"⟩ prog_10_method_48_code 3 none : Cond) ∈ jn_T := jn_of (List.mem_of_getElem? (i := 1190) (by decide +kernel)) (by decide +kernel)
theorem jw_1191 : (Cond.methodLink "TypeOrThingModel" 302 ⟨"TypeOrThingModel", "ifEnd", "()V"⟩ : Cond) ∈ jn_T := jn_of (List.mem_of_getElem? (i := 1191) (by decide +kernel)) (by decide +kernel)
theorem jw_1193 : (Cond.instanceMethod ⟨"TypeOrThingModel", "ifEnd", "()V"⟩ : Cond) ∈ jn_T := jn_of (List.mem_of_getElem? (i := 1193) (by decide +kernel)) (by decide +kernel)
theorem jw_1194 : (Cond.code ⟨"TypeOrThingModel", "ifEnd", "()V"⟩ prog_10_method_50_code 1 none : Cond) ∈ jn_T := jn_of (List.mem_of_getElem? (i := 1194) (by decide +kernel)) (by decide +kernel)
theorem jw_1195 : (Cond.methodLink "TypeOrThingModel" 351 ⟨"TypeOrThingModel", "doExpressing", "(II)V"⟩ : Cond) ∈ jn_T := jn_of (List.mem_of_getElem? (i := 1195) (by decide +kernel)) (by decide +kernel)
theorem jw_1197 : (Cond.instanceMethod ⟨"TypeOrThingModel", "doExpressing", "(II)V"⟩ : Cond) ∈ jn_T := jn_of (List.mem_of_getElem? (i := 1197) (by decide +kernel)) (by decide +kernel)
theorem jw_1198 : (Cond.code ⟨"TypeOrThingModel", "doExpressing", "(II)V"⟩ prog_10_method_67_code 3 none : Cond) ∈ jn_T := jn_of (List.mem_of_getElem? (i := 1198) (by decide +kernel)) (by decide +kernel)
theorem jw_1199 : (Cond.methodLink "TypeOrThingModel" 305 ⟨"TypeOrThingModel", "expressionMore", "()V"⟩ : Cond) ∈ jn_T := jn_of (List.mem_of_getElem? (i := 1199) (by decide +kernel)) (by decide +kernel)
theorem jw_12 : (Cond.initialized "java/lang/Math" : Cond) ∈ jn_T := jn_of (List.mem_of_getElem? (i := 12) (by decide +kernel)) (by decide +kernel)
theorem jw_1201 : (Cond.instanceMethod ⟨"TypeOrThingModel", "expressionMore", "()V"⟩ : Cond) ∈ jn_T := jn_of (List.mem_of_getElem? (i := 1201) (by decide +kernel)) (by decide +kernel)
theorem jw_1202 : (Cond.code ⟨"TypeOrThingModel", "expressionMore", "()V"⟩ prog_10_method_51_code 1 none : Cond) ∈ jn_T := jn_of (List.mem_of_getElem? (i := 1202) (by decide +kernel)) (by decide +kernel)
theorem jw_1203 : (Cond.methodLink "TypeOrThingModel" 308 ⟨"TypeOrThingModel", "more", "(IIII)V"⟩ : Cond) ∈ jn_T := jn_of (List.mem_of_getElem? (i := 1203) (by decide +kernel)) (by decide +kernel)
theorem jw_1205 : (Cond.instanceMethod ⟨"TypeOrThingModel", "more", "(IIII)V"⟩ : Cond) ∈ jn_T := jn_of (List.mem_of_getElem? (i := 1205) (by decide +kernel)) (by decide +kernel)
theorem jw_1206 : (Cond.code ⟨"TypeOrThingModel", "more", "(IIII)V"⟩ prog_10_method_52_code 5 none : Cond) ∈ jn_T := jn_of (List.mem_of_getElem? (i := 1206) (by decide +kernel)) (by decide +kernel)
theorem jw_1207 : (Cond.methodLink "TypeOrThingModel" 312 ⟨"TypeOrThingModel", "cast", "()V"⟩ : Cond) ∈ jn_T := jn_of (List.mem_of_getElem? (i := 1207) (by decide +kernel)) (by decide +kernel)
theorem jw_1209 : (Cond.instanceMethod ⟨"TypeOrThingModel", "cast", "()V"⟩ : Cond) ∈ jn_T := jn_of (List.mem_of_getElem? (i := 1209) (by decide +kernel)) (by decide +kernel)
theorem jw_1210 : (Cond.code ⟨"TypeOrThingModel", "cast", "()V"⟩ prog_10_method_55_code 1 none : Cond) ∈ jn_T := jn_of (List.mem_of_getElem? (i := 1210) (by decide +kernel)) (by decide +kernel)
theorem jw_1211 : (Cond.methodLink "TypeOrThingModel" 247 ⟨"TypeOrThingModel", "isTypeName", "()Z"⟩ : Cond) ∈ jn_T := jn_of (List.mem_of_getElem? (i := 1211) (by decide +kernel)) (by decide +kernel)
theorem jw_1213 : (Cond.instanceMethod ⟨"TypeOrThingModel", "isTypeName", "()Z"⟩ : Cond) ∈ jn_T := jn_of (List.mem_of_getElem? (i := 1213) (by decide +kernel)) (by decide +kernel)
theorem jw_1214 : (Cond.code ⟨"TypeOrThingModel", "isTypeName", "()Z"⟩ prog_10_method_53_code 1 (some .boolean) : Cond) ∈ jn_T := jn_of (List.mem_of_getElem? (i := 1214) (by decide +kernel)) (by decide +kernel)
theorem jw_1215 : (Cond.methodLink "TypeOrThingModel" 251 ⟨"TypeOrThingModel", "typeName", "(I)V"⟩ : Cond) ∈ jn_T := jn_of (List.mem_of_getElem? (i := 1215) (by decide +kernel)) (by decide +kernel)
theorem jw_1217 : (Cond.instanceMethod ⟨"TypeOrThingModel", "typeName", "(I)V"⟩ : Cond) ∈ jn_T := jn_of (List.mem_of_getElem? (i := 1217) (by decide +kernel)) (by decide +kernel)
theorem jw_1218 : (Cond.code ⟨"TypeOrThingModel", "typeName", "(I)V"⟩ prog_10_method_54_code 3 none : Cond) ∈ jn_T := jn_of (List.mem_of_getElem? (i := 1218) (by decide +kernel)) (by decide +kernel)
theorem jw_1219 : (Cond.methodLink "TypeOrThingModel" 315 ⟨"TypeOrThingModel", "castType", "(I)V"⟩ : Cond) ∈ jn_T := jn_of (List.mem_of_getElem? (i := 1219) (by decide +kernel)) (by decide +kernel)
theorem jw_1221 : (Cond.instanceMethod ⟨"TypeOrThingModel", "castType", "(I)V"⟩ : Cond) ∈ jn_T := jn_of (List.mem_of_getElem? (i := 1221) (by decide +kernel)) (by decide +kernel)
theorem jw_1222 : (Cond.code ⟨"TypeOrThingModel", "castType", "(I)V"⟩ prog_10_method_56_code 3 none : Cond) ∈ jn_T := jn_of (List.mem_of_getElem? (i := 1222) (by decide +kernel)) (by decide +kernel)
theorem jw_1223 : (Cond.methodLink "TypeOrThingModel" 318 ⟨"TypeOrThingModel", "castEnd", "()V"⟩ : Cond) ∈ jn_T := jn_of (List.mem_of_getElem? (i := 1223) (by decide +kernel)) (by decide +kernel)
theorem jw_1225 : (Cond.instanceMethod ⟨"TypeOrThingModel", "castEnd", "()V"⟩ : Cond) ∈ jn_T := jn_of (List.mem_of_getElem? (i := 1225) (by decide +kernel)) (by decide +kernel)
theorem jw_1226 : (Cond.code ⟨"TypeOrThingModel", "castEnd", "()V"⟩ prog_10_method_57_code 3 none : Cond) ∈ jn_T := jn_of (List.mem_of_getElem? (i := 1226) (by decide +kernel)) (by decide +kernel)
theorem jw_1227 : (Cond.methodLink "TypeOrThingModel" 321 ⟨"TypeOrThingModel", "unary", "()V"⟩ : Cond) ∈ jn_T := jn_of (List.mem_of_getElem? (i := 1227) (by decide +kernel)) (by decide +kernel)
theorem jw_1229 : (Cond.instanceMethod ⟨"TypeOrThingModel", "unary", "()V"⟩ : Cond) ∈ jn_T := jn_of (List.mem_of_getElem? (i := 1229) (by decide +kernel)) (by decide +kernel)
theorem jw_1230 : (Cond.code ⟨"TypeOrThingModel", "unary", "()V"⟩ prog_10_method_59_code 1 none : Cond) ∈ jn_T := jn_of (List.mem_of_getElem? (i := 1230) (by decide +kernel)) (by decide +kernel)
theorem jw_1231 : (Cond.methodLink "TypeOrThingModel" 324 ⟨"TypeOrThingModel", "sizeType", "(I)V"⟩ : Cond) ∈ jn_T := jn_of (List.mem_of_getElem? (i := 1231) (by decide +kernel)) (by decide +kernel)
theorem jw_1233 : (Cond.instanceMethod ⟨"TypeOrThingModel", "sizeType", "(I)V"⟩ : Cond) ∈ jn_T := jn_of (List.mem_of_getElem? (i := 1233) (by decide +kernel)) (by decide +kernel)
theorem jw_1234 : (Cond.code ⟨"TypeOrThingModel", "sizeType", "(I)V"⟩ prog_10_method_58_code 2 none : Cond) ∈ jn_T := jn_of (List.mem_of_getElem? (i := 1234) (by decide +kernel)) (by decide +kernel)
theorem jw_1235 : (Cond.methodLink "TypeOrThingModel" 327 ⟨"TypeOrThingModel", "postfix", "()V"⟩ : Cond) ∈ jn_T := jn_of (List.mem_of_getElem? (i := 1235) (by decide +kernel)) (by decide +kernel)
theorem jw_1237 : (Cond.instanceMethod ⟨"TypeOrThingModel", "postfix", "()V"⟩ : Cond) ∈ jn_T := jn_of (List.mem_of_getElem? (i := 1237) (by decide +kernel)) (by decide +kernel)
theorem jw_1238 : (Cond.code ⟨"TypeOrThingModel", "postfix", "()V"⟩ prog_10_method_60_code 2 none : Cond) ∈ jn_T := jn_of (List.mem_of_getElem? (i := 1238) (by decide +kernel)) (by decide +kernel)
theorem jw_1239 : (Cond.methodLink "TypeOrThingModel" 330 ⟨"TypeOrThingModel", "postfixMore", "()V"⟩ : Cond) ∈ jn_T := jn_of (List.mem_of_getElem? (i := 1239) (by decide +kernel)) (by decide +kernel)
theorem jw_1241 : (Cond.instanceMethod ⟨"TypeOrThingModel", "postfixMore", "()V"⟩ : Cond) ∈ jn_T := jn_of (List.mem_of_getElem? (i := 1241) (by decide +kernel)) (by decide +kernel)
theorem jw_1242 : (Cond.code ⟨"TypeOrThingModel", "postfixMore", "()V"⟩ prog_10_method_61_code 2 none : Cond) ∈ jn_T := jn_of (List.mem_of_getElem? (i := 1242) (by decide +kernel)) (by decide +kernel)
theorem jw_1243 : (Cond.methodLink "TypeOrThingModel" 333 ⟨"TypeOrThingModel", "arguments", "(I)V"⟩ : Cond) ∈ jn_T := jn_of (List.mem_of_getElem? (i := 1243) (by decide +kernel)) (by decide +kernel)
theorem jw_1245 : (Cond.instanceMethod ⟨"TypeOrThingModel", "arguments", "(I)V"⟩ : Cond) ∈ jn_T := jn_of (List.mem_of_getElem? (i := 1245) (by decide +kernel)) (by decide +kernel)
theorem jw_1246 : (Cond.code ⟨"TypeOrThingModel", "arguments", "(I)V"⟩ prog_10_method_62_code 2 none : Cond) ∈ jn_T := jn_of (List.mem_of_getElem? (i := 1246) (by decide +kernel)) (by decide +kernel)
theorem jw_1247 : (Cond.methodLink "TypeOrThingModel" 257 ⟨"TypeOrThingModel", "sayNumber", "(I)V"⟩ : Cond) ∈ jn_T := jn_of (List.mem_of_getElem? (i := 1247) (by decide +kernel)) (by decide +kernel)
theorem jw_1249 : (Cond.instanceMethod ⟨"TypeOrThingModel", "sayNumber", "(I)V"⟩ : Cond) ∈ jn_T := jn_of (List.mem_of_getElem? (i := 1249) (by decide +kernel)) (by decide +kernel)
theorem jw_1250 : (Cond.code ⟨"TypeOrThingModel", "sayNumber", "(I)V"⟩ prog_10_method_29_code 2 none : Cond) ∈ jn_T := jn_of (List.mem_of_getElem? (i := 1250) (by decide +kernel)) (by decide +kernel)
theorem jw_1251 : (Cond.methodLink "TypeOrThingModel" 174 ⟨"TypeOrThingModel", "sayNumber2", "(I)V"⟩ : Cond) ∈ jn_T := jn_of (List.mem_of_getElem? (i := 1251) (by decide +kernel)) (by decide +kernel)
theorem jw_1253 : (Cond.instanceMethod ⟨"TypeOrThingModel", "sayNumber2", "(I)V"⟩ : Cond) ∈ jn_T := jn_of (List.mem_of_getElem? (i := 1253) (by decide +kernel)) (by decide +kernel)
theorem jw_1254 : (Cond.code ⟨"TypeOrThingModel", "sayNumber2", "(I)V"⟩ prog_10_method_30_code 2 none : Cond) ∈ jn_T := jn_of (List.mem_of_getElem? (i := 1254) (by decide +kernel)) (by decide +kernel)
theorem jw_1255 : (Cond.methodLink "TypeOrThingModel" 354 ⟨"TypeOrThingModel", "fail", "(I)I"⟩ : Cond) ∈ jn_T := jn_of (List.mem_of_getElem? (i := 1255) (by decide +kernel)) (by decide +kernel)
theorem jw_1257 : (Cond.instanceMethod ⟨"TypeOrThingModel", "fail", "(I)I"⟩ : Cond) ∈ jn_T := jn_of (List.mem_of_getElem? (i := 1257) (by decide +kernel)) (by decide +kernel)
theorem jw_1258 : (Cond.code ⟨"TypeOrThingModel", "fail", "(I)I"⟩ prog_10_method_3_code 2 (some .int) : Cond) ∈ jn_T := jn_of (List.mem_of_getElem? (i := 1258) (by decide +kernel)) (by decide +kernel)
theorem jw_1267 : (Cond.methodLink "TypeOrThingModel" 357 ⟨"TypeOrThingModel", "isToken", "(I)Z"⟩ : Cond) ∈ jn_T := jn_of (List.mem_of_getElem? (i := 1267) (by decide +kernel)) (by decide +kernel)
theorem jw_1269 : (Cond.instanceMethod ⟨"TypeOrThingModel", "isToken", "(I)Z"⟩ : Cond) ∈ jn_T := jn_of (List.mem_of_getElem? (i := 1269) (by decide +kernel)) (by decide +kernel)
theorem jw_1270 : (Cond.code ⟨"TypeOrThingModel", "isToken", "(I)Z"⟩ prog_10_method_71_code 2 (some .boolean) : Cond) ∈ jn_T := jn_of (List.mem_of_getElem? (i := 1270) (by decide +kernel)) (by decide +kernel)
theorem jw_1297 : (Cond.fieldLink "java/lang/String" 15 "java/lang/String" "coder" "B" : Cond) ∈ jn_T := jn_of (List.mem_of_getElem? (i := 1297) (by decide +kernel)) (by decide +kernel)
theorem jw_1298 : (Cond.fieldLink "java/lang/String" 9 "java/lang/String" "value" "[B" : Cond) ∈ jn_T := jn_of (List.mem_of_getElem? (i := 1298) (by decide +kernel)) (by decide +kernel)
theorem jw_14 : (Cond.initialized "jdk/internal/util/Preconditions" : Cond) ∈ jn_T := jn_of (List.mem_of_getElem? (i := 14) (by decide +kernel)) (by decide +kernel)
theorem jw_152 : (Cond.fieldLink "TypeOrThing$Cursor" 21 "TypeOrThing$Cursor" "tokens" "LTypeOrThing$Tokens;" : Cond) ∈ jn_T := jn_of (List.mem_of_getElem? (i := 152) (by decide +kernel)) (by decide +kernel)
theorem jw_153 : (Cond.fieldLink "TypeOrThing$Cursor" 9 "TypeOrThing$Cursor" "position" "I" : Cond) ∈ jn_T := jn_of (List.mem_of_getElem? (i := 153) (by decide +kernel)) (by decide +kernel)
theorem jw_154 : (Cond.fieldLink "TypeOrThing$Declarators" 30 "TypeOrThing$Cursor" "position" "I" : Cond) ∈ jn_T := jn_of (List.mem_of_getElem? (i := 154) (by decide +kernel)) (by decide +kernel)
theorem jw_155 : (Cond.fieldLink "TypeOrThing$Programs" 76 "TypeOrThing$Cursor" "position" "I" : Cond) ∈ jn_T := jn_of (List.mem_of_getElem? (i := 155) (by decide +kernel)) (by decide +kernel)
theorem jw_156 : (Cond.fieldLink "TypeOrThing$Expressions" 114 "TypeOrThing$Cursor" "position" "I" : Cond) ∈ jn_T := jn_of (List.mem_of_getElem? (i := 156) (by decide +kernel)) (by decide +kernel)
theorem jw_157 : (Cond.fieldLink "TypeOrThing$Cursor" 15 "TypeOrThing$Cursor" "kind" "I" : Cond) ∈ jn_T := jn_of (List.mem_of_getElem? (i := 157) (by decide +kernel)) (by decide +kernel)
theorem jw_158 : (Cond.fieldLink "TypeOrThing$Cursor" 18 "TypeOrThing$Cursor" "open" "I" : Cond) ∈ jn_T := jn_of (List.mem_of_getElem? (i := 158) (by decide +kernel)) (by decide +kernel)
theorem jw_174 : (Cond.fieldLink "TypeOrThing$Declarators" 9 "TypeOrThing$Declarators" "cursor" "LTypeOrThing$Cursor;" : Cond) ∈ jn_T := jn_of (List.mem_of_getElem? (i := 174) (by decide +kernel)) (by decide +kernel)
theorem jw_175 : (Cond.fieldLink "TypeOrThing$Declarators" 15 "TypeOrThing$Declarators" "tokens" "LTypeOrThing$Tokens;" : Cond) ∈ jn_T := jn_of (List.mem_of_getElem? (i := 175) (by decide +kernel)) (by decide +kernel)
theorem jw_176 : (Cond.fieldLink "TypeOrThing$Declarators" 19 "TypeOrThing$Declarators" "names" "LTypeOrThing$Names;" : Cond) ∈ jn_T := jn_of (List.mem_of_getElem? (i := 176) (by decide +kernel)) (by decide +kernel)
theorem jw_177 : (Cond.fieldLink "TypeOrThing$Declarators" 29 "TypeOrThing$Declarators" "types" "LTypeOrThing$Tape;" : Cond) ∈ jn_T := jn_of (List.mem_of_getElem? (i := 177) (by decide +kernel)) (by decide +kernel)
theorem jw_19 : (Cond.initialized "java/lang/IllegalArgumentException" : Cond) ∈ jn_T := jn_of (List.mem_of_getElem? (i := 19) (by decide +kernel)) (by decide +kernel)
theorem jw_193 : (Cond.fieldLink "TypeOrThing$Expressions" 26 "TypeOrThing$Expressions" "cursor" "LTypeOrThing$Cursor;" : Cond) ∈ jn_T := jn_of (List.mem_of_getElem? (i := 193) (by decide +kernel)) (by decide +kernel)
theorem jw_194 : (Cond.fieldLink "TypeOrThing$Expressions" 30 "TypeOrThing$Expressions" "tokens" "LTypeOrThing$Tokens;" : Cond) ∈ jn_T := jn_of (List.mem_of_getElem? (i := 194) (by decide +kernel)) (by decide +kernel)
theorem jw_195 : (Cond.fieldLink "TypeOrThing$Expressions" 34 "TypeOrThing$Expressions" "names" "LTypeOrThing$Names;" : Cond) ∈ jn_T := jn_of (List.mem_of_getElem? (i := 195) (by decide +kernel)) (by decide +kernel)
theorem jw_196 : (Cond.fieldLink "TypeOrThing$Expressions" 38 "TypeOrThing$Expressions" "declarators" "LTypeOrThing$Declarators;" : Cond) ∈ jn_T := jn_of (List.mem_of_getElem? (i := 196) (by decide +kernel)) (by decide +kernel)
theorem jw_197 : (Cond.fieldLink "TypeOrThing$Expressions" 42 "TypeOrThing$Expressions" "plainForm" "LTypeOrThing$Tape;" : Cond) ∈ jn_T := jn_of (List.mem_of_getElem? (i := 197) (by decide +kernel)) (by decide +kernel)
theorem jw_198 : (Cond.fieldLink "TypeOrThing$Expressions" 9 "TypeOrThing$Expressions" "prefixes" "[C" : Cond) ∈ jn_T := jn_of (List.mem_of_getElem? (i := 198) (by decide +kernel)) (by decide +kernel)
theorem jw_199 : (Cond.fieldLink "TypeOrThing$Expressions" 15 "TypeOrThing$Expressions" "castStarts" "[I" : Cond) ∈ jn_T := jn_of (List.mem_of_getElem? (i := 199) (by decide +kernel)) (by decide +kernel)
theorem jw_2 : (Cond.initialized "TypeOrThing$Tokens" : Cond) ∈ jn_T := jn_of (List.mem_of_getElem? (i := 2) (by decide +kernel)) (by decide +kernel)
theorem jw_20 : (Cond.initialized "java/lang/IndexOutOfBoundsException" : Cond) ∈ jn_T := jn_of (List.mem_of_getElem? (i := 20) (by decide +kernel)) (by decide +kernel)
theorem jw_200 : (Cond.fieldLink "TypeOrThing$Expressions" 19 "TypeOrThing$Expressions" "castEnds" "[I" : Cond) ∈ jn_T := jn_of (List.mem_of_getElem? (i := 200) (by decide +kernel)) (by decide +kernel)
theorem jw_201 : (Cond.fieldLink "TypeOrThing$Expressions" 22 "TypeOrThing$Expressions" "prefixCount" "I" : Cond) ∈ jn_T := jn_of (List.mem_of_getElem? (i := 201) (by decide +kernel)) (by decide +kernel)
theorem jw_221 : (Cond.fieldLink "TypeOrThing$Programs" 14 "TypeOrThing$Programs" "cursor" "LTypeOrThing$Cursor;" : Cond) ∈ jn_T := jn_of (List.mem_of_getElem? (i := 221) (by decide +kernel)) (by decide +kernel)
theorem jw_222 : (Cond.fieldLink "TypeOrThing$Programs" 20 "TypeOrThing$Programs" "tokens" "LTypeOrThing$Tokens;" : Cond) ∈ jn_T := jn_of (List.mem_of_getElem? (i := 222) (by decide +kernel)) (by decide +kernel)
theorem jw_223 : (Cond.fieldLink "TypeOrThing$Programs" 24 "TypeOrThing$Programs" "names" "LTypeOrThing$Names;" : Cond) ∈ jn_T := jn_of (List.mem_of_getElem? (i := 223) (by decide +kernel)) (by decide +kernel)
theorem jw_224 : (Cond.fieldLink "TypeOrThing$Programs" 28 "TypeOrThing$Programs" "plainForm" "LTypeOrThing$Tape;" : Cond) ∈ jn_T := jn_of (List.mem_of_getElem? (i := 224) (by decide +kernel)) (by decide +kernel)
theorem jw_225 : (Cond.fieldLink "TypeOrThing$Programs" 37 "TypeOrThing$Programs" "declarators" "LTypeOrThing$Declarators;" : Cond) ∈ jn_T := jn_of (List.mem_of_getElem? (i := 225) (by decide +kernel)) (by decide +kernel)
theorem jw_226 : (Cond.fieldLink "TypeOrThing$Programs" 46 "TypeOrThing$Programs" "expressions" "LTypeOrThing$Expressions;" : Cond) ∈ jn_T := jn_of (List.mem_of_getElem? (i := 226) (by decide +kernel)) (by decide +kernel)
theorem jw_240 : (Cond.fieldLink "TypeOrThing" 9 "TypeOrThing" "text" "[C" : Cond) ∈ jn_T := jn_of (List.mem_of_getElem? (i := 240) (by decide +kernel)) (by decide +kernel)
theorem jw_241 : (Cond.fieldLink "TypeOrThing" 13 "TypeOrThing" "size" "I" : Cond) ∈ jn_T := jn_of (List.mem_of_getElem? (i := 241) (by decide +kernel)) (by decide +kernel)
theorem jw_242 : (Cond.fieldLink "TypeOrThing" 17 "TypeOrThing" "tokensRead" "I" : Cond) ∈ jn_T := jn_of (List.mem_of_getElem? (i := 242) (by decide +kernel)) (by decide +kernel)
theorem jw_243 : (Cond.fieldLink "TypeOrThing" 20 "TypeOrThing" "refusedAt" "I" : Cond) ∈ jn_T := jn_of (List.mem_of_getElem? (i := 243) (by decide +kernel)) (by decide +kernel)
theorem jw_244 : (Cond.fieldLink "TypeOrThing" 26 "TypeOrThing" "tokens" "LTypeOrThing$Tokens;" : Cond) ∈ jn_T := jn_of (List.mem_of_getElem? (i := 244) (by decide +kernel)) (by decide +kernel)
theorem jw_245 : (Cond.fieldLink "TypeOrThing" 35 "TypeOrThing" "names" "LTypeOrThing$Names;" : Cond) ∈ jn_T := jn_of (List.mem_of_getElem? (i := 245) (by decide +kernel)) (by decide +kernel)
theorem jw_246 : (Cond.fieldLink "TypeOrThing" 42 "TypeOrThing" "plainForm" "LTypeOrThing$Tape;" : Cond) ∈ jn_T := jn_of (List.mem_of_getElem? (i := 246) (by decide +kernel)) (by decide +kernel)
theorem jw_247 : (Cond.fieldLink "TypeOrThing" 51 "TypeOrThing" "programs" "LTypeOrThing$Programs;" : Cond) ∈ jn_T := jn_of (List.mem_of_getElem? (i := 247) (by decide +kernel)) (by decide +kernel)
theorem jw_269 : (Cond.methodLink "TypeOrThing" 55 ⟨"TypeOrThing", "characterOf", "(JI)C"⟩ : Cond) ∈ jn_T := jn_of (List.mem_of_getElem? (i := 269) (by decide +kernel)) (by decide +kernel)
theorem jw_270 : (Cond.static ⟨"TypeOrThing", "characterOf", "(JI)C"⟩ : Cond) ∈ jn_T := jn_of (List.mem_of_getElem? (i := 270) (by decide +kernel)) (by decide +kernel)
theorem jw_271 : (Cond.code ⟨"TypeOrThing", "characterOf", "(JI)C"⟩ prog_1_method_14_code 3 (some .char) : Cond) ∈ jn_T := jn_of (List.mem_of_getElem? (i := 271) (by decide +kernel)) (by decide +kernel)
theorem jw_272 : (Cond.constantLong "TypeOrThing" 119 (255 : Int64) : Cond) ∈ jn_T := jn_of (List.mem_of_getElem? (i := 272) (by decide +kernel)) (by decide +kernel)
theorem jw_273 : (Cond.methodLink "TypeOrThing" 59 ⟨"TypeOrThing", "isTypable", "(C)Z"⟩ : Cond) ∈ jn_T := jn_of (List.mem_of_getElem? (i := 273) (by decide +kernel)) (by decide +kernel)
theorem jw_274 : (Cond.static ⟨"TypeOrThing", "isTypable", "(C)Z"⟩ : Cond) ∈ jn_T := jn_of (List.mem_of_getElem? (i := 274) (by decide +kernel)) (by decide +kernel)
theorem jw_275 : (Cond.code ⟨"TypeOrThing", "isTypable", "(C)Z"⟩ prog_1_method_15_code 1 (some .boolean) : Cond) ∈ jn_T := jn_of (List.mem_of_getElem? (i := 275) (by decide +kernel)) (by decide +kernel)
theorem jw_288 : (Cond.methodLink "TypeOrThing" 77 ⟨"TypeOrThing", "wasRead", "(I)Z"⟩ : Cond) ∈ jn_T := jn_of (List.mem_of_getElem? (i := 288) (by decide +kernel)) (by decide +kernel)
theorem jw_290 : (Cond.instanceMethod ⟨"TypeOrThing", "wasRead", "(I)Z"⟩ : Cond) ∈ jn_T := jn_of (List.mem_of_getElem? (i := 290) (by decide +kernel)) (by decide +kernel)
theorem jw_291 : (Cond.code ⟨"TypeOrThing", "wasRead", "(I)Z"⟩ prog_1_method_13_code 2 (some .boolean) : Cond) ∈ jn_T := jn_of (List.mem_of_getElem? (i := 291) (by decide +kernel)) (by decide +kernel)
theorem jw_3 : (Cond.initialized "TypeOrThing$Names" : Cond) ∈ jn_T := jn_of (List.mem_of_getElem? (i := 3) (by decide +kernel)) (by decide +kernel)
theorem jw_312 : (Cond.methodLink "TypeOrThing" 63 ⟨"TypeOrThing$Tokens", "scan", "([CI)V"⟩ : Cond) ∈ jn_T := jn_of (List.mem_of_getElem? (i := 312) (by decide +kernel)) (by decide +kernel)
theorem jw_313 : (Cond.instanceMethod ⟨"TypeOrThing$Tokens", "scan", "([CI)V"⟩ : Cond) ∈ jn_T := jn_of (List.mem_of_getElem? (i := 313) (by decide +kernel)) (by decide +kernel)
theorem jw_314 : (Cond.selects "TypeOrThing$Tokens" ⟨"TypeOrThing$Tokens", "scan", "([CI)V"⟩ ⟨"TypeOrThing$Tokens", "scan", "([CI)V"⟩ : Cond) ∈ jn_T := jn_of (List.mem_of_getElem? (i := 314) (by decide +kernel)) (by decide +kernel)
theorem jw_315 : (Cond.code ⟨"TypeOrThing$Tokens", "scan", "([CI)V"⟩ prog_8_method_4_code 7 none : Cond) ∈ jn_T := jn_of (List.mem_of_getElem? (i := 315) (by decide +kernel)) (by decide +kernel)
theorem jw_316 : (Cond.methodLink "TypeOrThing$Tokens" 26 ⟨"TypeOrThing$Tokens", "continuesLast", "(C)Z"⟩ : Cond) ∈ jn_T := jn_of (List.mem_of_getElem? (i := 316) (by decide +kernel)) (by decide +kernel)
theorem jw_318 : (Cond.instanceMethod ⟨"TypeOrThing$Tokens", "continuesLast", "(C)Z"⟩ : Cond) ∈ jn_T := jn_of (List.mem_of_getElem? (i := 318) (by decide +kernel)) (by decide +kernel)
theorem jw_319 : (Cond.code ⟨"TypeOrThing$Tokens", "continuesLast", "(C)Z"⟩ prog_8_method_5_code 3 (some .boolean) : Cond) ∈ jn_T := jn_of (List.mem_of_getElem? (i := 319) (by decide +kernel)) (by decide +kernel)
theorem jw_320 : (Cond.methodLink "TypeOrThing$Tokens" 46 ⟨"TypeOrThing$Tokens", "kindAt", "(I)I"⟩ : Cond) ∈ jn_T := jn_of (List.mem_of_getElem? (i := 320) (by decide +kernel)) (by decide +kernel)
theorem jw_321 : (Cond.instanceMethod ⟨"TypeOrThing$Tokens", "kindAt", "(I)I"⟩ : Cond) ∈ jn_T := jn_of (List.mem_of_getElem? (i := 321) (by decide +kernel)) (by decide +kernel)
theorem jw_322 : (Cond.selects "TypeOrThing$Tokens" ⟨"TypeOrThing$Tokens", "kindAt", "(I)I"⟩ ⟨"TypeOrThing$Tokens", "kindAt", "(I)I"⟩ : Cond) ∈ jn_T := jn_of (List.mem_of_getElem? (i := 322) (by decide +kernel)) (by decide +kernel)
theorem jw_323 : (Cond.code ⟨"TypeOrThing$Tokens", "kindAt", "(I)I"⟩ prog_8_method_2_code 2 (some .int) : Cond) ∈ jn_T := jn_of (List.mem_of_getElem? (i := 323) (by decide +kernel)) (by decide +kernel)
theorem jw_324 : (Cond.methodLink "TypeOrThing$Tokens" 50 ⟨"TypeOrThing$Tokens", "isDigit", "(C)Z"⟩ : Cond) ∈ jn_T := jn_of (List.mem_of_getElem? (i := 324) (by decide +kernel)) (by decide +kernel)
theorem jw_325 : (Cond.static ⟨"TypeOrThing$Tokens", "isDigit", "(C)Z"⟩ : Cond) ∈ jn_T := jn_of (List.mem_of_getElem? (i := 325) (by decide +kernel)) (by decide +kernel)
theorem jw_326 : (Cond.code ⟨"TypeOrThing$Tokens", "isDigit", "(C)Z"⟩ prog_8_method_10_code 1 (some .boolean) : Cond) ∈ jn_T := jn_of (List.mem_of_getElem? (i := 326) (by decide +kernel)) (by decide +kernel)
theorem jw_327 : (Cond.methodLink "TypeOrThing$Tokens" 53 ⟨"TypeOrThing$Tokens", "isLetter", "(C)Z"⟩ : Cond) ∈ jn_T := jn_of (List.mem_of_getElem? (i := 327) (by decide +kernel)) (by decide +kernel)
theorem jw_328 : (Cond.static ⟨"TypeOrThing$Tokens", "isLetter", "(C)Z"⟩ : Cond) ∈ jn_T := jn_of (List.mem_of_getElem? (i := 328) (by decide +kernel)) (by decide +kernel)
theorem jw_329 : (Cond.code ⟨"TypeOrThing$Tokens", "isLetter", "(C)Z"⟩ prog_8_method_9_code 1 (some .boolean) : Cond) ∈ jn_T := jn_of (List.mem_of_getElem? (i := 329) (by decide +kernel)) (by decide +kernel)
theorem jw_330 : (Cond.methodLink "TypeOrThing$Tokens" 30 ⟨"TypeOrThing$Tokens", "lengthenLast", "(C)V"⟩ : Cond) ∈ jn_T := jn_of (List.mem_of_getElem? (i := 330) (by decide +kernel)) (by decide +kernel)
theorem jw_332 : (Cond.instanceMethod ⟨"TypeOrThing$Tokens", "lengthenLast", "(C)V"⟩ : Cond) ∈ jn_T := jn_of (List.mem_of_getElem? (i := 332) (by decide +kernel)) (by decide +kernel)
theorem jw_333 : (Cond.code ⟨"TypeOrThing$Tokens", "lengthenLast", "(C)V"⟩ prog_8_method_6_code 3 none : Cond) ∈ jn_T := jn_of (List.mem_of_getElem? (i := 333) (by decide +kernel)) (by decide +kernel)
theorem jw_334 : (Cond.methodLink "TypeOrThing$Tokens" 38 ⟨"TypeOrThing$Tokens", "begin", "(IC)V"⟩ : Cond) ∈ jn_T := jn_of (List.mem_of_getElem? (i := 334) (by decide +kernel)) (by decide +kernel)
theorem jw_336 : (Cond.instanceMethod ⟨"TypeOrThing$Tokens", "begin", "(IC)V"⟩ : Cond) ∈ jn_T := jn_of (List.mem_of_getElem? (i := 336) (by decide +kernel)) (by decide +kernel)
theorem jw_337 : (Cond.code ⟨"TypeOrThing$Tokens", "begin", "(IC)V"⟩ prog_8_method_7_code 3 none : Cond) ∈ jn_T := jn_of (List.mem_of_getElem? (i := 337) (by decide +kernel)) (by decide +kernel)
theorem jw_338 : (Cond.methodLink "TypeOrThing$Tokens" 34 ⟨"TypeOrThing$Tokens", "kindOf", "(C)I"⟩ : Cond) ∈ jn_T := jn_of (List.mem_of_getElem? (i := 338) (by decide +kernel)) (by decide +kernel)
theorem jw_339 : (Cond.static ⟨"TypeOrThing$Tokens", "kindOf", "(C)I"⟩ : Cond) ∈ jn_T := jn_of (List.mem_of_getElem? (i := 339) (by decide +kernel)) (by decide +kernel)
theorem jw_340 : (Cond.code ⟨"TypeOrThing$Tokens", "kindOf", "(C)I"⟩ prog_8_method_8_code 1 (some .int) : Cond) ∈ jn_T := jn_of (List.mem_of_getElem? (i := 340) (by decide +kernel)) (by decide +kernel)
theorem jw_342 : (Cond.methodLink "TypeOrThing$Tokens" 58 ⟨"java/lang/String", "indexOf", "(I)I"⟩ : Cond) ∈ jn_T := jn_of (List.mem_of_getElem? (i := 342) (by decide +kernel)) (by decide +kernel)
theorem jw_343 : (Cond.instanceMethod ⟨"java/lang/String", "indexOf", "(I)I"⟩ : Cond) ∈ jn_T := jn_of (List.mem_of_getElem? (i := 343) (by decide +kernel)) (by decide +kernel)
theorem jw_344 : (Cond.selects "java/lang/String" ⟨"java/lang/String", "indexOf", "(I)I"⟩ ⟨"java/lang/String", "indexOf", "(I)I"⟩ : Cond) ∈ jn_T := jn_of (List.mem_of_getElem? (i := 344) (by decide +kernel)) (by decide +kernel)
theorem jw_345 : (Cond.code ⟨"java/lang/String", "indexOf", "(I)I"⟩ prog_17_method_79_code 2 (some .int) : Cond) ∈ jn_T := jn_of (List.mem_of_getElem? (i := 345) (by decide +kernel)) (by decide +kernel)
theorem jw_346 : (Cond.methodLink "java/lang/String" 633 ⟨"java/lang/String", "indexOf", "(II)I"⟩ : Cond) ∈ jn_T := jn_of (List.mem_of_getElem? (i := 346) (by decide +kernel)) (by decide +kernel)
theorem jw_347 : (Cond.instanceMethod ⟨"java/lang/String", "indexOf", "(II)I"⟩ : Cond) ∈ jn_T := jn_of (List.mem_of_getElem? (i := 347) (by decide +kernel)) (by decide +kernel)
theorem jw_348 : (Cond.selects "java/lang/String" ⟨"java/lang/String", "indexOf", "(II)I"⟩ ⟨"java/lang/String", "indexOf", "(II)I"⟩ : Cond) ∈ jn_T := jn_of (List.mem_of_getElem? (i := 348) (by decide +kernel)) (by decide +kernel)
theorem jw_349 : (Cond.code ⟨"java/lang/String", "indexOf", "(II)I"⟩ prog_17_method_80_code 3 (some .int) : Cond) ∈ jn_T := jn_of (List.mem_of_getElem? (i := 349) (by decide +kernel)) (by decide +kernel)
theorem jw_35 : (Cond.fieldLink "TypeOrThing$Tokens" 9 "TypeOrThing$Tokens" "kinds" "[I" : Cond) ∈ jn_T := jn_of (List.mem_of_getElem? (i := 35) (by decide +kernel)) (by decide +kernel)
theorem jw_350 : (Cond.methodLink "java/lang/String" 492 ⟨"java/lang/String", "isLatin1", "()Z"⟩ : Cond) ∈ jn_T := jn_of (List.mem_of_getElem? (i := 350) (by decide +kernel)) (by decide +kernel)
theorem jw_351 : (Cond.instanceMethod ⟨"java/lang/String", "isLatin1", "()Z"⟩ : Cond) ∈ jn_T := jn_of (List.mem_of_getElem? (i := 351) (by decide +kernel)) (by decide +kernel)
theorem jw_352 : (Cond.selects "java/lang/String" ⟨"java/lang/String", "isLatin1", "()Z"⟩ ⟨"java/lang/String", "isLatin1", "()Z"⟩ : Cond) ∈ jn_T := jn_of (List.mem_of_getElem? (i := 352) (by decide +kernel)) (by decide +kernel)
theorem jw_353 : (Cond.code ⟨"java/lang/String", "isLatin1", "()Z"⟩ prog_17_method_154_code 1 (some .boolean) : Cond) ∈ jn_T := jn_of (List.mem_of_getElem? (i := 353) (by decide +kernel)) (by decide +kernel)
theorem jw_354 : (Cond.fieldLink "java/lang/String" 38 "java/lang/String" "COMPACT_STRINGS" "Z" : Cond) ∈ jn_T := jn_of (List.mem_of_getElem? (i := 354) (by decide +kernel)) (by decide +kernel)
theorem jw_356 : (Cond.methodLink "java/lang/String" 505 ⟨"java/lang/String", "length", "()I"⟩ : Cond) ∈ jn_T := jn_of (List.mem_of_getElem? (i := 356) (by decide +kernel)) (by decide +kernel)
theorem jw_357 : (Cond.instanceMethod ⟨"java/lang/String", "length", "()I"⟩ : Cond) ∈ jn_T := jn_of (List.mem_of_getElem? (i := 357) (by decide +kernel)) (by decide +kernel)
theorem jw_358 : (Cond.selects "java/lang/String" ⟨"java/lang/String", "length", "()I"⟩ ⟨"java/lang/String", "length", "()I"⟩ : Cond) ∈ jn_T := jn_of (List.mem_of_getElem? (i := 358) (by decide +kernel)) (by decide +kernel)
theorem jw_359 : (Cond.code ⟨"java/lang/String", "length", "()I"⟩ prog_17_method_54_code 1 (some .int) : Cond) ∈ jn_T := jn_of (List.mem_of_getElem? (i := 359) (by decide +kernel)) (by decide +kernel)
theorem jw_36 : (Cond.fieldLink "TypeOrThing$Cursor" 37 "TypeOrThing$Tokens" "kinds" "[I" : Cond) ∈ jn_T := jn_of (List.mem_of_getElem? (i := 36) (by decide +kernel)) (by decide +kernel)
theorem jw_360 : (Cond.methodLink "java/lang/String" 335 ⟨"java/lang/String", "coder", "()B"⟩ : Cond) ∈ jn_T := jn_of (List.mem_of_getElem? (i := 360) (by decide +kernel)) (by decide +kernel)
theorem jw_361 : (Cond.instanceMethod ⟨"java/lang/String", "coder", "()B"⟩ : Cond) ∈ jn_T := jn_of (List.mem_of_getElem? (i := 361) (by decide +kernel)) (by decide +kernel)
theorem jw_362 : (Cond.selects "java/lang/String" ⟨"java/lang/String", "coder", "()B"⟩ ⟨"java/lang/String", "coder", "()B"⟩ : Cond) ∈ jn_T := jn_of (List.mem_of_getElem? (i := 362) (by decide +kernel)) (by decide +kernel)
theorem jw_363 : (Cond.code ⟨"java/lang/String", "coder", "()B"⟩ prog_17_method_152_code 1 (some .byte) : Cond) ∈ jn_T := jn_of (List.mem_of_getElem? (i := 363) (by decide +kernel)) (by decide +kernel)
theorem jw_364 : (Cond.methodLink "java/lang/String" 637 ⟨"java/lang/StringLatin1", "indexOf", "([BIII)I"⟩ : Cond) ∈ jn_T := jn_of (List.mem_of_getElem? (i := 364) (by decide +kernel)) (by decide +kernel)
theorem jw_365 : (Cond.static ⟨"java/lang/StringLatin1", "indexOf", "([BIII)I"⟩ : Cond) ∈ jn_T := jn_of (List.mem_of_getElem? (i := 365) (by decide +kernel)) (by decide +kernel)
theorem jw_366 : (Cond.code ⟨"java/lang/StringLatin1", "indexOf", "([BIII)I"⟩ prog_18_method_22_code 4 (some .int) : Cond) ∈ jn_T := jn_of (List.mem_of_getElem? (i := 366) (by decide +kernel)) (by decide +kernel)
theorem jw_367 : (Cond.methodLink "java/lang/StringLatin1" 88 ⟨"java/lang/StringLatin1", "canEncode", "(I)Z"⟩ : Cond) ∈ jn_T := jn_of (List.mem_of_getElem? (i := 367) (by decide +kernel)) (by decide +kernel)
theorem jw_368 : (Cond.static ⟨"java/lang/StringLatin1", "canEncode", "(I)Z"⟩ : Cond) ∈ jn_T := jn_of (List.mem_of_getElem? (i := 368) (by decide +kernel)) (by decide +kernel)
theorem jw_369 : (Cond.code ⟨"java/lang/StringLatin1", "canEncode", "(I)Z"⟩ prog_18_method_4_code 1 (some .boolean) : Cond) ∈ jn_T := jn_of (List.mem_of_getElem? (i := 369) (by decide +kernel)) (by decide +kernel)
theorem jw_37 : (Cond.fieldLink "TypeOrThing$Tokens" 15 "TypeOrThing$Tokens" "words" "[J" : Cond) ∈ jn_T := jn_of (List.mem_of_getElem? (i := 37) (by decide +kernel)) (by decide +kernel)
theorem jw_370 : (Cond.methodLink "java/lang/StringLatin1" 92 ⟨"java/lang/Math", "max", "(II)I"⟩ : Cond) ∈ jn_T := jn_of (List.mem_of_getElem? (i := 370) (by decide +kernel)) (by decide +kernel)
theorem jw_371 : (Cond.static ⟨"java/lang/Math", "max", "(II)I"⟩ : Cond) ∈ jn_T := jn_of (List.mem_of_getElem? (i := 371) (by decide +kernel)) (by decide +kernel)
theorem jw_372 : (Cond.code ⟨"java/lang/Math", "max", "(II)I"⟩ prog_15_method_65_code 2 (some .int) : Cond) ∈ jn_T := jn_of (List.mem_of_getElem? (i := 372) (by decide +kernel)) (by decide +kernel)
theorem jw_373 : (Cond.methodLink "java/lang/StringLatin1" 38 ⟨"java/lang/Math", "min", "(II)I"⟩ : Cond) ∈ jn_T := jn_of (List.mem_of_getElem? (i := 373) (by decide +kernel)) (by decide +kernel)
theorem jw_374 : (Cond.static ⟨"java/lang/Math", "min", "(II)I"⟩ : Cond) ∈ jn_T := jn_of (List.mem_of_getElem? (i := 374) (by decide +kernel)) (by decide +kernel)
theorem jw_376 : (Cond.methodLink "java/lang/StringLatin1" 95 ⟨"java/lang/StringLatin1", "indexOfChar", "([BIII)I"⟩ : Cond) ∈ jn_T := jn_of (List.mem_of_getElem? (i := 376) (by decide +kernel)) (by decide +kernel)
theorem jw_377 : (Cond.static ⟨"java/lang/StringLatin1", "indexOfChar", "([BIII)I"⟩ : Cond) ∈ jn_T := jn_of (List.mem_of_getElem? (i := 377) (by decide +kernel)) (by decide +kernel)
theorem jw_378 : (Cond.code ⟨"java/lang/StringLatin1", "indexOfChar", "([BIII)I"⟩ prog_18_method_23_code 6 (some .int) : Cond) ∈ jn_T := jn_of (List.mem_of_getElem? (i := 378) (by decide +kernel)) (by decide +kernel)
theorem jw_38 : (Cond.fieldLink "TypeOrThing$Names" 63 "TypeOrThing$Tokens" "words" "[J" : Cond) ∈ jn_T := jn_of (List.mem_of_getElem? (i := 38) (by decide +kernel)) (by decide +kernel)
theorem jw_39 : (Cond.fieldLink "TypeOrThing$Tokens" 19 "TypeOrThing$Tokens" "count" "I" : Cond) ∈ jn_T := jn_of (List.mem_of_getElem? (i := 39) (by decide +kernel)) (by decide +kernel)
theorem jw_397 : (Cond.fieldLink "java/lang/String" 1053 "jdk/internal/util/Preconditions" "SIOOBE_FORMATTER" "Ljava/util/function/BiFunction;" : Cond) ∈ jn_T := jn_of (List.mem_of_getElem? (i := 397) (by decide +kernel)) (by decide +kernel)
theorem jw_4 : (Cond.initialized "TypeOrThing$Tape" : Cond) ∈ jn_T := jn_of (List.mem_of_getElem? (i := 4) (by decide +kernel)) (by decide +kernel)
theorem jw_40 : (Cond.fieldLink "TypeOrThing" 74 "TypeOrThing$Tokens" "count" "I" : Cond) ∈ jn_T := jn_of (List.mem_of_getElem? (i := 40) (by decide +kernel)) (by decide +kernel)
theorem jw_41 : (Cond.fieldLink "TypeOrThing$Cursor" 34 "TypeOrThing$Tokens" "count" "I" : Cond) ∈ jn_T := jn_of (List.mem_of_getElem? (i := 41) (by decide +kernel)) (by decide +kernel)
theorem jw_42 : (Cond.fieldLink "TypeOrThing$Tokens" 23 "TypeOrThing$Tokens" "lastLength" "I" : Cond) ∈ jn_T := jn_of (List.mem_of_getElem? (i := 42) (by decide +kernel)) (by decide +kernel)
theorem jw_428 : (Cond.methodLink "TypeOrThing$Tokens" 42 ⟨"TypeOrThing$Tokens", "kindOfWord", "(J)I"⟩ : Cond) ∈ jn_T := jn_of (List.mem_of_getElem? (i := 428) (by decide +kernel)) (by decide +kernel)
theorem jw_429 : (Cond.static ⟨"TypeOrThing$Tokens", "kindOfWord", "(J)I"⟩ : Cond) ∈ jn_T := jn_of (List.mem_of_getElem? (i := 429) (by decide +kernel)) (by decide +kernel)
theorem jw_430 : (Cond.code ⟨"TypeOrThing$Tokens", "kindOfWord", "(J)I"⟩ prog_8_method_11_code 2 (some .int) : Cond) ∈ jn_T := jn_of (List.mem_of_getElem? (i := 430) (by decide +kernel)) (by decide +kernel)
theorem jw_432 : (Cond.methodLink "TypeOrThing$Tokens" 65 ⟨"TypeOrThing$Tokens", "packed", "(Ljava/lang/String;)J"⟩ : Cond) ∈ jn_T := jn_of (List.mem_of_getElem? (i := 432) (by decide +kernel)) (by decide +kernel)
theorem jw_433 : (Cond.static ⟨"TypeOrThing$Tokens", "packed", "(Ljava/lang/String;)J"⟩ : Cond) ∈ jn_T := jn_of (List.mem_of_getElem? (i := 433) (by decide +kernel)) (by decide +kernel)
theorem jw_434 : (Cond.code ⟨"TypeOrThing$Tokens", "packed", "(Ljava/lang/String;)J"⟩ prog_8_method_12_code 4 (some .long) : Cond) ∈ jn_T := jn_of (List.mem_of_getElem? (i := 434) (by decide +kernel)) (by decide +kernel)
theorem jw_435 : (Cond.methodLink "TypeOrThing$Tokens" 85 ⟨"java/lang/String", "length", "()I"⟩ : Cond) ∈ jn_T := jn_of (List.mem_of_getElem? (i := 435) (by decide +kernel)) (by decide +kernel)
theorem jw_436 : (Cond.methodLink "TypeOrThing$Tokens" 89 ⟨"java/lang/String", "charAt", "(I)C"⟩ : Cond) ∈ jn_T := jn_of (List.mem_of_getElem? (i := 436) (by decide +kernel)) (by decide +kernel)
theorem jw_437 : (Cond.instanceMethod ⟨"java/lang/String", "charAt", "(I)C"⟩ : Cond) ∈ jn_T := jn_of (List.mem_of_getElem? (i := 437) (by decide +kernel)) (by decide +kernel)
theorem jw_438 : (Cond.selects "java/lang/String" ⟨"java/lang/String", "charAt", "(I)C"⟩ ⟨"java/lang/String", "charAt", "(I)C"⟩ : Cond) ∈ jn_T := jn_of (List.mem_of_getElem? (i := 438) (by decide +kernel)) (by decide +kernel)
theorem jw_439 : (Cond.code ⟨"java/lang/String", "charAt", "(I)C"⟩ prog_17_method_56_code 2 (some .char) : Cond) ∈ jn_T := jn_of (List.mem_of_getElem? (i := 439) (by decide +kernel)) (by decide +kernel)
theorem jw_440 : (Cond.methodLink "java/lang/String" 495 ⟨"java/lang/StringLatin1", "charAt", "([BI)C"⟩ : Cond) ∈ jn_T := jn_of (List.mem_of_getElem? (i := 440) (by decide +kernel)) (by decide +kernel)
theorem jw_441 : (Cond.static ⟨"java/lang/StringLatin1", "charAt", "([BI)C"⟩ : Cond) ∈ jn_T := jn_of (List.mem_of_getElem? (i := 441) (by decide +kernel)) (by decide +kernel)
theorem jw_442 : (Cond.code ⟨"java/lang/StringLatin1", "charAt", "([BI)C"⟩ prog_18_method_2_code 2 (some .char) : Cond) ∈ jn_T := jn_of (List.mem_of_getElem? (i := 442) (by decide +kernel)) (by decide +kernel)
theorem jw_443 : (Cond.methodLink "java/lang/StringLatin1" 9 ⟨"java/lang/String", "checkIndex", "(II)V"⟩ : Cond) ∈ jn_T := jn_of (List.mem_of_getElem? (i := 443) (by decide +kernel)) (by decide +kernel)
theorem jw_444 : (Cond.static ⟨"java/lang/String", "checkIndex", "(II)V"⟩ : Cond) ∈ jn_T := jn_of (List.mem_of_getElem? (i := 444) (by decide +kernel)) (by decide +kernel)
theorem jw_445 : (Cond.code ⟨"java/lang/String", "checkIndex", "(II)V"⟩ prog_17_method_155_code 2 none : Cond) ∈ jn_T := jn_of (List.mem_of_getElem? (i := 445) (by decide +kernel)) (by decide +kernel)
theorem jw_446 : (Cond.methodLink "java/lang/String" 1059 ⟨"jdk/internal/util/Preconditions", "checkIndex", "(IILjava/util/function/BiFunction;)I"⟩ : Cond) ∈ jn_T := jn_of (List.mem_of_getElem? (i := 446) (by decide +kernel)) (by decide +kernel)
theorem jw_447 : (Cond.static ⟨"jdk/internal/util/Preconditions", "checkIndex", "(IILjava/util/function/BiFunction;)I"⟩ : Cond) ∈ jn_T := jn_of (List.mem_of_getElem? (i := 447) (by decide +kernel)) (by decide +kernel)
theorem jw_448 : (Cond.code ⟨"jdk/internal/util/Preconditions", "checkIndex", "(IILjava/util/function/BiFunction;)I"⟩ prog_21_method_11_code 3 (some .int) : Cond) ∈ jn_T := jn_of (List.mem_of_getElem? (i := 448) (by decide +kernel)) (by decide +kernel)
theorem jw_469 : (Cond.methodLink "TypeOrThing$Programs" 50 ⟨"TypeOrThing$Programs", "clear", "()V"⟩ : Cond) ∈ jn_T := jn_of (List.mem_of_getElem? (i := 469) (by decide +kernel)) (by decide +kernel)
theorem jw_471 : (Cond.instanceMethod ⟨"TypeOrThing$Programs", "clear", "()V"⟩ : Cond) ∈ jn_T := jn_of (List.mem_of_getElem? (i := 471) (by decide +kernel)) (by decide +kernel)
theorem jw_472 : (Cond.code ⟨"TypeOrThing$Programs", "clear", "()V"⟩ prog_6_method_3_code 1 none : Cond) ∈ jn_T := jn_of (List.mem_of_getElem? (i := 472) (by decide +kernel)) (by decide +kernel)
theorem jw_473 : (Cond.methodLink "TypeOrThing$Programs" 80 ⟨"TypeOrThing$Names", "clear", "()V"⟩ : Cond) ∈ jn_T := jn_of (List.mem_of_getElem? (i := 473) (by decide +kernel)) (by decide +kernel)
theorem jw_474 : (Cond.instanceMethod ⟨"TypeOrThing$Names", "clear", "()V"⟩ : Cond) ∈ jn_T := jn_of (List.mem_of_getElem? (i := 474) (by decide +kernel)) (by decide +kernel)
theorem jw_475 : (Cond.selects "TypeOrThing$Names" ⟨"TypeOrThing$Names", "clear", "()V"⟩ ⟨"TypeOrThing$Names", "clear", "()V"⟩ : Cond) ∈ jn_T := jn_of (List.mem_of_getElem? (i := 475) (by decide +kernel)) (by decide +kernel)
theorem jw_476 : (Cond.code ⟨"TypeOrThing$Names", "clear", "()V"⟩ prog_5_method_2_code 2 none : Cond) ∈ jn_T := jn_of (List.mem_of_getElem? (i := 476) (by decide +kernel)) (by decide +kernel)
theorem jw_477 : (Cond.methodLink "TypeOrThing$Names" 60 ⟨"TypeOrThing$Tape", "clear", "()V"⟩ : Cond) ∈ jn_T := jn_of (List.mem_of_getElem? (i := 477) (by decide +kernel)) (by decide +kernel)
theorem jw_478 : (Cond.instanceMethod ⟨"TypeOrThing$Tape", "clear", "()V"⟩ : Cond) ∈ jn_T := jn_of (List.mem_of_getElem? (i := 478) (by decide +kernel)) (by decide +kernel)
theorem jw_479 : (Cond.selects "TypeOrThing$Tape" ⟨"TypeOrThing$Tape", "clear", "()V"⟩ ⟨"TypeOrThing$Tape", "clear", "()V"⟩ : Cond) ∈ jn_T := jn_of (List.mem_of_getElem? (i := 479) (by decide +kernel)) (by decide +kernel)
theorem jw_480 : (Cond.code ⟨"TypeOrThing$Tape", "clear", "()V"⟩ prog_7_method_2_code 1 none : Cond) ∈ jn_T := jn_of (List.mem_of_getElem? (i := 480) (by decide +kernel)) (by decide +kernel)
theorem jw_481 : (Cond.methodLink "TypeOrThing$Programs" 81 ⟨"TypeOrThing$Expressions", "clear", "()V"⟩ : Cond) ∈ jn_T := jn_of (List.mem_of_getElem? (i := 481) (by decide +kernel)) (by decide +kernel)
theorem jw_482 : (Cond.instanceMethod ⟨"TypeOrThing$Expressions", "clear", "()V"⟩ : Cond) ∈ jn_T := jn_of (List.mem_of_getElem? (i := 482) (by decide +kernel)) (by decide +kernel)
theorem jw_483 : (Cond.selects "TypeOrThing$Expressions" ⟨"TypeOrThing$Expressions", "clear", "()V"⟩ ⟨"TypeOrThing$Expressions", "clear", "()V"⟩ : Cond) ∈ jn_T := jn_of (List.mem_of_getElem? (i := 483) (by decide +kernel)) (by decide +kernel)
theorem jw_484 : (Cond.code ⟨"TypeOrThing$Expressions", "clear", "()V"⟩ prog_4_method_2_code 1 none : Cond) ∈ jn_T := jn_of (List.mem_of_getElem? (i := 484) (by decide +kernel)) (by decide +kernel)
theorem jw_485 : (Cond.methodLink "TypeOrThing$Programs" 82 ⟨"TypeOrThing$Tape", "clear", "()V"⟩ : Cond) ∈ jn_T := jn_of (List.mem_of_getElem? (i := 485) (by decide +kernel)) (by decide +kernel)
theorem jw_486 : (Cond.methodLink "TypeOrThing$Programs" 53 ⟨"TypeOrThing$Cursor", "restart", "()V"⟩ : Cond) ∈ jn_T := jn_of (List.mem_of_getElem? (i := 486) (by decide +kernel)) (by decide +kernel)
theorem jw_487 : (Cond.instanceMethod ⟨"TypeOrThing$Cursor", "restart", "()V"⟩ : Cond) ∈ jn_T := jn_of (List.mem_of_getElem? (i := 487) (by decide +kernel)) (by decide +kernel)
theorem jw_488 : (Cond.selects "TypeOrThing$Cursor" ⟨"TypeOrThing$Cursor", "restart", "()V"⟩ ⟨"TypeOrThing$Cursor", "restart", "()V"⟩ : Cond) ∈ jn_T := jn_of (List.mem_of_getElem? (i := 488) (by decide +kernel)) (by decide +kernel)
theorem jw_489 : (Cond.code ⟨"TypeOrThing$Cursor", "restart", "()V"⟩ prog_2_method_2_code 1 none : Cond) ∈ jn_T := jn_of (List.mem_of_getElem? (i := 489) (by decide +kernel)) (by decide +kernel)
theorem jw_490 : (Cond.methodLink "TypeOrThing$Cursor" 25 ⟨"TypeOrThing$Tokens", "kindAt", "(I)I"⟩ : Cond) ∈ jn_T := jn_of (List.mem_of_getElem? (i := 490) (by decide +kernel)) (by decide +kernel)
theorem jw_491 : (Cond.methodLink "TypeOrThing$Programs" 56 ⟨"TypeOrThing$Names", "newScope", "()I"⟩ : Cond) ∈ jn_T := jn_of (List.mem_of_getElem? (i := 491) (by decide +kernel)) (by decide +kernel)
theorem jw_492 : (Cond.instanceMethod ⟨"TypeOrThing$Names", "newScope", "()I"⟩ : Cond) ∈ jn_T := jn_of (List.mem_of_getElem? (i := 492) (by decide +kernel)) (by decide +kernel)
theorem jw_493 : (Cond.selects "TypeOrThing$Names" ⟨"TypeOrThing$Names", "newScope", "()I"⟩ ⟨"TypeOrThing$Names", "newScope", "()I"⟩ : Cond) ∈ jn_T := jn_of (List.mem_of_getElem? (i := 493) (by decide +kernel)) (by decide +kernel)
theorem jw_494 : (Cond.code ⟨"TypeOrThing$Names", "newScope", "()I"⟩ prog_5_method_4_code 1 (some .int) : Cond) ∈ jn_T := jn_of (List.mem_of_getElem? (i := 494) (by decide +kernel)) (by decide +kernel)
theorem jw_495 : (Cond.methodLink "TypeOrThing$Programs" 62 ⟨"TypeOrThing$Names", "openScope", "(I)V"⟩ : Cond) ∈ jn_T := jn_of (List.mem_of_getElem? (i := 495) (by decide +kernel)) (by decide +kernel)
theorem jw_496 : (Cond.instanceMethod ⟨"TypeOrThing$Names", "openScope", "(I)V"⟩ : Cond) ∈ jn_T := jn_of (List.mem_of_getElem? (i := 496) (by decide +kernel)) (by decide +kernel)
theorem jw_497 : (Cond.selects "TypeOrThing$Names" ⟨"TypeOrThing$Names", "openScope", "(I)V"⟩ ⟨"TypeOrThing$Names", "openScope", "(I)V"⟩ : Cond) ∈ jn_T := jn_of (List.mem_of_getElem? (i := 497) (by decide +kernel)) (by decide +kernel)
theorem jw_498 : (Cond.code ⟨"TypeOrThing$Names", "openScope", "(I)V"⟩ prog_5_method_5_code 2 none : Cond) ∈ jn_T := jn_of (List.mem_of_getElem? (i := 498) (by decide +kernel)) (by decide +kernel)
theorem jw_499 : (Cond.methodLink "TypeOrThing$Programs" 66 ⟨"TypeOrThing$Cursor", "sees", "(I)Z"⟩ : Cond) ∈ jn_T := jn_of (List.mem_of_getElem? (i := 499) (by decide +kernel)) (by decide +kernel)
theorem jw_5 : (Cond.initialized "TypeOrThing$Programs" : Cond) ∈ jn_T := jn_of (List.mem_of_getElem? (i := 5) (by decide +kernel)) (by decide +kernel)
theorem jw_500 : (Cond.instanceMethod ⟨"TypeOrThing$Cursor", "sees", "(I)Z"⟩ : Cond) ∈ jn_T := jn_of (List.mem_of_getElem? (i := 500) (by decide +kernel)) (by decide +kernel)
theorem jw_501 : (Cond.selects "TypeOrThing$Cursor" ⟨"TypeOrThing$Cursor", "sees", "(I)Z"⟩ ⟨"TypeOrThing$Cursor", "sees", "(I)Z"⟩ : Cond) ∈ jn_T := jn_of (List.mem_of_getElem? (i := 501) (by decide +kernel)) (by decide +kernel)
theorem jw_502 : (Cond.code ⟨"TypeOrThing$Cursor", "sees", "(I)Z"⟩ prog_2_method_5_code 2 (some .boolean) : Cond) ∈ jn_T := jn_of (List.mem_of_getElem? (i := 502) (by decide +kernel)) (by decide +kernel)
theorem jw_503 : (Cond.methodLink "TypeOrThing$Programs" 70 ⟨"TypeOrThing$Programs", "declaration", "(Z)V"⟩ : Cond) ∈ jn_T := jn_of (List.mem_of_getElem? (i := 503) (by decide +kernel)) (by decide +kernel)
theorem jw_505 : (Cond.instanceMethod ⟨"TypeOrThing$Programs", "declaration", "(Z)V"⟩ : Cond) ∈ jn_T := jn_of (List.mem_of_getElem? (i := 505) (by decide +kernel)) (by decide +kernel)
theorem jw_506 : (Cond.code ⟨"TypeOrThing$Programs", "declaration", "(Z)V"⟩ prog_6_method_4_code 9 none : Cond) ∈ jn_T := jn_of (List.mem_of_getElem? (i := 506) (by decide +kernel)) (by decide +kernel)
theorem jw_507 : (Cond.methodLink "TypeOrThing$Programs" 85 ⟨"TypeOrThing$Programs", "specifiers", "()I"⟩ : Cond) ∈ jn_T := jn_of (List.mem_of_getElem? (i := 507) (by decide +kernel)) (by decide +kernel)
theorem jw_509 : (Cond.instanceMethod ⟨"TypeOrThing$Programs", "specifiers", "()I"⟩ : Cond) ∈ jn_T := jn_of (List.mem_of_getElem? (i := 509) (by decide +kernel)) (by decide +kernel)
theorem jw_510 : (Cond.code ⟨"TypeOrThing$Programs", "specifiers", "()I"⟩ prog_6_method_5_code 2 (some .int) : Cond) ∈ jn_T := jn_of (List.mem_of_getElem? (i := 510) (by decide +kernel)) (by decide +kernel)
theorem jw_511 : (Cond.methodLink "TypeOrThing$Programs" 105 ⟨"TypeOrThing$Cursor", "take", "()I"⟩ : Cond) ∈ jn_T := jn_of (List.mem_of_getElem? (i := 511) (by decide +kernel)) (by decide +kernel)
theorem jw_512 : (Cond.instanceMethod ⟨"TypeOrThing$Cursor", "take", "()I"⟩ : Cond) ∈ jn_T := jn_of (List.mem_of_getElem? (i := 512) (by decide +kernel)) (by decide +kernel)
theorem jw_513 : (Cond.selects "TypeOrThing$Cursor" ⟨"TypeOrThing$Cursor", "take", "()I"⟩ ⟨"TypeOrThing$Cursor", "take", "()I"⟩ : Cond) ∈ jn_T := jn_of (List.mem_of_getElem? (i := 513) (by decide +kernel)) (by decide +kernel)
theorem jw_514 : (Cond.code ⟨"TypeOrThing$Cursor", "take", "()I"⟩ prog_2_method_7_code 1 (some .int) : Cond) ∈ jn_T := jn_of (List.mem_of_getElem? (i := 514) (by decide +kernel)) (by decide +kernel)
theorem jw_515 : (Cond.classLink "TypeOrThing$Cursor" 31 "java/lang/IllegalArgumentException" : Cond) ∈ jn_T := jn_of (List.mem_of_getElem? (i := 515) (by decide +kernel)) (by decide +kernel)
theorem jw_578 : (Cond.methodLink "TypeOrThing$Programs" 119 ⟨"TypeOrThing$Declarators", "base", "()I"⟩ : Cond) ∈ jn_T := jn_of (List.mem_of_getElem? (i := 578) (by decide +kernel)) (by decide +kernel)
theorem jw_579 : (Cond.instanceMethod ⟨"TypeOrThing$Declarators", "base", "()I"⟩ : Cond) ∈ jn_T := jn_of (List.mem_of_getElem? (i := 579) (by decide +kernel)) (by decide +kernel)
theorem jw_580 : (Cond.selects "TypeOrThing$Declarators" ⟨"TypeOrThing$Declarators", "base", "()I"⟩ ⟨"TypeOrThing$Declarators", "base", "()I"⟩ : Cond) ∈ jn_T := jn_of (List.mem_of_getElem? (i := 580) (by decide +kernel)) (by decide +kernel)
theorem jw_581 : (Cond.code ⟨"TypeOrThing$Declarators", "base", "()I"⟩ prog_3_method_2_code 2 (some .int) : Cond) ∈ jn_T := jn_of (List.mem_of_getElem? (i := 581) (by decide +kernel)) (by decide +kernel)
theorem jw_582 : (Cond.methodLink "TypeOrThing$Declarators" 36 ⟨"TypeOrThing$Names", "isBase", "(I)Z"⟩ : Cond) ∈ jn_T := jn_of (List.mem_of_getElem? (i := 582) (by decide +kernel)) (by decide +kernel)
theorem jw_583 : (Cond.instanceMethod ⟨"TypeOrThing$Names", "isBase", "(I)Z"⟩ : Cond) ∈ jn_T := jn_of (List.mem_of_getElem? (i := 583) (by decide +kernel)) (by decide +kernel)
theorem jw_584 : (Cond.selects "TypeOrThing$Names" ⟨"TypeOrThing$Names", "isBase", "(I)Z"⟩ ⟨"TypeOrThing$Names", "isBase", "(I)Z"⟩ : Cond) ∈ jn_T := jn_of (List.mem_of_getElem? (i := 584) (by decide +kernel)) (by decide +kernel)
theorem jw_585 : (Cond.code ⟨"TypeOrThing$Names", "isBase", "(I)Z"⟩ prog_5_method_8_code 4 (some .boolean) : Cond) ∈ jn_T := jn_of (List.mem_of_getElem? (i := 585) (by decide +kernel)) (by decide +kernel)
theorem jw_586 : (Cond.methodLink "TypeOrThing$Names" 69 ⟨"TypeOrThing$Tokens", "kindAt", "(I)I"⟩ : Cond) ∈ jn_T := jn_of (List.mem_of_getElem? (i := 586) (by decide +kernel)) (by decide +kernel)
theorem jw_587 : (Cond.methodLink "TypeOrThing$Names" 73 ⟨"TypeOrThing$Names", "meaningOf", "(I)I"⟩ : Cond) ∈ jn_T := jn_of (List.mem_of_getElem? (i := 587) (by decide +kernel)) (by decide +kernel)
theorem jw_589 : (Cond.instanceMethod ⟨"TypeOrThing$Names", "meaningOf", "(I)I"⟩ : Cond) ∈ jn_T := jn_of (List.mem_of_getElem? (i := 589) (by decide +kernel)) (by decide +kernel)
theorem jw_590 : (Cond.code ⟨"TypeOrThing$Names", "meaningOf", "(I)I"⟩ prog_5_method_7_code 6 (some .int) : Cond) ∈ jn_T := jn_of (List.mem_of_getElem? (i := 590) (by decide +kernel)) (by decide +kernel)
theorem jw_591 : (Cond.methodLink "TypeOrThing$Declarators" 40 ⟨"TypeOrThing$Cursor", "require", "(Z)V"⟩ : Cond) ∈ jn_T := jn_of (List.mem_of_getElem? (i := 591) (by decide +kernel)) (by decide +kernel)
theorem jw_592 : (Cond.instanceMethod ⟨"TypeOrThing$Cursor", "require", "(Z)V"⟩ : Cond) ∈ jn_T := jn_of (List.mem_of_getElem? (i := 592) (by decide +kernel)) (by decide +kernel)
theorem jw_593 : (Cond.selects "TypeOrThing$Cursor" ⟨"TypeOrThing$Cursor", "require", "(Z)V"⟩ ⟨"TypeOrThing$Cursor", "require", "(Z)V"⟩ : Cond) ∈ jn_T := jn_of (List.mem_of_getElem? (i := 593) (by decide +kernel)) (by decide +kernel)
theorem jw_594 : (Cond.code ⟨"TypeOrThing$Cursor", "require", "(Z)V"⟩ prog_2_method_6_code 2 none : Cond) ∈ jn_T := jn_of (List.mem_of_getElem? (i := 594) (by decide +kernel)) (by decide +kernel)
theorem jw_595 : (Cond.methodLink "TypeOrThing$Declarators" 44 ⟨"TypeOrThing$Cursor", "take", "()I"⟩ : Cond) ∈ jn_T := jn_of (List.mem_of_getElem? (i := 595) (by decide +kernel)) (by decide +kernel)
theorem jw_596 : (Cond.methodLink "TypeOrThing$Declarators" 48 ⟨"TypeOrThing$Tokens", "kindAt", "(I)I"⟩ : Cond) ∈ jn_T := jn_of (List.mem_of_getElem? (i := 596) (by decide +kernel)) (by decide +kernel)
theorem jw_597 : (Cond.methodLink "TypeOrThing$Declarators" 54 ⟨"TypeOrThing$Names", "use", "(I)V"⟩ : Cond) ∈ jn_T := jn_of (List.mem_of_getElem? (i := 597) (by decide +kernel)) (by decide +kernel)
theorem jw_598 : (Cond.instanceMethod ⟨"TypeOrThing$Names", "use", "(I)V"⟩ : Cond) ∈ jn_T := jn_of (List.mem_of_getElem? (i := 598) (by decide +kernel)) (by decide +kernel)
theorem jw_599 : (Cond.selects "TypeOrThing$Names" ⟨"TypeOrThing$Names", "use", "(I)V"⟩ ⟨"TypeOrThing$Names", "use", "(I)V"⟩ : Cond) ∈ jn_T := jn_of (List.mem_of_getElem? (i := 599) (by decide +kernel)) (by decide +kernel)
theorem jw_6 : (Cond.initialized "TypeOrThing$Cursor" : Cond) ∈ jn_T := jn_of (List.mem_of_getElem? (i := 6) (by decide +kernel)) (by decide +kernel)
theorem jw_600 : (Cond.code ⟨"TypeOrThing$Names", "use", "(I)V"⟩ prog_5_method_11_code 3 none : Cond) ∈ jn_T := jn_of (List.mem_of_getElem? (i := 600) (by decide +kernel)) (by decide +kernel)
theorem jw_601 : (Cond.methodLink "TypeOrThing$Programs" 88 ⟨"TypeOrThing$Names", "nextScope", "()I"⟩ : Cond) ∈ jn_T := jn_of (List.mem_of_getElem? (i := 601) (by decide +kernel)) (by decide +kernel)
theorem jw_602 : (Cond.instanceMethod ⟨"TypeOrThing$Names", "nextScope", "()I"⟩ : Cond) ∈ jn_T := jn_of (List.mem_of_getElem? (i := 602) (by decide +kernel)) (by decide +kernel)
theorem jw_603 : (Cond.selects "TypeOrThing$Names" ⟨"TypeOrThing$Names", "nextScope", "()I"⟩ ⟨"TypeOrThing$Names", "nextScope", "()I"⟩ : Cond) ∈ jn_T := jn_of (List.mem_of_getElem? (i := 603) (by decide +kernel)) (by decide +kernel)
theorem jw_604 : (Cond.code ⟨"TypeOrThing$Names", "nextScope", "()I"⟩ prog_5_method_3_code 1 (some .int) : Cond) ∈ jn_T := jn_of (List.mem_of_getElem? (i := 604) (by decide +kernel)) (by decide +kernel)
theorem jw_605 : (Cond.methodLink "TypeOrThing$Programs" 91 ⟨"TypeOrThing$Declarators", "namedDeclarator", "(IZ)I"⟩ : Cond) ∈ jn_T := jn_of (List.mem_of_getElem? (i := 605) (by decide +kernel)) (by decide +kernel)
theorem jw_606 : (Cond.instanceMethod ⟨"TypeOrThing$Declarators", "namedDeclarator", "(IZ)I"⟩ : Cond) ∈ jn_T := jn_of (List.mem_of_getElem? (i := 606) (by decide +kernel)) (by decide +kernel)
theorem jw_607 : (Cond.selects "TypeOrThing$Declarators" ⟨"TypeOrThing$Declarators", "namedDeclarator", "(IZ)I"⟩ ⟨"TypeOrThing$Declarators", "namedDeclarator", "(IZ)I"⟩ : Cond) ∈ jn_T := jn_of (List.mem_of_getElem? (i := 607) (by decide +kernel)) (by decide +kernel)
theorem jw_608 : (Cond.code ⟨"TypeOrThing$Declarators", "namedDeclarator", "(IZ)I"⟩ prog_3_method_4_code 5 (some .int) : Cond) ∈ jn_T := jn_of (List.mem_of_getElem? (i := 608) (by decide +kernel)) (by decide +kernel)
theorem jw_609 : (Cond.methodLink "TypeOrThing$Declarators" 74 ⟨"TypeOrThing$Declarators", "declarator", "(I)I"⟩ : Cond) ∈ jn_T := jn_of (List.mem_of_getElem? (i := 609) (by decide +kernel)) (by decide +kernel)
theorem jw_611 : (Cond.instanceMethod ⟨"TypeOrThing$Declarators", "declarator", "(I)I"⟩ : Cond) ∈ jn_T := jn_of (List.mem_of_getElem? (i := 611) (by decide +kernel)) (by decide +kernel)
theorem jw_612 : (Cond.code ⟨"TypeOrThing$Declarators", "declarator", "(I)I"⟩ prog_3_method_6_code 5 (some .int) : Cond) ∈ jn_T := jn_of (List.mem_of_getElem? (i := 612) (by decide +kernel)) (by decide +kernel)
theorem jw_613 : (Cond.methodLink "TypeOrThing$Declarators" 87 ⟨"TypeOrThing$Declarators", "stars", "()I"⟩ : Cond) ∈ jn_T := jn_of (List.mem_of_getElem? (i := 613) (by decide +kernel)) (by decide +kernel)
theorem jw_615 : (Cond.instanceMethod ⟨"TypeOrThing$Declarators", "stars", "()I"⟩ : Cond) ∈ jn_T := jn_of (List.mem_of_getElem? (i := 615) (by decide +kernel)) (by decide +kernel)
theorem jw_616 : (Cond.code ⟨"TypeOrThing$Declarators", "stars", "()I"⟩ prog_3_method_7_code 3 (some .int) : Cond) ∈ jn_T := jn_of (List.mem_of_getElem? (i := 616) (by decide +kernel)) (by decide +kernel)
theorem jw_617 : (Cond.methodLink "TypeOrThing$Declarators" 93 ⟨"TypeOrThing$Cursor", "sees", "(I)Z"⟩ : Cond) ∈ jn_T := jn_of (List.mem_of_getElem? (i := 617) (by decide +kernel)) (by decide +kernel)
theorem jw_618 : (Cond.methodLink "TypeOrThing$Declarators" 90 ⟨"TypeOrThing$Declarators", "direct", "(I)I"⟩ : Cond) ∈ jn_T := jn_of (List.mem_of_getElem? (i := 618) (by decide +kernel)) (by decide +kernel)
theorem jw_620 : (Cond.instanceMethod ⟨"TypeOrThing$Declarators", "direct", "(I)I"⟩ : Cond) ∈ jn_T := jn_of (List.mem_of_getElem? (i := 620) (by decide +kernel)) (by decide +kernel)
theorem jw_621 : (Cond.code ⟨"TypeOrThing$Declarators", "direct", "(I)I"⟩ prog_3_method_8_code 3 (some .int) : Cond) ∈ jn_T := jn_of (List.mem_of_getElem? (i := 621) (by decide +kernel)) (by decide +kernel)
theorem jw_622 : (Cond.methodLink "TypeOrThing$Declarators" 106 ⟨"TypeOrThing$Names", "canDeclare", "(I)Z"⟩ : Cond) ∈ jn_T := jn_of (List.mem_of_getElem? (i := 622) (by decide +kernel)) (by decide +kernel)
theorem jw_623 : (Cond.instanceMethod ⟨"TypeOrThing$Names", "canDeclare", "(I)Z"⟩ : Cond) ∈ jn_T := jn_of (List.mem_of_getElem? (i := 623) (by decide +kernel)) (by decide +kernel)
theorem jw_624 : (Cond.selects "TypeOrThing$Names" ⟨"TypeOrThing$Names", "canDeclare", "(I)Z"⟩ ⟨"TypeOrThing$Names", "canDeclare", "(I)Z"⟩ : Cond) ∈ jn_T := jn_of (List.mem_of_getElem? (i := 624) (by decide +kernel)) (by decide +kernel)
theorem jw_625 : (Cond.code ⟨"TypeOrThing$Names", "canDeclare", "(I)Z"⟩ prog_5_method_10_code 3 (some .boolean) : Cond) ∈ jn_T := jn_of (List.mem_of_getElem? (i := 625) (by decide +kernel)) (by decide +kernel)
theorem jw_626 : (Cond.methodLink "TypeOrThing$Declarators" 109 ⟨"TypeOrThing$Declarators", "isGroup", "(I)Z"⟩ : Cond) ∈ jn_T := jn_of (List.mem_of_getElem? (i := 626) (by decide +kernel)) (by decide +kernel)
theorem jw_628 : (Cond.instanceMethod ⟨"TypeOrThing$Declarators", "isGroup", "(I)Z"⟩ : Cond) ∈ jn_T := jn_of (List.mem_of_getElem? (i := 628) (by decide +kernel)) (by decide +kernel)
theorem jw_629 : (Cond.code ⟨"TypeOrThing$Declarators", "isGroup", "(I)Z"⟩ prog_3_method_9_code 2 (some .boolean) : Cond) ∈ jn_T := jn_of (List.mem_of_getElem? (i := 629) (by decide +kernel)) (by decide +kernel)
theorem jw_630 : (Cond.methodLink "TypeOrThing$Declarators" 115 ⟨"TypeOrThing$Cursor", "kindBehind", "()I"⟩ : Cond) ∈ jn_T := jn_of (List.mem_of_getElem? (i := 630) (by decide +kernel)) (by decide +kernel)
theorem jw_631 : (Cond.instanceMethod ⟨"TypeOrThing$Cursor", "kindBehind", "()I"⟩ : Cond) ∈ jn_T := jn_of (List.mem_of_getElem? (i := 631) (by decide +kernel)) (by decide +kernel)
theorem jw_632 : (Cond.selects "TypeOrThing$Cursor" ⟨"TypeOrThing$Cursor", "kindBehind", "()I"⟩ ⟨"TypeOrThing$Cursor", "kindBehind", "()I"⟩ : Cond) ∈ jn_T := jn_of (List.mem_of_getElem? (i := 632) (by decide +kernel)) (by decide +kernel)
theorem jw_633 : (Cond.code ⟨"TypeOrThing$Cursor", "kindBehind", "()I"⟩ prog_2_method_4_code 1 (some .int) : Cond) ∈ jn_T := jn_of (List.mem_of_getElem? (i := 633) (by decide +kernel)) (by decide +kernel)
theorem jw_634 : (Cond.methodLink "TypeOrThing$Declarators" 112 ⟨"TypeOrThing$Cursor", "expect", "(I)I"⟩ : Cond) ∈ jn_T := jn_of (List.mem_of_getElem? (i := 634) (by decide +kernel)) (by decide +kernel)
theorem jw_635 : (Cond.instanceMethod ⟨"TypeOrThing$Cursor", "expect", "(I)I"⟩ : Cond) ∈ jn_T := jn_of (List.mem_of_getElem? (i := 635) (by decide +kernel)) (by decide +kernel)
theorem jw_636 : (Cond.selects "TypeOrThing$Cursor" ⟨"TypeOrThing$Cursor", "expect", "(I)I"⟩ ⟨"TypeOrThing$Cursor", "expect", "(I)I"⟩ : Cond) ∈ jn_T := jn_of (List.mem_of_getElem? (i := 636) (by decide +kernel)) (by decide +kernel)
theorem jw_637 : (Cond.code ⟨"TypeOrThing$Cursor", "expect", "(I)I"⟩ prog_2_method_8_code 2 (some .int) : Cond) ∈ jn_T := jn_of (List.mem_of_getElem? (i := 637) (by decide +kernel)) (by decide +kernel)
theorem jw_638 : (Cond.methodLink "TypeOrThing$Cursor" 41 ⟨"TypeOrThing$Cursor", "require", "(Z)V"⟩ : Cond) ∈ jn_T := jn_of (List.mem_of_getElem? (i := 638) (by decide +kernel)) (by decide +kernel)
theorem jw_639 : (Cond.methodLink "TypeOrThing$Cursor" 45 ⟨"TypeOrThing$Cursor", "take", "()I"⟩ : Cond) ∈ jn_T := jn_of (List.mem_of_getElem? (i := 639) (by decide +kernel)) (by decide +kernel)
theorem jw_640 : (Cond.methodLink "TypeOrThing$Declarators" 96 ⟨"TypeOrThing$Declarators", "dimension", "()V"⟩ : Cond) ∈ jn_T := jn_of (List.mem_of_getElem? (i := 640) (by decide +kernel)) (by decide +kernel)
theorem jw_642 : (Cond.instanceMethod ⟨"TypeOrThing$Declarators", "dimension", "()V"⟩ : Cond) ∈ jn_T := jn_of (List.mem_of_getElem? (i := 642) (by decide +kernel)) (by decide +kernel)
theorem jw_643 : (Cond.code ⟨"TypeOrThing$Declarators", "dimension", "()V"⟩ prog_3_method_10_code 1 none : Cond) ∈ jn_T := jn_of (List.mem_of_getElem? (i := 643) (by decide +kernel)) (by decide +kernel)
theorem jw_644 : (Cond.methodLink "TypeOrThing$Declarators" 58 ⟨"TypeOrThing$Tape", "put", "(C)V"⟩ : Cond) ∈ jn_T := jn_of (List.mem_of_getElem? (i := 644) (by decide +kernel)) (by decide +kernel)
theorem jw_645 : (Cond.instanceMethod ⟨"TypeOrThing$Tape", "put", "(C)V"⟩ : Cond) ∈ jn_T := jn_of (List.mem_of_getElem? (i := 645) (by decide +kernel)) (by decide +kernel)
theorem jw_646 : (Cond.selects "TypeOrThing$Tape" ⟨"TypeOrThing$Tape", "put", "(C)V"⟩ ⟨"TypeOrThing$Tape", "put", "(C)V"⟩ : Cond) ∈ jn_T := jn_of (List.mem_of_getElem? (i := 646) (by decide +kernel)) (by decide +kernel)
theorem jw_647 : (Cond.code ⟨"TypeOrThing$Tape", "put", "(C)V"⟩ prog_7_method_4_code 2 none : Cond) ∈ jn_T := jn_of (List.mem_of_getElem? (i := 647) (by decide +kernel)) (by decide +kernel)
theorem jw_648 : (Cond.methodLink "TypeOrThing$Declarators" 118 ⟨"TypeOrThing$Tokens", "wordAt", "(I)J"⟩ : Cond) ∈ jn_T := jn_of (List.mem_of_getElem? (i := 648) (by decide +kernel)) (by decide +kernel)
theorem jw_649 : (Cond.instanceMethod ⟨"TypeOrThing$Tokens", "wordAt", "(I)J"⟩ : Cond) ∈ jn_T := jn_of (List.mem_of_getElem? (i := 649) (by decide +kernel)) (by decide +kernel)
theorem jw_650 : (Cond.selects "TypeOrThing$Tokens" ⟨"TypeOrThing$Tokens", "wordAt", "(I)J"⟩ ⟨"TypeOrThing$Tokens", "wordAt", "(I)J"⟩ : Cond) ∈ jn_T := jn_of (List.mem_of_getElem? (i := 650) (by decide +kernel)) (by decide +kernel)
theorem jw_651 : (Cond.code ⟨"TypeOrThing$Tokens", "wordAt", "(I)J"⟩ prog_8_method_3_code 2 (some .long) : Cond) ∈ jn_T := jn_of (List.mem_of_getElem? (i := 651) (by decide +kernel)) (by decide +kernel)
theorem jw_652 : (Cond.methodLink "TypeOrThing$Declarators" 122 ⟨"TypeOrThing$Tape", "putWord", "(J)V"⟩ : Cond) ∈ jn_T := jn_of (List.mem_of_getElem? (i := 652) (by decide +kernel)) (by decide +kernel)
theorem jw_653 : (Cond.instanceMethod ⟨"TypeOrThing$Tape", "putWord", "(J)V"⟩ : Cond) ∈ jn_T := jn_of (List.mem_of_getElem? (i := 653) (by decide +kernel)) (by decide +kernel)
theorem jw_654 : (Cond.selects "TypeOrThing$Tape" ⟨"TypeOrThing$Tape", "putWord", "(J)V"⟩ ⟨"TypeOrThing$Tape", "putWord", "(J)V"⟩ : Cond) ∈ jn_T := jn_of (List.mem_of_getElem? (i := 654) (by decide +kernel)) (by decide +kernel)
theorem jw_655 : (Cond.code ⟨"TypeOrThing$Tape", "putWord", "(J)V"⟩ prog_7_method_7_code 5 none : Cond) ∈ jn_T := jn_of (List.mem_of_getElem? (i := 655) (by decide +kernel)) (by decide +kernel)
theorem jw_657 : (Cond.methodLink "TypeOrThing$Tape" 19 ⟨"TypeOrThing$Tape", "put", "(C)V"⟩ : Cond) ∈ jn_T := jn_of (List.mem_of_getElem? (i := 657) (by decide +kernel)) (by decide +kernel)
theorem jw_658 : (Cond.methodLink "TypeOrThing$Declarators" 99 ⟨"TypeOrThing$Declarators", "parameters", "()V"⟩ : Cond) ∈ jn_T := jn_of (List.mem_of_getElem? (i := 658) (by decide +kernel)) (by decide +kernel)
theorem jw_660 : (Cond.instanceMethod ⟨"TypeOrThing$Declarators", "parameters", "()V"⟩ : Cond) ∈ jn_T := jn_of (List.mem_of_getElem? (i := 660) (by decide +kernel)) (by decide +kernel)
theorem jw_661 : (Cond.code ⟨"TypeOrThing$Declarators", "parameters", "()V"⟩ prog_3_method_11_code 2 none : Cond) ∈ jn_T := jn_of (List.mem_of_getElem? (i := 661) (by decide +kernel)) (by decide +kernel)
theorem jw_662 : (Cond.methodLink "TypeOrThing$Declarators" 126 ⟨"TypeOrThing$Names", "newScope", "()I"⟩ : Cond) ∈ jn_T := jn_of (List.mem_of_getElem? (i := 662) (by decide +kernel)) (by decide +kernel)
theorem jw_663 : (Cond.methodLink "TypeOrThing$Declarators" 129 ⟨"TypeOrThing$Names", "openScope", "(I)V"⟩ : Cond) ∈ jn_T := jn_of (List.mem_of_getElem? (i := 663) (by decide +kernel)) (by decide +kernel)
theorem jw_664 : (Cond.methodLink "TypeOrThing$Declarators" 132 ⟨"TypeOrThing$Declarators", "typed", "(I)V"⟩ : Cond) ∈ jn_T := jn_of (List.mem_of_getElem? (i := 664) (by decide +kernel)) (by decide +kernel)
theorem jw_665 : (Cond.instanceMethod ⟨"TypeOrThing$Declarators", "typed", "(I)V"⟩ : Cond) ∈ jn_T := jn_of (List.mem_of_getElem? (i := 665) (by decide +kernel)) (by decide +kernel)
theorem jw_666 : (Cond.selects "TypeOrThing$Declarators" ⟨"TypeOrThing$Declarators", "typed", "(I)V"⟩ ⟨"TypeOrThing$Declarators", "typed", "(I)V"⟩ : Cond) ∈ jn_T := jn_of (List.mem_of_getElem? (i := 666) (by decide +kernel)) (by decide +kernel)
theorem jw_667 : (Cond.code ⟨"TypeOrThing$Declarators", "typed", "(I)V"⟩ prog_3_method_5_code 5 none : Cond) ∈ jn_T := jn_of (List.mem_of_getElem? (i := 667) (by decide +kernel)) (by decide +kernel)
theorem jw_668 : (Cond.methodLink "TypeOrThing$Declarators" 84 ⟨"TypeOrThing$Declarators", "base", "()I"⟩ : Cond) ∈ jn_T := jn_of (List.mem_of_getElem? (i := 668) (by decide +kernel)) (by decide +kernel)
theorem jw_669 : (Cond.methodLink "TypeOrThing$Declarators" 77 ⟨"TypeOrThing$Declarators", "writeBase", "(I)V"⟩ : Cond) ∈ jn_T := jn_of (List.mem_of_getElem? (i := 669) (by decide +kernel)) (by decide +kernel)
theorem jw_67 : (Cond.fieldLink "TypeOrThing$Tape" 9 "TypeOrThing$Tape" "cells" "[C" : Cond) ∈ jn_T := jn_of (List.mem_of_getElem? (i := 67) (by decide +kernel)) (by decide +kernel)
theorem jw_671 : (Cond.instanceMethod ⟨"TypeOrThing$Declarators", "writeBase", "(I)V"⟩ : Cond) ∈ jn_T := jn_of (List.mem_of_getElem? (i := 671) (by decide +kernel)) (by decide +kernel)
theorem jw_672 : (Cond.code ⟨"TypeOrThing$Declarators", "writeBase", "(I)V"⟩ prog_3_method_3_code 2 none : Cond) ∈ jn_T := jn_of (List.mem_of_getElem? (i := 672) (by decide +kernel)) (by decide +kernel)
theorem jw_673 : (Cond.methodLink "TypeOrThing$Declarators" 68 ⟨"TypeOrThing$Tape", "putCount", "(I)V"⟩ : Cond) ∈ jn_T := jn_of (List.mem_of_getElem? (i := 673) (by decide +kernel)) (by decide +kernel)
theorem jw_674 : (Cond.instanceMethod ⟨"TypeOrThing$Tape", "putCount", "(I)V"⟩ : Cond) ∈ jn_T := jn_of (List.mem_of_getElem? (i := 674) (by decide +kernel)) (by decide +kernel)
theorem jw_675 : (Cond.selects "TypeOrThing$Tape" ⟨"TypeOrThing$Tape", "putCount", "(I)V"⟩ ⟨"TypeOrThing$Tape", "putCount", "(I)V"⟩ : Cond) ∈ jn_T := jn_of (List.mem_of_getElem? (i := 675) (by decide +kernel)) (by decide +kernel)
theorem jw_676 : (Cond.code ⟨"TypeOrThing$Tape", "putCount", "(I)V"⟩ prog_7_method_8_code 2 none : Cond) ∈ jn_T := jn_of (List.mem_of_getElem? (i := 676) (by decide +kernel)) (by decide +kernel)
theorem jw_677 : (Cond.methodLink "TypeOrThing$Declarators" 80 ⟨"TypeOrThing$Names", "declare", "(IIZ)I"⟩ : Cond) ∈ jn_T := jn_of (List.mem_of_getElem? (i := 677) (by decide +kernel)) (by decide +kernel)
theorem jw_678 : (Cond.instanceMethod ⟨"TypeOrThing$Names", "declare", "(IIZ)I"⟩ : Cond) ∈ jn_T := jn_of (List.mem_of_getElem? (i := 678) (by decide +kernel)) (by decide +kernel)
theorem jw_679 : (Cond.selects "TypeOrThing$Names" ⟨"TypeOrThing$Names", "declare", "(IIZ)I"⟩ ⟨"TypeOrThing$Names", "declare", "(IIZ)I"⟩ : Cond) ∈ jn_T := jn_of (List.mem_of_getElem? (i := 679) (by decide +kernel)) (by decide +kernel)
theorem jw_68 : (Cond.fieldLink "TypeOrThing$Tape" 15 "TypeOrThing$Tape" "size" "I" : Cond) ∈ jn_T := jn_of (List.mem_of_getElem? (i := 68) (by decide +kernel)) (by decide +kernel)
theorem jw_680 : (Cond.code ⟨"TypeOrThing$Names", "declare", "(IIZ)I"⟩ prog_5_method_12_code 5 (some .int) : Cond) ∈ jn_T := jn_of (List.mem_of_getElem? (i := 680) (by decide +kernel)) (by decide +kernel)
theorem jw_681 : (Cond.methodLink "TypeOrThing$Names" 76 ⟨"java/lang/Math", "min", "(II)I"⟩ : Cond) ∈ jn_T := jn_of (List.mem_of_getElem? (i := 681) (by decide +kernel)) (by decide +kernel)
theorem jw_682 : (Cond.methodLink "TypeOrThing$Names" 85 ⟨"TypeOrThing$Names", "sortOf", "(IZ)I"⟩ : Cond) ∈ jn_T := jn_of (List.mem_of_getElem? (i := 682) (by decide +kernel)) (by decide +kernel)
theorem jw_684 : (Cond.instanceMethod ⟨"TypeOrThing$Names", "sortOf", "(IZ)I"⟩ : Cond) ∈ jn_T := jn_of (List.mem_of_getElem? (i := 684) (by decide +kernel)) (by decide +kernel)
theorem jw_685 : (Cond.code ⟨"TypeOrThing$Names", "sortOf", "(IZ)I"⟩ prog_5_method_13_code 3 (some .int) : Cond) ∈ jn_T := jn_of (List.mem_of_getElem? (i := 685) (by decide +kernel)) (by decide +kernel)
theorem jw_686 : (Cond.methodLink "TypeOrThing$Names" 89 ⟨"TypeOrThing$Tape", "cell", "(I)C"⟩ : Cond) ∈ jn_T := jn_of (List.mem_of_getElem? (i := 686) (by decide +kernel)) (by decide +kernel)
theorem jw_687 : (Cond.instanceMethod ⟨"TypeOrThing$Tape", "cell", "(I)C"⟩ : Cond) ∈ jn_T := jn_of (List.mem_of_getElem? (i := 687) (by decide +kernel)) (by decide +kernel)
theorem jw_688 : (Cond.selects "TypeOrThing$Tape" ⟨"TypeOrThing$Tape", "cell", "(I)C"⟩ ⟨"TypeOrThing$Tape", "cell", "(I)C"⟩ : Cond) ∈ jn_T := jn_of (List.mem_of_getElem? (i := 688) (by decide +kernel)) (by decide +kernel)
theorem jw_689 : (Cond.code ⟨"TypeOrThing$Tape", "cell", "(I)C"⟩ prog_7_method_3_code 2 (some .char) : Cond) ∈ jn_T := jn_of (List.mem_of_getElem? (i := 689) (by decide +kernel)) (by decide +kernel)
theorem jw_69 : (Cond.fieldLink "TypeOrThing$Declarators" 71 "TypeOrThing$Tape" "size" "I" : Cond) ∈ jn_T := jn_of (List.mem_of_getElem? (i := 69) (by decide +kernel)) (by decide +kernel)
theorem jw_690 : (Cond.methodLink "TypeOrThing$Declarators" 135 ⟨"TypeOrThing$Names", "closeScope", "()V"⟩ : Cond) ∈ jn_T := jn_of (List.mem_of_getElem? (i := 690) (by decide +kernel)) (by decide +kernel)
theorem jw_691 : (Cond.instanceMethod ⟨"TypeOrThing$Names", "closeScope", "()V"⟩ : Cond) ∈ jn_T := jn_of (List.mem_of_getElem? (i := 691) (by decide +kernel)) (by decide +kernel)
theorem jw_692 : (Cond.selects "TypeOrThing$Names" ⟨"TypeOrThing$Names", "closeScope", "()V"⟩ ⟨"TypeOrThing$Names", "closeScope", "()V"⟩ : Cond) ∈ jn_T := jn_of (List.mem_of_getElem? (i := 692) (by decide +kernel)) (by decide +kernel)
theorem jw_693 : (Cond.code ⟨"TypeOrThing$Names", "closeScope", "()V"⟩ prog_5_method_6_code 1 none : Cond) ∈ jn_T := jn_of (List.mem_of_getElem? (i := 693) (by decide +kernel)) (by decide +kernel)
theorem jw_694 : (Cond.methodLink "TypeOrThing$Declarators" 102 ⟨"TypeOrThing$Tape", "putTimes", "(CI)V"⟩ : Cond) ∈ jn_T := jn_of (List.mem_of_getElem? (i := 694) (by decide +kernel)) (by decide +kernel)
theorem jw_695 : (Cond.instanceMethod ⟨"TypeOrThing$Tape", "putTimes", "(CI)V"⟩ : Cond) ∈ jn_T := jn_of (List.mem_of_getElem? (i := 695) (by decide +kernel)) (by decide +kernel)
theorem jw_696 : (Cond.selects "TypeOrThing$Tape" ⟨"TypeOrThing$Tape", "putTimes", "(CI)V"⟩ ⟨"TypeOrThing$Tape", "putTimes", "(CI)V"⟩ : Cond) ∈ jn_T := jn_of (List.mem_of_getElem? (i := 696) (by decide +kernel)) (by decide +kernel)
theorem jw_697 : (Cond.code ⟨"TypeOrThing$Tape", "putTimes", "(CI)V"⟩ prog_7_method_5_code 4 none : Cond) ∈ jn_T := jn_of (List.mem_of_getElem? (i := 697) (by decide +kernel)) (by decide +kernel)
theorem jw_698 : (Cond.methodLink "TypeOrThing$Programs" 95 ⟨"TypeOrThing$Programs", "writeDeclared", "(I)V"⟩ : Cond) ∈ jn_T := jn_of (List.mem_of_getElem? (i := 698) (by decide +kernel)) (by decide +kernel)
theorem jw_7 : (Cond.initialized "TypeOrThing$Declarators" : Cond) ∈ jn_T := jn_of (List.mem_of_getElem? (i := 7) (by decide +kernel)) (by decide +kernel)
theorem jw_70 : (Cond.fieldLink "TypeOrThing$Expressions" 91 "TypeOrThing$Tape" "size" "I" : Cond) ∈ jn_T := jn_of (List.mem_of_getElem? (i := 70) (by decide +kernel)) (by decide +kernel)
theorem jw_700 : (Cond.instanceMethod ⟨"TypeOrThing$Programs", "writeDeclared", "(I)V"⟩ : Cond) ∈ jn_T := jn_of (List.mem_of_getElem? (i := 700) (by decide +kernel)) (by decide +kernel)
theorem jw_701 : (Cond.code ⟨"TypeOrThing$Programs", "writeDeclared", "(I)V"⟩ prog_6_method_6_code 2 none : Cond) ∈ jn_T := jn_of (List.mem_of_getElem? (i := 701) (by decide +kernel)) (by decide +kernel)
theorem jw_702 : (Cond.methodLink "TypeOrThing$Programs" 111 ⟨"TypeOrThing$Tape", "put", "(C)V"⟩ : Cond) ∈ jn_T := jn_of (List.mem_of_getElem? (i := 702) (by decide +kernel)) (by decide +kernel)
theorem jw_703 : (Cond.methodLink "TypeOrThing$Programs" 125 ⟨"TypeOrThing$Tokens", "wordAt", "(I)J"⟩ : Cond) ∈ jn_T := jn_of (List.mem_of_getElem? (i := 703) (by decide +kernel)) (by decide +kernel)
theorem jw_704 : (Cond.methodLink "TypeOrThing$Programs" 131 ⟨"TypeOrThing$Tape", "putWord", "(J)V"⟩ : Cond) ∈ jn_T := jn_of (List.mem_of_getElem? (i := 704) (by decide +kernel)) (by decide +kernel)
theorem jw_705 : (Cond.methodLink "TypeOrThing$Programs" 144 ⟨"TypeOrThing$Tape", "putPart", "(LTypeOrThing$Tape;II)V"⟩ : Cond) ∈ jn_T := jn_of (List.mem_of_getElem? (i := 705) (by decide +kernel)) (by decide +kernel)
theorem jw_706 : (Cond.instanceMethod ⟨"TypeOrThing$Tape", "putPart", "(LTypeOrThing$Tape;II)V"⟩ : Cond) ∈ jn_T := jn_of (List.mem_of_getElem? (i := 706) (by decide +kernel)) (by decide +kernel)
theorem jw_707 : (Cond.selects "TypeOrThing$Tape" ⟨"TypeOrThing$Tape", "putPart", "(LTypeOrThing$Tape;II)V"⟩ ⟨"TypeOrThing$Tape", "putPart", "(LTypeOrThing$Tape;II)V"⟩ : Cond) ∈ jn_T := jn_of (List.mem_of_getElem? (i := 707) (by decide +kernel)) (by decide +kernel)
theorem jw_708 : (Cond.code ⟨"TypeOrThing$Tape", "putPart", "(LTypeOrThing$Tape;II)V"⟩ prog_7_method_6_code 5 none : Cond) ∈ jn_T := jn_of (List.mem_of_getElem? (i := 708) (by decide +kernel)) (by decide +kernel)
theorem jw_709 : (Cond.methodLink "TypeOrThing$Tape" 23 ⟨"TypeOrThing$Tape", "cell", "(I)C"⟩ : Cond) ∈ jn_T := jn_of (List.mem_of_getElem? (i := 709) (by decide +kernel)) (by decide +kernel)
theorem jw_71 : (Cond.fieldLink "TypeOrThing" 118 "TypeOrThing$Tape" "size" "I" : Cond) ∈ jn_T := jn_of (List.mem_of_getElem? (i := 71) (by decide +kernel)) (by decide +kernel)
theorem jw_710 : (Cond.methodLink "TypeOrThing$Programs" 102 ⟨"TypeOrThing$Programs", "block", "(I)V"⟩ : Cond) ∈ jn_T := jn_of (List.mem_of_getElem? (i := 710) (by decide +kernel)) (by decide +kernel)
theorem jw_712 : (Cond.instanceMethod ⟨"TypeOrThing$Programs", "block", "(I)V"⟩ : Cond) ∈ jn_T := jn_of (List.mem_of_getElem? (i := 712) (by decide +kernel)) (by decide +kernel)
theorem jw_713 : (Cond.code ⟨"TypeOrThing$Programs", "block", "(I)V"⟩ prog_6_method_7_code 3 none : Cond) ∈ jn_T := jn_of (List.mem_of_getElem? (i := 713) (by decide +kernel)) (by decide +kernel)
theorem jw_714 : (Cond.methodLink "TypeOrThing$Programs" 115 ⟨"TypeOrThing$Cursor", "expect", "(I)I"⟩ : Cond) ∈ jn_T := jn_of (List.mem_of_getElem? (i := 714) (by decide +kernel)) (by decide +kernel)
theorem jw_715 : (Cond.methodLink "TypeOrThing$Programs" 148 ⟨"TypeOrThing$Names", "isBase", "(I)Z"⟩ : Cond) ∈ jn_T := jn_of (List.mem_of_getElem? (i := 715) (by decide +kernel)) (by decide +kernel)
theorem jw_716 : (Cond.methodLink "TypeOrThing$Programs" 151 ⟨"TypeOrThing$Programs", "statement", "()V"⟩ : Cond) ∈ jn_T := jn_of (List.mem_of_getElem? (i := 716) (by decide +kernel)) (by decide +kernel)
theorem jw_718 : (Cond.instanceMethod ⟨"TypeOrThing$Programs", "statement", "()V"⟩ : Cond) ∈ jn_T := jn_of (List.mem_of_getElem? (i := 718) (by decide +kernel)) (by decide +kernel)
theorem jw_719 : (Cond.code ⟨"TypeOrThing$Programs", "statement", "()V"⟩ prog_6_method_8_code 1 none : Cond) ∈ jn_T := jn_of (List.mem_of_getElem? (i := 719) (by decide +kernel)) (by decide +kernel)
theorem jw_72 : (Cond.fieldLink "TypeOrThing$Names" 82 "TypeOrThing$Tape" "size" "I" : Cond) ∈ jn_T := jn_of (List.mem_of_getElem? (i := 72) (by decide +kernel)) (by decide +kernel)
theorem jw_720 : (Cond.methodLink "TypeOrThing$Programs" 157 ⟨"TypeOrThing$Cursor", "kindHere", "()I"⟩ : Cond) ∈ jn_T := jn_of (List.mem_of_getElem? (i := 720) (by decide +kernel)) (by decide +kernel)
theorem jw_721 : (Cond.instanceMethod ⟨"TypeOrThing$Cursor", "kindHere", "()I"⟩ : Cond) ∈ jn_T := jn_of (List.mem_of_getElem? (i := 721) (by decide +kernel)) (by decide +kernel)
theorem jw_722 : (Cond.selects "TypeOrThing$Cursor" ⟨"TypeOrThing$Cursor", "kindHere", "()I"⟩ ⟨"TypeOrThing$Cursor", "kindHere", "()I"⟩ : Cond) ∈ jn_T := jn_of (List.mem_of_getElem? (i := 722) (by decide +kernel)) (by decide +kernel)
theorem jw_723 : (Cond.code ⟨"TypeOrThing$Cursor", "kindHere", "()I"⟩ prog_2_method_3_code 1 (some .int) : Cond) ∈ jn_T := jn_of (List.mem_of_getElem? (i := 723) (by decide +kernel)) (by decide +kernel)
theorem jw_724 : (Cond.methodLink "TypeOrThing$Programs" 160 ⟨"TypeOrThing$Programs", "endWith", "(C)V"⟩ : Cond) ∈ jn_T := jn_of (List.mem_of_getElem? (i := 724) (by decide +kernel)) (by decide +kernel)
theorem jw_726 : (Cond.instanceMethod ⟨"TypeOrThing$Programs", "endWith", "(C)V"⟩ : Cond) ∈ jn_T := jn_of (List.mem_of_getElem? (i := 726) (by decide +kernel)) (by decide +kernel)
theorem jw_727 : (Cond.code ⟨"TypeOrThing$Programs", "endWith", "(C)V"⟩ prog_6_method_9_code 2 none : Cond) ∈ jn_T := jn_of (List.mem_of_getElem? (i := 727) (by decide +kernel)) (by decide +kernel)
theorem jw_728 : (Cond.methodLink "TypeOrThing$Programs" 163 ⟨"TypeOrThing$Programs", "choice", "()V"⟩ : Cond) ∈ jn_T := jn_of (List.mem_of_getElem? (i := 728) (by decide +kernel)) (by decide +kernel)
theorem jw_730 : (Cond.instanceMethod ⟨"TypeOrThing$Programs", "choice", "()V"⟩ : Cond) ∈ jn_T := jn_of (List.mem_of_getElem? (i := 730) (by decide +kernel)) (by decide +kernel)
theorem jw_731 : (Cond.code ⟨"TypeOrThing$Programs", "choice", "()V"⟩ prog_6_method_10_code 1 none : Cond) ∈ jn_T := jn_of (List.mem_of_getElem? (i := 731) (by decide +kernel)) (by decide +kernel)
theorem jw_732 : (Cond.methodLink "TypeOrThing$Programs" 166 ⟨"TypeOrThing$Programs", "conditional", "(C)V"⟩ : Cond) ∈ jn_T := jn_of (List.mem_of_getElem? (i := 732) (by decide +kernel)) (by decide +kernel)
theorem jw_734 : (Cond.instanceMethod ⟨"TypeOrThing$Programs", "conditional", "(C)V"⟩ : Cond) ∈ jn_T := jn_of (List.mem_of_getElem? (i := 734) (by decide +kernel)) (by decide +kernel)
theorem jw_735 : (Cond.code ⟨"TypeOrThing$Programs", "conditional", "(C)V"⟩ prog_6_method_11_code 2 none : Cond) ∈ jn_T := jn_of (List.mem_of_getElem? (i := 735) (by decide +kernel)) (by decide +kernel)
theorem jw_736 : (Cond.methodLink "TypeOrThing$Programs" 108 ⟨"TypeOrThing$Expressions", "expression", "()V"⟩ : Cond) ∈ jn_T := jn_of (List.mem_of_getElem? (i := 736) (by decide +kernel)) (by decide +kernel)
theorem jw_737 : (Cond.instanceMethod ⟨"TypeOrThing$Expressions", "expression", "()V"⟩ : Cond) ∈ jn_T := jn_of (List.mem_of_getElem? (i := 737) (by decide +kernel)) (by decide +kernel)
theorem jw_738 : (Cond.selects "TypeOrThing$Expressions" ⟨"TypeOrThing$Expressions", "expression", "()V"⟩ ⟨"TypeOrThing$Expressions", "expression", "()V"⟩ : Cond) ∈ jn_T := jn_of (List.mem_of_getElem? (i := 738) (by decide +kernel)) (by decide +kernel)
theorem jw_739 : (Cond.code ⟨"TypeOrThing$Expressions", "expression", "()V"⟩ prog_4_method_3_code 4 none : Cond) ∈ jn_T := jn_of (List.mem_of_getElem? (i := 739) (by decide +kernel)) (by decide +kernel)
theorem jw_740 : (Cond.methodLink "TypeOrThing$Expressions" 46 ⟨"TypeOrThing$Expressions", "sum", "()Z"⟩ : Cond) ∈ jn_T := jn_of (List.mem_of_getElem? (i := 740) (by decide +kernel)) (by decide +kernel)
theorem jw_742 : (Cond.instanceMethod ⟨"TypeOrThing$Expressions", "sum", "()Z"⟩ : Cond) ∈ jn_T := jn_of (List.mem_of_getElem? (i := 742) (by decide +kernel)) (by decide +kernel)
theorem jw_743 : (Cond.code ⟨"TypeOrThing$Expressions", "sum", "()Z"⟩ prog_4_method_4_code 4 (some .boolean) : Cond) ∈ jn_T := jn_of (List.mem_of_getElem? (i := 743) (by decide +kernel)) (by decide +kernel)
theorem jw_744 : (Cond.methodLink "TypeOrThing$Expressions" 70 ⟨"TypeOrThing$Expressions", "product", "()Z"⟩ : Cond) ∈ jn_T := jn_of (List.mem_of_getElem? (i := 744) (by decide +kernel)) (by decide +kernel)
theorem jw_746 : (Cond.instanceMethod ⟨"TypeOrThing$Expressions", "product", "()Z"⟩ : Cond) ∈ jn_T := jn_of (List.mem_of_getElem? (i := 746) (by decide +kernel)) (by decide +kernel)
theorem jw_747 : (Cond.code ⟨"TypeOrThing$Expressions", "product", "()Z"⟩ prog_4_method_5_code 4 (some .boolean) : Cond) ∈ jn_T := jn_of (List.mem_of_getElem? (i := 747) (by decide +kernel)) (by decide +kernel)
theorem jw_748 : (Cond.methodLink "TypeOrThing$Expressions" 76 ⟨"TypeOrThing$Expressions", "cast", "()Z"⟩ : Cond) ∈ jn_T := jn_of (List.mem_of_getElem? (i := 748) (by decide +kernel)) (by decide +kernel)
theorem jw_750 : (Cond.instanceMethod ⟨"TypeOrThing$Expressions", "cast", "()Z"⟩ : Cond) ∈ jn_T := jn_of (List.mem_of_getElem? (i := 750) (by decide +kernel)) (by decide +kernel)
theorem jw_751 : (Cond.code ⟨"TypeOrThing$Expressions", "cast", "()Z"⟩ prog_4_method_6_code 7 (some .boolean) : Cond) ∈ jn_T := jn_of (List.mem_of_getElem? (i := 751) (by decide +kernel)) (by decide +kernel)
theorem jw_752 : (Cond.methodLink "TypeOrThing$Expressions" 79 ⟨"TypeOrThing$Expressions", "seesPrefix", "()Z"⟩ : Cond) ∈ jn_T := jn_of (List.mem_of_getElem? (i := 752) (by decide +kernel)) (by decide +kernel)
theorem jw_754 : (Cond.instanceMethod ⟨"TypeOrThing$Expressions", "seesPrefix", "()Z"⟩ : Cond) ∈ jn_T := jn_of (List.mem_of_getElem? (i := 754) (by decide +kernel)) (by decide +kernel)
theorem jw_755 : (Cond.code ⟨"TypeOrThing$Expressions", "seesPrefix", "()Z"⟩ prog_4_method_7_code 1 (some .boolean) : Cond) ∈ jn_T := jn_of (List.mem_of_getElem? (i := 755) (by decide +kernel)) (by decide +kernel)
theorem jw_756 : (Cond.methodLink "TypeOrThing$Expressions" 73 ⟨"TypeOrThing$Cursor", "kindHere", "()I"⟩ : Cond) ∈ jn_T := jn_of (List.mem_of_getElem? (i := 756) (by decide +kernel)) (by decide +kernel)
theorem jw_757 : (Cond.methodLink "TypeOrThing$Expressions" 117 ⟨"TypeOrThing$Names", "isBase", "(I)Z"⟩ : Cond) ∈ jn_T := jn_of (List.mem_of_getElem? (i := 757) (by decide +kernel)) (by decide +kernel)
theorem jw_758 : (Cond.methodLink "TypeOrThing$Expressions" 82 ⟨"TypeOrThing$Expressions", "prefixFor", "(I)C"⟩ : Cond) ∈ jn_T := jn_of (List.mem_of_getElem? (i := 758) (by decide +kernel)) (by decide +kernel)
theorem jw_759 : (Cond.static ⟨"TypeOrThing$Expressions", "prefixFor", "(I)C"⟩ : Cond) ∈ jn_T := jn_of (List.mem_of_getElem? (i := 759) (by decide +kernel)) (by decide +kernel)
theorem jw_760 : (Cond.code ⟨"TypeOrThing$Expressions", "prefixFor", "(I)C"⟩ prog_4_method_8_code 1 (some .char) : Cond) ∈ jn_T := jn_of (List.mem_of_getElem? (i := 760) (by decide +kernel)) (by decide +kernel)
theorem jw_761 : (Cond.methodLink "TypeOrThing$Expressions" 50 ⟨"TypeOrThing$Cursor", "sees", "(I)Z"⟩ : Cond) ∈ jn_T := jn_of (List.mem_of_getElem? (i := 761) (by decide +kernel)) (by decide +kernel)
theorem jw_762 : (Cond.methodLink "TypeOrThing$Expressions" 56 ⟨"TypeOrThing$Cursor", "take", "()I"⟩ : Cond) ∈ jn_T := jn_of (List.mem_of_getElem? (i := 762) (by decide +kernel)) (by decide +kernel)
theorem jw_763 : (Cond.methodLink "TypeOrThing$Expressions" 96 ⟨"TypeOrThing$Declarators", "typed", "(I)V"⟩ : Cond) ∈ jn_T := jn_of (List.mem_of_getElem? (i := 763) (by decide +kernel)) (by decide +kernel)
theorem jw_764 : (Cond.methodLink "TypeOrThing$Expressions" 100 ⟨"TypeOrThing$Cursor", "expect", "(I)I"⟩ : Cond) ∈ jn_T := jn_of (List.mem_of_getElem? (i := 764) (by decide +kernel)) (by decide +kernel)
theorem jw_765 : (Cond.methodLink "TypeOrThing$Expressions" 104 ⟨"TypeOrThing$Expressions", "push", "(CII)V"⟩ : Cond) ∈ jn_T := jn_of (List.mem_of_getElem? (i := 765) (by decide +kernel)) (by decide +kernel)
theorem jw_767 : (Cond.instanceMethod ⟨"TypeOrThing$Expressions", "push", "(CII)V"⟩ : Cond) ∈ jn_T := jn_of (List.mem_of_getElem? (i := 767) (by decide +kernel)) (by decide +kernel)
theorem jw_768 : (Cond.code ⟨"TypeOrThing$Expressions", "push", "(CII)V"⟩ prog_4_method_9_code 4 none : Cond) ∈ jn_T := jn_of (List.mem_of_getElem? (i := 768) (by decide +kernel)) (by decide +kernel)
theorem jw_769 : (Cond.methodLink "TypeOrThing$Expressions" 108 ⟨"TypeOrThing$Expressions", "postfix", "()Z"⟩ : Cond) ∈ jn_T := jn_of (List.mem_of_getElem? (i := 769) (by decide +kernel)) (by decide +kernel)
theorem jw_771 : (Cond.instanceMethod ⟨"TypeOrThing$Expressions", "postfix", "()Z"⟩ : Cond) ∈ jn_T := jn_of (List.mem_of_getElem? (i := 771) (by decide +kernel)) (by decide +kernel)
theorem jw_772 : (Cond.code ⟨"TypeOrThing$Expressions", "postfix", "()Z"⟩ prog_4_method_11_code 3 (some .boolean) : Cond) ∈ jn_T := jn_of (List.mem_of_getElem? (i := 772) (by decide +kernel)) (by decide +kernel)
theorem jw_773 : (Cond.methodLink "TypeOrThing$Expressions" 124 ⟨"TypeOrThing$Expressions", "primary", "()Z"⟩ : Cond) ∈ jn_T := jn_of (List.mem_of_getElem? (i := 773) (by decide +kernel)) (by decide +kernel)
theorem jw_775 : (Cond.instanceMethod ⟨"TypeOrThing$Expressions", "primary", "()Z"⟩ : Cond) ∈ jn_T := jn_of (List.mem_of_getElem? (i := 775) (by decide +kernel)) (by decide +kernel)
theorem jw_776 : (Cond.code ⟨"TypeOrThing$Expressions", "primary", "()Z"⟩ prog_4_method_14_code 1 (some .boolean) : Cond) ∈ jn_T := jn_of (List.mem_of_getElem? (i := 776) (by decide +kernel)) (by decide +kernel)
theorem jw_777 : (Cond.methodLink "TypeOrThing$Expressions" 133 ⟨"TypeOrThing$Expressions", "expression", "()V"⟩ : Cond) ∈ jn_T := jn_of (List.mem_of_getElem? (i := 777) (by decide +kernel)) (by decide +kernel)
theorem jw_778 : (Cond.methodLink "TypeOrThing$Expressions" 139 ⟨"TypeOrThing$Names", "meansThing", "(I)Z"⟩ : Cond) ∈ jn_T := jn_of (List.mem_of_getElem? (i := 778) (by decide +kernel)) (by decide +kernel)
theorem jw_779 : (Cond.instanceMethod ⟨"TypeOrThing$Names", "meansThing", "(I)Z"⟩ : Cond) ∈ jn_T := jn_of (List.mem_of_getElem? (i := 779) (by decide +kernel)) (by decide +kernel)
theorem jw_78 : (Cond.fieldLink "TypeOrThing$Names" 56 "TypeOrThing$Names" "tokens" "LTypeOrThing$Tokens;" : Cond) ∈ jn_T := jn_of (List.mem_of_getElem? (i := 78) (by decide +kernel)) (by decide +kernel)
theorem jw_780 : (Cond.selects "TypeOrThing$Names" ⟨"TypeOrThing$Names", "meansThing", "(I)Z"⟩ ⟨"TypeOrThing$Names", "meansThing", "(I)Z"⟩ : Cond) ∈ jn_T := jn_of (List.mem_of_getElem? (i := 780) (by decide +kernel)) (by decide +kernel)
theorem jw_781 : (Cond.code ⟨"TypeOrThing$Names", "meansThing", "(I)Z"⟩ prog_5_method_9_code 3 (some .boolean) : Cond) ∈ jn_T := jn_of (List.mem_of_getElem? (i := 781) (by decide +kernel)) (by decide +kernel)
theorem jw_782 : (Cond.methodLink "TypeOrThing$Expressions" 142 ⟨"TypeOrThing$Cursor", "require", "(Z)V"⟩ : Cond) ∈ jn_T := jn_of (List.mem_of_getElem? (i := 782) (by decide +kernel)) (by decide +kernel)
theorem jw_783 : (Cond.methodLink "TypeOrThing$Expressions" 146 ⟨"TypeOrThing$Names", "use", "(I)V"⟩ : Cond) ∈ jn_T := jn_of (List.mem_of_getElem? (i := 783) (by decide +kernel)) (by decide +kernel)
theorem jw_784 : (Cond.methodLink "TypeOrThing$Expressions" 149 ⟨"TypeOrThing$Expressions", "writeAtom", "(I)V"⟩ : Cond) ∈ jn_T := jn_of (List.mem_of_getElem? (i := 784) (by decide +kernel)) (by decide +kernel)
theorem jw_786 : (Cond.instanceMethod ⟨"TypeOrThing$Expressions", "writeAtom", "(I)V"⟩ : Cond) ∈ jn_T := jn_of (List.mem_of_getElem? (i := 786) (by decide +kernel)) (by decide +kernel)
theorem jw_787 : (Cond.code ⟨"TypeOrThing$Expressions", "writeAtom", "(I)V"⟩ prog_4_method_15_code 2 none : Cond) ∈ jn_T := jn_of (List.mem_of_getElem? (i := 787) (by decide +kernel)) (by decide +kernel)
theorem jw_788 : (Cond.methodLink "TypeOrThing$Expressions" 152 ⟨"TypeOrThing$Tokens", "wordAt", "(I)J"⟩ : Cond) ∈ jn_T := jn_of (List.mem_of_getElem? (i := 788) (by decide +kernel)) (by decide +kernel)
theorem jw_789 : (Cond.methodLink "TypeOrThing$Expressions" 158 ⟨"TypeOrThing$Tape", "putWord", "(J)V"⟩ : Cond) ∈ jn_T := jn_of (List.mem_of_getElem? (i := 789) (by decide +kernel)) (by decide +kernel)
theorem jw_79 : (Cond.fieldLink "TypeOrThing$Names" 12 "TypeOrThing$Names" "types" "LTypeOrThing$Tape;" : Cond) ∈ jn_T := jn_of (List.mem_of_getElem? (i := 79) (by decide +kernel)) (by decide +kernel)
theorem jw_790 : (Cond.methodLink "TypeOrThing$Expressions" 60 ⟨"TypeOrThing$Tape", "put", "(C)V"⟩ : Cond) ∈ jn_T := jn_of (List.mem_of_getElem? (i := 790) (by decide +kernel)) (by decide +kernel)
theorem jw_791 : (Cond.methodLink "TypeOrThing$Expressions" 127 ⟨"TypeOrThing$Expressions", "index", "()V"⟩ : Cond) ∈ jn_T := jn_of (List.mem_of_getElem? (i := 791) (by decide +kernel)) (by decide +kernel)
theorem jw_793 : (Cond.instanceMethod ⟨"TypeOrThing$Expressions", "index", "()V"⟩ : Cond) ∈ jn_T := jn_of (List.mem_of_getElem? (i := 793) (by decide +kernel)) (by decide +kernel)
theorem jw_794 : (Cond.code ⟨"TypeOrThing$Expressions", "index", "()V"⟩ prog_4_method_12_code 1 none : Cond) ∈ jn_T := jn_of (List.mem_of_getElem? (i := 794) (by decide +kernel)) (by decide +kernel)
theorem jw_795 : (Cond.methodLink "TypeOrThing$Expressions" 130 ⟨"TypeOrThing$Expressions", "call", "()V"⟩ : Cond) ∈ jn_T := jn_of (List.mem_of_getElem? (i := 795) (by decide +kernel)) (by decide +kernel)
theorem jw_797 : (Cond.instanceMethod ⟨"TypeOrThing$Expressions", "call", "()V"⟩ : Cond) ∈ jn_T := jn_of (List.mem_of_getElem? (i := 797) (by decide +kernel)) (by decide +kernel)
theorem jw_798 : (Cond.code ⟨"TypeOrThing$Expressions", "call", "()V"⟩ prog_4_method_13_code 3 none : Cond) ∈ jn_T := jn_of (List.mem_of_getElem? (i := 798) (by decide +kernel)) (by decide +kernel)
theorem jw_799 : (Cond.methodLink "TypeOrThing$Expressions" 136 ⟨"TypeOrThing$Tape", "putCount", "(I)V"⟩ : Cond) ∈ jn_T := jn_of (List.mem_of_getElem? (i := 799) (by decide +kernel)) (by decide +kernel)
theorem jw_8 : (Cond.initialized "TypeOrThing$Expressions" : Cond) ∈ jn_T := jn_of (List.mem_of_getElem? (i := 8) (by decide +kernel)) (by decide +kernel)
theorem jw_800 : (Cond.methodLink "TypeOrThing$Expressions" 111 ⟨"TypeOrThing$Expressions", "popTo", "(I)V"⟩ : Cond) ∈ jn_T := jn_of (List.mem_of_getElem? (i := 800) (by decide +kernel)) (by decide +kernel)
theorem jw_802 : (Cond.instanceMethod ⟨"TypeOrThing$Expressions", "popTo", "(I)V"⟩ : Cond) ∈ jn_T := jn_of (List.mem_of_getElem? (i := 802) (by decide +kernel)) (by decide +kernel)
theorem jw_803 : (Cond.code ⟨"TypeOrThing$Expressions", "popTo", "(I)V"⟩ prog_4_method_10_code 3 none : Cond) ∈ jn_T := jn_of (List.mem_of_getElem? (i := 803) (by decide +kernel)) (by decide +kernel)
theorem jw_804 : (Cond.methodLink "TypeOrThing$Expressions" 120 ⟨"TypeOrThing$Tape", "putPart", "(LTypeOrThing$Tape;II)V"⟩ : Cond) ∈ jn_T := jn_of (List.mem_of_getElem? (i := 804) (by decide +kernel)) (by decide +kernel)
theorem jw_805 : (Cond.methodLink "TypeOrThing$Expressions" 66 ⟨"TypeOrThing$Tape", "putTimes", "(CI)V"⟩ : Cond) ∈ jn_T := jn_of (List.mem_of_getElem? (i := 805) (by decide +kernel)) (by decide +kernel)
theorem jw_806 : (Cond.methodLink "TypeOrThing$Programs" 169 ⟨"TypeOrThing$Cursor", "endStatement", "()V"⟩ : Cond) ∈ jn_T := jn_of (List.mem_of_getElem? (i := 806) (by decide +kernel)) (by decide +kernel)
theorem jw_807 : (Cond.instanceMethod ⟨"TypeOrThing$Cursor", "endStatement", "()V"⟩ : Cond) ∈ jn_T := jn_of (List.mem_of_getElem? (i := 807) (by decide +kernel)) (by decide +kernel)
theorem jw_808 : (Cond.selects "TypeOrThing$Cursor" ⟨"TypeOrThing$Cursor", "endStatement", "()V"⟩ ⟨"TypeOrThing$Cursor", "endStatement", "()V"⟩ : Cond) ∈ jn_T := jn_of (List.mem_of_getElem? (i := 808) (by decide +kernel)) (by decide +kernel)
theorem jw_809 : (Cond.code ⟨"TypeOrThing$Cursor", "endStatement", "()V"⟩ prog_2_method_9_code 1 none : Cond) ∈ jn_T := jn_of (List.mem_of_getElem? (i := 809) (by decide +kernel)) (by decide +kernel)
theorem jw_81 : (Cond.fieldLink "TypeOrThing$Programs" 135 "TypeOrThing$Names" "types" "LTypeOrThing$Tape;" : Cond) ∈ jn_T := jn_of (List.mem_of_getElem? (i := 81) (by decide +kernel)) (by decide +kernel)
theorem jw_810 : (Cond.methodLink "TypeOrThing$Programs" 154 ⟨"TypeOrThing$Names", "closeScope", "()V"⟩ : Cond) ∈ jn_T := jn_of (List.mem_of_getElem? (i := 810) (by decide +kernel)) (by decide +kernel)
theorem jw_811 : (Cond.classLink "TypeOrThing" 71 "java/lang/IllegalArgumentException" : Cond) ∈ jn_T := jn_of (List.mem_of_getElem? (i := 811) (by decide +kernel)) (by decide +kernel)
theorem jw_82 : (Cond.fieldLink "TypeOrThing$Expressions" 86 "TypeOrThing$Names" "types" "LTypeOrThing$Tape;" : Cond) ∈ jn_T := jn_of (List.mem_of_getElem? (i := 82) (by decide +kernel)) (by decide +kernel)
theorem jw_821 : (Cond.methodLink "TypeOrThing" 89 ⟨"TypeOrThing", "requireIndex", "(II)V"⟩ : Cond) ∈ jn_T := jn_of (List.mem_of_getElem? (i := 821) (by decide +kernel)) (by decide +kernel)
theorem jw_822 : (Cond.static ⟨"TypeOrThing", "requireIndex", "(II)V"⟩ : Cond) ∈ jn_T := jn_of (List.mem_of_getElem? (i := 822) (by decide +kernel)) (by decide +kernel)
theorem jw_823 : (Cond.code ⟨"TypeOrThing", "requireIndex", "(II)V"⟩ prog_1_method_16_code 2 none : Cond) ∈ jn_T := jn_of (List.mem_of_getElem? (i := 823) (by decide +kernel)) (by decide +kernel)
theorem jw_824 : (Cond.classLink "TypeOrThing" 108 "java/lang/IndexOutOfBoundsException" : Cond) ∈ jn_T := jn_of (List.mem_of_getElem? (i := 824) (by decide +kernel)) (by decide +kernel)
theorem jw_83 : (Cond.fieldLink "TypeOrThing" 111 "TypeOrThing$Names" "types" "LTypeOrThing$Tape;" : Cond) ∈ jn_T := jn_of (List.mem_of_getElem? (i := 83) (by decide +kernel)) (by decide +kernel)
theorem jw_84 : (Cond.fieldLink "TypeOrThing$Names" 18 "TypeOrThing$Names" "roles" "[I" : Cond) ∈ jn_T := jn_of (List.mem_of_getElem? (i := 84) (by decide +kernel)) (by decide +kernel)
theorem jw_846 : (Cond.methodLink "TypeOrThing" 114 ⟨"TypeOrThing$Tape", "cell", "(I)C"⟩ : Cond) ∈ jn_T := jn_of (List.mem_of_getElem? (i := 846) (by decide +kernel)) (by decide +kernel)
theorem jw_85 : (Cond.fieldLink "TypeOrThing" 81 "TypeOrThing$Names" "roles" "[I" : Cond) ∈ jn_T := jn_of (List.mem_of_getElem? (i := 85) (by decide +kernel)) (by decide +kernel)
theorem jw_86 : (Cond.fieldLink "TypeOrThing$Names" 22 "TypeOrThing$Names" "meanings" "[I" : Cond) ∈ jn_T := jn_of (List.mem_of_getElem? (i := 86) (by decide +kernel)) (by decide +kernel)
theorem jw_860 : (Cond.fieldLink "TypeOrThingModel" 75 "TypeOrThingModel" "thrown" "I" : Cond) ∈ jn_T := jn_of (List.mem_of_getElem? (i := 860) (by decide +kernel)) (by decide +kernel)
theorem jw_861 : (Cond.fieldLink "TypeOrThingModel" 7 "TypeOrThingModel" "text" "[I" : Cond) ∈ jn_T := jn_of (List.mem_of_getElem? (i := 861) (by decide +kernel)) (by decide +kernel)
theorem jw_862 : (Cond.fieldLink "TypeOrThingModel" 78 "TypeOrThingModel" "size" "I" : Cond) ∈ jn_T := jn_of (List.mem_of_getElem? (i := 862) (by decide +kernel)) (by decide +kernel)
theorem jw_863 : (Cond.fieldLink "TypeOrThingModel" 101 "TypeOrThingModel" "tokens" "I" : Cond) ∈ jn_T := jn_of (List.mem_of_getElem? (i := 863) (by decide +kernel)) (by decide +kernel)
theorem jw_864 : (Cond.fieldLink "TypeOrThingModel" 13 "TypeOrThingModel" "kind" "[I" : Cond) ∈ jn_T := jn_of (List.mem_of_getElem? (i := 864) (by decide +kernel)) (by decide +kernel)
theorem jw_865 : (Cond.fieldLink "TypeOrThingModel" 16 "TypeOrThingModel" "from" "[I" : Cond) ∈ jn_T := jn_of (List.mem_of_getElem? (i := 865) (by decide +kernel)) (by decide +kernel)
theorem jw_866 : (Cond.fieldLink "TypeOrThingModel" 19 "TypeOrThingModel" "wide" "[I" : Cond) ∈ jn_T := jn_of (List.mem_of_getElem? (i := 866) (by decide +kernel)) (by decide +kernel)
theorem jw_867 : (Cond.fieldLink "TypeOrThingModel" 22 "TypeOrThingModel" "roles" "[I" : Cond) ∈ jn_T := jn_of (List.mem_of_getElem? (i := 867) (by decide +kernel)) (by decide +kernel)
theorem jw_868 : (Cond.fieldLink "TypeOrThingModel" 25 "TypeOrThingModel" "meanings" "[I" : Cond) ∈ jn_T := jn_of (List.mem_of_getElem? (i := 868) (by decide +kernel)) (by decide +kernel)
theorem jw_869 : (Cond.fieldLink "TypeOrThingModel" 133 "TypeOrThingModel" "now" "I" : Cond) ∈ jn_T := jn_of (List.mem_of_getElem? (i := 869) (by decide +kernel)) (by decide +kernel)
theorem jw_87 : (Cond.fieldLink "TypeOrThing$Declarators" 64 "TypeOrThing$Names" "meanings" "[I" : Cond) ∈ jn_T := jn_of (List.mem_of_getElem? (i := 87) (by decide +kernel)) (by decide +kernel)
theorem jw_870 : (Cond.fieldLink "TypeOrThingModel" 28 "TypeOrThingModel" "at" "I" : Cond) ∈ jn_T := jn_of (List.mem_of_getElem? (i := 870) (by decide +kernel)) (by decide +kernel)
theorem jw_871 : (Cond.fieldLink "TypeOrThingModel" 336 "TypeOrThingModel" "read" "Z" : Cond) ∈ jn_T := jn_of (List.mem_of_getElem? (i := 871) (by decide +kernel)) (by decide +kernel)
theorem jw_872 : (Cond.fieldLink "TypeOrThingModel" 126 "TypeOrThingModel" "tasks" "I" : Cond) ∈ jn_T := jn_of (List.mem_of_getElem? (i := 872) (by decide +kernel)) (by decide +kernel)
theorem jw_873 : (Cond.fieldLink "TypeOrThingModel" 32 "TypeOrThingModel" "task" "[I" : Cond) ∈ jn_T := jn_of (List.mem_of_getElem? (i := 873) (by decide +kernel)) (by decide +kernel)
theorem jw_874 : (Cond.fieldLink "TypeOrThingModel" 35 "TypeOrThingModel" "number" "[I" : Cond) ∈ jn_T := jn_of (List.mem_of_getElem? (i := 874) (by decide +kernel)) (by decide +kernel)
theorem jw_875 : (Cond.fieldLink "TypeOrThingModel" 136 "TypeOrThingModel" "open" "I" : Cond) ∈ jn_T := jn_of (List.mem_of_getElem? (i := 875) (by decide +kernel)) (by decide +kernel)
theorem jw_876 : (Cond.fieldLink "TypeOrThingModel" 129 "TypeOrThingModel" "broken" "Z" : Cond) ∈ jn_T := jn_of (List.mem_of_getElem? (i := 876) (by decide +kernel)) (by decide +kernel)
theorem jw_877 : (Cond.fieldLink "TypeOrThingModel" 161 "TypeOrThingModel" "scopes" "I" : Cond) ∈ jn_T := jn_of (List.mem_of_getElem? (i := 877) (by decide +kernel)) (by decide +kernel)
theorem jw_878 : (Cond.fieldLink "TypeOrThingModel" 145 "TypeOrThingModel" "depth" "I" : Cond) ∈ jn_T := jn_of (List.mem_of_getElem? (i := 878) (by decide +kernel)) (by decide +kernel)
theorem jw_879 : (Cond.fieldLink "TypeOrThingModel" 38 "TypeOrThingModel" "inner" "[I" : Cond) ∈ jn_T := jn_of (List.mem_of_getElem? (i := 879) (by decide +kernel)) (by decide +kernel)
theorem jw_88 : (Cond.fieldLink "TypeOrThing" 85 "TypeOrThing$Names" "meanings" "[I" : Cond) ∈ jn_T := jn_of (List.mem_of_getElem? (i := 88) (by decide +kernel)) (by decide +kernel)
theorem jw_880 : (Cond.fieldLink "TypeOrThingModel" 148 "TypeOrThingModel" "count" "I" : Cond) ∈ jn_T := jn_of (List.mem_of_getElem? (i := 880) (by decide +kernel)) (by decide +kernel)
theorem jw_881 : (Cond.fieldLink "TypeOrThingModel" 41 "TypeOrThingModel" "nameOf" "[I" : Cond) ∈ jn_T := jn_of (List.mem_of_getElem? (i := 881) (by decide +kernel)) (by decide +kernel)
theorem jw_882 : (Cond.fieldLink "TypeOrThingModel" 44 "TypeOrThingModel" "scopeOf" "[I" : Cond) ∈ jn_T := jn_of (List.mem_of_getElem? (i := 882) (by decide +kernel)) (by decide +kernel)
theorem jw_883 : (Cond.fieldLink "TypeOrThingModel" 47 "TypeOrThingModel" "depthOf" "[I" : Cond) ∈ jn_T := jn_of (List.mem_of_getElem? (i := 883) (by decide +kernel)) (by decide +kernel)
theorem jw_884 : (Cond.fieldLink "TypeOrThingModel" 50 "TypeOrThingModel" "sort" "[I" : Cond) ∈ jn_T := jn_of (List.mem_of_getElem? (i := 884) (by decide +kernel)) (by decide +kernel)
theorem jw_885 : (Cond.fieldLink "TypeOrThingModel" 53 "TypeOrThingModel" "typeFrom" "[I" : Cond) ∈ jn_T := jn_of (List.mem_of_getElem? (i := 885) (by decide +kernel)) (by decide +kernel)
theorem jw_886 : (Cond.fieldLink "TypeOrThingModel" 56 "TypeOrThingModel" "typeSize" "[I" : Cond) ∈ jn_T := jn_of (List.mem_of_getElem? (i := 886) (by decide +kernel)) (by decide +kernel)
theorem jw_887 : (Cond.fieldLink "TypeOrThingModel" 186 "TypeOrThingModel" "types" "I" : Cond) ∈ jn_T := jn_of (List.mem_of_getElem? (i := 887) (by decide +kernel)) (by decide +kernel)
theorem jw_888 : (Cond.fieldLink "TypeOrThingModel" 59 "TypeOrThingModel" "typeText" "[I" : Cond) ∈ jn_T := jn_of (List.mem_of_getElem? (i := 888) (by decide +kernel)) (by decide +kernel)
theorem jw_889 : (Cond.fieldLink "TypeOrThingModel" 62 "TypeOrThingModel" "spelt" "[J" : Cond) ∈ jn_T := jn_of (List.mem_of_getElem? (i := 889) (by decide +kernel)) (by decide +kernel)
theorem jw_89 : (Cond.fieldLink "TypeOrThing$Names" 25 "TypeOrThing$Names" "count" "I" : Cond) ∈ jn_T := jn_of (List.mem_of_getElem? (i := 89) (by decide +kernel)) (by decide +kernel)
theorem jw_890 : (Cond.fieldLink "TypeOrThingModel" 164 "TypeOrThingModel" "signs" "I" : Cond) ∈ jn_T := jn_of (List.mem_of_getElem? (i := 890) (by decide +kernel)) (by decide +kernel)
theorem jw_891 : (Cond.fieldLink "TypeOrThingModel" 66 "TypeOrThingModel" "sign" "[I" : Cond) ∈ jn_T := jn_of (List.mem_of_getElem? (i := 891) (by decide +kernel)) (by decide +kernel)
theorem jw_892 : (Cond.fieldLink "TypeOrThingModel" 183 "TypeOrThingModel" "start" "I" : Cond) ∈ jn_T := jn_of (List.mem_of_getElem? (i := 892) (by decide +kernel)) (by decide +kernel)
theorem jw_893 : (Cond.fieldLink "TypeOrThingModel" 180 "TypeOrThingModel" "named" "I" : Cond) ∈ jn_T := jn_of (List.mem_of_getElem? (i := 893) (by decide +kernel)) (by decide +kernel)
theorem jw_894 : (Cond.fieldLink "TypeOrThingModel" 196 "TypeOrThingModel" "firstScope" "I" : Cond) ∈ jn_T := jn_of (List.mem_of_getElem? (i := 894) (by decide +kernel)) (by decide +kernel)
theorem jw_895 : (Cond.fieldLink "TypeOrThingModel" 254 "TypeOrThingModel" "waits" "I" : Cond) ∈ jn_T := jn_of (List.mem_of_getElem? (i := 895) (by decide +kernel)) (by decide +kernel)
theorem jw_896 : (Cond.fieldLink "TypeOrThingModel" 69 "TypeOrThingModel" "waiting" "[I" : Cond) ∈ jn_T := jn_of (List.mem_of_getElem? (i := 896) (by decide +kernel)) (by decide +kernel)
theorem jw_897 : (Cond.fieldLink "TypeOrThingModel" 244 "TypeOrThingModel" "place" "Z" : Cond) ∈ jn_T := jn_of (List.mem_of_getElem? (i := 897) (by decide +kernel)) (by decide +kernel)
theorem jw_898 : (Cond.fieldLink "TypeOrThingModel" 171 "TypeOrThingModel" "length" "I" : Cond) ∈ jn_T := jn_of (List.mem_of_getElem? (i := 898) (by decide +kernel)) (by decide +kernel)
theorem jw_899 : (Cond.fieldLink "TypeOrThingModel" 72 "TypeOrThingModel" "form" "[I" : Cond) ∈ jn_T := jn_of (List.mem_of_getElem? (i := 899) (by decide +kernel)) (by decide +kernel)
theorem jw_9 : (Cond.initialized "TypeOrThingModel" : Cond) ∈ jn_T := jn_of (List.mem_of_getElem? (i := 9) (by decide +kernel)) (by decide +kernel)
theorem jw_90 : (Cond.fieldLink "TypeOrThing" 88 "TypeOrThing$Names" "count" "I" : Cond) ∈ jn_T := jn_of (List.mem_of_getElem? (i := 90) (by decide +kernel)) (by decide +kernel)
theorem jw_91 : (Cond.fieldLink "TypeOrThing$Names" 29 "TypeOrThing$Names" "nameTokens" "[I" : Cond) ∈ jn_T := jn_of (List.mem_of_getElem? (i := 91) (by decide +kernel)) (by decide +kernel)
theorem jw_92 : (Cond.fieldLink "TypeOrThing$Programs" 122 "TypeOrThing$Names" "nameTokens" "[I" : Cond) ∈ jn_T := jn_of (List.mem_of_getElem? (i := 92) (by decide +kernel)) (by decide +kernel)
theorem jw_93 : (Cond.fieldLink "TypeOrThing" 93 "TypeOrThing$Names" "nameTokens" "[I" : Cond) ∈ jn_T := jn_of (List.mem_of_getElem? (i := 93) (by decide +kernel)) (by decide +kernel)
theorem jw_94 : (Cond.fieldLink "TypeOrThing$Names" 32 "TypeOrThing$Names" "depths" "[I" : Cond) ∈ jn_T := jn_of (List.mem_of_getElem? (i := 94) (by decide +kernel)) (by decide +kernel)
theorem jw_95 : (Cond.fieldLink "TypeOrThing" 96 "TypeOrThing$Names" "depths" "[I" : Cond) ∈ jn_T := jn_of (List.mem_of_getElem? (i := 95) (by decide +kernel)) (by decide +kernel)
theorem jw_96 : (Cond.fieldLink "TypeOrThing$Names" 35 "TypeOrThing$Names" "typeStarts" "[I" : Cond) ∈ jn_T := jn_of (List.mem_of_getElem? (i := 96) (by decide +kernel)) (by decide +kernel)
theorem jw_97 : (Cond.fieldLink "TypeOrThing$Programs" 138 "TypeOrThing$Names" "typeStarts" "[I" : Cond) ∈ jn_T := jn_of (List.mem_of_getElem? (i := 97) (by decide +kernel)) (by decide +kernel)
theorem jw_98 : (Cond.fieldLink "TypeOrThing" 102 "TypeOrThing$Names" "typeStarts" "[I" : Cond) ∈ jn_T := jn_of (List.mem_of_getElem? (i := 98) (by decide +kernel)) (by decide +kernel)
theorem jw_989 : (Cond.constantLong "TypeOrThingModel" 81 (255 : Int64) : Cond) ∈ jn_T := jn_of (List.mem_of_getElem? (i := 989) (by decide +kernel)) (by decide +kernel)
theorem jw_99 : (Cond.fieldLink "TypeOrThing$Names" 38 "TypeOrThing$Names" "typeEnds" "[I" : Cond) ∈ jn_T := jn_of (List.mem_of_getElem? (i := 99) (by decide +kernel)) (by decide +kernel)
theorem jw_998 : (Cond.methodLink "TypeOrThingModel" 339 ⟨"TypeOrThingModel", "findTokens", "()V"⟩ : Cond) ∈ jn_T := jn_of (List.mem_of_getElem? (i := 998) (by decide +kernel)) (by decide +kernel)
