/-! The classes whose objects the memory holds, their fields, the words of the tables, what the launch gives. -/
def jx_T0 : u_T := fun k => match k with
  | 0 => ("StretchedRows", "there", "[LStretchedRows$Node;", true)
  | 1 => ("StretchedRows", "thereCount", "I", false)
  | _ => ("StretchedRows", "madeCount", "I", false)
def jx_ty0 : Nat → FieldType := fun k => match k with
  | 0 => (.array (.object "StretchedRows$Node"))
  | 1 => .int
  | _ => .int
def jx_T1 : u_T := fun k => match k with
  | 0 => ("StretchedRowsModel", "thrown", "I", false)
  | 1 => ("StretchedRowsModel", "made", "I", false)
  | 2 => ("StretchedRowsModel", "count", "I", false)
  | 3 => ("StretchedRowsModel", "there", "[Z", true)
  | 4 => ("StretchedRowsModel", "kinds", "[I", true)
  | 5 => ("StretchedRowsModel", "parents", "[I", true)
  | 6 => ("StretchedRowsModel", "depths", "[I", true)
  | 7 => ("StretchedRowsModel", "numbers", "[I", true)
  | 8 => ("StretchedRowsModel", "words", "[I", true)
  | 9 => ("StretchedRowsModel", "wordCounts", "[I", true)
  | 10 => ("StretchedRowsModel", "tracks", "[I", true)
  | 11 => ("StretchedRowsModel", "shares", "[Z", true)
  | 12 => ("StretchedRowsModel", "trackCounts", "[I", true)
  | 13 => ("StretchedRowsModel", "naturals", "[I", true)
  | 14 => ("StretchedRowsModel", "laid", "[Z", true)
  | 15 => ("StretchedRowsModel", "lefts", "[I", true)
  | 16 => ("StretchedRowsModel", "tops", "[I", true)
  | 17 => ("StretchedRowsModel", "widths", "[I", true)
  | 18 => ("StretchedRowsModel", "heights", "[I", true)
  | 19 => ("StretchedRowsModel", "lineCounts", "[I", true)
  | 20 => ("StretchedRowsModel", "ranks", "[I", true)
  | 21 => ("StretchedRowsModel", "owns", "[I", true)
  | 22 => ("StretchedRowsModel", "kidCount", "I", false)
  | 23 => ("StretchedRowsModel", "kids", "[I", true)
  | 24 => ("StretchedRowsModel", "settled", "[Z", true)
  | 25 => ("StretchedRowsModel", "sizes", "[I", true)
  | 26 => ("StretchedRowsModel", "clamped", "[I", true)
  | _ => ("StretchedRowsModel", "trackWidths", "[I", true)
def jx_ty1 : Nat → FieldType := fun k => match k with
  | 0 => .int
  | 1 => .int
  | 2 => .int
  | 3 => (.array .boolean)
  | 4 => (.array .int)
  | 5 => (.array .int)
  | 6 => (.array .int)
  | 7 => (.array .int)
  | 8 => (.array .int)
  | 9 => (.array .int)
  | 10 => (.array .int)
  | 11 => (.array .boolean)
  | 12 => (.array .int)
  | 13 => (.array .int)
  | 14 => (.array .boolean)
  | 15 => (.array .int)
  | 16 => (.array .int)
  | 17 => (.array .int)
  | 18 => (.array .int)
  | 19 => (.array .int)
  | 20 => (.array .int)
  | 21 => (.array .int)
  | 22 => .int
  | 23 => (.array .int)
  | 24 => (.array .boolean)
  | 25 => (.array .int)
  | 26 => (.array .int)
  | _ => (.array .int)
def jx_T2 : u_T := fun k => match k with
  | 0 => ("StretchedRows$Shares", "weights", "[J", true)
  | _ => ("StretchedRows$Shares", "parts", "[I", true)
def jx_ty2 : Nat → FieldType := fun k => match k with
  | 0 => (.array .long)
  | _ => (.array .int)
def jx_T3 : u_T := fun k => match k with
  | 0 => ("StretchedRows$Node", "number", "I", true)
  | 1 => ("StretchedRows$Node", "parent", "LStretchedRows$Container;", true)
  | 2 => ("StretchedRows$Node", "depth", "I", true)
  | 3 => ("StretchedRows$Node", "numbers", "[I", true)
  | 4 => ("StretchedRows$Node", "takenAway", "Z", false)
  | 5 => ("StretchedRows$Node", "naturalWidth", "I", false)
  | 6 => ("StretchedRows$Node", "base", "I", false)
  | 7 => ("StretchedRows$Node", "hypo", "I", false)
  | 8 => ("StretchedRows$Node", "laidOut", "Z", false)
  | 9 => ("StretchedRows$Node", "left", "I", false)
  | 10 => ("StretchedRows$Node", "top", "I", false)
  | 11 => ("StretchedRows$Node", "width", "I", false)
  | _ => ("StretchedRows$Node", "height", "I", false)
def jx_ty3 : Nat → FieldType := fun k => match k with
  | 0 => .int
  | 1 => (.object "StretchedRows$Container")
  | 2 => .int
  | 3 => (.array .int)
  | 4 => .boolean
  | 5 => .int
  | 6 => .int
  | 7 => .int
  | 8 => .boolean
  | 9 => .int
  | 10 => .int
  | 11 => .int
  | _ => .int
def jx_T4 : u_T := fun k => match k with
  | 0 => ("StretchedRows$Node", "number", "I", true)
  | 1 => ("StretchedRows$Node", "parent", "LStretchedRows$Container;", true)
  | 2 => ("StretchedRows$Node", "depth", "I", true)
  | 3 => ("StretchedRows$Node", "numbers", "[I", true)
  | 4 => ("StretchedRows$Node", "takenAway", "Z", false)
  | 5 => ("StretchedRows$Node", "naturalWidth", "I", false)
  | 6 => ("StretchedRows$Node", "base", "I", false)
  | 7 => ("StretchedRows$Node", "hypo", "I", false)
  | 8 => ("StretchedRows$Node", "laidOut", "Z", false)
  | 9 => ("StretchedRows$Node", "left", "I", false)
  | 10 => ("StretchedRows$Node", "top", "I", false)
  | 11 => ("StretchedRows$Node", "width", "I", false)
  | 12 => ("StretchedRows$Node", "height", "I", false)
  | 13 => ("StretchedRows$Text", "words", "[I", true)
  | 14 => ("StretchedRows$Text", "wordCount", "I", false)
  | _ => ("StretchedRows$Text", "lineCount", "I", false)
def jx_ty4 : Nat → FieldType := fun k => match k with
  | 0 => .int
  | 1 => (.object "StretchedRows$Container")
  | 2 => .int
  | 3 => (.array .int)
  | 4 => .boolean
  | 5 => .int
  | 6 => .int
  | 7 => .int
  | 8 => .boolean
  | 9 => .int
  | 10 => .int
  | 11 => .int
  | 12 => .int
  | 13 => (.array .int)
  | 14 => .int
  | _ => .int
def jx_T5 : u_T := fun k => match k with
  | 0 => ("StretchedRows$Node", "number", "I", true)
  | 1 => ("StretchedRows$Node", "parent", "LStretchedRows$Container;", true)
  | 2 => ("StretchedRows$Node", "depth", "I", true)
  | 3 => ("StretchedRows$Node", "numbers", "[I", true)
  | 4 => ("StretchedRows$Node", "takenAway", "Z", false)
  | 5 => ("StretchedRows$Node", "naturalWidth", "I", false)
  | 6 => ("StretchedRows$Node", "base", "I", false)
  | 7 => ("StretchedRows$Node", "hypo", "I", false)
  | 8 => ("StretchedRows$Node", "laidOut", "Z", false)
  | 9 => ("StretchedRows$Node", "left", "I", false)
  | 10 => ("StretchedRows$Node", "top", "I", false)
  | 11 => ("StretchedRows$Node", "width", "I", false)
  | 12 => ("StretchedRows$Node", "height", "I", false)
  | 13 => ("StretchedRows$Container", "shown", "[LStretchedRows$Node;", true)
  | 14 => ("StretchedRows$Container", "shownCount", "I", false)
  | 15 => ("StretchedRows$Container", "laid", "[LStretchedRows$Node;", true)
  | 16 => ("StretchedRows$Container", "laidCount", "I", false)
  | 17 => ("StretchedRows$Container", "lineEnds", "[I", true)
  | 18 => ("StretchedRows$Container", "lineCount", "I", false)
  | _ => ("StretchedRows$Container", "inner", "I", false)
def jx_ty5 : Nat → FieldType := fun k => match k with
  | 0 => .int
  | 1 => (.object "StretchedRows$Container")
  | 2 => .int
  | 3 => (.array .int)
  | 4 => .boolean
  | 5 => .int
  | 6 => .int
  | 7 => .int
  | 8 => .boolean
  | 9 => .int
  | 10 => .int
  | 11 => .int
  | 12 => .int
  | 13 => (.array (.object "StretchedRows$Node"))
  | 14 => .int
  | 15 => (.array (.object "StretchedRows$Node"))
  | 16 => .int
  | 17 => (.array .int)
  | 18 => .int
  | _ => .int
def jx_T6 : u_T := fun k => match k with
  | 0 => ("StretchedRows$Node", "number", "I", true)
  | 1 => ("StretchedRows$Node", "parent", "LStretchedRows$Container;", true)
  | 2 => ("StretchedRows$Node", "depth", "I", true)
  | 3 => ("StretchedRows$Node", "numbers", "[I", true)
  | 4 => ("StretchedRows$Node", "takenAway", "Z", false)
  | 5 => ("StretchedRows$Node", "naturalWidth", "I", false)
  | 6 => ("StretchedRows$Node", "base", "I", false)
  | 7 => ("StretchedRows$Node", "hypo", "I", false)
  | 8 => ("StretchedRows$Node", "laidOut", "Z", false)
  | 9 => ("StretchedRows$Node", "left", "I", false)
  | 10 => ("StretchedRows$Node", "top", "I", false)
  | 11 => ("StretchedRows$Node", "width", "I", false)
  | 12 => ("StretchedRows$Node", "height", "I", false)
  | 13 => ("StretchedRows$Container", "shown", "[LStretchedRows$Node;", true)
  | 14 => ("StretchedRows$Container", "shownCount", "I", false)
  | 15 => ("StretchedRows$Container", "laid", "[LStretchedRows$Node;", true)
  | 16 => ("StretchedRows$Container", "laidCount", "I", false)
  | 17 => ("StretchedRows$Container", "lineEnds", "[I", true)
  | 18 => ("StretchedRows$Container", "lineCount", "I", false)
  | 19 => ("StretchedRows$Container", "inner", "I", false)
  | 20 => ("StretchedRows$Row", "shares", "LStretchedRows$Shares;", true)
  | 21 => ("StretchedRows$Row", "asked", "[I", true)
  | _ => ("StretchedRows$Row", "settled", "[Z", true)
def jx_ty6 : Nat → FieldType := fun k => match k with
  | 0 => .int
  | 1 => (.object "StretchedRows$Container")
  | 2 => .int
  | 3 => (.array .int)
  | 4 => .boolean
  | 5 => .int
  | 6 => .int
  | 7 => .int
  | 8 => .boolean
  | 9 => .int
  | 10 => .int
  | 11 => .int
  | 12 => .int
  | 13 => (.array (.object "StretchedRows$Node"))
  | 14 => .int
  | 15 => (.array (.object "StretchedRows$Node"))
  | 16 => .int
  | 17 => (.array .int)
  | 18 => .int
  | 19 => .int
  | 20 => (.object "StretchedRows$Shares")
  | 21 => (.array .int)
  | _ => (.array .boolean)
def jx_T7 : u_T := fun k => match k with
  | 0 => ("StretchedRows$Node", "number", "I", true)
  | 1 => ("StretchedRows$Node", "parent", "LStretchedRows$Container;", true)
  | 2 => ("StretchedRows$Node", "depth", "I", true)
  | 3 => ("StretchedRows$Node", "numbers", "[I", true)
  | 4 => ("StretchedRows$Node", "takenAway", "Z", false)
  | 5 => ("StretchedRows$Node", "naturalWidth", "I", false)
  | 6 => ("StretchedRows$Node", "base", "I", false)
  | 7 => ("StretchedRows$Node", "hypo", "I", false)
  | 8 => ("StretchedRows$Node", "laidOut", "Z", false)
  | 9 => ("StretchedRows$Node", "left", "I", false)
  | 10 => ("StretchedRows$Node", "top", "I", false)
  | 11 => ("StretchedRows$Node", "width", "I", false)
  | 12 => ("StretchedRows$Node", "height", "I", false)
  | 13 => ("StretchedRows$Container", "shown", "[LStretchedRows$Node;", true)
  | 14 => ("StretchedRows$Container", "shownCount", "I", false)
  | 15 => ("StretchedRows$Container", "laid", "[LStretchedRows$Node;", true)
  | 16 => ("StretchedRows$Container", "laidCount", "I", false)
  | 17 => ("StretchedRows$Container", "lineEnds", "[I", true)
  | 18 => ("StretchedRows$Container", "lineCount", "I", false)
  | 19 => ("StretchedRows$Container", "inner", "I", false)
  | 20 => ("StretchedRows$Grid", "isShare", "[Z", true)
  | 21 => ("StretchedRows$Grid", "trackNumbers", "[I", true)
  | 22 => ("StretchedRows$Grid", "trackWidths", "[I", true)
  | 23 => ("StretchedRows$Grid", "trackCount", "I", false)
  | _ => ("StretchedRows$Grid", "shares", "LStretchedRows$Shares;", true)
def jx_ty7 : Nat → FieldType := fun k => match k with
  | 0 => .int
  | 1 => (.object "StretchedRows$Container")
  | 2 => .int
  | 3 => (.array .int)
  | 4 => .boolean
  | 5 => .int
  | 6 => .int
  | 7 => .int
  | 8 => .boolean
  | 9 => .int
  | 10 => .int
  | 11 => .int
  | 12 => .int
  | 13 => (.array (.object "StretchedRows$Node"))
  | 14 => .int
  | 15 => (.array (.object "StretchedRows$Node"))
  | 16 => .int
  | 17 => (.array .int)
  | 18 => .int
  | 19 => .int
  | 20 => (.array .boolean)
  | 21 => (.array .int)
  | 22 => (.array .int)
  | 23 => .int
  | _ => (.object "StretchedRows$Shares")
def jx_cl : List vw_C := [("StretchedRows", jx_T0, 3), ("StretchedRowsModel", jx_T1, 28), ("StretchedRows$Shares", jx_T2, 2), ("StretchedRows$Box", jx_T3, 13), ("StretchedRows$Text", jx_T4, 16), ("StretchedRows$Column", jx_T5, 20), ("StretchedRows$Row", jx_T6, 23), ("StretchedRows$Grid", jx_T7, 25)]
def jx_ty (ci k : Nat) : FieldType := match ci with
  | 0 => jx_ty0 k
  | 1 => jx_ty1 k
  | 2 => jx_ty2 k
  | 3 => jx_ty3 k
  | 4 => jx_ty4 k
  | 5 => jx_ty5 k
  | 6 => jx_ty6 k
  | _ => jx_ty7 k
def jx_isr : FieldType → Bool
  | .object _ => true
  | .array _ => true
  | _ => false
def jx_rt (ci k : Nat) : Bool := jx_isr (jx_ty ci k)
theorem jx_rt_ty (ci k : Nat) : jx_rt ci k = jx_isr (jx_ty ci k) := rfl
abbrev jx_ND : String := "StretchedRows$Node"
abbrev jx_N0 : Nat := 3
abbrev jx_N1 : Nat := 7
def jx_ws : List Cond := lw_tbl.filter goodWord
theorem jx_good : ∀ w ∈ jx_ws, (w.onTables && w.keeps) = true ∨ ∃ ty, w = .arrayClass ty := fun w h => good_of_word (List.mem_filter.mp h).2
theorem jx_in {w : Cond} (i : Nat) (h : tables_1[i]? = some w) (hg : goodWord w = true) : w ∈ jx_ws := List.mem_filter.mpr ⟨List.mem_append_right _ (List.mem_of_getElem? h), hg⟩
theorem jx_word_of {w : Cond} (h : (w.onTables && w.keeps) = true ∨ ∃ ty, w = .arrayClass ty) : goodWord w = true := by
  rcases h with h | ⟨ty, rfl⟩
  · cases w <;> first | rfl | exact h
  · rfl
theorem jx_ins {ws : List Cond} (h : GoodIn tables_1 ws) : ∀ w ∈ ws, w ∈ jx_ws := fun w hw => List.mem_filter.mpr ⟨List.mem_append_right _ (h w hw).1, jx_word_of (h w hw).2⟩
theorem jx_GI {ws : List Cond} (h : ∀ w ∈ ws, w ∈ jx_ws) : GoodIn jx_ws ws := fun w hw => ⟨h w hw, jx_good w (h w hw)⟩
theorem jx_i0 : GoodIn tables_1 (u_ws "StretchedRows" jx_T0 3) := goodIn_r _ [30, 32, 34] (by decide +kernel) (by decide +kernel)
theorem jx_n0 : ∀ a, a < 3 → ∀ b, b < 3 → a ≠ b → (jx_T0 a).2.1 ≠ (jx_T0 b).2.1 := by decide +kernel
theorem jx_t0 : ∀ k, k < 3 → parseFieldDescriptor (jx_T0 k).2.2.1 = some (jx_ty 0 k) := by decide +kernel
theorem jx_i1 : GoodIn tables_1 (u_ws "StretchedRowsModel" jx_T1 28) := goodIn_r _ [869, 871, 873, 875, 877, 879, 881, 883, 885, 887, 889, 891, 893, 895, 897, 899, 901, 903, 905, 907, 909, 911, 913, 915, 917, 919, 921, 923] (by decide +kernel) (by decide +kernel)
theorem jx_n1 : ∀ a, a < 28 → ∀ b, b < 28 → a ≠ b → (jx_T1 a).2.1 ≠ (jx_T1 b).2.1 := by decide +kernel
theorem jx_t1 : ∀ k, k < 28 → parseFieldDescriptor (jx_T1 k).2.2.1 = some (jx_ty 1 k) := by decide +kernel
theorem jx_i2 : GoodIn tables_1 (u_ws "StretchedRows$Shares" jx_T2 2) := goodIn_r _ [397, 399] (by decide +kernel) (by decide +kernel)
theorem jx_n2 : ∀ a, a < 2 → ∀ b, b < 2 → a ≠ b → (jx_T2 a).2.1 ≠ (jx_T2 b).2.1 := by decide +kernel
theorem jx_t2 : ∀ k, k < 2 → parseFieldDescriptor (jx_T2 k).2.2.1 = some (jx_ty 2 k) := by decide +kernel
theorem jx_i3 : GoodIn tables_1 (u_ws "StretchedRows$Box" jx_T3 13) := goodIn_r _ [485, 486, 487, 488, 489, 490, 491, 492, 493, 494, 495, 496, 497] (by decide +kernel) (by decide +kernel)
theorem jx_n3 : ∀ a, a < 13 → ∀ b, b < 13 → a ≠ b → (jx_T3 a).2.1 ≠ (jx_T3 b).2.1 := by decide +kernel
theorem jx_t3 : ∀ k, k < 13 → parseFieldDescriptor (jx_T3 k).2.2.1 = some (jx_ty 3 k) := by decide +kernel
theorem jx_i4 : GoodIn tables_1 (u_ws "StretchedRows$Text" jx_T4 16) := goodIn_r _ [269, 271, 273, 275, 277, 279, 281, 283, 285, 287, 289, 291, 293, 263, 265, 267] (by decide +kernel) (by decide +kernel)
theorem jx_n4 : ∀ a, a < 16 → ∀ b, b < 16 → a ≠ b → (jx_T4 a).2.1 ≠ (jx_T4 b).2.1 := by decide +kernel
theorem jx_t4 : ∀ k, k < 16 → parseFieldDescriptor (jx_T4 k).2.2.1 = some (jx_ty 4 k) := by decide +kernel
theorem jx_i5 : GoodIn tables_1 (u_ws "StretchedRows$Column" jx_T5 20) := goodIn_r _ [365, 366, 367, 368, 369, 370, 371, 372, 373, 374, 375, 376, 377, 351, 353, 355, 357, 359, 361, 363] (by decide +kernel) (by decide +kernel)
theorem jx_n5 : ∀ a, a < 20 → ∀ b, b < 20 → a ≠ b → (jx_T5 a).2.1 ≠ (jx_T5 b).2.1 := by decide +kernel
theorem jx_t5 : ∀ k, k < 20 → parseFieldDescriptor (jx_T5 k).2.2.1 = some (jx_ty 5 k) := by decide +kernel
theorem jx_i6 : GoodIn tables_1 (u_ws "StretchedRows$Row" jx_T6 23) := goodIn_r _ [419, 420, 421, 422, 423, 424, 425, 426, 427, 428, 429, 430, 431, 412, 413, 414, 415, 416, 417, 418, 406, 408, 410] (by decide +kernel) (by decide +kernel)
theorem jx_n6 : ∀ a, a < 23 → ∀ b, b < 23 → a ≠ b → (jx_T6 a).2.1 ≠ (jx_T6 b).2.1 := by decide +kernel
theorem jx_t6 : ∀ k, k < 23 → parseFieldDescriptor (jx_T6 k).2.2.1 = some (jx_ty 6 k) := by decide +kernel
theorem jx_i7 : GoodIn tables_1 (u_ws "StretchedRows$Grid" jx_T7 25) := goodIn_r _ [465, 466, 467, 468, 469, 470, 471, 472, 473, 474, 475, 476, 477, 458, 459, 460, 461, 462, 463, 464, 448, 450, 452, 454, 456] (by decide +kernel) (by decide +kernel)
theorem jx_n7 : ∀ a, a < 25 → ∀ b, b < 25 → a ≠ b → (jx_T7 a).2.1 ≠ (jx_T7 b).2.1 := by decide +kernel
theorem jx_t7 : ∀ k, k < 25 → parseFieldDescriptor (jx_T7 k).2.2.1 = some (jx_ty 7 k) := by decide +kernel
theorem jx_ct {ci : Nat} {C : String} {T : u_T} {N : Nat} (h : jx_cl[ci]? = some (C, T, N)) : (∀ w ∈ u_ws C T N, w ∈ jx_ws) ∧ (∀ k, k < N → parseFieldDescriptor (T k).2.2.1 = some (jx_ty ci k)) ∧ (∀ a, a < N → ∀ b, b < N → a ≠ b → (T a).2.1 ≠ (T b).2.1) := by
  match ci, h with
  | 0, h => cases h; exact ⟨jx_ins jx_i0, jx_t0, jx_n0⟩
  | 1, h => cases h; exact ⟨jx_ins jx_i1, jx_t1, jx_n1⟩
  | 2, h => cases h; exact ⟨jx_ins jx_i2, jx_t2, jx_n2⟩
  | 3, h => cases h; exact ⟨jx_ins jx_i3, jx_t3, jx_n3⟩
  | 4, h => cases h; exact ⟨jx_ins jx_i4, jx_t4, jx_n4⟩
  | 5, h => cases h; exact ⟨jx_ins jx_i5, jx_t5, jx_n5⟩
  | 6, h => cases h; exact ⟨jx_ins jx_i6, jx_t6, jx_n6⟩
  | 7, h => cases h; exact ⟨jx_ins jx_i7, jx_t7, jx_n7⟩
  | n + 8, h => cases h
theorem jx_dv : ∀ ci, ci < 8 → ∀ k, k < 28 → defaultValue (jx_ty ci k) = if jx_rt ci k = true then va_rf none else .int 0 := by decide +kernel
theorem jx_bd {ci : Nat} {C : String} {T : u_T} {N : Nat} (h : jx_cl[ci]? = some (C, T, N)) : ci < 8 ∧ N ≤ 28 := by
  match ci, h with
  | 0, h => cases h; exact ⟨by decide, by decide⟩
  | 1, h => cases h; exact ⟨by decide, by decide⟩
  | 2, h => cases h; exact ⟨by decide, by decide⟩
  | 3, h => cases h; exact ⟨by decide, by decide⟩
  | 4, h => cases h; exact ⟨by decide, by decide⟩
  | 5, h => cases h; exact ⟨by decide, by decide⟩
  | 6, h => cases h; exact ⟨by decide, by decide⟩
  | 7, h => cases h; exact ⟨by decide, by decide⟩
  | n + 8, h => cases h
def jx_wM : List (String × Nat × MethodName × String) := [("StretchedRows$Column", 55, ⟨"StretchedRows", "shiftWithin", "(II)I"⟩, "StretchedRows"), ("StretchedRows$Row", 127, ⟨"StretchedRows", "shiftWithin", "(II)I"⟩, "StretchedRows"), ("StretchedRows$Container", 74, ⟨"StretchedRows", "shiftWithin", "(II)I"⟩, "StretchedRows")]
def jx_wF : List (String × Nat × String × String × String × String) := [("StretchedRows$Node", 22, "StretchedRows", "AT_FIRST", "[I", "StretchedRows")]
def jx_wC : List (String × String) := [("java/lang/IllegalArgumentException", "java/lang/IllegalArgumentException"), ("java/lang/IllegalStateException", "java/lang/IllegalStateException"), ("[I", "java/lang/Cloneable"), ("StretchedRows$Column", "StretchedRows$Container"), ("StretchedRows$Grid", "StretchedRows$Container"), ("StretchedRows$Row", "StretchedRows$Container"), ("StretchedRows$Text", "StretchedRows$Text"), ("StretchedRows$Grid", "StretchedRows$Grid"), ("StretchedRows$Box", "StretchedRows$Node"), ("StretchedRows$Column", "StretchedRows$Node"), ("StretchedRows$Grid", "StretchedRows$Node"), ("StretchedRows$Row", "StretchedRows$Node"), ("StretchedRows$Text", "StretchedRows$Node")]
def jx_wD : List MethodName := [⟨"java/lang/RuntimeException", "<init>", "()V"⟩, ⟨"java/lang/RuntimeException", "<init>", "(Ljava/lang/String;)V"⟩, ⟨"java/lang/Exception", "<init>", "()V"⟩, ⟨"java/lang/Exception", "<init>", "(Ljava/lang/String;)V"⟩, ⟨"java/lang/Throwable", "<init>", "()V"⟩, ⟨"java/lang/Throwable", "<init>", "(Ljava/lang/String;)V"⟩, ⟨"StretchedRows$Node", "findNaturalWidth", "()I"⟩, ⟨"StretchedRows$Container", "findNaturalInside", "()I"⟩, ⟨"StretchedRows$Container", "gapsAmong", "(I)I"⟩, ⟨"StretchedRows$Container", "breakLines", "()V"⟩, ⟨"StretchedRows$Container", "putInLine", "(IZ)V"⟩, ⟨"StretchedRows$Container", "spreadChildren", "()V"⟩, ⟨"StretchedRows$Node", "stack", "()V"⟩]
def jx_wS : List (Nat × String) := [(28, "no such kind"), (37, "no such parent"), (46, "no room for a node"), (60, "no such node"), (74, "no such number"), (83, "the number is out of its range"), (90, "the width is out of its range"), (95, "no room for a word"), (101, "no such text"), (108, "no room for a track"), (114, "no such grid"), (120, "nothing to lay out"), (159, "the node is not laid out"), (161, "no such measure")]
def jx_wN : List (String × String) := [("StretchedRows", "java/lang/IllegalArgumentException"), ("StretchedRowsModel", "java/lang/IllegalArgumentException"), ("java/lang/IllegalStateException", "java/lang/IllegalArgumentException"), ("StretchedRows$Text", "java/lang/IllegalArgumentException"), ("StretchedRows$Column", "java/lang/IllegalArgumentException"), ("StretchedRows$Row", "java/lang/IllegalArgumentException"), ("StretchedRows$Shares", "java/lang/IllegalArgumentException"), ("StretchedRows$Grid", "java/lang/IllegalArgumentException"), ("StretchedRows$Box", "java/lang/IllegalArgumentException"), ("StretchedRows", "java/lang/IllegalStateException"), ("StretchedRowsModel", "java/lang/IllegalStateException"), ("java/lang/IllegalArgumentException", "java/lang/IllegalStateException"), ("StretchedRows$Text", "java/lang/IllegalStateException"), ("StretchedRows$Column", "java/lang/IllegalStateException"), ("StretchedRows$Row", "java/lang/IllegalStateException"), ("StretchedRows$Shares", "java/lang/IllegalStateException"), ("StretchedRows$Grid", "java/lang/IllegalStateException"), ("StretchedRows$Box", "java/lang/IllegalStateException"), ("StretchedRows", "StretchedRows$Container"), ("StretchedRowsModel", "StretchedRows$Container"), ("java/lang/IllegalArgumentException", "StretchedRows$Container"), ("java/lang/IllegalStateException", "StretchedRows$Container"), ("StretchedRows$Text", "StretchedRows$Container"), ("StretchedRows$Shares", "StretchedRows$Container"), ("StretchedRows$Box", "StretchedRows$Container"), ("StretchedRows", "StretchedRows$Text"), ("StretchedRowsModel", "StretchedRows$Text"), ("java/lang/IllegalArgumentException", "StretchedRows$Text"), ("java/lang/IllegalStateException", "StretchedRows$Text"), ("StretchedRows$Column", "StretchedRows$Text"), ("StretchedRows$Row", "StretchedRows$Text"), ("StretchedRows$Shares", "StretchedRows$Text"), ("StretchedRows$Grid", "StretchedRows$Text"), ("StretchedRows$Box", "StretchedRows$Text"), ("StretchedRows", "StretchedRows$Grid"), ("StretchedRowsModel", "StretchedRows$Grid"), ("java/lang/IllegalArgumentException", "StretchedRows$Grid"), ("java/lang/IllegalStateException", "StretchedRows$Grid"), ("StretchedRows$Text", "StretchedRows$Grid"), ("StretchedRows$Column", "StretchedRows$Grid"), ("StretchedRows$Row", "StretchedRows$Grid"), ("StretchedRows$Shares", "StretchedRows$Grid"), ("StretchedRows$Box", "StretchedRows$Grid")]
abbrev jx_G : Type := Launch × va_G × Nat × (Nat → Nat)
/-- what the launch gives, at a state U whose heap is H; B is where ours begins -/
def jx_Ga (g : jx_G) (U : State) (H : Heap) : Prop :=
  va_K g.2.1 jx_cl [] U ∧ va_AO jx_ND U ∧ (∀ q ∈ jx_wM, va_Nw (.methodLinkNest q.1 q.2.1 q.2.2.1 q.2.2.2) U) ∧ (∀ q ∈ jx_wF, va_Nw (.fieldLinkNest q.1 q.2.1 q.2.2.1 q.2.2.2.1 q.2.2.2.2.1 q.2.2.2.2.2) U) ∧ (∀ q ∈ jx_wC, va_Nw (.castable q.1 q.2) U) ∧ (∀ q ∈ jx_wD, va_Nw (.declares q) U) ∧
  (∀ q ∈ jx_wN, va_Nc q.1 q.2 U) ∧ (∀ q ∈ jx_wS, vk_R "StretchedRows" q.1 q.2 (g.2.2.2 q.1) U) ∧
  va_Z "StretchedRows" "LOWEST" "[I" (.ref (g.2.2.2 1000)) (fun q => g.2.2.1 ≤ q) U H ∧ va_Z "StretchedRows" "HIGHEST" "[I" (.ref (g.2.2.2 1001)) (fun q => g.2.2.1 ≤ q) U H ∧ va_Z "StretchedRows" "AT_FIRST" "[I" (.ref (g.2.2.2 1002)) (fun q => g.2.2.1 ≤ q) U H ∧
  vx_Zq Bundle.tN "UNASSIGNED_STACK" Bundle.steD (fun q => g.2.2.1 ≤ q) U H ∧ vx_Zq Bundle.tN "SUPPRESSED_SENTINEL" Bundle.listD (fun q => g.2.2.1 ≤ q) U H ∧ g.1.stackTraces = false
theorem jx_Ga_K {g : jx_G} {U : State} {H : Heap} (h : jx_Ga g U H) : va_K g.2.1 jx_cl [] U := h.1
theorem jx_Ga_AO {g : jx_G} {U : State} {H : Heap} (h : jx_Ga g U H) : va_AO jx_ND U := h.2.1
theorem jx_Ga_warm {g : jx_G} {s U : State} {H H1 : Heap} (hW : s.WarmedH U.vm) (hq : ∀ a : Nat, a < H.size → ¬ g.2.2.1 ≤ a → H1[a]? = H[a]?) (h : jx_Ga g s H) : jx_Ga g U H1 := by
  obtain ⟨a1, a2, a3, a4, a5, a6, a7, a8, a9, a10, a11, a12, a13, a14⟩ := h
  exact ⟨va_K.moved hW.alike a1, va_AO.moved hW.alike a2, fun q hq => va_Nw.warmM hW (a3 q hq), fun q hq => va_Nw.warmF hW (a4 q hq), fun q hq => va_Nw.warmC hW (a5 q hq), fun q hq => va_Nw.warmD hW (a6 q hq),
    fun q hq => va_Nc.moved hW.alike (a7 q hq), fun q hq => vk_R.warm hW (a8 q hq), va_Z.moved hW.alike (a9.kept hq), va_Z.moved hW.alike (a10.kept hq), va_Z.moved hW.alike (a11.kept hq), vx_Zq.moved hW.alike (a12.kept hq), vx_Zq.moved hW.alike (a13.kept hq), a14⟩
def jx_rv : Value → Option Nat
  | .ref a => some a
  | _ => none
theorem jx_rv_rf {o : Option Nat} : jx_rv (va_rf o) = o := by cases o <;> rfl
theorem jx_rv_r {a : Nat} : jx_rv (.ref a) = some a := rfl
theorem jx_rv_n : jx_rv .null = none := rfl
theorem jx_nar_rf {ty : FieldType} {o : Option Nat} (h : jx_isr ty = true) : narrow ty (va_rf o) = va_rf o := by
  cases ty <;> first | (cases h; done) | (cases o <;> rfl)
theorem jx_fit_rf {ty : FieldType} {o : Option Nat} (h : jx_isr ty = true) : fits ty (va_rf o) = true := by
  cases ty <;> first | (cases h; done) | (cases o <;> rfl)
theorem jx_castw {ci : Nat} (h1 : jx_N0 ≤ ci) (h2 : ci ≤ jx_N1) {r : vw_C} (hr : jx_cl[ci]? = some r) : (r.1, jx_ND) ∈ jx_wC := by
  rcases (show ci = 3 ∨ ci = 4 ∨ ci = 5 ∨ ci = 6 ∨ ci = 7 by unfold jx_N0 at h1; unfold jx_N1 at h2; omega) with rfl | rfl | rfl | rfl | rfl <;> (cases hr; decide +kernel)
