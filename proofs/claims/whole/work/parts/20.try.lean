theorem wd_16 : Cond.initialized "java/lang/Math" ∈ jx_ws := jx_in 16 (by decide +kernel) (by decide +kernel)
theorem wd_27 : Cond.fieldLink "StretchedRows" 11 "StretchedRows" "there" "[LStretchedRows$Node;" ∈ jx_ws := jx_in 27 (by decide +kernel) (by decide +kernel)
theorem wd_28 : Cond.fieldLink "StretchedRows" 15 "StretchedRows" "thereCount" "I" ∈ jx_ws := jx_in 28 (by decide +kernel) (by decide +kernel)
theorem wd_197 : Cond.fieldLink "StretchedRows" 53 "StretchedRows$Node" "number" "I" ∈ jx_ws := jx_in 197 (by decide +kernel) (by decide +kernel)
theorem wd_203 : Cond.fieldLink "StretchedRows$Node" 31 "StretchedRows$Node" "numbers" "[I" ∈ jx_ws := jx_in 203 (by decide +kernel) (by decide +kernel)
theorem wd_613 : Cond.static ⟨"java/lang/Math", "max", "(II)I"⟩ ∈ jx_ws := jx_in 613 (by decide +kernel) (by decide +kernel)
theorem wd_653 : Cond.methodLink "StretchedRows$Node" 58 ⟨"java/lang/Math", "min", "(II)I"⟩ ∈ jx_ws := jx_in 653 (by decide +kernel) (by decide +kernel)
theorem wd_654 : Cond.static ⟨"java/lang/Math", "min", "(II)I"⟩ ∈ jx_ws := jx_in 654 (by decide +kernel) (by decide +kernel)
theorem wd_656 : Cond.methodLink "StretchedRows$Node" 64 ⟨"java/lang/Math", "max", "(II)I"⟩ ∈ jx_ws := jx_in 656 (by decide +kernel) (by decide +kernel)
theorem wd_842 : Cond.fieldLink "StretchedRowsModel" 87 "StretchedRowsModel" "made" "I" ∈ jx_ws := jx_in 842 (by decide +kernel) (by decide +kernel)
theorem wd_844 : Cond.fieldLink "StretchedRowsModel" 7 "StretchedRowsModel" "there" "[Z" ∈ jx_ws := jx_in 844 (by decide +kernel) (by decide +kernel)
theorem wd_848 : Cond.fieldLink "StretchedRowsModel" 23 "StretchedRowsModel" "numbers" "[I" ∈ jx_ws := jx_in 848 (by decide +kernel) (by decide +kernel)
theorem fo_M_23 : jx_fo "StretchedRowsModel" 23 7 1 1 true (.array .int) := by
  refine ⟨"StretchedRowsModel", "numbers", "[I", wd_848, by decide +kernel, fun ci h1 h2 => ?_⟩
  rcases (show ci = 1 by omega) with rfl <;> exact ⟨_, _, _, rfl, by decide, rfl, rfl, rfl, Or.inl rfl⟩
theorem fo_M_87 : jx_fo "StretchedRowsModel" 87 1 1 1 false .int := by
  refine ⟨"StretchedRowsModel", "made", "I", wd_842, by decide +kernel, fun ci h1 h2 => ?_⟩
  rcases (show ci = 1 by omega) with rfl <;> exact ⟨_, _, _, rfl, by decide, rfl, rfl, rfl, Or.inl rfl⟩
theorem fo_M_7 : jx_fo "StretchedRowsModel" 7 3 1 1 true (.array .boolean) := by
  refine ⟨"StretchedRowsModel", "there", "[Z", wd_844, by decide +kernel, fun ci h1 h2 => ?_⟩
  rcases (show ci = 1 by omega) with rfl <;> exact ⟨_, _, _, rfl, by decide, rfl, rfl, rfl, Or.inl rfl⟩
theorem fo_S_15 : jx_fo "StretchedRows" 15 1 0 0 false .int := by
  refine ⟨"StretchedRows", "thereCount", "I", wd_28, by decide +kernel, fun ci h1 h2 => ?_⟩
  rcases (show ci = 0 by omega) with rfl <;> exact ⟨_, _, _, rfl, by decide, rfl, rfl, rfl, Or.inl rfl⟩
theorem fo_S_11 : jx_fo "StretchedRows" 11 0 0 0 true (.array (.object "StretchedRows$Node")) := by
  refine ⟨"StretchedRows", "there", "[LStretchedRows$Node;", wd_27, by decide +kernel, fun ci h1 h2 => ?_⟩
  rcases (show ci = 0 by omega) with rfl <;> exact ⟨_, _, _, rfl, by decide, rfl, rfl, rfl, Or.inl rfl⟩
theorem fo_S_53 : jx_fo "StretchedRows" 53 0 3 7 true .int := by
  refine ⟨"StretchedRows$Node", "number", "I", wd_197, by decide +kernel, fun ci h1 h2 => ?_⟩
  rcases (show ci = 3 ∨ ci = 4 ∨ ci = 5 ∨ ci = 6 ∨ ci = 7 by omega) with rfl | rfl | rfl | rfl | rfl <;> exact ⟨_, _, _, rfl, by decide, rfl, rfl, rfl, Or.inl rfl⟩
theorem fo_N_31 : jx_fo "StretchedRows$Node" 31 3 3 7 true (.array .int) := by
  refine ⟨"StretchedRows$Node", "numbers", "[I", wd_203, by decide +kernel, fun ci h1 h2 => ?_⟩
  rcases (show ci = 3 ∨ ci = 4 ∨ ci = 5 ∨ ci = 6 ∨ ci = 7 by omega) with rfl | rfl | rfl | rfl | rfl <;> exact ⟨_, _, _, rfl, by decide, rfl, rfl, rfl, Or.inl rfl⟩
abbrev ky_M_number : jx_yk := (⟨"StretchedRowsModel", "number", "(II)I"⟩, prog_11_method_6_code, 3, (some FieldType.int), (0, 0), (0, 0))
abbrev me_M_number : jx_me := ("StretchedRowsModel", prog_11_method_6_code, 3, (some FieldType.int), (0, 0), false, [])

theorem bk_M_number_0 {g : jx_G} {K : jx_Kt} {σ : jx_S} (h : (jx_sq (jt_keep [0, 1, 2]) (jx_sq (jt_aload 0) (jx_sq (jt_gfr 7 1 1) (jx_sq (jt_iconst 14) (jx_sq (jt_iload 1) (jx_sq (jt_imul) (jx_sq (jt_iload 2) (jx_sq (jt_iadd) (jt_iald))))))))) σ (jx_ri K)) : jx_J g me_M_number 0 σ K :=
  (jx_So.c (js_keep [0, 1, 2]) (jx_So.c (js_aload_n (k := 0) (by decide +kernel) rfl) (jx_So.c (js_gfr (by decide +kernel) fo_M_23 rfl) (jx_So.c (js_bipush (n := (14)) (by decide +kernel) rfl) (jx_So.c (js_iload_n (k := 1) (by decide +kernel) rfl) (jx_So.c (js_imul (by decide +kernel)) (jx_So.c (js_iload_n (k := 2) (by decide +kernel) rfl) (jx_So.c (js_iadd (by decide +kernel)) ((js_iald (by decide +kernel)))))))))) : jx_So g me_M_number 0 _ _) K _ σ (fun σ h => jb_ri (by decide +kernel) rfl σ h) h
abbrev ky_M_isThere : jx_yk := (⟨"StretchedRowsModel", "isThere", "(I)Z"⟩, prog_11_method_4_code, 2, (some FieldType.boolean), (0, 0), (0, 0))
abbrev me_M_isThere : jx_me := ("StretchedRowsModel", prog_11_method_4_code, 2, (some FieldType.boolean), (0, 0), false, [])

theorem bk_M_isThere_0 {g : jx_G} {K : jx_Kt} {σ : jx_S} (h : (jx_sq (jt_keep [0, 1]) (jt_iload 1)) σ (jx_if (fun x => x < 0) (fun σ => jx_J g me_M_isThere 25 σ K) (fun σ => jx_J g me_M_isThere 4 σ K))) : jx_J g me_M_isThere 0 σ K :=
  (jx_So.c (js_keep [0, 1]) ((js_iload_n (k := 1) (by decide +kernel) rfl)) : jx_So g me_M_isThere 0 _ _) K _ σ (fun σ h => jb_if_lt (off := (24)) (by decide +kernel) rfl σ h) h
theorem bk_M_isThere_4 {g : jx_G} {K : jx_Kt} {σ : jx_S} (h : (jx_sq (jt_keep [0, 1]) (jx_sq (jt_iload 1) (jx_sq (jt_aload 0) (jt_gfi 1 1 1)))) σ (jx_ic (fun x y => y ≤ x) (fun σ => jx_J g me_M_isThere 25 σ K) (fun σ => jx_J g me_M_isThere 12 σ K))) : jx_J g me_M_isThere 4 σ K :=
  (jx_So.c (js_keep [0, 1]) (jx_So.c (js_iload_n (k := 1) (by decide +kernel) rfl) (jx_So.c (js_aload_n (k := 0) (by decide +kernel) rfl) ((js_gfi (by decide +kernel) fo_M_87 rfl)))) : jx_So g me_M_isThere 4 _ _) K _ σ (fun σ h => jb_icmp_ge (off := (16)) (by decide +kernel) rfl σ h) h
theorem bk_M_isThere_12 {g : jx_G} {K : jx_Kt} {σ : jx_S} (h : (jx_sq (jt_keep [0, 1]) (jx_sq (jt_aload 0) (jx_sq (jt_gfr 3 1 1) (jx_sq (jt_iload 1) (jt_zald))))) σ (jx_if (fun x => x = 0) (fun σ => jx_J g me_M_isThere 25 σ K) (fun σ => jx_J g me_M_isThere 21 σ K))) : jx_J g me_M_isThere 12 σ K :=
  (jx_So.c (js_keep [0, 1]) (jx_So.c (js_aload_n (k := 0) (by decide +kernel) rfl) (jx_So.c (js_gfr (by decide +kernel) fo_M_7 rfl) (jx_So.c (js_iload_n (k := 1) (by decide +kernel) rfl) ((js_zald (by decide +kernel)))))) : jx_So g me_M_isThere 12 _ _) K _ σ (fun σ h => jb_if_eq (off := (7)) (by decide +kernel) rfl σ h) h
theorem bk_M_isThere_21 {g : jx_G} {K : jx_Kt} {σ : jx_S} (h : (jx_sq (jt_keep []) (jx_sq (jt_iconst 1) (jt_nop))) σ ((fun σ => jx_J g me_M_isThere 26 σ K))) : jx_J g me_M_isThere 21 σ K :=
  (jx_So.c (js_keep []) (jx_So.c (js_iconst (n := (1)) (by decide +kernel) rfl) ((js_goto (off := (4)) (by decide +kernel) rfl))) : jx_So g me_M_isThere 21 _ _) K _ σ (fun _ h => h) h
theorem bk_M_isThere_25 {g : jx_G} {K : jx_Kt} {σ : jx_S} (h : (jx_sq (jt_keep []) (jt_iconst 0)) σ ((fun σ => jx_J g me_M_isThere 26 σ K))) : jx_J g me_M_isThere 25 σ K :=
  (jx_So.c (js_keep []) ((js_iconst (n := (0)) (by decide +kernel) rfl)) : jx_So g me_M_isThere 25 _ _) K _ σ (fun _ h => h) h
theorem bk_M_isThere_26 {g : jx_G} {K : jx_Kt} {σ : jx_S} (h : (jt_keep []) σ (jx_rz K)) : jx_J g me_M_isThere 26 σ K :=
  ((js_keep []) : jx_So g me_M_isThere 26 _ _) K _ σ (fun σ h => jb_rz (by decide +kernel) rfl σ h) h
abbrev ky_S_findNode : jx_yk := (⟨"StretchedRows", "findNode", "(I)LStretchedRows$Node;"⟩, prog_1_method_14_code, 3, (some (FieldType.object "StretchedRows$Node")), (0, 0), (0, 0))
abbrev me_S_findNode : jx_me := ("StretchedRows", prog_1_method_14_code, 3, (some (FieldType.object "StretchedRows$Node")), (0, 0), false, [])

theorem bk_S_findNode_0 {g : jx_G} {K : jx_Kt} {σ : jx_S} (h : (jx_sq (jt_keep [0, 1]) (jx_sq (jt_iconst 0) (jt_istore 2))) σ ((fun σ => jx_J g me_S_findNode 2 σ K))) : jx_J g me_S_findNode 0 σ K :=
  (jx_So.c (js_keep [0, 1]) (jx_So.c (js_iconst (n := (0)) (by decide +kernel) rfl) ((js_istore_n (k := 2) (by decide +kernel) rfl (by decide)))) : jx_So g me_S_findNode 0 _ _) K _ σ (fun _ h => h) h
theorem bk_S_findNode_2 {g : jx_G} {K : jx_Kt} {σ : jx_S} (h : (jx_sq (jt_keep [0, 1, 2]) (jx_sq (jt_iload 2) (jx_sq (jt_aload 0) (jt_gfi 1 0 0)))) σ (jx_ic (fun x y => y ≤ x) (fun σ => jx_J g me_S_findNode 36 σ K) (fun σ => jx_J g me_S_findNode 10 σ K))) : jx_J g me_S_findNode 2 σ K :=
  (jx_So.c (js_keep [0, 1, 2]) (jx_So.c (js_iload_n (k := 2) (by decide +kernel) rfl) (jx_So.c (js_aload_n (k := 0) (by decide +kernel) rfl) ((js_gfi (by decide +kernel) fo_S_15 rfl)))) : jx_So g me_S_findNode 2 _ _) K _ σ (fun σ h => jb_icmp_ge (off := (29)) (by decide +kernel) rfl σ h) h
theorem bk_S_findNode_10 {g : jx_G} {K : jx_Kt} {σ : jx_S} (h : (jx_sq (jt_keep [0, 1, 2]) (jx_sq (jt_aload 0) (jx_sq (jt_gfr 0 0 0) (jx_sq (jt_iload 2) (jx_sq (jt_aald) (jx_sq (jt_gfi 0 3 7) (jt_iload 1))))))) σ (jx_ic (fun x y => x ≠ y) (fun σ => jx_J g me_S_findNode 30 σ K) (fun σ => jx_J g me_S_findNode 23 σ K))) : jx_J g me_S_findNode 10 σ K :=
  (jx_So.c (js_keep [0, 1, 2]) (jx_So.c (js_aload_n (k := 0) (by decide +kernel) rfl) (jx_So.c (js_gfr (by decide +kernel) fo_S_11 rfl) (jx_So.c (js_iload_n (k := 2) (by decide +kernel) rfl) (jx_So.c (js_aald (by decide +kernel)) (jx_So.c (js_gfi (by decide +kernel) fo_S_53 rfl) ((js_iload_n (k := 1) (by decide +kernel) rfl))))))) : jx_So g me_S_findNode 10 _ _) K _ σ (fun σ h => jb_icmp_ne (off := (10)) (by decide +kernel) rfl σ h) h
theorem bk_S_findNode_23 {g : jx_G} {K : jx_Kt} {σ : jx_S} (h : (jx_sq (jt_keep [0, 2]) (jx_sq (jt_aload 0) (jx_sq (jt_gfr 0 0 0) (jx_sq (jt_iload 2) (jt_aald))))) σ (jx_ra K)) : jx_J g me_S_findNode 23 σ K :=
  (jx_So.c (js_keep [0, 2]) (jx_So.c (js_aload_n (k := 0) (by decide +kernel) rfl) (jx_So.c (js_gfr (by decide +kernel) fo_S_11 rfl) (jx_So.c (js_iload_n (k := 2) (by decide +kernel) rfl) ((js_aald (by decide +kernel)))))) : jx_So g me_S_findNode 23 _ _) K _ σ (fun σ h => jb_ra (by decide +kernel) rfl σ h) h
theorem bk_S_findNode_30 {g : jx_G} {K : jx_Kt} {σ : jx_S} (h : (jx_sq (jt_keep [0, 1, 2]) (jx_sq (jt_iinc 2 1) (jt_nop))) σ ((fun σ => jx_J g me_S_findNode 2 σ K))) : jx_J g me_S_findNode 30 σ K :=
  (jx_So.c (js_keep [0, 1, 2]) (jx_So.c (js_iinc (n := (1)) (by decide +kernel) rfl (by decide)) ((js_goto (off := (-31)) (by decide +kernel) rfl))) : jx_So g me_S_findNode 30 _ _) K _ σ (fun _ h => h) h
theorem bk_S_findNode_36 {g : jx_G} {K : jx_Kt} {σ : jx_S} (h : (jx_sq (jt_keep []) (jt_null)) σ (jx_ra K)) : jx_J g me_S_findNode 36 σ K :=
  (jx_So.c (js_keep []) ((js_null (by decide +kernel))) : jx_So g me_S_findNode 36 _ _) K _ σ (fun σ h => jb_ra (by decide +kernel) rfl σ h) h
abbrev ky_N_isHidden : jx_yk := (⟨"StretchedRows$Node", "isHidden", "()Z"⟩, prog_6_method_7_code, 1, (some FieldType.boolean), (0, 0), (0, 0))
abbrev me_N_isHidden : jx_me := ("StretchedRows$Node", prog_6_method_7_code, 1, (some FieldType.boolean), (0, 0), false, [])

theorem bk_N_isHidden_0 {g : jx_G} {K : jx_Kt} {σ : jx_S} (h : (jx_sq (jt_keep [0]) (jx_sq (jt_aload 0) (jx_sq (jt_gfr 3 3 7) (jx_sq (jt_iconst 7) (jx_sq (jt_iald) (jt_iconst 1)))))) σ (jx_ic (fun x y => x ≠ y) (fun σ => jx_J g me_N_isHidden 15 σ K) (fun σ => jx_J g me_N_isHidden 11 σ K))) : jx_J g me_N_isHidden 0 σ K :=
  (jx_So.c (js_keep [0]) (jx_So.c (js_aload_n (k := 0) (by decide +kernel) rfl) (jx_So.c (js_gfr (by decide +kernel) fo_N_31 rfl) (jx_So.c (js_bipush (n := (7)) (by decide +kernel) rfl) (jx_So.c (js_iald (by decide +kernel)) ((js_iconst (n := (1)) (by decide +kernel) rfl)))))) : jx_So g me_N_isHidden 0 _ _) K _ σ (fun σ h => jb_icmp_ne (off := (7)) (by decide +kernel) rfl σ h) h
theorem bk_N_isHidden_11 {g : jx_G} {K : jx_Kt} {σ : jx_S} (h : (jx_sq (jt_keep []) (jx_sq (jt_iconst 1) (jt_nop))) σ ((fun σ => jx_J g me_N_isHidden 16 σ K))) : jx_J g me_N_isHidden 11 σ K :=
  (jx_So.c (js_keep []) (jx_So.c (js_iconst (n := (1)) (by decide +kernel) rfl) ((js_goto (off := (4)) (by decide +kernel) rfl))) : jx_So g me_N_isHidden 11 _ _) K _ σ (fun _ h => h) h
theorem bk_N_isHidden_15 {g : jx_G} {K : jx_Kt} {σ : jx_S} (h : (jx_sq (jt_keep []) (jt_iconst 0)) σ ((fun σ => jx_J g me_N_isHidden 16 σ K))) : jx_J g me_N_isHidden 15 σ K :=
  (jx_So.c (js_keep []) ((js_iconst (n := (0)) (by decide +kernel) rfl)) : jx_So g me_N_isHidden 15 _ _) K _ σ (fun _ h => h) h
theorem bk_N_isHidden_16 {g : jx_G} {K : jx_Kt} {σ : jx_S} (h : (jt_keep []) σ (jx_rz K)) : jx_J g me_N_isHidden 16 σ K :=
  ((js_keep []) : jx_So g me_N_isHidden 16 _ _) K _ σ (fun σ h => jb_rz (by decide +kernel) rfl σ h) h
abbrev ky_N_clamped : jx_yk := (⟨"StretchedRows$Node", "clamped", "(I)I"⟩, prog_6_method_10_code, 2, (some FieldType.int), (1, 21), (0, 0))
abbrev me_N_clamped : jx_me := ("StretchedRows$Node", prog_6_method_10_code, 2, (some FieldType.int), (1, 21), false, [])

theorem bk_N_clamped_0 {g : jx_G} {K : jx_Kt} {σ : jx_S} (h : (jx_sq (jt_keep [0, 1]) (jx_sq (jt_iload 1) (jx_sq (jt_aload 0) (jx_sq (jt_gfr 3 3 7) (jx_sq (jt_iconst 4) (jx_sq (jt_iald) (jx_sq (jt_mmin) (jx_sq (jt_aload 0) (jx_sq (jt_gfr 3 3 7) (jx_sq (jt_iconst 3) (jx_sq (jt_iald) (jt_mmax)))))))))))) σ (jx_ri K)) : jx_J g me_N_clamped 0 σ K :=
  (jx_So.c (js_keep [0, 1]) (jx_So.c (js_iload_n (k := 1) (by decide +kernel) rfl) (jx_So.c (js_aload_n (k := 0) (by decide +kernel) rfl) (jx_So.c (js_gfr (by decide +kernel) fo_N_31 rfl) (jx_So.c (js_iconst (n := (4)) (by decide +kernel) rfl) (jx_So.c (js_iald (by decide +kernel)) (jx_So.c (js_mmin (by decide +kernel) wd_653 wd_654 wd_16 wd_mmin (by decide)) (jx_So.c (js_aload_n (k := 0) (by decide +kernel) rfl) (jx_So.c (js_gfr (by decide +kernel) fo_N_31 rfl) (jx_So.c (js_iconst (n := (3)) (by decide +kernel) rfl) (jx_So.c (js_iald (by decide +kernel)) ((js_mmax (by decide +kernel) wd_656 wd_613 wd_16 wd_mmax (by decide))))))))))))) : jx_So g me_N_clamped 0 _ _) K _ σ (fun σ h => jb_ri (by decide +kernel) rfl σ h) h
