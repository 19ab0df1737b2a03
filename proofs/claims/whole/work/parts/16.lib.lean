def jt_mmax : jx_tr := fun σ P => match σ with
  | (lv, y :: x :: st, μ, b) => jx_i x ∧ jx_i y ∧ jx_sm st ∧ P (lv, .int (jx_mx (jx_iv x) (jx_iv y)) :: st, μ, b)
  | _ => False
theorem jt_mmax_e {y x : Value} {lv : List (Nat × Value)} {st : List Value} {μ : jx_M} {b : Nat × Nat} {P : jx_S → Prop} : jt_mmax (lv, y :: x :: st, μ, b) P = (jx_i x ∧ jx_i y ∧ jx_sm st ∧ P (lv, .int (jx_mx (jx_iv x) (jx_iv y)) :: st, μ, b)) := rfl
theorem js_mmax {g : jx_G} {me : jx_me} {pc idx : Nat} (hd : decode (jx_cc me) pc = .ok (.invokestatic idx, 3)) (hw1 : Cond.methodLink (jx_ow me) idx Lib.Math.max.name ∈ jx_ws) (hw2 : Cond.static Lib.Math.max.name ∈ jx_ws) (hw3 : Cond.initialized "java/lang/Math" ∈ jx_ws) (hw4 : Cond.code Lib.Math.max.name Lib.Math.max.code 2 (some .int) ∈ jx_ws) (hr : 1 ≤ (jx_ht me).1 ∧ 21 ≤ (jx_ht me).2) : jx_So g me pc (pc + 3) jt_mmax := by
  intro K P σ hP ht
  obtain ⟨lv, st, μ, b⟩ := σ
  rcases st with _ | ⟨y, _ | ⟨x, st⟩⟩
  · exact False.elim ht
  · exact False.elim ht
  · obtain ⟨⟨x, rfl⟩, ⟨y, rfl⟩, hsm, ht⟩ := ht
    intro p e R s m args below meth c H locs cells slots ls mc ms hC hH hS hl h1 h2 h3 h4
    have hts := hC.2.2.2.2.2.2.2.2.1
    have hsm9 : (st.map fun v => v.category).sum ≤ 8 := hsm
    exact va_mmax hC.1 hC.2.1 (hC.2.2.1.trans hl.1.symm) hC.2.2.2.1 (hts _ hw1) (hts _ hw2) (hts _ hw3) (hts _ hw4) (Nat.le_trans hr.1 hC.2.2.2.2.2.2.2.2.2.2.2.1) (Nat.le_trans (Nat.add_le_add_right hsm9 13) (Nat.le_trans hr.2 hC.2.2.2.2.2.2.2.2.2.2.2.2)) (by omega) (by omega) hd (hP _ ht p e R s m args below meth c H locs cells slots ls mc ms hC hH hS hl h1 h2 h3 h4)
def jt_mmin : jx_tr := fun σ P => match σ with
  | (lv, y :: x :: st, μ, b) => jx_i x ∧ jx_i y ∧ jx_sm st ∧ P (lv, .int (jx_mn (jx_iv x) (jx_iv y)) :: st, μ, b)
  | _ => False
theorem jt_mmin_e {y x : Value} {lv : List (Nat × Value)} {st : List Value} {μ : jx_M} {b : Nat × Nat} {P : jx_S → Prop} : jt_mmin (lv, y :: x :: st, μ, b) P = (jx_i x ∧ jx_i y ∧ jx_sm st ∧ P (lv, .int (jx_mn (jx_iv x) (jx_iv y)) :: st, μ, b)) := rfl
theorem js_mmin {g : jx_G} {me : jx_me} {pc idx : Nat} (hd : decode (jx_cc me) pc = .ok (.invokestatic idx, 3)) (hw1 : Cond.methodLink (jx_ow me) idx Lib.Math.min.name ∈ jx_ws) (hw2 : Cond.static Lib.Math.min.name ∈ jx_ws) (hw3 : Cond.initialized "java/lang/Math" ∈ jx_ws) (hw4 : Cond.code Lib.Math.min.name Lib.Math.min.code 2 (some .int) ∈ jx_ws) (hr : 1 ≤ (jx_ht me).1 ∧ 21 ≤ (jx_ht me).2) : jx_So g me pc (pc + 3) jt_mmin := by
  intro K P σ hP ht
  obtain ⟨lv, st, μ, b⟩ := σ
  rcases st with _ | ⟨y, _ | ⟨x, st⟩⟩
  · exact False.elim ht
  · exact False.elim ht
  · obtain ⟨⟨x, rfl⟩, ⟨y, rfl⟩, hsm, ht⟩ := ht
    intro p e R s m args below meth c H locs cells slots ls mc ms hC hH hS hl h1 h2 h3 h4
    have hts := hC.2.2.2.2.2.2.2.2.1
    have hsm9 : (st.map fun v => v.category).sum ≤ 8 := hsm
    exact va_mmin hC.1 hC.2.1 (hC.2.2.1.trans hl.1.symm) hC.2.2.2.1 (hts _ hw1) (hts _ hw2) (hts _ hw3) (hts _ hw4) (Nat.le_trans hr.1 hC.2.2.2.2.2.2.2.2.2.2.2.1) (Nat.le_trans (Nat.add_le_add_right hsm9 13) (Nat.le_trans hr.2 hC.2.2.2.2.2.2.2.2.2.2.2.2)) (by omega) (by omega) hd (hP _ ht p e R s m args below meth c H locs cells slots ls mc ms hC hH hS hl h1 h2 h3 h4)
def jt_gets (a : Nat) : jx_tr := fun σ P => match σ with
  | (lv, st, μ, b) => P (lv, .ref a :: st, μ, b)
theorem jt_gets_e (a : Nat) {lv : List (Nat × Value)} {st : List Value} {μ : jx_M} {b : Nat × Nat} {P : jx_S → Prop} : jt_gets a (lv, st, μ, b) P = P (lv, .ref a :: st, μ, b) := rfl
theorem js_getsL {g : jx_G} {me : jx_me} {pc idx : Nat} (hd : decode (jx_cc me) pc = .ok (.getstatic idx, 3)) (hw : Cond.fieldLink (jx_ow me) idx "StretchedRows" "LOWEST" "[I" ∈ jx_ws) : jx_So g me pc (pc + 3) (jt_gets (g.2.2.2 1000)) := by
  intro K P σ hP ht
  obtain ⟨lv, st, μ, b⟩ := σ
  intro p e R s m args below meth c H locs cells slots ls mc ms hC hH hS hl h1 h2 h3 h4
  exact va_gets hC.1 hC.2.1 hC.2.2.2.2.2.2.2.2.2.1.2.2.2.2.2.2.2.2.1 hS hC.2.2.2.1 (hC.2.2.2.2.2.2.2.2.1 _ hw) (fun _ h => h) hd (hP _ ht p e R s m args below meth c H locs cells slots ls mc ms hC hH hS hl h1 h2 h3 h4)
theorem js_getsH {g : jx_G} {me : jx_me} {pc idx : Nat} (hd : decode (jx_cc me) pc = .ok (.getstatic idx, 3)) (hw : Cond.fieldLink (jx_ow me) idx "StretchedRows" "HIGHEST" "[I" ∈ jx_ws) : jx_So g me pc (pc + 3) (jt_gets (g.2.2.2 1001)) := by
  intro K P σ hP ht
  obtain ⟨lv, st, μ, b⟩ := σ
  intro p e R s m args below meth c H locs cells slots ls mc ms hC hH hS hl h1 h2 h3 h4
  exact va_gets hC.1 hC.2.1 hC.2.2.2.2.2.2.2.2.2.1.2.2.2.2.2.2.2.2.2.1 hS hC.2.2.2.1 (hC.2.2.2.2.2.2.2.2.1 _ hw) (fun _ h => h) hd (hP _ ht p e R s m args below meth c H locs cells slots ls mc ms hC hH hS hl h1 h2 h3 h4)
theorem js_getsF {g : jx_G} {me : jx_me} {pc idx : Nat} (hd : decode (jx_cc me) pc = .ok (.getstatic idx, 3)) (hw : (jx_ow me, idx, "StretchedRows", "AT_FIRST", "[I", "StretchedRows") ∈ jx_wF) : jx_So g me pc (pc + 3) (jt_gets (g.2.2.2 1002)) := by
  intro K P σ hP ht
  obtain ⟨lv, st, μ, b⟩ := σ
  intro p e R s m args below meth c H locs cells slots ls mc ms hC hH hS hl h1 h2 h3 h4
  exact va_getsN hC.1 hC.2.1 hC.2.2.2.2.2.2.2.2.2.1.2.2.2.2.2.2.2.2.2.2.1 hS hC.2.2.2.1 (va_Nw.use (A := args) rfl (hC.2.2.2.2.2.2.2.2.2.1.2.2.2.1 _ hw)) (fun _ h => h) hd (hP _ ht p e R s m args below meth c H locs cells slots ls mc ms hC hH hS hl h1 h2 h3 h4)
/-! instanceof, checkcast -/
def jt_inst (lo hi : Nat) : jx_tr := fun σ P => match σ with
  | (lv, x :: st, μ, b) => jx_a x ∧ (x = .null → P (lv, .int 0 :: st, μ, b)) ∧ (¬ x = .null → jx_ok μ (jx_ad x) jx_N0 jx_N1 ∧ (jx_ok μ (jx_ad x) lo hi → P (lv, .int 1 :: st, μ, b)) ∧ (¬ jx_ok μ (jx_ad x) lo hi → P (lv, .int 0 :: st, μ, b)))
  | _ => False
theorem jt_inst_e (lo hi : Nat) {x : Value} {lv : List (Nat × Value)} {st : List Value} {μ : jx_M} {b : Nat × Nat} {P : jx_S → Prop} : jt_inst lo hi (lv, x :: st, μ, b) P = (jx_a x ∧ (x = .null → P (lv, .int 0 :: st, μ, b)) ∧ (¬ x = .null → jx_ok μ (jx_ad x) jx_N0 jx_N1 ∧ (jx_ok μ (jx_ad x) lo hi → P (lv, .int 1 :: st, μ, b)) ∧ (¬ jx_ok μ (jx_ad x) lo hi → P (lv, .int 0 :: st, μ, b)))) := rfl
def jx_icOk (nm : String) (lo hi : Nat) : Prop := ∀ ci, jx_N0 ≤ ci → ci ≤ jx_N1 → ∃ (C : String) (T : u_T) (N : Nat), jx_cl[ci]? = some (C, T, N) ∧ (lo ≤ ci ∧ ci ≤ hi → (C, nm) ∈ jx_wC) ∧ (¬ (lo ≤ ci ∧ ci ≤ hi) → (C, nm) ∈ jx_wN)
theorem js_inst {g : jx_G} {me : jx_me} {pc idx lo hi : Nat} {nm : String} (hd : decode (jx_cc me) pc = .ok (.instanceof idx, 3)) (hw : Cond.classLink (jx_ow me) idx nm ∈ jx_ws) (hic : jx_icOk nm lo hi) : jx_So g me pc (pc + 3) (jt_inst lo hi) := by
  intro K P σ hP ht
  obtain ⟨lv, st, μ, b⟩ := σ
  rcases st with _ | ⟨x, st⟩
  · exact False.elim ht
  · obtain ⟨ha, hn, hr⟩ := ht
    intro p e R s m args below meth c H locs cells slots ls mc ms hC hH hS hl h1 h2 h3 h4
    have hts := hC.2.2.2.2.2.2.2.2.1
    have hGa := hC.2.2.2.2.2.2.2.2.2.1
    rcases ha with rfl | ⟨a, rfl⟩
    · exact lv_instN hC.1 hC.2.1 hd (hP _ (hn rfl) p e R s m args below meth c H locs cells slots ls mc ms hC hH hS hl h1 h2 h3 h4)
    · obtain ⟨⟨ci, hk, hlo, hhi⟩, hy, hno⟩ := hr (fun q => by cases q)
      have hk : jx_kn μ a = some (.inl ci) := hk
      obtain ⟨C, T, N, hcl, q1, q2⟩ := hic ci hlo hhi
      by_cases h9 : lo ≤ ci ∧ ci ≤ hi
      · exact va_instY (C := C) hC.1 hC.2.1 hC.2.2.2.1 (hts _ hw) (hGa.2.2.2.2.1 _ (q1 h9)) (jx_recv hGa hH hk hcl) hd (hP _ (hy ⟨ci, hk, h9.1, h9.2⟩) p e R s m args below meth c H locs cells slots ls mc ms hC hH hS hl h1 h2 h3 h4)
      · refine va_instNo (C := C) hC.1 hC.2.1 hC.2.2.2.1 (hts _ hw) (hGa.2.2.2.2.2.2.1 _ (q2 h9)) (jx_recv hGa hH hk hcl) hd (hP _ (hno ?_) p e R s m args below meth c H locs cells slots ls mc ms hC hH hS hl h1 h2 h3 h4)
        rintro ⟨cj, hkj, hl1, hl2⟩
        have hkj : jx_kn μ a = some (.inl cj) := hkj
        rw [hk] at hkj
        cases hkj
        exact h9 ⟨hl1, hl2⟩
def jt_cast (lo hi : Nat) : jx_tr := fun σ P => match σ with
  | (lv, x :: st, μ, b) => jx_a x ∧ (¬ x = .null → jx_ok μ (jx_ad x) lo hi) ∧ P (lv, x :: st, μ, b)
  | _ => False
theorem jt_cast_e (lo hi : Nat) {x : Value} {lv : List (Nat × Value)} {st : List Value} {μ : jx_M} {b : Nat × Nat} {P : jx_S → Prop} : jt_cast lo hi (lv, x :: st, μ, b) P = (jx_a x ∧ (¬ x = .null → jx_ok μ (jx_ad x) lo hi) ∧ P (lv, x :: st, μ, b)) := rfl
theorem js_cast {g : jx_G} {me : jx_me} {pc idx lo hi : Nat} {nm : String} (hd : decode (jx_cc me) pc = .ok (.checkcast idx, 3)) (hw : Cond.classLink (jx_ow me) idx nm ∈ jx_ws) (hic : jx_icOk nm lo hi) (hlo : jx_N0 ≤ lo) (hhi : hi ≤ jx_N1) : jx_So g me pc (pc + 3) (jt_cast lo hi) := by
  intro K P σ hP ht
  obtain ⟨lv, st, μ, b⟩ := σ
  rcases st with _ | ⟨x, st⟩
  · exact False.elim ht
  · obtain ⟨ha, hr, ht⟩ := ht
    intro p e R s m args below meth c H locs cells slots ls mc ms hC hH hS hl h1 h2 h3 h4
    have hts := hC.2.2.2.2.2.2.2.2.1
    have hGa := hC.2.2.2.2.2.2.2.2.2.1
    rcases ha with rfl | ⟨a, rfl⟩
    · exact lv_castN hC.1 hC.2.1 hd (hP _ ht p e R s m args below meth c H locs cells slots ls mc ms hC hH hS hl h1 h2 h3 h4)
    · obtain ⟨ci, hk, h5, h6⟩ := hr (fun q => by cases q)
      have hk : jx_kn μ a = some (.inl ci) := hk
      obtain ⟨C, T, N, hcl, q1, q2⟩ := hic ci (Nat.le_trans hlo h5) (Nat.le_trans h6 hhi)
      exact va_castY (C := C) hC.1 hC.2.1 hC.2.2.2.1 (hts _ hw) (hGa.2.2.2.2.1 _ (q1 ⟨h5, h6⟩)) (jx_recv hGa hH hk hcl) hd (hP _ ht p e R s m args below meth c H locs cells slots ls mc ms hC hH hS hl h1 h2 h3 h4)
theorem jx_ic_C : jx_icOk "StretchedRows$Container" 5 7 := by
  intro ci h1 h2
  rcases (show ci = 3 ∨ ci = 4 ∨ ci = 5 ∨ ci = 6 ∨ ci = 7 by unfold jx_N0 at h1; unfold jx_N1 at h2; omega) with rfl | rfl | rfl | rfl | rfl <;> exact ⟨_, _, _, rfl, by decide +kernel, by decide +kernel⟩
theorem jx_ic_T : jx_icOk "StretchedRows$Text" 4 4 := by
  intro ci h1 h2
  rcases (show ci = 3 ∨ ci = 4 ∨ ci = 5 ∨ ci = 6 ∨ ci = 7 by unfold jx_N0 at h1; unfold jx_N1 at h2; omega) with rfl | rfl | rfl | rfl | rfl <;> exact ⟨_, _, _, rfl, by decide +kernel, by decide +kernel⟩
theorem jx_ic_G : jx_icOk "StretchedRows$Grid" 7 7 := by
  intro ci h1 h2
  rcases (show ci = 3 ∨ ci = 4 ∨ ci = 5 ∨ ci = 6 ∨ ci = 7 by unfold jx_N0 at h1; unfold jx_N1 at h2; omega) with rfl | rfl | rfl | rfl | rfl <;> exact ⟨_, _, _, rfl, by decide +kernel, by decide +kernel⟩
/-! ends, for the printed stretches -/
def jx_ri (K : jx_Kt) : jx_S → Prop := fun σ => match σ with
  | (_, [x], μ, _) => jx_i x ∧ K (.inl (some (.int (jx_iv x)))) μ
  | _ => False
theorem jx_ri_e {K : jx_Kt} {x : Value} {lv : List (Nat × Value)} {μ : jx_M} {b : Nat × Nat} : jx_ri K (lv, [x], μ, b) = (jx_i x ∧ K (.inl (some (.int (jx_iv x)))) μ) := rfl
theorem jb_ri {g : jx_G} {me : jx_me} {pc : Nat} {K : jx_Kt} (hd : decode (jx_cc me) pc = .ok (.ireturn, 1)) (hr : jx_re me = some .int) (σ : jx_S) (h : jx_ri K σ) : jx_J g me pc σ K := by
  obtain ⟨lv, st, μ, b⟩ := σ
  rcases st with _ | ⟨x, _ | ⟨y, st⟩⟩
  · exact False.elim h
  · obtain ⟨⟨x, rfl⟩, h⟩ := h
    exact jb_iret hd hr h
  · exact False.elim h
def jx_rz (K : jx_Kt) : jx_S → Prop := fun σ => match σ with
  | (_, [x], μ, _) => (x = .int 0 ∨ x = .int 1) ∧ K (.inl (some (.int (jx_iv x)))) μ
  | _ => False
theorem jx_rz_e {K : jx_Kt} {x : Value} {lv : List (Nat × Value)} {μ : jx_M} {b : Nat × Nat} : jx_rz K (lv, [x], μ, b) = ((x = .int 0 ∨ x = .int 1) ∧ K (.inl (some (.int (jx_iv x)))) μ) := rfl
theorem jb_rz {g : jx_G} {me : jx_me} {pc : Nat} {K : jx_Kt} (hd : decode (jx_cc me) pc = .ok (.ireturn, 1)) (hr : jx_re me = some .boolean) (σ : jx_S) (h : jx_rz K σ) : jx_J g me pc σ K := by
  obtain ⟨lv, st, μ, b⟩ := σ
  rcases st with _ | ⟨x, _ | ⟨y, st⟩⟩
  · exact False.elim h
  · obtain ⟨hx, h⟩ := h
    rcases hx with rfl | rfl
    · exact jb_zret hd hr (Or.inl rfl) h
    · exact jb_zret hd hr (Or.inr rfl) h
  · exact False.elim h
def jx_ra (K : jx_Kt) : jx_S → Prop := fun σ => match σ with
  | (_, [x], μ, _) => jx_a x ∧ K (.inl (some x)) μ
  | _ => False
theorem jx_ra_e {K : jx_Kt} {x : Value} {lv : List (Nat × Value)} {μ : jx_M} {b : Nat × Nat} : jx_ra K (lv, [x], μ, b) = (jx_a x ∧ K (.inl (some x)) μ) := rfl
theorem jb_ra {g : jx_G} {me : jx_me} {pc : Nat} {K : jx_Kt} {C : String} (hd : decode (jx_cc me) pc = .ok (.areturn, 1)) (hr : jx_re me = some (.object C)) (σ : jx_S) (h : jx_ra K σ) : jx_J g me pc σ K := by
  obtain ⟨lv, st, μ, b⟩ := σ
  rcases st with _ | ⟨x, _ | ⟨y, st⟩⟩
  · exact False.elim h
  · exact jb_aret hd hr h.1 h.2
  · exact False.elim h
def jx_rl (K : jx_Kt) : jx_S → Prop := fun σ => match σ with
  | (_, [x], μ, _) => jx_l x ∧ K (.inl (some (.long (jx_lv x)))) μ
  | _ => False
theorem jx_rl_e {K : jx_Kt} {x : Value} {lv : List (Nat × Value)} {μ : jx_M} {b : Nat × Nat} : jx_rl K (lv, [x], μ, b) = (jx_l x ∧ K (.inl (some (.long (jx_lv x)))) μ) := rfl
theorem jb_rl {g : jx_G} {me : jx_me} {pc : Nat} {K : jx_Kt} (hd : decode (jx_cc me) pc = .ok (.lreturn, 1)) (hr : jx_re me = some .long) (σ : jx_S) (h : jx_rl K σ) : jx_J g me pc σ K := by
  obtain ⟨lv, st, μ, b⟩ := σ
  rcases st with _ | ⟨x, _ | ⟨y, st⟩⟩
  · exact False.elim h
  · obtain ⟨⟨x, rfl⟩, h⟩ := h
    exact jb_lret hd hr h
  · exact False.elim h
def jx_rv0 (K : jx_Kt) : jx_S → Prop := fun σ => match σ with
  | (_, [], μ, _) => K (.inl none) μ
  | _ => False
theorem jx_rv0_e {K : jx_Kt} {lv : List (Nat × Value)} {μ : jx_M} {b : Nat × Nat} : jx_rv0 K (lv, [], μ, b) = K (.inl none) μ := rfl
theorem jb_rv {g : jx_G} {me : jx_me} {pc : Nat} {K : jx_Kt} (hd : decode (jx_cc me) pc = .ok (.return_, 1)) (hr : jx_re me = none) (σ : jx_S) (h : jx_rv0 K σ) : jx_J g me pc σ K := by
  obtain ⟨lv, st, μ, b⟩ := σ
  rcases st with _ | ⟨x, st⟩
  · exact jb_vret hd hr h
  · exact False.elim h
