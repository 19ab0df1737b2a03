/-! arrays -/
def jx_ar (μ : jx_M) (a : Nat) (ty : FieldType) (i : Int32) : Prop := ∃ (n : Nat) (b : Bool), jx_kn μ a = some (.inr (ty, n, b)) ∧ vp_in i n
def jx_aw (μ : jx_M) (a : Nat) (ty : FieldType) (i : Int32) : Prop := ∃ n : Nat, jx_kn μ a = some (.inr (ty, n, true)) ∧ vp_in i n
theorem jx_ar_of {μ : jx_M} {a n : Nat} {ty : FieldType} {b : Bool} {i : Int32} (h : jx_kn μ a = some (.inr (ty, n, b))) (hi : vp_in i n) : jx_ar μ a ty i := ⟨n, b, h, hi⟩
theorem jx_aw_of {μ : jx_M} {a n : Nat} {ty : FieldType} {i : Int32} (h : jx_kn μ a = some (.inr (ty, n, true))) (hi : vp_in i n) : jx_aw μ a ty i := ⟨n, h, hi⟩
theorem jx_cell_set {U : State} {cell : Cell} {ty : FieldType} {i : Nat} {v : Value} (h : U.isArrayOf cell ty) : U.isArrayOf (cell.setSlot i v) ty := h

def jt_iald : jx_tr := fun σ P => match σ with
  | (lv, i :: x :: st, μ, b) => jx_i i ∧ jx_r x ∧ jx_ar μ (jx_ad x) .int (jx_iv i) ∧ P (lv, .int (jx_vi μ (jx_ad x) (jx_iv i).toNatClampNeg) :: st, μ, b)
  | _ => False
theorem jt_iald_e {i x : Value} {lv : List (Nat × Value)} {st : List Value} {μ : jx_M} {b : Nat × Nat} {P : jx_S → Prop} : jt_iald (lv, i :: x :: st, μ, b) P = (jx_i i ∧ jx_r x ∧ jx_ar μ (jx_ad x) .int (jx_iv i) ∧ P (lv, .int (jx_vi μ (jx_ad x) (jx_iv i).toNatClampNeg) :: st, μ, b)) := rfl
theorem js_iald {g : jx_G} {me : jx_me} {pc : Nat} (hd : decode (jx_cc me) pc = .ok (.iaload, 1)) : jx_So g me pc (pc + 1) jt_iald := by
  intro K P σ hP ht
  obtain ⟨lv, st, μ, b⟩ := σ
  rcases st with _ | ⟨i, _ | ⟨x, st⟩⟩
  · exact False.elim ht
  · exact False.elim ht
  · obtain ⟨⟨i, rfl⟩, ⟨a, rfl⟩, ⟨n, bw, hk, hin⟩, ht⟩ := ht
    intro p e R s m args below meth c H locs cells slots ls mc ms hC hH hS hl h1 h2 h3 h4
    obtain ⟨-, -, cell, q1, q2, q3, q4, q5, q6⟩ := hH.2.2 _ _ hk
    have hlt : i.toNatClampNeg < n := Nat.not_le.mp fun q => hin (Or.inr q)
    exact W.iald hC.1 hC.2.1 q1 q2 q3 (by rw [q5]; exact hin) (q6 _ hlt) rfl rfl hd (hP _ ht p e R s m args below meth c H locs cells slots ls mc ms hC hH hS hl h1 h2 h3 h4)
def jt_zald : jx_tr := fun σ P => match σ with
  | (lv, i :: x :: st, μ, b) => jx_i i ∧ jx_r x ∧ jx_ar μ (jx_ad x) .boolean (jx_iv i) ∧ P (lv, .int (jx_vi μ (jx_ad x) (jx_iv i).toNatClampNeg) :: st, μ, b)
  | _ => False
theorem jt_zald_e {i x : Value} {lv : List (Nat × Value)} {st : List Value} {μ : jx_M} {b : Nat × Nat} {P : jx_S → Prop} : jt_zald (lv, i :: x :: st, μ, b) P = (jx_i i ∧ jx_r x ∧ jx_ar μ (jx_ad x) .boolean (jx_iv i) ∧ P (lv, .int (jx_vi μ (jx_ad x) (jx_iv i).toNatClampNeg) :: st, μ, b)) := rfl
theorem js_zald {g : jx_G} {me : jx_me} {pc : Nat} (hd : decode (jx_cc me) pc = .ok (.baload, 1)) : jx_So g me pc (pc + 1) jt_zald := by
  intro K P σ hP ht
  obtain ⟨lv, st, μ, b⟩ := σ
  rcases st with _ | ⟨i, _ | ⟨x, st⟩⟩
  · exact False.elim ht
  · exact False.elim ht
  · obtain ⟨⟨i, rfl⟩, ⟨a, rfl⟩, ⟨n, bw, hk, hin⟩, ht⟩ := ht
    intro p e R s m args below meth c H locs cells slots ls mc ms hC hH hS hl h1 h2 h3 h4
    obtain ⟨-, -, cell, q1, q2, q3, q4, q5, q6⟩ := hH.2.2 _ _ hk
    have hlt : i.toNatClampNeg < n := Nat.not_le.mp fun q => hin (Or.inr q)
    exact W.zald hC.1 hC.2.1 q1 q2 q3 (by rw [q5]; exact hin) (q6 _ hlt) rfl rfl hd (hP _ ht p e R s m args below meth c H locs cells slots ls mc ms hC hH hS hl h1 h2 h3 h4)
def jt_lald : jx_tr := fun σ P => match σ with
  | (lv, i :: x :: st, μ, b) => jx_i i ∧ jx_r x ∧ jx_ar μ (jx_ad x) .long (jx_iv i) ∧ P (lv, .long (jx_vl μ (jx_ad x) (jx_iv i).toNatClampNeg) :: st, μ, b)
  | _ => False
theorem jt_lald_e {i x : Value} {lv : List (Nat × Value)} {st : List Value} {μ : jx_M} {b : Nat × Nat} {P : jx_S → Prop} : jt_lald (lv, i :: x :: st, μ, b) P = (jx_i i ∧ jx_r x ∧ jx_ar μ (jx_ad x) .long (jx_iv i) ∧ P (lv, .long (jx_vl μ (jx_ad x) (jx_iv i).toNatClampNeg) :: st, μ, b)) := rfl
theorem js_lald {g : jx_G} {me : jx_me} {pc : Nat} (hd : decode (jx_cc me) pc = .ok (.laload, 1)) : jx_So g me pc (pc + 1) jt_lald := by
  intro K P σ hP ht
  obtain ⟨lv, st, μ, b⟩ := σ
  rcases st with _ | ⟨i, _ | ⟨x, st⟩⟩
  · exact False.elim ht
  · exact False.elim ht
  · obtain ⟨⟨i, rfl⟩, ⟨a, rfl⟩, ⟨n, bw, hk, hin⟩, ht⟩ := ht
    intro p e R s m args below meth c H locs cells slots ls mc ms hC hH hS hl h1 h2 h3 h4
    obtain ⟨-, -, cell, q1, q2, q3, q4, q5, q6⟩ := hH.2.2 _ _ hk
    have hlt : i.toNatClampNeg < n := Nat.not_le.mp fun q => hin (Or.inr q)
    exact W.lald hC.1 hC.2.1 q1 q2 q3 (by rw [q5]; exact hin) (q6 _ hlt) rfl rfl hd (hP _ ht p e R s m args below meth c H locs cells slots ls mc ms hC hH hS hl h1 h2 h3 h4)
def jt_aald : jx_tr := fun σ P => match σ with
  | (lv, i :: x :: st, μ, b) => jx_i i ∧ jx_r x ∧ jx_ar μ (jx_ad x) (.object jx_ND) (jx_iv i) ∧ P (lv, va_rf (jx_vr μ (jx_ad x) (jx_iv i).toNatClampNeg) :: st, μ, b)
  | _ => False
theorem jt_aald_e {i x : Value} {lv : List (Nat × Value)} {st : List Value} {μ : jx_M} {b : Nat × Nat} {P : jx_S → Prop} : jt_aald (lv, i :: x :: st, μ, b) P = (jx_i i ∧ jx_r x ∧ jx_ar μ (jx_ad x) (.object jx_ND) (jx_iv i) ∧ P (lv, va_rf (jx_vr μ (jx_ad x) (jx_iv i).toNatClampNeg) :: st, μ, b)) := rfl
theorem js_aald {g : jx_G} {me : jx_me} {pc : Nat} (hd : decode (jx_cc me) pc = .ok (.aaload, 1)) : jx_So g me pc (pc + 1) jt_aald := by
  intro K P σ hP ht
  obtain ⟨lv, st, μ, b⟩ := σ
  rcases st with _ | ⟨i, _ | ⟨x, st⟩⟩
  · exact False.elim ht
  · exact False.elim ht
  · obtain ⟨⟨i, rfl⟩, ⟨a, rfl⟩, ⟨n, bw, hk, hin⟩, ht⟩ := ht
    intro p e R s m args below meth c H locs cells slots ls mc ms hC hH hS hl h1 h2 h3 h4
    obtain ⟨-, -, cell, q1, q2, q3, q4, q5, q6⟩ := hH.2.2 _ _ hk
    have hlt : i.toNatClampNeg < n := Nat.not_le.mp fun q => hin (Or.inr q)
    exact W.aald hC.1 hC.2.1 q1 q2 rfl q3 (by rw [q5]; exact hin) (q6 _ hlt) rfl rfl hd (hP _ ht p e R s m args below meth c H locs cells slots ls mc ms hC hH hS hl h1 h2 h3 h4)
def jt_iast : jx_tr := fun σ P => match σ with
  | (lv, v :: i :: x :: st, μ, b) => jx_i v ∧ jx_i i ∧ jx_r x ∧ jx_aw μ (jx_ad x) .int (jx_iv i) ∧ P (lv, st, jx_si μ (jx_ad x) (jx_iv i).toNatClampNeg (jx_iv v), b)
  | _ => False
theorem jt_iast_e {v i x : Value} {lv : List (Nat × Value)} {st : List Value} {μ : jx_M} {b : Nat × Nat} {P : jx_S → Prop} : jt_iast (lv, v :: i :: x :: st, μ, b) P = (jx_i v ∧ jx_i i ∧ jx_r x ∧ jx_aw μ (jx_ad x) .int (jx_iv i) ∧ P (lv, st, jx_si μ (jx_ad x) (jx_iv i).toNatClampNeg (jx_iv v), b)) := rfl
theorem js_iast {g : jx_G} {me : jx_me} {pc : Nat} (hd : decode (jx_cc me) pc = .ok (.iastore, 1)) : jx_So g me pc (pc + 1) jt_iast := by
  intro K P σ hP ht
  obtain ⟨lv, st, μ, b⟩ := σ
  rcases st with _ | ⟨v, _ | ⟨i, _ | ⟨x, st⟩⟩⟩
  · exact False.elim ht
  · exact False.elim ht
  · exact False.elim ht
  · obtain ⟨hv, ⟨i, rfl⟩, ⟨a, rfl⟩, ⟨n, hk, hin⟩, ht⟩ := ht
    obtain ⟨v, rfl⟩ := hv
    have hk : jx_kn μ a = some (.inr (.int, n, true)) := hk
    have ht : P (lv, st, jx_si μ a i.toNatClampNeg v, b) := ht
    intro p e R s m args below meth c H locs cells slots ls mc ms hC hH hS hl h1 h2 h3 h4
    obtain ⟨hB, hn31, cell, q1, q2, q3, q4, q5, q6⟩ := hH.2.2 _ _ hk
    have hlt : i.toNatClampNeg < n := Nat.not_le.mp fun q => hin (Or.inr q)
    refine W.iast hC.1 hC.2.1 q1 q2 q3 (by rw [q5]; exact hin) rfl rfl hd fun H' e1 e2 e3 => ?_
    refine hP _ ht p e R s m args below meth c H' _ cells slots ls mc ms hC ?_ (hS.put e2 e3 (hB rfl)) hl h1 h2 h3 h4
    refine jx_H_put hH hk e2 e3 rfl rfl (fun q hq j => by simp [jx_si, jx_vi, jx_u2, jx_ad, hq]) (fun _ _ _ => rfl) (fun _ _ _ => rfl) ⟨hB, hn31, _, e1, jx_cell_set q2, q3, q4, by simpa [Cell.setSlot] using q5, fun j hj => ?_⟩
    by_cases hq : j = i.toNatClampNeg
    · subst hq
      simp [Cell.setSlot, q5, hlt, jx_el, jx_si, jx_vi, jx_u2, jx_ad, jx_iv]
    · have h9 := q6 j hj
      simp only [jx_el] at h9
      simp [Cell.setSlot, Array.getElem?_setIfInBounds, Ne.symm hq, h9, jx_el, jx_si, jx_vi, jx_u2, jx_ad, jx_iv, hq]
def jt_zast : jx_tr := fun σ P => match σ with
  | (lv, v :: i :: x :: st, μ, b) => (v = .int 0 ∨ v = .int 1) ∧ jx_i i ∧ jx_r x ∧ jx_aw μ (jx_ad x) .boolean (jx_iv i) ∧ P (lv, st, jx_si μ (jx_ad x) (jx_iv i).toNatClampNeg (jx_iv v), b)
  | _ => False
theorem jt_zast_e {v i x : Value} {lv : List (Nat × Value)} {st : List Value} {μ : jx_M} {b : Nat × Nat} {P : jx_S → Prop} : jt_zast (lv, v :: i :: x :: st, μ, b) P = ((v = .int 0 ∨ v = .int 1) ∧ jx_i i ∧ jx_r x ∧ jx_aw μ (jx_ad x) .boolean (jx_iv i) ∧ P (lv, st, jx_si μ (jx_ad x) (jx_iv i).toNatClampNeg (jx_iv v), b)) := rfl
theorem js_zast {g : jx_G} {me : jx_me} {pc : Nat} (hd : decode (jx_cc me) pc = .ok (.bastore, 1)) : jx_So g me pc (pc + 1) jt_zast := by
  intro K P σ hP ht
  obtain ⟨lv, st, μ, b⟩ := σ
  rcases st with _ | ⟨v, _ | ⟨i, _ | ⟨x, st⟩⟩⟩
  · exact False.elim ht
  · exact False.elim ht
  · exact False.elim ht
  · obtain ⟨hv, ⟨i, rfl⟩, ⟨a, rfl⟩, ⟨n, hk, hin⟩, ht⟩ := ht
    obtain ⟨v, rfl, hnar⟩ : ∃ z, v = .int z ∧ narrow .boolean (.int z) = .int z := by
      rcases hv with h | h
      · exact ⟨0, h, rfl⟩
      · exact ⟨1, h, rfl⟩
    have hk : jx_kn μ a = some (.inr (.boolean, n, true)) := hk
    have ht : P (lv, st, jx_si μ a i.toNatClampNeg v, b) := ht
    intro p e R s m args below meth c H locs cells slots ls mc ms hC hH hS hl h1 h2 h3 h4
    obtain ⟨hB, hn31, cell, q1, q2, q3, q4, q5, q6⟩ := hH.2.2 _ _ hk
    have hlt : i.toNatClampNeg < n := Nat.not_le.mp fun q => hin (Or.inr q)
    refine W.zast hC.1 hC.2.1 q1 q2 q3 (by rw [q5]; exact hin) rfl rfl hd fun H' e1 e2 e3 => ?_
    refine hP _ ht p e R s m args below meth c H' _ cells slots ls mc ms hC ?_ (hS.put e2 e3 (hB rfl)) hl h1 h2 h3 h4
    refine jx_H_put hH hk e2 e3 rfl rfl (fun q hq j => by simp [jx_si, jx_vi, jx_u2, jx_ad, hq]) (fun _ _ _ => rfl) (fun _ _ _ => rfl) ⟨hB, hn31, _, e1, jx_cell_set q2, q3, q4, by simpa [Cell.setSlot] using q5, fun j hj => ?_⟩
    by_cases hq : j = i.toNatClampNeg
    · subst hq
      simp [Cell.setSlot, q5, hlt, jx_el, jx_si, jx_vi, jx_u2, jx_ad, jx_iv, hnar]
    · have h9 := q6 j hj
      simp only [jx_el] at h9
      simp [Cell.setSlot, Array.getElem?_setIfInBounds, Ne.symm hq, h9, jx_el, jx_si, jx_vi, jx_u2, jx_ad, jx_iv, hq]
def jt_last : jx_tr := fun σ P => match σ with
  | (lv, v :: i :: x :: st, μ, b) => jx_l v ∧ jx_i i ∧ jx_r x ∧ jx_aw μ (jx_ad x) .long (jx_iv i) ∧ P (lv, st, jx_sl μ (jx_ad x) (jx_iv i).toNatClampNeg (jx_lv v), b)
  | _ => False
theorem jt_last_e {v i x : Value} {lv : List (Nat × Value)} {st : List Value} {μ : jx_M} {b : Nat × Nat} {P : jx_S → Prop} : jt_last (lv, v :: i :: x :: st, μ, b) P = (jx_l v ∧ jx_i i ∧ jx_r x ∧ jx_aw μ (jx_ad x) .long (jx_iv i) ∧ P (lv, st, jx_sl μ (jx_ad x) (jx_iv i).toNatClampNeg (jx_lv v), b)) := rfl
theorem js_last {g : jx_G} {me : jx_me} {pc : Nat} (hd : decode (jx_cc me) pc = .ok (.lastore, 1)) : jx_So g me pc (pc + 1) jt_last := by
  intro K P σ hP ht
  obtain ⟨lv, st, μ, b⟩ := σ
  rcases st with _ | ⟨v, _ | ⟨i, _ | ⟨x, st⟩⟩⟩
  · exact False.elim ht
  · exact False.elim ht
  · exact False.elim ht
  · obtain ⟨hv, ⟨i, rfl⟩, ⟨a, rfl⟩, ⟨n, hk, hin⟩, ht⟩ := ht
    obtain ⟨v, rfl⟩ := hv
    have hk : jx_kn μ a = some (.inr (.long, n, true)) := hk
    have ht : P (lv, st, jx_sl μ a i.toNatClampNeg v, b) := ht
    intro p e R s m args below meth c H locs cells slots ls mc ms hC hH hS hl h1 h2 h3 h4
    obtain ⟨hB, hn31, cell, q1, q2, q3, q4, q5, q6⟩ := hH.2.2 _ _ hk
    have hlt : i.toNatClampNeg < n := Nat.not_le.mp fun q => hin (Or.inr q)
    refine W.last hC.1 hC.2.1 q1 q2 q3 (by rw [q5]; exact hin) rfl rfl hd fun H' e1 e2 e3 => ?_
    refine hP _ ht p e R s m args below meth c H' _ cells slots ls mc ms hC ?_ (hS.put e2 e3 (hB rfl)) hl h1 h2 h3 h4
    refine jx_H_put hH hk e2 e3 rfl rfl (fun _ _ _ => rfl) (fun q hq j => by simp [jx_sl, jx_vl, jx_u2, jx_ad, hq]) (fun _ _ _ => rfl) ⟨hB, hn31, _, e1, jx_cell_set q2, q3, q4, by simpa [Cell.setSlot] using q5, fun j hj => ?_⟩
    by_cases hq : j = i.toNatClampNeg
    · subst hq
      simp [Cell.setSlot, q5, hlt, jx_el, jx_sl, jx_vl, jx_lv, jx_u2, jx_ad, jx_iv]
    · have h9 := q6 j hj
      simp only [jx_el] at h9
      simp [Cell.setSlot, Array.getElem?_setIfInBounds, Ne.symm hq, h9, jx_el, jx_sl, jx_vl, jx_lv, jx_u2, jx_ad, jx_iv, hq]
def jt_aast : jx_tr := fun σ P => match σ with
  | (lv, v :: i :: x :: st, μ, b) => jx_a v ∧ (¬ v = .null → jx_ok μ (jx_ad v) jx_N0 jx_N1) ∧ jx_i i ∧ jx_r x ∧ jx_aw μ (jx_ad x) (.object jx_ND) (jx_iv i) ∧ P (lv, st, jx_sr μ (jx_ad x) (jx_iv i).toNatClampNeg (jx_rv v), b)
  | _ => False
theorem jt_aast_e {v i x : Value} {lv : List (Nat × Value)} {st : List Value} {μ : jx_M} {b : Nat × Nat} {P : jx_S → Prop} : jt_aast (lv, v :: i :: x :: st, μ, b) P = (jx_a v ∧ (¬ v = .null → jx_ok μ (jx_ad v) jx_N0 jx_N1) ∧ jx_i i ∧ jx_r x ∧ jx_aw μ (jx_ad x) (.object jx_ND) (jx_iv i) ∧ P (lv, st, jx_sr μ (jx_ad x) (jx_iv i).toNatClampNeg (jx_rv v), b)) := rfl
theorem js_aast {g : jx_G} {me : jx_me} {pc : Nat} (hd : decode (jx_cc me) pc = .ok (.aastore, 1)) : jx_So g me pc (pc + 1) jt_aast := by
  intro K P σ hP ht
  obtain ⟨lv, st, μ, b⟩ := σ
  rcases st with _ | ⟨v, _ | ⟨i, _ | ⟨x, st⟩⟩⟩
  · exact False.elim ht
  · exact False.elim ht
  · exact False.elim ht
  · obtain ⟨hv, hok, ⟨i, rfl⟩, ⟨a, rfl⟩, ⟨n, hk, hin⟩, ht⟩ := ht
    have hk : jx_kn μ a = some (.inr (.object jx_ND, n, true)) := hk
    have ht : P (lv, st, jx_sr μ a i.toNatClampNeg (jx_rv v), b) := ht
    intro p e R s m args below meth c H locs cells slots ls mc ms hC hH hS hl h1 h2 h3 h4
    obtain ⟨hB, hn31, cell, q1, q2, q3, q4, q5, q6⟩ := hH.2.2 _ _ hk
    have hlt : i.toNatClampNeg < n := Nat.not_le.mp fun q => hin (Or.inr q)
    have fin9 : ∀ H' : Heap, H'[a]? = some (cell.setSlot i.toNatClampNeg v) → H'.size = H.size → (∀ q, q ≠ a → H'[q]? = H[q]?) → W p g.1 e R s m args below meth c H' (locs ++ [⟨a, i.toNatClampNeg⟩]) cells slots (vx_MQ below (jx_Qc g K) (jx_Xc g K) args s mc ms (fun q => g.2.2.1 ≤ q)) (F0 m (pc + 1) ls st) := by
      intro H' e1 e2 e3
      refine hP _ ht p e R s m args below meth c H' _ cells slots ls mc ms hC ?_ (hS.put e2 e3 (hB rfl)) hl h1 h2 h3 h4
      refine jx_H_put hH hk e2 e3 rfl rfl (fun _ _ _ => rfl) (fun _ _ _ => rfl) (fun q hq j => by simp [jx_sr, jx_vr, jx_u2, jx_ad, hq]) ⟨hB, hn31, _, e1, jx_cell_set q2, q3, q4, by simpa [Cell.setSlot] using q5, fun j hj => ?_⟩
      by_cases hq : j = i.toNatClampNeg
      · subst hq
        rcases hv with rfl | ⟨v9, rfl⟩ <;> simp [Cell.setSlot, q5, hlt, jx_el, jx_sr, jx_vr, jx_u2, jx_ad, jx_iv, jx_rv, va_rf]
      · have h9 := q6 j hj
        simp only [jx_el] at h9
        simp [Cell.setSlot, Array.getElem?_setIfInBounds, Ne.symm hq, h9, jx_el, jx_sr, jx_vr, jx_u2, jx_ad, jx_iv, hq]
    rcases hv with rfl | ⟨v9, rfl⟩
    · exact va_WaastN (C := jx_ND) hC.1 hC.2.1 q1 q2 q3 (by rw [q5]; exact hin) rfl rfl hd fun H' e1 e2 e3 => fin9 H' e1 e2 e3
    · obtain ⟨ci, hkv, hlo, hhi⟩ := hok (fun q => by cases q)
      obtain ⟨-, r, hr, cv, w1, w2, w3, -⟩ := hH.2.2 _ _ hkv
      obtain ⟨kA, comp, r1, r2, r3⟩ := q4
      obtain ⟨kc, hkc, -⟩ := Vm.findClass_spec r3
      obtain ⟨hSl, hfc, kC, hkC, hkind⟩ := (jx_Ga_K hC.2.2.2.2.2.2.2.2.2.1).1 ci _ hr
      have hasg : s.vm.assignable cv.cls comp = true := by
        obtain ⟨c3, c4, hc3, hc4, h9⟩ := Cond.castable_spec (va_Nw.use (A := args) rfl (hC.2.2.2.2.2.2.2.2.2.1.2.2.2.2.1 _ (jx_castw hlo hhi hr)))
        rw [w2]
        cases Option.some.inj (hc3.symm.trans hfc)
        cases Option.some.inj (hc4.symm.trans r3)
        exact h9
      exact W.aast hC.1 hC.2.1 q1 q2.1 q3 r1 r2 rfl hkc ⟨fun q => hin (Or.inl q), by rw [q5]; exact hlt⟩ w1 (fun q h => by rw [w3] at h; cases h) (by rw [w2]; exact hkC) hasg rfl rfl hd fun H' e1 e2 e3 => fin9 H' e1 e2 e3
/-! what is made -/
theorem jx_H_new {g : jx_G} {U : State} {H H' : Heap} {μ : jx_M} {k : jx_K} (h : jx_H g U H μ) (z : H'.size = H.size + 1) (o : ∀ q, q < H.size → H'[q]? = H[q]?) (ha : jx_at g U (jx_nw μ k) H' H.size k) : jx_H g U H' (jx_nw μ k) := by
  refine ⟨by rw [z]; exact Nat.le_succ_of_le h.1, by rw [z, h.2.1]; rfl, fun q k' hq => ?_⟩
  have hs : jx_sz μ = H.size := h.2.1.symm
  by_cases e : q = H.size
  · subst e
    have e9 : some k = some k' := by
      have h9 : (if H.size = jx_sz μ then some k else jx_kn μ H.size) = some k' := hq
      rw [if_pos hs.symm] at h9
      exact h9
    cases e9
    exact ha
  · have hq9 : jx_kn μ q = some k' := by
      have h9 : (if q = jx_sz μ then some k else jx_kn μ q) = some k' := hq
      rw [if_neg (by rw [hs]; exact e)] at h9
      exact h9
    have h8 := h.2.2 q k' hq9
    exact jx_at_kept h8 (o q (jx_at_lt h8)) (fun j => by simp [jx_nw, jx_vi, hs, e]) (fun j => by simp [jx_nw, jx_vl, hs, e]) (fun j => by simp [jx_nw, jx_vr, hs, e])
theorem jx_S_new {A : Nat → Prop} {H0 H H' : Heap} {locs : List Loc} (h : va_S A H0 H locs) (z : H'.size = H.size + 1) (o : ∀ q, q < H.size → H'[q]? = H[q]?) : va_S A H0 H' locs :=
  ⟨Nat.le_trans h.1 (by omega), fun x h1 h2 => (o x (Nat.lt_of_lt_of_le h1 h.1)).trans (h.2.1 x h1 h2), h.2.2⟩
def jt_new (ci N : Nat) : jx_tr := fun σ P => match σ with
  | (lv, st, μ, b) => 1 ≤ b.1 ∧ N ≤ b.2 ∧ P (lv, .ref (jx_sz μ) :: st, jx_nw μ (.inl ci), b.1 - 1, b.2 - N)
theorem jt_new_e (ci N : Nat) {lv : List (Nat × Value)} {st : List Value} {μ : jx_M} {b1 b2 : Nat} {P : jx_S → Prop} : jt_new ci N (lv, st, μ, b1, b2) P = (1 ≤ b1 ∧ N ≤ b2 ∧ P (lv, .ref (jx_sz μ) :: st, jx_nw μ (.inl ci), b1 - 1, b2 - N)) := rfl
theorem js_new {g : jx_G} {me : jx_me} {pc ci N idx : Nat} {C : String} {T : u_T} (hd : decode (jx_cc me) pc = .ok (.new idx, 3)) (hc : jx_cl[ci]? = some (C, T, N)) (hw1 : Cond.classLink (jx_ow me) idx C ∈ jx_ws) (hw2 : Cond.instantiable C N ∈ jx_ws) (hw3 : Cond.initialized C ∈ jx_ws) : jx_So g me pc (pc + 3) (jt_new ci N) := by
  intro K P σ hP ht
  obtain ⟨lv, st, μ, b1, b2⟩ := σ
  obtain ⟨hb1, hb2, ht⟩ := ht
  intro p e R s m args below meth c H locs cells slots ls mc ms hC hH hS hl h1 h2 h3 h4
  have hts := hC.2.2.2.2.2.2.2.2.1
  have hKn := (jx_Ga_K hC.2.2.2.2.2.2.2.2.2.1).1 ci _ hc
  obtain ⟨t1, t2, t3⟩ := jx_ct hc
  dsimp only at hb1 hb2 h1 h2
  refine W.newcK hC.1 hC.2.1 hC.2.2.2.1 (hts _ hw1) (hts _ hw2) (hts _ hw3) rfl hd (by omega) (by omega) hKn.2.1 rfl fun H1 kC hkC e1 z1 o1 => ?_
  have hs : jx_sz μ = H.size := hH.2.1.symm
  have ht9 := hP _ ht p e R s m args below meth c H1 locs (cells + 1) (slots + N) ls mc ms hC (jx_H_new hH z1 o1 ⟨hH.1, _, hc, (u_born (jx_ty ci) hts t1 hKn hkC e1 t2).to (fun j hj => ?_)⟩) (jx_S_new hS z1 o1) hl (by dsimp only; omega) (by dsimp only; omega) h3 h4
  · dsimp only at ht9
    rw [hs] at ht9
    exact ht9
  · have e9 : jx_rt ci j = jx_isr (jx_ty ci j) := jx_rt_ty ci j
    have e8 := jx_dv ci (jx_bd hc).1 j (Nat.lt_of_lt_of_le hj (jx_bd hc).2)
    simp only [jx_V, jx_nw, jx_vr, jx_vi, hs, if_true]
    rw [e8]
def jt_newa (ty : FieldType) : jx_tr := fun σ P => match σ with
  | (lv, x :: st, μ, b) => jx_i x ∧ ¬ jx_iv x < 0 ∧ (jx_iv x).toNatClampNeg ≤ 4096 ∧ 1 ≤ b.1 ∧ (jx_iv x).toNatClampNeg ≤ b.2 ∧ P (lv, .ref (jx_sz μ) :: st, jx_nw μ (.inr (ty, (jx_iv x).toNatClampNeg, true)), b.1 - 1, b.2 - (jx_iv x).toNatClampNeg)
  | _ => False
theorem jt_newa_e (ty : FieldType) {x : Value} {lv : List (Nat × Value)} {st : List Value} {μ : jx_M} {b1 b2 : Nat} {P : jx_S → Prop} : jt_newa ty (lv, x :: st, μ, b1, b2) P = (jx_i x ∧ ¬ jx_iv x < 0 ∧ (jx_iv x).toNatClampNeg ≤ 4096 ∧ 1 ≤ b1 ∧ (jx_iv x).toNatClampNeg ≤ b2 ∧ P (lv, .ref (jx_sz μ) :: st, jx_nw μ (.inr (ty, (jx_iv x).toNatClampNeg, true)), b1 - 1, b2 - (jx_iv x).toNatClampNeg)) := rfl
theorem js_newa {g : jx_G} {me : jx_me} {pc : Nat} {atype : ArrayType} {ty : FieldType} (hd : decode (jx_cc me) pc = .ok (.newarray atype, 2)) (hty : newarray.typeOf atype = ty) (hok : ty = .int ∨ ty = .boolean ∨ ty = .long) (hw : Cond.arrayClass ty ∈ jx_ws) : jx_So g me pc (pc + 2) (jt_newa ty) := by
  intro K P σ hP ht
  obtain ⟨lv, st, μ, b1, b2⟩ := σ
  rcases st with _ | ⟨x, st⟩
  · exact False.elim ht
  · obtain ⟨⟨x, rfl⟩, hx, hx2, hb1, hb2, ht⟩ := ht
    intro p e R s m args below meth c H locs cells slots ls mc ms hC hH hS hl h1 h2 h3 h4
    have hts := hC.2.2.2.2.2.2.2.2.1
    subst hty
    dsimp only [jx_iv] at hx hx2 hb1 hb2 h1 h2 ht
    have hcb : componentBytes (newarray.typeOf atype) ≤ 8 := by rcases hok with h | h | h <;> rw [h] <;> decide
    refine va_newaK hC.1 hC.2.1 (hts _ hw) rfl hd rfl hx rfl (Nat.le_trans (Nat.mul_le_mul hx2 hcb) (by decide)) (by omega) (by omega) rfl fun H1 cA e1 z1 o1 hAr hNm => ?_
    have hs : jx_sz μ = H.size := hH.2.1.symm
    have ht9 := hP _ ht p e R s m args below meth c H1 locs (cells + 1) (slots + x.toNatClampNeg) ls mc ms hC (jx_H_new hH z1 o1 ⟨fun _ => hH.1, Nat.lt_of_le_of_lt hx2 (by decide), _, e1, hAr _ _, (fun h => by cases h), (by rcases hok with h | h | h <;> rw [h] <;> trivial), arrV_size _ _ _, fun j hj => ?_⟩) (jx_S_new hS z1 o1) hl (by dsimp only; omega) (by dsimp only; omega) h3 h4
    · dsimp only at ht9
      rw [hs] at ht9
      exact ht9
    · rw [arrV_read _ _ hj]
      rcases hok with h | h | h <;> rw [h] <;> simp [jx_el, jx_nw, jx_vi, jx_vl, hs, defaultValue]
def jt_newq : jx_tr := fun σ P => match σ with
  | (lv, x :: st, μ, b) => jx_i x ∧ ¬ jx_iv x < 0 ∧ (jx_iv x).toNatClampNeg ≤ 4096 ∧ 1 ≤ b.1 ∧ (jx_iv x).toNatClampNeg ≤ b.2 ∧ P (lv, .ref (jx_sz μ) :: st, jx_nw μ (.inr (.object jx_ND, (jx_iv x).toNatClampNeg, true)), b.1 - 1, b.2 - (jx_iv x).toNatClampNeg)
  | _ => False
theorem jt_newq_e {x : Value} {lv : List (Nat × Value)} {st : List Value} {μ : jx_M} {b1 b2 : Nat} {P : jx_S → Prop} : jt_newq (lv, x :: st, μ, b1, b2) P = (jx_i x ∧ ¬ jx_iv x < 0 ∧ (jx_iv x).toNatClampNeg ≤ 4096 ∧ 1 ≤ b1 ∧ (jx_iv x).toNatClampNeg ≤ b2 ∧ P (lv, .ref (jx_sz μ) :: st, jx_nw μ (.inr (.object jx_ND, (jx_iv x).toNatClampNeg, true)), b1 - 1, b2 - (jx_iv x).toNatClampNeg)) := rfl
theorem js_newq {g : jx_G} {me : jx_me} {pc idx : Nat} (hd : decode (jx_cc me) pc = .ok (.anewarray idx, 3)) (hw1 : Cond.classLink (jx_ow me) idx jx_ND ∈ jx_ws) : jx_So g me pc (pc + 3) jt_newq := by
  intro K P σ hP ht
  obtain ⟨lv, st, μ, b1, b2⟩ := σ
  rcases st with _ | ⟨x, st⟩
  · exact False.elim ht
  · obtain ⟨⟨x, rfl⟩, hx, hx2, hb1, hb2, ht⟩ := ht
    intro p e R s m args below meth c H locs cells slots ls mc ms hC hH hS hl h1 h2 h3 h4
    have hts := hC.2.2.2.2.2.2.2.2.1
    dsimp only [jx_iv] at hx hx2 hb1 hb2 h1 h2 ht
    refine W.anew hC.1 hC.2.1 hC.2.2.2.1 (hts _ hw1) (va_AO.use (jx_Ga_AO hC.2.2.2.2.2.2.2.2.2.1)) rfl hd rfl hx (Nat.le_trans (Nat.mul_le_mul hx2 (Nat.le_refl _)) (by decide)) (by omega) (by omega) fun cA kA comp f1 f2 f3 f4 => ?_
    generalize hH1 : H.push ({ cls := cA, slots := Array.replicate x.toNatClampNeg .null, vm := .none } : Cell) = H1
    have z1 : H1.size = H.size + 1 := by rw [← hH1, Array.size_push]
    have e1 : H1[H.size]? = some (arrV cA x.toNatClampNeg (fun _ => .null)) := by rw [← hH1, Array.getElem?_push_size, ← arrV_new]
    have o1 : ∀ q : Nat, q < H.size → H1[q]? = H[q]? := fun q hq => by rw [← hH1, Array.getElem?_push, if_neg (Nat.ne_of_lt hq)]
    have hs : jx_sz μ = H.size := hH.2.1.symm
    have ht9 := hP _ ht p e R s m args below meth c H1 locs (cells + 1) (slots + x.toNatClampNeg) ls mc ms hC (jx_H_new hH z1 o1 ⟨fun _ => hH.1, Nat.lt_of_le_of_lt hx2 (by decide), _, e1, ⟨(fun k h => by cases h), kA, f2, comp, f3⟩, (fun h => by cases h), ⟨kA, comp, f2, f3, f4⟩, arrV_size _ _ _, fun j hj => ?_⟩) (jx_S_new hS z1 o1) hl (by dsimp only; omega) (by dsimp only; omega) h3 h4
    · dsimp only at ht9
      rw [hs] at ht9
      exact ht9
    · rw [arrV_read _ _ hj]
      simp [jx_el, jx_nw, jx_vr, hs, va_rf]
def jt_alen : jx_tr := fun σ P => match σ with
  | (lv, x :: st, μ, b) => jx_r x ∧ (∃ (ty : FieldType) (n : Nat) (w : Bool), jx_kn μ (jx_ad x) = some (.inr (ty, n, w))) ∧ P (lv, .int (jx_ln μ (jx_ad x)) :: st, μ, b)
  | _ => False
theorem jt_alen_e {x : Value} {lv : List (Nat × Value)} {st : List Value} {μ : jx_M} {b : Nat × Nat} {P : jx_S → Prop} : jt_alen (lv, x :: st, μ, b) P = (jx_r x ∧ (∃ (ty : FieldType) (n : Nat) (w : Bool), jx_kn μ (jx_ad x) = some (.inr (ty, n, w))) ∧ P (lv, .int (jx_ln μ (jx_ad x)) :: st, μ, b)) := rfl
theorem js_alen {g : jx_G} {me : jx_me} {pc : Nat} (hd : decode (jx_cc me) pc = .ok (.arraylength, 1)) : jx_So g me pc (pc + 1) jt_alen := by
  intro K P σ hP ht
  obtain ⟨lv, st, μ, b⟩ := σ
  rcases st with _ | ⟨x, st⟩
  · exact False.elim ht
  · obtain ⟨⟨a, rfl⟩, ⟨ty, n, bw, hk⟩, ht⟩ := ht
    intro p e R s m args below meth c H locs cells slots ls mc ms hC hH hS hl h1 h2 h3 h4
    obtain ⟨-, -, cell, q1, q2, q3, q4, q5, q6⟩ := hH.2.2 _ _ hk
    have e9 : jx_ln μ a = nI n := by
      unfold jx_ln
      rw [show jx_kn μ a = _ from hk]
    exact W.alen hC.1 hC.2.1 q1 q2 (by rw [q5]; show Nat.toInt32 n = jx_ln μ a; rw [e9]; rfl) rfl rfl hd (hP _ ht p e R s m args below meth c H locs cells slots ls mc ms hC hH hS hl h1 h2 h3 h4)

