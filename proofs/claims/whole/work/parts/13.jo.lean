/-! A structured store over the typed memory: cells are (block, part); their addresses are a map A. -/
abbrev jo_S : Type := (Nat → Nat → Option jx_K) × (Nat → Nat → Nat → Int32) × (Nat → Nat → Nat → Int64) × (Nat → Nat → Nat → Option (Nat × Nat))
def jo_kn (S : jo_S) : Nat → Nat → Option jx_K := S.1
def jo_fi (S : jo_S) : Nat → Nat → Nat → Int32 := S.2.1
def jo_fl (S : jo_S) : Nat → Nat → Nat → Int64 := S.2.2.1
def jo_fr (S : jo_S) : Nat → Nat → Nat → Option (Nat × Nat) := S.2.2.2
def jo_u3 {α : Type} (f : Nat → Nat → Nat → α) (n j k : Nat) (v : α) : Nat → Nat → Nat → α := fun n' j' k' => if n' = n ∧ j' = j ∧ k' = k then v else f n' j' k'
def jo_si (S : jo_S) (n j k : Nat) (v : Int32) : jo_S := (jo_kn S, jo_u3 (jo_fi S) n j k v, jo_fl S, jo_fr S)
def jo_sl (S : jo_S) (n j k : Nat) (v : Int64) : jo_S := (jo_kn S, jo_fi S, jo_u3 (jo_fl S) n j k v, jo_fr S)
def jo_sr (S : jo_S) (n j k : Nat) (v : Option (Nat × Nat)) : jo_S := (jo_kn S, jo_fi S, jo_fl S, jo_u3 (jo_fr S) n j k v)
theorem jo_si_kn {S : jo_S} {n j k : Nat} {v : Int32} : jo_kn (jo_si S n j k v) = jo_kn S := rfl
theorem jo_si_fi {S : jo_S} {n j k n' j' k' : Nat} {v : Int32} : jo_fi (jo_si S n j k v) n' j' k' = if n' = n ∧ j' = j ∧ k' = k then v else jo_fi S n' j' k' := rfl
theorem jo_si_fl {S : jo_S} {n j k : Nat} {v : Int32} : jo_fl (jo_si S n j k v) = jo_fl S := rfl
theorem jo_si_fr {S : jo_S} {n j k : Nat} {v : Int32} : jo_fr (jo_si S n j k v) = jo_fr S := rfl
theorem jo_sl_kn {S : jo_S} {n j k : Nat} {v : Int64} : jo_kn (jo_sl S n j k v) = jo_kn S := rfl
theorem jo_sl_fi {S : jo_S} {n j k : Nat} {v : Int64} : jo_fi (jo_sl S n j k v) = jo_fi S := rfl
theorem jo_sl_fl {S : jo_S} {n j k n' j' k' : Nat} {v : Int64} : jo_fl (jo_sl S n j k v) n' j' k' = if n' = n ∧ j' = j ∧ k' = k then v else jo_fl S n' j' k' := rfl
theorem jo_sl_fr {S : jo_S} {n j k : Nat} {v : Int64} : jo_fr (jo_sl S n j k v) = jo_fr S := rfl
theorem jo_sr_kn {S : jo_S} {n j k : Nat} {v : Option (Nat × Nat)} : jo_kn (jo_sr S n j k v) = jo_kn S := rfl
theorem jo_sr_fi {S : jo_S} {n j k : Nat} {v : Option (Nat × Nat)} : jo_fi (jo_sr S n j k v) = jo_fi S := rfl
theorem jo_sr_fl {S : jo_S} {n j k : Nat} {v : Option (Nat × Nat)} : jo_fl (jo_sr S n j k v) = jo_fl S := rfl
theorem jo_sr_fr {S : jo_S} {n j k n' j' k' : Nat} {v : Option (Nat × Nat)} : jo_fr (jo_sr S n j k v) n' j' k' = if n' = n ∧ j' = j ∧ k' = k then v else jo_fr S n' j' k' := rfl
/-- the addresses are apart -/
def jo_ij (A : Nat → Nat → Nat) (S : jo_S) : Prop := ∀ n j n' j', jo_kn S n j ≠ none → jo_kn S n' j' ≠ none → A n j = A n' j' → n = n' ∧ j = j'
def jo_hit (A : Nat → Nat → Nat) (S : jo_S) (a : Nat) : Prop := ∃ q : Nat × Nat, jo_kn S q.1 q.2 ≠ none ∧ A q.1 q.2 = a
noncomputable def jo_dc (A : Nat → Nat → Nat) (S : jo_S) (a : Nat) : Option (Nat × Nat) := by
  classical
  exact if h : jo_hit A S a then some (Classical.choose h) else none
theorem jo_dc_e {A : Nat → Nat → Nat} {S : jo_S} (hA : jo_ij A S) {n j : Nat} (h : jo_kn S n j ≠ none) : jo_dc A S (A n j) = some (n, j) := by
  have hh : jo_hit A S (A n j) := ⟨(n, j), h, rfl⟩
  unfold jo_dc
  rw [dif_pos hh]
  have h9 := Classical.choose_spec hh
  obtain ⟨e1, e2⟩ := hA _ _ n j h9.1 h h9.2
  exact congrArg some (Prod.ext e1 e2)
theorem jo_dc_s {A : Nat → Nat → Nat} {S : jo_S} {a : Nat} {q : Nat × Nat} (h : jo_dc A S a = some q) : jo_kn S q.1 q.2 ≠ none ∧ A q.1 q.2 = a := by
  unfold jo_dc at h
  by_cases hh : jo_hit A S a
  · rw [dif_pos hh] at h
    have h9 := Classical.choose_spec hh
    rw [Option.some.inj h] at h9
    exact h9
  · rw [dif_neg hh] at h
    cases h
noncomputable def jo_ov (z : Nat) (A : Nat → Nat → Nat) (S : jo_S) (V0 : jx_M) : jx_M :=
  (z, (fun a => match jo_dc A S a with | some q => jo_kn S q.1 q.2 | none => jx_kn V0 a), (fun a k => match jo_dc A S a with | some q => jo_fi S q.1 q.2 k | none => jx_vi V0 a k), (fun a k => match jo_dc A S a with | some q => jo_fl S q.1 q.2 k | none => jx_vl V0 a k), (fun a k => match jo_dc A S a with | some q => (jo_fr S q.1 q.2 k).map (fun r : Nat × Nat => A r.1 r.2) | none => jx_vr V0 a k))
section JO
variable {z : Nat} {A : Nat → Nat → Nat} {S : jo_S} {V0 : jx_M}
theorem jo_ov_sz : jx_sz (jo_ov z A S V0) = z := rfl
theorem jo_ov_kn (hA : jo_ij A S) {n j : Nat} {x : jx_K} (h : jo_kn S n j = some x) : jx_kn (jo_ov z A S V0) (A n j) = some x := by
  show (match jo_dc A S (A n j) with | some q => jo_kn S q.1 q.2 | none => jx_kn V0 (A n j)) = some x
  rw [jo_dc_e hA (by rw [h]; exact fun q => by cases q)]
  exact h
theorem jo_ov_vi (hA : jo_ij A S) {n j k : Nat} {x : jx_K} (h : jo_kn S n j = some x) : jx_vi (jo_ov z A S V0) (A n j) k = jo_fi S n j k := by
  show (match jo_dc A S (A n j) with | some q => jo_fi S q.1 q.2 k | none => jx_vi V0 (A n j) k) = _
  rw [jo_dc_e hA (by rw [h]; exact fun q => by cases q)]
theorem jo_ov_vl (hA : jo_ij A S) {n j k : Nat} {x : jx_K} (h : jo_kn S n j = some x) : jx_vl (jo_ov z A S V0) (A n j) k = jo_fl S n j k := by
  show (match jo_dc A S (A n j) with | some q => jo_fl S q.1 q.2 k | none => jx_vl V0 (A n j) k) = _
  rw [jo_dc_e hA (by rw [h]; exact fun q => by cases q)]
theorem jo_ov_vr (hA : jo_ij A S) {n j k : Nat} {x : jx_K} (h : jo_kn S n j = some x) : jx_vr (jo_ov z A S V0) (A n j) k = (jo_fr S n j k).map (fun r : Nat × Nat => A r.1 r.2) := by
  show (match jo_dc A S (A n j) with | some q => (jo_fr S q.1 q.2 k).map (fun r : Nat × Nat => A r.1 r.2) | none => jx_vr V0 (A n j) k) = _
  rw [jo_dc_e hA (by rw [h]; exact fun q => by cases q)]
theorem jo_dc_si {n j k : Nat} {v : Int32} : jo_dc A (jo_si S n j k v) = jo_dc A S := rfl
theorem jo_dc_sl {n j k : Nat} {v : Int64} : jo_dc A (jo_sl S n j k v) = jo_dc A S := rfl
theorem jo_dc_sr {n j k : Nat} {v : Option (Nat × Nat)} : jo_dc A (jo_sr S n j k v) = jo_dc A S := rfl
theorem jo_ov_si (hA : jo_ij A S) {n j k : Nat} {v : Int32} {x : jx_K} (h : jo_kn S n j = some x) : jx_si (jo_ov z A S V0) (A n j) k v = jo_ov z A (jo_si S n j k v) V0 := by
  have hd := jo_dc_e hA (n := n) (j := j) (by rw [h]; exact fun q => by cases q)
  refine Prod.ext rfl (Prod.ext rfl (Prod.ext ?_ rfl))
  funext a k'
  show (if a = A n j ∧ k' = k then v else (match jo_dc A S a with | some q => jo_fi S q.1 q.2 k' | none => jx_vi V0 a k')) = (match jo_dc A S a with | some q => jo_fi (jo_si S n j k v) q.1 q.2 k' | none => jx_vi V0 a k')
  by_cases e : a = A n j
  · subst e
    rw [hd]
    simp [jo_si_fi]
  · rw [if_neg (fun q => e q.1)]
    cases hq : jo_dc A S a with
    | none => rfl
    | some q =>
      show jo_fi S q.1 q.2 k' = jo_fi (jo_si S n j k v) q.1 q.2 k'
      rw [jo_si_fi, if_neg]
      intro h9
      exact e (by rw [← (jo_dc_s hq).2, h9.1, h9.2.1])
theorem jo_ov_sl (hA : jo_ij A S) {n j k : Nat} {v : Int64} {x : jx_K} (h : jo_kn S n j = some x) : jx_sl (jo_ov z A S V0) (A n j) k v = jo_ov z A (jo_sl S n j k v) V0 := by
  have hd := jo_dc_e hA (n := n) (j := j) (by rw [h]; exact fun q => by cases q)
  refine Prod.ext rfl (Prod.ext rfl (Prod.ext rfl (Prod.ext ?_ rfl)))
  funext a k'
  show (if a = A n j ∧ k' = k then v else (match jo_dc A S a with | some q => jo_fl S q.1 q.2 k' | none => jx_vl V0 a k')) = (match jo_dc A S a with | some q => jo_fl (jo_sl S n j k v) q.1 q.2 k' | none => jx_vl V0 a k')
  by_cases e : a = A n j
  · subst e
    rw [hd]
    simp [jo_sl_fl]
  · rw [if_neg (fun q => e q.1)]
    cases hq : jo_dc A S a with
    | none => rfl
    | some q =>
      show jo_fl S q.1 q.2 k' = jo_fl (jo_sl S n j k v) q.1 q.2 k'
      rw [jo_sl_fl, if_neg]
      intro h9
      exact e (by rw [← (jo_dc_s hq).2, h9.1, h9.2.1])
theorem jo_ov_sr (hA : jo_ij A S) {n j k : Nat} {v : Option Nat} {o : Option (Nat × Nat)} (hv : v = o.map (fun r : Nat × Nat => A r.1 r.2)) {x : jx_K} (h : jo_kn S n j = some x) : jx_sr (jo_ov z A S V0) (A n j) k v = jo_ov z A (jo_sr S n j k o) V0 := by
  have hd := jo_dc_e hA (n := n) (j := j) (by rw [h]; exact fun q => by cases q)
  refine Prod.ext rfl (Prod.ext rfl (Prod.ext rfl (Prod.ext rfl ?_)))
  funext a k'
  show (if a = A n j ∧ k' = k then v else (match jo_dc A S a with | some q => (jo_fr S q.1 q.2 k').map (fun r : Nat × Nat => A r.1 r.2) | none => jx_vr V0 a k')) = (match jo_dc A S a with | some q => (jo_fr (jo_sr S n j k o) q.1 q.2 k').map (fun r : Nat × Nat => A r.1 r.2) | none => jx_vr V0 a k')
  by_cases e : a = A n j
  · subst e
    rw [hd]
    by_cases ek : k' = k
    · subst ek
      simp [jo_sr_fr, hv]
    · simp [jo_sr_fr, ek]
  · rw [if_neg (fun q => e q.1)]
    cases hq : jo_dc A S a with
    | none => rfl
    | some q =>
      show (jo_fr S q.1 q.2 k').map _ = (jo_fr (jo_sr S n j k o) q.1 q.2 k').map _
      rw [jo_sr_fr, if_neg]
      intro h9
      exact e (by rw [← (jo_dc_s hq).2, h9.1, h9.2.1])
theorem jo_ov_sr1 (hA : jo_ij A S) {n j k n' j' : Nat} {x : jx_K} (h : jo_kn S n j = some x) : jx_sr (jo_ov z A S V0) (A n j) k (some (A n' j')) = jo_ov z A (jo_sr S n j k (some (n', j'))) V0 := jo_ov_sr hA rfl h
theorem jo_ov_sr0 (hA : jo_ij A S) {n j k : Nat} {x : jx_K} (h : jo_kn S n j = some x) : jx_sr (jo_ov z A S V0) (A n j) k none = jo_ov z A (jo_sr S n j k none) V0 := jo_ov_sr hA rfl h
theorem jo_ij_si {n j k : Nat} {v : Int32} (h : jo_ij A S) : jo_ij A (jo_si S n j k v) := h
theorem jo_ij_sl {n j k : Nat} {v : Int64} (h : jo_ij A S) : jo_ij A (jo_sl S n j k v) := h
theorem jo_ij_sr {n j k : Nat} {v : Option (Nat × Nat)} (h : jo_ij A S) : jo_ij A (jo_sr S n j k v) := h
end JO
