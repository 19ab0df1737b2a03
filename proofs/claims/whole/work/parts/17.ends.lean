theorem jx_sq_t {t u : jx_tr} {lv : List (Nat × Value)} {st : List Value} {μ : jx_M} {b : Nat × Nat} {P : jx_S → Prop} : jx_sq t u (lv, st, μ, b) P = t (lv, st, μ, b) (fun σ' => u σ' P) := rfl
/-! switches -/
def jx_swl (J : Nat → jx_S → Prop) (df : Nat) (σ : jx_S) (x : Int) : List (Int × Nat) → Prop
  | [] => J df σ
  | q :: r => (x = q.1 → J q.2 σ) ∧ (¬ x = q.1 → jx_swl J df σ x r)
theorem jx_swl_e {J : Nat → jx_S → Prop} {df t : Nat} {σ : jx_S} {x a : Int} {r : List (Int × Nat)} : jx_swl J df σ x ((a, t) :: r) = ((x = a → J t σ) ∧ (¬ x = a → jx_swl J df σ x r)) := rfl
theorem jx_swl_0 {J : Nat → jx_S → Prop} {df : Nat} {σ : jx_S} {x : Int} : jx_swl J df σ x [] = J df σ := rfl
def jx_sw (J : Nat → jx_S → Prop) (cs : List (Int × Nat)) (df : Nat) : jx_S → Prop := fun σ => match σ with
  | (lv, x :: st, μ, b) => jx_i x ∧ jx_swl J df (lv, st, μ, b) (jx_iv x).toInt cs
  | _ => False
theorem jx_sw_e {J : Nat → jx_S → Prop} {cs : List (Int × Nat)} {df : Nat} {x : Value} {lv : List (Nat × Value)} {st : List Value} {μ : jx_M} {b : Nat × Nat} : jx_sw J cs df (lv, x :: st, μ, b) = (jx_i x ∧ jx_swl J df (lv, st, μ, b) (jx_iv x).toInt cs) := rfl
theorem jx_swl_hit {J : Nat → jx_S → Prop} {df : Nat} {σ : jx_S} {x : Int} : ∀ (cs : List (Int × Nat)) (j t : Nat), (∀ (i : Nat) (q : Int × Nat), i < j → cs[i]? = some q → x ≠ q.1) → cs[j]? = some (x, t) → jx_swl J df σ x cs → J t σ
  | [], j, t, _, h, _ => by simp at h
  | q :: r, 0, t, _, h, hs => by
    have e : q = (x, t) := by simpa using h
    subst e
    exact hs.1 rfl
  | q :: r, j + 1, t, hne, h, hs => jx_swl_hit r j t (fun i q' hi hq => hne (i + 1) q' (by omega) (by simpa using hq)) (by simpa using h) (hs.2 (hne 0 q (by omega) rfl))
theorem jx_swl_out {J : Nat → jx_S → Prop} {df : Nat} {σ : jx_S} {x : Int} : ∀ (cs : List (Int × Nat)), (∀ q ∈ cs, x ≠ q.1) → jx_swl J df σ x cs → J df σ
  | [], _, h => h
  | q :: r, hne, h => jx_swl_out r (fun q' hq => hne q' (List.mem_cons_of_mem _ hq)) (h.2 (hne q List.mem_cons_self))
def jx_tck (pc : Nat) (lo : Int) (offs : Array Int) (cs : List (Int × Nat)) : Bool := (List.range offs.size).all (fun j => match offs[j]?, cs[j]? with
  | some o, some q => decide (q.1 = lo + (j : Int)) && decide ((pc : Int) + o = (q.2 : Int))
  | _, _ => false)
theorem jb_tsw {g : jx_G} {me : jx_me} {pc df len : Nat} {dflt lo hi : Int} {offs : Array Int} {cs : List (Int × Nat)} {K : jx_Kt} (hd : decode (jx_cc me) pc = .ok (.tableswitch dflt lo hi offs, len)) (hc : jx_tck pc lo offs cs = true) (hl : cs.length = offs.size ∧ hi - lo + 1 = (offs.size : Int)) (hdf : (pc : Int) + dflt = (df : Int)) (σ : jx_S) (h : jx_sw (fun t σ => jx_J g me t σ K) cs df σ) : jx_J g me pc σ K := by
  obtain ⟨lv, st, μ, b⟩ := σ
  rcases st with _ | ⟨x, st⟩
  · exact False.elim h
  · obtain ⟨⟨x, rfl⟩, h⟩ := h
    have h : jx_swl (fun t σ => jx_J g me t σ K) df (lv, st, μ, b) x.toInt cs := h
    have at9 : ∀ (j : Nat) (o : Int), offs[j]? = some o → ∃ t : Nat, cs[j]? = some (lo + (j : Int), t) ∧ (pc : Int) + o = (t : Int) := by
      intro j o ho
      have hj : j < offs.size := (Array.getElem?_eq_some_iff.mp ho).1
      have h9 := List.all_eq_true.mp hc j (List.mem_range.mpr hj)
      rw [ho] at h9
      cases e : cs[j]? with
      | none => rw [e] at h9; cases h9
      | some q =>
        rw [e] at h9
        simp only [Bool.and_eq_true, decide_eq_true_eq] at h9
        exact ⟨q.2, by rw [← h9.1], h9.2⟩
    have fst9 : ∀ (i : Nat) (q : Int × Nat), cs[i]? = some q → q.1 = lo + (i : Int) := by
      intro i q hq
      have hi9 : i < offs.size := by rw [← hl.1]; exact (List.getElem?_eq_some_iff.mp hq).1
      obtain ⟨t, ht, -⟩ := at9 i offs[i] (Array.getElem?_eq_getElem hi9)
      rw [hq] at ht
      cases ht
      rfl
    intro p e R s m args below meth c H locs cells slots ls mc ms hC hH hS hl9 h1 h2 h3 h4
    by_cases hin : x.toInt < lo ∨ hi < x.toInt
    · refine lv_tableOut hC.1 hC.2.1 hd hin hdf (jx_swl_out cs ?_ h p e R s m args below meth c H locs cells slots ls mc ms hC hH hS hl9 h1 h2 h3 h4)
      intro q hq
      obtain ⟨i, hi9⟩ := List.getElem?_of_mem hq
      have e1 := fst9 i q hi9
      have e2 : i < offs.size := by rw [← hl.1]; exact (List.getElem?_eq_some_iff.mp hi9).1
      omega
    · have hj : (x.toInt - lo).toNat < offs.size := by omega
      obtain ⟨t, ht, hpc⟩ := at9 _ offs[(x.toInt - lo).toNat] (Array.getElem?_eq_getElem hj)
      refine lv_tableIn hC.1 hC.2.1 hd (by omega) (by omega) (Array.getElem?_eq_getElem hj) hpc (jx_swl_hit cs (x.toInt - lo).toNat t ?_ ?_ h p e R s m args below meth c H locs cells slots ls mc ms hC hH hS hl9 h1 h2 h3 h4)
      · intro i q hi9 hq
        have e1 := fst9 i q hq
        omega
      · rw [ht]
        congr 2
        omega
theorem jx_lko {a o d x : Int} {r : List (Int × Int)} : Op.lookupswitch.offset ((a, o) :: r) d x = if x = a then o else Op.lookupswitch.offset r d x := by
  rw [Op.lookupswitch.offset_cons]
  by_cases h : x = a
  · subst h; simp
  · rw [if_neg h, if_neg (fun q => h q.symm)]
theorem jx_lk0 {d x : Int} : Op.lookupswitch.offset [] d x = d := by
  first | rfl | simp [Op.lookupswitch.offset]
/-- a lookupswitch of two pairs -/
theorem jb_lsw2 {g : jx_G} {me : jx_me} {pc df t1 t2 len : Nat} {dflt a1 o1 a2 o2 : Int} {K : jx_Kt} (hd : decode (jx_cc me) pc = .ok (.lookupswitch dflt #[(a1, o1), (a2, o2)], len)) (hlt : decide (a1 < a2) = true) (e1 : (pc : Int) + o1 = (t1 : Int)) (e2 : (pc : Int) + o2 = (t2 : Int)) (hdf : (pc : Int) + dflt = (df : Int)) (σ : jx_S) (h : jx_sw (fun t σ => jx_J g me t σ K) [(a1, t1), (a2, t2)] df σ) : jx_J g me pc σ K := by
  obtain ⟨lv, st, μ, b⟩ := σ
  rcases st with _ | ⟨x, st⟩
  · exact False.elim h
  · obtain ⟨⟨x, rfl⟩, h⟩ := h
    have h : jx_swl (fun t σ => jx_J g me t σ K) df (lv, st, μ, b) x.toInt [(a1, t1), (a2, t2)] := h
    obtain ⟨q1, q2⟩ := h
    intro p e R s m args below meth c H locs cells slots ls mc ms hC hH hS hl9 h1 h2 h3 h4
    have hp : ((#[(a1, o1), (a2, o2)] : Array (Int × Int)).toList.zip ((#[(a1, o1), (a2, o2)] : Array (Int × Int)).toList.drop 1)).all (fun (a, next) => a.1 < next.1) = true := by
      simpa using hlt
    by_cases c1 : x.toInt = a1
    · exact lv_lookup hC.1 hC.2.1 hd hp (by show Op.lookupswitch.offset [(a1, o1), (a2, o2)] dflt x.toInt = o1; rw [jx_lko, if_pos c1]) e1 (q1 c1 p e R s m args below meth c H locs cells slots ls mc ms hC hH hS hl9 h1 h2 h3 h4)
    · obtain ⟨q3, q4⟩ := q2 c1
      by_cases c2 : x.toInt = a2
      · exact lv_lookup hC.1 hC.2.1 hd hp (by show Op.lookupswitch.offset [(a1, o1), (a2, o2)] dflt x.toInt = o2; rw [jx_lko, if_neg c1, jx_lko, if_pos c2]) e2 (q3 c2 p e R s m args below meth c H locs cells slots ls mc ms hC hH hS hl9 h1 h2 h3 h4)
      · exact lv_lookup hC.1 hC.2.1 hd hp (by show Op.lookupswitch.offset [(a1, o1), (a2, o2)] dflt x.toInt = dflt; rw [jx_lko, if_neg c1, jx_lko, if_neg c2, jx_lk0]) hdf (q4 c2 p e R s m args below meth c H locs cells slots ls mc ms hC hH hS hl9 h1 h2 h3 h4)
