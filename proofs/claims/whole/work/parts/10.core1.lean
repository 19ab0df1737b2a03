/-! The core: a typed memory, a judgement over it, and one row an instruction. -/
abbrev jx_K : Type := Nat ⊕ (FieldType × Nat × Bool)
abbrev jx_M : Type := Nat × (Nat → Option jx_K) × (Nat → Nat → Int32) × (Nat → Nat → Int64) × (Nat → Nat → Option Nat)
def jx_sz (μ : jx_M) : Nat := μ.1
def jx_kn (μ : jx_M) : Nat → Option jx_K := μ.2.1
def jx_vi (μ : jx_M) : Nat → Nat → Int32 := μ.2.2.1
def jx_vl (μ : jx_M) : Nat → Nat → Int64 := μ.2.2.2.1
def jx_vr (μ : jx_M) : Nat → Nat → Option Nat := μ.2.2.2.2
def jx_ln (μ : jx_M) (a : Nat) : Int32 := match jx_kn μ a with
  | some (.inr (_, n, _)) => nI n
  | _ => 0
def jx_u2 {α : Type} (f : Nat → Nat → α) (a k : Nat) (v : α) : Nat → Nat → α := fun a' k' => if a' = a ∧ k' = k then v else f a' k'
def jx_si (μ : jx_M) (a k : Nat) (v : Int32) : jx_M := (jx_sz μ, jx_kn μ, jx_u2 (jx_vi μ) a k v, jx_vl μ, jx_vr μ)
def jx_sl (μ : jx_M) (a k : Nat) (v : Int64) : jx_M := (jx_sz μ, jx_kn μ, jx_vi μ, jx_u2 (jx_vl μ) a k v, jx_vr μ)
def jx_sr (μ : jx_M) (a k : Nat) (v : Option Nat) : jx_M := (jx_sz μ, jx_kn μ, jx_vi μ, jx_vl μ, jx_u2 (jx_vr μ) a k v)
/-- a new cell of kind k at the end, all zero -/
def jx_nw (μ : jx_M) (k : jx_K) : jx_M := (jx_sz μ + 1, (fun a => if a = jx_sz μ then some k else jx_kn μ a), (fun a j => if a = jx_sz μ then 0 else jx_vi μ a j), (fun a j => if a = jx_sz μ then 0 else jx_vl μ a j), (fun a j => if a = jx_sz μ then none else jx_vr μ a j))
/-- a field's value, by the table of reference fields -/
def jx_V (μ : jx_M) (a ci k : Nat) : Value := if jx_rt ci k = true then va_rf (jx_vr μ a k) else .int (jx_vi μ a k)
def jx_el (ty : FieldType) (μ : jx_M) (a j : Nat) : Value := match ty with
  | .long => .long (jx_vl μ a j)
  | .object _ => va_rf (jx_vr μ a j)
  | _ => .int (jx_vi μ a j)
def jx_RA (U : State) (cA : ClassId) (ty : FieldType) : Prop := match ty with
  | .object C => ∃ (kA : Class) (comp : ClassId), U.vm.classes[cA]? = some kA ∧ kA.kind = .array comp (.object C) ∧ U.vm.findClass C = some comp
  | _ => True
def jx_at (g : jx_G) (U : State) (μ : jx_M) (H : Heap) (a : Nat) (k : jx_K) : Prop := match k with
  | .inl ci => g.2.2.1 ≤ a ∧ ∃ r : vw_C, jx_cl[ci]? = some r ∧ t_OB a (g.2.1.1 ci) r.2.2 (g.2.1.2 ci) H (jx_V μ a ci)
  | .inr (ty, n, b) => (b = true → g.2.2.1 ≤ a) ∧ n < 2 ^ 31 ∧ ∃ cell : Cell, H[a]? = some cell ∧ U.isArrayOf cell ty ∧ cell.vm ≠ .unknown ∧ jx_RA U cell.cls ty ∧ cell.slots.size = n ∧ ∀ j, j < n → cell.slots[j]? = some (jx_el ty μ a j)
def jx_H (g : jx_G) (U : State) (H : Heap) (μ : jx_M) : Prop := g.2.2.1 ≤ H.size ∧ H.size = jx_sz μ ∧ ∀ a k, jx_kn μ a = some k → jx_at g U μ H a k
theorem jx_RA_moved {u U : State} (hvm : u.vm.Alike U.vm) {cA : ClassId} {ty : FieldType} (h : jx_RA u cA ty) : jx_RA U cA ty := by
  cases ty with
  | object C =>
    obtain ⟨kA, comp, h1, h2, h3⟩ := h
    obtain ⟨k', hk', he⟩ := hvm.2.2 _ _ h1
    exact ⟨k', comp, hk', by rw [he]; exact h2, by rw [hvm.findClass]; exact h3⟩
  | _ => trivial
theorem jx_at_moved {g : jx_G} {u U : State} {μ : jx_M} {H : Heap} {a : Nat} {k : jx_K} (hvm : u.vm.Alike U.vm) (h : jx_at g u μ H a k) : jx_at g U μ H a k := by
  cases k with
  | inl ci => exact h
  | inr x =>
    obtain ⟨ty, n, b⟩ := x
    obtain ⟨h1, h2, cell, h3, h4, h5, h6, h7⟩ := h
    exact ⟨h1, h2, cell, h3, State.isArrayOf_alike hvm h4, h5, jx_RA_moved hvm h6, h7⟩
theorem jx_H_moved {g : jx_G} {u U : State} {μ : jx_M} {H : Heap} (hvm : u.vm.Alike U.vm) (h : jx_H g u H μ) : jx_H g U H μ := ⟨h.1, h.2.1, fun a k hk => jx_at_moved hvm (h.2.2 a k hk)⟩
theorem jx_at_lt {g : jx_G} {U : State} {μ : jx_M} {H : Heap} {a : Nat} {k : jx_K} (h : jx_at g U μ H a k) : a < H.size := by
  cases k with
  | inl ci =>
    obtain ⟨-, r, -, cell, h2, -⟩ := h
    exact (Array.getElem?_eq_some_iff.mp h2).1
  | inr x =>
    obtain ⟨ty, n, b⟩ := x
    obtain ⟨h1, h2, cell, h3, -⟩ := h
    exact (Array.getElem?_eq_some_iff.mp h3).1
theorem jx_at_kept {g : jx_G} {U : State} {μ μ' : jx_M} {H H' : Heap} {a : Nat} {k : jx_K} (h : jx_at g U μ H a k) (hq : H'[a]? = H[a]?) (hi : ∀ j, jx_vi μ' a j = jx_vi μ a j) (hl : ∀ j, jx_vl μ' a j = jx_vl μ a j) (hr : ∀ j, jx_vr μ' a j = jx_vr μ a j) : jx_at g U μ' H' a k := by
  cases k with
  | inl ci =>
    obtain ⟨h0, r, h1, h2⟩ := h
    refine ⟨h0, r, h1, ?_⟩
    have e : jx_V μ' a ci = jx_V μ a ci := by
      funext j
      simp only [jx_V, hi, hr]
    rw [e]
    exact h2.kept hq
  | inr x =>
    obtain ⟨ty, n, b⟩ := x
    obtain ⟨h1, h2, cell, h3, h4, h5, h6, h7, h8⟩ := h
    refine ⟨h1, h2, cell, hq.trans h3, h4, h5, h6, h7, fun j hj => ?_⟩
    rw [h8 j hj]
    cases ty <;> simp only [jx_el, hi, hl, hr]

/-! states and judgement -/
abbrev jx_S : Type := List (Nat × Value) × List Value × jx_M × Nat × Nat
abbrev jx_tr : Type := jx_S → (jx_S → Prop) → Prop
abbrev jx_Kt : Type := (Option Value ⊕ String) → jx_M → Prop
def jx_lq : List (Nat × Value) → Nat → Option Value
  | [], _ => none
  | (j, v) :: r, i => if j = i then some v else jx_lq r i
def jx_lk (lv : List (Nat × Value)) (i : Nat) : Value := (jx_lq lv i).getD .null
theorem jx_lq_e {j i : Nat} {v : Value} {r : List (Nat × Value)} : jx_lq ((j, v) :: r) i = if j = i then some v else jx_lq r i := rfl
theorem jx_lk_e {j i : Nat} {v : Value} {r : List (Nat × Value)} : jx_lk ((j, v) :: r) i = if j = i then v else jx_lk r i := by
  unfold jx_lk
  rw [jx_lq_e]
  by_cases h : j = i
  · rw [if_pos h, if_pos h]; rfl
  · rw [if_neg h, if_neg h]
def jx_L (ls : Array Slot) (n : Nat) (lv : List (Nat × Value)) : Prop := ls.size = n ∧ lv_wf ls ∧ ∀ i v, jx_lq lv i = some v → ls[i]? = some (.val v)
def jx_all (n : Nat) (lv : List (Nat × Value)) : List (Nat × Value) := (List.range n).filterMap (fun j => (jx_lq lv j).map fun v => (j, v))
theorem jx_all_mem {ls : Array Slot} {n : Nat} {lv : List (Nat × Value)} (h : jx_L ls n lv) {j : Nat} {v : Value} (hj : jx_lq lv j = some v) : (j, v) ∈ jx_all n lv := by
  have h1 := h.2.2 j v hj
  have h2 : j < n := by rw [← h.1]; exact (Array.getElem?_eq_some_iff.mp h1).1
  exact List.mem_filterMap.mpr ⟨j, List.mem_range.mpr h2, by rw [hj]; rfl⟩
theorem jx_all_has {ls : Array Slot} {n : Nat} {lv : List (Nat × Value)} (h : jx_L ls n lv) : lv_has ls n (jx_all n lv) := by
  refine ⟨h.1, h.2.1, fun q hq => ?_⟩
  obtain ⟨j, -, hj⟩ := List.mem_filterMap.mp hq
  cases e : jx_lq lv j with
  | none => rw [e] at hj; cases hj
  | some v =>
    rw [e] at hj
    cases hj
    exact h.2.2 j v e
def jx_nc (lv : List (Nat × Value)) (i : Nat) : Prop := (jx_lk lv (i - 1)).category = 1
theorem jx_L_store {ls ls' : Array Slot} {n i : Nat} {x : Value} {lv : List (Nat × Value)} (h : jx_L ls n lv) (hnc : jx_nc lv i) (h' : lv_has ls' n ((i, x) :: (jx_all n lv).filter (fun q => !(q.1 == i) && !(q.1 + 1 == i && q.2.category == 2)))) : jx_L ls' n ((i, x) :: lv) := by
  refine ⟨h'.1, h'.2.1, fun j v hj => ?_⟩
  by_cases e : i = j
  · subst e
    rw [jx_lq_e, if_pos rfl] at hj
    cases hj
    exact h'.2.2 _ List.mem_cons_self
  · rw [jx_lq_e, if_neg e] at hj
    refine h'.2.2 (j, v) (List.mem_cons_of_mem _ (List.mem_filter.mpr ⟨jx_all_mem h hj, ?_⟩))
    have e1 : (j == i) = false := by simpa using (fun q : j = i => e q.symm)
    have e2 : (j + 1 == i && v.category == 2) = false := by
      by_cases q : j + 1 = i
      · have q2 : jx_lk lv (i - 1) = v := by
          unfold jx_lk
          rw [show i - 1 = j by omega, hj]; rfl
        unfold jx_nc at hnc
        rw [q2] at hnc
        simp [hnc]
      · simp [q]
    show (!(j == i) && !(j + 1 == i && v.category == 2)) = true
    rw [e1, e2]; rfl
theorem jx_L_lstore {ls ls' : Array Slot} {n i : Nat} {x : Value} {lv : List (Nat × Value)} (h : jx_L ls n lv) (hnc : jx_nc lv i) (hn2 : jx_lq lv (i + 1) = none) (h' : lv_has ls' n ((i, x) :: (jx_all n lv).filter (fun q => !(q.1 == i) && (!(q.1 == i + 1) && !(q.1 + 1 == i && q.2.category == 2))))) : jx_L ls' n ((i, x) :: lv) := by
  refine ⟨h'.1, h'.2.1, fun j v hj => ?_⟩
  by_cases e : i = j
  · subst e
    rw [jx_lq_e, if_pos rfl] at hj
    cases hj
    exact h'.2.2 _ List.mem_cons_self
  · rw [jx_lq_e, if_neg e] at hj
    refine h'.2.2 (j, v) (List.mem_cons_of_mem _ (List.mem_filter.mpr ⟨jx_all_mem h hj, ?_⟩))
    have e1 : (j == i) = false := by simpa using (fun q : j = i => e q.symm)
    have e3 : (j == i + 1) = false := by
      by_cases q : j = i + 1
      · subst q; rw [hn2] at hj; cases hj
      · simpa using q
    have e2 : (j + 1 == i && v.category == 2) = false := by
      by_cases q : j + 1 = i
      · have q2 : jx_lk lv (i - 1) = v := by
          unfold jx_lk
          rw [show i - 1 = j by omega, hj]; rfl
        unfold jx_nc at hnc
        rw [q2] at hnc
        simp [hnc]
      · simp [q]
    show (!(j == i) && (!(j == i + 1) && !(j + 1 == i && v.category == 2))) = true
    rw [e1, e2, e3]; rfl
abbrev jx_me : Type := String × ByteArray × Nat × Option FieldType × (Nat × Nat) × Bool × List ExceptionTableEntry
abbrev jx_ow (me : jx_me) : String := me.1
abbrev jx_cc (me : jx_me) : ByteArray := me.2.1
abbrev jx_ml (me : jx_me) : Nat := me.2.2.1
abbrev jx_re (me : jx_me) : Option FieldType := me.2.2.2.1
abbrev jx_ht (me : jx_me) : Nat × Nat := me.2.2.2.2.1
abbrev jx_ini (me : jx_me) : Bool := me.2.2.2.2.2.1
abbrev jx_tb (me : jx_me) : List ExceptionTableEntry := me.2.2.2.2.2.2
def jx_Qc (g : jx_G) (K : jx_Kt) : Array Value → State → Outcome → State → Prop := fun _ st o t => ∃ (v : Option Value) (μ : jx_M), o = .returned v ∧ K (.inl v) μ ∧ jx_H g t t.heap μ ∧ va_F (fun q => g.2.2.1 ≤ q) st t
def jx_Xc (g : jx_G) (K : jx_Kt) : String → State → State → Prop := fun E st t => ∃ μ : jx_M, K (.inr E) μ ∧ jx_H g t t.heap μ ∧ va_F (fun q => g.2.2.1 ≤ q) st t
def jx_C (g : jx_G) (me : jx_me) (p : Program) (R : Room) (s : State) (m : MethodId) (args : Array Value) (meth : Method) (c : Code) : Prop :=
  p.tables.exec = Jvm.exec ∧ c.code = jx_cc me ∧ c.maxLocals = jx_ml me ∧ s.vm.findClass (jx_ow me) = some m.cls ∧ meth.sig.returnType = jx_re me ∧ meth.locks = false ∧ (jx_ini me = true → meth.name = "<init>") ∧ c.exceptionTable.toList = jx_tb me ∧
  (∀ w ∈ jx_ws, w.before args s = true) ∧ jx_Ga g s s.heap ∧ g.2.2.1 ≤ s.heap.size ∧ (jx_ht me).1 ≤ R.frames ∧ (jx_ht me).2 ≤ R.locals
def jx_J (g : jx_G) (me : jx_me) (pc : Nat) (σ : jx_S) (K : jx_Kt) : Prop :=
  ∀ (p : Program) (e : Env) (R : Room) (s : State) (m : MethodId) (args : Array Value) (below : List Frame) (meth : Method) (c : Code) (H : Heap) (locs : List Loc) (cells slots : Nat) (ls : Array Slot) (mc ms : Nat),
    jx_C g me p R s m args meth c → jx_H g s H σ.2.2.1 → va_S (fun q => g.2.2.1 ≤ q) s.heap H locs → jx_L ls (jx_ml me) σ.1 → cells + σ.2.2.2.1 ≤ mc → slots + σ.2.2.2.2 ≤ ms → mc ≤ R.cells → ms ≤ R.slots →
    W p g.1 e R s m args below meth c H locs cells slots (vx_MQ below (jx_Qc g K) (jx_Xc g K) args s mc ms (fun q => g.2.2.1 ≤ q)) (F0 m pc ls σ.2.1)
/-- a row is sound: from pc to pc' -/
def jx_So (g : jx_G) (me : jx_me) (pc pc' : Nat) (t : jx_tr) : Prop := ∀ (K : jx_Kt) (P : jx_S → Prop) (σ : jx_S), (∀ σ' : jx_S, P σ' → jx_J g me pc' σ' K) → t σ P → jx_J g me pc σ K
def jx_sq (t u : jx_tr) : jx_tr := fun σ P => t σ (fun σ' => u σ' P)
theorem jx_sq_e {t u : jx_tr} {σ : jx_S} {P : jx_S → Prop} : jx_sq t u σ P = t σ (fun σ' => u σ' P) := rfl
theorem jx_So.c {g : jx_G} {me : jx_me} {a b d : Nat} {t u : jx_tr} (h1 : jx_So g me a b t) (h2 : jx_So g me b d u) : jx_So g me a d (jx_sq t u) :=
  fun K P σ hP ht => h1 K (fun σ' => u σ' P) σ (fun σ' h => h2 K P σ' hP h) ht
/-- a stretch of rows, then the rest -/
theorem jx_So.go {g : jx_G} {me : jx_me} {a b : Nat} {t : jx_tr} (h : jx_So g me a b t) {K : jx_Kt} {σ : jx_S} (k : t σ (fun σ' => jx_J g me b σ' K)) : jx_J g me a σ K := h K _ σ (fun _ h => h) k
def jx_iv : Value → Int32
  | .int v => v
  | _ => 0
def jx_lv : Value → Int64
  | .long v => v
  | _ => 0
def jx_ad : Value → Nat
  | .ref a => a
  | _ => 0
def jx_i (x : Value) : Prop := ∃ v, x = .int v
def jx_l (x : Value) : Prop := ∃ v, x = .long v
def jx_r (x : Value) : Prop := ∃ v, x = .ref v
def jx_a (x : Value) : Prop := x = .null ∨ ∃ v, x = .ref v
def jx_c1 (x : Value) : Prop := x.category = 1
theorem jx_iv_e {v : Int32} : jx_iv (.int v) = v := rfl
theorem jx_lv_e {v : Int64} : jx_lv (.long v) = v := rfl
theorem jx_ad_e {v : Nat} : jx_ad (.ref v) = v := rfl
theorem jx_i_e {v : Int32} : jx_i (.int v) = True := eq_true ⟨v, rfl⟩
theorem jx_l_e {v : Int64} : jx_l (.long v) = True := eq_true ⟨v, rfl⟩
theorem jx_r_e {v : Nat} : jx_r (.ref v) = True := eq_true ⟨v, rfl⟩
theorem jx_a_e {v : Nat} : jx_a (.ref v) = True := eq_true (Or.inr ⟨v, rfl⟩)
theorem jx_a_n : jx_a .null = True := eq_true (Or.inl rfl)
theorem jx_a_rf {o : Option Nat} : jx_a (va_rf o) = True := by
  cases o with
  | none => exact jx_a_n
  | some a => exact jx_a_e
theorem jx_rf_s {a : Nat} : va_rf (some a) = .ref a := rfl
theorem jx_rf_n : va_rf none = .null := rfl
theorem jx_c1_i {v : Int32} : jx_c1 (.int v) = True := eq_true rfl
theorem jx_c1_r {v : Nat} : jx_c1 (.ref v) = True := eq_true rfl
theorem jx_c1_n : jx_c1 .null = True := eq_true rfl
theorem jx_c1_rf {o : Option Nat} : jx_c1 (va_rf o) = True := by
  cases o <;> exact eq_true rfl
theorem jx_nc_e {lv : List (Nat × Value)} {i : Nat} : jx_nc lv i = jx_c1 (jx_lk lv (i - 1)) := rfl

def jt_iadd : jx_tr := fun σ P => match σ with
  | (lv, y :: x :: st, μ, b) => jx_i x ∧ jx_i y ∧ P (lv, .int (jx_iv x + jx_iv y) :: st, μ, b)
  | _ => False
theorem jt_iadd_e {y x : Value} {lv : List (Nat × Value)} {st : List Value} {μ : jx_M} {b : Nat × Nat} {P : jx_S → Prop} : jt_iadd (lv, y :: x :: st, μ, b) P = (jx_i x ∧ jx_i y ∧ P (lv, .int (jx_iv x + jx_iv y) :: st, μ, b)) := rfl
theorem js_iadd {g : jx_G} {me : jx_me} {pc : Nat} (hd : decode (jx_cc me) pc = .ok (.iadd, 1)) : jx_So g me pc (pc + 1) (jt_iadd) := by
  intro K P σ hP ht
  obtain ⟨lv, st, μ, b⟩ := σ
  rcases st with _ | ⟨y, _ | ⟨x, st⟩⟩
  · exact False.elim ht
  · exact False.elim ht
  · obtain ⟨⟨x, rfl⟩, ⟨y, rfl⟩, ht⟩ := ht
    intro p e R s m args below meth c H locs cells slots ls mc ms hC hH hS hl h1 h2 h3 h4
    exact lv_iadd hC.1 hC.2.1 hd (hP _ ht p e R s m args below meth c H locs cells slots ls mc ms hC hH hS hl h1 h2 h3 h4)
def jt_isub : jx_tr := fun σ P => match σ with
  | (lv, y :: x :: st, μ, b) => jx_i x ∧ jx_i y ∧ P (lv, .int (jx_iv x - jx_iv y) :: st, μ, b)
  | _ => False
theorem jt_isub_e {y x : Value} {lv : List (Nat × Value)} {st : List Value} {μ : jx_M} {b : Nat × Nat} {P : jx_S → Prop} : jt_isub (lv, y :: x :: st, μ, b) P = (jx_i x ∧ jx_i y ∧ P (lv, .int (jx_iv x - jx_iv y) :: st, μ, b)) := rfl
theorem js_isub {g : jx_G} {me : jx_me} {pc : Nat} (hd : decode (jx_cc me) pc = .ok (.isub, 1)) : jx_So g me pc (pc + 1) (jt_isub) := by
  intro K P σ hP ht
  obtain ⟨lv, st, μ, b⟩ := σ
  rcases st with _ | ⟨y, _ | ⟨x, st⟩⟩
  · exact False.elim ht
  · exact False.elim ht
  · obtain ⟨⟨x, rfl⟩, ⟨y, rfl⟩, ht⟩ := ht
    intro p e R s m args below meth c H locs cells slots ls mc ms hC hH hS hl h1 h2 h3 h4
    exact lv_isub hC.1 hC.2.1 hd (hP _ ht p e R s m args below meth c H locs cells slots ls mc ms hC hH hS hl h1 h2 h3 h4)
def jt_imul : jx_tr := fun σ P => match σ with
  | (lv, y :: x :: st, μ, b) => jx_i x ∧ jx_i y ∧ P (lv, .int (jx_iv x * jx_iv y) :: st, μ, b)
  | _ => False
theorem jt_imul_e {y x : Value} {lv : List (Nat × Value)} {st : List Value} {μ : jx_M} {b : Nat × Nat} {P : jx_S → Prop} : jt_imul (lv, y :: x :: st, μ, b) P = (jx_i x ∧ jx_i y ∧ P (lv, .int (jx_iv x * jx_iv y) :: st, μ, b)) := rfl
theorem js_imul {g : jx_G} {me : jx_me} {pc : Nat} (hd : decode (jx_cc me) pc = .ok (.imul, 1)) : jx_So g me pc (pc + 1) (jt_imul) := by
  intro K P σ hP ht
  obtain ⟨lv, st, μ, b⟩ := σ
  rcases st with _ | ⟨y, _ | ⟨x, st⟩⟩
  · exact False.elim ht
  · exact False.elim ht
  · obtain ⟨⟨x, rfl⟩, ⟨y, rfl⟩, ht⟩ := ht
    intro p e R s m args below meth c H locs cells slots ls mc ms hC hH hS hl h1 h2 h3 h4
    exact lv_imul hC.1 hC.2.1 hd (hP _ ht p e R s m args below meth c H locs cells slots ls mc ms hC hH hS hl h1 h2 h3 h4)
def jt_iand : jx_tr := fun σ P => match σ with
  | (lv, y :: x :: st, μ, b) => jx_i x ∧ jx_i y ∧ P (lv, .int (jx_iv x &&& jx_iv y) :: st, μ, b)
  | _ => False
theorem jt_iand_e {y x : Value} {lv : List (Nat × Value)} {st : List Value} {μ : jx_M} {b : Nat × Nat} {P : jx_S → Prop} : jt_iand (lv, y :: x :: st, μ, b) P = (jx_i x ∧ jx_i y ∧ P (lv, .int (jx_iv x &&& jx_iv y) :: st, μ, b)) := rfl
theorem js_iand {g : jx_G} {me : jx_me} {pc : Nat} (hd : decode (jx_cc me) pc = .ok (.iand, 1)) : jx_So g me pc (pc + 1) (jt_iand) := by
  intro K P σ hP ht
  obtain ⟨lv, st, μ, b⟩ := σ
  rcases st with _ | ⟨y, _ | ⟨x, st⟩⟩
  · exact False.elim ht
  · exact False.elim ht
  · obtain ⟨⟨x, rfl⟩, ⟨y, rfl⟩, ht⟩ := ht
    intro p e R s m args below meth c H locs cells slots ls mc ms hC hH hS hl h1 h2 h3 h4
    exact lv_iand hC.1 hC.2.1 hd (hP _ ht p e R s m args below meth c H locs cells slots ls mc ms hC hH hS hl h1 h2 h3 h4)
def jt_ishr : jx_tr := fun σ P => match σ with
  | (lv, y :: x :: st, μ, b) => jx_i x ∧ jx_i y ∧ P (lv, .int (jx_iv x >>> (jx_iv y &&& 31)) :: st, μ, b)
  | _ => False
theorem jt_ishr_e {y x : Value} {lv : List (Nat × Value)} {st : List Value} {μ : jx_M} {b : Nat × Nat} {P : jx_S → Prop} : jt_ishr (lv, y :: x :: st, μ, b) P = (jx_i x ∧ jx_i y ∧ P (lv, .int (jx_iv x >>> (jx_iv y &&& 31)) :: st, μ, b)) := rfl
theorem js_ishr {g : jx_G} {me : jx_me} {pc : Nat} (hd : decode (jx_cc me) pc = .ok (.ishr, 1)) : jx_So g me pc (pc + 1) (jt_ishr) := by
  intro K P σ hP ht
  obtain ⟨lv, st, μ, b⟩ := σ
  rcases st with _ | ⟨y, _ | ⟨x, st⟩⟩
  · exact False.elim ht
  · exact False.elim ht
  · obtain ⟨⟨x, rfl⟩, ⟨y, rfl⟩, ht⟩ := ht
    intro p e R s m args below meth c H locs cells slots ls mc ms hC hH hS hl h1 h2 h3 h4
    exact lv_ishr hC.1 hC.2.1 hd (hP _ ht p e R s m args below meth c H locs cells slots ls mc ms hC hH hS hl h1 h2 h3 h4)
def jt_idiv : jx_tr := fun σ P => match σ with
  | (lv, y :: x :: st, μ, b) => jx_i x ∧ jx_i y ∧ ¬ jx_iv y = 0 ∧ P (lv, .int (jx_iv x / jx_iv y) :: st, μ, b)
  | _ => False
theorem jt_idiv_e {y x : Value} {lv : List (Nat × Value)} {st : List Value} {μ : jx_M} {b : Nat × Nat} {P : jx_S → Prop} : jt_idiv (lv, y :: x :: st, μ, b) P = (jx_i x ∧ jx_i y ∧ ¬ jx_iv y = 0 ∧ P (lv, .int (jx_iv x / jx_iv y) :: st, μ, b)) := rfl
theorem js_idiv {g : jx_G} {me : jx_me} {pc : Nat} (hd : decode (jx_cc me) pc = .ok (.idiv, 1)) : jx_So g me pc (pc + 1) (jt_idiv) := by
  intro K P σ hP ht
  obtain ⟨lv, st, μ, b⟩ := σ
  rcases st with _ | ⟨y, _ | ⟨x, st⟩⟩
  · exact False.elim ht
  · exact False.elim ht
  · obtain ⟨⟨x, rfl⟩, ⟨y, rfl⟩, hne, ht⟩ := ht
    intro p e R s m args below meth c H locs cells slots ls mc ms hC hH hS hl h1 h2 h3 h4
    exact lv_idiv hC.1 hC.2.1 hd hne (hP _ ht p e R s m args below meth c H locs cells slots ls mc ms hC hH hS hl h1 h2 h3 h4)
def jt_irem : jx_tr := fun σ P => match σ with
  | (lv, y :: x :: st, μ, b) => jx_i x ∧ jx_i y ∧ ¬ jx_iv y = 0 ∧ P (lv, .int (jx_iv x - jx_iv x / jx_iv y * jx_iv y) :: st, μ, b)
  | _ => False
theorem jt_irem_e {y x : Value} {lv : List (Nat × Value)} {st : List Value} {μ : jx_M} {b : Nat × Nat} {P : jx_S → Prop} : jt_irem (lv, y :: x :: st, μ, b) P = (jx_i x ∧ jx_i y ∧ ¬ jx_iv y = 0 ∧ P (lv, .int (jx_iv x - jx_iv x / jx_iv y * jx_iv y) :: st, μ, b)) := rfl
theorem js_irem {g : jx_G} {me : jx_me} {pc : Nat} (hd : decode (jx_cc me) pc = .ok (.irem, 1)) : jx_So g me pc (pc + 1) (jt_irem) := by
  intro K P σ hP ht
  obtain ⟨lv, st, μ, b⟩ := σ
  rcases st with _ | ⟨y, _ | ⟨x, st⟩⟩
  · exact False.elim ht
  · exact False.elim ht
  · obtain ⟨⟨x, rfl⟩, ⟨y, rfl⟩, hne, ht⟩ := ht
    intro p e R s m args below meth c H locs cells slots ls mc ms hC hH hS hl h1 h2 h3 h4
    exact lv_irem hC.1 hC.2.1 hd hne (hP _ ht p e R s m args below meth c H locs cells slots ls mc ms hC hH hS hl h1 h2 h3 h4)
def jt_ladd : jx_tr := fun σ P => match σ with
  | (lv, y :: x :: st, μ, b) => jx_l x ∧ jx_l y ∧ P (lv, .long (jx_lv x + jx_lv y) :: st, μ, b)
  | _ => False
theorem jt_ladd_e {y x : Value} {lv : List (Nat × Value)} {st : List Value} {μ : jx_M} {b : Nat × Nat} {P : jx_S → Prop} : jt_ladd (lv, y :: x :: st, μ, b) P = (jx_l x ∧ jx_l y ∧ P (lv, .long (jx_lv x + jx_lv y) :: st, μ, b)) := rfl
theorem js_ladd {g : jx_G} {me : jx_me} {pc : Nat} (hd : decode (jx_cc me) pc = .ok (.ladd, 1)) : jx_So g me pc (pc + 1) (jt_ladd) := by
  intro K P σ hP ht
  obtain ⟨lv, st, μ, b⟩ := σ
  rcases st with _ | ⟨y, _ | ⟨x, st⟩⟩
  · exact False.elim ht
  · exact False.elim ht
  · obtain ⟨⟨x, rfl⟩, ⟨y, rfl⟩, ht⟩ := ht
    intro p e R s m args below meth c H locs cells slots ls mc ms hC hH hS hl h1 h2 h3 h4
    exact lv_ladd hC.1 hC.2.1 hd (hP _ ht p e R s m args below meth c H locs cells slots ls mc ms hC hH hS hl h1 h2 h3 h4)
def jt_lsub : jx_tr := fun σ P => match σ with
  | (lv, y :: x :: st, μ, b) => jx_l x ∧ jx_l y ∧ P (lv, .long (jx_lv x - jx_lv y) :: st, μ, b)
  | _ => False
theorem jt_lsub_e {y x : Value} {lv : List (Nat × Value)} {st : List Value} {μ : jx_M} {b : Nat × Nat} {P : jx_S → Prop} : jt_lsub (lv, y :: x :: st, μ, b) P = (jx_l x ∧ jx_l y ∧ P (lv, .long (jx_lv x - jx_lv y) :: st, μ, b)) := rfl
theorem js_lsub {g : jx_G} {me : jx_me} {pc : Nat} (hd : decode (jx_cc me) pc = .ok (.lsub, 1)) : jx_So g me pc (pc + 1) (jt_lsub) := by
  intro K P σ hP ht
  obtain ⟨lv, st, μ, b⟩ := σ
  rcases st with _ | ⟨y, _ | ⟨x, st⟩⟩
  · exact False.elim ht
  · exact False.elim ht
  · obtain ⟨⟨x, rfl⟩, ⟨y, rfl⟩, ht⟩ := ht
    intro p e R s m args below meth c H locs cells slots ls mc ms hC hH hS hl h1 h2 h3 h4
    exact lv_lsub hC.1 hC.2.1 hd (hP _ ht p e R s m args below meth c H locs cells slots ls mc ms hC hH hS hl h1 h2 h3 h4)
def jt_lmul : jx_tr := fun σ P => match σ with
  | (lv, y :: x :: st, μ, b) => jx_l x ∧ jx_l y ∧ P (lv, .long (jx_lv x * jx_lv y) :: st, μ, b)
  | _ => False
theorem jt_lmul_e {y x : Value} {lv : List (Nat × Value)} {st : List Value} {μ : jx_M} {b : Nat × Nat} {P : jx_S → Prop} : jt_lmul (lv, y :: x :: st, μ, b) P = (jx_l x ∧ jx_l y ∧ P (lv, .long (jx_lv x * jx_lv y) :: st, μ, b)) := rfl
theorem js_lmul {g : jx_G} {me : jx_me} {pc : Nat} (hd : decode (jx_cc me) pc = .ok (.lmul, 1)) : jx_So g me pc (pc + 1) (jt_lmul) := by
  intro K P σ hP ht
  obtain ⟨lv, st, μ, b⟩ := σ
  rcases st with _ | ⟨y, _ | ⟨x, st⟩⟩
  · exact False.elim ht
  · exact False.elim ht
  · obtain ⟨⟨x, rfl⟩, ⟨y, rfl⟩, ht⟩ := ht
    intro p e R s m args below meth c H locs cells slots ls mc ms hC hH hS hl h1 h2 h3 h4
    exact lv_lmul hC.1 hC.2.1 hd (hP _ ht p e R s m args below meth c H locs cells slots ls mc ms hC hH hS hl h1 h2 h3 h4)
def jt_ldiv : jx_tr := fun σ P => match σ with
  | (lv, y :: x :: st, μ, b) => jx_l x ∧ jx_l y ∧ ¬ jx_lv y = 0 ∧ P (lv, .long (jx_lv x / jx_lv y) :: st, μ, b)
  | _ => False
theorem jt_ldiv_e {y x : Value} {lv : List (Nat × Value)} {st : List Value} {μ : jx_M} {b : Nat × Nat} {P : jx_S → Prop} : jt_ldiv (lv, y :: x :: st, μ, b) P = (jx_l x ∧ jx_l y ∧ ¬ jx_lv y = 0 ∧ P (lv, .long (jx_lv x / jx_lv y) :: st, μ, b)) := rfl
theorem js_ldiv {g : jx_G} {me : jx_me} {pc : Nat} (hd : decode (jx_cc me) pc = .ok (.ldiv, 1)) : jx_So g me pc (pc + 1) (jt_ldiv) := by
  intro K P σ hP ht
  obtain ⟨lv, st, μ, b⟩ := σ
  rcases st with _ | ⟨y, _ | ⟨x, st⟩⟩
  · exact False.elim ht
  · exact False.elim ht
  · obtain ⟨⟨x, rfl⟩, ⟨y, rfl⟩, hne, ht⟩ := ht
    intro p e R s m args below meth c H locs cells slots ls mc ms hC hH hS hl h1 h2 h3 h4
    exact lv_ldiv hC.1 hC.2.1 hd hne (hP _ ht p e R s m args below meth c H locs cells slots ls mc ms hC hH hS hl h1 h2 h3 h4)
def jt_lcmp : jx_tr := fun σ P => match σ with
  | (lv, y :: x :: st, μ, b) => jx_l x ∧ jx_l y ∧ P (lv, .int (lg_cmp (jx_lv x) (jx_lv y)) :: st, μ, b)
  | _ => False
theorem jt_lcmp_e {y x : Value} {lv : List (Nat × Value)} {st : List Value} {μ : jx_M} {b : Nat × Nat} {P : jx_S → Prop} : jt_lcmp (lv, y :: x :: st, μ, b) P = (jx_l x ∧ jx_l y ∧ P (lv, .int (lg_cmp (jx_lv x) (jx_lv y)) :: st, μ, b)) := rfl
theorem js_lcmp {g : jx_G} {me : jx_me} {pc : Nat} (hd : decode (jx_cc me) pc = .ok (.lcmp, 1)) : jx_So g me pc (pc + 1) (jt_lcmp) := by
  intro K P σ hP ht
  obtain ⟨lv, st, μ, b⟩ := σ
  rcases st with _ | ⟨y, _ | ⟨x, st⟩⟩
  · exact False.elim ht
  · exact False.elim ht
  · obtain ⟨⟨x, rfl⟩, ⟨y, rfl⟩, ht⟩ := ht
    intro p e R s m args below meth c H locs cells slots ls mc ms hC hH hS hl h1 h2 h3 h4
    exact W.lcmp hC.1 hC.2.1 hd (hP _ ht p e R s m args below meth c H locs cells slots ls mc ms hC hH hS hl h1 h2 h3 h4)
def jt_ineg : jx_tr := fun σ P => match σ with
  | (lv, x :: st, μ, b) => jx_i x ∧ P (lv, .int (-jx_iv x) :: st, μ, b)
  | _ => False
theorem jt_ineg_e {x : Value} {lv : List (Nat × Value)} {st : List Value} {μ : jx_M} {b : Nat × Nat} {P : jx_S → Prop} : jt_ineg (lv, x :: st, μ, b) P = (jx_i x ∧ P (lv, .int (-jx_iv x) :: st, μ, b)) := rfl
theorem js_ineg {g : jx_G} {me : jx_me} {pc : Nat} (hd : decode (jx_cc me) pc = .ok (.ineg, 1)) : jx_So g me pc (pc + 1) (jt_ineg) := by
  intro K P σ hP ht
  obtain ⟨lv, st, μ, b⟩ := σ
  rcases st with _ | ⟨x, st⟩
  · exact False.elim ht
  · obtain ⟨⟨x, rfl⟩, ht⟩ := ht
    intro p e R s m args below meth c H locs cells slots ls mc ms hC hH hS hl h1 h2 h3 h4
    exact lv_ineg hC.1 hC.2.1 hd (hP _ ht p e R s m args below meth c H locs cells slots ls mc ms hC hH hS hl h1 h2 h3 h4)
def jt_lneg : jx_tr := fun σ P => match σ with
  | (lv, x :: st, μ, b) => jx_l x ∧ P (lv, .long (-jx_lv x) :: st, μ, b)
  | _ => False
theorem jt_lneg_e {x : Value} {lv : List (Nat × Value)} {st : List Value} {μ : jx_M} {b : Nat × Nat} {P : jx_S → Prop} : jt_lneg (lv, x :: st, μ, b) P = (jx_l x ∧ P (lv, .long (-jx_lv x) :: st, μ, b)) := rfl
theorem js_lneg {g : jx_G} {me : jx_me} {pc : Nat} (hd : decode (jx_cc me) pc = .ok (.lneg, 1)) : jx_So g me pc (pc + 1) (jt_lneg) := by
  intro K P σ hP ht
  obtain ⟨lv, st, μ, b⟩ := σ
  rcases st with _ | ⟨x, st⟩
  · exact False.elim ht
  · obtain ⟨⟨x, rfl⟩, ht⟩ := ht
    intro p e R s m args below meth c H locs cells slots ls mc ms hC hH hS hl h1 h2 h3 h4
    exact lv_lneg hC.1 hC.2.1 hd (hP _ ht p e R s m args below meth c H locs cells slots ls mc ms hC hH hS hl h1 h2 h3 h4)
def jt_i2l : jx_tr := fun σ P => match σ with
  | (lv, x :: st, μ, b) => jx_i x ∧ P (lv, .long (jx_iv x).toInt64 :: st, μ, b)
  | _ => False
theorem jt_i2l_e {x : Value} {lv : List (Nat × Value)} {st : List Value} {μ : jx_M} {b : Nat × Nat} {P : jx_S → Prop} : jt_i2l (lv, x :: st, μ, b) P = (jx_i x ∧ P (lv, .long (jx_iv x).toInt64 :: st, μ, b)) := rfl
theorem js_i2l {g : jx_G} {me : jx_me} {pc : Nat} (hd : decode (jx_cc me) pc = .ok (.i2l, 1)) : jx_So g me pc (pc + 1) (jt_i2l) := by
  intro K P σ hP ht
  obtain ⟨lv, st, μ, b⟩ := σ
  rcases st with _ | ⟨x, st⟩
  · exact False.elim ht
  · obtain ⟨⟨x, rfl⟩, ht⟩ := ht
    intro p e R s m args below meth c H locs cells slots ls mc ms hC hH hS hl h1 h2 h3 h4
    exact lv_i2l hC.1 hC.2.1 hd rfl (hP _ ht p e R s m args below meth c H locs cells slots ls mc ms hC hH hS hl h1 h2 h3 h4)
def jt_l2i : jx_tr := fun σ P => match σ with
  | (lv, x :: st, μ, b) => jx_l x ∧ P (lv, .int (jx_lv x).toInt32 :: st, μ, b)
  | _ => False
theorem jt_l2i_e {x : Value} {lv : List (Nat × Value)} {st : List Value} {μ : jx_M} {b : Nat × Nat} {P : jx_S → Prop} : jt_l2i (lv, x :: st, μ, b) P = (jx_l x ∧ P (lv, .int (jx_lv x).toInt32 :: st, μ, b)) := rfl
theorem js_l2i {g : jx_G} {me : jx_me} {pc : Nat} (hd : decode (jx_cc me) pc = .ok (.l2i, 1)) : jx_So g me pc (pc + 1) (jt_l2i) := by
  intro K P σ hP ht
  obtain ⟨lv, st, μ, b⟩ := σ
  rcases st with _ | ⟨x, st⟩
  · exact False.elim ht
  · obtain ⟨⟨x, rfl⟩, ht⟩ := ht
    intro p e R s m args below meth c H locs cells slots ls mc ms hC hH hS hl h1 h2 h3 h4
    exact lv_l2i hC.1 hC.2.1 hd rfl (hP _ ht p e R s m args below meth c H locs cells slots ls mc ms hC hH hS hl h1 h2 h3 h4)
def jt_dup : jx_tr := fun σ P => match σ with
  | (lv, x :: st, μ, b) => jx_c1 x ∧ P (lv, x :: x :: st, μ, b)
  | _ => False
theorem jt_dup_e {x : Value} {lv : List (Nat × Value)} {st : List Value} {μ : jx_M} {b : Nat × Nat} {P : jx_S → Prop} : jt_dup (lv, x :: st, μ, b) P = (jx_c1 x ∧ P (lv, x :: x :: st, μ, b)) := rfl
theorem js_dup {g : jx_G} {me : jx_me} {pc : Nat} (hd : decode (jx_cc me) pc = .ok (.dup, 1)) : jx_So g me pc (pc + 1) (jt_dup) := by
  intro K P σ hP ht
  obtain ⟨lv, st, μ, b⟩ := σ
  rcases st with _ | ⟨x, st⟩
  · exact False.elim ht
  · obtain ⟨hx, ht⟩ := ht
    intro p e R s m args below meth c H locs cells slots ls mc ms hC hH hS hl h1 h2 h3 h4
    exact lv_dup hC.1 hC.2.1 hd hx (hP _ ht p e R s m args below meth c H locs cells slots ls mc ms hC hH hS hl h1 h2 h3 h4)
def jt_pop : jx_tr := fun σ P => match σ with
  | (lv, x :: st, μ, b) => jx_c1 x ∧ P (lv, st, μ, b)
  | _ => False
theorem jt_pop_e {x : Value} {lv : List (Nat × Value)} {st : List Value} {μ : jx_M} {b : Nat × Nat} {P : jx_S → Prop} : jt_pop (lv, x :: st, μ, b) P = (jx_c1 x ∧ P (lv, st, μ, b)) := rfl
theorem js_pop {g : jx_G} {me : jx_me} {pc : Nat} (hd : decode (jx_cc me) pc = .ok (.pop, 1)) : jx_So g me pc (pc + 1) (jt_pop) := by
  intro K P σ hP ht
  obtain ⟨lv, st, μ, b⟩ := σ
  rcases st with _ | ⟨x, st⟩
  · exact False.elim ht
  · obtain ⟨hx, ht⟩ := ht
    intro p e R s m args below meth c H locs cells slots ls mc ms hC hH hS hl h1 h2 h3 h4
    exact lv_pop hC.1 hC.2.1 hd hx (hP _ ht p e R s m args below meth c H locs cells slots ls mc ms hC hH hS hl h1 h2 h3 h4)
def jt_dup_x1 : jx_tr := fun σ P => match σ with
  | (lv, x :: y :: st, μ, b) => jx_c1 x ∧ jx_c1 y ∧ P (lv, x :: y :: x :: st, μ, b)
  | _ => False
theorem jt_dup_x1_e {x y : Value} {lv : List (Nat × Value)} {st : List Value} {μ : jx_M} {b : Nat × Nat} {P : jx_S → Prop} : jt_dup_x1 (lv, x :: y :: st, μ, b) P = (jx_c1 x ∧ jx_c1 y ∧ P (lv, x :: y :: x :: st, μ, b)) := rfl
theorem js_dup_x1 {g : jx_G} {me : jx_me} {pc : Nat} (hd : decode (jx_cc me) pc = .ok (.dup_x1, 1)) : jx_So g me pc (pc + 1) (jt_dup_x1) := by
  intro K P σ hP ht
  obtain ⟨lv, st, μ, b⟩ := σ
  rcases st with _ | ⟨x, _ | ⟨y, st⟩⟩
  · exact False.elim ht
  · exact False.elim ht
  · obtain ⟨hx, hy, ht⟩ := ht
    intro p e R s m args below meth c H locs cells slots ls mc ms hC hH hS hl h1 h2 h3 h4
    exact lv_dup_x1 hC.1 hC.2.1 hd hx hy (hP _ ht p e R s m args below meth c H locs cells slots ls mc ms hC hH hS hl h1 h2 h3 h4)
def jt_dup_x2 : jx_tr := fun σ P => match σ with
  | (lv, x :: y :: z :: st, μ, b) => jx_c1 x ∧ jx_c1 y ∧ jx_c1 z ∧ P (lv, x :: y :: z :: x :: st, μ, b)
  | _ => False
theorem jt_dup_x2_e {x y z : Value} {lv : List (Nat × Value)} {st : List Value} {μ : jx_M} {b : Nat × Nat} {P : jx_S → Prop} : jt_dup_x2 (lv, x :: y :: z :: st, μ, b) P = (jx_c1 x ∧ jx_c1 y ∧ jx_c1 z ∧ P (lv, x :: y :: z :: x :: st, μ, b)) := rfl
theorem js_dup_x2 {g : jx_G} {me : jx_me} {pc : Nat} (hd : decode (jx_cc me) pc = .ok (.dup_x2, 1)) : jx_So g me pc (pc + 1) (jt_dup_x2) := by
  intro K P σ hP ht
  obtain ⟨lv, st, μ, b⟩ := σ
  rcases st with _ | ⟨x, _ | ⟨y, _ | ⟨z, st⟩⟩⟩
  · exact False.elim ht
  · exact False.elim ht
  · exact False.elim ht
  · obtain ⟨hx, hy, hz, ht⟩ := ht
    intro p e R s m args below meth c H locs cells slots ls mc ms hC hH hS hl h1 h2 h3 h4
    exact lv_dup_x2 hC.1 hC.2.1 hd hx hy hz (hP _ ht p e R s m args below meth c H locs cells slots ls mc ms hC hH hS hl h1 h2 h3 h4)
def jt_dup2 : jx_tr := fun σ P => match σ with
  | (lv, x :: y :: st, μ, b) => jx_c1 x ∧ jx_c1 y ∧ P (lv, x :: y :: x :: y :: st, μ, b)
  | _ => False
theorem jt_dup2_e {x y : Value} {lv : List (Nat × Value)} {st : List Value} {μ : jx_M} {b : Nat × Nat} {P : jx_S → Prop} : jt_dup2 (lv, x :: y :: st, μ, b) P = (jx_c1 x ∧ jx_c1 y ∧ P (lv, x :: y :: x :: y :: st, μ, b)) := rfl
theorem js_dup2 {g : jx_G} {me : jx_me} {pc : Nat} (hd : decode (jx_cc me) pc = .ok (.dup2, 1)) : jx_So g me pc (pc + 1) (jt_dup2) := by
  intro K P σ hP ht
  obtain ⟨lv, st, μ, b⟩ := σ
  rcases st with _ | ⟨x, _ | ⟨y, st⟩⟩
  · exact False.elim ht
  · exact False.elim ht
  · obtain ⟨hx, hy, ht⟩ := ht
    intro p e R s m args below meth c H locs cells slots ls mc ms hC hH hS hl h1 h2 h3 h4
    exact lv_dup2_11 hC.1 hC.2.1 hd hx hy (hP _ ht p e R s m args below meth c H locs cells slots ls mc ms hC hH hS hl h1 h2 h3 h4)
def jt_iconst (v : Int32) : jx_tr := fun σ P => match σ with
  | (lv, st, μ, b) => P (lv, .int v :: st, μ, b)
theorem jt_iconst_e (v : Int32) {lv : List (Nat × Value)} {st : List Value} {μ : jx_M} {b : Nat × Nat} {P : jx_S → Prop} : jt_iconst v (lv, st, μ, b) P = (P (lv, .int v :: st, μ, b)) := rfl
theorem js_iconst {g : jx_G} {me : jx_me} {pc : Nat} {v : Int32} {n : Int} (hd : decode (jx_cc me) pc = .ok (.iconst n, 1)) (hv : Int32.ofInt n = v) : jx_So g me pc (pc + 1) (jt_iconst v) := by
  intro K P σ hP ht
  obtain ⟨lv, st, μ, b⟩ := σ
  skip
  intro p e R s m args below meth c H locs cells slots ls mc ms hC hH hS hl h1 h2 h3 h4
  exact lv_iconst hC.1 hC.2.1 hd hv (hP _ ht p e R s m args below meth c H locs cells slots ls mc ms hC hH hS hl h1 h2 h3 h4)
theorem js_bipush {g : jx_G} {me : jx_me} {pc : Nat} {v : Int32} {n : Int} (hd : decode (jx_cc me) pc = .ok (.bipush n, 2)) (hv : (Int8.ofInt n).toInt32 = v) : jx_So g me pc (pc + 2) (jt_iconst v) := by
  intro K P σ hP ht
  obtain ⟨lv, st, μ, b⟩ := σ
  skip
  intro p e R s m args below meth c H locs cells slots ls mc ms hC hH hS hl h1 h2 h3 h4
  exact lv_bipush hC.1 hC.2.1 hd hv (hP _ ht p e R s m args below meth c H locs cells slots ls mc ms hC hH hS hl h1 h2 h3 h4)
theorem js_sipush {g : jx_G} {me : jx_me} {pc : Nat} {v : Int32} {n : Int} (hd : decode (jx_cc me) pc = .ok (.sipush n, 3)) (hv : (Int16.ofInt n).toInt32 = v) : jx_So g me pc (pc + 3) (jt_iconst v) := by
  intro K P σ hP ht
  obtain ⟨lv, st, μ, b⟩ := σ
  skip
  intro p e R s m args below meth c H locs cells slots ls mc ms hC hH hS hl h1 h2 h3 h4
  exact lv_sipush hC.1 hC.2.1 hd hv (hP _ ht p e R s m args below meth c H locs cells slots ls mc ms hC hH hS hl h1 h2 h3 h4)
def jt_lconst (v : Int64) : jx_tr := fun σ P => match σ with
  | (lv, st, μ, b) => P (lv, .long v :: st, μ, b)
theorem jt_lconst_e (v : Int64) {lv : List (Nat × Value)} {st : List Value} {μ : jx_M} {b : Nat × Nat} {P : jx_S → Prop} : jt_lconst v (lv, st, μ, b) P = (P (lv, .long v :: st, μ, b)) := rfl
theorem js_lconst {g : jx_G} {me : jx_me} {pc : Nat} {v : Int64} {n : Fin 2} (hd : decode (jx_cc me) pc = .ok (.lconst n, 1)) (hv : Int64.ofNat (n : Nat) = v) : jx_So g me pc (pc + 1) (jt_lconst v) := by
  intro K P σ hP ht
  obtain ⟨lv, st, μ, b⟩ := σ
  skip
  intro p e R s m args below meth c H locs cells slots ls mc ms hC hH hS hl h1 h2 h3 h4
  exact lv_lconst hC.1 hC.2.1 hd hv (hP _ ht p e R s m args below meth c H locs cells slots ls mc ms hC hH hS hl h1 h2 h3 h4)
def jt_null : jx_tr := fun σ P => match σ with
  | (lv, st, μ, b) => P (lv, .null :: st, μ, b)
theorem jt_null_e {lv : List (Nat × Value)} {st : List Value} {μ : jx_M} {b : Nat × Nat} {P : jx_S → Prop} : jt_null (lv, st, μ, b) P = (P (lv, .null :: st, μ, b)) := rfl
theorem js_null {g : jx_G} {me : jx_me} {pc : Nat} (hd : decode (jx_cc me) pc = .ok (.aconst_null, 1)) : jx_So g me pc (pc + 1) (jt_null) := by
  intro K P σ hP ht
  obtain ⟨lv, st, μ, b⟩ := σ
  skip
  intro p e R s m args below meth c H locs cells slots ls mc ms hC hH hS hl h1 h2 h3 h4
  exact lv_null hC.1 hC.2.1 hd (hP _ ht p e R s m args below meth c H locs cells slots ls mc ms hC hH hS hl h1 h2 h3 h4)
def jt_iload (i : Nat) : jx_tr := fun σ P => match σ with
  | (lv, st, μ, b) => jx_lq lv i = some (.int (jx_iv (jx_lk lv i))) ∧ P (lv, .int (jx_iv (jx_lk lv i)) :: st, μ, b)
theorem jt_iload_e (i : Nat) {lv : List (Nat × Value)} {st : List Value} {μ : jx_M} {b : Nat × Nat} {P : jx_S → Prop} : jt_iload i (lv, st, μ, b) P = (jx_lq lv i = some (.int (jx_iv (jx_lk lv i))) ∧ P (lv, .int (jx_iv (jx_lk lv i)) :: st, μ, b)) := rfl
theorem js_iload_n {g : jx_G} {me : jx_me} {pc : Nat} {i : Nat} {k : Fin 4} (hd : decode (jx_cc me) pc = .ok (.iload_n k, 1)) (hi : (k : Nat) = i) : jx_So g me pc (pc + 1) (jt_iload i) := by
  intro K P σ hP ht
  obtain ⟨lv, st, μ, b⟩ := σ
  obtain ⟨hq, ht⟩ := ht
  intro p e R s m args below meth c H locs cells slots ls mc ms hC hH hS hl h1 h2 h3 h4
  exact lv_iload_n hC.1 hC.2.1 hd hi (hl.2.2 _ _ hq) (hP _ ht p e R s m args below meth c H locs cells slots ls mc ms hC hH hS hl h1 h2 h3 h4)
theorem js_iload {g : jx_G} {me : jx_me} {pc : Nat} {i : Nat} (hd : decode (jx_cc me) pc = .ok (.iload i, 2)) : jx_So g me pc (pc + 2) (jt_iload i) := by
  intro K P σ hP ht
  obtain ⟨lv, st, μ, b⟩ := σ
  obtain ⟨hq, ht⟩ := ht
  intro p e R s m args below meth c H locs cells slots ls mc ms hC hH hS hl h1 h2 h3 h4
  exact lv_iload hC.1 hC.2.1 hd (hl.2.2 _ _ hq) (hP _ ht p e R s m args below meth c H locs cells slots ls mc ms hC hH hS hl h1 h2 h3 h4)
def jt_lload (i : Nat) : jx_tr := fun σ P => match σ with
  | (lv, st, μ, b) => jx_lq lv i = some (.long (jx_lv (jx_lk lv i))) ∧ P (lv, .long (jx_lv (jx_lk lv i)) :: st, μ, b)
theorem jt_lload_e (i : Nat) {lv : List (Nat × Value)} {st : List Value} {μ : jx_M} {b : Nat × Nat} {P : jx_S → Prop} : jt_lload i (lv, st, μ, b) P = (jx_lq lv i = some (.long (jx_lv (jx_lk lv i))) ∧ P (lv, .long (jx_lv (jx_lk lv i)) :: st, μ, b)) := rfl
theorem js_lload_n {g : jx_G} {me : jx_me} {pc : Nat} {i : Nat} {k : Fin 4} (hd : decode (jx_cc me) pc = .ok (.lload_n k, 1)) (hi : (k : Nat) = i) : jx_So g me pc (pc + 1) (jt_lload i) := by
  intro K P σ hP ht
  obtain ⟨lv, st, μ, b⟩ := σ
  obtain ⟨hq, ht⟩ := ht
  intro p e R s m args below meth c H locs cells slots ls mc ms hC hH hS hl h1 h2 h3 h4
  exact lv_lload_n hC.1 hC.2.1 hd hi (hl.2.2 _ _ hq) (hP _ ht p e R s m args below meth c H locs cells slots ls mc ms hC hH hS hl h1 h2 h3 h4)
theorem js_lload {g : jx_G} {me : jx_me} {pc : Nat} {i : Nat} (hd : decode (jx_cc me) pc = .ok (.lload i, 2)) : jx_So g me pc (pc + 2) (jt_lload i) := by
  intro K P σ hP ht
  obtain ⟨lv, st, μ, b⟩ := σ
  obtain ⟨hq, ht⟩ := ht
  intro p e R s m args below meth c H locs cells slots ls mc ms hC hH hS hl h1 h2 h3 h4
  exact lv_lload hC.1 hC.2.1 hd (hl.2.2 _ _ hq) (hP _ ht p e R s m args below meth c H locs cells slots ls mc ms hC hH hS hl h1 h2 h3 h4)
def jt_aload (i : Nat) : jx_tr := fun σ P => match σ with
  | (lv, st, μ, b) => jx_lq lv i = some (jx_lk lv i) ∧ jx_a (jx_lk lv i) ∧ P (lv, jx_lk lv i :: st, μ, b)
theorem jt_aload_e (i : Nat) {lv : List (Nat × Value)} {st : List Value} {μ : jx_M} {b : Nat × Nat} {P : jx_S → Prop} : jt_aload i (lv, st, μ, b) P = (jx_lq lv i = some (jx_lk lv i) ∧ jx_a (jx_lk lv i) ∧ P (lv, jx_lk lv i :: st, μ, b)) := rfl
theorem js_aload_n {g : jx_G} {me : jx_me} {pc : Nat} {i : Nat} {k : Fin 4} (hd : decode (jx_cc me) pc = .ok (.aload_n k, 1)) (hi : (k : Nat) = i) : jx_So g me pc (pc + 1) (jt_aload i) := by
  intro K P σ hP ht
  obtain ⟨lv, st, μ, b⟩ := σ
  obtain ⟨hq, ha, ht⟩ := ht
  intro p e R s m args below meth c H locs cells slots ls mc ms hC hH hS hl h1 h2 h3 h4
  obtain ⟨v, hv, hq⟩ : ∃ v, jx_lk lv i = v ∧ jx_lq lv i = some v := ⟨_, rfl, hq⟩
  rw [hv] at ha ht
  rcases ha with rfl | ⟨a, rfl⟩
  · exact lv_aload_nN hC.1 hC.2.1 hd hi (hl.2.2 _ _ hq) (hP _ ht p e R s m args below meth c H locs cells slots ls mc ms hC hH hS hl h1 h2 h3 h4)
  · exact lv_aload_n hC.1 hC.2.1 hd hi (hl.2.2 _ _ hq) (hP _ ht p e R s m args below meth c H locs cells slots ls mc ms hC hH hS hl h1 h2 h3 h4)
theorem js_aload {g : jx_G} {me : jx_me} {pc : Nat} {i : Nat} (hd : decode (jx_cc me) pc = .ok (.aload i, 2)) : jx_So g me pc (pc + 2) (jt_aload i) := by
  intro K P σ hP ht
  obtain ⟨lv, st, μ, b⟩ := σ
  obtain ⟨hq, ha, ht⟩ := ht
  intro p e R s m args below meth c H locs cells slots ls mc ms hC hH hS hl h1 h2 h3 h4
  obtain ⟨v, hv, hq⟩ : ∃ v, jx_lk lv i = v ∧ jx_lq lv i = some v := ⟨_, rfl, hq⟩
  rw [hv] at ha ht
  rcases ha with rfl | ⟨a, rfl⟩
  · exact lv_aloadN hC.1 hC.2.1 hd (hl.2.2 _ _ hq) (hP _ ht p e R s m args below meth c H locs cells slots ls mc ms hC hH hS hl h1 h2 h3 h4)
  · exact lv_aload hC.1 hC.2.1 hd (hl.2.2 _ _ hq) (hP _ ht p e R s m args below meth c H locs cells slots ls mc ms hC hH hS hl h1 h2 h3 h4)
def jt_istore (i : Nat) : jx_tr := fun σ P => match σ with
  | (lv, x :: st, μ, b) => jx_i x ∧ jx_nc lv i ∧ P ((i, .int (jx_iv x)) :: lv, st, μ, b)
  | _ => False
theorem jt_istore_e (i : Nat) {x : Value} {lv : List (Nat × Value)} {st : List Value} {μ : jx_M} {b : Nat × Nat} {P : jx_S → Prop} : jt_istore i (lv, x :: st, μ, b) P = (jx_i x ∧ jx_nc lv i ∧ P ((i, .int (jx_iv x)) :: lv, st, μ, b)) := rfl
theorem js_istore_n {g : jx_G} {me : jx_me} {pc : Nat} {i : Nat} {k : Fin 4} (hd : decode (jx_cc me) pc = .ok (.istore_n k, 1)) (hi : (k : Nat) = i) (hn : i < jx_ml me) : jx_So g me pc (pc + 1) (jt_istore i) := by
  intro K P σ hP ht
  obtain ⟨lv, st, μ, b⟩ := σ
  rcases st with _ | ⟨x, st⟩
  · exact False.elim ht
  · obtain ⟨⟨x, rfl⟩, hnc, ht⟩ := ht
    intro p e R s m args below meth c H locs cells slots ls mc ms hC hH hS hl h1 h2 h3 h4
    exact lv_istore_n hC.1 hC.2.1 hd hi (jx_all_has hl) hn rfl (fun ls' hl' => hP _ ht p e R s m args below meth c H locs cells slots ls' mc ms hC hH hS (jx_L_store hl hnc hl') h1 h2 h3 h4)
theorem js_istore {g : jx_G} {me : jx_me} {pc : Nat} {i : Nat} (hd : decode (jx_cc me) pc = .ok (.istore i, 2)) (hn : i < jx_ml me) : jx_So g me pc (pc + 2) (jt_istore i) := by
  intro K P σ hP ht
  obtain ⟨lv, st, μ, b⟩ := σ
  rcases st with _ | ⟨x, st⟩
  · exact False.elim ht
  · obtain ⟨⟨x, rfl⟩, hnc, ht⟩ := ht
    intro p e R s m args below meth c H locs cells slots ls mc ms hC hH hS hl h1 h2 h3 h4
    exact lv_istore hC.1 hC.2.1 hd (jx_all_has hl) hn rfl (fun ls' hl' => hP _ ht p e R s m args below meth c H locs cells slots ls' mc ms hC hH hS (jx_L_store hl hnc hl') h1 h2 h3 h4)
def jt_astore (i : Nat) : jx_tr := fun σ P => match σ with
  | (lv, x :: st, μ, b) => jx_a x ∧ jx_nc lv i ∧ P ((i, x) :: lv, st, μ, b)
  | _ => False
theorem jt_astore_e (i : Nat) {x : Value} {lv : List (Nat × Value)} {st : List Value} {μ : jx_M} {b : Nat × Nat} {P : jx_S → Prop} : jt_astore i (lv, x :: st, μ, b) P = (jx_a x ∧ jx_nc lv i ∧ P ((i, x) :: lv, st, μ, b)) := rfl
theorem js_astore_n {g : jx_G} {me : jx_me} {pc : Nat} {i : Nat} {k : Fin 4} (hd : decode (jx_cc me) pc = .ok (.astore_n k, 1)) (hi : (k : Nat) = i) (hn : i < jx_ml me) : jx_So g me pc (pc + 1) (jt_astore i) := by
  intro K P σ hP ht
  obtain ⟨lv, st, μ, b⟩ := σ
  rcases st with _ | ⟨x, st⟩
  · exact False.elim ht
  · obtain ⟨ha, hnc, ht⟩ := ht
    intro p e R s m args below meth c H locs cells slots ls mc ms hC hH hS hl h1 h2 h3 h4
    rcases ha with rfl | ⟨a, rfl⟩
    · exact lv_astore_nN hC.1 hC.2.1 hd hi (jx_all_has hl) hn rfl (fun ls' hl' => hP _ ht p e R s m args below meth c H locs cells slots ls' mc ms hC hH hS (jx_L_store hl hnc hl') h1 h2 h3 h4)
    · exact lv_astore_n hC.1 hC.2.1 hd hi (jx_all_has hl) hn rfl (fun ls' hl' => hP _ ht p e R s m args below meth c H locs cells slots ls' mc ms hC hH hS (jx_L_store hl hnc hl') h1 h2 h3 h4)
theorem js_astore {g : jx_G} {me : jx_me} {pc : Nat} {i : Nat} (hd : decode (jx_cc me) pc = .ok (.astore i, 2)) (hn : i < jx_ml me) : jx_So g me pc (pc + 2) (jt_astore i) := by
  intro K P σ hP ht
  obtain ⟨lv, st, μ, b⟩ := σ
  rcases st with _ | ⟨x, st⟩
  · exact False.elim ht
  · obtain ⟨ha, hnc, ht⟩ := ht
    intro p e R s m args below meth c H locs cells slots ls mc ms hC hH hS hl h1 h2 h3 h4
    rcases ha with rfl | ⟨a, rfl⟩
    · exact lv_astoreN hC.1 hC.2.1 hd (jx_all_has hl) hn rfl (fun ls' hl' => hP _ ht p e R s m args below meth c H locs cells slots ls' mc ms hC hH hS (jx_L_store hl hnc hl') h1 h2 h3 h4)
    · exact lv_astore hC.1 hC.2.1 hd (jx_all_has hl) hn rfl (fun ls' hl' => hP _ ht p e R s m args below meth c H locs cells slots ls' mc ms hC hH hS (jx_L_store hl hnc hl') h1 h2 h3 h4)
def jt_lstore (i : Nat) : jx_tr := fun σ P => match σ with
  | (lv, x :: st, μ, b) => jx_l x ∧ jx_nc lv i ∧ jx_lq lv (i + 1) = none ∧ P ((i, .long (jx_lv x)) :: lv, st, μ, b)
  | _ => False
theorem jt_lstore_e (i : Nat) {x : Value} {lv : List (Nat × Value)} {st : List Value} {μ : jx_M} {b : Nat × Nat} {P : jx_S → Prop} : jt_lstore i (lv, x :: st, μ, b) P = (jx_l x ∧ jx_nc lv i ∧ jx_lq lv (i + 1) = none ∧ P ((i, .long (jx_lv x)) :: lv, st, μ, b)) := rfl
theorem js_lstore_n {g : jx_G} {me : jx_me} {pc : Nat} {i : Nat} {k : Fin 4} (hd : decode (jx_cc me) pc = .ok (.lstore_n k, 1)) (hi : (k : Nat) = i) (hn : i + 1 < jx_ml me) : jx_So g me pc (pc + 1) (jt_lstore i) := by
  intro K P σ hP ht
  obtain ⟨lv, st, μ, b⟩ := σ
  rcases st with _ | ⟨x, st⟩
  · exact False.elim ht
  · obtain ⟨⟨x, rfl⟩, hnc, hn2, ht⟩ := ht
    intro p e R s m args below meth c H locs cells slots ls mc ms hC hH hS hl h1 h2 h3 h4
    exact lv_lstore_n hC.1 hC.2.1 hd hi (jx_all_has hl) hn rfl (fun ls' hl' => hP _ ht p e R s m args below meth c H locs cells slots ls' mc ms hC hH hS (jx_L_lstore hl hnc hn2 hl') h1 h2 h3 h4)
theorem js_lstore {g : jx_G} {me : jx_me} {pc : Nat} {i : Nat} (hd : decode (jx_cc me) pc = .ok (.lstore i, 2)) (hn : i + 1 < jx_ml me) : jx_So g me pc (pc + 2) (jt_lstore i) := by
  intro K P σ hP ht
  obtain ⟨lv, st, μ, b⟩ := σ
  rcases st with _ | ⟨x, st⟩
  · exact False.elim ht
  · obtain ⟨⟨x, rfl⟩, hnc, hn2, ht⟩ := ht
    intro p e R s m args below meth c H locs cells slots ls mc ms hC hH hS hl h1 h2 h3 h4
    exact lv_lstore hC.1 hC.2.1 hd (jx_all_has hl) hn rfl (fun ls' hl' => hP _ ht p e R s m args below meth c H locs cells slots ls' mc ms hC hH hS (jx_L_lstore hl hnc hn2 hl') h1 h2 h3 h4)
def jt_iinc (i : Nat) (v : Int32) : jx_tr := fun σ P => match σ with
  | (lv, st, μ, b) => jx_lq lv i = some (.int (jx_iv (jx_lk lv i))) ∧ jx_nc lv i ∧ P ((i, .int (jx_iv (jx_lk lv i) + v)) :: lv, st, μ, b)
theorem jt_iinc_e (i : Nat) (v : Int32) {lv : List (Nat × Value)} {st : List Value} {μ : jx_M} {b : Nat × Nat} {P : jx_S → Prop} : jt_iinc i v (lv, st, μ, b) P = (jx_lq lv i = some (.int (jx_iv (jx_lk lv i))) ∧ jx_nc lv i ∧ P ((i, .int (jx_iv (jx_lk lv i) + v)) :: lv, st, μ, b)) := rfl
theorem js_iinc {g : jx_G} {me : jx_me} {pc : Nat} {i : Nat} {v : Int32} {n : Int} (hd : decode (jx_cc me) pc = .ok (.iinc i n, 3)) (hv : Int32.ofInt n = v) (hn : i < jx_ml me) : jx_So g me pc (pc + 3) (jt_iinc i v) := by
  intro K P σ hP ht
  obtain ⟨lv, st, μ, b⟩ := σ
  obtain ⟨hq, hnc, ht⟩ := ht
  intro p e R s m args below meth c H locs cells slots ls mc ms hC hH hS hl h1 h2 h3 h4
  obtain ⟨k, hk⟩ := List.getElem?_of_mem (jx_all_mem hl hq)
  subst hv
  exact lv_iinc hC.1 hC.2.1 hd (jx_all_has hl) hk rfl hn rfl (fun ls' hl' => hP _ ht p e R s m args below meth c H locs cells slots ls' mc ms hC hH hS (jx_L_store hl hnc hl') h1 h2 h3 h4)
