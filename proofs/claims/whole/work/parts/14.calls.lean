/-! Contracts and calls. -/
abbrev jx_yk : Type := MethodName × ByteArray × Nat × Option FieldType × (Nat × Nat) × (Nat × Nat)
abbrev jx_yn (k : jx_yk) : MethodName := k.1
abbrev jx_yc (k : jx_yk) : ByteArray := k.2.1
abbrev jx_yl (k : jx_yk) : Nat := k.2.2.1
abbrev jx_yr (k : jx_yk) : Option FieldType := k.2.2.2.1
abbrev jx_yh (k : jx_yk) : Nat × Nat := k.2.2.2.2.1
abbrev jx_yb (k : jx_yk) : Nat × Nat := k.2.2.2.2.2
def jx_rm (k : jx_yk) : Room := { frames := (jx_yh k).1, cells := (jx_yb k).1, slots := (jx_yb k).2, locals := (jx_yh k).2 }
def jx_wy (k : jx_yk) : List Cond := .code (jx_yn k) (jx_yc k) (jx_yl k) (jx_yr k) :: jx_ws
def jx_mk (k : jx_yk) (ini : Bool) : jx_me := ((jx_yn k).cls, jx_yc k, jx_yl k, jx_yr k, jx_yh k, ini, [])
def jx_Pc (g : jx_G) (as : List Value) (μ : jx_M) : Array Value → State → Prop := fun a U => a = as.toArray ∧ jx_Ga g U U.heap ∧ jx_H g U U.heap μ
def jx_Ct (g : jx_G) (k : jx_yk) (as : List Value) (μ : jx_M) (K : jx_Kt) : Prop := vx_Met g.1 (jx_yn k) (jx_wy k) (jx_rm k) (jx_Pc g as μ) (jx_Qc g K) (jx_Xc g K) (jx_yb k).1 (jx_yb k).2 (fun q => g.2.2.1 ≤ q)
abbrev jx_F : Type := List Value → jx_M → jx_Kt → Prop
/-- a contract holds -/
def jx_Vd (g : jx_G) (k : jx_yk) (F : jx_F) : Prop := ∀ (as : List Value) (μ : jx_M) (K : jx_Kt), F as μ K → jx_Ct g k as μ K
theorem jx_lq_mem {lv : List (Nat × Value)} {i : Nat} {v : Value} (h : jx_lq lv i = some v) : (i, v) ∈ lv := by
  induction lv with
  | nil => cases h
  | cons q r ih =>
    obtain ⟨j, w⟩ := q
    rw [jx_lq_e] at h
    by_cases e : j = i
    · rw [if_pos e] at h
      cases h
      subst e
      exact List.mem_cons_self
    · rw [if_neg e] at h
      exact List.mem_cons_of_mem _ (ih h)
theorem jx_enter {g : jx_G} {k : jx_yk} {ini : Bool} {as : List Value} {μ : jx_M} {K : jx_Kt} {lv : List (Nat × Value)} (hpl : plainName (jx_yn k).cls = true) (hini : ini = true → (jx_yn k).name = "<init>") (hlen : (lg_sl as).length ≤ jx_yl k) (hlv : lv_args 0 as = lv) (h : jx_J g (jx_mk k ini) 0 (lv, [], μ, jx_yb k) K) : jx_Ct g k as μ K := by
  subst hlv
  refine vx_ofW (cc := jx_yc k) (maxL := jx_yl k) (ret := jx_yr k) (ws' := jx_ws) hpl rfl ?_
  intro p e s m args below meth c s₁ B hml htab hPc
  obtain ⟨rfl, hGa, hH⟩ := hPc
  have hl := lv_entry as (n := jx_yl k) hlen
  have hts := atoms_spec (ws := jx_wy k) B.pre
  rw [lg_entry_eq]
  refine h p e _ s m _ below meth c s.heap [] 0 0 _ _ _ ⟨B.exec, B.bytes, hml, findClass_of_methodNamed B.named, B.returns, B.notSynchronized, fun q => (name_of_methodNamed B.named B.method).1.trans (hini q), List.eq_nil_iff_forall_not_mem.mpr (fun x hx => htab x hx), fun w hw => hts w (List.mem_cons_of_mem _ hw), hGa, hH.1, Nat.le_refl _, Nat.le_refl _⟩ hH va_S.rf ⟨hl.1, hl.2.1, fun i v q => hl.2.2 _ (jx_lq_mem q)⟩ ?_ ?_ (Nat.le_refl _) (Nat.le_refl _)
  · show 0 + (jx_yb k).1 ≤ (jx_yb k).1
    omega
  · show 0 + (jx_yb k).2 ≤ (jx_yb k).2
    omega
theorem jx_met {l : Launch} {y : MethodName} {ws : List Cond} {rm : Room} {Pc : Array Value → State → Prop} {Qc : Array Value → State → Outcome → State → Prop} {XC : String → State → State → Prop} {mc ms : Nat} {free : Addr → Prop} (h : vx_Met l y ws rm Pc Qc XC mc ms free) (hx : ∀ E st t, ¬ XC E st t) : Met l y ws rm Pc Qc mc ms free := by
  intro p e ha hc hk s m args below hf happ hP hK
  obtain ⟨n, o, h1, h2, h3, h4⟩ := h p e ha hc hk s m args below hf happ hP hK
  refine ⟨n, o, h1, h2, h3, ?_⟩
  rcases h4 with h4 | ⟨q, -, E, ce, L, hxc, -⟩
  · exact h4
  · exact absurd hxc (hx _ _ _)
def jx_Kc (P : jx_S → Prop) (lv : List (Nat × Value)) (rest : List Value) (b : Nat × Nat) (mc ms : Nat) : jx_Kt := fun o μ => match o with
  | .inl v => P (lv, v.toList ++ rest, μ, b.1 - mc, b.2 - ms)
  | .inr _ => False
theorem jx_Kc_e {P : jx_S → Prop} {lv : List (Nat × Value)} {rest : List Value} {b : Nat × Nat} {mc ms : Nat} {v : Option Value} {μ : jx_M} : jx_Kc P lv rest b mc ms (.inl v) μ = P (lv, v.toList ++ rest, μ, b.1 - mc, b.2 - ms) := rfl
theorem jx_Kc_i {P : jx_S → Prop} {lv : List (Nat × Value)} {rest : List Value} {b : Nat × Nat} {mc ms : Nat} {v : Value} {μ : jx_M} : jx_Kc P lv rest b mc ms (.inl (some v)) μ = P (lv, v :: rest, μ, b.1 - mc, b.2 - ms) := rfl
theorem jx_Kc_v {P : jx_S → Prop} {lv : List (Nat × Value)} {rest : List Value} {b : Nat × Nat} {mc ms : Nat} {μ : jx_M} : jx_Kc P lv rest b mc ms (.inl none) μ = P (lv, rest, μ, b.1 - mc, b.2 - ms) := rfl
def jx_sm (st : List Value) : Prop := (st.map fun v => v.category).sum ≤ 8
def jx_tk : Nat → List Value → List Value → Option (List Value × List Value)
  | 0, st, acc => some (acc, st)
  | n + 1, x :: st, acc => jx_tk n st (x :: acc)
  | _ + 1, [], _ => none
theorem jx_tk_s : ∀ (n : Nat) (st acc as rest : List Value), jx_tk n st acc = some (as, rest) → ∃ bs : List Value, as = bs ++ acc ∧ st = bs.reverse ++ rest ∧ bs.length = n
  | 0, st, acc, as, rest, h => by
    cases h
    exact ⟨[], rfl, rfl, rfl⟩
  | n + 1, x :: st, acc, as, rest, h => by
    obtain ⟨bs, e1, e2, e3⟩ := jx_tk_s n st (x :: acc) as rest h
    exact ⟨bs ++ [x], by rw [e1]; simp, by rw [e2]; simp, by simp [e3]⟩
  | n + 1, [], acc, as, rest, h => by cases h
/-- a call of n arguments (the receiver among them), by the contract F -/
def jt_call (n : Nat) (mc ms : Nat) (F : jx_F) : jx_tr := fun σ P => match σ with
  | (lv, st, μ, b) => match jx_tk n st [] with
    | some (as, rest) => mc ≤ b.1 ∧ ms ≤ b.2 ∧ jx_sm rest ∧ F as μ (jx_Kc P lv rest b mc ms)
    | none => False
section CE
variable {mc ms : Nat} {F : jx_F} {x1 x2 x3 x4 x5 x6 : Value} {lv : List (Nat × Value)} {st : List Value} {μ : jx_M} {b : Nat × Nat} {P : jx_S → Prop}
theorem jt_call_0 : jt_call 0 mc ms F (lv, st, μ, b) P = (mc ≤ b.1 ∧ ms ≤ b.2 ∧ jx_sm st ∧ F [] μ (jx_Kc P lv st b mc ms)) := rfl
theorem jt_call_1 : jt_call 1 mc ms F (lv, x1 :: st, μ, b) P = (mc ≤ b.1 ∧ ms ≤ b.2 ∧ jx_sm st ∧ F [x1] μ (jx_Kc P lv st b mc ms)) := rfl
theorem jt_call_2 : jt_call 2 mc ms F (lv, x2 :: x1 :: st, μ, b) P = (mc ≤ b.1 ∧ ms ≤ b.2 ∧ jx_sm st ∧ F [x1, x2] μ (jx_Kc P lv st b mc ms)) := rfl
theorem jt_call_3 : jt_call 3 mc ms F (lv, x3 :: x2 :: x1 :: st, μ, b) P = (mc ≤ b.1 ∧ ms ≤ b.2 ∧ jx_sm st ∧ F [x1, x2, x3] μ (jx_Kc P lv st b mc ms)) := rfl
theorem jt_call_4 : jt_call 4 mc ms F (lv, x4 :: x3 :: x2 :: x1 :: st, μ, b) P = (mc ≤ b.1 ∧ ms ≤ b.2 ∧ jx_sm st ∧ F [x1, x2, x3, x4] μ (jx_Kc P lv st b mc ms)) := rfl
theorem jt_call_5 : jt_call 5 mc ms F (lv, x5 :: x4 :: x3 :: x2 :: x1 :: st, μ, b) P = (mc ≤ b.1 ∧ ms ≤ b.2 ∧ jx_sm st ∧ F [x1, x2, x3, x4, x5] μ (jx_Kc P lv st b mc ms)) := rfl
end CE
theorem jx_Pc_blind {g : jx_G} {as : List Value} {μ : jx_M} : FrameBlind (jx_Pc g as μ) := by
  intro a U f mk h
  obtain ⟨h1, h2, h3⟩ := h
  exact ⟨h1, jx_Ga_warm (s := U) (U := U.calling f mk a) (State.WarmedH.refl U) (fun _ _ _ => rfl) h2, jx_H_moved (u := U) (U := U.calling f mk a) (Vm.Alike.refl U.vm) h3⟩
theorem jx_Pc_at {g : jx_G} {as : List Value} {μ : jx_M} {s : State} {H : Heap} {locs : List Loc} (hGa : jx_Ga g s s.heap) (hH : jx_H g s H μ) (hS : va_S (fun q => g.2.2.1 ≤ q) s.heap H locs) (U : State) (hU : U.heap = H) (hW : s.WarmedH U.vm) : jx_Pc g as μ as.toArray U := by
  refine ⟨rfl, ?_, ?_⟩
  · rw [hU]; exact jx_Ga_warm hW hS.2.1 hGa
  · rw [hU]; exact jx_H_moved hW.alike hH
theorem jx_call_go {g : jx_G} {me : jx_me} {pc : Nat} {lv : List (Nat × Value)} {st rest as : List Value} {μ : jx_M} {b : Nat × Nat} {K : jx_Kt} {P : jx_S → Prop} {mc0 ms0 : Nat} (hP : ∀ σ' : jx_S, P σ' → jx_J g me (pc + 3) σ' K) (hb1 : mc0 ≤ b.1) (hb2 : ms0 ≤ b.2)
    (hrun : ∀ (p : Program) (e : Env) (R : Room) (s : State) (m : MethodId) (args : Array Value) (below : List Frame) (meth : Method) (c : Code) (H : Heap) (locs : List Loc) (cells slots : Nat) (ls : Array Slot), jx_C g me p R s m args meth c → jx_H g s H μ → va_S (fun q => g.2.2.1 ≤ q) s.heap H locs → ls.size = jx_ml me → cells + mc0 ≤ R.cells → slots + ms0 ≤ R.slots →
      va_Run p g.1 e R s m args below meth c H locs cells slots mc0 ms0 (F0 m pc ls st) rest (jx_Qc g (jx_Kc P lv rest b mc0 ms0) as.toArray) (fun q => g.2.2.1 ≤ q)) : jx_J g me pc (lv, st, μ, b) K := by
  intro p e R s m args below meth c H locs cells slots ls mc ms hC hH hS hl h1 h2 h3 h4
  dsimp only at h1 h2
  intro T hT X
  obtain ⟨v, st₀, t, T', L, h0, X', hL, e1, e2, ⟨v9, μ', hv, hK, hH', hF⟩, hgo⟩ := hrun p e R s m args below meth c H locs cells slots ls hC hH hS hl.1 (by omega) (by omega) T hT X
  cases hv
  have hvm : s.vm.Alike T'.vm := X'.warmed.alike
  obtain ⟨k1, k2, k3⟩ := vx_keep (A1 := fun q => g.2.2.1 ≤ q) h0 e1 hS (fun q _ h => h) (fun q h => h) hL hF
  have hH9 : jx_H g s T'.heap μ' := by rw [e1]; exact jx_H_moved (by rw [← e2]; exact hvm.symm) hH'
  obtain ⟨t2, a1, b1⟩ := hP _ hK p e R s m args below meth c T'.heap (locs ++ L) (cells + mc0) (slots + ms0) ls mc ms hC hH9 k3 hl (by dsimp only; omega) (by dsimp only; omega) h3 h4 T' rfl X'
  exact ⟨t2, hgo t2 a1, b1⟩
theorem jx_Ct_met {g : jx_G} {k : jx_yk} {as : List Value} {μ : jx_M} {P : jx_S → Prop} {lv : List (Nat × Value)} {rest : List Value} {b : Nat × Nat} {mc ms : Nat} (h : jx_Ct g k as μ (jx_Kc P lv rest b mc ms)) : Met g.1 (jx_yn k) (jx_wy k) (jx_rm k) (jx_Pc g as μ) (jx_Qc g (jx_Kc P lv rest b mc ms)) (jx_yb k).1 (jx_yb k).2 (fun q => g.2.2.1 ≤ q) :=
  jx_met h (fun E st t hx => by
    obtain ⟨μ', hK, -⟩ := hx
    exact hK)
/-- what a call of k asks of its place: room, and the shape of its name -/
def jx_cq (me : jx_me) (k : jx_yk) (n : Nat) : Prop := ((jx_yn k).cls ≠ "java/lang/invoke/MethodHandle" ∧ (jx_yn k).cls ≠ "java/lang/invoke/VarHandle" ∧ (parseMethodDescriptor (jx_yn k).desc).map (fun d => d.parameters.length) = some n) ∧ ((jx_yh k).1 + 1 ≤ (jx_ht me).1 ∧ 8 + (jx_yl k + 11) + (jx_yh k).2 ≤ (jx_ht me).2)
theorem jx_room {me : jx_me} {k : jx_yk} {R : Room} (h1 : (jx_yh k).1 + 1 ≤ (jx_ht me).1) (h2 : 8 + (jx_yl k + 11) + (jx_yh k).2 ≤ (jx_ht me).2) (h3 : (jx_ht me).1 ≤ R.frames) (h4 : (jx_ht me).2 ≤ R.locals) : (jx_rm k).frames + 1 ≤ R.frames ∧ 8 + (jx_yl k + 11) + (jx_rm k).locals ≤ R.locals :=
  ⟨Nat.le_trans h1 h3, Nat.le_trans h2 h4⟩
theorem jx_wy_GI {k : jx_yk} {hd : List Cond} (h : ∀ w ∈ hd, w ∈ jx_ws) (hc : Cond.code (jx_yn k) (jx_yc k) (jx_yl k) (jx_yr k) ∈ jx_ws) : GoodIn jx_ws (hd ++ jx_wy k) := jx_GI (fun w hw => by
  rcases List.mem_append.mp hw with h9 | h9
  · exact h w h9
  · rcases List.mem_cons.mp h9 with e | h8
    · rw [e]; exact hc
    · exact h8)
/-- a static method of ours -/
theorem js_callS {g : jx_G} {me : jx_me} {pc n idx : Nat} {k : jx_yk} {F : jx_F} (hd : decode (jx_cc me) pc = .ok (.invokestatic idx, 3)) (hF : jx_Vd g k F) (hq : jx_cq me k n) (hc : Cond.code (jx_yn k) (jx_yc k) (jx_yl k) (jx_yr k) ∈ jx_ws) (hw1 : Cond.methodLink (jx_ow me) idx (jx_yn k) ∈ jx_ws) (hw2 : Cond.static (jx_yn k) ∈ jx_ws) (hw3 : Cond.initialized (jx_yn k).cls ∈ jx_ws) : jx_So g me pc (pc + 3) (jt_call n (jx_yb k).1 (jx_yb k).2 F) := by
  intro K P σ hP ht
  obtain ⟨lv, st, μ, b⟩ := σ
  unfold jt_call at ht
  dsimp only at ht
  split at ht
  · rename_i as rest htk
    obtain ⟨hb1, hb2, hsm, ht⟩ := ht
    obtain ⟨bs, e1, e2, e3⟩ := jx_tk_s n st [] as rest htk
    rw [List.append_nil] at e1
    subst e1
    refine jx_call_go (rest := rest) (as := as) hP hb1 hb2 ?_
    intro p e R s m args below meth c H locs cells slots ls hC hH hS hls h3 h4
    obtain ⟨hx, hb, hml, hown, -, -, -, -, hts, hGa, -, hR1, hR2⟩ := hC
    exact va_runS (Ts := jx_ws) (bytes := jx_yc k) (maxL := jx_yl k) (ret := jx_yr k) ⟨hx, hb, hml, hown, hts⟩ (jx_Ct_met (hF _ _ _ ht)) (va_cwS n hts (jx_wy_GI (k := k) (hd := [.methodLink (jx_ow me) idx (jx_yn k), .static (jx_yn k), .initialized (jx_yn k).cls]) (by simp [hw1, hw2, hw3]) hc) rfl rfl rfl hq.1 (jx_room hq.2.1 hq.2.2 hR1 hR2)) ⟨jx_Pc_blind, jx_Pc_at hGa hH hS⟩ rfl e3 hls e2 (lv_room hsm) hd ⟨h3, h4⟩
  · exact False.elim ht
/-- the receiver's cell -/
theorem jx_recv {g : jx_G} {s : State} {H : Heap} {μ : jx_M} {a ci : Nat} {C : String} {T : u_T} {N : Nat} (hGa : jx_Ga g s s.heap) (hH : jx_H g s H μ) (hk : jx_kn μ a = some (.inl ci)) (hc : jx_cl[ci]? = some (C, T, N)) : ∃ cell : Cell, H[a]? = some cell ∧ cell.vm.isStatics = false ∧ s.vm.findClass C = some cell.cls := by
  obtain ⟨-, r, hr, cell, q1, q2, q3, -⟩ := hH.2.2 _ _ hk
  have er : r = (C, T, N) := Option.some.inj (hr.symm.trans hc)
  subst er
  exact ⟨cell, q1, by rw [q3]; rfl, by rw [q2]; exact ((jx_Ga_K hGa).1 ci _ hc).2.1⟩
/-- the call of a method on an object of its own class (public, or private and called inside): the contract speaks of an object of class ci -/
theorem js_callV {g : jx_G} {me : jx_me} {pc n idx ci N : Nat} {T : u_T} {k : jx_yk} {F : jx_F} (hd : decode (jx_cc me) pc = .ok (.invokevirtual idx, 3)) (hF : jx_Vd g k F) (hrc : ∀ as μ K, F as μ K → ∃ a tl, as = .ref a :: tl ∧ jx_kn μ a = some (.inl ci)) (hcl : jx_cl[ci]? = some ((jx_yn k).cls, T, N)) (hq : jx_cq me k n) (hc : Cond.code (jx_yn k) (jx_yc k) (jx_yl k) (jx_yr k) ∈ jx_ws) (hw1 : Cond.methodLink (jx_ow me) idx (jx_yn k) ∈ jx_ws) (hw2 : Cond.instanceMethod (jx_yn k) ∈ jx_ws) (hw3 : Cond.selects (jx_yn k).cls (jx_yn k) (jx_yn k) ∈ jx_ws) (hw4 : Cond.initialized (jx_yn k).cls ∈ jx_ws) : jx_So g me pc (pc + 3) (jt_call (n + 1) (jx_yb k).1 (jx_yb k).2 F) := by
  intro K P σ hP ht
  obtain ⟨lv, st, μ, b⟩ := σ
  unfold jt_call at ht
  dsimp only at ht
  split at ht
  · rename_i as rest htk
    obtain ⟨hb1, hb2, hsm, ht⟩ := ht
    obtain ⟨bs, e1, e2, e3⟩ := jx_tk_s (n + 1) st [] as rest htk
    rw [List.append_nil] at e1
    subst e1
    obtain ⟨a, tl, ea, hka⟩ := hrc _ _ _ ht
    subst ea
    refine jx_call_go (rest := rest) (as := .ref a :: tl) hP hb1 hb2 ?_
    intro p e R s m args below meth c H locs cells slots ls hC hH hS hls h3 h4
    obtain ⟨hx, hb, hml, hown, -, -, -, -, hts, hGa, -, hR1, hR2⟩ := hC
    exact va_runV (C := (jx_yn k).cls) (Ts := jx_ws) (bytes := jx_yc k) (maxL := jx_yl k) (ret := jx_yr k) (As := tl) (b := a) ⟨hx, hb, hml, hown, hts⟩ (jx_Ct_met (hF _ _ _ ht)) (cwV n hts (jx_wy_GI (k := k) (hd := [.methodLink (jx_ow me) idx (jx_yn k), .instanceMethod (jx_yn k), .selects (jx_yn k).cls (jx_yn k) (jx_yn k), .initialized (jx_yn k).cls]) (by simp [hw1, hw2, hw3, hw4]) hc) rfl rfl rfl ⟨rfl, hq.1⟩ (jx_room hq.2.1 hq.2.2 hR1 hR2)) ⟨jx_Pc_blind, jx_recv hGa hH hka hcl, jx_Pc_at hGa hH hS⟩ rfl (by simpa using e3) hls (by simpa using e2) (lv_room hsm) hd ⟨h3, h4⟩
  · exact False.elim ht
/-- a constructor -/
theorem js_callI {g : jx_G} {me : jx_me} {pc n idx : Nat} {k : jx_yk} {F : jx_F} (hd : decode (jx_cc me) pc = .ok (.invokespecial idx, 3)) (hF : jx_Vd g k F) (hrc : ∀ as μ K, F as μ K → ∃ a tl, as = .ref a :: tl) (hret : jx_yr k = none) (hnm : (jx_yn k).name = "<init>") (hq : jx_cq me k n) (hc : Cond.code (jx_yn k) (jx_yc k) (jx_yl k) (jx_yr k) ∈ jx_ws) (hw1 : Cond.methodLink (jx_ow me) idx (jx_yn k) ∈ jx_ws) (hw2 : Cond.instanceMethod (jx_yn k) ∈ jx_ws) (hw4 : Cond.initialized (jx_yn k).cls ∈ jx_ws) : jx_So g me pc (pc + 3) (jt_call (n + 1) (jx_yb k).1 (jx_yb k).2 F) := by
  intro K P σ hP ht
  obtain ⟨lv, st, μ, b⟩ := σ
  unfold jt_call at ht
  dsimp only at ht
  split at ht
  · rename_i as rest htk
    obtain ⟨hb1, hb2, hsm, ht⟩ := ht
    obtain ⟨bs, e1, e2, e3⟩ := jx_tk_s (n + 1) st [] as rest htk
    rw [List.append_nil] at e1
    subst e1
    obtain ⟨a, tl, ea⟩ := hrc _ _ _ ht
    subst ea
    refine jx_call_go (rest := rest) (as := .ref a :: tl) hP hb1 hb2 ?_
    intro p e R s m args below meth c H locs cells slots ls hC hH hS hls h3 h4
    obtain ⟨hx, hb, hml, hown, -, -, -, -, hts, hGa, -, hR1, hR2⟩ := hC
    have hwy : jx_wy k = Cond.code (jx_yn k) (jx_yc k) (jx_yl k) none :: jx_ws := by unfold jx_wy; rw [hret]
    exact va_runI (Ts := jx_ws) (bytes := jx_yc k) (maxL := jx_yl k) (As := tl) (b := a) ⟨hx, hb, hml, hown, hts⟩ (jx_Ct_met (hF _ _ _ ht)) (cwI n hts (jx_wy_GI (k := k) (hd := []) (by simp) hc) hwy rfl rfl (hts _ hw4) (hts _ hw1) (hts _ hw2) hnm hq.1 (jx_room hq.2.1 hq.2.2 hR1 hR2)) ⟨jx_Pc_blind, jx_Pc_at hGa hH hS⟩ rfl (by simpa using e3) hls (by simpa using e2) (lv_room hsm) hd ⟨h3, h4⟩
  · exact False.elim ht
/-- contracts that name the receiver's class -/
def jx_Fo (ci : Nat) (F : jx_F) : jx_F := fun as μ K => (∃ a tl, as = .ref a :: tl ∧ jx_kn μ a = some (.inl ci)) ∧ F as μ K
def jx_Fc (F : jx_F) : jx_F := fun as μ K => (∃ a tl, as = .ref a :: tl) ∧ F as μ K
theorem jx_Vd_o {g : jx_G} {k : jx_yk} {F : jx_F} {ci : Nat} (h : jx_Vd g k F) : jx_Vd g k (jx_Fo ci F) := fun as μ K q => h as μ K q.2
theorem jx_Vd_c {g : jx_G} {k : jx_yk} {F : jx_F} (h : jx_Vd g k F) : jx_Vd g k (jx_Fc F) := fun as μ K q => h as μ K q.2
theorem jx_Fo_e {ci a : Nat} {F : jx_F} {tl : List Value} {μ : jx_M} {K : jx_Kt} : jx_Fo ci F (.ref a :: tl) μ K = (jx_kn μ a = some (.inl ci) ∧ F (.ref a :: tl) μ K) := propext ⟨fun ⟨⟨a', tl', e, h⟩, q⟩ => by cases e; exact ⟨h, q⟩, fun ⟨h, q⟩ => ⟨⟨a, tl, rfl, h⟩, q⟩⟩
theorem jx_Fc_e {a : Nat} {F : jx_F} {tl : List Value} {μ : jx_M} {K : jx_Kt} : jx_Fc F (.ref a :: tl) μ K = F (.ref a :: tl) μ K := propext ⟨fun q => q.2, fun q => ⟨⟨a, tl, rfl⟩, q⟩⟩
theorem jx_inp {w : Cond} (i : Nat) (h : (k2_sels lw_privs)[i]? = some w) (hg : goodWord w = true) : w ∈ jx_ws := List.mem_filter.mpr ⟨List.mem_append_left _ (List.mem_of_getElem? h), hg⟩
theorem wd_obj : Cond.code Lib.objectInit ⟨#[0xb1]⟩ 1 none ∈ jx_ws := jx_in 24 (by decide +kernel) (by decide +kernel)
theorem wd_mmax : Cond.code Lib.Math.max.name Lib.Math.max.code 2 (some .int) ∈ jx_ws := jx_in 614 (by decide +kernel) (by decide +kernel)
theorem wd_mmin : Cond.code Lib.Math.min.name Lib.Math.min.code 2 (some .int) ∈ jx_ws := jx_in 655 (by decide +kernel) (by decide +kernel)
