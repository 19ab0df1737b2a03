/-! Calls by the receiver's class, across the nest, of the library; casts; statics; throws; switches; ends. -/
def jx_CUp (g : jx_G) (me : jx_me) (idx : Nat) (x : MethodName) (n : Nat) (k : jx_yk) (C owner : String) : Prop := ∀ (R : Room) (s : State) (args : Array Value), (∀ w ∈ jx_ws, w.before args s = true) → jx_Ga g s s.heap → (jx_ht me).1 ≤ R.frames → (jx_ht me).2 ≤ R.locals →
  va_CU R s args (jx_ow me) C owner idx x (jx_yn k) (jx_yc k) (jx_yl k) (jx_yr k) (jx_wy k) (jx_rm k) (jx_yb k).1 (jx_yb k).2 n
def jx_cr (me : jx_me) (k : jx_yk) : Prop := (jx_yh k).1 + 1 ≤ (jx_ht me).1 ∧ 8 + (jx_yl k + 11) + (jx_yh k).2 ≤ (jx_ht me).2
def jx_cx (x : MethodName) (owner : String) (n : Nat) : Prop := owner ≠ "java/lang/invoke/MethodHandle" ∧ owner ≠ "java/lang/invoke/VarHandle" ∧ (parseMethodDescriptor x.desc).map (fun d => d.parameters.length) = some n
theorem jx_cuU {g : jx_G} {me : jx_me} {idx n : Nat} {x : MethodName} {k : jx_yk} {C owner : String} (hr : jx_cr me k) (hx : jx_cx x owner n) (hy : jx_yn k = ⟨owner, x.name, x.desc⟩) (hc : Cond.code (jx_yn k) (jx_yc k) (jx_yl k) (jx_yr k) ∈ jx_ws) (w1 : Cond.methodLink (jx_ow me) idx x ∈ jx_ws) (w2 : Cond.sameMethod x.cls owner x.name x.desc ∈ jx_ws) (w3 : Cond.selects C x (jx_yn k) ∈ jx_ws) (w4 : Cond.instanceMethod (jx_yn k) ∈ jx_ws) (w5 : Cond.initialized (jx_yn k).cls ∈ jx_ws) : jx_CUp g me idx x n k C owner :=
  fun R s args hts hGa h1 h2 => va_cwU n hts (jx_wy_GI (k := k) (hd := [.methodLink (jx_ow me) idx x, .sameMethod x.cls owner x.name x.desc, .selects C x (jx_yn k), .instanceMethod (jx_yn k), .initialized (jx_yn k).cls]) (by simp [w1, w2, w3, w4, w5]) hc) rfl rfl rfl hy hx (jx_room hr.1 hr.2 h1 h2)
theorem jx_cuO {g : jx_G} {me : jx_me} {idx n : Nat} {x : MethodName} {k : jx_yk} {C owner : String} {b0 : ByteArray} {m0 : Nat} {r0 : Option FieldType} (hr : jx_cr me k) (hx : jx_cx x owner n) (hc : Cond.code (jx_yn k) (jx_yc k) (jx_yl k) (jx_yr k) ∈ jx_ws) (h0 : Cond.code ⟨owner, x.name, x.desc⟩ b0 m0 r0 ∈ jx_ws) (w1 : Cond.methodLink (jx_ow me) idx x ∈ jx_ws) (w2 : Cond.sameMethod x.cls owner x.name x.desc ∈ jx_ws) (w6 : Cond.instanceMethod ⟨owner, x.name, x.desc⟩ ∈ jx_ws) (w3 : Cond.selects C x (jx_yn k) ∈ jx_ws) (w4 : Cond.instanceMethod (jx_yn k) ∈ jx_ws) (w5 : Cond.initialized (jx_yn k).cls ∈ jx_ws) : jx_CUp g me idx x n k C owner :=
  fun R s args hts hGa h1 h2 => va_cwO n hts (jx_wy_GI (k := k) (hd := [.methodLink (jx_ow me) idx x, .sameMethod x.cls owner x.name x.desc, .instanceMethod ⟨owner, x.name, x.desc⟩, .selects C x (jx_yn k), .instanceMethod (jx_yn k), .initialized (jx_yn k).cls]) (by simp [w1, w2, w3, w4, w5, w6]) hc) rfl rfl rfl h0 hx (jx_room hr.1 hr.2 h1 h2)
theorem jx_cuA {g : jx_G} {me : jx_me} {idx n : Nat} {x : MethodName} {k : jx_yk} {C owner : String} (hr : jx_cr me k) (hx : jx_cx x owner n) (hz : (⟨owner, x.name, x.desc⟩ : MethodName) ∈ jx_wD) (hc : Cond.code (jx_yn k) (jx_yc k) (jx_yl k) (jx_yr k) ∈ jx_ws) (w1 : Cond.methodLink (jx_ow me) idx x ∈ jx_ws) (w2 : Cond.sameMethod x.cls owner x.name x.desc ∈ jx_ws) (w3 : Cond.selects C x (jx_yn k) ∈ jx_ws) (w4 : Cond.instanceMethod (jx_yn k) ∈ jx_ws) (w5 : Cond.initialized (jx_yn k).cls ∈ jx_ws) : jx_CUp g me idx x n k C owner :=
  fun R s args hts hGa h1 h2 => va_cwA n hts (jx_wy_GI (k := k) (hd := [.methodLink (jx_ow me) idx x, .sameMethod x.cls owner x.name x.desc, .selects C x (jx_yn k), .instanceMethod (jx_yn k), .initialized (jx_yn k).cls]) (by simp [w1, w2, w3, w4, w5]) hc) rfl rfl rfl (hGa.2.2.2.2.2.1 _ hz) hx (jx_room hr.1 hr.2 h1 h2)
/-- the contract of a call that the receiver's class decides -/
def jx_Fv (lo hi : Nat) (G : Nat → jx_F) : jx_F := fun as μ K => ∃ (a : Nat) (tl : List Value) (ci : Nat), as = .ref a :: tl ∧ jx_kn μ a = some (.inl ci) ∧ lo ≤ ci ∧ ci ≤ hi ∧ G ci as μ K
theorem js_callU {g : jx_G} {me : jx_me} {pc n idx lo hi mc ms : Nat} {x : MethodName} {G : Nat → jx_F} (hd : decode (jx_cc me) pc = .ok (.invokevirtual idx, 3))
    (hall : ∀ ci, lo ≤ ci → ci ≤ hi → ∃ (k : jx_yk) (C owner : String) (T : u_T) (N : Nat), jx_cl[ci]? = some (C, T, N) ∧ jx_yb k = (mc, ms) ∧ jx_Vd g k (G ci) ∧ jx_CUp g me idx x n k C owner) : jx_So g me pc (pc + 3) (jt_call (n + 1) mc ms (jx_Fv lo hi G)) := by
  intro K P σ hP ht
  obtain ⟨lv, st, μ, b⟩ := σ
  unfold jt_call at ht
  dsimp only at ht
  split at ht
  · rename_i as rest htk
    obtain ⟨hb1, hb2, hsm, a, tl, ci, ea, hka, hlo, hhi, ht⟩ := ht
    obtain ⟨bs, e1, e2, e3⟩ := jx_tk_s (n + 1) st [] as rest htk
    rw [List.append_nil] at e1
    subst e1
    subst ea
    obtain ⟨k, C, owner, T, N, hcl, hyb, hF, hcu⟩ := hall ci hlo hhi
    have hb9 : (jx_yb k).1 = mc ∧ (jx_yb k).2 = ms := by rw [hyb]; exact ⟨rfl, rfl⟩
    obtain ⟨em, es⟩ := hb9
    subst em; subst es
    refine jx_call_go (rest := rest) (as := .ref a :: tl) hP hb1 hb2 ?_
    intro p e R s m args below meth c H locs cells slots ls hC hH hS hls h3 h4
    obtain ⟨hx, hb, hml, hown, -, -, -, -, hts, hGa, -, hR1, hR2⟩ := hC
    exact va_runU (C := C) (owner := owner) (x := x) (Ts := jx_ws) (bytes := jx_yc k) (maxL := jx_yl k) (ret := jx_yr k) (As := tl) (b := a) ⟨hx, hb, hml, hown, hts⟩ (jx_Ct_met (hF _ _ _ ht)) (hcu R s args hts hGa hR1 hR2) ⟨jx_Pc_blind, jx_recv hGa hH hka hcl, jx_Pc_at hGa hH hS⟩ rfl (by simpa using e3) hls (by simpa using e2) (lv_room hsm) hd ⟨h3, h4⟩
  · exact False.elim ht
/-- a private static method of a nest mate -/
theorem js_callSN {g : jx_G} {me : jx_me} {pc n idx : Nat} {host : String} {k : jx_yk} {F : jx_F} (hd : decode (jx_cc me) pc = .ok (.invokestatic idx, 3)) (hF : jx_Vd g k F) (hq : jx_cq me k n) (hc : Cond.code (jx_yn k) (jx_yc k) (jx_yl k) (jx_yr k) ∈ jx_ws) (hw1 : (jx_ow me, idx, jx_yn k, host) ∈ jx_wM) (hw2 : Cond.static (jx_yn k) ∈ jx_ws) (hw3 : Cond.initialized (jx_yn k).cls ∈ jx_ws) : jx_So g me pc (pc + 3) (jt_call n (jx_yb k).1 (jx_yb k).2 F) := by
  intro K P σ hP ht
  obtain ⟨lv, st, μ, b⟩ := σ
  unfold jt_call at ht
  dsimp only at ht
  split at ht
  · rename_i as rest htk
    obtain ⟨hb1, hb2, hsm, ht⟩ := ht
    obtain ⟨bs, e1, e2, e3⟩ := jx_tk_s n st [] as rest htk
    rw [List.append_nil] at e1
    subst e1
    refine jx_call_go (rest := rest) (as := as) hP hb1 hb2 ?_
    intro p e R s m args below meth c H locs cells slots ls hC hH hS hls h3 h4
    obtain ⟨hx, hb, hml, hown, -, -, -, -, hts, hGa, -, hR1, hR2⟩ := hC
    exact va_runSN (host := host) (Ts := jx_ws) (bytes := jx_yc k) (maxL := jx_yl k) (ret := jx_yr k) ⟨hx, hb, hml, hown, hts⟩ (jx_Ct_met (hF _ _ _ ht)) ⟨va_cnB n hts (jx_wy_GI (k := k) (hd := []) (by simp) hc) rfl rfl rfl (hGa.2.2.1 _ hw1) (hts _ hw3) hq.1 (jx_room hq.2.1 hq.2.2 hR1 hR2), hts _ hw2, trivial⟩ ⟨jx_Pc_blind, jx_Pc_at hGa hH hS⟩ rfl e3 hls e2 (lv_room hsm) hd ⟨h3, h4⟩
  · exact False.elim ht
/-! the library's -/
def jt_objI : jx_tr := fun σ P => match σ with
  | (lv, x :: st, μ, b) => jx_r x ∧ jx_sm st ∧ P (lv, st, μ, b)
  | _ => False
theorem jt_objI_e {x : Value} {lv : List (Nat × Value)} {st : List Value} {μ : jx_M} {b : Nat × Nat} {P : jx_S → Prop} : jt_objI (lv, x :: st, μ, b) P = (jx_r x ∧ jx_sm st ∧ P (lv, st, μ, b)) := rfl
theorem js_objI {g : jx_G} {me : jx_me} {pc idx : Nat} (hd : decode (jx_cc me) pc = .ok (.invokespecial idx, 3)) (hw1 : Cond.methodLink (jx_ow me) idx Lib.objectInit ∈ jx_ws) (hw2 : Cond.instanceMethod Lib.objectInit ∈ jx_ws) (hw3 : Cond.code Lib.objectInit ⟨#[0xb1]⟩ 1 none ∈ jx_ws) (hr : 1 ≤ (jx_ht me).1 ∧ 20 ≤ (jx_ht me).2) : jx_So g me pc (pc + 3) jt_objI := by
  intro K P σ hP ht
  obtain ⟨lv, st, μ, b⟩ := σ
  rcases st with _ | ⟨x, st⟩
  · exact False.elim ht
  · obtain ⟨⟨a, rfl⟩, hsm, ht⟩ := ht
    intro p e R s m args below meth c H locs cells slots ls mc ms hC hH hS hl h1 h2 h3 h4
    have hts := hC.2.2.2.2.2.2.2.2.1
    have hl9 : (jx_ht me).2 ≤ R.locals := hC.2.2.2.2.2.2.2.2.2.2.2.2
    have hsm9 := lv_room (m := m) (pc := pc) (ls := ls) (rest := st) hsm
    exact W.objInit hC.1 hC.2.1 hC.2.2.2.1 (hts _ hw1) (hts _ hw2) (hts _ hw3) rfl (hl.1.trans hC.2.2.1.symm) rfl hd (Nat.le_trans hr.1 hC.2.2.2.2.2.2.2.2.2.2.2.1) (Nat.le_trans (Nat.add_le_add_right (show 2 * (F0 m pc ls (Value.ref a :: st)).monitorRoom + (st.map fun v => v.category).sum ≤ 8 from hsm9) 12) (Nat.le_trans hr.2 hl9)) (hP _ ht p e R s m args below meth c H locs cells slots ls mc ms hC hH hS hl h1 h2 h3 h4)
def jx_mx (x y : Int32) : Int32 := if x < y then y else x
def jx_mn (x y : Int32) : Int32 := if y < x then y else x
