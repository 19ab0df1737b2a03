/-! throws -/
def jx_nmx : List String := ["java/lang/RuntimeException", "java/lang/Exception"]
def jx_ex : List Cond := jx_wC.map (fun q => Cond.castable q.1 q.2) ++ jx_wD.map Cond.declares
theorem jx_exu {g : jx_G} {s : State} {args : Array Value} (hGa : jx_Ga g s s.heap) : ∀ w ∈ jx_ex, w.before args s = true := by
  intro w hw
  rcases List.mem_append.mp hw with h | h
  · obtain ⟨q, hq, rfl⟩ := List.mem_map.mp h
    exact va_Nw.use rfl (hGa.2.2.2.2.1 q hq)
  · obtain ⟨q, hq, rfl⟩ := List.mem_map.mp h
    exact va_Nw.use rfl (hGa.2.2.2.2.2.1 q hq)
theorem jx_hat {g : jx_G} {s : State} {args : Array Value} {L : List Cond} (hts : ∀ w ∈ jx_ws, w.before args s = true) (hGa : jx_Ga g s s.heap) (h : L.all (fun w => (decide (w ∈ tables_1) && goodWord w) || decide (w ∈ jx_ex)) = true) : ∀ w ∈ L, w.before args s = true := by
  intro w hw
  have h9 := List.all_eq_true.mp h w hw
  simp only [Bool.or_eq_true, Bool.and_eq_true, decide_eq_true_eq] at h9
  rcases h9 with ⟨h1, h2⟩ | h1
  · exact hts w (List.mem_filter.mpr ⟨List.mem_append_right _ h1, h2⟩)
  · exact jx_exu hGa w h1
def jx_th (E : String) (K : jx_Kt) : jx_S → Prop := fun σ => match σ with
  | (_, st, μ, b) => 1 ≤ b.1 ∧ 6 ≤ b.2 ∧ jx_sm st ∧ ∀ n, jx_sz μ ≤ n → K (.inr E) (n, μ.2)
theorem jx_th_e {E : String} {K : jx_Kt} {lv : List (Nat × Value)} {st : List Value} {μ : jx_M} {b : Nat × Nat} : jx_th E K (lv, st, μ, b) = (1 ≤ b.1 ∧ 6 ≤ b.2 ∧ jx_sm st ∧ ∀ n, jx_sz μ ≤ n → K (.inr E) (n, μ.2)) := rfl
theorem jx_thx {g : jx_G} {s t : State} {H : Heap} {locs : List Loc} {μ : jx_M} {K : jx_Kt} {E : String} (hH : jx_H g s H μ) (hS : va_S (fun q => g.2.2.1 ≤ q) s.heap H locs) (hK : ∀ n, jx_sz μ ≤ n → K (.inr E) (n, μ.2)) (hvm : s.vm.Alike t.vm) (hz : H.size ≤ t.heap.size) (hq : ∀ q : Nat, q < H.size → t.heap[q]? = H[q]?) : jx_Xc g K E s t := by
  refine ⟨(t.heap.size, μ.2), hK _ (by rw [← hH.2.1]; exact hz), ⟨Nat.le_trans hH.1 hz, rfl, fun a k hk => ?_⟩, Nat.le_trans hS.1 hz, fun q h1 h2 => ?_⟩
  · have h9 := hH.2.2 a k hk
    exact jx_at_kept (jx_at_moved hvm h9) (hq a (jx_at_lt h9)) (fun _ => rfl) (fun _ => rfl) (fun _ => rfl)
  · exact (hq q (Nat.lt_of_lt_of_le h1 hS.1)).trans (hS.2.1 q h1 h2)

theorem jx_atA : (vx_atS "StretchedRows" 30 "java/lang/IllegalArgumentException" jx_nmx).all (fun w => (decide (w ∈ tables_1) && goodWord w) || decide (w ∈ jx_ex)) = true := by decide +kernel
theorem jx_otA : (Cond.classLink "StretchedRows" 26 "java/lang/IllegalArgumentException" :: Cond.initialized "java/lang/IllegalArgumentException" :: vx_atS "StretchedRows" 30 "java/lang/IllegalArgumentException" jx_nmx).all vx_ot = true := by decide +kernel
theorem jx_tkA : Cond.classLink "StretchedRows" 26 "java/lang/IllegalArgumentException" ∈ jx_ws := jx_in 78 (by decide +kernel) (by decide +kernel)
theorem jx_tiA : Cond.initialized "java/lang/IllegalArgumentException" ∈ jx_ws := jx_in 6 (by decide +kernel) (by decide +kernel)
theorem jb_th_A {g : jx_G} {me : jx_me} {pc is : Nat} {text : String} {K : jx_Kt} (how : jx_ow me = "StretchedRows") (d0 : decode (jx_cc me) pc = .ok (.new 26, 3)) (d3 : decode (jx_cc me) (pc + 3) = .ok (.dup, 1)) (d4 : decode (jx_cc me) (pc + 4) = .ok (.ldc is, 2)) (d6 : decode (jx_cc me) (pc + 6) = .ok (.invokespecial 30, 3)) (d9 : decode (jx_cc me) (pc + 9) = .ok (.athrow, 1)) (hst : (is, text) ∈ jx_wS) (htb : jx_tb me = []) (hr : 6 ≤ (jx_ht me).1 ∧ 90 ≤ (jx_ht me).2) (σ : jx_S) (h : jx_th "java/lang/IllegalArgumentException" K σ) : jx_J g me pc σ K := by
  obtain ⟨lv, st, μ, b⟩ := σ
  obtain ⟨hb1, hb2, hsm, hK⟩ := h
  intro p e R s m args below meth c H locs cells slots ls mc ms hC hH hS hl h1 h2 h3 h4
  obtain ⟨hx, hb, hml, hown, -, hlk, -, htab, hts, hGa, -, hR1, hR2⟩ := hC
  rw [how] at hown
  dsimp only at h1 h2
  have hsm9 : (st.map fun v => v.category).sum ≤ 8 := hsm
  refine vx_throwS (A := fun q => g.2.2.1 ≤ q) (own := "StretchedRows") (cls := "java/lang/IllegalArgumentException") (text := text) (names := jx_nmx) (sa := g.2.2.2 is) hx hb hGa.2.2.2.2.2.2.2.2.2.2.2.2.2 hown (by decide) (by decide) (hts _ jx_tkA) (hts _ jx_tiA) (hGa.2.2.2.2.2.2.2.1 _ hst) (jx_hat hts hGa jx_atA) (List.all_eq_true.mp jx_otA) hGa.2.2.2.2.2.2.2.2.2.2.2.1 hGa.2.2.2.2.2.2.2.2.2.2.2.2.1 hS (hl.1.trans hml.symm) d0 d3 d4 d6 d9 ?_ ?_ ?_ (by omega) (by omega) hlk (fun t hvm hz hq => jx_thx hH hS hK hvm hz hq) hS.2.2 (by omega) (by omega)
  · intro x hx9
    rw [htab, htb] at hx9
    cases hx9
  · show 2 + 3 < R.frames
    omega
  · show (st.map fun v => v.category).sum + (13 * (2 + 1) + 43) ≤ R.locals
    omega

theorem jx_atS : (vx_atS "StretchedRows" 48 "java/lang/IllegalStateException" jx_nmx).all (fun w => (decide (w ∈ tables_1) && goodWord w) || decide (w ∈ jx_ex)) = true := by decide +kernel
theorem jx_otS : (Cond.classLink "StretchedRows" 44 "java/lang/IllegalStateException" :: Cond.initialized "java/lang/IllegalStateException" :: vx_atS "StretchedRows" 48 "java/lang/IllegalStateException" jx_nmx).all vx_ot = true := by decide +kernel
theorem jx_tkS : Cond.classLink "StretchedRows" 44 "java/lang/IllegalStateException" ∈ jx_ws := jx_in 155 (by decide +kernel) (by decide +kernel)
theorem jx_tiS : Cond.initialized "java/lang/IllegalStateException" ∈ jx_ws := jx_in 7 (by decide +kernel) (by decide +kernel)
theorem jb_th_S {g : jx_G} {me : jx_me} {pc is : Nat} {text : String} {K : jx_Kt} (how : jx_ow me = "StretchedRows") (d0 : decode (jx_cc me) pc = .ok (.new 44, 3)) (d3 : decode (jx_cc me) (pc + 3) = .ok (.dup, 1)) (d4 : decode (jx_cc me) (pc + 4) = .ok (.ldc is, 2)) (d6 : decode (jx_cc me) (pc + 6) = .ok (.invokespecial 48, 3)) (d9 : decode (jx_cc me) (pc + 9) = .ok (.athrow, 1)) (hst : (is, text) ∈ jx_wS) (htb : jx_tb me = []) (hr : 6 ≤ (jx_ht me).1 ∧ 90 ≤ (jx_ht me).2) (σ : jx_S) (h : jx_th "java/lang/IllegalStateException" K σ) : jx_J g me pc σ K := by
  obtain ⟨lv, st, μ, b⟩ := σ
  obtain ⟨hb1, hb2, hsm, hK⟩ := h
  intro p e R s m args below meth c H locs cells slots ls mc ms hC hH hS hl h1 h2 h3 h4
  obtain ⟨hx, hb, hml, hown, -, hlk, -, htab, hts, hGa, -, hR1, hR2⟩ := hC
  rw [how] at hown
  dsimp only at h1 h2
  have hsm9 : (st.map fun v => v.category).sum ≤ 8 := hsm
  refine vx_throwS (A := fun q => g.2.2.1 ≤ q) (own := "StretchedRows") (cls := "java/lang/IllegalStateException") (text := text) (names := jx_nmx) (sa := g.2.2.2 is) hx hb hGa.2.2.2.2.2.2.2.2.2.2.2.2.2 hown (by decide) (by decide) (hts _ jx_tkS) (hts _ jx_tiS) (hGa.2.2.2.2.2.2.2.1 _ hst) (jx_hat hts hGa jx_atS) (List.all_eq_true.mp jx_otS) hGa.2.2.2.2.2.2.2.2.2.2.2.1 hGa.2.2.2.2.2.2.2.2.2.2.2.2.1 hS (hl.1.trans hml.symm) d0 d3 d4 d6 d9 ?_ ?_ ?_ (by omega) (by omega) hlk (fun t hvm hz hq => jx_thx hH hS hK hvm hz hq) hS.2.2 (by omega) (by omega)
  · intro x hx9
    rw [htab, htb] at hx9
    cases hx9
  · show 2 + 3 < R.frames
    omega
  · show (st.map fun v => v.category).sum + (13 * (2 + 1) + 43) ≤ R.locals
    omega
