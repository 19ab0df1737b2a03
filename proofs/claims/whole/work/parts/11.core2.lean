/-! keeping some locals -/
def jx_hs (lv : List (Nat × Value)) : List Nat → Prop
  | [] => True
  | i :: r => jx_lq lv i = some (jx_lk lv i) ∧ jx_hs lv r
def jx_kp (lv : List (Nat × Value)) : List Nat → List (Nat × Value)
  | [] => []
  | i :: r => (i, jx_lk lv i) :: jx_kp lv r
theorem jx_hs_e {lv : List (Nat × Value)} {i : Nat} {r : List Nat} : jx_hs lv (i :: r) = (jx_lq lv i = some (jx_lk lv i) ∧ jx_hs lv r) := rfl
theorem jx_hs_0 {lv : List (Nat × Value)} : jx_hs lv [] = True := rfl
theorem jx_kp_e {lv : List (Nat × Value)} {i : Nat} {r : List Nat} : jx_kp lv (i :: r) = (i, jx_lk lv i) :: jx_kp lv r := rfl
theorem jx_kp_0 {lv : List (Nat × Value)} : jx_kp lv [] = [] := rfl
theorem jx_kp_lq {lv : List (Nat × Value)} {i : Nat} {v : Value} : ∀ ks : List Nat, jx_hs lv ks → jx_lq (jx_kp lv ks) i = some v → jx_lq lv i = some v
  | [], _, h => by cases h
  | k :: r, h, q => by
    rw [jx_kp_e, jx_lq_e] at q
    by_cases e : k = i
    · rw [if_pos e] at q
      subst e
      rw [h.1]; exact q
    · rw [if_neg e] at q
      exact jx_kp_lq r h.2 q
def jt_keep (ks : List Nat) : jx_tr := fun σ P => match σ with
  | (lv, st, μ, b) => jx_hs lv ks ∧ P (jx_kp lv ks, st, μ, b)
theorem jt_keep_e (ks : List Nat) {lv : List (Nat × Value)} {st : List Value} {μ : jx_M} {b : Nat × Nat} {P : jx_S → Prop} : jt_keep ks (lv, st, μ, b) P = (jx_hs lv ks ∧ P (jx_kp lv ks, st, μ, b)) := rfl
theorem js_keep {g : jx_G} {me : jx_me} {pc : Nat} (ks : List Nat) : jx_So g me pc pc (jt_keep ks) := by
  intro K P σ hP ht
  obtain ⟨lv, st, μ, b⟩ := σ
  obtain ⟨hs, ht⟩ := ht
  intro p e R s m args below meth c H locs cells slots ls mc ms hC hH hS hl h1 h2 h3 h4
  exact hP _ ht p e R s m args below meth c H locs cells slots ls mc ms hC hH hS ⟨hl.1, hl.2.1, fun i v q => hl.2.2 i v (jx_kp_lq ks hs q)⟩ h1 h2 h3 h4
def jt_nop : jx_tr := fun σ P => P σ
theorem jt_nop_e {σ : jx_S} {P : jx_S → Prop} : jt_nop σ P = P σ := rfl
theorem js_goto {g : jx_G} {me : jx_me} {pc tgt : Nat} {off : Int} (hd : decode (jx_cc me) pc = .ok (.goto off, 3)) (ht : (pc : Int) + off = (tgt : Int)) : jx_So g me pc tgt jt_nop := by
  intro K P σ hP h
  intro p e R s m args below meth c H locs cells slots ls mc ms hC hH hS hl h1 h2 h3 h4
  exact lv_goto hC.1 hC.2.1 hd ht (hP _ h p e R s m args below meth c H locs cells slots ls mc ms hC hH hS hl h1 h2 h3 h4)
/-! branches -/
def jx_ic (r : Int32 → Int32 → Prop) (A B : jx_S → Prop) : jx_S → Prop := fun σ => match σ with
  | (lv, y :: x :: st, μ, b) => jx_i x ∧ jx_i y ∧ (r (jx_iv x) (jx_iv y) → A (lv, st, μ, b)) ∧ (¬ r (jx_iv x) (jx_iv y) → B (lv, st, μ, b))
  | _ => False
theorem jx_ic_e {r : Int32 → Int32 → Prop} {A B : jx_S → Prop} {x y : Value} {lv : List (Nat × Value)} {st : List Value} {μ : jx_M} {b : Nat × Nat} : jx_ic r A B (lv, y :: x :: st, μ, b) = (jx_i x ∧ jx_i y ∧ (r (jx_iv x) (jx_iv y) → A (lv, st, μ, b)) ∧ (¬ r (jx_iv x) (jx_iv y) → B (lv, st, μ, b))) := rfl
def jx_if (r : Int32 → Prop) (A B : jx_S → Prop) : jx_S → Prop := fun σ => match σ with
  | (lv, x :: st, μ, b) => jx_i x ∧ (r (jx_iv x) → A (lv, st, μ, b)) ∧ (¬ r (jx_iv x) → B (lv, st, μ, b))
  | _ => False
theorem jx_if_e {r : Int32 → Prop} {A B : jx_S → Prop} {x : Value} {lv : List (Nat × Value)} {st : List Value} {μ : jx_M} {b : Nat × Nat} : jx_if r A B (lv, x :: st, μ, b) = (jx_i x ∧ (r (jx_iv x) → A (lv, st, μ, b)) ∧ (¬ r (jx_iv x) → B (lv, st, μ, b))) := rfl
def jx_nl (A B : jx_S → Prop) : jx_S → Prop := fun σ => match σ with
  | (lv, x :: st, μ, b) => jx_a x ∧ (x = .null → A (lv, st, μ, b)) ∧ (¬ x = .null → B (lv, st, μ, b))
  | _ => False
theorem jx_nl_e {A B : jx_S → Prop} {x : Value} {lv : List (Nat × Value)} {st : List Value} {μ : jx_M} {b : Nat × Nat} : jx_nl A B (lv, x :: st, μ, b) = (jx_a x ∧ (x = .null → A (lv, st, μ, b)) ∧ (¬ x = .null → B (lv, st, μ, b))) := rfl

theorem jb_icmp_eq {g : jx_G} {me : jx_me} {pc tgt : Nat} {off : Int} {K : jx_Kt} (hd : decode (jx_cc me) pc = .ok (.if_icmp .eq off, 3)) (ht : (pc : Int) + off = (tgt : Int)) (σ : jx_S) (h : jx_ic (fun x y => x = y) (fun σ => jx_J g me tgt σ K) (fun σ => jx_J g me (pc + 3) σ K) σ) : jx_J g me pc σ K := by
  obtain ⟨lv, st, μ, b⟩ := σ
  rcases st with _ | ⟨y, _ | ⟨x, st⟩⟩
  · exact False.elim h
  · exact False.elim h
  · obtain ⟨⟨x, rfl⟩, ⟨y, rfl⟩, hA, hB⟩ := h
    intro p e R s m args below meth c H locs cells slots ls mc ms hC hH hS hl h1 h2 h3 h4
    exact lv_icmp_eq hC.1 hC.2.1 hd ht (fun q => hA q p e R s m args below meth c H locs cells slots ls mc ms hC hH hS hl h1 h2 h3 h4) (fun q => hB q p e R s m args below meth c H locs cells slots ls mc ms hC hH hS hl h1 h2 h3 h4)
theorem jb_if_eq {g : jx_G} {me : jx_me} {pc tgt : Nat} {off : Int} {K : jx_Kt} (hd : decode (jx_cc me) pc = .ok (.ifCond .eq off, 3)) (ht : (pc : Int) + off = (tgt : Int)) (σ : jx_S) (h : jx_if (fun x => x = 0) (fun σ => jx_J g me tgt σ K) (fun σ => jx_J g me (pc + 3) σ K) σ) : jx_J g me pc σ K := by
  obtain ⟨lv, st, μ, b⟩ := σ
  rcases st with _ | ⟨x, st⟩
  · exact False.elim h
  · obtain ⟨⟨x, rfl⟩, hA, hB⟩ := h
    intro p e R s m args below meth c H locs cells slots ls mc ms hC hH hS hl h1 h2 h3 h4
    exact lv_if_eq hC.1 hC.2.1 hd ht (fun q => hA q p e R s m args below meth c H locs cells slots ls mc ms hC hH hS hl h1 h2 h3 h4) (fun q => hB q p e R s m args below meth c H locs cells slots ls mc ms hC hH hS hl h1 h2 h3 h4)
theorem jb_icmp_ne {g : jx_G} {me : jx_me} {pc tgt : Nat} {off : Int} {K : jx_Kt} (hd : decode (jx_cc me) pc = .ok (.if_icmp .ne off, 3)) (ht : (pc : Int) + off = (tgt : Int)) (σ : jx_S) (h : jx_ic (fun x y => x ≠ y) (fun σ => jx_J g me tgt σ K) (fun σ => jx_J g me (pc + 3) σ K) σ) : jx_J g me pc σ K := by
  obtain ⟨lv, st, μ, b⟩ := σ
  rcases st with _ | ⟨y, _ | ⟨x, st⟩⟩
  · exact False.elim h
  · exact False.elim h
  · obtain ⟨⟨x, rfl⟩, ⟨y, rfl⟩, hA, hB⟩ := h
    intro p e R s m args below meth c H locs cells slots ls mc ms hC hH hS hl h1 h2 h3 h4
    exact lv_icmp_ne hC.1 hC.2.1 hd ht (fun q => hA q p e R s m args below meth c H locs cells slots ls mc ms hC hH hS hl h1 h2 h3 h4) (fun q => hB (fun h9 => h9 q) p e R s m args below meth c H locs cells slots ls mc ms hC hH hS hl h1 h2 h3 h4)
theorem jb_if_ne {g : jx_G} {me : jx_me} {pc tgt : Nat} {off : Int} {K : jx_Kt} (hd : decode (jx_cc me) pc = .ok (.ifCond .ne off, 3)) (ht : (pc : Int) + off = (tgt : Int)) (σ : jx_S) (h : jx_if (fun x => x ≠ 0) (fun σ => jx_J g me tgt σ K) (fun σ => jx_J g me (pc + 3) σ K) σ) : jx_J g me pc σ K := by
  obtain ⟨lv, st, μ, b⟩ := σ
  rcases st with _ | ⟨x, st⟩
  · exact False.elim h
  · obtain ⟨⟨x, rfl⟩, hA, hB⟩ := h
    intro p e R s m args below meth c H locs cells slots ls mc ms hC hH hS hl h1 h2 h3 h4
    exact lv_if_ne hC.1 hC.2.1 hd ht (fun q => hA q p e R s m args below meth c H locs cells slots ls mc ms hC hH hS hl h1 h2 h3 h4) (fun q => hB (fun h9 => h9 q) p e R s m args below meth c H locs cells slots ls mc ms hC hH hS hl h1 h2 h3 h4)
theorem jb_icmp_lt {g : jx_G} {me : jx_me} {pc tgt : Nat} {off : Int} {K : jx_Kt} (hd : decode (jx_cc me) pc = .ok (.if_icmp .lt off, 3)) (ht : (pc : Int) + off = (tgt : Int)) (σ : jx_S) (h : jx_ic (fun x y => x < y) (fun σ => jx_J g me tgt σ K) (fun σ => jx_J g me (pc + 3) σ K) σ) : jx_J g me pc σ K := by
  obtain ⟨lv, st, μ, b⟩ := σ
  rcases st with _ | ⟨y, _ | ⟨x, st⟩⟩
  · exact False.elim h
  · exact False.elim h
  · obtain ⟨⟨x, rfl⟩, ⟨y, rfl⟩, hA, hB⟩ := h
    intro p e R s m args below meth c H locs cells slots ls mc ms hC hH hS hl h1 h2 h3 h4
    exact lv_icmp_lt hC.1 hC.2.1 hd ht (fun q => hA q p e R s m args below meth c H locs cells slots ls mc ms hC hH hS hl h1 h2 h3 h4) (fun q => hB q p e R s m args below meth c H locs cells slots ls mc ms hC hH hS hl h1 h2 h3 h4)
theorem jb_if_lt {g : jx_G} {me : jx_me} {pc tgt : Nat} {off : Int} {K : jx_Kt} (hd : decode (jx_cc me) pc = .ok (.ifCond .lt off, 3)) (ht : (pc : Int) + off = (tgt : Int)) (σ : jx_S) (h : jx_if (fun x => x < 0) (fun σ => jx_J g me tgt σ K) (fun σ => jx_J g me (pc + 3) σ K) σ) : jx_J g me pc σ K := by
  obtain ⟨lv, st, μ, b⟩ := σ
  rcases st with _ | ⟨x, st⟩
  · exact False.elim h
  · obtain ⟨⟨x, rfl⟩, hA, hB⟩ := h
    intro p e R s m args below meth c H locs cells slots ls mc ms hC hH hS hl h1 h2 h3 h4
    exact lv_if_lt hC.1 hC.2.1 hd ht (fun q => hA q p e R s m args below meth c H locs cells slots ls mc ms hC hH hS hl h1 h2 h3 h4) (fun q => hB q p e R s m args below meth c H locs cells slots ls mc ms hC hH hS hl h1 h2 h3 h4)
theorem jb_icmp_ge {g : jx_G} {me : jx_me} {pc tgt : Nat} {off : Int} {K : jx_Kt} (hd : decode (jx_cc me) pc = .ok (.if_icmp .ge off, 3)) (ht : (pc : Int) + off = (tgt : Int)) (σ : jx_S) (h : jx_ic (fun x y => y ≤ x) (fun σ => jx_J g me tgt σ K) (fun σ => jx_J g me (pc + 3) σ K) σ) : jx_J g me pc σ K := by
  obtain ⟨lv, st, μ, b⟩ := σ
  rcases st with _ | ⟨y, _ | ⟨x, st⟩⟩
  · exact False.elim h
  · exact False.elim h
  · obtain ⟨⟨x, rfl⟩, ⟨y, rfl⟩, hA, hB⟩ := h
    intro p e R s m args below meth c H locs cells slots ls mc ms hC hH hS hl h1 h2 h3 h4
    exact lv_icmp_ge hC.1 hC.2.1 hd ht (fun q => hA q p e R s m args below meth c H locs cells slots ls mc ms hC hH hS hl h1 h2 h3 h4) (fun q => hB q p e R s m args below meth c H locs cells slots ls mc ms hC hH hS hl h1 h2 h3 h4)
theorem jb_if_ge {g : jx_G} {me : jx_me} {pc tgt : Nat} {off : Int} {K : jx_Kt} (hd : decode (jx_cc me) pc = .ok (.ifCond .ge off, 3)) (ht : (pc : Int) + off = (tgt : Int)) (σ : jx_S) (h : jx_if (fun x => 0 ≤ x) (fun σ => jx_J g me tgt σ K) (fun σ => jx_J g me (pc + 3) σ K) σ) : jx_J g me pc σ K := by
  obtain ⟨lv, st, μ, b⟩ := σ
  rcases st with _ | ⟨x, st⟩
  · exact False.elim h
  · obtain ⟨⟨x, rfl⟩, hA, hB⟩ := h
    intro p e R s m args below meth c H locs cells slots ls mc ms hC hH hS hl h1 h2 h3 h4
    exact lv_if_ge hC.1 hC.2.1 hd ht (fun q => hA q p e R s m args below meth c H locs cells slots ls mc ms hC hH hS hl h1 h2 h3 h4) (fun q => hB q p e R s m args below meth c H locs cells slots ls mc ms hC hH hS hl h1 h2 h3 h4)
theorem jb_icmp_gt {g : jx_G} {me : jx_me} {pc tgt : Nat} {off : Int} {K : jx_Kt} (hd : decode (jx_cc me) pc = .ok (.if_icmp .gt off, 3)) (ht : (pc : Int) + off = (tgt : Int)) (σ : jx_S) (h : jx_ic (fun x y => y < x) (fun σ => jx_J g me tgt σ K) (fun σ => jx_J g me (pc + 3) σ K) σ) : jx_J g me pc σ K := by
  obtain ⟨lv, st, μ, b⟩ := σ
  rcases st with _ | ⟨y, _ | ⟨x, st⟩⟩
  · exact False.elim h
  · exact False.elim h
  · obtain ⟨⟨x, rfl⟩, ⟨y, rfl⟩, hA, hB⟩ := h
    intro p e R s m args below meth c H locs cells slots ls mc ms hC hH hS hl h1 h2 h3 h4
    exact lv_icmp_gt hC.1 hC.2.1 hd ht (fun q => hA q p e R s m args below meth c H locs cells slots ls mc ms hC hH hS hl h1 h2 h3 h4) (fun q => hB q p e R s m args below meth c H locs cells slots ls mc ms hC hH hS hl h1 h2 h3 h4)
theorem jb_if_gt {g : jx_G} {me : jx_me} {pc tgt : Nat} {off : Int} {K : jx_Kt} (hd : decode (jx_cc me) pc = .ok (.ifCond .gt off, 3)) (ht : (pc : Int) + off = (tgt : Int)) (σ : jx_S) (h : jx_if (fun x => 0 < x) (fun σ => jx_J g me tgt σ K) (fun σ => jx_J g me (pc + 3) σ K) σ) : jx_J g me pc σ K := by
  obtain ⟨lv, st, μ, b⟩ := σ
  rcases st with _ | ⟨x, st⟩
  · exact False.elim h
  · obtain ⟨⟨x, rfl⟩, hA, hB⟩ := h
    intro p e R s m args below meth c H locs cells slots ls mc ms hC hH hS hl h1 h2 h3 h4
    exact lv_if_gt hC.1 hC.2.1 hd ht (fun q => hA q p e R s m args below meth c H locs cells slots ls mc ms hC hH hS hl h1 h2 h3 h4) (fun q => hB q p e R s m args below meth c H locs cells slots ls mc ms hC hH hS hl h1 h2 h3 h4)
theorem jb_icmp_le {g : jx_G} {me : jx_me} {pc tgt : Nat} {off : Int} {K : jx_Kt} (hd : decode (jx_cc me) pc = .ok (.if_icmp .le off, 3)) (ht : (pc : Int) + off = (tgt : Int)) (σ : jx_S) (h : jx_ic (fun x y => x ≤ y) (fun σ => jx_J g me tgt σ K) (fun σ => jx_J g me (pc + 3) σ K) σ) : jx_J g me pc σ K := by
  obtain ⟨lv, st, μ, b⟩ := σ
  rcases st with _ | ⟨y, _ | ⟨x, st⟩⟩
  · exact False.elim h
  · exact False.elim h
  · obtain ⟨⟨x, rfl⟩, ⟨y, rfl⟩, hA, hB⟩ := h
    intro p e R s m args below meth c H locs cells slots ls mc ms hC hH hS hl h1 h2 h3 h4
    exact lv_icmp_le hC.1 hC.2.1 hd ht (fun q => hA q p e R s m args below meth c H locs cells slots ls mc ms hC hH hS hl h1 h2 h3 h4) (fun q => hB q p e R s m args below meth c H locs cells slots ls mc ms hC hH hS hl h1 h2 h3 h4)
theorem jb_if_le {g : jx_G} {me : jx_me} {pc tgt : Nat} {off : Int} {K : jx_Kt} (hd : decode (jx_cc me) pc = .ok (.ifCond .le off, 3)) (ht : (pc : Int) + off = (tgt : Int)) (σ : jx_S) (h : jx_if (fun x => x ≤ 0) (fun σ => jx_J g me tgt σ K) (fun σ => jx_J g me (pc + 3) σ K) σ) : jx_J g me pc σ K := by
  obtain ⟨lv, st, μ, b⟩ := σ
  rcases st with _ | ⟨x, st⟩
  · exact False.elim h
  · obtain ⟨⟨x, rfl⟩, hA, hB⟩ := h
    intro p e R s m args below meth c H locs cells slots ls mc ms hC hH hS hl h1 h2 h3 h4
    exact lv_if_le hC.1 hC.2.1 hd ht (fun q => hA q p e R s m args below meth c H locs cells slots ls mc ms hC hH hS hl h1 h2 h3 h4) (fun q => hB q p e R s m args below meth c H locs cells slots ls mc ms hC hH hS hl h1 h2 h3 h4)
theorem jb_ifnull {g : jx_G} {me : jx_me} {pc tgt : Nat} {off : Int} {K : jx_Kt} (hd : decode (jx_cc me) pc = .ok (.ifnull off, 3)) (ht : (pc : Int) + off = (tgt : Int)) (σ : jx_S) (h : jx_nl (fun σ => jx_J g me tgt σ K) (fun σ => jx_J g me (pc + 3) σ K) σ) : jx_J g me pc σ K := by
  obtain ⟨lv, st, μ, b⟩ := σ
  rcases st with _ | ⟨x, st⟩
  · exact False.elim h
  · obtain ⟨ha, hA, hB⟩ := h
    intro p e R s m args below meth c H locs cells slots ls mc ms hC hH hS hl h1 h2 h3 h4
    rcases ha with rfl | ⟨a, rfl⟩
    · exact lv_ifnullN hC.1 hC.2.1 hd ht (hA rfl p e R s m args below meth c H locs cells slots ls mc ms hC hH hS hl h1 h2 h3 h4)
    · exact lv_ifnull hC.1 hC.2.1 hd (hB (fun q => by cases q) p e R s m args below meth c H locs cells slots ls mc ms hC hH hS hl h1 h2 h3 h4)
theorem jb_ifnonnull {g : jx_G} {me : jx_me} {pc tgt : Nat} {off : Int} {K : jx_Kt} (hd : decode (jx_cc me) pc = .ok (.ifnonnull off, 3)) (ht : (pc : Int) + off = (tgt : Int)) (σ : jx_S) (h : jx_nl (fun σ => jx_J g me (pc + 3) σ K) (fun σ => jx_J g me tgt σ K) σ) : jx_J g me pc σ K := by
  obtain ⟨lv, st, μ, b⟩ := σ
  rcases st with _ | ⟨x, st⟩
  · exact False.elim h
  · obtain ⟨ha, hA, hB⟩ := h
    intro p e R s m args below meth c H locs cells slots ls mc ms hC hH hS hl h1 h2 h3 h4
    rcases ha with rfl | ⟨a, rfl⟩
    · exact lv_ifnonnullN hC.1 hC.2.1 hd (hA rfl p e R s m args below meth c H locs cells slots ls mc ms hC hH hS hl h1 h2 h3 h4)
    · exact lv_ifnonnull hC.1 hC.2.1 hd ht (hB (fun q => by cases q) p e R s m args below meth c H locs cells slots ls mc ms hC hH hS hl h1 h2 h3 h4)
/-! ends -/
theorem jx_end {g : jx_G} {s t : State} {H : Heap} {locs : List Loc} {μ : jx_M} {K : jx_Kt} {v : Option Value} {args : Array Value} (hH : jx_H g s H μ) (hS : va_S (fun q => g.2.2.1 ≤ q) s.heap H locs) (hK : K (.inl v) μ) (ht : t.heap = H) (hW : s.WarmedH t.vm) : jx_Qc g K args s (.returned v) t :=
  ⟨v, μ, rfl, hK, by rw [ht]; exact jx_H_moved hW.alike hH, hS.F ht⟩
theorem jb_iret {g : jx_G} {me : jx_me} {pc : Nat} {K : jx_Kt} (hd : decode (jx_cc me) pc = .ok (.ireturn, 1)) (hr : jx_re me = some .int) {lv : List (Nat × Value)} {v : Int32} {μ : jx_M} {b : Nat × Nat} (h : K (.inl (some (.int v))) μ) : jx_J g me pc (lv, [.int v], μ, b) K := by
  intro p e R s m args below meth c H locs cells slots ls mc ms hC hH hS hl h1 h2 h3 h4
  refine vx_ret (W.widen (k := mc) (n := ms) (by omega) (by omega) ?_)
  exact W.iret hC.1 hC.2.1 (hC.2.2.2.2.1.trans hr) (fun t ht hW => jx_end hH hS h ht hW) hS.2.2 hd hC.2.2.2.2.2.1
theorem jb_zret {g : jx_G} {me : jx_me} {pc : Nat} {K : jx_Kt} (hd : decode (jx_cc me) pc = .ok (.ireturn, 1)) (hr : jx_re me = some .boolean) {lv : List (Nat × Value)} {v : Int32} {μ : jx_M} {b : Nat × Nat} (hv : v = 0 ∨ v = 1) (h : K (.inl (some (.int v))) μ) : jx_J g me pc (lv, [.int v], μ, b) K := by
  intro p e R s m args below meth c H locs cells slots ls mc ms hC hH hS hl h1 h2 h3 h4
  refine vx_ret (W.widen (k := mc) (n := ms) (by omega) (by omega) ?_)
  exact W.zret hC.1 hC.2.1 (hC.2.2.2.2.1.trans hr) (by rcases hv with rfl | rfl <;> rfl) (fun t ht hW => jx_end hH hS h ht hW) hS.2.2 hd hC.2.2.2.2.2.1
theorem jb_vret {g : jx_G} {me : jx_me} {pc : Nat} {K : jx_Kt} (hd : decode (jx_cc me) pc = .ok (.return_, 1)) (hr : jx_re me = none) {lv : List (Nat × Value)} {μ : jx_M} {b : Nat × Nat} (h : K (.inl none) μ) : jx_J g me pc (lv, [], μ, b) K := by
  intro p e R s m args below meth c H locs cells slots ls mc ms hC hH hS hl h1 h2 h3 h4
  refine vx_ret (W.widen (k := mc) (n := ms) (by omega) (by omega) ?_)
  exact W.vret hC.1 hC.2.1 (hC.2.2.2.2.1.trans hr) (fun t ht hW => jx_end hH hS h ht hW) hS.2.2 hd hC.2.2.2.2.2.1
theorem jb_aret {g : jx_G} {me : jx_me} {pc : Nat} {K : jx_Kt} {C : String} (hd : decode (jx_cc me) pc = .ok (.areturn, 1)) (hr : jx_re me = some (.object C)) {lv : List (Nat × Value)} {v : Value} {μ : jx_M} {b : Nat × Nat} (hv : jx_a v) (h : K (.inl (some v)) μ) : jx_J g me pc (lv, [v], μ, b) K := by
  intro p e R s m args below meth c H locs cells slots ls mc ms hC hH hS hl h1 h2 h3 h4
  refine vx_ret (W.widen (k := mc) (n := ms) (by omega) (by omega) ?_)
  exact W.aret hC.1 hC.2.1 (hC.2.2.2.2.1.trans hr) (Or.inl ⟨C, rfl⟩) hv (fun t ht hW => jx_end hH hS h ht hW) hS.2.2 hd hC.2.2.2.2.2.1
theorem jb_lret {g : jx_G} {me : jx_me} {pc : Nat} {K : jx_Kt} (hd : decode (jx_cc me) pc = .ok (.lreturn, 1)) (hr : jx_re me = some .long) {lv : List (Nat × Value)} {v : Int64} {μ : jx_M} {b : Nat × Nat} (h : K (.inl (some (.long v))) μ) : jx_J g me pc (lv, [.long v], μ, b) K := by
  intro p e R s m args below meth c H locs cells slots ls mc ms hC hH hS hl h1 h2 h3 h4
  refine vx_ret (W.widen (k := mc) (n := ms) (by omega) (by omega) ?_)
  exact W.lret hC.1 hC.2.1 (hC.2.2.2.2.1.trans hr) (fun t ht hW => jx_end hH hS h ht hW) hS.2.2 hd hC.2.2.2.2.2.1
/-! fields -/
def jx_ok (μ : jx_M) (a lo hi : Nat) : Prop := ∃ ci, jx_kn μ a = some (.inl ci) ∧ lo ≤ ci ∧ ci ≤ hi
theorem jx_ok_of {μ : jx_M} {a lo hi ci : Nat} (h : jx_kn μ a = some (.inl ci)) (h1 : lo ≤ ci) (h2 : ci ≤ hi) : jx_ok μ a lo hi := ⟨ci, h, h1, h2⟩
def jx_fo (own : String) (idx k lo hi : Nat) (fin : Bool) (ty : FieldType) : Prop := ∃ ref name desc : String, Cond.fieldLink own idx ref name desc ∈ jx_ws ∧ parseFieldDescriptor desc = some ty ∧ ∀ ci, lo ≤ ci → ci ≤ hi → ∃ (C : String) (T : u_T) (N : Nat), jx_cl[ci]? = some (C, T, N) ∧ k < N ∧ (T k).2.1 = name ∧ (T k).2.2.1 = desc ∧ (T k).2.2.2 = fin ∧ ((T k).1 = ref ∨ Cond.sameField ref (T k).1 name desc ∈ jx_ws)
def jx_dl (own : String) (k lo hi : Nat) : Prop := ∀ ci, lo ≤ ci → ci ≤ hi → ∃ (C : String) (T : u_T) (N : Nat), jx_cl[ci]? = some (C, T, N) ∧ (T k).1 = own
theorem jx_H_put {g : jx_G} {U : State} {H H' : Heap} {μ μ' : jx_M} {a : Nat} {k : jx_K} (h : jx_H g U H μ) (hk : jx_kn μ a = some k) (e2 : H'.size = H.size) (e3 : ∀ q, q ≠ a → H'[q]? = H[q]?) (hs : jx_sz μ' = jx_sz μ) (hn : jx_kn μ' = jx_kn μ)
    (hi : ∀ q, q ≠ a → ∀ j, jx_vi μ' q j = jx_vi μ q j) (hl : ∀ q, q ≠ a → ∀ j, jx_vl μ' q j = jx_vl μ q j) (hr : ∀ q, q ≠ a → ∀ j, jx_vr μ' q j = jx_vr μ q j) (ha : jx_at g U μ' H' a k) : jx_H g U H' μ' := by
  refine ⟨by rw [e2]; exact h.1, by rw [e2, hs]; exact h.2.1, fun q k' hq => ?_⟩
  rw [hn] at hq
  by_cases e : q = a
  · subst e
    cases Option.some.inj (hk.symm.trans hq)
    exact ha
  · exact jx_at_kept (h.2.2 q k' hq) (e3 q e) (hi q e) (hl q e) (hr q e)
theorem jx_si_sz {μ : jx_M} {a k : Nat} {v : Int32} : jx_sz (jx_si μ a k v) = jx_sz μ := rfl
theorem jx_si_kn {μ : jx_M} {a k : Nat} {v : Int32} : jx_kn (jx_si μ a k v) = jx_kn μ := rfl
theorem jx_si_vi {μ : jx_M} {a k a' k' : Nat} {v : Int32} : jx_vi (jx_si μ a k v) a' k' = if a' = a ∧ k' = k then v else jx_vi μ a' k' := rfl
theorem jx_si_vl {μ : jx_M} {a k : Nat} {v : Int32} : jx_vl (jx_si μ a k v) = jx_vl μ := rfl
theorem jx_si_vr {μ : jx_M} {a k : Nat} {v : Int32} : jx_vr (jx_si μ a k v) = jx_vr μ := rfl
theorem jx_sl_sz {μ : jx_M} {a k : Nat} {v : Int64} : jx_sz (jx_sl μ a k v) = jx_sz μ := rfl
theorem jx_sl_kn {μ : jx_M} {a k : Nat} {v : Int64} : jx_kn (jx_sl μ a k v) = jx_kn μ := rfl
theorem jx_sl_vi {μ : jx_M} {a k : Nat} {v : Int64} : jx_vi (jx_sl μ a k v) = jx_vi μ := rfl
theorem jx_sl_vl {μ : jx_M} {a k a' k' : Nat} {v : Int64} : jx_vl (jx_sl μ a k v) a' k' = if a' = a ∧ k' = k then v else jx_vl μ a' k' := rfl
theorem jx_sl_vr {μ : jx_M} {a k : Nat} {v : Int64} : jx_vr (jx_sl μ a k v) = jx_vr μ := rfl
theorem jx_sr_sz {μ : jx_M} {a k : Nat} {v : Option Nat} : jx_sz (jx_sr μ a k v) = jx_sz μ := rfl
theorem jx_sr_kn {μ : jx_M} {a k : Nat} {v : Option Nat} : jx_kn (jx_sr μ a k v) = jx_kn μ := rfl
theorem jx_sr_vi {μ : jx_M} {a k : Nat} {v : Option Nat} : jx_vi (jx_sr μ a k v) = jx_vi μ := rfl
theorem jx_sr_vl {μ : jx_M} {a k : Nat} {v : Option Nat} : jx_vl (jx_sr μ a k v) = jx_vl μ := rfl
theorem jx_sr_vr {μ : jx_M} {a k a' k' : Nat} {v : Option Nat} : jx_vr (jx_sr μ a k v) a' k' = if a' = a ∧ k' = k then v else jx_vr μ a' k' := rfl

def jt_gfi (k lo hi : Nat) : jx_tr := fun σ P => match σ with
  | (lv, x :: st, μ, b) => jx_r x ∧ jx_ok μ (jx_ad x) lo hi ∧ P (lv, .int (jx_vi μ (jx_ad x) k) :: st, μ, b)
  | _ => False
theorem jt_gfi_e (k lo hi : Nat) {x : Value} {lv : List (Nat × Value)} {st : List Value} {μ : jx_M} {b : Nat × Nat} {P : jx_S → Prop} : jt_gfi k lo hi (lv, x :: st, μ, b) P = (jx_r x ∧ jx_ok μ (jx_ad x) lo hi ∧ P (lv, .int (jx_vi μ (jx_ad x) k) :: st, μ, b)) := rfl
theorem js_gfi {g : jx_G} {me : jx_me} {pc k lo hi idx : Nat} {fin : Bool} {ty : FieldType} (hd : decode (jx_cc me) pc = .ok (.getfield idx, 3)) (hf : jx_fo (jx_ow me) idx k lo hi fin ty) (hty : jx_isr ty = false) : jx_So g me pc (pc + 3) (jt_gfi k lo hi) := by
  intro K P σ hP ht
  obtain ⟨lv, st, μ, b⟩ := σ
  rcases st with _ | ⟨x, st⟩
  · exact False.elim ht
  · obtain ⟨⟨a, rfl⟩, ⟨ci, hk, hlo, hhi⟩, ht⟩ := ht
    intro p e R s m args below meth c H locs cells slots ls mc ms hC hH hS hl h1 h2 h3 h4
    obtain ⟨ref, name, desc, hlink, hpd, hall⟩ := hf
    obtain ⟨C, T, N, hc, hkN, rfl, rfl, -, hsame⟩ := hall ci hlo hhi
    obtain ⟨-, r, hr, cell, q1, q2, q3, q4⟩ := hH.2.2 _ _ hk
    have er : r = (C, T, N) := Option.some.inj (hr.symm.trans hc)
    subst er
    have hts := hC.2.2.2.2.2.2.2.2.1
    obtain ⟨hSl, hfc, kC, hkC, hkind⟩ := (jx_Ga_K hC.2.2.2.2.2.2.2.2.2.1).1 ci _ hc
    obtain ⟨cf, kf, fi, f, hi9, hsl⟩ := hSl k hkN
    obtain ⟨t1, t2, t3⟩ := jx_ct hc
    have hsm : s.fieldFound? ref (T k).2.1 (T k).2.2.1 = some (cf, kf, fi, f) := by
      rcases hsame with e9 | h9
      · rw [← e9]; exact hi9
      · exact u_same (hts _ h9) _ hi9
    refine W.getf hC.1 hC.2.1 hC.2.2.2.1 (hts _ hlink) hsm (u_facts hfc hkC (u_lays hts t1 hkN) hi9).1 q1 (by rw [q3]; exact fun h => by cases h) (v := .int (jx_vi μ a k)) ?_ rfl rfl hd (hP _ ht p e R s m args below meth c H locs cells slots ls mc ms hC hH hS hl h1 h2 h3 h4)
    rw [hsl, q4 k hkN]
    have hty9 : jx_rt ci k = false := by
      have h9 := t2 k hkN
      rw [hpd] at h9
      rw [jx_rt_ty ci k, ← Option.some.inj h9]; exact hty
    simp [jx_V, hty9, jx_ad]
def jt_gfr (k lo hi : Nat) : jx_tr := fun σ P => match σ with
  | (lv, x :: st, μ, b) => jx_r x ∧ jx_ok μ (jx_ad x) lo hi ∧ P (lv, va_rf (jx_vr μ (jx_ad x) k) :: st, μ, b)
  | _ => False
theorem jt_gfr_e (k lo hi : Nat) {x : Value} {lv : List (Nat × Value)} {st : List Value} {μ : jx_M} {b : Nat × Nat} {P : jx_S → Prop} : jt_gfr k lo hi (lv, x :: st, μ, b) P = (jx_r x ∧ jx_ok μ (jx_ad x) lo hi ∧ P (lv, va_rf (jx_vr μ (jx_ad x) k) :: st, μ, b)) := rfl
theorem js_gfr {g : jx_G} {me : jx_me} {pc k lo hi idx : Nat} {fin : Bool} {ty : FieldType} (hd : decode (jx_cc me) pc = .ok (.getfield idx, 3)) (hf : jx_fo (jx_ow me) idx k lo hi fin ty) (hty : jx_isr ty = true) : jx_So g me pc (pc + 3) (jt_gfr k lo hi) := by
  intro K P σ hP ht
  obtain ⟨lv, st, μ, b⟩ := σ
  rcases st with _ | ⟨x, st⟩
  · exact False.elim ht
  · obtain ⟨⟨a, rfl⟩, ⟨ci, hk, hlo, hhi⟩, ht⟩ := ht
    intro p e R s m args below meth c H locs cells slots ls mc ms hC hH hS hl h1 h2 h3 h4
    obtain ⟨ref, name, desc, hlink, hpd, hall⟩ := hf
    obtain ⟨C, T, N, hc, hkN, rfl, rfl, -, hsame⟩ := hall ci hlo hhi
    obtain ⟨-, r, hr, cell, q1, q2, q3, q4⟩ := hH.2.2 _ _ hk
    have er : r = (C, T, N) := Option.some.inj (hr.symm.trans hc)
    subst er
    have hts := hC.2.2.2.2.2.2.2.2.1
    obtain ⟨hSl, hfc, kC, hkC, hkind⟩ := (jx_Ga_K hC.2.2.2.2.2.2.2.2.2.1).1 ci _ hc
    obtain ⟨cf, kf, fi, f, hi9, hsl⟩ := hSl k hkN
    obtain ⟨t1, t2, t3⟩ := jx_ct hc
    have hsm : s.fieldFound? ref (T k).2.1 (T k).2.2.1 = some (cf, kf, fi, f) := by
      rcases hsame with e9 | h9
      · rw [← e9]; exact hi9
      · exact u_same (hts _ h9) _ hi9
    refine W.getf hC.1 hC.2.1 hC.2.2.2.1 (hts _ hlink) hsm (u_facts hfc hkC (u_lays hts t1 hkN) hi9).1 q1 (by rw [q3]; exact fun h => by cases h) (v := va_rf (jx_vr μ a k)) ?_ rfl rfl hd (hP _ ht p e R s m args below meth c H locs cells slots ls mc ms hC hH hS hl h1 h2 h3 h4)
    rw [hsl, q4 k hkN]
    have hty9 : jx_rt ci k = true := by
      have h9 := t2 k hkN
      rw [hpd] at h9
      rw [jx_rt_ty ci k, ← Option.some.inj h9]; exact hty
    simp [jx_V, hty9, jx_ad]
def jt_pfi (k lo hi : Nat) : jx_tr := fun σ P => match σ with
  | (lv, x :: y :: st, μ, b) => jx_i x ∧ jx_r y ∧ jx_ok μ (jx_ad y) lo hi ∧ P (lv, st, jx_si μ (jx_ad y) k (jx_iv x), b)
  | _ => False
theorem jt_pfi_e (k lo hi : Nat) {x y : Value} {lv : List (Nat × Value)} {st : List Value} {μ : jx_M} {b : Nat × Nat} {P : jx_S → Prop} : jt_pfi k lo hi (lv, x :: y :: st, μ, b) P = (jx_i x ∧ jx_r y ∧ jx_ok μ (jx_ad y) lo hi ∧ P (lv, st, jx_si μ (jx_ad y) k (jx_iv x), b)) := rfl
theorem js_pfi {g : jx_G} {me : jx_me} {pc k lo hi idx : Nat} {ty : FieldType} (hd : decode (jx_cc me) pc = .ok (.putfield idx, 3)) (hf : jx_fo (jx_ow me) idx k lo hi false ty) (hty : ty = .int) : jx_So g me pc (pc + 3) (jt_pfi k lo hi) := by
  intro K P σ hP ht
  obtain ⟨lv, st, μ, b⟩ := σ
  rcases st with _ | ⟨x, _ | ⟨y, st⟩⟩
  · exact False.elim ht
  · exact False.elim ht
  · obtain ⟨hx, ⟨a, rfl⟩, ⟨ci, hk, hlo, hhi⟩, ht⟩ := ht
    obtain ⟨x, rfl⟩ := hx
    subst hty
    have hk : jx_kn μ a = some (.inl ci) := hk
    have ht : P (lv, st, jx_si μ a k x, b) := ht
    intro p e R s m args below meth c H locs cells slots ls mc ms hC hH hS hl h1 h2 h3 h4
    obtain ⟨ref, name, desc, hlink, hpd, hall⟩ := hf
    obtain ⟨C, T, N, hc, hkN, rfl, rfl, hfin, hsame⟩ := hall ci hlo hhi
    obtain ⟨hB, r, hr, cell, q1, q2, q3, q4⟩ := hH.2.2 _ _ hk
    have er : r = (C, T, N) := Option.some.inj (hr.symm.trans hc)
    subst er
    have hts := hC.2.2.2.2.2.2.2.2.1
    have hKK := jx_Ga_K hC.2.2.2.2.2.2.2.2.2.1
    obtain ⟨hSl, hfc, kC, hkC, hkind⟩ := hKK.1 ci _ hc
    obtain ⟨cf, kf, fi, f, hi9, hsl⟩ := hSl k hkN
    obtain ⟨t1, t2, t3⟩ := jx_ct hc
    have hap := va_apart (own := C) hts t1 (jx_ty ci) t2 t3 hKK hc
    have hsm : s.fieldFound? ref (T k).2.1 (T k).2.2.1 = some (cf, kf, fi, f) := by
      rcases hsame with e9 | h9
      · rw [← e9]; exact hi9
      · exact u_same (hts _ h9) _ hi9
    have hlay := hts _ (t1 _ (u_in_lay hkN))
    unfold u_lay at hlay
    have hst := (u_facts hfc hkC (u_lays hts t1 hkN) hi9).1
    rw [if_neg (by rw [hfin]; decide)] at hlay
    have h6 := u_store hfc hkC hkind hlay hi9 hpd (v := .int x) rfl rfl
    refine W.putK hC.1 hC.2.1 (f := f) ⟨hC.2.2.2.1, hts _ hlink, ⟨_, _, _, hsm⟩, hst⟩ (by rw [q2]; exact h6) q1 q3 (by rw [hsl]; exact k2_hasslot (q4 k hkN)) rfl rfl hd fun H' e1 e2 e3 => ?_
    rw [hsl] at e1 ⊢
    have hty9 : jx_rt ci k = false := by
      have h9 := t2 k hkN
      rw [hpd] at h9
      rw [jx_rt_ty ci k, ← Option.some.inj h9]; rfl
    refine hP _ ht p e R s m args below meth c H' _ cells slots ls mc ms hC ?_ (hS.put e2 e3 hB) hl h1 h2 h3 h4
    refine jx_H_put hH hk e2 e3 rfl rfl (fun q hq j => by simp [jx_si, jx_vi, jx_u2, jx_ad, hq]) (fun _ _ _ => rfl) (fun _ _ _ => rfl) ⟨hB, _, hc, t_OB.to (V := updV (jx_V μ a ci) k (.int x)) ⟨_, e1, q2, q3, t_set q4 hap hkN _⟩ (fun j _ => ?_)⟩
    by_cases hj : j = k
    · subst hj
      simp [updV, jx_V, hty9, jx_si, jx_vi, jx_u2, jx_ad]
    · simp [updV, jx_V, hj, jx_si, jx_vi, jx_vr, jx_u2]
theorem js_pfiF {g : jx_G} {me : jx_me} {pc k lo hi idx : Nat} {ty : FieldType} (hd : decode (jx_cc me) pc = .ok (.putfield idx, 3)) (hf : jx_fo (jx_ow me) idx k lo hi true ty) (hty : ty = .int) (hini : jx_ini me = true) (hdl : jx_dl (jx_ow me) k lo hi) : jx_So g me pc (pc + 3) (jt_pfi k lo hi) := by
  intro K P σ hP ht
  obtain ⟨lv, st, μ, b⟩ := σ
  rcases st with _ | ⟨x, _ | ⟨y, st⟩⟩
  · exact False.elim ht
  · exact False.elim ht
  · obtain ⟨hx, ⟨a, rfl⟩, ⟨ci, hk, hlo, hhi⟩, ht⟩ := ht
    obtain ⟨x, rfl⟩ := hx
    subst hty
    have hk : jx_kn μ a = some (.inl ci) := hk
    have ht : P (lv, st, jx_si μ a k x, b) := ht
    intro p e R s m args below meth c H locs cells slots ls mc ms hC hH hS hl h1 h2 h3 h4
    obtain ⟨ref, name, desc, hlink, hpd, hall⟩ := hf
    obtain ⟨C, T, N, hc, hkN, rfl, rfl, hfin, hsame⟩ := hall ci hlo hhi
    obtain ⟨hB, r, hr, cell, q1, q2, q3, q4⟩ := hH.2.2 _ _ hk
    have er : r = (C, T, N) := Option.some.inj (hr.symm.trans hc)
    subst er
    have hts := hC.2.2.2.2.2.2.2.2.1
    have hKK := jx_Ga_K hC.2.2.2.2.2.2.2.2.2.1
    obtain ⟨hSl, hfc, kC, hkC, hkind⟩ := hKK.1 ci _ hc
    obtain ⟨cf, kf, fi, f, hi9, hsl⟩ := hSl k hkN
    obtain ⟨t1, t2, t3⟩ := jx_ct hc
    have hap := va_apart (own := C) hts t1 (jx_ty ci) t2 t3 hKK hc
    have hsm : s.fieldFound? ref (T k).2.1 (T k).2.2.1 = some (cf, kf, fi, f) := by
      rcases hsame with e9 | h9
      · rw [← e9]; exact hi9
      · exact u_same (hts _ h9) _ hi9
    have hlay := hts _ (t1 _ (u_in_lay hkN))
    unfold u_lay at hlay
    have hst := (u_facts hfc hkC (u_lays hts t1 hkN) hi9).1
    rw [if_pos hfin] at hlay
    have hcf : m.cls = cf := by
      obtain ⟨_, _, c', _, _, _, -, -, hf', -, -, -, hown2, -⟩ := Cond.laysFinal_spec hlay
      have e1 : c' = cf := by have := hi9.symm.trans hf'; simp at this; exact this.1.symm
      obtain ⟨C9, T9, N9, hc9, hdecl⟩ := hdl ci hlo hhi
      cases Option.some.inj (hc9.symm.trans hc)
      rw [hdecl] at hown2
      rw [← e1]; exact Option.some.inj (hC.2.2.2.1.symm.trans hown2)
    have h6 := u_fits hfc hkC hkind (Or.inr hlay) hi9 hpd (v := .int x) rfl rfl
    refine W.putFinK hC.1 hC.2.1 hC.2.2.2.1 (hts _ hlink) hsm hst hcf (hC.2.2.2.2.2.2.1 hini) (by rw [q2]; exact h6) q1 q3 (by rw [hsl]; exact k2_hasslot (q4 k hkN)) rfl rfl hd fun H' e1 e2 e3 => ?_
    rw [hsl] at e1 ⊢
    have hty9 : jx_rt ci k = false := by
      have h9 := t2 k hkN
      rw [hpd] at h9
      rw [jx_rt_ty ci k, ← Option.some.inj h9]; rfl
    refine hP _ ht p e R s m args below meth c H' _ cells slots ls mc ms hC ?_ (hS.put e2 e3 hB) hl h1 h2 h3 h4
    refine jx_H_put hH hk e2 e3 rfl rfl (fun q hq j => by simp [jx_si, jx_vi, jx_u2, jx_ad, hq]) (fun _ _ _ => rfl) (fun _ _ _ => rfl) ⟨hB, _, hc, t_OB.to (V := updV (jx_V μ a ci) k (.int x)) ⟨_, e1, q2, q3, t_set q4 hap hkN _⟩ (fun j _ => ?_)⟩
    by_cases hj : j = k
    · subst hj
      simp [updV, jx_V, hty9, jx_si, jx_vi, jx_u2, jx_ad]
    · simp [updV, jx_V, hj, jx_si, jx_vi, jx_vr, jx_u2]
def jt_pfz (k lo hi : Nat) : jx_tr := fun σ P => match σ with
  | (lv, x :: y :: st, μ, b) => (x = .int 0 ∨ x = .int 1) ∧ jx_r y ∧ jx_ok μ (jx_ad y) lo hi ∧ P (lv, st, jx_si μ (jx_ad y) k (jx_iv x), b)
  | _ => False
theorem jt_pfz_e (k lo hi : Nat) {x y : Value} {lv : List (Nat × Value)} {st : List Value} {μ : jx_M} {b : Nat × Nat} {P : jx_S → Prop} : jt_pfz k lo hi (lv, x :: y :: st, μ, b) P = ((x = .int 0 ∨ x = .int 1) ∧ jx_r y ∧ jx_ok μ (jx_ad y) lo hi ∧ P (lv, st, jx_si μ (jx_ad y) k (jx_iv x), b)) := rfl
theorem js_pfz {g : jx_G} {me : jx_me} {pc k lo hi idx : Nat} {ty : FieldType} (hd : decode (jx_cc me) pc = .ok (.putfield idx, 3)) (hf : jx_fo (jx_ow me) idx k lo hi false ty) (hty : ty = .boolean) : jx_So g me pc (pc + 3) (jt_pfz k lo hi) := by
  intro K P σ hP ht
  obtain ⟨lv, st, μ, b⟩ := σ
  rcases st with _ | ⟨x, _ | ⟨y, st⟩⟩
  · exact False.elim ht
  · exact False.elim ht
  · obtain ⟨hx, ⟨a, rfl⟩, ⟨ci, hk, hlo, hhi⟩, ht⟩ := ht
    obtain ⟨x, rfl, hz⟩ : ∃ z, x = .int z ∧ (z = 0 ∨ z = 1) := by
      rcases hx with h | h
      · exact ⟨0, h, Or.inl rfl⟩
      · exact ⟨1, h, Or.inr rfl⟩
    subst hty
    have hk : jx_kn μ a = some (.inl ci) := hk
    have ht : P (lv, st, jx_si μ a k x, b) := ht
    intro p e R s m args below meth c H locs cells slots ls mc ms hC hH hS hl h1 h2 h3 h4
    obtain ⟨ref, name, desc, hlink, hpd, hall⟩ := hf
    obtain ⟨C, T, N, hc, hkN, rfl, rfl, hfin, hsame⟩ := hall ci hlo hhi
    obtain ⟨hB, r, hr, cell, q1, q2, q3, q4⟩ := hH.2.2 _ _ hk
    have er : r = (C, T, N) := Option.some.inj (hr.symm.trans hc)
    subst er
    have hts := hC.2.2.2.2.2.2.2.2.1
    have hKK := jx_Ga_K hC.2.2.2.2.2.2.2.2.2.1
    obtain ⟨hSl, hfc, kC, hkC, hkind⟩ := hKK.1 ci _ hc
    obtain ⟨cf, kf, fi, f, hi9, hsl⟩ := hSl k hkN
    obtain ⟨t1, t2, t3⟩ := jx_ct hc
    have hap := va_apart (own := C) hts t1 (jx_ty ci) t2 t3 hKK hc
    have hsm : s.fieldFound? ref (T k).2.1 (T k).2.2.1 = some (cf, kf, fi, f) := by
      rcases hsame with e9 | h9
      · rw [← e9]; exact hi9
      · exact u_same (hts _ h9) _ hi9
    have hlay := hts _ (t1 _ (u_in_lay hkN))
    unfold u_lay at hlay
    have hst := (u_facts hfc hkC (u_lays hts t1 hkN) hi9).1
    rw [if_neg (by rw [hfin]; decide)] at hlay
    have h6 := u_store hfc hkC hkind hlay hi9 hpd (v := .int x) (by rcases hz with rfl | rfl <;> rfl) (by rcases hz with rfl | rfl <;> rfl)
    refine W.putK hC.1 hC.2.1 (f := f) ⟨hC.2.2.2.1, hts _ hlink, ⟨_, _, _, hsm⟩, hst⟩ (by rw [q2]; exact h6) q1 q3 (by rw [hsl]; exact k2_hasslot (q4 k hkN)) rfl rfl hd fun H' e1 e2 e3 => ?_
    rw [hsl] at e1 ⊢
    have hty9 : jx_rt ci k = false := by
      have h9 := t2 k hkN
      rw [hpd] at h9
      rw [jx_rt_ty ci k, ← Option.some.inj h9]; rfl
    refine hP _ ht p e R s m args below meth c H' _ cells slots ls mc ms hC ?_ (hS.put e2 e3 hB) hl h1 h2 h3 h4
    refine jx_H_put hH hk e2 e3 rfl rfl (fun q hq j => by simp [jx_si, jx_vi, jx_u2, jx_ad, hq]) (fun _ _ _ => rfl) (fun _ _ _ => rfl) ⟨hB, _, hc, t_OB.to (V := updV (jx_V μ a ci) k (.int x)) ⟨_, e1, q2, q3, t_set q4 hap hkN _⟩ (fun j _ => ?_)⟩
    by_cases hj : j = k
    · subst hj
      simp [updV, jx_V, hty9, jx_si, jx_vi, jx_u2, jx_ad]
    · simp [updV, jx_V, hj, jx_si, jx_vi, jx_vr, jx_u2]
def jt_pfr (k lo hi : Nat) : jx_tr := fun σ P => match σ with
  | (lv, x :: y :: st, μ, b) => jx_a x ∧ jx_r y ∧ jx_ok μ (jx_ad y) lo hi ∧ P (lv, st, jx_sr μ (jx_ad y) k (jx_rv x), b)
  | _ => False
theorem jt_pfr_e (k lo hi : Nat) {x y : Value} {lv : List (Nat × Value)} {st : List Value} {μ : jx_M} {b : Nat × Nat} {P : jx_S → Prop} : jt_pfr k lo hi (lv, x :: y :: st, μ, b) P = (jx_a x ∧ jx_r y ∧ jx_ok μ (jx_ad y) lo hi ∧ P (lv, st, jx_sr μ (jx_ad y) k (jx_rv x), b)) := rfl
theorem js_pfr {g : jx_G} {me : jx_me} {pc k lo hi idx : Nat} {ty : FieldType} (hd : decode (jx_cc me) pc = .ok (.putfield idx, 3)) (hf : jx_fo (jx_ow me) idx k lo hi false ty) (hty : jx_isr ty = true) : jx_So g me pc (pc + 3) (jt_pfr k lo hi) := by
  intro K P σ hP ht
  obtain ⟨lv, st, μ, b⟩ := σ
  rcases st with _ | ⟨x, _ | ⟨y, st⟩⟩
  · exact False.elim ht
  · exact False.elim ht
  · obtain ⟨hx, ⟨a, rfl⟩, ⟨ci, hk, hlo, hhi⟩, ht⟩ := ht
    obtain ⟨o, rfl⟩ : ∃ o, x = va_rf o := by
      rcases hx with rfl | ⟨a9, rfl⟩
      · exact ⟨none, rfl⟩
      · exact ⟨some a9, rfl⟩
    rw [jx_rv_rf] at ht
    have hk : jx_kn μ a = some (.inl ci) := hk
    have ht : P (lv, st, jx_sr μ a k o, b) := ht
    intro p e R s m args below meth c H locs cells slots ls mc ms hC hH hS hl h1 h2 h3 h4
    obtain ⟨ref, name, desc, hlink, hpd, hall⟩ := hf
    obtain ⟨C, T, N, hc, hkN, rfl, rfl, hfin, hsame⟩ := hall ci hlo hhi
    obtain ⟨hB, r, hr, cell, q1, q2, q3, q4⟩ := hH.2.2 _ _ hk
    have er : r = (C, T, N) := Option.some.inj (hr.symm.trans hc)
    subst er
    have hts := hC.2.2.2.2.2.2.2.2.1
    have hKK := jx_Ga_K hC.2.2.2.2.2.2.2.2.2.1
    obtain ⟨hSl, hfc, kC, hkC, hkind⟩ := hKK.1 ci _ hc
    obtain ⟨cf, kf, fi, f, hi9, hsl⟩ := hSl k hkN
    obtain ⟨t1, t2, t3⟩ := jx_ct hc
    have hap := va_apart (own := C) hts t1 (jx_ty ci) t2 t3 hKK hc
    have hsm : s.fieldFound? ref (T k).2.1 (T k).2.2.1 = some (cf, kf, fi, f) := by
      rcases hsame with e9 | h9
      · rw [← e9]; exact hi9
      · exact u_same (hts _ h9) _ hi9
    have hlay := hts _ (t1 _ (u_in_lay hkN))
    unfold u_lay at hlay
    have hst := (u_facts hfc hkC (u_lays hts t1 hkN) hi9).1
    rw [if_neg (by rw [hfin]; decide)] at hlay
    have h6 := u_store hfc hkC hkind hlay hi9 hpd (v := va_rf o) (jx_nar_rf hty) (jx_fit_rf hty)
    refine W.putK hC.1 hC.2.1 (f := f) ⟨hC.2.2.2.1, hts _ hlink, ⟨_, _, _, hsm⟩, hst⟩ (by rw [q2]; exact h6) q1 q3 (by rw [hsl]; exact k2_hasslot (q4 k hkN)) rfl rfl hd fun H' e1 e2 e3 => ?_
    rw [hsl] at e1 ⊢
    have hty9 : jx_rt ci k = true := by
      have h9 := t2 k hkN
      rw [hpd] at h9
      rw [jx_rt_ty ci k, ← Option.some.inj h9]; exact hty
    refine hP _ ht p e R s m args below meth c H' _ cells slots ls mc ms hC ?_ (hS.put e2 e3 hB) hl h1 h2 h3 h4
    refine jx_H_put hH hk e2 e3 rfl rfl (fun _ _ _ => rfl) (fun _ _ _ => rfl) (fun q hq j => by simp [jx_sr, jx_vr, jx_u2, jx_ad, hq]) ⟨hB, _, hc, t_OB.to (V := updV (jx_V μ a ci) k (va_rf o)) ⟨_, e1, q2, q3, t_set q4 hap hkN _⟩ (fun j _ => ?_)⟩
    by_cases hj : j = k
    · subst hj
      simp [updV, jx_V, hty9, jx_sr, jx_vr, jx_u2, jx_ad]
    · simp [updV, jx_V, hj, jx_sr, jx_vi, jx_vr, jx_u2]
theorem js_pfrF {g : jx_G} {me : jx_me} {pc k lo hi idx : Nat} {ty : FieldType} (hd : decode (jx_cc me) pc = .ok (.putfield idx, 3)) (hf : jx_fo (jx_ow me) idx k lo hi true ty) (hty : jx_isr ty = true) (hini : jx_ini me = true) (hdl : jx_dl (jx_ow me) k lo hi) : jx_So g me pc (pc + 3) (jt_pfr k lo hi) := by
  intro K P σ hP ht
  obtain ⟨lv, st, μ, b⟩ := σ
  rcases st with _ | ⟨x, _ | ⟨y, st⟩⟩
  · exact False.elim ht
  · exact False.elim ht
  · obtain ⟨hx, ⟨a, rfl⟩, ⟨ci, hk, hlo, hhi⟩, ht⟩ := ht
    obtain ⟨o, rfl⟩ : ∃ o, x = va_rf o := by
      rcases hx with rfl | ⟨a9, rfl⟩
      · exact ⟨none, rfl⟩
      · exact ⟨some a9, rfl⟩
    rw [jx_rv_rf] at ht
    have hk : jx_kn μ a = some (.inl ci) := hk
    have ht : P (lv, st, jx_sr μ a k o, b) := ht
    intro p e R s m args below meth c H locs cells slots ls mc ms hC hH hS hl h1 h2 h3 h4
    obtain ⟨ref, name, desc, hlink, hpd, hall⟩ := hf
    obtain ⟨C, T, N, hc, hkN, rfl, rfl, hfin, hsame⟩ := hall ci hlo hhi
    obtain ⟨hB, r, hr, cell, q1, q2, q3, q4⟩ := hH.2.2 _ _ hk
    have er : r = (C, T, N) := Option.some.inj (hr.symm.trans hc)
    subst er
    have hts := hC.2.2.2.2.2.2.2.2.1
    have hKK := jx_Ga_K hC.2.2.2.2.2.2.2.2.2.1
    obtain ⟨hSl, hfc, kC, hkC, hkind⟩ := hKK.1 ci _ hc
    obtain ⟨cf, kf, fi, f, hi9, hsl⟩ := hSl k hkN
    obtain ⟨t1, t2, t3⟩ := jx_ct hc
    have hap := va_apart (own := C) hts t1 (jx_ty ci) t2 t3 hKK hc
    have hsm : s.fieldFound? ref (T k).2.1 (T k).2.2.1 = some (cf, kf, fi, f) := by
      rcases hsame with e9 | h9
      · rw [← e9]; exact hi9
      · exact u_same (hts _ h9) _ hi9
    have hlay := hts _ (t1 _ (u_in_lay hkN))
    unfold u_lay at hlay
    have hst := (u_facts hfc hkC (u_lays hts t1 hkN) hi9).1
    rw [if_pos hfin] at hlay
    have hcf : m.cls = cf := by
      obtain ⟨_, _, c', _, _, _, -, -, hf', -, -, -, hown2, -⟩ := Cond.laysFinal_spec hlay
      have e1 : c' = cf := by have := hi9.symm.trans hf'; simp at this; exact this.1.symm
      obtain ⟨C9, T9, N9, hc9, hdecl⟩ := hdl ci hlo hhi
      cases Option.some.inj (hc9.symm.trans hc)
      rw [hdecl] at hown2
      rw [← e1]; exact Option.some.inj (hC.2.2.2.1.symm.trans hown2)
    have h6 := u_fits hfc hkC hkind (Or.inr hlay) hi9 hpd (v := va_rf o) (jx_nar_rf hty) (jx_fit_rf hty)
    refine W.putFinK hC.1 hC.2.1 hC.2.2.2.1 (hts _ hlink) hsm hst hcf (hC.2.2.2.2.2.2.1 hini) (by rw [q2]; exact h6) q1 q3 (by rw [hsl]; exact k2_hasslot (q4 k hkN)) rfl rfl hd fun H' e1 e2 e3 => ?_
    rw [hsl] at e1 ⊢
    have hty9 : jx_rt ci k = true := by
      have h9 := t2 k hkN
      rw [hpd] at h9
      rw [jx_rt_ty ci k, ← Option.some.inj h9]; exact hty
    refine hP _ ht p e R s m args below meth c H' _ cells slots ls mc ms hC ?_ (hS.put e2 e3 hB) hl h1 h2 h3 h4
    refine jx_H_put hH hk e2 e3 rfl rfl (fun _ _ _ => rfl) (fun _ _ _ => rfl) (fun q hq j => by simp [jx_sr, jx_vr, jx_u2, jx_ad, hq]) ⟨hB, _, hc, t_OB.to (V := updV (jx_V μ a ci) k (va_rf o)) ⟨_, e1, q2, q3, t_set q4 hap hkN _⟩ (fun j _ => ?_)⟩
    by_cases hj : j = k
    · subst hj
      simp [updV, jx_V, hty9, jx_sr, jx_vr, jx_u2, jx_ad]
    · simp [updV, jx_V, hj, jx_sr, jx_vi, jx_vr, jx_u2]
