
set_option maxRecDepth 20000 in
theorem zz_findNode {g : jx_G} {K : jx_Kt} {z : Nat} {A : Nat → Nat → Nat} {S : jo_S} {V0 : jx_M} {x : Int32} {cnt : Nat} {nd : Nat → Nat} (hij : jo_ij A S) (h0 : jo_kn S 1000 0 = some (.inl 0)) (h1 : jo_kn S 1000 1 = some (.inr (.object jx_ND, 24, true))) (hr : jo_fr S 1000 0 0 = some (1000, 1)) (hc : jo_fi S 1000 0 1 = nI cnt) (hc24 : cnt ≤ 24)
    (hn : ∀ i, i < cnt → jo_fr S 1000 1 i = some (nd i, 0)) (hk : ∀ i, i < cnt → ∃ ci, jo_kn S (nd i) 0 = some (.inl ci) ∧ 3 ≤ ci ∧ ci ≤ 7)
    (hK0 : (∀ i, i < cnt → ¬ jo_fi S (nd i) 0 0 = x) → K (.inl (some .null)) (jo_ov z A S V0)) (hK1 : ∀ i, i < cnt → jo_fi S (nd i) 0 0 = x → (∀ j, j < i → ¬ jo_fi S (nd j) 0 0 = x) → K (.inl (some (.ref (A (nd i) 0)))) (jo_ov z A S V0)) :
    ∀ (d i : Nat) (b : Nat × Nat), cnt - i = d → i ≤ cnt → (∀ j, j < i → ¬ jo_fi S (nd j) 0 0 = x) → jx_J g me_S_findNode 2 ([(0, .ref (A 1000 0)), (1, .int x), (2, .int (nI i))], [], jo_ov z A S V0, b) K := by
  intro d
  induction d with
  | zero =>
    intro i b hd hi hno
    refine bk_S_findNode_2 ?_
    have e : i = cnt := by omega
    subst e
    simp only [↓jx_sq_t, ↓jt_iadd_e, ↓jt_isub_e, ↓jt_imul_e, ↓jt_iand_e, ↓jt_ishr_e, ↓jt_idiv_e, ↓jt_irem_e, ↓jt_ladd_e, ↓jt_lsub_e, ↓jt_lmul_e, ↓jt_ldiv_e, ↓jt_lcmp_e, ↓jt_ineg_e, ↓jt_lneg_e, ↓jt_i2l_e, ↓jt_l2i_e, ↓jt_dup_e, ↓jt_pop_e, ↓jt_dup_x1_e, ↓jt_dup_x2_e, ↓jt_dup2_e, ↓jt_iconst_e, ↓jt_lconst_e, ↓jt_null_e, ↓jt_iload_e, ↓jt_lload_e, ↓jt_aload_e, ↓jt_istore_e, ↓jt_astore_e, ↓jt_lstore_e, ↓jt_iinc_e, ↓jt_keep_e, ↓jt_nop_e, ↓jt_gfi_e, ↓jt_gfr_e, ↓jt_pfi_e, ↓jt_pfz_e, ↓jt_pfr_e, ↓jx_ic_e, ↓jx_if_e, ↓jx_nl_e, ↓jt_iald_e, ↓jt_zald_e, ↓jt_lald_e, ↓jt_aald_e, ↓jt_iast_e, ↓jt_zast_e, ↓jt_last_e, ↓jt_aast_e, ↓jt_new_e, ↓jt_newa_e, ↓jt_newq_e, ↓jt_alen_e, ↓jt_objI_e, ↓jt_mmax_e, ↓jt_mmin_e, ↓jt_gets_e, ↓jt_inst_e, ↓jt_cast_e, ↓jx_ri_e, ↓jx_rz_e, ↓jx_ra_e, ↓jx_rl_e, ↓jx_rv0_e, ↓jt_call_0, ↓jt_call_1, ↓jt_call_2, ↓jt_call_3, ↓jt_call_4, ↓jt_call_5, jx_lq_e, jx_lk_e, jx_hs_e, jx_hs_0, jx_kp_e, jx_kp_0, jx_nc_e, jx_iv_e, jx_lv_e, jx_ad_e, jx_i_e, jx_l_e, jx_r_e, jx_a_e, jx_a_n, jx_a_rf, jx_rf_s, jx_rf_n, jx_c1_i, jx_c1_r, jx_c1_n, jx_c1_rf, jx_rv_rf, jx_rv_r, jx_rv_n, jx_Kc_i, jx_Kc_v, jx_Fo_e, jx_Fc_e, true_and, and_true, if_true, if_false, reduceIte, Nat.reduceEqDiff, Nat.reduceSub, Nat.reduceAdd, Nat.zero_le, Nat.sub_zero, Nat.le_refl, jo_ov_vi hij h0, hc]
    trace_state
    sorry
  | succ d ih => sorry
