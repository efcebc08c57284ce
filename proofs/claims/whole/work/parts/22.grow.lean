/-! sets that grow -/
theorem cnt_mono {m n : Int64} (h : ∀ j, bt m j = true → bt n j = true) : ∀ k, cnt m k ≤ cnt n k
  | 0 => Nat.le_refl _
  | k + 1 => by
    have h1 := cnt_mono h k
    rw [cnt, cnt]
    cases h2 : bt m k with
    | false => simp only [Bool.false_eq_true, if_false]; omega
    | true => rw [h k h2]; omega
theorem cnt_lt {m n : Int64} (h : ∀ j, bt m j = true → bt n j = true) {i : Nat} (h1 : bt m i = false) (h2 : bt n i = true) : ∀ k, i < k → cnt m k < cnt n k
  | 0, hk => absurd hk (Nat.not_lt_zero _)
  | k + 1, hk => by
    rw [cnt, cnt]
    by_cases h3 : i = k
    · have h4 := cnt_mono h k
      rw [← h3, h1, h2, h3]
      simp only [Bool.false_eq_true, if_false, if_true]
      omega
    · have h4 := cnt_lt h h1 h2 k (by omega)
      cases h5 : bt m k with
      | false => simp only [Bool.false_eq_true, if_false]; omega
      | true => rw [h k h5]; omega
theorem bt_ne {m n : Int64} (h : ∀ j, bt m j = true → bt n j = true) (hn : n ≠ m) : ∃ i, i < 64 ∧ bt m i = false ∧ bt n i = true := by
  apply Classical.byContradiction
  intro h1
  apply hn
  apply bt_ext
  intro k hk
  cases h2 : bt m k with
  | true => exact h k h2
  | false => cases h3 : bt n k with
    | false => rfl
    | true => exact absurd ⟨k, hk, h2, h3⟩ h1
theorem cnt_grow {m n : Int64} (h : ∀ j, bt m j = true → bt n j = true) (hn : n ≠ m) : cnt m 64 < cnt n 64 := by
  obtain ⟨i, h1, h2, h3⟩ := bt_ne h hn
  exact cnt_lt h h2 h3 64 h1
theorem nx_mono (m s : Int64) : ∀ k j, bt m j = true → bt (nx m s k) j = true
  | 0, _, h => h
  | k + 1, j, h => by
    rw [nx]
    split
    · rw [bt_or, nx_mono m s k j h, Bool.true_or]
    · exact nx_mono m s k j h
/-- what the model's outer loop ends with -/
def mt (s : Int64) : Nat → Int64 → Int64
  | 0, m => m
  | n + 1, m => if nx m s 64 = m then m else mt s n (nx m s 64)
theorem pm_hangs_out (s : Int64) (h : mj_H) (Q : Option Value → mj_H → Prop) (d : Nat) : ∀ n m w a b c e, 64 < cnt m 64 + n → Q (some (.int (if mt s n m = s then 1 else 0))) h → mj_X (d + 2) 108 16 [.long s, mj_J, .long m, mj_J, .int 1, w, e, a, b, c, mj_J] [] h Q := by
  intro n
  induction n with
  | zero =>
    intro m w a b c e hm hq
    have h1 := cnt_le m 64
    omega
  | succ n ih =>
    intro m w a b c e hm hq
    refine mj_go (B := mj_B108_16) rfl ?_; simp only [mj_B108_16, wp_iconst, wp_bipush, wp_sipush, wp_ldc, wp_ldc_w, wp_lconst, wp_ldc2_w, wp_aconst_null, wp_iload, wp_iload_n, wp_lload, wp_lload_n, wp_aload, wp_aload_n, wp_istore, wp_istore_n, wp_lstore, wp_lstore_n, wp_astore, wp_astore_n, wp_iinc, wp_iadd, wp_isub, wp_imul, wp_iand, wp_ior, wp_ixor, wp_ishl, wp_ishr, wp_iushr, wp_idiv, wp_irem, wp_ineg, wp_ladd, wp_lsub, wp_land, wp_lor, wp_lxor, wp_lcmp, wp_lneg, wp_lshl, wp_lushr, wp_i2l, wp_l2i, wp_dup, wp_dup2, wp_pop, wp_goto, wp_ifCond, wp_if_icmp, wp_ifnonnull, wp_tableswitch, wp_getstatic, wp_getfield, wp_putfield, wp_iaload, wp_laload, wp_aaload, wp_iastore, wp_lastore, wp_aastore, wp_arraylength, wp_newarray, wp_anewarray, wp_new, wp_invokevirtual, wp_invokestatic, wp_invokespecial, wp_ireturn, wp_lreturn, wp_areturn, wp_return_, wp_nil, e_pI, e_pJ, e_pR, e_pA1, e_pA2, e_pD1, e_pD2, e_pN1, e_pN2, e_pII, e_pJJ, e_pIJ, e_pIR, e_pIIR, e_pJIR, e_pRIR, e_pF1, e_pF2, e_pF3, e_lI, e_lJ, e_lA1, e_lA2, e_rI, e_rJ, e_rA1, e_rA2, e_rV, e_pn0, e_pn1, e_pn2, e_pn3, e_pn4, e_pn5, e_dn, e_wt0, e_wt1, e_wt2, e_wt3, e_wt4, e_wt5, e_wt6, e_wt7, e_wt9, e_ws8, e_ws0, e_ws1, e_ws2, e_ws3, e_ws4, e_wc, mj_ld, mj_st1, mj_st2, c1_J, c1_i, c1_l, c1_r, c1_n, c1_rf, mj_ok4, mj_rc, mj_cz, mj_cc, mj_gv, wr_v, wr_i, wr_l, wr_r, rf_s, rf_n, k_sI, k_sJ, k_sR, R_sI, R_sJ, J_sI, J_sR, I_sJ, I_sR, lc_eq, lc_lt, lc_gt, lc_ge, lc_le, true_and, and_true, List.cons_append, List.nil_append, Nat.reduceAdd, Nat.reduceLeDiff, Nat.reduceEqDiff, or_true, true_or, and_self]
    trace_state
    sorry
