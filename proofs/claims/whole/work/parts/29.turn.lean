/-! a quarter turn and the mirror, in the class as in the model -/
def qd (s : Int64) : Int64 := tnd s (Int32.ofNat (hg s 64)) 64
def md (s : Int64) : Int64 := mrd s (Int32.ofNat (wd s 64)) 64
theorem cnt_split (s : Int64) {a b : Nat} (h : a ≤ b) (hz : ∀ j, a ≤ j → j < b → bt s j = false) : cnt s b = cnt s a := by
  induction b with
  | zero => rw [show a = 0 by omega]
  | succ b ih =>
    by_cases h1 : a = b + 1
    · rw [h1]
    · rw [cnt, hz b (by omega) (by omega), ih (by omega) (fun j h2 h3 => hz j h2 (by omega))]
      simp
theorem cnt_mon (s : Int64) {a b : Nat} (h : a ≤ b) : cnt s a ≤ cnt s b := by
  induction b with
  | zero => rw [show a = 0 by omega]; omega
  | succ b ih =>
    by_cases h1 : a = b + 1
    · rw [h1]; omega
    · have := ih (by omega)
      rw [cnt]
      omega
theorem cnt_zero {s : Int64} {a b : Nat} (h : a ≤ b) (hc : cnt s b = cnt s a) : ∀ j, a ≤ j → j < b → bt s j = false := by
  intro j h1 h2
  have h3 := cnt_mon s h1
  have h4 := cnt_mon s (show j + 1 ≤ b by omega)
  rw [cnt] at h4
  cases hb : bt s j with
  | false => rfl
  | true =>
    rw [hb] at h4
    simp at h4
    omega
theorem tnd_split (s : Int64) (w : Int32) {a b : Nat} (h : a ≤ b) (hz : ∀ j, a ≤ j → j < b → bt s j = false) : tnd s w b = tnd s w a := by
  induction b with
  | zero => rw [show a = 0 by omega]
  | succ b ih =>
    by_cases h1 : a = b + 1
    · rw [h1]
    · rw [tnd, if_neg (by rw [hz b (by omega) (by omega)]; decide), ih (by omega) (fun j h2 h3 => hz j h2 (by omega))]
theorem mrd_split (s : Int64) (w : Int32) {a b : Nat} (h : a ≤ b) (hz : ∀ j, a ≤ j → j < b → bt s j = false) : mrd s w b = mrd s w a := by
  induction b with
  | zero => rw [show a = 0 by omega]
  | succ b ih =>
    by_cases h1 : a = b + 1
    · rw [h1]
    · rw [mrd, if_neg (by rw [hz b (by omega) (by omega)]; decide), ih (by omega) (fun j h2 h3 => hz j h2 (by omega))]
/-- what is left of a set from the p-th bit on -/
def rst (s r : Int64) (p : Nat) : Prop := ∀ j, bt r j = (bt s j && decide (p ≤ j))
theorem rst_0 (s : Int64) : rst s s 0 := fun j => by simp
theorem rst_low {s r : Int64} {p : Nat} (hp : p ≤ 64) (h : rst s r p) (hc : cnt s p < cnt s 64) : p ≤ lb r ∧ lb r < 64 ∧ bt s (lb r) = true ∧ cnt s (lb r) = cnt s p ∧ (∀ j, p ≤ j → j < lb r → bt s j = false) ∧ rst s (r &&& (r - 1)) (lb r + 1) ∧ cnt s (lb r + 1) = cnt s p + 1 := by
  have h1 : r ≠ 0 := by
    intro h1
    have h2 : ∀ j, p ≤ j → j < 64 → bt s j = false := by
      intro j hj _
      have := h j
      rw [h1, bt_0, decide_eq_true hj, Bool.and_true] at this
      exact this.symm
    rw [cnt_split s hp h2] at hc
    omega
  have h2 := lb_ne h1
  have h3 := lb_bit h1
  have h4 := h (lb r)
  rw [h3] at h4
  have h5 := Bool.and_eq_true_iff.mp h4.symm
  have h6 : p ≤ lb r := of_decide_eq_true h5.2
  have h7 : ∀ j, p ≤ j → j < lb r → bt s j = false := by
    intro j a b
    have := h j
    rw [lb_lt r b, decide_eq_true a, Bool.and_true] at this
    exact this.symm
  have h8 := cnt_split s h6 h7
  refine ⟨h6, h2, h5.1, h8, h7, ?_, ?_⟩
  · intro j
    rw [bt_clr h3 (fun j hj => lb_lt r hj), h j]
    by_cases a : j = lb r
    · subst a
      rw [decide_eq_true (rfl : lb r = lb r), decide_eq_false (by omega : ¬ lb r + 1 ≤ lb r)]; simp
    · rw [decide_eq_false a, Bool.not_false, Bool.and_true]
      by_cases b : lb r + 1 ≤ j
      · rw [decide_eq_true b, decide_eq_true (by omega)]
      · rw [decide_eq_false b, Bool.and_false]
        by_cases c : p ≤ j
        · rw [h7 j c (by omega), Bool.false_and]
        · rw [decide_eq_false c, Bool.and_false]
  · rw [cnt, h5.1, h8]
    simp
theorem pm_quarter_l (s : Int64) (w : Int32) (h : mj_H) (Q : Option Value → mj_H → Prop) (d : Nat) (hq : Q (some (.long (tnd s w 64))) h) : ∀ j i p r a, i + j = cnt s 64 → p ≤ 64 → i = cnt s p → rst s r p → mj_X (d + 2) 24 19 [.long s, mj_J, .int w, .int (Int32.ofNat (cnt s 64)), .long (tnd s w p), mj_J, .long r, mj_J, .int (Int32.ofNat i), a] [] h Q := by
  have hl := cnt_le s 64
  intro j
  induction j with
  | zero =>
    intro i p r a hi hp hc hr
    refine mj_go (B := mj_B24_19) rfl ?_; simp only [mj_B24_19, wp_iconst, wp_bipush, wp_sipush, wp_ldc, wp_ldc_w, wp_lconst, wp_ldc2_w, wp_aconst_null, wp_iload, wp_iload_n, wp_lload, wp_lload_n, wp_aload, wp_aload_n, wp_istore, wp_istore_n, wp_lstore, wp_lstore_n, wp_astore, wp_astore_n, wp_iinc, wp_iadd, wp_isub, wp_imul, wp_iand, wp_ior, wp_ixor, wp_ishl, wp_ishr, wp_iushr, wp_idiv, wp_irem, wp_ineg, wp_ladd, wp_lsub, wp_land, wp_lor, wp_lxor, wp_lcmp, wp_lneg, wp_lshl, wp_lushr, wp_i2l, wp_l2i, wp_dup, wp_dup2, wp_pop, wp_goto, wp_ifCond, wp_if_icmp, wp_ifnonnull, wp_tableswitch, wp_getstatic, wp_getfield, wp_putfield, wp_iaload, wp_laload, wp_aaload, wp_iastore, wp_lastore, wp_aastore, wp_arraylength, wp_newarray, wp_anewarray, wp_new, wp_invokevirtual, wp_invokestatic, wp_invokespecial, wp_ireturn, wp_lreturn, wp_areturn, wp_return_, wp_nil, e_pI, e_pJ, e_pR, e_pA1, e_pA2, e_pD1, e_pD2, e_pN1, e_pN2, e_pII, e_pJJ, e_pIJ, e_pIR, e_pIIR, e_pJIR, e_pRIR, e_pF1, e_pF2, e_pF3, e_lI, e_lJ, e_lA1, e_lA2, e_rI, e_rJ, e_rA1, e_rA2, e_rV, e_pn0, e_pn1, e_pn2, e_pn3, e_pn4, e_pn5, e_dn, e_wt0, e_wt1, e_wt2, e_wt3, e_wt4, e_wt5, e_wt6, e_wt7, e_wt9, e_ws8, e_ws0, e_ws1, e_ws2, e_ws3, e_ws4, e_wc, mj_ld, mj_st1, mj_st2, c1_J, c1_i, c1_l, c1_r, c1_n, c1_rf, mj_ok4, mj_rc, mj_cz, mj_cc, mj_gv, wr_v, wr_i, wr_l, wr_r, rf_s, rf_n, k_sI, k_sJ, k_sR, R_sI, R_sJ, J_sI, J_sR, I_sJ, I_sR, lc_eq, lc_lt, lc_gt, lc_ge, lc_le, true_and, and_true, List.cons_append, List.nil_append, Nat.reduceAdd, Nat.reduceLeDiff, Nat.reduceEqDiff, or_true, true_or, and_self]
    refine ⟨fun _ => ?_, fun h5 => ?_⟩
    · refine mj_go (B := mj_B24_72) rfl ?_; simp only [mj_B24_72, wp_iconst, wp_bipush, wp_sipush, wp_ldc, wp_ldc_w, wp_lconst, wp_ldc2_w, wp_aconst_null, wp_iload, wp_iload_n, wp_lload, wp_lload_n, wp_aload, wp_aload_n, wp_istore, wp_istore_n, wp_lstore, wp_lstore_n, wp_astore, wp_astore_n, wp_iinc, wp_iadd, wp_isub, wp_imul, wp_iand, wp_ior, wp_ixor, wp_ishl, wp_ishr, wp_iushr, wp_idiv, wp_irem, wp_ineg, wp_ladd, wp_lsub, wp_land, wp_lor, wp_lxor, wp_lcmp, wp_lneg, wp_lshl, wp_lushr, wp_i2l, wp_l2i, wp_dup, wp_dup2, wp_pop, wp_goto, wp_ifCond, wp_if_icmp, wp_ifnonnull, wp_tableswitch, wp_getstatic, wp_getfield, wp_putfield, wp_iaload, wp_laload, wp_aaload, wp_iastore, wp_lastore, wp_aastore, wp_arraylength, wp_newarray, wp_anewarray, wp_new, wp_invokevirtual, wp_invokestatic, wp_invokespecial, wp_ireturn, wp_lreturn, wp_areturn, wp_return_, wp_nil, e_pI, e_pJ, e_pR, e_pA1, e_pA2, e_pD1, e_pD2, e_pN1, e_pN2, e_pII, e_pJJ, e_pIJ, e_pIR, e_pIIR, e_pJIR, e_pRIR, e_pF1, e_pF2, e_pF3, e_lI, e_lJ, e_lA1, e_lA2, e_rI, e_rJ, e_rA1, e_rA2, e_rV, e_pn0, e_pn1, e_pn2, e_pn3, e_pn4, e_pn5, e_dn, e_wt0, e_wt1, e_wt2, e_wt3, e_wt4, e_wt5, e_wt6, e_wt7, e_wt9, e_ws8, e_ws0, e_ws1, e_ws2, e_ws3, e_ws4, e_wc, mj_ld, mj_st1, mj_st2, c1_J, c1_i, c1_l, c1_r, c1_n, c1_rf, mj_ok4, mj_rc, mj_cz, mj_cc, mj_gv, wr_v, wr_i, wr_l, wr_r, rf_s, rf_n, k_sI, k_sJ, k_sR, R_sI, R_sJ, J_sI, J_sR, I_sJ, I_sR, lc_eq, lc_lt, lc_gt, lc_ge, lc_le, true_and, and_true, List.cons_append, List.nil_append, Nat.reduceAdd, Nat.reduceLeDiff, Nat.reduceEqDiff, or_true, true_or, and_self]
      rw [← tnd_split s w hp (cnt_zero hp (by omega))]
      exact hq
    · rw [i_ge (by omega), i_in (by omega)] at h5
      omega
  | succ j ih =>
    intro i p r a hi hp hc hr
    obtain ⟨k1, k2, k3, k4, k5, k6, k7⟩ := rst_low hp hr (by omega)
    refine mj_go (B := mj_B24_19) rfl ?_; simp only [mj_B24_19, wp_iconst, wp_bipush, wp_sipush, wp_ldc, wp_ldc_w, wp_lconst, wp_ldc2_w, wp_aconst_null, wp_iload, wp_iload_n, wp_lload, wp_lload_n, wp_aload, wp_aload_n, wp_istore, wp_istore_n, wp_lstore, wp_lstore_n, wp_astore, wp_astore_n, wp_iinc, wp_iadd, wp_isub, wp_imul, wp_iand, wp_ior, wp_ixor, wp_ishl, wp_ishr, wp_iushr, wp_idiv, wp_irem, wp_ineg, wp_ladd, wp_lsub, wp_land, wp_lor, wp_lxor, wp_lcmp, wp_lneg, wp_lshl, wp_lushr, wp_i2l, wp_l2i, wp_dup, wp_dup2, wp_pop, wp_goto, wp_ifCond, wp_if_icmp, wp_ifnonnull, wp_tableswitch, wp_getstatic, wp_getfield, wp_putfield, wp_iaload, wp_laload, wp_aaload, wp_iastore, wp_lastore, wp_aastore, wp_arraylength, wp_newarray, wp_anewarray, wp_new, wp_invokevirtual, wp_invokestatic, wp_invokespecial, wp_ireturn, wp_lreturn, wp_areturn, wp_return_, wp_nil, e_pI, e_pJ, e_pR, e_pA1, e_pA2, e_pD1, e_pD2, e_pN1, e_pN2, e_pII, e_pJJ, e_pIJ, e_pIR, e_pIIR, e_pJIR, e_pRIR, e_pF1, e_pF2, e_pF3, e_lI, e_lJ, e_lA1, e_lA2, e_rI, e_rJ, e_rA1, e_rA2, e_rV, e_pn0, e_pn1, e_pn2, e_pn3, e_pn4, e_pn5, e_dn, e_wt0, e_wt1, e_wt2, e_wt3, e_wt4, e_wt5, e_wt6, e_wt7, e_wt9, e_ws8, e_ws0, e_ws1, e_ws2, e_ws3, e_ws4, e_wc, mj_ld, mj_st1, mj_st2, c1_J, c1_i, c1_l, c1_r, c1_n, c1_rf, mj_ok4, mj_rc, mj_cz, mj_cc, mj_gv, wr_v, wr_i, wr_l, wr_r, rf_s, rf_n, k_sI, k_sJ, k_sR, R_sI, R_sJ, J_sI, J_sR, I_sJ, I_sR, lc_eq, lc_lt, lc_gt, lc_ge, lc_le, true_and, and_true, List.cons_append, List.nil_append, Nat.reduceAdd, Nat.reduceLeDiff, Nat.reduceEqDiff, or_true, true_or, and_self]
    refine ⟨fun h5 => ?_, fun _ => ?_⟩
    · rw [i_ge (by omega), i_in (by omega)] at h5
      omega
    · rw [kt_e]; simp only [wp_iconst, wp_bipush, wp_sipush, wp_ldc, wp_ldc_w, wp_lconst, wp_ldc2_w, wp_aconst_null, wp_iload, wp_iload_n, wp_lload, wp_lload_n, wp_aload, wp_aload_n, wp_istore, wp_istore_n, wp_lstore, wp_lstore_n, wp_astore, wp_astore_n, wp_iinc, wp_iadd, wp_isub, wp_imul, wp_iand, wp_ior, wp_ixor, wp_ishl, wp_ishr, wp_iushr, wp_idiv, wp_irem, wp_ineg, wp_ladd, wp_lsub, wp_land, wp_lor, wp_lxor, wp_lcmp, wp_lneg, wp_lshl, wp_lushr, wp_i2l, wp_l2i, wp_dup, wp_dup2, wp_pop, wp_goto, wp_ifCond, wp_if_icmp, wp_ifnonnull, wp_tableswitch, wp_getstatic, wp_getfield, wp_putfield, wp_iaload, wp_laload, wp_aaload, wp_iastore, wp_lastore, wp_aastore, wp_arraylength, wp_newarray, wp_anewarray, wp_new, wp_invokevirtual, wp_invokestatic, wp_invokespecial, wp_ireturn, wp_lreturn, wp_areturn, wp_return_, wp_nil, e_pI, e_pJ, e_pR, e_pA1, e_pA2, e_pD1, e_pD2, e_pN1, e_pN2, e_pII, e_pJJ, e_pIJ, e_pIR, e_pIIR, e_pJIR, e_pRIR, e_pF1, e_pF2, e_pF3, e_lI, e_lJ, e_lA1, e_lA2, e_rI, e_rJ, e_rA1, e_rA2, e_rV, e_pn0, e_pn1, e_pn2, e_pn3, e_pn4, e_pn5, e_dn, e_wt0, e_wt1, e_wt2, e_wt3, e_wt4, e_wt5, e_wt6, e_wt7, e_wt9, e_ws8, e_ws0, e_ws1, e_ws2, e_ws3, e_ws4, e_wc, mj_ld, mj_st1, mj_st2, c1_J, c1_i, c1_l, c1_r, c1_n, c1_rf, mj_ok4, mj_rc, mj_cz, mj_cc, mj_gv, wr_v, wr_i, wr_l, wr_r, rf_s, rf_n, k_sI, k_sJ, k_sR, R_sI, R_sJ, J_sI, J_sR, I_sJ, I_sR, lc_eq, lc_lt, lc_gt, lc_ge, lc_le, true_and, and_true, List.cons_append, List.nil_append, Nat.reduceAdd, Nat.reduceLeDiff, Nat.reduceEqDiff, or_true, true_or, and_self]
      apply pm_ntz
      simp only [wp_iconst, wp_bipush, wp_sipush, wp_ldc, wp_ldc_w, wp_lconst, wp_ldc2_w, wp_aconst_null, wp_iload, wp_iload_n, wp_lload, wp_lload_n, wp_aload, wp_aload_n, wp_istore, wp_istore_n, wp_lstore, wp_lstore_n, wp_astore, wp_astore_n, wp_iinc, wp_iadd, wp_isub, wp_imul, wp_iand, wp_ior, wp_ixor, wp_ishl, wp_ishr, wp_iushr, wp_idiv, wp_irem, wp_ineg, wp_ladd, wp_lsub, wp_land, wp_lor, wp_lxor, wp_lcmp, wp_lneg, wp_lshl, wp_lushr, wp_i2l, wp_l2i, wp_dup, wp_dup2, wp_pop, wp_goto, wp_ifCond, wp_if_icmp, wp_ifnonnull, wp_tableswitch, wp_getstatic, wp_getfield, wp_putfield, wp_iaload, wp_laload, wp_aaload, wp_iastore, wp_lastore, wp_aastore, wp_arraylength, wp_newarray, wp_anewarray, wp_new, wp_invokevirtual, wp_invokestatic, wp_invokespecial, wp_ireturn, wp_lreturn, wp_areturn, wp_return_, wp_nil, e_pI, e_pJ, e_pR, e_pA1, e_pA2, e_pD1, e_pD2, e_pN1, e_pN2, e_pII, e_pJJ, e_pIJ, e_pIR, e_pIIR, e_pJIR, e_pRIR, e_pF1, e_pF2, e_pF3, e_lI, e_lJ, e_lA1, e_lA2, e_rI, e_rJ, e_rA1, e_rA2, e_rV, e_pn0, e_pn1, e_pn2, e_pn3, e_pn4, e_pn5, e_dn, e_wt0, e_wt1, e_wt2, e_wt3, e_wt4, e_wt5, e_wt6, e_wt7, e_wt9, e_ws8, e_ws0, e_ws1, e_ws2, e_ws3, e_ws4, e_wc, mj_ld, mj_st1, mj_st2, c1_J, c1_i, c1_l, c1_r, c1_n, c1_rf, mj_ok4, mj_rc, mj_cz, mj_cc, mj_gv, wr_v, wr_i, wr_l, wr_r, rf_s, rf_n, k_sI, k_sJ, k_sR, R_sI, R_sJ, J_sI, J_sR, I_sJ, I_sR, lc_eq, lc_lt, lc_gt, lc_ge, lc_le, true_and, and_true, List.cons_append, List.nil_append, Nat.reduceAdd, Nat.reduceLeDiff, Nat.reduceEqDiff, or_true, true_or, and_self]
      rw [kt_e]; simp only [wp_iconst, wp_bipush, wp_sipush, wp_ldc, wp_ldc_w, wp_lconst, wp_ldc2_w, wp_aconst_null, wp_iload, wp_iload_n, wp_lload, wp_lload_n, wp_aload, wp_aload_n, wp_istore, wp_istore_n, wp_lstore, wp_lstore_n, wp_astore, wp_astore_n, wp_iinc, wp_iadd, wp_isub, wp_imul, wp_iand, wp_ior, wp_ixor, wp_ishl, wp_ishr, wp_iushr, wp_idiv, wp_irem, wp_ineg, wp_ladd, wp_lsub, wp_land, wp_lor, wp_lxor, wp_lcmp, wp_lneg, wp_lshl, wp_lushr, wp_i2l, wp_l2i, wp_dup, wp_dup2, wp_pop, wp_goto, wp_ifCond, wp_if_icmp, wp_ifnonnull, wp_tableswitch, wp_getstatic, wp_getfield, wp_putfield, wp_iaload, wp_laload, wp_aaload, wp_iastore, wp_lastore, wp_aastore, wp_arraylength, wp_newarray, wp_anewarray, wp_new, wp_invokevirtual, wp_invokestatic, wp_invokespecial, wp_ireturn, wp_lreturn, wp_areturn, wp_return_, wp_nil, e_pI, e_pJ, e_pR, e_pA1, e_pA2, e_pD1, e_pD2, e_pN1, e_pN2, e_pII, e_pJJ, e_pIJ, e_pIR, e_pIIR, e_pJIR, e_pRIR, e_pF1, e_pF2, e_pF3, e_lI, e_lJ, e_lA1, e_lA2, e_rI, e_rJ, e_rA1, e_rA2, e_rV, e_pn0, e_pn1, e_pn2, e_pn3, e_pn4, e_pn5, e_dn, e_wt0, e_wt1, e_wt2, e_wt3, e_wt4, e_wt5, e_wt6, e_wt7, e_wt9, e_ws8, e_ws0, e_ws1, e_ws2, e_ws3, e_ws4, e_wc, mj_ld, mj_st1, mj_st2, c1_J, c1_i, c1_l, c1_r, c1_n, c1_rf, mj_ok4, mj_rc, mj_cz, mj_cc, mj_gv, wr_v, wr_i, wr_l, wr_r, rf_s, rf_n, k_sI, k_sJ, k_sR, R_sI, R_sJ, J_sI, J_sR, I_sJ, I_sR, lc_eq, lc_lt, lc_gt, lc_ge, lc_le, true_and, and_true, List.cons_append, List.nil_append, Nat.reduceAdd, Nat.reduceLeDiff, Nat.reduceEqDiff, or_true, true_or, and_self, i_rem8 k2, i_mod8 k2, i_div8 k2, n80, not_false_eq_true, i_s]
      have e : tnd s w p ||| mj_js 1 (8 * Int32.ofNat (lb r % 8) + w - 1 - Int32.ofNat (lb r / 8)) = tnd s w (lb r + 1) := by
        rw [tnd, if_pos k3, tnd_split s w k1 k5]
      rw [e]
      exact ih (i + 1) (lb r + 1) _ _ (by omega) (by omega) (by omega) k6
theorem pm_quarter (s : Int64) (h : mj_H) (Q : Option Value → mj_H → Prop) (d : Nat) (hq : Q (some (.long (qd s))) h) : mj_C (d + 3) 24 [.long s] h Q := by
  refine mj_C_of 10 rfl rfl ?_; show mj_X _ 24 0 [.long s, mj_J, mj_J, mj_J, mj_J, mj_J, mj_J, mj_J, mj_J, mj_J] [] _ _
  refine mj_go (B := mj_B24_0) rfl ?_; simp only [mj_B24_0, wp_iconst, wp_bipush, wp_sipush, wp_ldc, wp_ldc_w, wp_lconst, wp_ldc2_w, wp_aconst_null, wp_iload, wp_iload_n, wp_lload, wp_lload_n, wp_aload, wp_aload_n, wp_istore, wp_istore_n, wp_lstore, wp_lstore_n, wp_astore, wp_astore_n, wp_iinc, wp_iadd, wp_isub, wp_imul, wp_iand, wp_ior, wp_ixor, wp_ishl, wp_ishr, wp_iushr, wp_idiv, wp_irem, wp_ineg, wp_ladd, wp_lsub, wp_land, wp_lor, wp_lxor, wp_lcmp, wp_lneg, wp_lshl, wp_lushr, wp_i2l, wp_l2i, wp_dup, wp_dup2, wp_pop, wp_goto, wp_ifCond, wp_if_icmp, wp_ifnonnull, wp_tableswitch, wp_getstatic, wp_getfield, wp_putfield, wp_iaload, wp_laload, wp_aaload, wp_iastore, wp_lastore, wp_aastore, wp_arraylength, wp_newarray, wp_anewarray, wp_new, wp_invokevirtual, wp_invokestatic, wp_invokespecial, wp_ireturn, wp_lreturn, wp_areturn, wp_return_, wp_nil, e_pI, e_pJ, e_pR, e_pA1, e_pA2, e_pD1, e_pD2, e_pN1, e_pN2, e_pII, e_pJJ, e_pIJ, e_pIR, e_pIIR, e_pJIR, e_pRIR, e_pF1, e_pF2, e_pF3, e_lI, e_lJ, e_lA1, e_lA2, e_rI, e_rJ, e_rA1, e_rA2, e_rV, e_pn0, e_pn1, e_pn2, e_pn3, e_pn4, e_pn5, e_dn, e_wt0, e_wt1, e_wt2, e_wt3, e_wt4, e_wt5, e_wt6, e_wt7, e_wt9, e_ws8, e_ws0, e_ws1, e_ws2, e_ws3, e_ws4, e_wc, mj_ld, mj_st1, mj_st2, c1_J, c1_i, c1_l, c1_r, c1_n, c1_rf, mj_ok4, mj_rc, mj_cz, mj_cc, mj_gv, wr_v, wr_i, wr_l, wr_r, rf_s, rf_n, k_sI, k_sJ, k_sR, R_sI, R_sJ, J_sI, J_sR, I_sJ, I_sR, lc_eq, lc_lt, lc_gt, lc_ge, lc_le, true_and, and_true, List.cons_append, List.nil_append, Nat.reduceAdd, Nat.reduceLeDiff, Nat.reduceEqDiff, or_true, true_or, and_self]
  apply pm_high
  simp only [wp_iconst, wp_bipush, wp_sipush, wp_ldc, wp_ldc_w, wp_lconst, wp_ldc2_w, wp_aconst_null, wp_iload, wp_iload_n, wp_lload, wp_lload_n, wp_aload, wp_aload_n, wp_istore, wp_istore_n, wp_lstore, wp_lstore_n, wp_astore, wp_astore_n, wp_iinc, wp_iadd, wp_isub, wp_imul, wp_iand, wp_ior, wp_ixor, wp_ishl, wp_ishr, wp_iushr, wp_idiv, wp_irem, wp_ineg, wp_ladd, wp_lsub, wp_land, wp_lor, wp_lxor, wp_lcmp, wp_lneg, wp_lshl, wp_lushr, wp_i2l, wp_l2i, wp_dup, wp_dup2, wp_pop, wp_goto, wp_ifCond, wp_if_icmp, wp_ifnonnull, wp_tableswitch, wp_getstatic, wp_getfield, wp_putfield, wp_iaload, wp_laload, wp_aaload, wp_iastore, wp_lastore, wp_aastore, wp_arraylength, wp_newarray, wp_anewarray, wp_new, wp_invokevirtual, wp_invokestatic, wp_invokespecial, wp_ireturn, wp_lreturn, wp_areturn, wp_return_, wp_nil, e_pI, e_pJ, e_pR, e_pA1, e_pA2, e_pD1, e_pD2, e_pN1, e_pN2, e_pII, e_pJJ, e_pIJ, e_pIR, e_pIIR, e_pJIR, e_pRIR, e_pF1, e_pF2, e_pF3, e_lI, e_lJ, e_lA1, e_lA2, e_rI, e_rJ, e_rA1, e_rA2, e_rV, e_pn0, e_pn1, e_pn2, e_pn3, e_pn4, e_pn5, e_dn, e_wt0, e_wt1, e_wt2, e_wt3, e_wt4, e_wt5, e_wt6, e_wt7, e_wt9, e_ws8, e_ws0, e_ws1, e_ws2, e_ws3, e_ws4, e_wc, mj_ld, mj_st1, mj_st2, c1_J, c1_i, c1_l, c1_r, c1_n, c1_rf, mj_ok4, mj_rc, mj_cz, mj_cc, mj_gv, wr_v, wr_i, wr_l, wr_r, rf_s, rf_n, k_sI, k_sJ, k_sR, R_sI, R_sJ, J_sI, J_sR, I_sJ, I_sR, lc_eq, lc_lt, lc_gt, lc_ge, lc_le, true_and, and_true, List.cons_append, List.nil_append, Nat.reduceAdd, Nat.reduceLeDiff, Nat.reduceEqDiff, or_true, true_or, and_self]
  rw [kt_e]; simp only [wp_iconst, wp_bipush, wp_sipush, wp_ldc, wp_ldc_w, wp_lconst, wp_ldc2_w, wp_aconst_null, wp_iload, wp_iload_n, wp_lload, wp_lload_n, wp_aload, wp_aload_n, wp_istore, wp_istore_n, wp_lstore, wp_lstore_n, wp_astore, wp_astore_n, wp_iinc, wp_iadd, wp_isub, wp_imul, wp_iand, wp_ior, wp_ixor, wp_ishl, wp_ishr, wp_iushr, wp_idiv, wp_irem, wp_ineg, wp_ladd, wp_lsub, wp_land, wp_lor, wp_lxor, wp_lcmp, wp_lneg, wp_lshl, wp_lushr, wp_i2l, wp_l2i, wp_dup, wp_dup2, wp_pop, wp_goto, wp_ifCond, wp_if_icmp, wp_ifnonnull, wp_tableswitch, wp_getstatic, wp_getfield, wp_putfield, wp_iaload, wp_laload, wp_aaload, wp_iastore, wp_lastore, wp_aastore, wp_arraylength, wp_newarray, wp_anewarray, wp_new, wp_invokevirtual, wp_invokestatic, wp_invokespecial, wp_ireturn, wp_lreturn, wp_areturn, wp_return_, wp_nil, e_pI, e_pJ, e_pR, e_pA1, e_pA2, e_pD1, e_pD2, e_pN1, e_pN2, e_pII, e_pJJ, e_pIJ, e_pIR, e_pIIR, e_pJIR, e_pRIR, e_pF1, e_pF2, e_pF3, e_lI, e_lJ, e_lA1, e_lA2, e_rI, e_rJ, e_rA1, e_rA2, e_rV, e_pn0, e_pn1, e_pn2, e_pn3, e_pn4, e_pn5, e_dn, e_wt0, e_wt1, e_wt2, e_wt3, e_wt4, e_wt5, e_wt6, e_wt7, e_wt9, e_ws8, e_ws0, e_ws1, e_ws2, e_ws3, e_ws4, e_wc, mj_ld, mj_st1, mj_st2, c1_J, c1_i, c1_l, c1_r, c1_n, c1_rf, mj_ok4, mj_rc, mj_cz, mj_cc, mj_gv, wr_v, wr_i, wr_l, wr_r, rf_s, rf_n, k_sI, k_sJ, k_sR, R_sI, R_sJ, J_sI, J_sR, I_sJ, I_sR, lc_eq, lc_lt, lc_gt, lc_ge, lc_le, true_and, and_true, List.cons_append, List.nil_append, Nat.reduceAdd, Nat.reduceLeDiff, Nat.reduceEqDiff, or_true, true_or, and_self]
  apply pm_bitCount
  simp only [wp_iconst, wp_bipush, wp_sipush, wp_ldc, wp_ldc_w, wp_lconst, wp_ldc2_w, wp_aconst_null, wp_iload, wp_iload_n, wp_lload, wp_lload_n, wp_aload, wp_aload_n, wp_istore, wp_istore_n, wp_lstore, wp_lstore_n, wp_astore, wp_astore_n, wp_iinc, wp_iadd, wp_isub, wp_imul, wp_iand, wp_ior, wp_ixor, wp_ishl, wp_ishr, wp_iushr, wp_idiv, wp_irem, wp_ineg, wp_ladd, wp_lsub, wp_land, wp_lor, wp_lxor, wp_lcmp, wp_lneg, wp_lshl, wp_lushr, wp_i2l, wp_l2i, wp_dup, wp_dup2, wp_pop, wp_goto, wp_ifCond, wp_if_icmp, wp_ifnonnull, wp_tableswitch, wp_getstatic, wp_getfield, wp_putfield, wp_iaload, wp_laload, wp_aaload, wp_iastore, wp_lastore, wp_aastore, wp_arraylength, wp_newarray, wp_anewarray, wp_new, wp_invokevirtual, wp_invokestatic, wp_invokespecial, wp_ireturn, wp_lreturn, wp_areturn, wp_return_, wp_nil, e_pI, e_pJ, e_pR, e_pA1, e_pA2, e_pD1, e_pD2, e_pN1, e_pN2, e_pII, e_pJJ, e_pIJ, e_pIR, e_pIIR, e_pJIR, e_pRIR, e_pF1, e_pF2, e_pF3, e_lI, e_lJ, e_lA1, e_lA2, e_rI, e_rJ, e_rA1, e_rA2, e_rV, e_pn0, e_pn1, e_pn2, e_pn3, e_pn4, e_pn5, e_dn, e_wt0, e_wt1, e_wt2, e_wt3, e_wt4, e_wt5, e_wt6, e_wt7, e_wt9, e_ws8, e_ws0, e_ws1, e_ws2, e_ws3, e_ws4, e_wc, mj_ld, mj_st1, mj_st2, c1_J, c1_i, c1_l, c1_r, c1_n, c1_rf, mj_ok4, mj_rc, mj_cz, mj_cc, mj_gv, wr_v, wr_i, wr_l, wr_r, rf_s, rf_n, k_sI, k_sJ, k_sR, R_sI, R_sJ, J_sI, J_sR, I_sJ, I_sR, lc_eq, lc_lt, lc_gt, lc_ge, lc_le, true_and, and_true, List.cons_append, List.nil_append, Nat.reduceAdd, Nat.reduceLeDiff, Nat.reduceEqDiff, or_true, true_or, and_self]
  rw [kt_e]; simp only [wp_iconst, wp_bipush, wp_sipush, wp_ldc, wp_ldc_w, wp_lconst, wp_ldc2_w, wp_aconst_null, wp_iload, wp_iload_n, wp_lload, wp_lload_n, wp_aload, wp_aload_n, wp_istore, wp_istore_n, wp_lstore, wp_lstore_n, wp_astore, wp_astore_n, wp_iinc, wp_iadd, wp_isub, wp_imul, wp_iand, wp_ior, wp_ixor, wp_ishl, wp_ishr, wp_iushr, wp_idiv, wp_irem, wp_ineg, wp_ladd, wp_lsub, wp_land, wp_lor, wp_lxor, wp_lcmp, wp_lneg, wp_lshl, wp_lushr, wp_i2l, wp_l2i, wp_dup, wp_dup2, wp_pop, wp_goto, wp_ifCond, wp_if_icmp, wp_ifnonnull, wp_tableswitch, wp_getstatic, wp_getfield, wp_putfield, wp_iaload, wp_laload, wp_aaload, wp_iastore, wp_lastore, wp_aastore, wp_arraylength, wp_newarray, wp_anewarray, wp_new, wp_invokevirtual, wp_invokestatic, wp_invokespecial, wp_ireturn, wp_lreturn, wp_areturn, wp_return_, wp_nil, e_pI, e_pJ, e_pR, e_pA1, e_pA2, e_pD1, e_pD2, e_pN1, e_pN2, e_pII, e_pJJ, e_pIJ, e_pIR, e_pIIR, e_pJIR, e_pRIR, e_pF1, e_pF2, e_pF3, e_lI, e_lJ, e_lA1, e_lA2, e_rI, e_rJ, e_rA1, e_rA2, e_rV, e_pn0, e_pn1, e_pn2, e_pn3, e_pn4, e_pn5, e_dn, e_wt0, e_wt1, e_wt2, e_wt3, e_wt4, e_wt5, e_wt6, e_wt7, e_wt9, e_ws8, e_ws0, e_ws1, e_ws2, e_ws3, e_ws4, e_wc, mj_ld, mj_st1, mj_st2, c1_J, c1_i, c1_l, c1_r, c1_n, c1_rf, mj_ok4, mj_rc, mj_cz, mj_cc, mj_gv, wr_v, wr_i, wr_l, wr_r, rf_s, rf_n, k_sI, k_sJ, k_sR, R_sI, R_sJ, J_sI, J_sR, I_sJ, I_sR, lc_eq, lc_lt, lc_gt, lc_ge, lc_le, true_and, and_true, List.cons_append, List.nil_append, Nat.reduceAdd, Nat.reduceLeDiff, Nat.reduceEqDiff, or_true, true_or, and_self]
  exact pm_quarter_l s _ h Q (d + 1) hq (cnt s 64) 0 0 s _ (by omega) (by omega) rfl (rst_0 s)
theorem pm_mirror_l (s : Int64) (w : Int32) (h : mj_H) (Q : Option Value → mj_H → Prop) (d : Nat) (hq : Q (some (.long (mrd s w 64))) h) : ∀ j i p r a, i + j = cnt s 64 → p ≤ 64 → i = cnt s p → rst s r p → mj_X (d + 2) 30 19 [.long s, mj_J, .int w, .int (Int32.ofNat (cnt s 64)), .long (mrd s w p), mj_J, .long r, mj_J, .int (Int32.ofNat i), a] [] h Q := by
  have hl := cnt_le s 64
  intro j
  induction j with
  | zero =>
    intro i p r a hi hp hc hr
    refine mj_go (B := mj_B30_19) rfl ?_; simp only [mj_B30_19, wp_iconst, wp_bipush, wp_sipush, wp_ldc, wp_ldc_w, wp_lconst, wp_ldc2_w, wp_aconst_null, wp_iload, wp_iload_n, wp_lload, wp_lload_n, wp_aload, wp_aload_n, wp_istore, wp_istore_n, wp_lstore, wp_lstore_n, wp_astore, wp_astore_n, wp_iinc, wp_iadd, wp_isub, wp_imul, wp_iand, wp_ior, wp_ixor, wp_ishl, wp_ishr, wp_iushr, wp_idiv, wp_irem, wp_ineg, wp_ladd, wp_lsub, wp_land, wp_lor, wp_lxor, wp_lcmp, wp_lneg, wp_lshl, wp_lushr, wp_i2l, wp_l2i, wp_dup, wp_dup2, wp_pop, wp_goto, wp_ifCond, wp_if_icmp, wp_ifnonnull, wp_tableswitch, wp_getstatic, wp_getfield, wp_putfield, wp_iaload, wp_laload, wp_aaload, wp_iastore, wp_lastore, wp_aastore, wp_arraylength, wp_newarray, wp_anewarray, wp_new, wp_invokevirtual, wp_invokestatic, wp_invokespecial, wp_ireturn, wp_lreturn, wp_areturn, wp_return_, wp_nil, e_pI, e_pJ, e_pR, e_pA1, e_pA2, e_pD1, e_pD2, e_pN1, e_pN2, e_pII, e_pJJ, e_pIJ, e_pIR, e_pIIR, e_pJIR, e_pRIR, e_pF1, e_pF2, e_pF3, e_lI, e_lJ, e_lA1, e_lA2, e_rI, e_rJ, e_rA1, e_rA2, e_rV, e_pn0, e_pn1, e_pn2, e_pn3, e_pn4, e_pn5, e_dn, e_wt0, e_wt1, e_wt2, e_wt3, e_wt4, e_wt5, e_wt6, e_wt7, e_wt9, e_ws8, e_ws0, e_ws1, e_ws2, e_ws3, e_ws4, e_wc, mj_ld, mj_st1, mj_st2, c1_J, c1_i, c1_l, c1_r, c1_n, c1_rf, mj_ok4, mj_rc, mj_cz, mj_cc, mj_gv, wr_v, wr_i, wr_l, wr_r, rf_s, rf_n, k_sI, k_sJ, k_sR, R_sI, R_sJ, J_sI, J_sR, I_sJ, I_sR, lc_eq, lc_lt, lc_gt, lc_ge, lc_le, true_and, and_true, List.cons_append, List.nil_append, Nat.reduceAdd, Nat.reduceLeDiff, Nat.reduceEqDiff, or_true, true_or, and_self]
    refine ⟨fun _ => ?_, fun h5 => ?_⟩
    · refine mj_go (B := mj_B30_72) rfl ?_; simp only [mj_B30_72, wp_iconst, wp_bipush, wp_sipush, wp_ldc, wp_ldc_w, wp_lconst, wp_ldc2_w, wp_aconst_null, wp_iload, wp_iload_n, wp_lload, wp_lload_n, wp_aload, wp_aload_n, wp_istore, wp_istore_n, wp_lstore, wp_lstore_n, wp_astore, wp_astore_n, wp_iinc, wp_iadd, wp_isub, wp_imul, wp_iand, wp_ior, wp_ixor, wp_ishl, wp_ishr, wp_iushr, wp_idiv, wp_irem, wp_ineg, wp_ladd, wp_lsub, wp_land, wp_lor, wp_lxor, wp_lcmp, wp_lneg, wp_lshl, wp_lushr, wp_i2l, wp_l2i, wp_dup, wp_dup2, wp_pop, wp_goto, wp_ifCond, wp_if_icmp, wp_ifnonnull, wp_tableswitch, wp_getstatic, wp_getfield, wp_putfield, wp_iaload, wp_laload, wp_aaload, wp_iastore, wp_lastore, wp_aastore, wp_arraylength, wp_newarray, wp_anewarray, wp_new, wp_invokevirtual, wp_invokestatic, wp_invokespecial, wp_ireturn, wp_lreturn, wp_areturn, wp_return_, wp_nil, e_pI, e_pJ, e_pR, e_pA1, e_pA2, e_pD1, e_pD2, e_pN1, e_pN2, e_pII, e_pJJ, e_pIJ, e_pIR, e_pIIR, e_pJIR, e_pRIR, e_pF1, e_pF2, e_pF3, e_lI, e_lJ, e_lA1, e_lA2, e_rI, e_rJ, e_rA1, e_rA2, e_rV, e_pn0, e_pn1, e_pn2, e_pn3, e_pn4, e_pn5, e_dn, e_wt0, e_wt1, e_wt2, e_wt3, e_wt4, e_wt5, e_wt6, e_wt7, e_wt9, e_ws8, e_ws0, e_ws1, e_ws2, e_ws3, e_ws4, e_wc, mj_ld, mj_st1, mj_st2, c1_J, c1_i, c1_l, c1_r, c1_n, c1_rf, mj_ok4, mj_rc, mj_cz, mj_cc, mj_gv, wr_v, wr_i, wr_l, wr_r, rf_s, rf_n, k_sI, k_sJ, k_sR, R_sI, R_sJ, J_sI, J_sR, I_sJ, I_sR, lc_eq, lc_lt, lc_gt, lc_ge, lc_le, true_and, and_true, List.cons_append, List.nil_append, Nat.reduceAdd, Nat.reduceLeDiff, Nat.reduceEqDiff, or_true, true_or, and_self]
      rw [← mrd_split s w hp (cnt_zero hp (by omega))]
      exact hq
    · rw [i_ge (by omega), i_in (by omega)] at h5
      omega
  | succ j ih =>
    intro i p r a hi hp hc hr
    obtain ⟨k1, k2, k3, k4, k5, k6, k7⟩ := rst_low hp hr (by omega)
    refine mj_go (B := mj_B30_19) rfl ?_; simp only [mj_B30_19, wp_iconst, wp_bipush, wp_sipush, wp_ldc, wp_ldc_w, wp_lconst, wp_ldc2_w, wp_aconst_null, wp_iload, wp_iload_n, wp_lload, wp_lload_n, wp_aload, wp_aload_n, wp_istore, wp_istore_n, wp_lstore, wp_lstore_n, wp_astore, wp_astore_n, wp_iinc, wp_iadd, wp_isub, wp_imul, wp_iand, wp_ior, wp_ixor, wp_ishl, wp_ishr, wp_iushr, wp_idiv, wp_irem, wp_ineg, wp_ladd, wp_lsub, wp_land, wp_lor, wp_lxor, wp_lcmp, wp_lneg, wp_lshl, wp_lushr, wp_i2l, wp_l2i, wp_dup, wp_dup2, wp_pop, wp_goto, wp_ifCond, wp_if_icmp, wp_ifnonnull, wp_tableswitch, wp_getstatic, wp_getfield, wp_putfield, wp_iaload, wp_laload, wp_aaload, wp_iastore, wp_lastore, wp_aastore, wp_arraylength, wp_newarray, wp_anewarray, wp_new, wp_invokevirtual, wp_invokestatic, wp_invokespecial, wp_ireturn, wp_lreturn, wp_areturn, wp_return_, wp_nil, e_pI, e_pJ, e_pR, e_pA1, e_pA2, e_pD1, e_pD2, e_pN1, e_pN2, e_pII, e_pJJ, e_pIJ, e_pIR, e_pIIR, e_pJIR, e_pRIR, e_pF1, e_pF2, e_pF3, e_lI, e_lJ, e_lA1, e_lA2, e_rI, e_rJ, e_rA1, e_rA2, e_rV, e_pn0, e_pn1, e_pn2, e_pn3, e_pn4, e_pn5, e_dn, e_wt0, e_wt1, e_wt2, e_wt3, e_wt4, e_wt5, e_wt6, e_wt7, e_wt9, e_ws8, e_ws0, e_ws1, e_ws2, e_ws3, e_ws4, e_wc, mj_ld, mj_st1, mj_st2, c1_J, c1_i, c1_l, c1_r, c1_n, c1_rf, mj_ok4, mj_rc, mj_cz, mj_cc, mj_gv, wr_v, wr_i, wr_l, wr_r, rf_s, rf_n, k_sI, k_sJ, k_sR, R_sI, R_sJ, J_sI, J_sR, I_sJ, I_sR, lc_eq, lc_lt, lc_gt, lc_ge, lc_le, true_and, and_true, List.cons_append, List.nil_append, Nat.reduceAdd, Nat.reduceLeDiff, Nat.reduceEqDiff, or_true, true_or, and_self]
    refine ⟨fun h5 => ?_, fun _ => ?_⟩
    · rw [i_ge (by omega), i_in (by omega)] at h5
      omega
    · rw [kt_e]; simp only [wp_iconst, wp_bipush, wp_sipush, wp_ldc, wp_ldc_w, wp_lconst, wp_ldc2_w, wp_aconst_null, wp_iload, wp_iload_n, wp_lload, wp_lload_n, wp_aload, wp_aload_n, wp_istore, wp_istore_n, wp_lstore, wp_lstore_n, wp_astore, wp_astore_n, wp_iinc, wp_iadd, wp_isub, wp_imul, wp_iand, wp_ior, wp_ixor, wp_ishl, wp_ishr, wp_iushr, wp_idiv, wp_irem, wp_ineg, wp_ladd, wp_lsub, wp_land, wp_lor, wp_lxor, wp_lcmp, wp_lneg, wp_lshl, wp_lushr, wp_i2l, wp_l2i, wp_dup, wp_dup2, wp_pop, wp_goto, wp_ifCond, wp_if_icmp, wp_ifnonnull, wp_tableswitch, wp_getstatic, wp_getfield, wp_putfield, wp_iaload, wp_laload, wp_aaload, wp_iastore, wp_lastore, wp_aastore, wp_arraylength, wp_newarray, wp_anewarray, wp_new, wp_invokevirtual, wp_invokestatic, wp_invokespecial, wp_ireturn, wp_lreturn, wp_areturn, wp_return_, wp_nil, e_pI, e_pJ, e_pR, e_pA1, e_pA2, e_pD1, e_pD2, e_pN1, e_pN2, e_pII, e_pJJ, e_pIJ, e_pIR, e_pIIR, e_pJIR, e_pRIR, e_pF1, e_pF2, e_pF3, e_lI, e_lJ, e_lA1, e_lA2, e_rI, e_rJ, e_rA1, e_rA2, e_rV, e_pn0, e_pn1, e_pn2, e_pn3, e_pn4, e_pn5, e_dn, e_wt0, e_wt1, e_wt2, e_wt3, e_wt4, e_wt5, e_wt6, e_wt7, e_wt9, e_ws8, e_ws0, e_ws1, e_ws2, e_ws3, e_ws4, e_wc, mj_ld, mj_st1, mj_st2, c1_J, c1_i, c1_l, c1_r, c1_n, c1_rf, mj_ok4, mj_rc, mj_cz, mj_cc, mj_gv, wr_v, wr_i, wr_l, wr_r, rf_s, rf_n, k_sI, k_sJ, k_sR, R_sI, R_sJ, J_sI, J_sR, I_sJ, I_sR, lc_eq, lc_lt, lc_gt, lc_ge, lc_le, true_and, and_true, List.cons_append, List.nil_append, Nat.reduceAdd, Nat.reduceLeDiff, Nat.reduceEqDiff, or_true, true_or, and_self]
      apply pm_ntz
      simp only [wp_iconst, wp_bipush, wp_sipush, wp_ldc, wp_ldc_w, wp_lconst, wp_ldc2_w, wp_aconst_null, wp_iload, wp_iload_n, wp_lload, wp_lload_n, wp_aload, wp_aload_n, wp_istore, wp_istore_n, wp_lstore, wp_lstore_n, wp_astore, wp_astore_n, wp_iinc, wp_iadd, wp_isub, wp_imul, wp_iand, wp_ior, wp_ixor, wp_ishl, wp_ishr, wp_iushr, wp_idiv, wp_irem, wp_ineg, wp_ladd, wp_lsub, wp_land, wp_lor, wp_lxor, wp_lcmp, wp_lneg, wp_lshl, wp_lushr, wp_i2l, wp_l2i, wp_dup, wp_dup2, wp_pop, wp_goto, wp_ifCond, wp_if_icmp, wp_ifnonnull, wp_tableswitch, wp_getstatic, wp_getfield, wp_putfield, wp_iaload, wp_laload, wp_aaload, wp_iastore, wp_lastore, wp_aastore, wp_arraylength, wp_newarray, wp_anewarray, wp_new, wp_invokevirtual, wp_invokestatic, wp_invokespecial, wp_ireturn, wp_lreturn, wp_areturn, wp_return_, wp_nil, e_pI, e_pJ, e_pR, e_pA1, e_pA2, e_pD1, e_pD2, e_pN1, e_pN2, e_pII, e_pJJ, e_pIJ, e_pIR, e_pIIR, e_pJIR, e_pRIR, e_pF1, e_pF2, e_pF3, e_lI, e_lJ, e_lA1, e_lA2, e_rI, e_rJ, e_rA1, e_rA2, e_rV, e_pn0, e_pn1, e_pn2, e_pn3, e_pn4, e_pn5, e_dn, e_wt0, e_wt1, e_wt2, e_wt3, e_wt4, e_wt5, e_wt6, e_wt7, e_wt9, e_ws8, e_ws0, e_ws1, e_ws2, e_ws3, e_ws4, e_wc, mj_ld, mj_st1, mj_st2, c1_J, c1_i, c1_l, c1_r, c1_n, c1_rf, mj_ok4, mj_rc, mj_cz, mj_cc, mj_gv, wr_v, wr_i, wr_l, wr_r, rf_s, rf_n, k_sI, k_sJ, k_sR, R_sI, R_sJ, J_sI, J_sR, I_sJ, I_sR, lc_eq, lc_lt, lc_gt, lc_ge, lc_le, true_and, and_true, List.cons_append, List.nil_append, Nat.reduceAdd, Nat.reduceLeDiff, Nat.reduceEqDiff, or_true, true_or, and_self]
      rw [kt_e]; simp only [wp_iconst, wp_bipush, wp_sipush, wp_ldc, wp_ldc_w, wp_lconst, wp_ldc2_w, wp_aconst_null, wp_iload, wp_iload_n, wp_lload, wp_lload_n, wp_aload, wp_aload_n, wp_istore, wp_istore_n, wp_lstore, wp_lstore_n, wp_astore, wp_astore_n, wp_iinc, wp_iadd, wp_isub, wp_imul, wp_iand, wp_ior, wp_ixor, wp_ishl, wp_ishr, wp_iushr, wp_idiv, wp_irem, wp_ineg, wp_ladd, wp_lsub, wp_land, wp_lor, wp_lxor, wp_lcmp, wp_lneg, wp_lshl, wp_lushr, wp_i2l, wp_l2i, wp_dup, wp_dup2, wp_pop, wp_goto, wp_ifCond, wp_if_icmp, wp_ifnonnull, wp_tableswitch, wp_getstatic, wp_getfield, wp_putfield, wp_iaload, wp_laload, wp_aaload, wp_iastore, wp_lastore, wp_aastore, wp_arraylength, wp_newarray, wp_anewarray, wp_new, wp_invokevirtual, wp_invokestatic, wp_invokespecial, wp_ireturn, wp_lreturn, wp_areturn, wp_return_, wp_nil, e_pI, e_pJ, e_pR, e_pA1, e_pA2, e_pD1, e_pD2, e_pN1, e_pN2, e_pII, e_pJJ, e_pIJ, e_pIR, e_pIIR, e_pJIR, e_pRIR, e_pF1, e_pF2, e_pF3, e_lI, e_lJ, e_lA1, e_lA2, e_rI, e_rJ, e_rA1, e_rA2, e_rV, e_pn0, e_pn1, e_pn2, e_pn3, e_pn4, e_pn5, e_dn, e_wt0, e_wt1, e_wt2, e_wt3, e_wt4, e_wt5, e_wt6, e_wt7, e_wt9, e_ws8, e_ws0, e_ws1, e_ws2, e_ws3, e_ws4, e_wc, mj_ld, mj_st1, mj_st2, c1_J, c1_i, c1_l, c1_r, c1_n, c1_rf, mj_ok4, mj_rc, mj_cz, mj_cc, mj_gv, wr_v, wr_i, wr_l, wr_r, rf_s, rf_n, k_sI, k_sJ, k_sR, R_sI, R_sJ, J_sI, J_sR, I_sJ, I_sR, lc_eq, lc_lt, lc_gt, lc_ge, lc_le, true_and, and_true, List.cons_append, List.nil_append, Nat.reduceAdd, Nat.reduceLeDiff, Nat.reduceEqDiff, or_true, true_or, and_self, i_rem8 k2, i_mod8 k2, i_div8 k2, n80, not_false_eq_true, i_s]
      have e : mrd s w p ||| mj_js 1 (8 * Int32.ofNat (lb r / 8) + w - 1 - Int32.ofNat (lb r % 8)) = mrd s w (lb r + 1) := by
        rw [mrd, if_pos k3, mrd_split s w k1 k5]
      rw [e]
      exact ih (i + 1) (lb r + 1) _ _ (by omega) (by omega) (by omega) k6
theorem pm_mirror (s : Int64) (h : mj_H) (Q : Option Value → mj_H → Prop) (d : Nat) (hq : Q (some (.long (md s))) h) : mj_C (d + 3) 30 [.long s] h Q := by
  refine mj_C_of 10 rfl rfl ?_; show mj_X _ 30 0 [.long s, mj_J, mj_J, mj_J, mj_J, mj_J, mj_J, mj_J, mj_J, mj_J] [] _ _
  refine mj_go (B := mj_B30_0) rfl ?_; simp only [mj_B30_0, wp_iconst, wp_bipush, wp_sipush, wp_ldc, wp_ldc_w, wp_lconst, wp_ldc2_w, wp_aconst_null, wp_iload, wp_iload_n, wp_lload, wp_lload_n, wp_aload, wp_aload_n, wp_istore, wp_istore_n, wp_lstore, wp_lstore_n, wp_astore, wp_astore_n, wp_iinc, wp_iadd, wp_isub, wp_imul, wp_iand, wp_ior, wp_ixor, wp_ishl, wp_ishr, wp_iushr, wp_idiv, wp_irem, wp_ineg, wp_ladd, wp_lsub, wp_land, wp_lor, wp_lxor, wp_lcmp, wp_lneg, wp_lshl, wp_lushr, wp_i2l, wp_l2i, wp_dup, wp_dup2, wp_pop, wp_goto, wp_ifCond, wp_if_icmp, wp_ifnonnull, wp_tableswitch, wp_getstatic, wp_getfield, wp_putfield, wp_iaload, wp_laload, wp_aaload, wp_iastore, wp_lastore, wp_aastore, wp_arraylength, wp_newarray, wp_anewarray, wp_new, wp_invokevirtual, wp_invokestatic, wp_invokespecial, wp_ireturn, wp_lreturn, wp_areturn, wp_return_, wp_nil, e_pI, e_pJ, e_pR, e_pA1, e_pA2, e_pD1, e_pD2, e_pN1, e_pN2, e_pII, e_pJJ, e_pIJ, e_pIR, e_pIIR, e_pJIR, e_pRIR, e_pF1, e_pF2, e_pF3, e_lI, e_lJ, e_lA1, e_lA2, e_rI, e_rJ, e_rA1, e_rA2, e_rV, e_pn0, e_pn1, e_pn2, e_pn3, e_pn4, e_pn5, e_dn, e_wt0, e_wt1, e_wt2, e_wt3, e_wt4, e_wt5, e_wt6, e_wt7, e_wt9, e_ws8, e_ws0, e_ws1, e_ws2, e_ws3, e_ws4, e_wc, mj_ld, mj_st1, mj_st2, c1_J, c1_i, c1_l, c1_r, c1_n, c1_rf, mj_ok4, mj_rc, mj_cz, mj_cc, mj_gv, wr_v, wr_i, wr_l, wr_r, rf_s, rf_n, k_sI, k_sJ, k_sR, R_sI, R_sJ, J_sI, J_sR, I_sJ, I_sR, lc_eq, lc_lt, lc_gt, lc_ge, lc_le, true_and, and_true, List.cons_append, List.nil_append, Nat.reduceAdd, Nat.reduceLeDiff, Nat.reduceEqDiff, or_true, true_or, and_self]
  apply pm_wide
  simp only [wp_iconst, wp_bipush, wp_sipush, wp_ldc, wp_ldc_w, wp_lconst, wp_ldc2_w, wp_aconst_null, wp_iload, wp_iload_n, wp_lload, wp_lload_n, wp_aload, wp_aload_n, wp_istore, wp_istore_n, wp_lstore, wp_lstore_n, wp_astore, wp_astore_n, wp_iinc, wp_iadd, wp_isub, wp_imul, wp_iand, wp_ior, wp_ixor, wp_ishl, wp_ishr, wp_iushr, wp_idiv, wp_irem, wp_ineg, wp_ladd, wp_lsub, wp_land, wp_lor, wp_lxor, wp_lcmp, wp_lneg, wp_lshl, wp_lushr, wp_i2l, wp_l2i, wp_dup, wp_dup2, wp_pop, wp_goto, wp_ifCond, wp_if_icmp, wp_ifnonnull, wp_tableswitch, wp_getstatic, wp_getfield, wp_putfield, wp_iaload, wp_laload, wp_aaload, wp_iastore, wp_lastore, wp_aastore, wp_arraylength, wp_newarray, wp_anewarray, wp_new, wp_invokevirtual, wp_invokestatic, wp_invokespecial, wp_ireturn, wp_lreturn, wp_areturn, wp_return_, wp_nil, e_pI, e_pJ, e_pR, e_pA1, e_pA2, e_pD1, e_pD2, e_pN1, e_pN2, e_pII, e_pJJ, e_pIJ, e_pIR, e_pIIR, e_pJIR, e_pRIR, e_pF1, e_pF2, e_pF3, e_lI, e_lJ, e_lA1, e_lA2, e_rI, e_rJ, e_rA1, e_rA2, e_rV, e_pn0, e_pn1, e_pn2, e_pn3, e_pn4, e_pn5, e_dn, e_wt0, e_wt1, e_wt2, e_wt3, e_wt4, e_wt5, e_wt6, e_wt7, e_wt9, e_ws8, e_ws0, e_ws1, e_ws2, e_ws3, e_ws4, e_wc, mj_ld, mj_st1, mj_st2, c1_J, c1_i, c1_l, c1_r, c1_n, c1_rf, mj_ok4, mj_rc, mj_cz, mj_cc, mj_gv, wr_v, wr_i, wr_l, wr_r, rf_s, rf_n, k_sI, k_sJ, k_sR, R_sI, R_sJ, J_sI, J_sR, I_sJ, I_sR, lc_eq, lc_lt, lc_gt, lc_ge, lc_le, true_and, and_true, List.cons_append, List.nil_append, Nat.reduceAdd, Nat.reduceLeDiff, Nat.reduceEqDiff, or_true, true_or, and_self]
  rw [kt_e]; simp only [wp_iconst, wp_bipush, wp_sipush, wp_ldc, wp_ldc_w, wp_lconst, wp_ldc2_w, wp_aconst_null, wp_iload, wp_iload_n, wp_lload, wp_lload_n, wp_aload, wp_aload_n, wp_istore, wp_istore_n, wp_lstore, wp_lstore_n, wp_astore, wp_astore_n, wp_iinc, wp_iadd, wp_isub, wp_imul, wp_iand, wp_ior, wp_ixor, wp_ishl, wp_ishr, wp_iushr, wp_idiv, wp_irem, wp_ineg, wp_ladd, wp_lsub, wp_land, wp_lor, wp_lxor, wp_lcmp, wp_lneg, wp_lshl, wp_lushr, wp_i2l, wp_l2i, wp_dup, wp_dup2, wp_pop, wp_goto, wp_ifCond, wp_if_icmp, wp_ifnonnull, wp_tableswitch, wp_getstatic, wp_getfield, wp_putfield, wp_iaload, wp_laload, wp_aaload, wp_iastore, wp_lastore, wp_aastore, wp_arraylength, wp_newarray, wp_anewarray, wp_new, wp_invokevirtual, wp_invokestatic, wp_invokespecial, wp_ireturn, wp_lreturn, wp_areturn, wp_return_, wp_nil, e_pI, e_pJ, e_pR, e_pA1, e_pA2, e_pD1, e_pD2, e_pN1, e_pN2, e_pII, e_pJJ, e_pIJ, e_pIR, e_pIIR, e_pJIR, e_pRIR, e_pF1, e_pF2, e_pF3, e_lI, e_lJ, e_lA1, e_lA2, e_rI, e_rJ, e_rA1, e_rA2, e_rV, e_pn0, e_pn1, e_pn2, e_pn3, e_pn4, e_pn5, e_dn, e_wt0, e_wt1, e_wt2, e_wt3, e_wt4, e_wt5, e_wt6, e_wt7, e_wt9, e_ws8, e_ws0, e_ws1, e_ws2, e_ws3, e_ws4, e_wc, mj_ld, mj_st1, mj_st2, c1_J, c1_i, c1_l, c1_r, c1_n, c1_rf, mj_ok4, mj_rc, mj_cz, mj_cc, mj_gv, wr_v, wr_i, wr_l, wr_r, rf_s, rf_n, k_sI, k_sJ, k_sR, R_sI, R_sJ, J_sI, J_sR, I_sJ, I_sR, lc_eq, lc_lt, lc_gt, lc_ge, lc_le, true_and, and_true, List.cons_append, List.nil_append, Nat.reduceAdd, Nat.reduceLeDiff, Nat.reduceEqDiff, or_true, true_or, and_self]
  apply pm_bitCount
  simp only [wp_iconst, wp_bipush, wp_sipush, wp_ldc, wp_ldc_w, wp_lconst, wp_ldc2_w, wp_aconst_null, wp_iload, wp_iload_n, wp_lload, wp_lload_n, wp_aload, wp_aload_n, wp_istore, wp_istore_n, wp_lstore, wp_lstore_n, wp_astore, wp_astore_n, wp_iinc, wp_iadd, wp_isub, wp_imul, wp_iand, wp_ior, wp_ixor, wp_ishl, wp_ishr, wp_iushr, wp_idiv, wp_irem, wp_ineg, wp_ladd, wp_lsub, wp_land, wp_lor, wp_lxor, wp_lcmp, wp_lneg, wp_lshl, wp_lushr, wp_i2l, wp_l2i, wp_dup, wp_dup2, wp_pop, wp_goto, wp_ifCond, wp_if_icmp, wp_ifnonnull, wp_tableswitch, wp_getstatic, wp_getfield, wp_putfield, wp_iaload, wp_laload, wp_aaload, wp_iastore, wp_lastore, wp_aastore, wp_arraylength, wp_newarray, wp_anewarray, wp_new, wp_invokevirtual, wp_invokestatic, wp_invokespecial, wp_ireturn, wp_lreturn, wp_areturn, wp_return_, wp_nil, e_pI, e_pJ, e_pR, e_pA1, e_pA2, e_pD1, e_pD2, e_pN1, e_pN2, e_pII, e_pJJ, e_pIJ, e_pIR, e_pIIR, e_pJIR, e_pRIR, e_pF1, e_pF2, e_pF3, e_lI, e_lJ, e_lA1, e_lA2, e_rI, e_rJ, e_rA1, e_rA2, e_rV, e_pn0, e_pn1, e_pn2, e_pn3, e_pn4, e_pn5, e_dn, e_wt0, e_wt1, e_wt2, e_wt3, e_wt4, e_wt5, e_wt6, e_wt7, e_wt9, e_ws8, e_ws0, e_ws1, e_ws2, e_ws3, e_ws4, e_wc, mj_ld, mj_st1, mj_st2, c1_J, c1_i, c1_l, c1_r, c1_n, c1_rf, mj_ok4, mj_rc, mj_cz, mj_cc, mj_gv, wr_v, wr_i, wr_l, wr_r, rf_s, rf_n, k_sI, k_sJ, k_sR, R_sI, R_sJ, J_sI, J_sR, I_sJ, I_sR, lc_eq, lc_lt, lc_gt, lc_ge, lc_le, true_and, and_true, List.cons_append, List.nil_append, Nat.reduceAdd, Nat.reduceLeDiff, Nat.reduceEqDiff, or_true, true_or, and_self]
  rw [kt_e]; simp only [wp_iconst, wp_bipush, wp_sipush, wp_ldc, wp_ldc_w, wp_lconst, wp_ldc2_w, wp_aconst_null, wp_iload, wp_iload_n, wp_lload, wp_lload_n, wp_aload, wp_aload_n, wp_istore, wp_istore_n, wp_lstore, wp_lstore_n, wp_astore, wp_astore_n, wp_iinc, wp_iadd, wp_isub, wp_imul, wp_iand, wp_ior, wp_ixor, wp_ishl, wp_ishr, wp_iushr, wp_idiv, wp_irem, wp_ineg, wp_ladd, wp_lsub, wp_land, wp_lor, wp_lxor, wp_lcmp, wp_lneg, wp_lshl, wp_lushr, wp_i2l, wp_l2i, wp_dup, wp_dup2, wp_pop, wp_goto, wp_ifCond, wp_if_icmp, wp_ifnonnull, wp_tableswitch, wp_getstatic, wp_getfield, wp_putfield, wp_iaload, wp_laload, wp_aaload, wp_iastore, wp_lastore, wp_aastore, wp_arraylength, wp_newarray, wp_anewarray, wp_new, wp_invokevirtual, wp_invokestatic, wp_invokespecial, wp_ireturn, wp_lreturn, wp_areturn, wp_return_, wp_nil, e_pI, e_pJ, e_pR, e_pA1, e_pA2, e_pD1, e_pD2, e_pN1, e_pN2, e_pII, e_pJJ, e_pIJ, e_pIR, e_pIIR, e_pJIR, e_pRIR, e_pF1, e_pF2, e_pF3, e_lI, e_lJ, e_lA1, e_lA2, e_rI, e_rJ, e_rA1, e_rA2, e_rV, e_pn0, e_pn1, e_pn2, e_pn3, e_pn4, e_pn5, e_dn, e_wt0, e_wt1, e_wt2, e_wt3, e_wt4, e_wt5, e_wt6, e_wt7, e_wt9, e_ws8, e_ws0, e_ws1, e_ws2, e_ws3, e_ws4, e_wc, mj_ld, mj_st1, mj_st2, c1_J, c1_i, c1_l, c1_r, c1_n, c1_rf, mj_ok4, mj_rc, mj_cz, mj_cc, mj_gv, wr_v, wr_i, wr_l, wr_r, rf_s, rf_n, k_sI, k_sJ, k_sR, R_sI, R_sJ, J_sI, J_sR, I_sJ, I_sR, lc_eq, lc_lt, lc_gt, lc_ge, lc_le, true_and, and_true, List.cons_append, List.nil_append, Nat.reduceAdd, Nat.reduceLeDiff, Nat.reduceEqDiff, or_true, true_or, and_self]
  exact pm_mirror_l s _ h Q (d + 1) hq (cnt s 64) 0 0 s _ (by omega) (by omega) rfl (rst_0 s)
theorem pm_turned2 (s : Int64) (h : mj_H) (Q : Option Value → mj_H → Prop) (d : Nat) (hq : Q (some (.long (qd s))) h) : mj_C (d + 1) 129 [.long s] h Q := pm_turned s h Q d hq
theorem pm_mirrored2 (s : Int64) (h : mj_H) (Q : Option Value → mj_H → Prop) (d : Nat) (hq : Q (some (.long (md s))) h) : mj_C (d + 1) 127 [.long s] h Q := pm_mirrored s h Q d hq
/-! bits of what is turned or mirrored -/
theorem i_sh {a b c : Nat} (h : c + 1 ≤ 8 * a + b) : 8 * Int32.ofNat a + Int32.ofNat b - 1 - Int32.ofNat c = Int32.ofNat (8 * a + b - 1 - c) := by
  rw [show (8 : Int32) = Int32.ofNat 8 from rfl, ← Int32.ofNat_mul, i_add, show (1 : Int32) = Int32.ofNat 1 from rfl, i_subn (by omega), i_subn (by omega)]
theorem tnd_bt (s : Int64) (H : Nat) (hH : H ≤ 8) (hs : ∀ k, bt s k = true → k / 8 < H) {j : Nat} (hj : j < 64) : ∀ n, n ≤ 64 → (bt (tnd s (Int32.ofNat H) n) j = true ↔ (j % 8 < H ∧ 8 * (H - 1 - j % 8) + j / 8 < n ∧ bt s (8 * (H - 1 - j % 8) + j / 8) = true))
  | 0, _ => by rw [tnd, bt_0]; exact ⟨fun h => absurd h (by decide), fun h => absurd h.2.1 (Nat.not_lt_zero _)⟩
  | n + 1, hn => by
    have ih := tnd_bt s H hH hs hj n (by omega)
    rw [tnd]
    by_cases h1 : bt s n = true
    · have h2 := hs n h1
      rw [if_pos h1, i_sh (by omega), bt_or, Bool.or_eq_true, ih, js1_bt (by omega) hj, decide_eq_true_eq]
      constructor
      · rintro (⟨a, b, c⟩ | h3)
        · exact ⟨a, by omega, c⟩
        · have e : 8 * (H - 1 - j % 8) + j / 8 = n := by omega
          rw [e]
          exact ⟨by omega, by omega, h1⟩
      · rintro ⟨a, b, c⟩
        by_cases e : 8 * (H - 1 - j % 8) + j / 8 = n
        · right; omega
        · left; exact ⟨a, by omega, c⟩
    · rw [if_neg h1, ih]
      constructor
      · rintro ⟨a, b, c⟩; exact ⟨a, by omega, c⟩
      · rintro ⟨a, b, c⟩
        refine ⟨a, ?_, c⟩
        apply Classical.byContradiction
        intro h3
        rw [show 8 * (H - 1 - j % 8) + j / 8 = n by omega] at c
        exact h1 c
theorem qd_bt (s : Int64) {j : Nat} (hj : j < 64) : bt (qd s) j = true ↔ (j % 8 < hg s 64 ∧ bt s (8 * (hg s 64 - 1 - j % 8) + j / 8) = true) := by
  unfold qd
  rw [tnd_bt s (hg s 64) (hg_le s 64 (by omega)) (fun k hk => hg_lt hk) hj 64 (Nat.le_refl _)]
  have h1 := hg_le s 64 (by omega)
  exact ⟨fun h => ⟨h.1, h.2.2⟩, fun h => ⟨h.1, by omega, h.2⟩⟩
theorem mrd_bt (s : Int64) (W : Nat) (hW : W ≤ 8) (hs : ∀ k, bt s k = true → k % 8 < W) {j : Nat} (hj : j < 64) : ∀ n, n ≤ 64 → (bt (mrd s (Int32.ofNat W) n) j = true ↔ (j % 8 < W ∧ 8 * (j / 8) + (W - 1 - j % 8) < n ∧ bt s (8 * (j / 8) + (W - 1 - j % 8)) = true))
  | 0, _ => by rw [mrd, bt_0]; exact ⟨fun h => absurd h (by decide), fun h => absurd h.2.1 (Nat.not_lt_zero _)⟩
  | n + 1, hn => by
    have ih := mrd_bt s W hW hs hj n (by omega)
    rw [mrd]
    by_cases h1 : bt s n = true
    · have h2 := hs n h1
      rw [if_pos h1, i_sh (by omega), bt_or, Bool.or_eq_true, ih, js1_bt (by omega) hj, decide_eq_true_eq]
      constructor
      · rintro (⟨a, b, c⟩ | h3)
        · exact ⟨a, by omega, c⟩
        · have e : 8 * (j / 8) + (W - 1 - j % 8) = n := by omega
          rw [e]
          exact ⟨by omega, by omega, h1⟩
      · rintro ⟨a, b, c⟩
        by_cases e : 8 * (j / 8) + (W - 1 - j % 8) = n
        · right; omega
        · left; exact ⟨a, by omega, c⟩
    · rw [if_neg h1, ih]
      constructor
      · rintro ⟨a, b, c⟩; exact ⟨a, by omega, c⟩
      · rintro ⟨a, b, c⟩
        refine ⟨a, ?_, c⟩
        apply Classical.byContradiction
        intro h3
        rw [show 8 * (j / 8) + (W - 1 - j % 8) = n by omega] at c
        exact h1 c
theorem md_bt (s : Int64) {j : Nat} (hj : j < 64) : bt (md s) j = true ↔ (j % 8 < wd s 64 ∧ bt s (8 * (j / 8) + (wd s 64 - 1 - j % 8)) = true) := by
  unfold md
  rw [mrd_bt s (wd s 64) (wd_le s 64) (fun k hk => wd_lt hk) hj 64 (Nat.le_refl _)]
  have h1 := wd_le s 64
  exact ⟨fun h => ⟨h.1, h.2.2⟩, fun h => ⟨h.1, by omega, h.2⟩⟩
