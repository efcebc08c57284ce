/-! what a run changes; ordered rows of longs -/
def fr (P : Nat → Nat → Prop) (h h' : mj_H) : Prop := h'.1 = h.1 ∧ h'.2.1 = h.2.1 ∧ (∀ r, mj_k h' r = mj_k h r) ∧ (∀ r j, mj_gR h' r j = mj_gR h r j) ∧ (∀ r j, ¬ P r j → mj_gI h' r j = mj_gI h r j) ∧ (∀ r j, ¬ P r j → mj_gJ h' r j = mj_gJ h r j)
theorem fr_refl (P : Nat → Nat → Prop) (h : mj_H) : fr P h h := ⟨rfl, rfl, fun _ => rfl, fun _ _ => rfl, fun _ _ _ => rfl, fun _ _ _ => rfl⟩
theorem fr_trans {P : Nat → Nat → Prop} {h h1 h2 : mj_H} (a : fr P h h1) (b : fr P h1 h2) : fr P h h2 :=
  ⟨b.1.trans a.1, b.2.1.trans a.2.1, fun r => (b.2.2.1 r).trans (a.2.2.1 r), fun r j => (b.2.2.2.1 r j).trans (a.2.2.2.1 r j), fun r j hp => (b.2.2.2.2.1 r j hp).trans (a.2.2.2.2.1 r j hp), fun r j hp => (b.2.2.2.2.2 r j hp).trans (a.2.2.2.2.2 r j hp)⟩
theorem fr_mono {P P' : Nat → Nat → Prop} {h h1 : mj_H} (a : fr P h h1) (hp : ∀ r j, P r j → P' r j) : fr P' h h1 :=
  ⟨a.1, a.2.1, a.2.2.1, a.2.2.2.1, fun r j hn => a.2.2.2.2.1 r j (fun x => hn (hp r j x)), fun r j hn => a.2.2.2.2.2 r j (fun x => hn (hp r j x))⟩
theorem fr_sI {P : Nat → Nat → Prop} {h h1 : mj_H} (a : fr P h h1) {r j : Nat} (hp : P r j) (v : Int32) : fr P h (mj_sI h1 r j v) :=
  ⟨a.1, a.2.1, a.2.2.1, a.2.2.2.1, fun q i hn => by rw [I_sI, if_neg (fun e => hn (by rw [e.1, e.2]; exact hp))]; exact a.2.2.2.2.1 q i hn, a.2.2.2.2.2⟩
theorem fr_sJ {P : Nat → Nat → Prop} {h h1 : mj_H} (a : fr P h h1) {r j : Nat} (hp : P r j) (v : Int64) : fr P h (mj_sJ h1 r j v) :=
  ⟨a.1, a.2.1, a.2.2.1, a.2.2.2.1, a.2.2.2.2.1, fun q i hn => by rw [J_sJ, if_neg (fun e => hn (by rw [e.1, e.2]; exact hp))]; exact a.2.2.2.2.2 q i hn⟩
theorem fr_k {P : Nat → Nat → Prop} {h h1 : mj_H} (a : fr P h h1) (r : Nat) : mj_k h1 r = mj_k h r := a.2.2.1 r
theorem fr_R {P : Nat → Nat → Prop} {h h1 : mj_H} (a : fr P h h1) (r j : Nat) : mj_gR h1 r j = mj_gR h r j := a.2.2.2.1 r j
theorem fr_I {P : Nat → Nat → Prop} {h h1 : mj_H} (a : fr P h h1) {r j : Nat} (hn : ¬ P r j) : mj_gI h1 r j = mj_gI h r j := a.2.2.2.2.1 r j hn
theorem fr_J {P : Nat → Nat → Prop} {h h1 : mj_H} (a : fr P h h1) {r j : Nat} (hn : ¬ P r j) : mj_gJ h1 r j = mj_gJ h r j := a.2.2.2.2.2 r j hn
theorem tnc {k : Nat} (h : k < 2147483648) : (Int32.ofNat k).toNatClampNeg = k := by
  show (Int32.ofNat k).toInt.toNat = k
  rw [i_in h]
  rfl
theorem vin {k n : Nat} (h : k < n) (hn : n ≤ 2147483648) : vp_in (Int32.ofNat k) n := by
  unfold vp_in
  rw [tnc (by omega), i_lt (by omega), show (0 : Int32).toInt = 0 from rfl]
  omega
theorem i_ltn {a b : Nat} (ha : a < 2147483648) (hb : b < 2147483648) : (Int32.ofNat a < Int32.ofNat b) = (a < b) := by
  rw [i_lt ha, i_in hb]
  exact propext ⟨fun h => by omega, fun h => by omega⟩
theorem i_len {a b : Nat} (ha : a < 2147483648) (hb : b < 2147483648) : (Int32.ofNat a ≤ Int32.ofNat b) = (a ≤ b) := by
  rw [i_le ha, i_in hb]
  exact propext ⟨fun h => by omega, fun h => by omega⟩
theorem i_eqn {a b : Nat} (ha : a < 2147483648) (hb : b < 2147483648) : (Int32.ofNat a = Int32.ofNat b) = (a = b) := by
  rw [← Int32.toInt_inj, i_in ha, i_in hb]
  exact propext ⟨fun h => by omega, fun h => by omega⟩
theorem l03 : (0 < 3) = True := by decide
theorem l13 : (1 < 3) = True := by decide
theorem l23 : (2 < 3) = True := by decide
/-- the first of the n places whose number isn't less -/
def pla (f : Nat → Int64) (x : Int64) : Nat → Nat → Nat
  | i, 0 => i
  | i, j + 1 => if f i < x then pla f x (i + 1) j else i
def pl (f : Nat → Int64) (x : Int64) (n : Nat) : Nat := pla f x 0 n
theorem pla_ok (f : Nat → Int64) (x : Int64) : ∀ j i, i ≤ pla f x i j ∧ pla f x i j ≤ i + j ∧ (∀ k, i ≤ k → k < pla f x i j → f k < x) ∧ (pla f x i j < i + j → ¬ f (pla f x i j) < x)
  | 0, i => ⟨Nat.le_refl _, Nat.le_refl _, fun k a b => by rw [pla] at b; omega, fun h => by rw [pla] at h; omega⟩
  | j + 1, i => by
    have ih := pla_ok f x j (i + 1)
    rw [pla]
    by_cases h : f i < x
    · rw [if_pos h]
      refine ⟨by omega, by omega, fun k a b => ?_, fun a => ih.2.2.2 (by omega)⟩
      by_cases e : k = i
      · rw [e]; exact h
      · exact ih.2.2.1 k (by omega) b
    · rw [if_neg h]
      exact ⟨Nat.le_refl _, by omega, fun k a b => by omega, fun _ => h⟩
theorem pl_le (f : Nat → Int64) (x : Int64) (n : Nat) : pl f x n ≤ n := by have := (pla_ok f x n 0).2.1; unfold pl; omega
theorem pl_lt (f : Nat → Int64) (x : Int64) (n : Nat) {k : Nat} (h : k < pl f x n) : f k < x := (pla_ok f x n 0).2.2.1 k (Nat.zero_le _) h
theorem pl_at (f : Nat → Int64) (x : Int64) (n : Nat) (h : pl f x n < n) : ¬ f (pl f x n) < x := (pla_ok f x n 0).2.2.2 (by unfold pl at h; omega)
theorem pla_cong {f g : Nat → Int64} (x : Int64) : ∀ j i, (∀ k, i ≤ k → k < i + j → f k = g k) → pla f x i j = pla g x i j
  | 0, i, _ => rfl
  | j + 1, i, h => by
    rw [pla, pla, h i (Nat.le_refl _) (by omega), pla_cong x j (i + 1) (fun k a b => h k (by omega) (by omega))]
theorem pl_cong {f g : Nat → Int64} (x : Int64) {n : Nat} (h : ∀ k, k < n → f k = g k) : pl f x n = pl g x n := pla_cong x n 0 (fun k _ b => h k (by omega))
def stands (f : Nat → Int64) (x : Int64) (n : Nat) : Bool := decide (pl f x n < n ∧ f (pl f x n) = x)
def insf (f : Nat → Int64) (x : Int64) (n : Nat) : Nat → Int64 := fun i => if i < pl f x n then f i else if i = pl f x n then x else f (i - 1)
def ins (q : Nat × (Nat → Int64)) (x : Int64) : Nat × (Nat → Int64) := if stands q.2 x q.1 = true then q else (q.1 + 1, insf q.2 x q.1)
theorem pm_place (r n len : Nat) (f : Nat → Int64) (x : Int64) (h : mj_H) (Q : Option Value → mj_H → Prop) (d : Nat) (hk : mj_k h r = (1, len)) (hr : ∀ i, i < n → mj_gJ h r i = f i) (hn : n ≤ len) (hl : len < 2147483648) (hq : Q (some (.int (Int32.ofNat (pl f x n)))) h) : mj_C d 36 [.ref r, .int (Int32.ofNat n), .long x] h Q := by
  have hL : ∀ j i, i + j = n → pla f x i j = pl f x n → mj_X d 36 3 [.ref r, .int (Int32.ofNat n), .long x, mj_J, .int (Int32.ofNat i)] [] h Q := by
    intro j
    induction j with
    | zero =>
      intro i hi hp
      refine mj_go (B := mj_B36_3) rfl ?_; simp only [mj_B36_3, wp_iconst, wp_bipush, wp_sipush, wp_ldc, wp_ldc_w, wp_lconst, wp_ldc2_w, wp_aconst_null, wp_iload, wp_iload_n, wp_lload, wp_lload_n, wp_aload, wp_aload_n, wp_istore, wp_istore_n, wp_lstore, wp_lstore_n, wp_astore, wp_astore_n, wp_iinc, wp_iadd, wp_isub, wp_imul, wp_iand, wp_ior, wp_ixor, wp_ishl, wp_ishr, wp_iushr, wp_idiv, wp_irem, wp_ineg, wp_ladd, wp_lsub, wp_land, wp_lor, wp_lxor, wp_lcmp, wp_lneg, wp_lshl, wp_lushr, wp_i2l, wp_l2i, wp_dup, wp_dup2, wp_pop, wp_goto, wp_ifCond, wp_if_icmp, wp_ifnonnull, wp_tableswitch, wp_getstatic, wp_getfield, wp_putfield, wp_iaload, wp_laload, wp_aaload, wp_iastore, wp_lastore, wp_aastore, wp_arraylength, wp_newarray, wp_anewarray, wp_new, wp_invokevirtual, wp_invokestatic, wp_invokespecial, wp_ireturn, wp_lreturn, wp_areturn, wp_return_, wp_nil, e_pI, e_pJ, e_pR, e_pA1, e_pA2, e_pD1, e_pD2, e_pN1, e_pN2, e_pII, e_pJJ, e_pIJ, e_pIR, e_pIIR, e_pJIR, e_pRIR, e_pF1, e_pF2, e_pF3, e_lI, e_lJ, e_lA1, e_lA2, e_rI, e_rJ, e_rA1, e_rA2, e_rV, e_pn0, e_pn1, e_pn2, e_pn3, e_pn4, e_pn5, e_dn, e_wt0, e_wt1, e_wt2, e_wt3, e_wt4, e_wt5, e_wt6, e_wt7, e_wt9, e_ws8, e_ws0, e_ws1, e_ws2, e_ws3, e_ws4, e_wc, mj_ld, mj_st1, mj_st2, c1_J, c1_i, c1_l, c1_r, c1_n, c1_rf, mj_ok4, mj_rc, mj_cz, mj_cc, mj_gv, wr_v, wr_i, wr_l, wr_r, rf_s, rf_n, k_sI, k_sJ, k_sR, R_sI, R_sJ, J_sI, J_sR, I_sJ, I_sR, lc_eq, lc_lt, lc_gt, lc_ge, lc_le, true_and, and_true, List.cons_append, List.nil_append, Nat.reduceAdd, Nat.reduceLeDiff, Nat.reduceEqDiff, or_true, true_or, and_self, Nat.reduceEqDiff, l13, l03, l23, Nat.reduceLT, not_true_eq_false, not_false_eq_true, Nat.reduceAdd, hk]
      refine ⟨fun _ => ?_, fun h5 => ?_⟩
      · refine mj_go (B := mj_B36_31) rfl ?_; simp only [mj_B36_31, wp_iconst, wp_bipush, wp_sipush, wp_ldc, wp_ldc_w, wp_lconst, wp_ldc2_w, wp_aconst_null, wp_iload, wp_iload_n, wp_lload, wp_lload_n, wp_aload, wp_aload_n, wp_istore, wp_istore_n, wp_lstore, wp_lstore_n, wp_astore, wp_astore_n, wp_iinc, wp_iadd, wp_isub, wp_imul, wp_iand, wp_ior, wp_ixor, wp_ishl, wp_ishr, wp_iushr, wp_idiv, wp_irem, wp_ineg, wp_ladd, wp_lsub, wp_land, wp_lor, wp_lxor, wp_lcmp, wp_lneg, wp_lshl, wp_lushr, wp_i2l, wp_l2i, wp_dup, wp_dup2, wp_pop, wp_goto, wp_ifCond, wp_if_icmp, wp_ifnonnull, wp_tableswitch, wp_getstatic, wp_getfield, wp_putfield, wp_iaload, wp_laload, wp_aaload, wp_iastore, wp_lastore, wp_aastore, wp_arraylength, wp_newarray, wp_anewarray, wp_new, wp_invokevirtual, wp_invokestatic, wp_invokespecial, wp_ireturn, wp_lreturn, wp_areturn, wp_return_, wp_nil, e_pI, e_pJ, e_pR, e_pA1, e_pA2, e_pD1, e_pD2, e_pN1, e_pN2, e_pII, e_pJJ, e_pIJ, e_pIR, e_pIIR, e_pJIR, e_pRIR, e_pF1, e_pF2, e_pF3, e_lI, e_lJ, e_lA1, e_lA2, e_rI, e_rJ, e_rA1, e_rA2, e_rV, e_pn0, e_pn1, e_pn2, e_pn3, e_pn4, e_pn5, e_dn, e_wt0, e_wt1, e_wt2, e_wt3, e_wt4, e_wt5, e_wt6, e_wt7, e_wt9, e_ws8, e_ws0, e_ws1, e_ws2, e_ws3, e_ws4, e_wc, mj_ld, mj_st1, mj_st2, c1_J, c1_i, c1_l, c1_r, c1_n, c1_rf, mj_ok4, mj_rc, mj_cz, mj_cc, mj_gv, wr_v, wr_i, wr_l, wr_r, rf_s, rf_n, k_sI, k_sJ, k_sR, R_sI, R_sJ, J_sI, J_sR, I_sJ, I_sR, lc_eq, lc_lt, lc_gt, lc_ge, lc_le, true_and, and_true, List.cons_append, List.nil_append, Nat.reduceAdd, Nat.reduceLeDiff, Nat.reduceEqDiff, or_true, true_or, and_self, Nat.reduceEqDiff, l13, l03, l23, Nat.reduceLT, not_true_eq_false, not_false_eq_true, Nat.reduceAdd]
        rw [← hp, pla] at hq
        exact hq
      · rw [i_len (by omega) (by omega)] at h5
        omega
    | succ j ih =>
      intro i hi hp
      refine mj_go (B := mj_B36_3) rfl ?_; simp only [mj_B36_3, wp_iconst, wp_bipush, wp_sipush, wp_ldc, wp_ldc_w, wp_lconst, wp_ldc2_w, wp_aconst_null, wp_iload, wp_iload_n, wp_lload, wp_lload_n, wp_aload, wp_aload_n, wp_istore, wp_istore_n, wp_lstore, wp_lstore_n, wp_astore, wp_astore_n, wp_iinc, wp_iadd, wp_isub, wp_imul, wp_iand, wp_ior, wp_ixor, wp_ishl, wp_ishr, wp_iushr, wp_idiv, wp_irem, wp_ineg, wp_ladd, wp_lsub, wp_land, wp_lor, wp_lxor, wp_lcmp, wp_lneg, wp_lshl, wp_lushr, wp_i2l, wp_l2i, wp_dup, wp_dup2, wp_pop, wp_goto, wp_ifCond, wp_if_icmp, wp_ifnonnull, wp_tableswitch, wp_getstatic, wp_getfield, wp_putfield, wp_iaload, wp_laload, wp_aaload, wp_iastore, wp_lastore, wp_aastore, wp_arraylength, wp_newarray, wp_anewarray, wp_new, wp_invokevirtual, wp_invokestatic, wp_invokespecial, wp_ireturn, wp_lreturn, wp_areturn, wp_return_, wp_nil, e_pI, e_pJ, e_pR, e_pA1, e_pA2, e_pD1, e_pD2, e_pN1, e_pN2, e_pII, e_pJJ, e_pIJ, e_pIR, e_pIIR, e_pJIR, e_pRIR, e_pF1, e_pF2, e_pF3, e_lI, e_lJ, e_lA1, e_lA2, e_rI, e_rJ, e_rA1, e_rA2, e_rV, e_pn0, e_pn1, e_pn2, e_pn3, e_pn4, e_pn5, e_dn, e_wt0, e_wt1, e_wt2, e_wt3, e_wt4, e_wt5, e_wt6, e_wt7, e_wt9, e_ws8, e_ws0, e_ws1, e_ws2, e_ws3, e_ws4, e_wc, mj_ld, mj_st1, mj_st2, c1_J, c1_i, c1_l, c1_r, c1_n, c1_rf, mj_ok4, mj_rc, mj_cz, mj_cc, mj_gv, wr_v, wr_i, wr_l, wr_r, rf_s, rf_n, k_sI, k_sJ, k_sR, R_sI, R_sJ, J_sI, J_sR, I_sJ, I_sR, lc_eq, lc_lt, lc_gt, lc_ge, lc_le, true_and, and_true, List.cons_append, List.nil_append, Nat.reduceAdd, Nat.reduceLeDiff, Nat.reduceEqDiff, or_true, true_or, and_self, Nat.reduceEqDiff, l13, l03, l23, Nat.reduceLT, not_true_eq_false, not_false_eq_true, Nat.reduceAdd, hk]
      refine ⟨fun h5 => ?_, fun _ => ?_⟩
      · rw [i_len (by omega) (by omega)] at h5
        omega
      · simp only [kt_e, wp_iconst, wp_bipush, wp_sipush, wp_ldc, wp_ldc_w, wp_lconst, wp_ldc2_w, wp_aconst_null, wp_iload, wp_iload_n, wp_lload, wp_lload_n, wp_aload, wp_aload_n, wp_istore, wp_istore_n, wp_lstore, wp_lstore_n, wp_astore, wp_astore_n, wp_iinc, wp_iadd, wp_isub, wp_imul, wp_iand, wp_ior, wp_ixor, wp_ishl, wp_ishr, wp_iushr, wp_idiv, wp_irem, wp_ineg, wp_ladd, wp_lsub, wp_land, wp_lor, wp_lxor, wp_lcmp, wp_lneg, wp_lshl, wp_lushr, wp_i2l, wp_l2i, wp_dup, wp_dup2, wp_pop, wp_goto, wp_ifCond, wp_if_icmp, wp_ifnonnull, wp_tableswitch, wp_getstatic, wp_getfield, wp_putfield, wp_iaload, wp_laload, wp_aaload, wp_iastore, wp_lastore, wp_aastore, wp_arraylength, wp_newarray, wp_anewarray, wp_new, wp_invokevirtual, wp_invokestatic, wp_invokespecial, wp_ireturn, wp_lreturn, wp_areturn, wp_return_, wp_nil, e_pI, e_pJ, e_pR, e_pA1, e_pA2, e_pD1, e_pD2, e_pN1, e_pN2, e_pII, e_pJJ, e_pIJ, e_pIR, e_pIIR, e_pJIR, e_pRIR, e_pF1, e_pF2, e_pF3, e_lI, e_lJ, e_lA1, e_lA2, e_rI, e_rJ, e_rA1, e_rA2, e_rV, e_pn0, e_pn1, e_pn2, e_pn3, e_pn4, e_pn5, e_dn, e_wt0, e_wt1, e_wt2, e_wt3, e_wt4, e_wt5, e_wt6, e_wt7, e_wt9, e_ws8, e_ws0, e_ws1, e_ws2, e_ws3, e_ws4, e_wc, mj_ld, mj_st1, mj_st2, c1_J, c1_i, c1_l, c1_r, c1_n, c1_rf, mj_ok4, mj_rc, mj_cz, mj_cc, mj_gv, wr_v, wr_i, wr_l, wr_r, rf_s, rf_n, k_sI, k_sJ, k_sR, R_sI, R_sJ, J_sI, J_sR, I_sJ, I_sR, lc_eq, lc_lt, lc_gt, lc_ge, lc_le, true_and, and_true, List.cons_append, List.nil_append, Nat.reduceAdd, Nat.reduceLeDiff, Nat.reduceEqDiff, or_true, true_or, and_self, Nat.reduceEqDiff, l13, l03, l23, Nat.reduceLT, not_true_eq_false, not_false_eq_true, Nat.reduceAdd, hk]
        refine ⟨fun h5 => ?_, fun _ => ⟨vin (by omega) (by omega), fun h5 => ?_, fun h5 => ?_⟩⟩
        · rw [i_len (by omega) (by omega)] at h5
          omega
        · rw [tnc (by omega), hr i (by omega)] at h5
          rw [pla, if_neg (Int64.not_lt.mpr h5)] at hp
          refine mj_go (B := mj_B36_31) rfl ?_; simp only [mj_B36_31, wp_iconst, wp_bipush, wp_sipush, wp_ldc, wp_ldc_w, wp_lconst, wp_ldc2_w, wp_aconst_null, wp_iload, wp_iload_n, wp_lload, wp_lload_n, wp_aload, wp_aload_n, wp_istore, wp_istore_n, wp_lstore, wp_lstore_n, wp_astore, wp_astore_n, wp_iinc, wp_iadd, wp_isub, wp_imul, wp_iand, wp_ior, wp_ixor, wp_ishl, wp_ishr, wp_iushr, wp_idiv, wp_irem, wp_ineg, wp_ladd, wp_lsub, wp_land, wp_lor, wp_lxor, wp_lcmp, wp_lneg, wp_lshl, wp_lushr, wp_i2l, wp_l2i, wp_dup, wp_dup2, wp_pop, wp_goto, wp_ifCond, wp_if_icmp, wp_ifnonnull, wp_tableswitch, wp_getstatic, wp_getfield, wp_putfield, wp_iaload, wp_laload, wp_aaload, wp_iastore, wp_lastore, wp_aastore, wp_arraylength, wp_newarray, wp_anewarray, wp_new, wp_invokevirtual, wp_invokestatic, wp_invokespecial, wp_ireturn, wp_lreturn, wp_areturn, wp_return_, wp_nil, e_pI, e_pJ, e_pR, e_pA1, e_pA2, e_pD1, e_pD2, e_pN1, e_pN2, e_pII, e_pJJ, e_pIJ, e_pIR, e_pIIR, e_pJIR, e_pRIR, e_pF1, e_pF2, e_pF3, e_lI, e_lJ, e_lA1, e_lA2, e_rI, e_rJ, e_rA1, e_rA2, e_rV, e_pn0, e_pn1, e_pn2, e_pn3, e_pn4, e_pn5, e_dn, e_wt0, e_wt1, e_wt2, e_wt3, e_wt4, e_wt5, e_wt6, e_wt7, e_wt9, e_ws8, e_ws0, e_ws1, e_ws2, e_ws3, e_ws4, e_wc, mj_ld, mj_st1, mj_st2, c1_J, c1_i, c1_l, c1_r, c1_n, c1_rf, mj_ok4, mj_rc, mj_cz, mj_cc, mj_gv, wr_v, wr_i, wr_l, wr_r, rf_s, rf_n, k_sI, k_sJ, k_sR, R_sI, R_sJ, J_sI, J_sR, I_sJ, I_sR, lc_eq, lc_lt, lc_gt, lc_ge, lc_le, true_and, and_true, List.cons_append, List.nil_append, Nat.reduceAdd, Nat.reduceLeDiff, Nat.reduceEqDiff, or_true, true_or, and_self, Nat.reduceEqDiff, l13, l03, l23, Nat.reduceLT, not_true_eq_false, not_false_eq_true, Nat.reduceAdd]
          rw [← hp] at hq
          exact hq
        · rw [tnc (by omega), hr i (by omega)] at h5
          rw [pla, if_pos (Int64.not_le.mp h5)] at hp
          rw [i_s]
          exact ih (i + 1) (by omega) hp
  refine mj_C_of 5 rfl rfl ?_; show mj_X _ 36 0 [.ref r, .int (Int32.ofNat n), .long x, mj_J, mj_J] [] _ _
  refine mj_go (B := mj_B36_0) rfl ?_; simp only [mj_B36_0, wp_iconst, wp_bipush, wp_sipush, wp_ldc, wp_ldc_w, wp_lconst, wp_ldc2_w, wp_aconst_null, wp_iload, wp_iload_n, wp_lload, wp_lload_n, wp_aload, wp_aload_n, wp_istore, wp_istore_n, wp_lstore, wp_lstore_n, wp_astore, wp_astore_n, wp_iinc, wp_iadd, wp_isub, wp_imul, wp_iand, wp_ior, wp_ixor, wp_ishl, wp_ishr, wp_iushr, wp_idiv, wp_irem, wp_ineg, wp_ladd, wp_lsub, wp_land, wp_lor, wp_lxor, wp_lcmp, wp_lneg, wp_lshl, wp_lushr, wp_i2l, wp_l2i, wp_dup, wp_dup2, wp_pop, wp_goto, wp_ifCond, wp_if_icmp, wp_ifnonnull, wp_tableswitch, wp_getstatic, wp_getfield, wp_putfield, wp_iaload, wp_laload, wp_aaload, wp_iastore, wp_lastore, wp_aastore, wp_arraylength, wp_newarray, wp_anewarray, wp_new, wp_invokevirtual, wp_invokestatic, wp_invokespecial, wp_ireturn, wp_lreturn, wp_areturn, wp_return_, wp_nil, e_pI, e_pJ, e_pR, e_pA1, e_pA2, e_pD1, e_pD2, e_pN1, e_pN2, e_pII, e_pJJ, e_pIJ, e_pIR, e_pIIR, e_pJIR, e_pRIR, e_pF1, e_pF2, e_pF3, e_lI, e_lJ, e_lA1, e_lA2, e_rI, e_rJ, e_rA1, e_rA2, e_rV, e_pn0, e_pn1, e_pn2, e_pn3, e_pn4, e_pn5, e_dn, e_wt0, e_wt1, e_wt2, e_wt3, e_wt4, e_wt5, e_wt6, e_wt7, e_wt9, e_ws8, e_ws0, e_ws1, e_ws2, e_ws3, e_ws4, e_wc, mj_ld, mj_st1, mj_st2, c1_J, c1_i, c1_l, c1_r, c1_n, c1_rf, mj_ok4, mj_rc, mj_cz, mj_cc, mj_gv, wr_v, wr_i, wr_l, wr_r, rf_s, rf_n, k_sI, k_sJ, k_sR, R_sI, R_sJ, J_sI, J_sR, I_sJ, I_sR, lc_eq, lc_lt, lc_gt, lc_ge, lc_le, true_and, and_true, List.cons_append, List.nil_append, Nat.reduceAdd, Nat.reduceLeDiff, Nat.reduceEqDiff, or_true, true_or, and_self, Nat.reduceEqDiff, l13, l03, l23, Nat.reduceLT, not_true_eq_false, not_false_eq_true, Nat.reduceAdd]
  exact hL n 0 (by omega) rfl
