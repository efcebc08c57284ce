/-! loops; the least and the greatest bit -/
theorem mj_up {d m pc N : Nat} {Q : Option Value → mj_H → Prop} (I : Nat → List Value → mj_H → Prop) (hs : ∀ k L h, k < N → I k L h → (∀ L' h', I (k + 1) L' h' → mj_X d m pc L' [] h' Q) → mj_X d m pc L [] h Q) (he : ∀ L h, I N L h → mj_X d m pc L [] h Q) : ∀ j k L h, k + j = N → I k L h → mj_X d m pc L [] h Q := by
  intro j
  induction j with
  | zero =>
    intro k L h hk hi
    obtain rfl : k = N := hk
    exact he L h hi
  | succ j ih =>
    intro k L h hk hi
    exact hs k L h (by omega) hi (fun L' h' hi' => ih (k + 1) L' h' (by omega) hi')
theorem mj_lp {d m pc : Nat} {Q : Option Value → mj_H → Prop} (I : Nat → List Value → mj_H → Prop) (hs : ∀ n L h, I n L h → (∀ n' L' h', n' < n → I n' L' h' → mj_X d m pc L' [] h' Q) → mj_X d m pc L [] h Q) : ∀ n L h, I n L h → mj_X d m pc L [] h Q := by
  intro n
  induction n using Nat.strongRecOn with
  | ind n ih =>
    intro L h hi
    exact hs n L h hi (fun n' L' h' hn hi' => ih n' hn L' h' hi')
theorem nb_dec {n r : Nat} (h1 : n.testBit r = true) (h2 : ∀ j, j < r → n.testBit j = false) (k : Nat) : (n - 1).testBit k = if k < r then true else if k = r then false else n.testBit k := by
  have h3 : n % 2 ^ r = 0 := by
    apply Nat.eq_of_testBit_eq
    intro i
    rw [Nat.testBit_mod_two_pow, Nat.zero_testBit]
    by_cases hi : i < r
    · rw [h2 i hi, Bool.and_false]
    · simp [hi]
  have h4 : n / 2 ^ r % 2 = 1 := by
    have := Nat.testBit_eq_decide_div_mod_eq (x := n) (i := r)
    rw [h1] at this
    exact of_decide_eq_true this.symm
  obtain ⟨m, hm⟩ : ∃ m, n / 2 ^ r = 2 * m + 1 := ⟨n / 2 ^ r / 2, by omega⟩
  have h5 : n = 2 ^ (r + 1) * m + 2 ^ r := by
    have h6 := Nat.div_add_mod n (2 ^ r)
    rw [h3, hm, Nat.add_zero, Nat.mul_add, Nat.mul_one] at h6
    rw [Nat.pow_succ, Nat.mul_assoc]
    exact h6.symm
  have hp : 0 < 2 ^ r := Nat.two_pow_pos r
  have h7 : n - 1 = 2 ^ (r + 1) * m + (2 ^ r - 1) := by omega
  have hlt : 2 ^ r < 2 ^ (r + 1) := by rw [Nat.pow_succ]; omega
  rw [h7, Nat.testBit_two_pow_mul_add m (by omega : 2 ^ r - 1 < 2 ^ (r + 1))]
  rw [h5, Nat.testBit_two_pow_mul_add m hlt, Nat.testBit_two_pow_sub_one]
  by_cases hk : k < r
  · rw [if_pos (by omega), if_pos hk]
    exact decide_eq_true hk
  · rw [if_neg hk]
    by_cases hk2 : k = r
    · rw [if_pos hk2, if_pos (by omega)]
      exact decide_eq_false hk
    · rw [if_neg hk2, if_neg (by omega), if_neg (by omega)]
def bn (s : Int64) : Nat := s.toBitVec.toNat
theorem bn_lt (s : Int64) : bn s < 18446744073709551616 := s.toBitVec.isLt
theorem bt_bn (s : Int64) (k : Nat) : bt s k = (bn s).testBit k := rfl
theorem bn_inj {s t : Int64} (h : bn s = bn t) : s = t := Int64.toBitVec_inj.mp (BitVec.eq_of_toNat_eq h)
theorem bn_0 {s : Int64} (h : s ≠ 0) : 0 < bn s := by
  rcases Nat.eq_zero_or_pos (bn s) with h1 | h1
  · exact absurd (bn_inj (t := 0) h1) h
  · exact h1
theorem bt_any {s : Int64} (h : s ≠ 0) : ∃ k, k < 64 ∧ bt s k = true := by
  apply Classical.byContradiction
  intro h1
  apply h
  apply bt_ext
  intro k hk
  rw [bt_0]
  cases hb : bt s k with
  | false => rfl
  | true => exact absurd ⟨k, hk, hb⟩ h1
theorem bt_ne0 {s : Int64} {k : Nat} (h : bt s k = true) : s ≠ 0 := by
  intro h1
  rw [h1, bt_0] at h
  cases h
theorem bt_lt {s : Int64} {k : Nat} (h : bt s k = true) : k < 64 := by
  apply Classical.byContradiction
  intro h1
  rw [bt_ge s (by omega)] at h
  cases h
theorem bn_dec {s : Int64} (h : s ≠ 0) : bn (s - 1) = bn s - 1 := by
  have h1 := bn_0 h
  have h2 := bn_lt s
  show (s - 1).toBitVec.toNat = bn s - 1
  rw [Int64.toBitVec_sub, BitVec.toNat_sub]
  show (2 ^ 64 - 1 + bn s) % 2 ^ 64 = bn s - 1
  omega
theorem bn_neg {s : Int64} (h : s ≠ 0) : bn (-s) = 18446744073709551616 - bn s := by
  have h1 := bn_0 h
  have h2 := bn_lt s
  show (-s).toBitVec.toNat = _
  rw [Int64.toBitVec_neg, BitVec.toNat_neg]
  show (2 ^ 64 - bn s) % 2 ^ 64 = _
  omega
theorem bt_dec {s : Int64} {r : Nat} (h1 : bt s r = true) (h2 : ∀ j, j < r → bt s j = false) (k : Nat) : bt (s - 1) k = if k < r then true else if k = r then false else bt s k := by
  rw [bt_bn, bn_dec (bt_ne0 h1)]
  exact nb_dec h1 h2 k
theorem bt_neg {s : Int64} (h : s ≠ 0) {k : Nat} (hk : k < 64) : bt (-s) k = !bt (s - 1) k := by
  rw [← bt_not (s - 1) hk]
  have h1 : -s = ~~~ (s - 1) := by
    apply bn_inj
    have h3 := bn_0 h
    have h4 := bn_lt s
    rw [bn_neg h]
    show _ = (~~~ (s - 1)).toBitVec.toNat
    rw [Int64.toBitVec_not, BitVec.toNat_not]
    show _ = 2 ^ 64 - 1 - bn (s - 1)
    rw [bn_dec h]
    omega
  rw [h1]
theorem bt_low {s : Int64} {r : Nat} (h1 : bt s r = true) (h2 : ∀ j, j < r → bt s j = false) {k : Nat} (hk : k < 64) : bt (s &&& -s) k = decide (k = r) := by
  rw [bt_and, bt_neg (bt_ne0 h1) hk, bt_dec h1 h2]
  by_cases h3 : k < r
  · rw [h2 k h3, if_pos h3, decide_eq_false (by omega)]; rfl
  · rw [if_neg h3]
    by_cases h4 : k = r
    · rw [if_pos h4, h4, h1]; simp
    · rw [if_neg h4, decide_eq_false h4]
      cases bt s k <;> rfl
theorem bt_clr {s : Int64} {r : Nat} (h1 : bt s r = true) (h2 : ∀ j, j < r → bt s j = false) (k : Nat) : bt (s &&& (s - 1)) k = (bt s k && !decide (k = r)) := by
  rw [bt_and, bt_dec h1 h2]
  by_cases h3 : k < r
  · rw [h2 k h3]; rfl
  · rw [if_neg h3]
    by_cases h4 : k = r
    · rw [if_pos h4, decide_eq_true h4]; simp
    · rw [if_neg h4, decide_eq_false h4]
      cases bt s k <;> rfl
/-- the least bit, 64 if there is none -/
def lbk (s : Int64) : Nat → Nat
  | 0 => 64
  | j + 1 => if bt s (63 - j) = true then 63 - j else lbk s j
theorem lbk_ok (s : Int64) : ∀ j, j ≤ 64 → (∀ i, 64 - j ≤ i → i < lbk s j → bt s i = false) ∧ lbk s j ≤ 64 ∧ (lbk s j < 64 → bt s (lbk s j) = true)
  | 0, _ => ⟨fun i h1 h2 => bt_ge s (by omega), Nat.le_refl _, fun h => absurd h (Nat.lt_irrefl _)⟩
  | j + 1, hj => by
    have ih := lbk_ok s j (by omega)
    rw [lbk]
    by_cases h : bt s (63 - j) = true
    · rw [if_pos h]
      exact ⟨fun i h1 h2 => by omega, by omega, fun _ => h⟩
    · rw [if_neg h]
      refine ⟨fun i h1 h2 => ?_, ih.2⟩
      by_cases h3 : i = 63 - j
      · rw [h3]; cases hb : bt s (63 - j) with
        | false => rfl
        | true => exact absurd hb h
      · exact ih.1 i (by omega) h2
def lb (s : Int64) : Nat := lbk s 64
theorem lb_lt (s : Int64) {i : Nat} (h : i < lb s) : bt s i = false := (lbk_ok s 64 (Nat.le_refl _)).1 i (by omega) h
theorem lb_le (s : Int64) : lb s ≤ 64 := (lbk_ok s 64 (Nat.le_refl _)).2.1
theorem lb_at (s : Int64) (h : lb s < 64) : bt s (lb s) = true := (lbk_ok s 64 (Nat.le_refl _)).2.2 h
theorem lb_eq {s : Int64} {r : Nat} (h1 : r ≤ 64) (h2 : ∀ j, j < r → bt s j = false) (h3 : r < 64 → bt s r = true) : lb s = r := by
  have h4 := lb_le s
  rcases Nat.lt_trichotomy (lb s) r with h | h | h
  · have h5 := lb_at s (by omega)
    rw [h2 _ h] at h5
    cases h5
  · exact h
  · have h5 := h3 (by omega)
    rw [lb_lt s h] at h5
    cases h5
theorem lb_ne {s : Int64} (h : s ≠ 0) : lb s < 64 := by
  obtain ⟨k, hk, hb⟩ := bt_any h
  apply Classical.byContradiction
  intro h1
  rw [lb_lt s (by omega)] at hb
  cases hb
theorem lb_mem {s : Int64} {k : Nat} (h : bt s k = true) : lb s ≤ k := by
  apply Classical.byContradiction
  intro h1
  rw [lb_lt s (by omega)] at h
  cases h
theorem lb_0 : lb 0 = 64 := lb_eq (Nat.le_refl _) (fun _ _ => bt_0 _) (fun h => absurd h (Nat.lt_irrefl _))
theorem lb_bit {s : Int64} (h : s ≠ 0) : bt s (lb s) = true := lb_at s (lb_ne h)
theorem pm_leastBit2 (s : Int64) (h : mj_H) (Q : Option Value → mj_H → Prop) (d : Nat) (hq : Q (some (.int (Int32.ofNat (lb s)))) h) : mj_C d 156 [.long s] h Q := by
  apply pm_leastBit
  intro r h1 h2 h3
  rw [← lb_eq h1 h2 h3]
  exact hq
/-- how many bits stand up to the greatest one -/
def hbk (s : Int64) : Nat → Nat
  | 0 => 0
  | k + 1 => if bt s k = true then k + 1 else hbk s k
theorem hbk_ok (s : Int64) : ∀ k, (∀ i, i < k → hbk s k ≤ i → bt s i = false) ∧ hbk s k ≤ k ∧ (0 < hbk s k → bt s (hbk s k - 1) = true)
  | 0 => ⟨fun i h => absurd h (Nat.not_lt_zero _), Nat.le_refl _, fun h => absurd h (Nat.lt_irrefl _)⟩
  | k + 1 => by
    have ih := hbk_ok s k
    rw [hbk]
    by_cases h : bt s k = true
    · rw [if_pos h]
      exact ⟨fun i h1 h2 => by omega, Nat.le_refl _, fun _ => h⟩
    · rw [if_neg h]
      refine ⟨fun i h1 h2 => ?_, by omega, ih.2.2⟩
      by_cases h3 : i = k
      · rw [h3]; cases hb : bt s k with
        | false => rfl
        | true => exact absurd hb h
      · exact ih.1 i (by omega) h2
def hb (s : Int64) : Nat := hbk s 64
theorem hb_ge (s : Int64) {i : Nat} (h : hb s ≤ i) : bt s i = false := by
  by_cases h1 : i < 64
  · exact (hbk_ok s 64).1 i h1 h
  · exact bt_ge s (by omega)
theorem hb_le (s : Int64) : hb s ≤ 64 := (hbk_ok s 64).2.1
theorem hb_at (s : Int64) (h : 0 < hb s) : bt s (hb s - 1) = true := (hbk_ok s 64).2.2 h
theorem hb_eq {s : Int64} {r : Nat} (h1 : ∀ j, r ≤ j → bt s j = false) (h2 : 0 < r → bt s (r - 1) = true) : hb s = r := by
  rcases Nat.lt_trichotomy (hb s) r with h | h | h
  · have h5 := h2 (by omega)
    rw [hb_ge s (by omega)] at h5
    cases h5
  · exact h
  · have h5 := hb_at s (by omega)
    rw [h1 _ (by omega)] at h5
    cases h5
theorem hb_mem {s : Int64} {k : Nat} (h : bt s k = true) : k < hb s := by
  apply Classical.byContradiction
  intro h1
  rw [hb_ge s (by omega)] at h
  cases h
/-! the JDK's short methods -/
def it1 (n i : Int32) : Int32 := n + mj_iu i 1
def it2 (n i : Int32) : Int32 := if i ≤ 4 then it1 n i else it1 (n + 2) (mj_iu i 2)
def it4 (n i : Int32) : Int32 := if i ≤ 16 then it2 n i else it2 (n + 4) (mj_iu i 4)
def it8 (n i : Int32) : Int32 := if i ≤ 256 then it4 n i else it4 (n + 8) (mj_iu i 8)
def it16 (n i : Int32) : Int32 := if i ≤ 65536 then it8 n i else it8 (n + 16) (mj_iu i 16)
def itj (j : Int32) : Int32 := if 0 < j then it16 1 j else j &&& 32
theorem pm_itz (i : Int32) (h : mj_H) (Q : Option Value → mj_H → Prop) (d : Nat) (hq : Q (some (.int (itj ((i ^^^ -1) &&& (i - 1))))) h) : mj_C d 15 [.int i] h Q := by
  have h74 : ∀ n i, Q (some (.int (it1 n i))) h → mj_X d 15 74 [.int i, .int n] [] h Q := by
    intro n i hq
    refine mj_go (B := mj_B15_74) rfl ?_; simp only [mj_B15_74, wp_iconst, wp_bipush, wp_sipush, wp_ldc, wp_ldc_w, wp_lconst, wp_ldc2_w, wp_aconst_null, wp_iload, wp_iload_n, wp_lload, wp_lload_n, wp_aload, wp_aload_n, wp_istore, wp_istore_n, wp_lstore, wp_lstore_n, wp_astore, wp_astore_n, wp_iinc, wp_iadd, wp_isub, wp_imul, wp_iand, wp_ior, wp_ixor, wp_ishl, wp_ishr, wp_iushr, wp_idiv, wp_irem, wp_ineg, wp_ladd, wp_lsub, wp_land, wp_lor, wp_lxor, wp_lcmp, wp_lneg, wp_lshl, wp_lushr, wp_i2l, wp_l2i, wp_dup, wp_dup2, wp_pop, wp_goto, wp_ifCond, wp_if_icmp, wp_ifnonnull, wp_tableswitch, wp_getstatic, wp_getfield, wp_putfield, wp_iaload, wp_laload, wp_aaload, wp_iastore, wp_lastore, wp_aastore, wp_arraylength, wp_newarray, wp_anewarray, wp_new, wp_invokevirtual, wp_invokestatic, wp_invokespecial, wp_ireturn, wp_lreturn, wp_areturn, wp_return_, wp_nil, e_pI, e_pJ, e_pR, e_pA1, e_pA2, e_pD1, e_pD2, e_pN1, e_pN2, e_pII, e_pJJ, e_pIJ, e_pIR, e_pIIR, e_pJIR, e_pRIR, e_pF1, e_pF2, e_pF3, e_lI, e_lJ, e_lA1, e_lA2, e_rI, e_rJ, e_rA1, e_rA2, e_rV, e_pn0, e_pn1, e_pn2, e_pn3, e_pn4, e_pn5, e_dn, e_wt0, e_wt1, e_wt2, e_wt3, e_wt4, e_wt5, e_wt6, e_wt7, e_wt9, e_ws8, e_ws0, e_ws1, e_ws2, e_ws3, e_ws4, e_wc, mj_ld, mj_st1, mj_st2, c1_J, c1_i, c1_l, c1_r, c1_n, c1_rf, mj_ok4, mj_rc, mj_cz, mj_cc, mj_gv, wr_v, wr_i, wr_l, wr_r, rf_s, rf_n, k_sI, k_sJ, k_sR, R_sI, R_sJ, J_sI, J_sR, I_sJ, I_sR, lc_eq, lc_lt, lc_gt, lc_ge, lc_le, true_and, and_true, List.cons_append, List.nil_append, Nat.reduceAdd, Nat.reduceLeDiff, Nat.reduceEqDiff, or_true, true_or, and_self]
    exact hq
  have h62 : ∀ n i, Q (some (.int (it2 n i))) h → mj_X d 15 62 [.int i, .int n] [] h Q := by
    intro n i hq
    refine mj_go (B := mj_B15_62) rfl ?_; simp only [mj_B15_62, wp_iconst, wp_bipush, wp_sipush, wp_ldc, wp_ldc_w, wp_lconst, wp_ldc2_w, wp_aconst_null, wp_iload, wp_iload_n, wp_lload, wp_lload_n, wp_aload, wp_aload_n, wp_istore, wp_istore_n, wp_lstore, wp_lstore_n, wp_astore, wp_astore_n, wp_iinc, wp_iadd, wp_isub, wp_imul, wp_iand, wp_ior, wp_ixor, wp_ishl, wp_ishr, wp_iushr, wp_idiv, wp_irem, wp_ineg, wp_ladd, wp_lsub, wp_land, wp_lor, wp_lxor, wp_lcmp, wp_lneg, wp_lshl, wp_lushr, wp_i2l, wp_l2i, wp_dup, wp_dup2, wp_pop, wp_goto, wp_ifCond, wp_if_icmp, wp_ifnonnull, wp_tableswitch, wp_getstatic, wp_getfield, wp_putfield, wp_iaload, wp_laload, wp_aaload, wp_iastore, wp_lastore, wp_aastore, wp_arraylength, wp_newarray, wp_anewarray, wp_new, wp_invokevirtual, wp_invokestatic, wp_invokespecial, wp_ireturn, wp_lreturn, wp_areturn, wp_return_, wp_nil, e_pI, e_pJ, e_pR, e_pA1, e_pA2, e_pD1, e_pD2, e_pN1, e_pN2, e_pII, e_pJJ, e_pIJ, e_pIR, e_pIIR, e_pJIR, e_pRIR, e_pF1, e_pF2, e_pF3, e_lI, e_lJ, e_lA1, e_lA2, e_rI, e_rJ, e_rA1, e_rA2, e_rV, e_pn0, e_pn1, e_pn2, e_pn3, e_pn4, e_pn5, e_dn, e_wt0, e_wt1, e_wt2, e_wt3, e_wt4, e_wt5, e_wt6, e_wt7, e_wt9, e_ws8, e_ws0, e_ws1, e_ws2, e_ws3, e_ws4, e_wc, mj_ld, mj_st1, mj_st2, c1_J, c1_i, c1_l, c1_r, c1_n, c1_rf, mj_ok4, mj_rc, mj_cz, mj_cc, mj_gv, wr_v, wr_i, wr_l, wr_r, rf_s, rf_n, k_sI, k_sJ, k_sR, R_sI, R_sJ, J_sI, J_sR, I_sJ, I_sR, lc_eq, lc_lt, lc_gt, lc_ge, lc_le, true_and, and_true, List.cons_append, List.nil_append, Nat.reduceAdd, Nat.reduceLeDiff, Nat.reduceEqDiff, or_true, true_or, and_self]
    refine ⟨fun h1 => h74 _ _ ?_, fun h1 => ?_⟩
    · rw [it2, if_pos h1] at hq; exact hq
    · simp only [kt_e, wp_iconst, wp_bipush, wp_sipush, wp_ldc, wp_ldc_w, wp_lconst, wp_ldc2_w, wp_aconst_null, wp_iload, wp_iload_n, wp_lload, wp_lload_n, wp_aload, wp_aload_n, wp_istore, wp_istore_n, wp_lstore, wp_lstore_n, wp_astore, wp_astore_n, wp_iinc, wp_iadd, wp_isub, wp_imul, wp_iand, wp_ior, wp_ixor, wp_ishl, wp_ishr, wp_iushr, wp_idiv, wp_irem, wp_ineg, wp_ladd, wp_lsub, wp_land, wp_lor, wp_lxor, wp_lcmp, wp_lneg, wp_lshl, wp_lushr, wp_i2l, wp_l2i, wp_dup, wp_dup2, wp_pop, wp_goto, wp_ifCond, wp_if_icmp, wp_ifnonnull, wp_tableswitch, wp_getstatic, wp_getfield, wp_putfield, wp_iaload, wp_laload, wp_aaload, wp_iastore, wp_lastore, wp_aastore, wp_arraylength, wp_newarray, wp_anewarray, wp_new, wp_invokevirtual, wp_invokestatic, wp_invokespecial, wp_ireturn, wp_lreturn, wp_areturn, wp_return_, wp_nil, e_pI, e_pJ, e_pR, e_pA1, e_pA2, e_pD1, e_pD2, e_pN1, e_pN2, e_pII, e_pJJ, e_pIJ, e_pIR, e_pIIR, e_pJIR, e_pRIR, e_pF1, e_pF2, e_pF3, e_lI, e_lJ, e_lA1, e_lA2, e_rI, e_rJ, e_rA1, e_rA2, e_rV, e_pn0, e_pn1, e_pn2, e_pn3, e_pn4, e_pn5, e_dn, e_wt0, e_wt1, e_wt2, e_wt3, e_wt4, e_wt5, e_wt6, e_wt7, e_wt9, e_ws8, e_ws0, e_ws1, e_ws2, e_ws3, e_ws4, e_wc, mj_ld, mj_st1, mj_st2, c1_J, c1_i, c1_l, c1_r, c1_n, c1_rf, mj_ok4, mj_rc, mj_cz, mj_cc, mj_gv, wr_v, wr_i, wr_l, wr_r, rf_s, rf_n, k_sI, k_sJ, k_sR, R_sI, R_sJ, J_sI, J_sR, I_sJ, I_sR, lc_eq, lc_lt, lc_gt, lc_ge, lc_le, true_and, and_true, List.cons_append, List.nil_append, Nat.reduceAdd, Nat.reduceLeDiff, Nat.reduceEqDiff, or_true, true_or, and_self]
      rw [it2, if_neg h1] at hq; exact h74 _ _ hq
  have h49 : ∀ n i, Q (some (.int (it4 n i))) h → mj_X d 15 49 [.int i, .int n] [] h Q := by
    intro n i hq
    refine mj_go (B := mj_B15_49) rfl ?_; simp only [mj_B15_49, wp_iconst, wp_bipush, wp_sipush, wp_ldc, wp_ldc_w, wp_lconst, wp_ldc2_w, wp_aconst_null, wp_iload, wp_iload_n, wp_lload, wp_lload_n, wp_aload, wp_aload_n, wp_istore, wp_istore_n, wp_lstore, wp_lstore_n, wp_astore, wp_astore_n, wp_iinc, wp_iadd, wp_isub, wp_imul, wp_iand, wp_ior, wp_ixor, wp_ishl, wp_ishr, wp_iushr, wp_idiv, wp_irem, wp_ineg, wp_ladd, wp_lsub, wp_land, wp_lor, wp_lxor, wp_lcmp, wp_lneg, wp_lshl, wp_lushr, wp_i2l, wp_l2i, wp_dup, wp_dup2, wp_pop, wp_goto, wp_ifCond, wp_if_icmp, wp_ifnonnull, wp_tableswitch, wp_getstatic, wp_getfield, wp_putfield, wp_iaload, wp_laload, wp_aaload, wp_iastore, wp_lastore, wp_aastore, wp_arraylength, wp_newarray, wp_anewarray, wp_new, wp_invokevirtual, wp_invokestatic, wp_invokespecial, wp_ireturn, wp_lreturn, wp_areturn, wp_return_, wp_nil, e_pI, e_pJ, e_pR, e_pA1, e_pA2, e_pD1, e_pD2, e_pN1, e_pN2, e_pII, e_pJJ, e_pIJ, e_pIR, e_pIIR, e_pJIR, e_pRIR, e_pF1, e_pF2, e_pF3, e_lI, e_lJ, e_lA1, e_lA2, e_rI, e_rJ, e_rA1, e_rA2, e_rV, e_pn0, e_pn1, e_pn2, e_pn3, e_pn4, e_pn5, e_dn, e_wt0, e_wt1, e_wt2, e_wt3, e_wt4, e_wt5, e_wt6, e_wt7, e_wt9, e_ws8, e_ws0, e_ws1, e_ws2, e_ws3, e_ws4, e_wc, mj_ld, mj_st1, mj_st2, c1_J, c1_i, c1_l, c1_r, c1_n, c1_rf, mj_ok4, mj_rc, mj_cz, mj_cc, mj_gv, wr_v, wr_i, wr_l, wr_r, rf_s, rf_n, k_sI, k_sJ, k_sR, R_sI, R_sJ, J_sI, J_sR, I_sJ, I_sR, lc_eq, lc_lt, lc_gt, lc_ge, lc_le, true_and, and_true, List.cons_append, List.nil_append, Nat.reduceAdd, Nat.reduceLeDiff, Nat.reduceEqDiff, or_true, true_or, and_self]
    refine ⟨fun h1 => h62 _ _ ?_, fun h1 => ?_⟩
    · rw [it4, if_pos h1] at hq; exact hq
    · simp only [kt_e, wp_iconst, wp_bipush, wp_sipush, wp_ldc, wp_ldc_w, wp_lconst, wp_ldc2_w, wp_aconst_null, wp_iload, wp_iload_n, wp_lload, wp_lload_n, wp_aload, wp_aload_n, wp_istore, wp_istore_n, wp_lstore, wp_lstore_n, wp_astore, wp_astore_n, wp_iinc, wp_iadd, wp_isub, wp_imul, wp_iand, wp_ior, wp_ixor, wp_ishl, wp_ishr, wp_iushr, wp_idiv, wp_irem, wp_ineg, wp_ladd, wp_lsub, wp_land, wp_lor, wp_lxor, wp_lcmp, wp_lneg, wp_lshl, wp_lushr, wp_i2l, wp_l2i, wp_dup, wp_dup2, wp_pop, wp_goto, wp_ifCond, wp_if_icmp, wp_ifnonnull, wp_tableswitch, wp_getstatic, wp_getfield, wp_putfield, wp_iaload, wp_laload, wp_aaload, wp_iastore, wp_lastore, wp_aastore, wp_arraylength, wp_newarray, wp_anewarray, wp_new, wp_invokevirtual, wp_invokestatic, wp_invokespecial, wp_ireturn, wp_lreturn, wp_areturn, wp_return_, wp_nil, e_pI, e_pJ, e_pR, e_pA1, e_pA2, e_pD1, e_pD2, e_pN1, e_pN2, e_pII, e_pJJ, e_pIJ, e_pIR, e_pIIR, e_pJIR, e_pRIR, e_pF1, e_pF2, e_pF3, e_lI, e_lJ, e_lA1, e_lA2, e_rI, e_rJ, e_rA1, e_rA2, e_rV, e_pn0, e_pn1, e_pn2, e_pn3, e_pn4, e_pn5, e_dn, e_wt0, e_wt1, e_wt2, e_wt3, e_wt4, e_wt5, e_wt6, e_wt7, e_wt9, e_ws8, e_ws0, e_ws1, e_ws2, e_ws3, e_ws4, e_wc, mj_ld, mj_st1, mj_st2, c1_J, c1_i, c1_l, c1_r, c1_n, c1_rf, mj_ok4, mj_rc, mj_cz, mj_cc, mj_gv, wr_v, wr_i, wr_l, wr_r, rf_s, rf_n, k_sI, k_sJ, k_sR, R_sI, R_sJ, J_sI, J_sR, I_sJ, I_sR, lc_eq, lc_lt, lc_gt, lc_ge, lc_le, true_and, and_true, List.cons_append, List.nil_append, Nat.reduceAdd, Nat.reduceLeDiff, Nat.reduceEqDiff, or_true, true_or, and_self]
      rw [it4, if_neg h1] at hq; exact h62 _ _ hq
  have h34 : ∀ n i, Q (some (.int (it8 n i))) h → mj_X d 15 34 [.int i, .int n] [] h Q := by
    intro n i hq
    refine mj_go (B := mj_B15_34) rfl ?_; simp only [mj_B15_34, wp_iconst, wp_bipush, wp_sipush, wp_ldc, wp_ldc_w, wp_lconst, wp_ldc2_w, wp_aconst_null, wp_iload, wp_iload_n, wp_lload, wp_lload_n, wp_aload, wp_aload_n, wp_istore, wp_istore_n, wp_lstore, wp_lstore_n, wp_astore, wp_astore_n, wp_iinc, wp_iadd, wp_isub, wp_imul, wp_iand, wp_ior, wp_ixor, wp_ishl, wp_ishr, wp_iushr, wp_idiv, wp_irem, wp_ineg, wp_ladd, wp_lsub, wp_land, wp_lor, wp_lxor, wp_lcmp, wp_lneg, wp_lshl, wp_lushr, wp_i2l, wp_l2i, wp_dup, wp_dup2, wp_pop, wp_goto, wp_ifCond, wp_if_icmp, wp_ifnonnull, wp_tableswitch, wp_getstatic, wp_getfield, wp_putfield, wp_iaload, wp_laload, wp_aaload, wp_iastore, wp_lastore, wp_aastore, wp_arraylength, wp_newarray, wp_anewarray, wp_new, wp_invokevirtual, wp_invokestatic, wp_invokespecial, wp_ireturn, wp_lreturn, wp_areturn, wp_return_, wp_nil, e_pI, e_pJ, e_pR, e_pA1, e_pA2, e_pD1, e_pD2, e_pN1, e_pN2, e_pII, e_pJJ, e_pIJ, e_pIR, e_pIIR, e_pJIR, e_pRIR, e_pF1, e_pF2, e_pF3, e_lI, e_lJ, e_lA1, e_lA2, e_rI, e_rJ, e_rA1, e_rA2, e_rV, e_pn0, e_pn1, e_pn2, e_pn3, e_pn4, e_pn5, e_dn, e_wt0, e_wt1, e_wt2, e_wt3, e_wt4, e_wt5, e_wt6, e_wt7, e_wt9, e_ws8, e_ws0, e_ws1, e_ws2, e_ws3, e_ws4, e_wc, mj_ld, mj_st1, mj_st2, c1_J, c1_i, c1_l, c1_r, c1_n, c1_rf, mj_ok4, mj_rc, mj_cz, mj_cc, mj_gv, wr_v, wr_i, wr_l, wr_r, rf_s, rf_n, k_sI, k_sJ, k_sR, R_sI, R_sJ, J_sI, J_sR, I_sJ, I_sR, lc_eq, lc_lt, lc_gt, lc_ge, lc_le, true_and, and_true, List.cons_append, List.nil_append, Nat.reduceAdd, Nat.reduceLeDiff, Nat.reduceEqDiff, or_true, true_or, and_self]
    refine ⟨fun h1 => h49 _ _ ?_, fun h1 => ?_⟩
    · rw [it8, if_pos h1] at hq; exact hq
    · simp only [kt_e, wp_iconst, wp_bipush, wp_sipush, wp_ldc, wp_ldc_w, wp_lconst, wp_ldc2_w, wp_aconst_null, wp_iload, wp_iload_n, wp_lload, wp_lload_n, wp_aload, wp_aload_n, wp_istore, wp_istore_n, wp_lstore, wp_lstore_n, wp_astore, wp_astore_n, wp_iinc, wp_iadd, wp_isub, wp_imul, wp_iand, wp_ior, wp_ixor, wp_ishl, wp_ishr, wp_iushr, wp_idiv, wp_irem, wp_ineg, wp_ladd, wp_lsub, wp_land, wp_lor, wp_lxor, wp_lcmp, wp_lneg, wp_lshl, wp_lushr, wp_i2l, wp_l2i, wp_dup, wp_dup2, wp_pop, wp_goto, wp_ifCond, wp_if_icmp, wp_ifnonnull, wp_tableswitch, wp_getstatic, wp_getfield, wp_putfield, wp_iaload, wp_laload, wp_aaload, wp_iastore, wp_lastore, wp_aastore, wp_arraylength, wp_newarray, wp_anewarray, wp_new, wp_invokevirtual, wp_invokestatic, wp_invokespecial, wp_ireturn, wp_lreturn, wp_areturn, wp_return_, wp_nil, e_pI, e_pJ, e_pR, e_pA1, e_pA2, e_pD1, e_pD2, e_pN1, e_pN2, e_pII, e_pJJ, e_pIJ, e_pIR, e_pIIR, e_pJIR, e_pRIR, e_pF1, e_pF2, e_pF3, e_lI, e_lJ, e_lA1, e_lA2, e_rI, e_rJ, e_rA1, e_rA2, e_rV, e_pn0, e_pn1, e_pn2, e_pn3, e_pn4, e_pn5, e_dn, e_wt0, e_wt1, e_wt2, e_wt3, e_wt4, e_wt5, e_wt6, e_wt7, e_wt9, e_ws8, e_ws0, e_ws1, e_ws2, e_ws3, e_ws4, e_wc, mj_ld, mj_st1, mj_st2, c1_J, c1_i, c1_l, c1_r, c1_n, c1_rf, mj_ok4, mj_rc, mj_cz, mj_cc, mj_gv, wr_v, wr_i, wr_l, wr_r, rf_s, rf_n, k_sI, k_sJ, k_sR, R_sI, R_sJ, J_sI, J_sR, I_sJ, I_sR, lc_eq, lc_lt, lc_gt, lc_ge, lc_le, true_and, and_true, List.cons_append, List.nil_append, Nat.reduceAdd, Nat.reduceLeDiff, Nat.reduceEqDiff, or_true, true_or, and_self]
      rw [it8, if_neg h1] at hq; exact h49 _ _ hq
  refine mj_C_of 2 rfl rfl ?_; show mj_X _ 15 0 [.int i, mj_J] [] _ _
  refine mj_go (B := mj_B15_0) rfl ?_; simp only [mj_B15_0, wp_iconst, wp_bipush, wp_sipush, wp_ldc, wp_ldc_w, wp_lconst, wp_ldc2_w, wp_aconst_null, wp_iload, wp_iload_n, wp_lload, wp_lload_n, wp_aload, wp_aload_n, wp_istore, wp_istore_n, wp_lstore, wp_lstore_n, wp_astore, wp_astore_n, wp_iinc, wp_iadd, wp_isub, wp_imul, wp_iand, wp_ior, wp_ixor, wp_ishl, wp_ishr, wp_iushr, wp_idiv, wp_irem, wp_ineg, wp_ladd, wp_lsub, wp_land, wp_lor, wp_lxor, wp_lcmp, wp_lneg, wp_lshl, wp_lushr, wp_i2l, wp_l2i, wp_dup, wp_dup2, wp_pop, wp_goto, wp_ifCond, wp_if_icmp, wp_ifnonnull, wp_tableswitch, wp_getstatic, wp_getfield, wp_putfield, wp_iaload, wp_laload, wp_aaload, wp_iastore, wp_lastore, wp_aastore, wp_arraylength, wp_newarray, wp_anewarray, wp_new, wp_invokevirtual, wp_invokestatic, wp_invokespecial, wp_ireturn, wp_lreturn, wp_areturn, wp_return_, wp_nil, e_pI, e_pJ, e_pR, e_pA1, e_pA2, e_pD1, e_pD2, e_pN1, e_pN2, e_pII, e_pJJ, e_pIJ, e_pIR, e_pIIR, e_pJIR, e_pRIR, e_pF1, e_pF2, e_pF3, e_lI, e_lJ, e_lA1, e_lA2, e_rI, e_rJ, e_rA1, e_rA2, e_rV, e_pn0, e_pn1, e_pn2, e_pn3, e_pn4, e_pn5, e_dn, e_wt0, e_wt1, e_wt2, e_wt3, e_wt4, e_wt5, e_wt6, e_wt7, e_wt9, e_ws8, e_ws0, e_ws1, e_ws2, e_ws3, e_ws4, e_wc, mj_ld, mj_st1, mj_st2, c1_J, c1_i, c1_l, c1_r, c1_n, c1_rf, mj_ok4, mj_rc, mj_cz, mj_cc, mj_gv, wr_v, wr_i, wr_l, wr_r, rf_s, rf_n, k_sI, k_sJ, k_sR, R_sI, R_sJ, J_sI, J_sR, I_sJ, I_sR, lc_eq, lc_lt, lc_gt, lc_ge, lc_le, true_and, and_true, List.cons_append, List.nil_append, Nat.reduceAdd, Nat.reduceLeDiff, Nat.reduceEqDiff, or_true, true_or, and_self]
  refine ⟨fun h1 => ?_, fun h1 => ?_⟩
  · rw [itj, if_pos h1, it16] at hq
    refine mj_go (B := mj_B15_17) rfl ?_; simp only [mj_B15_17, wp_iconst, wp_bipush, wp_sipush, wp_ldc, wp_ldc_w, wp_lconst, wp_ldc2_w, wp_aconst_null, wp_iload, wp_iload_n, wp_lload, wp_lload_n, wp_aload, wp_aload_n, wp_istore, wp_istore_n, wp_lstore, wp_lstore_n, wp_astore, wp_astore_n, wp_iinc, wp_iadd, wp_isub, wp_imul, wp_iand, wp_ior, wp_ixor, wp_ishl, wp_ishr, wp_iushr, wp_idiv, wp_irem, wp_ineg, wp_ladd, wp_lsub, wp_land, wp_lor, wp_lxor, wp_lcmp, wp_lneg, wp_lshl, wp_lushr, wp_i2l, wp_l2i, wp_dup, wp_dup2, wp_pop, wp_goto, wp_ifCond, wp_if_icmp, wp_ifnonnull, wp_tableswitch, wp_getstatic, wp_getfield, wp_putfield, wp_iaload, wp_laload, wp_aaload, wp_iastore, wp_lastore, wp_aastore, wp_arraylength, wp_newarray, wp_anewarray, wp_new, wp_invokevirtual, wp_invokestatic, wp_invokespecial, wp_ireturn, wp_lreturn, wp_areturn, wp_return_, wp_nil, e_pI, e_pJ, e_pR, e_pA1, e_pA2, e_pD1, e_pD2, e_pN1, e_pN2, e_pII, e_pJJ, e_pIJ, e_pIR, e_pIIR, e_pJIR, e_pRIR, e_pF1, e_pF2, e_pF3, e_lI, e_lJ, e_lA1, e_lA2, e_rI, e_rJ, e_rA1, e_rA2, e_rV, e_pn0, e_pn1, e_pn2, e_pn3, e_pn4, e_pn5, e_dn, e_wt0, e_wt1, e_wt2, e_wt3, e_wt4, e_wt5, e_wt6, e_wt7, e_wt9, e_ws8, e_ws0, e_ws1, e_ws2, e_ws3, e_ws4, e_wc, mj_ld, mj_st1, mj_st2, c1_J, c1_i, c1_l, c1_r, c1_n, c1_rf, mj_ok4, mj_rc, mj_cz, mj_cc, mj_gv, wr_v, wr_i, wr_l, wr_r, rf_s, rf_n, k_sI, k_sJ, k_sR, R_sI, R_sJ, J_sI, J_sR, I_sJ, I_sR, lc_eq, lc_lt, lc_gt, lc_ge, lc_le, true_and, and_true, List.cons_append, List.nil_append, Nat.reduceAdd, Nat.reduceLeDiff, Nat.reduceEqDiff, or_true, true_or, and_self]
    refine ⟨fun h2 => h34 _ _ ?_, fun h2 => ?_⟩
    · rw [if_pos h2] at hq; exact hq
    · simp only [kt_e, wp_iconst, wp_bipush, wp_sipush, wp_ldc, wp_ldc_w, wp_lconst, wp_ldc2_w, wp_aconst_null, wp_iload, wp_iload_n, wp_lload, wp_lload_n, wp_aload, wp_aload_n, wp_istore, wp_istore_n, wp_lstore, wp_lstore_n, wp_astore, wp_astore_n, wp_iinc, wp_iadd, wp_isub, wp_imul, wp_iand, wp_ior, wp_ixor, wp_ishl, wp_ishr, wp_iushr, wp_idiv, wp_irem, wp_ineg, wp_ladd, wp_lsub, wp_land, wp_lor, wp_lxor, wp_lcmp, wp_lneg, wp_lshl, wp_lushr, wp_i2l, wp_l2i, wp_dup, wp_dup2, wp_pop, wp_goto, wp_ifCond, wp_if_icmp, wp_ifnonnull, wp_tableswitch, wp_getstatic, wp_getfield, wp_putfield, wp_iaload, wp_laload, wp_aaload, wp_iastore, wp_lastore, wp_aastore, wp_arraylength, wp_newarray, wp_anewarray, wp_new, wp_invokevirtual, wp_invokestatic, wp_invokespecial, wp_ireturn, wp_lreturn, wp_areturn, wp_return_, wp_nil, e_pI, e_pJ, e_pR, e_pA1, e_pA2, e_pD1, e_pD2, e_pN1, e_pN2, e_pII, e_pJJ, e_pIJ, e_pIR, e_pIIR, e_pJIR, e_pRIR, e_pF1, e_pF2, e_pF3, e_lI, e_lJ, e_lA1, e_lA2, e_rI, e_rJ, e_rA1, e_rA2, e_rV, e_pn0, e_pn1, e_pn2, e_pn3, e_pn4, e_pn5, e_dn, e_wt0, e_wt1, e_wt2, e_wt3, e_wt4, e_wt5, e_wt6, e_wt7, e_wt9, e_ws8, e_ws0, e_ws1, e_ws2, e_ws3, e_ws4, e_wc, mj_ld, mj_st1, mj_st2, c1_J, c1_i, c1_l, c1_r, c1_n, c1_rf, mj_ok4, mj_rc, mj_cz, mj_cc, mj_gv, wr_v, wr_i, wr_l, wr_r, rf_s, rf_n, k_sI, k_sJ, k_sR, R_sI, R_sJ, J_sI, J_sR, I_sJ, I_sR, lc_eq, lc_lt, lc_gt, lc_ge, lc_le, true_and, and_true, List.cons_append, List.nil_append, Nat.reduceAdd, Nat.reduceLeDiff, Nat.reduceEqDiff, or_true, true_or, and_self]
      rw [if_neg h2] at hq; exact h34 _ _ hq
  · rw [itj, if_neg h1] at hq
    simp only [kt_e, wp_iconst, wp_bipush, wp_sipush, wp_ldc, wp_ldc_w, wp_lconst, wp_ldc2_w, wp_aconst_null, wp_iload, wp_iload_n, wp_lload, wp_lload_n, wp_aload, wp_aload_n, wp_istore, wp_istore_n, wp_lstore, wp_lstore_n, wp_astore, wp_astore_n, wp_iinc, wp_iadd, wp_isub, wp_imul, wp_iand, wp_ior, wp_ixor, wp_ishl, wp_ishr, wp_iushr, wp_idiv, wp_irem, wp_ineg, wp_ladd, wp_lsub, wp_land, wp_lor, wp_lxor, wp_lcmp, wp_lneg, wp_lshl, wp_lushr, wp_i2l, wp_l2i, wp_dup, wp_dup2, wp_pop, wp_goto, wp_ifCond, wp_if_icmp, wp_ifnonnull, wp_tableswitch, wp_getstatic, wp_getfield, wp_putfield, wp_iaload, wp_laload, wp_aaload, wp_iastore, wp_lastore, wp_aastore, wp_arraylength, wp_newarray, wp_anewarray, wp_new, wp_invokevirtual, wp_invokestatic, wp_invokespecial, wp_ireturn, wp_lreturn, wp_areturn, wp_return_, wp_nil, e_pI, e_pJ, e_pR, e_pA1, e_pA2, e_pD1, e_pD2, e_pN1, e_pN2, e_pII, e_pJJ, e_pIJ, e_pIR, e_pIIR, e_pJIR, e_pRIR, e_pF1, e_pF2, e_pF3, e_lI, e_lJ, e_lA1, e_lA2, e_rI, e_rJ, e_rA1, e_rA2, e_rV, e_pn0, e_pn1, e_pn2, e_pn3, e_pn4, e_pn5, e_dn, e_wt0, e_wt1, e_wt2, e_wt3, e_wt4, e_wt5, e_wt6, e_wt7, e_wt9, e_ws8, e_ws0, e_ws1, e_ws2, e_ws3, e_ws4, e_wc, mj_ld, mj_st1, mj_st2, c1_J, c1_i, c1_l, c1_r, c1_n, c1_rf, mj_ok4, mj_rc, mj_cz, mj_cc, mj_gv, wr_v, wr_i, wr_l, wr_r, rf_s, rf_n, k_sI, k_sJ, k_sR, R_sI, R_sJ, J_sI, J_sR, I_sJ, I_sR, lc_eq, lc_lt, lc_gt, lc_ge, lc_le, true_and, and_true, List.cons_append, List.nil_append, Nat.reduceAdd, Nat.reduceLeDiff, Nat.reduceEqDiff, or_true, true_or, and_self]
    exact hq
theorem itj_ok : ∀ r : Fin 33, itj (Int32.ofNat (2 ^ r.val - 1)) = Int32.ofNat r.val := by decide +kernel
def b3 (x : Int32) (k : Nat) : Bool := x.toBitVec.toNat.testBit k
theorem itz_ok {x : Int32} {r : Nat} (h1 : r ≤ 32) (h2 : ∀ j, j < r → b3 x j = false) (h3 : r < 32 → b3 x r = true) : itj ((x ^^^ -1) &&& (x - 1)) = Int32.ofNat r := by
  rw [← itj_ok ⟨r, by omega⟩]
  congr 1
  apply Int32.toBitVec_inj.mp
  apply BitVec.eq_of_getLsbD_eq
  intro k hk
  have hm : (-1 : Int32).toBitVec.getLsbD k = true := by
    have : ∀ k : Fin 32, (-1 : Int32).toBitVec.getLsbD k.val = true := by decide
    exact this ⟨k, hk⟩
  have hr : (Int32.ofNat (2 ^ r - 1)).toBitVec.getLsbD k = decide (k < r) := by
    show (BitVec.ofNat 32 (2 ^ r - 1)).getLsbD k = _
    rw [BitVec.getLsbD_ofNat, Nat.testBit_two_pow_sub_one]
    simp [hk]
  show ((x ^^^ -1) &&& (x - 1)).toBitVec.getLsbD k = _
  rw [hr, Int32.toBitVec_and, BitVec.getLsbD_and, Int32.toBitVec_xor, BitVec.getLsbD_xor, hm]
  by_cases h0 : x = 0
  · have hr32 : r = 32 := by
      apply Classical.byContradiction
      intro h4
      have h5 := h3 (by omega)
      rw [h0] at h5
      unfold b3 at h5
      simp at h5
    rw [h0, decide_eq_true (by omega)]
    have : ∀ k : Fin 32, (((0 : Int32).toBitVec.getLsbD k.val ^^ true) && (0 - 1 : Int32).toBitVec.getLsbD k.val) = true := by decide
    exact this ⟨k, hk⟩
  · have hn : 0 < x.toBitVec.toNat := by
      rcases Nat.eq_zero_or_pos x.toBitVec.toNat with h4 | h4
      · exact absurd (Int32.toBitVec_inj.mp (BitVec.eq_of_toNat_eq (y := (0 : Int32).toBitVec) h4)) h0
      · exact h4
    have hr2 : r < 32 := by
      apply Classical.byContradiction
      intro h4
      apply h0
      apply Int32.toBitVec_inj.mp
      apply BitVec.eq_of_getLsbD_eq
      intro i hi
      have := h2 i (by omega)
      unfold b3 at this
      rw [BitVec.testBit_toNat] at this
      rw [this]; simp
    have hd : (x - 1).toBitVec.toNat = x.toBitVec.toNat - 1 := by
      have h5 := x.toBitVec.isLt
      rw [Int32.toBitVec_sub, BitVec.toNat_sub]
      show (2 ^ 32 - 1 + x.toBitVec.toNat) % 2 ^ 32 = _
      omega
    have h6 := nb_dec (h3 hr2) h2 k
    rw [← hd, BitVec.testBit_toNat, BitVec.testBit_toNat] at h6
    rw [h6]
    by_cases h7 : k < r
    · have h8 := h2 k h7
      unfold b3 at h8
      rw [BitVec.testBit_toNat] at h8
      rw [if_pos h7, h8, decide_eq_true h7]; rfl
    · rw [if_neg h7, decide_eq_false h7]
      by_cases h9 : k = r
      · rw [if_pos h9, Bool.and_false]
      · rw [if_neg h9]
        cases x.toBitVec.getLsbD k <;> rfl
theorem b3_lo (s : Int64) {k : Nat} (h : k < 32) : b3 s.toInt32 k = bt s k := by
  unfold b3 bt
  rw [BitVec.testBit_toNat, Int64.toBitVec_toInt32, BitVec.getLsbD_signExtend]
  simp [h, Nat.lt_trans h (by decide : 32 < 64)]
theorem b3_hi (s : Int64) {k : Nat} (h : k < 32) : b3 (mj_ju s 32).toInt32 k = bt s (32 + k) := by
  rw [b3_lo _ h]
  exact ju_bt s (k := 32) (by decide) k
theorem b3_0 {x : Int32} (h : ∀ k, k < 32 → b3 x k = false) : x = 0 := by
  apply Int32.toBitVec_inj.mp
  apply BitVec.eq_of_getLsbD_eq
  intro i hi
  have := h i hi
  unfold b3 at this
  rw [BitVec.testBit_toNat] at this
  rw [this]; simp
theorem b3_z (k : Nat) : b3 0 k = false := by unfold b3; simp
theorem pm_ntz (s : Int64) (h : mj_H) (Q : Option Value → mj_H → Prop) (d : Nat) (hq : Q (some (.int (Int32.ofNat (lb s)))) h) : mj_C (d + 1) 14 [.long s] h Q := by
  have hle := lb_le s
  refine mj_C_of 3 rfl rfl ?_; show mj_X _ 14 0 [.long s, mj_J, mj_J] [] _ _
  refine mj_go (B := mj_B14_0) rfl ?_; simp only [mj_B14_0, wp_iconst, wp_bipush, wp_sipush, wp_ldc, wp_ldc_w, wp_lconst, wp_ldc2_w, wp_aconst_null, wp_iload, wp_iload_n, wp_lload, wp_lload_n, wp_aload, wp_aload_n, wp_istore, wp_istore_n, wp_lstore, wp_lstore_n, wp_astore, wp_astore_n, wp_iinc, wp_iadd, wp_isub, wp_imul, wp_iand, wp_ior, wp_ixor, wp_ishl, wp_ishr, wp_iushr, wp_idiv, wp_irem, wp_ineg, wp_ladd, wp_lsub, wp_land, wp_lor, wp_lxor, wp_lcmp, wp_lneg, wp_lshl, wp_lushr, wp_i2l, wp_l2i, wp_dup, wp_dup2, wp_pop, wp_goto, wp_ifCond, wp_if_icmp, wp_ifnonnull, wp_tableswitch, wp_getstatic, wp_getfield, wp_putfield, wp_iaload, wp_laload, wp_aaload, wp_iastore, wp_lastore, wp_aastore, wp_arraylength, wp_newarray, wp_anewarray, wp_new, wp_invokevirtual, wp_invokestatic, wp_invokespecial, wp_ireturn, wp_lreturn, wp_areturn, wp_return_, wp_nil, e_pI, e_pJ, e_pR, e_pA1, e_pA2, e_pD1, e_pD2, e_pN1, e_pN2, e_pII, e_pJJ, e_pIJ, e_pIR, e_pIIR, e_pJIR, e_pRIR, e_pF1, e_pF2, e_pF3, e_lI, e_lJ, e_lA1, e_lA2, e_rI, e_rJ, e_rA1, e_rA2, e_rV, e_pn0, e_pn1, e_pn2, e_pn3, e_pn4, e_pn5, e_dn, e_wt0, e_wt1, e_wt2, e_wt3, e_wt4, e_wt5, e_wt6, e_wt7, e_wt9, e_ws8, e_ws0, e_ws1, e_ws2, e_ws3, e_ws4, e_wc, mj_ld, mj_st1, mj_st2, c1_J, c1_i, c1_l, c1_r, c1_n, c1_rf, mj_ok4, mj_rc, mj_cz, mj_cc, mj_gv, wr_v, wr_i, wr_l, wr_r, rf_s, rf_n, k_sI, k_sJ, k_sR, R_sI, R_sJ, J_sI, J_sR, I_sJ, I_sR, lc_eq, lc_lt, lc_gt, lc_ge, lc_le, true_and, and_true, List.cons_append, List.nil_append, Nat.reduceAdd, Nat.reduceLeDiff, Nat.reduceEqDiff, or_true, true_or, and_self]
  refine ⟨fun h1 => ?_, fun h1 => ?_⟩
  · have h2 : lb s < 32 := by
      apply Classical.byContradiction
      intro h2
      apply h1
      apply b3_0
      intro k hk
      rw [b3_lo s hk]
      exact lb_lt s (by omega)
    refine mj_go (B := mj_B14_21) rfl ?_; simp only [mj_B14_21, wp_iconst, wp_bipush, wp_sipush, wp_ldc, wp_ldc_w, wp_lconst, wp_ldc2_w, wp_aconst_null, wp_iload, wp_iload_n, wp_lload, wp_lload_n, wp_aload, wp_aload_n, wp_istore, wp_istore_n, wp_lstore, wp_lstore_n, wp_astore, wp_astore_n, wp_iinc, wp_iadd, wp_isub, wp_imul, wp_iand, wp_ior, wp_ixor, wp_ishl, wp_ishr, wp_iushr, wp_idiv, wp_irem, wp_ineg, wp_ladd, wp_lsub, wp_land, wp_lor, wp_lxor, wp_lcmp, wp_lneg, wp_lshl, wp_lushr, wp_i2l, wp_l2i, wp_dup, wp_dup2, wp_pop, wp_goto, wp_ifCond, wp_if_icmp, wp_ifnonnull, wp_tableswitch, wp_getstatic, wp_getfield, wp_putfield, wp_iaload, wp_laload, wp_aaload, wp_iastore, wp_lastore, wp_aastore, wp_arraylength, wp_newarray, wp_anewarray, wp_new, wp_invokevirtual, wp_invokestatic, wp_invokespecial, wp_ireturn, wp_lreturn, wp_areturn, wp_return_, wp_nil, e_pI, e_pJ, e_pR, e_pA1, e_pA2, e_pD1, e_pD2, e_pN1, e_pN2, e_pII, e_pJJ, e_pIJ, e_pIR, e_pIIR, e_pJIR, e_pRIR, e_pF1, e_pF2, e_pF3, e_lI, e_lJ, e_lA1, e_lA2, e_rI, e_rJ, e_rA1, e_rA2, e_rV, e_pn0, e_pn1, e_pn2, e_pn3, e_pn4, e_pn5, e_dn, e_wt0, e_wt1, e_wt2, e_wt3, e_wt4, e_wt5, e_wt6, e_wt7, e_wt9, e_ws8, e_ws0, e_ws1, e_ws2, e_ws3, e_ws4, e_wc, mj_ld, mj_st1, mj_st2, c1_J, c1_i, c1_l, c1_r, c1_n, c1_rf, mj_ok4, mj_rc, mj_cz, mj_cc, mj_gv, wr_v, wr_i, wr_l, wr_r, rf_s, rf_n, k_sI, k_sJ, k_sR, R_sI, R_sJ, J_sI, J_sR, I_sJ, I_sR, lc_eq, lc_lt, lc_gt, lc_ge, lc_le, true_and, and_true, List.cons_append, List.nil_append, Nat.reduceAdd, Nat.reduceLeDiff, Nat.reduceEqDiff, or_true, true_or, and_self]
    apply pm_itz
    rw [itz_ok (r := lb s) (by omega) (fun j hj => by rw [b3_lo s (by omega)]; exact lb_lt s hj) (fun hj => by rw [b3_lo s (by omega)]; exact lb_at s (by omega))]
    simp only [wp_iconst, wp_bipush, wp_sipush, wp_ldc, wp_ldc_w, wp_lconst, wp_ldc2_w, wp_aconst_null, wp_iload, wp_iload_n, wp_lload, wp_lload_n, wp_aload, wp_aload_n, wp_istore, wp_istore_n, wp_lstore, wp_lstore_n, wp_astore, wp_astore_n, wp_iinc, wp_iadd, wp_isub, wp_imul, wp_iand, wp_ior, wp_ixor, wp_ishl, wp_ishr, wp_iushr, wp_idiv, wp_irem, wp_ineg, wp_ladd, wp_lsub, wp_land, wp_lor, wp_lxor, wp_lcmp, wp_lneg, wp_lshl, wp_lushr, wp_i2l, wp_l2i, wp_dup, wp_dup2, wp_pop, wp_goto, wp_ifCond, wp_if_icmp, wp_ifnonnull, wp_tableswitch, wp_getstatic, wp_getfield, wp_putfield, wp_iaload, wp_laload, wp_aaload, wp_iastore, wp_lastore, wp_aastore, wp_arraylength, wp_newarray, wp_anewarray, wp_new, wp_invokevirtual, wp_invokestatic, wp_invokespecial, wp_ireturn, wp_lreturn, wp_areturn, wp_return_, wp_nil, e_pI, e_pJ, e_pR, e_pA1, e_pA2, e_pD1, e_pD2, e_pN1, e_pN2, e_pII, e_pJJ, e_pIJ, e_pIR, e_pIIR, e_pJIR, e_pRIR, e_pF1, e_pF2, e_pF3, e_lI, e_lJ, e_lA1, e_lA2, e_rI, e_rJ, e_rA1, e_rA2, e_rV, e_pn0, e_pn1, e_pn2, e_pn3, e_pn4, e_pn5, e_dn, e_wt0, e_wt1, e_wt2, e_wt3, e_wt4, e_wt5, e_wt6, e_wt7, e_wt9, e_ws8, e_ws0, e_ws1, e_ws2, e_ws3, e_ws4, e_wc, mj_ld, mj_st1, mj_st2, c1_J, c1_i, c1_l, c1_r, c1_n, c1_rf, mj_ok4, mj_rc, mj_cz, mj_cc, mj_gv, wr_v, wr_i, wr_l, wr_r, rf_s, rf_n, k_sI, k_sJ, k_sR, R_sI, R_sJ, J_sI, J_sR, I_sJ, I_sR, lc_eq, lc_lt, lc_gt, lc_ge, lc_le, true_and, and_true, List.cons_append, List.nil_append, Nat.reduceAdd, Nat.reduceLeDiff, Nat.reduceEqDiff, or_true, true_or, and_self]
    rw [kt_e]; simp only [wp_iconst, wp_bipush, wp_sipush, wp_ldc, wp_ldc_w, wp_lconst, wp_ldc2_w, wp_aconst_null, wp_iload, wp_iload_n, wp_lload, wp_lload_n, wp_aload, wp_aload_n, wp_istore, wp_istore_n, wp_lstore, wp_lstore_n, wp_astore, wp_astore_n, wp_iinc, wp_iadd, wp_isub, wp_imul, wp_iand, wp_ior, wp_ixor, wp_ishl, wp_ishr, wp_iushr, wp_idiv, wp_irem, wp_ineg, wp_ladd, wp_lsub, wp_land, wp_lor, wp_lxor, wp_lcmp, wp_lneg, wp_lshl, wp_lushr, wp_i2l, wp_l2i, wp_dup, wp_dup2, wp_pop, wp_goto, wp_ifCond, wp_if_icmp, wp_ifnonnull, wp_tableswitch, wp_getstatic, wp_getfield, wp_putfield, wp_iaload, wp_laload, wp_aaload, wp_iastore, wp_lastore, wp_aastore, wp_arraylength, wp_newarray, wp_anewarray, wp_new, wp_invokevirtual, wp_invokestatic, wp_invokespecial, wp_ireturn, wp_lreturn, wp_areturn, wp_return_, wp_nil, e_pI, e_pJ, e_pR, e_pA1, e_pA2, e_pD1, e_pD2, e_pN1, e_pN2, e_pII, e_pJJ, e_pIJ, e_pIR, e_pIIR, e_pJIR, e_pRIR, e_pF1, e_pF2, e_pF3, e_lI, e_lJ, e_lA1, e_lA2, e_rI, e_rJ, e_rA1, e_rA2, e_rV, e_pn0, e_pn1, e_pn2, e_pn3, e_pn4, e_pn5, e_dn, e_wt0, e_wt1, e_wt2, e_wt3, e_wt4, e_wt5, e_wt6, e_wt7, e_wt9, e_ws8, e_ws0, e_ws1, e_ws2, e_ws3, e_ws4, e_wc, mj_ld, mj_st1, mj_st2, c1_J, c1_i, c1_l, c1_r, c1_n, c1_rf, mj_ok4, mj_rc, mj_cz, mj_cc, mj_gv, wr_v, wr_i, wr_l, wr_r, rf_s, rf_n, k_sI, k_sJ, k_sR, R_sI, R_sJ, J_sI, J_sR, I_sJ, I_sR, lc_eq, lc_lt, lc_gt, lc_ge, lc_le, true_and, and_true, List.cons_append, List.nil_append, Nat.reduceAdd, Nat.reduceLeDiff, Nat.reduceEqDiff, or_true, true_or, and_self]
    refine mj_go (B := mj_B14_25) rfl ?_; simp only [mj_B14_25, wp_iconst, wp_bipush, wp_sipush, wp_ldc, wp_ldc_w, wp_lconst, wp_ldc2_w, wp_aconst_null, wp_iload, wp_iload_n, wp_lload, wp_lload_n, wp_aload, wp_aload_n, wp_istore, wp_istore_n, wp_lstore, wp_lstore_n, wp_astore, wp_astore_n, wp_iinc, wp_iadd, wp_isub, wp_imul, wp_iand, wp_ior, wp_ixor, wp_ishl, wp_ishr, wp_iushr, wp_idiv, wp_irem, wp_ineg, wp_ladd, wp_lsub, wp_land, wp_lor, wp_lxor, wp_lcmp, wp_lneg, wp_lshl, wp_lushr, wp_i2l, wp_l2i, wp_dup, wp_dup2, wp_pop, wp_goto, wp_ifCond, wp_if_icmp, wp_ifnonnull, wp_tableswitch, wp_getstatic, wp_getfield, wp_putfield, wp_iaload, wp_laload, wp_aaload, wp_iastore, wp_lastore, wp_aastore, wp_arraylength, wp_newarray, wp_anewarray, wp_new, wp_invokevirtual, wp_invokestatic, wp_invokespecial, wp_ireturn, wp_lreturn, wp_areturn, wp_return_, wp_nil, e_pI, e_pJ, e_pR, e_pA1, e_pA2, e_pD1, e_pD2, e_pN1, e_pN2, e_pII, e_pJJ, e_pIJ, e_pIR, e_pIIR, e_pJIR, e_pRIR, e_pF1, e_pF2, e_pF3, e_lI, e_lJ, e_lA1, e_lA2, e_rI, e_rJ, e_rA1, e_rA2, e_rV, e_pn0, e_pn1, e_pn2, e_pn3, e_pn4, e_pn5, e_dn, e_wt0, e_wt1, e_wt2, e_wt3, e_wt4, e_wt5, e_wt6, e_wt7, e_wt9, e_ws8, e_ws0, e_ws1, e_ws2, e_ws3, e_ws4, e_wc, mj_ld, mj_st1, mj_st2, c1_J, c1_i, c1_l, c1_r, c1_n, c1_rf, mj_ok4, mj_rc, mj_cz, mj_cc, mj_gv, wr_v, wr_i, wr_l, wr_r, rf_s, rf_n, k_sI, k_sJ, k_sR, R_sI, R_sJ, J_sI, J_sR, I_sJ, I_sR, lc_eq, lc_lt, lc_gt, lc_ge, lc_le, true_and, and_true, List.cons_append, List.nil_append, Nat.reduceAdd, Nat.reduceLeDiff, Nat.reduceEqDiff, or_true, true_or, and_self]
    exact hq
  · have h0 : ∀ k, k < 32 → bt s k = false := by
      intro k hk
      rw [← b3_lo s hk, Classical.not_not.mp h1, b3_z]
    have h2 : 32 ≤ lb s := by
      apply Classical.byContradiction
      intro h2
      have h3 := lb_at s (by omega)
      rw [h0 _ (by omega)] at h3
      cases h3
    rw [kt_e]; simp only [wp_iconst, wp_bipush, wp_sipush, wp_ldc, wp_ldc_w, wp_lconst, wp_ldc2_w, wp_aconst_null, wp_iload, wp_iload_n, wp_lload, wp_lload_n, wp_aload, wp_aload_n, wp_istore, wp_istore_n, wp_lstore, wp_lstore_n, wp_astore, wp_astore_n, wp_iinc, wp_iadd, wp_isub, wp_imul, wp_iand, wp_ior, wp_ixor, wp_ishl, wp_ishr, wp_iushr, wp_idiv, wp_irem, wp_ineg, wp_ladd, wp_lsub, wp_land, wp_lor, wp_lxor, wp_lcmp, wp_lneg, wp_lshl, wp_lushr, wp_i2l, wp_l2i, wp_dup, wp_dup2, wp_pop, wp_goto, wp_ifCond, wp_if_icmp, wp_ifnonnull, wp_tableswitch, wp_getstatic, wp_getfield, wp_putfield, wp_iaload, wp_laload, wp_aaload, wp_iastore, wp_lastore, wp_aastore, wp_arraylength, wp_newarray, wp_anewarray, wp_new, wp_invokevirtual, wp_invokestatic, wp_invokespecial, wp_ireturn, wp_lreturn, wp_areturn, wp_return_, wp_nil, e_pI, e_pJ, e_pR, e_pA1, e_pA2, e_pD1, e_pD2, e_pN1, e_pN2, e_pII, e_pJJ, e_pIJ, e_pIR, e_pIIR, e_pJIR, e_pRIR, e_pF1, e_pF2, e_pF3, e_lI, e_lJ, e_lA1, e_lA2, e_rI, e_rJ, e_rA1, e_rA2, e_rV, e_pn0, e_pn1, e_pn2, e_pn3, e_pn4, e_pn5, e_dn, e_wt0, e_wt1, e_wt2, e_wt3, e_wt4, e_wt5, e_wt6, e_wt7, e_wt9, e_ws8, e_ws0, e_ws1, e_ws2, e_ws3, e_ws4, e_wc, mj_ld, mj_st1, mj_st2, c1_J, c1_i, c1_l, c1_r, c1_n, c1_rf, mj_ok4, mj_rc, mj_cz, mj_cc, mj_gv, wr_v, wr_i, wr_l, wr_r, rf_s, rf_n, k_sI, k_sJ, k_sR, R_sI, R_sJ, J_sI, J_sR, I_sJ, I_sR, lc_eq, lc_lt, lc_gt, lc_ge, lc_le, true_and, and_true, List.cons_append, List.nil_append, Nat.reduceAdd, Nat.reduceLeDiff, Nat.reduceEqDiff, or_true, true_or, and_self]
    apply pm_itz
    rw [itz_ok (r := lb s - 32) (by omega) (fun j hj => by rw [b3_hi s (by omega)]; exact lb_lt s (by omega)) (fun hj => by rw [b3_hi s (by omega), show 32 + (lb s - 32) = lb s by omega]; exact lb_at s (by omega))]
    simp only [wp_iconst, wp_bipush, wp_sipush, wp_ldc, wp_ldc_w, wp_lconst, wp_ldc2_w, wp_aconst_null, wp_iload, wp_iload_n, wp_lload, wp_lload_n, wp_aload, wp_aload_n, wp_istore, wp_istore_n, wp_lstore, wp_lstore_n, wp_astore, wp_astore_n, wp_iinc, wp_iadd, wp_isub, wp_imul, wp_iand, wp_ior, wp_ixor, wp_ishl, wp_ishr, wp_iushr, wp_idiv, wp_irem, wp_ineg, wp_ladd, wp_lsub, wp_land, wp_lor, wp_lxor, wp_lcmp, wp_lneg, wp_lshl, wp_lushr, wp_i2l, wp_l2i, wp_dup, wp_dup2, wp_pop, wp_goto, wp_ifCond, wp_if_icmp, wp_ifnonnull, wp_tableswitch, wp_getstatic, wp_getfield, wp_putfield, wp_iaload, wp_laload, wp_aaload, wp_iastore, wp_lastore, wp_aastore, wp_arraylength, wp_newarray, wp_anewarray, wp_new, wp_invokevirtual, wp_invokestatic, wp_invokespecial, wp_ireturn, wp_lreturn, wp_areturn, wp_return_, wp_nil, e_pI, e_pJ, e_pR, e_pA1, e_pA2, e_pD1, e_pD2, e_pN1, e_pN2, e_pII, e_pJJ, e_pIJ, e_pIR, e_pIIR, e_pJIR, e_pRIR, e_pF1, e_pF2, e_pF3, e_lI, e_lJ, e_lA1, e_lA2, e_rI, e_rJ, e_rA1, e_rA2, e_rV, e_pn0, e_pn1, e_pn2, e_pn3, e_pn4, e_pn5, e_dn, e_wt0, e_wt1, e_wt2, e_wt3, e_wt4, e_wt5, e_wt6, e_wt7, e_wt9, e_ws8, e_ws0, e_ws1, e_ws2, e_ws3, e_ws4, e_wc, mj_ld, mj_st1, mj_st2, c1_J, c1_i, c1_l, c1_r, c1_n, c1_rf, mj_ok4, mj_rc, mj_cz, mj_cc, mj_gv, wr_v, wr_i, wr_l, wr_r, rf_s, rf_n, k_sI, k_sJ, k_sR, R_sI, R_sJ, J_sI, J_sR, I_sJ, I_sR, lc_eq, lc_lt, lc_gt, lc_ge, lc_le, true_and, and_true, List.cons_append, List.nil_append, Nat.reduceAdd, Nat.reduceLeDiff, Nat.reduceEqDiff, or_true, true_or, and_self]
    rw [kt_e]; simp only [wp_iconst, wp_bipush, wp_sipush, wp_ldc, wp_ldc_w, wp_lconst, wp_ldc2_w, wp_aconst_null, wp_iload, wp_iload_n, wp_lload, wp_lload_n, wp_aload, wp_aload_n, wp_istore, wp_istore_n, wp_lstore, wp_lstore_n, wp_astore, wp_astore_n, wp_iinc, wp_iadd, wp_isub, wp_imul, wp_iand, wp_ior, wp_ixor, wp_ishl, wp_ishr, wp_iushr, wp_idiv, wp_irem, wp_ineg, wp_ladd, wp_lsub, wp_land, wp_lor, wp_lxor, wp_lcmp, wp_lneg, wp_lshl, wp_lushr, wp_i2l, wp_l2i, wp_dup, wp_dup2, wp_pop, wp_goto, wp_ifCond, wp_if_icmp, wp_ifnonnull, wp_tableswitch, wp_getstatic, wp_getfield, wp_putfield, wp_iaload, wp_laload, wp_aaload, wp_iastore, wp_lastore, wp_aastore, wp_arraylength, wp_newarray, wp_anewarray, wp_new, wp_invokevirtual, wp_invokestatic, wp_invokespecial, wp_ireturn, wp_lreturn, wp_areturn, wp_return_, wp_nil, e_pI, e_pJ, e_pR, e_pA1, e_pA2, e_pD1, e_pD2, e_pN1, e_pN2, e_pII, e_pJJ, e_pIJ, e_pIR, e_pIIR, e_pJIR, e_pRIR, e_pF1, e_pF2, e_pF3, e_lI, e_lJ, e_lA1, e_lA2, e_rI, e_rJ, e_rA1, e_rA2, e_rV, e_pn0, e_pn1, e_pn2, e_pn3, e_pn4, e_pn5, e_dn, e_wt0, e_wt1, e_wt2, e_wt3, e_wt4, e_wt5, e_wt6, e_wt7, e_wt9, e_ws8, e_ws0, e_ws1, e_ws2, e_ws3, e_ws4, e_wc, mj_ld, mj_st1, mj_st2, c1_J, c1_i, c1_l, c1_r, c1_n, c1_rf, mj_ok4, mj_rc, mj_cz, mj_cc, mj_gv, wr_v, wr_i, wr_l, wr_r, rf_s, rf_n, k_sI, k_sJ, k_sR, R_sI, R_sJ, J_sI, J_sR, I_sJ, I_sR, lc_eq, lc_lt, lc_gt, lc_ge, lc_le, true_and, and_true, List.cons_append, List.nil_append, Nat.reduceAdd, Nat.reduceLeDiff, Nat.reduceEqDiff, or_true, true_or, and_self]
    rw [show (32 : Int32) = Int32.ofNat 32 from rfl, i_add, show 32 + (lb s - 32) = lb s by omega]
    refine mj_go (B := mj_B14_25) rfl ?_; simp only [mj_B14_25, wp_iconst, wp_bipush, wp_sipush, wp_ldc, wp_ldc_w, wp_lconst, wp_ldc2_w, wp_aconst_null, wp_iload, wp_iload_n, wp_lload, wp_lload_n, wp_aload, wp_aload_n, wp_istore, wp_istore_n, wp_lstore, wp_lstore_n, wp_astore, wp_astore_n, wp_iinc, wp_iadd, wp_isub, wp_imul, wp_iand, wp_ior, wp_ixor, wp_ishl, wp_ishr, wp_iushr, wp_idiv, wp_irem, wp_ineg, wp_ladd, wp_lsub, wp_land, wp_lor, wp_lxor, wp_lcmp, wp_lneg, wp_lshl, wp_lushr, wp_i2l, wp_l2i, wp_dup, wp_dup2, wp_pop, wp_goto, wp_ifCond, wp_if_icmp, wp_ifnonnull, wp_tableswitch, wp_getstatic, wp_getfield, wp_putfield, wp_iaload, wp_laload, wp_aaload, wp_iastore, wp_lastore, wp_aastore, wp_arraylength, wp_newarray, wp_anewarray, wp_new, wp_invokevirtual, wp_invokestatic, wp_invokespecial, wp_ireturn, wp_lreturn, wp_areturn, wp_return_, wp_nil, e_pI, e_pJ, e_pR, e_pA1, e_pA2, e_pD1, e_pD2, e_pN1, e_pN2, e_pII, e_pJJ, e_pIJ, e_pIR, e_pIIR, e_pJIR, e_pRIR, e_pF1, e_pF2, e_pF3, e_lI, e_lJ, e_lA1, e_lA2, e_rI, e_rJ, e_rA1, e_rA2, e_rV, e_pn0, e_pn1, e_pn2, e_pn3, e_pn4, e_pn5, e_dn, e_wt0, e_wt1, e_wt2, e_wt3, e_wt4, e_wt5, e_wt6, e_wt7, e_wt9, e_ws8, e_ws0, e_ws1, e_ws2, e_ws3, e_ws4, e_wc, mj_ld, mj_st1, mj_st2, c1_J, c1_i, c1_l, c1_r, c1_n, c1_rf, mj_ok4, mj_rc, mj_cz, mj_cc, mj_gv, wr_v, wr_i, wr_l, wr_r, rf_s, rf_n, k_sI, k_sJ, k_sR, R_sI, R_sJ, J_sI, J_sR, I_sJ, I_sR, lc_eq, lc_lt, lc_gt, lc_ge, lc_le, true_and, and_true, List.cons_append, List.nil_append, Nat.reduceAdd, Nat.reduceLeDiff, Nat.reduceEqDiff, or_true, true_or, and_self]
    exact hq
