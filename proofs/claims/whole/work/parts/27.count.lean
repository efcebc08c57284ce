def cn (n : Nat) : Nat → Nat
  | 0 => 0
  | k + 1 => cn n k + (if n.testBit k = true then 1 else 0)
theorem cnt_cn (s : Int64) : ∀ k, cnt s k = cn (bn s) k
  | 0 => rfl
  | k + 1 => by rw [cnt, cn, cnt_cn s k, bt_bn]
theorem cn_8 (n : Nat) : ∀ m, cn n (8 + m) = p8 (n % 256) + cn (n / 256) m
  | 0 => by
    have h1 : ∀ k, k < 8 → n.testBit k = (n % 256).testBit k := fun k hk => by
      rw [show 256 = 2 ^ 8 from rfl, Nat.testBit_mod_two_pow, decide_eq_true hk, Bool.true_and]
    have h2 : ∀ b : Fin 256, cn b.val 8 = p8 b.val := by decide +kernel
    have h3 := h2 ⟨n % 256, by omega⟩
    simp only [cn] at h3 ⊢
    rw [← h3, h1 0 (by decide), h1 1 (by decide), h1 2 (by decide), h1 3 (by decide), h1 4 (by decide), h1 5 (by decide), h1 6 (by decide), h1 7 (by decide)]
    rfl
  | m + 1 => by
    rw [show 8 + (m + 1) = 8 + m + 1 by omega, cn, cn_8 n m, cn, Nat.add_comm 8 m, Nat.testBit_add, show 2 ^ 8 = 256 from rfl]
    omega
theorem F3_8 (n : Nat) (h : n < 256 ^ 8) : ∃ a0 a1 a2 a3 a4 a5 a6 a7, a0 ≤ 8 ∧ a1 ≤ 8 ∧ a2 ≤ 8 ∧ a3 ≤ 8 ∧ a4 ≤ 8 ∧ a5 ≤ 8 ∧ a6 ≤ 8 ∧ a7 ≤ 8 ∧ cn n 64 = a0 + a1 + a2 + a3 + a4 + a5 + a6 + a7 ∧ F3 n 8 = a0 + 256 * (a1 + 256 * (a2 + 256 * (a3 + 256 * (a4 + 256 * (a5 + 256 * (a6 + 256 * a7)))))) := by
  have hs : ∀ j n, n < 256 ^ (j + 1) → F3 n (j + 1) = p8 (n % 256) + 256 * F3 (n / 256) j := by
    intro j n hn
    rw [Nat.pow_succ] at hn
    have := (F3_s j (n / 256) (by omega)).2.2 (n % 256) (by omega)
    rw [show 256 * (n / 256) + n % 256 = n by omega] at this
    omega
  have hd : ∀ j n, n < 256 ^ (j + 1) → n / 256 < 256 ^ j := by
    intro j n hn
    rw [Nat.pow_succ] at hn
    omega
  have hp : ∀ n, p8 (n % 256) ≤ 8 := fun n => (p8_2 ⟨n % 256, by omega⟩).2.2
  have h7 := hd 7 n h
  have h6 := hd 6 _ h7
  have h5 := hd 5 _ h6
  have h4 := hd 4 _ h5
  have h3 := hd 3 _ h4
  have h2 := hd 2 _ h3
  have h1 := hd 1 _ h2
  refine ⟨p8 (n % 256), p8 (n / 256 % 256), p8 (n / 256 / 256 % 256), p8 (n / 256 / 256 / 256 % 256), p8 (n / 256 / 256 / 256 / 256 % 256), p8 (n / 256 / 256 / 256 / 256 / 256 % 256), p8 (n / 256 / 256 / 256 / 256 / 256 / 256 % 256), p8 (n / 256 / 256 / 256 / 256 / 256 / 256 / 256 % 256), hp _, hp _, hp _, hp _, hp _, hp _, hp _, hp _, ?_, ?_⟩
  rotate_left
  · rw [hs 7 n h, hs 6 _ h7, hs 5 _ h6, hs 4 _ h5, hs 3 _ h4, hs 2 _ h3, hs 1 _ h2, hs 0 _ h1]
    simp only [Nat.zero_add, F3, m55, m33, m0f, f3, Nat.and_zero, Nat.mul_zero, Nat.add_zero]
  · rw [cn_8 n 56, cn_8 _ 48, cn_8 _ 40, cn_8 _ 32, cn_8 _ 24, cn_8 _ 16, cn_8 _ 8, cn_8 _ 0]
    simp only [cn, Nat.add_zero]
    omega
theorem ju_bv (s : Int64) {k : Nat} (h : k < 64) : bn (mj_ju s (Int32.ofNat k)) = bn s / 2 ^ k := by
  unfold bn mj_ju
  rw [sh_k ⟨k, h⟩]
  show (s.toBitVec >>> ((UInt64.ofNat k).toBitVec % 64)).toNat = _
  have h2 : (UInt64.ofNat k).toBitVec % 64 = BitVec.ofNat 64 k := by
    apply BitVec.eq_of_toNat_eq
    simp
    omega
  rw [h2]
  simp [Nat.shiftRight_eq_div_pow, Nat.mod_eq_of_lt (Nat.lt_trans h (by decide : 64 < 18446744073709551616))]
theorem bn_and (s t : Int64) : bn (s &&& t) = bn s &&& bn t := by
  unfold bn; rw [Int64.toBitVec_and, BitVec.toNat_and]
theorem bn_add {s t : Int64} (h : bn s + bn t < 18446744073709551616) : bn (s + t) = bn s + bn t := by
  show (s + t).toBitVec.toNat = _
  rw [Int64.toBitVec_add, BitVec.toNat_add]
  exact Nat.mod_eq_of_lt h
theorem bn_sub {s t : Int64} (h : bn t ≤ bn s) : bn (s - t) = bn s - bn t := by
  have h1 := bn_lt s
  show (s - t).toBitVec.toNat = _
  rw [Int64.toBitVec_sub, BitVec.toNat_sub]
  show (2 ^ 64 - bn t + bn s) % 2 ^ 64 = _
  omega
theorem bn55 : bn 6148914691236517205 = m55 8 := by decide +kernel
theorem bn33 : bn 3689348814741910323 = m33 8 := by decide +kernel
theorem bn0f : bn 1085102592571150095 = m0f 8 := by decide +kernel
def lbc (s : Int64) : Int32 :=
  let a := s - (mj_ju s 1 &&& 6148914691236517205)
  let b := (a &&& 3689348814741910323) + (mj_ju a 2 &&& 3689348814741910323)
  let c := (b + mj_ju b 4) &&& 1085102592571150095
  let e := c + mj_ju c 8
  let f := e + mj_ju e 16
  let g := f + mj_ju f 32
  g.toInt32 &&& 127
theorem swar_1 (a b X2 e : Nat) (ha : a ≤ 16) (hb : b ≤ 16) (h : e = a + 256 * (b + 256 * X2)) : e / 65536 = X2 := by omega
theorem swar_2 (a b c e X f : Nat) (ha : a ≤ 32) (hb : b ≤ 32) (hc : c ≤ 32) (he : e ≤ 32) (h : f = a + 256 * (b + 256 * (c + 256 * (e + 256 * X)))) : f / 4294967296 = X := by omega
theorem swar_0 (a X c : Nat) (ha : a ≤ 8) (h : c = a + 256 * X) : c / 256 = X := by omega
theorem swar_e (a0 a1 a2 a3 a4 a5 a6 a7 : Nat) : a0 + 256 * (a1 + 256 * (a2 + 256 * (a3 + 256 * (a4 + 256 * (a5 + 256 * (a6 + 256 * a7)))))) + (a1 + 256 * (a2 + 256 * (a3 + 256 * (a4 + 256 * (a5 + 256 * (a6 + 256 * a7)))))) = (a0 + a1) + 256 * ((a1 + a2) + 256 * ((a2 + a3) + 256 * ((a3 + a4) + 256 * ((a4 + a5) + 256 * ((a5 + a6) + 256 * ((a6 + a7) + 256 * a7)))))) := by omega
theorem swar_f (a0 a1 a2 a3 a4 a5 a6 a7 : Nat) : a0 + 256 * (a1 + 256 * (a2 + 256 * (a3 + 256 * (a4 + 256 * (a5 + 256 * (a6 + 256 * a7)))))) + (a2 + 256 * (a3 + 256 * (a4 + 256 * (a5 + 256 * (a6 + 256 * a7))))) = (a0 + a2) + 256 * ((a1 + a3) + 256 * ((a2 + a4) + 256 * ((a3 + a5) + 256 * ((a4 + a6) + 256 * ((a5 + a7) + 256 * (a6 + 256 * a7)))))) := by omega
theorem swar_g (a0 a1 a2 a3 a4 a5 a6 a7 : Nat) : a0 + 256 * (a1 + 256 * (a2 + 256 * (a3 + 256 * (a4 + 256 * (a5 + 256 * (a6 + 256 * a7)))))) + (a4 + 256 * (a5 + 256 * (a6 + 256 * a7))) = (a0 + a4) + 256 * ((a1 + a5) + 256 * ((a2 + a6) + 256 * ((a3 + a7) + 256 * (a4 + 256 * (a5 + 256 * (a6 + 256 * a7)))))) := by omega
theorem swar_m (a X : Nat) (h : a < 128) : (a + 256 * X) % 128 = a := by omega
theorem swar_3 (a0 a1 a2 a3 a4 a5 a6 a7 c e f g : Nat) (k0 : a0 ≤ 8) (k1 : a1 ≤ 8) (k2 : a2 ≤ 8) (k3 : a3 ≤ 8) (k4 : a4 ≤ 8) (k5 : a5 ≤ 8) (k6 : a6 ≤ 8) (k7 : a7 ≤ 8) (hc : c = a0 + 256 * (a1 + 256 * (a2 + 256 * (a3 + 256 * (a4 + 256 * (a5 + 256 * (a6 + 256 * a7))))))) (he : e = c + c / 256) (hf : f = e + e / 65536) (hg : g = f + f / 4294967296) : g % 128 = a0 + a1 + a2 + a3 + a4 + a5 + a6 + a7 := by
  rw [swar_0 _ _ _ k0 hc, hc, swar_e] at he
  have l1 : a0 + a1 ≤ 16 ∧ a1 + a2 ≤ 16 := by clear hc he hf hg; omega
  rw [swar_1 _ _ _ _ l1.1 l1.2 he, he, swar_f] at hf
  have l2 : a0 + a1 + (a2 + a3) ≤ 32 ∧ a1 + a2 + (a3 + a4) ≤ 32 ∧ a2 + a3 + (a4 + a5) ≤ 32 ∧ a3 + a4 + (a5 + a6) ≤ 32 := by clear hc he hf hg; omega
  rw [swar_2 _ _ _ _ _ _ l2.1 l2.2.1 l2.2.2.1 l2.2.2.2 hf, hf, swar_g] at hg
  have l3 : a0 + a1 + (a2 + a3) + (a4 + a5 + (a6 + a7)) < 128 := by clear hc he hf hg; omega
  rw [hg, swar_m _ _ l3]
  clear hc he hf hg
  omega
theorem swar_le (a0 a1 a2 a3 a4 a5 a6 a7 c : Nat) (k0 : a0 ≤ 8) (k1 : a1 ≤ 8) (k2 : a2 ≤ 8) (k3 : a3 ≤ 8) (k4 : a4 ≤ 8) (k5 : a5 ≤ 8) (k6 : a6 ≤ 8) (k7 : a7 ≤ 8) (hc : c = a0 + 256 * (a1 + 256 * (a2 + 256 * (a3 + 256 * (a4 + 256 * (a5 + 256 * (a6 + 256 * a7))))))) : c < 1152921504606846976 := by omega
theorem lbc_cnt (s : Int64) : lbc s = Int32.ofNat (cnt s 64) := by
  unfold lbc
  extract_lets a b c e f g
  have ha : bn a = f1 (bn s) (m55 8) := by
    show bn (s - (mj_ju s 1 &&& 6148914691236517205)) = f1 (bn s) (m55 8)
    have h1 : bn (mj_ju s 1 &&& 6148914691236517205) = (bn s / 2 &&& m55 8) := by
      rw [bn_and, show (1 : Int32) = Int32.ofNat 1 from rfl, ju_bv s (k := 1) (by decide), bn55]
    rw [bn_sub, h1, f1]
    rw [h1]
    exact Nat.le_trans (and_le _ _) (Nat.div_le_self _ _)
  have hb : bn b = f2 (f1 (bn s) (m55 8)) (m33 8) := by
    show bn ((a &&& 3689348814741910323) + (mj_ju a 2 &&& 3689348814741910323)) = f2 (f1 (bn s) (m55 8)) (m33 8)
    have h1 : bn (a &&& 3689348814741910323) = (bn a &&& m33 8) := by rw [bn_and, bn33]
    have h2 : bn (mj_ju a 2 &&& 3689348814741910323) = (bn a / 4 &&& m33 8) := by
      rw [bn_and, show (2 : Int32) = Int32.ofNat 2 from rfl, ju_bv a (k := 2) (by decide), bn33]
    have h3 : (bn a &&& m33 8) ≤ m33 8 := Nat.and_le_right
    have h4 : (bn a / 4 &&& m33 8) ≤ m33 8 := Nat.and_le_right
    have h5 : m33 8 = 3689348814741910323 := by decide
    rw [bn_add, h1, h2, ha, f2]
    rw [h1, h2]
    omega
  have hbl : bn b ≤ 7378697629483820646 := by
    rw [hb, f2]
    have h3 : (f1 (bn s) (m55 8) &&& m33 8) ≤ m33 8 := Nat.and_le_right
    have h4 : (f1 (bn s) (m55 8) / 4 &&& m33 8) ≤ m33 8 := Nat.and_le_right
    have h5 : m33 8 = 3689348814741910323 := by decide
    omega
  have hc : bn c = F3 (bn s) 8 := by
    show bn ((b + mj_ju b 4) &&& 1085102592571150095) = F3 (bn s) 8
    have h1 : bn (mj_ju b 4) = bn b / 16 := ju_bv b (k := 4) (by decide)
    rw [bn_and, bn_add, h1, hb, bn0f]
    · rw [F3, f3]
    · rw [h1]; omega
  obtain ⟨a0, a1, a2, a3, a4, a5, a6, a7, k0, k1, k2, k3, k4, k5, k6, k7, hn, hF⟩ := F3_8 (bn s) (bn_lt s)
  rw [hF] at hc
  have hcl := swar_le a0 a1 a2 a3 a4 a5 a6 a7 _ k0 k1 k2 k3 k4 k5 k6 k7 hc
  have e8 : bn (mj_ju c 8) = bn c / 256 := ju_bv c (k := 8) (by decide)
  have he : bn e = bn c + bn c / 256 := by
    show bn (c + mj_ju c 8) = bn c + bn c / 256
    have hx := Nat.div_le_self (bn c) 256
    rw [bn_add, e8]
    rw [e8]
    exact Nat.lt_of_le_of_lt (Nat.add_le_add_left hx _) (Nat.lt_trans (Nat.add_lt_add hcl hcl) (by decide))
  have e16 : bn (mj_ju e 16) = bn e / 65536 := ju_bv e (k := 16) (by decide)
  have hel : bn e < 2305843009213693952 := by
    rw [he]
    exact Nat.lt_of_le_of_lt (Nat.add_le_add_left (Nat.div_le_self (bn c) 256) _) (Nat.add_lt_add hcl hcl)
  have hf : bn f = bn e + bn e / 65536 := by
    show bn (e + mj_ju e 16) = bn e + bn e / 65536
    have hx := Nat.div_le_self (bn e) 65536
    rw [bn_add, e16]
    rw [e16]
    exact Nat.lt_of_le_of_lt (Nat.add_le_add_left hx _) (Nat.lt_trans (Nat.add_lt_add hel hel) (by decide))
  have e32 : bn (mj_ju f 32) = bn f / 4294967296 := ju_bv f (k := 32) (by decide)
  have hg : bn g = bn f + bn f / 4294967296 := by
    show bn (f + mj_ju f 32) = bn f + bn f / 4294967296
    have hx := Nat.div_le_self (bn f) 4294967296
    have hfl : bn f < 4611686018427387904 := by
      rw [hf]
      exact Nat.lt_of_le_of_lt (Nat.add_le_add_left (Nat.div_le_self (bn e) 65536) _) (Nat.add_lt_add hel hel)
    rw [bn_add, e32]
    rw [e32]
    exact Nat.lt_of_le_of_lt (Nat.add_le_add_left hx _) (Nat.lt_trans (Nat.add_lt_add hfl hfl) (by decide))
  have h1 : bn g % 128 = a0 + a1 + a2 + a3 + a4 + a5 + a6 + a7 := swar_3 a0 a1 a2 a3 a4 a5 a6 a7 _ _ _ _ k0 k1 k2 k3 k4 k5 k6 k7 hc he hf hg
  have h2 : g.toInt32 &&& 127 = Int32.ofNat (bn g % 128) := by
    apply Int32.toBitVec_inj.mp
    show (g.toInt32 &&& 127).toBitVec = BitVec.ofNat 32 (bn g % 128)
    apply BitVec.eq_of_getLsbD_eq
    intro k hk
    rw [Int32.toBitVec_and, BitVec.getLsbD_and, BitVec.getLsbD_ofNat, show 128 = 2 ^ 7 from rfl, Nat.testBit_mod_two_pow]
    have h3 := b3_lo g hk
    unfold b3 at h3
    rw [BitVec.testBit_toNat] at h3
    rw [h3, bt_bn]
    have h4 : ∀ k : Fin 32, (127 : Int32).toBitVec.getLsbD k.val = decide (k.val < 7) := by decide
    rw [h4 ⟨k, hk⟩]
    simp [hk, Bool.and_comm]
  show g.toInt32 &&& 127 = _
  rw [h2, h1, cnt_cn, hn]
theorem pm_bitCount (s : Int64) (h : mj_H) (Q : Option Value → mj_H → Prop) (d : Nat) (hq : Q (some (.int (Int32.ofNat (cnt s 64)))) h) : mj_C d 6 [.long s] h Q := by
  rw [← lbc_cnt] at hq
  refine mj_C_of 2 rfl rfl ?_; show mj_X _ 6 0 [.long s, mj_J] [] _ _
  refine mj_go (B := mj_B6_0) rfl ?_; simp only [mj_B6_0, wp_iconst, wp_bipush, wp_sipush, wp_ldc, wp_ldc_w, wp_lconst, wp_ldc2_w, wp_aconst_null, wp_iload, wp_iload_n, wp_lload, wp_lload_n, wp_aload, wp_aload_n, wp_istore, wp_istore_n, wp_lstore, wp_lstore_n, wp_astore, wp_astore_n, wp_iinc, wp_iadd, wp_isub, wp_imul, wp_iand, wp_ior, wp_ixor, wp_ishl, wp_ishr, wp_iushr, wp_idiv, wp_irem, wp_ineg, wp_ladd, wp_lsub, wp_land, wp_lor, wp_lxor, wp_lcmp, wp_lneg, wp_lshl, wp_lushr, wp_i2l, wp_l2i, wp_dup, wp_dup2, wp_pop, wp_goto, wp_ifCond, wp_if_icmp, wp_ifnonnull, wp_tableswitch, wp_getstatic, wp_getfield, wp_putfield, wp_iaload, wp_laload, wp_aaload, wp_iastore, wp_lastore, wp_aastore, wp_arraylength, wp_newarray, wp_anewarray, wp_new, wp_invokevirtual, wp_invokestatic, wp_invokespecial, wp_ireturn, wp_lreturn, wp_areturn, wp_return_, wp_nil, e_pI, e_pJ, e_pR, e_pA1, e_pA2, e_pD1, e_pD2, e_pN1, e_pN2, e_pII, e_pJJ, e_pIJ, e_pIR, e_pIIR, e_pJIR, e_pRIR, e_pF1, e_pF2, e_pF3, e_lI, e_lJ, e_lA1, e_lA2, e_rI, e_rJ, e_rA1, e_rA2, e_rV, e_pn0, e_pn1, e_pn2, e_pn3, e_pn4, e_pn5, e_dn, e_wt0, e_wt1, e_wt2, e_wt3, e_wt4, e_wt5, e_wt6, e_wt7, e_wt9, e_ws8, e_ws0, e_ws1, e_ws2, e_ws3, e_ws4, e_wc, mj_ld, mj_st1, mj_st2, c1_J, c1_i, c1_l, c1_r, c1_n, c1_rf, mj_ok4, mj_rc, mj_cz, mj_cc, mj_gv, wr_v, wr_i, wr_l, wr_r, rf_s, rf_n, k_sI, k_sJ, k_sR, R_sI, R_sJ, J_sI, J_sR, I_sJ, I_sR, lc_eq, lc_lt, lc_gt, lc_ge, lc_le, true_and, and_true, List.cons_append, List.nil_append, Nat.reduceAdd, Nat.reduceLeDiff, Nat.reduceEqDiff, or_true, true_or, and_self]
  exact hq
def ibc (i : Int32) : Int32 :=
  let a := i - (mj_iu i 1 &&& 1431655765)
  let b := (a &&& 858993459) + (mj_iu a 2 &&& 858993459)
  let c := (b + mj_iu b 4) &&& 252645135
  let e := c + mj_iu c 8
  let f := e + mj_iu e 16
  f &&& 63
theorem ibc_cn : ∀ b : Fin 256, ibc (Int32.ofNat b.val) = Int32.ofNat (cn b.val 8) := by decide +kernel
theorem pm_ibc {b : Nat} (hb : b < 256) (h : mj_H) (Q : Option Value → mj_H → Prop) (d : Nat) (hq : Q (some (.int (Int32.ofNat (cn b 8)))) h) : mj_C d 38 [.int (Int32.ofNat b)] h Q := by
  have h1 := ibc_cn ⟨b, hb⟩
  rw [← h1] at hq
  refine mj_C_of 1 rfl rfl ?_; show mj_X _ 38 0 [.int (Int32.ofNat b)] [] _ _
  refine mj_go (B := mj_B38_0) rfl ?_; simp only [mj_B38_0, wp_iconst, wp_bipush, wp_sipush, wp_ldc, wp_ldc_w, wp_lconst, wp_ldc2_w, wp_aconst_null, wp_iload, wp_iload_n, wp_lload, wp_lload_n, wp_aload, wp_aload_n, wp_istore, wp_istore_n, wp_lstore, wp_lstore_n, wp_astore, wp_astore_n, wp_iinc, wp_iadd, wp_isub, wp_imul, wp_iand, wp_ior, wp_ixor, wp_ishl, wp_ishr, wp_iushr, wp_idiv, wp_irem, wp_ineg, wp_ladd, wp_lsub, wp_land, wp_lor, wp_lxor, wp_lcmp, wp_lneg, wp_lshl, wp_lushr, wp_i2l, wp_l2i, wp_dup, wp_dup2, wp_pop, wp_goto, wp_ifCond, wp_if_icmp, wp_ifnonnull, wp_tableswitch, wp_getstatic, wp_getfield, wp_putfield, wp_iaload, wp_laload, wp_aaload, wp_iastore, wp_lastore, wp_aastore, wp_arraylength, wp_newarray, wp_anewarray, wp_new, wp_invokevirtual, wp_invokestatic, wp_invokespecial, wp_ireturn, wp_lreturn, wp_areturn, wp_return_, wp_nil, e_pI, e_pJ, e_pR, e_pA1, e_pA2, e_pD1, e_pD2, e_pN1, e_pN2, e_pII, e_pJJ, e_pIJ, e_pIR, e_pIIR, e_pJIR, e_pRIR, e_pF1, e_pF2, e_pF3, e_lI, e_lJ, e_lA1, e_lA2, e_rI, e_rJ, e_rA1, e_rA2, e_rV, e_pn0, e_pn1, e_pn2, e_pn3, e_pn4, e_pn5, e_dn, e_wt0, e_wt1, e_wt2, e_wt3, e_wt4, e_wt5, e_wt6, e_wt7, e_wt9, e_ws8, e_ws0, e_ws1, e_ws2, e_ws3, e_ws4, e_wc, mj_ld, mj_st1, mj_st2, c1_J, c1_i, c1_l, c1_r, c1_n, c1_rf, mj_ok4, mj_rc, mj_cz, mj_cc, mj_gv, wr_v, wr_i, wr_l, wr_r, rf_s, rf_n, k_sI, k_sJ, k_sR, R_sI, R_sJ, J_sI, J_sR, I_sJ, I_sR, lc_eq, lc_lt, lc_gt, lc_ge, lc_le, true_and, and_true, List.cons_append, List.nil_append, Nat.reduceAdd, Nat.reduceLeDiff, Nat.reduceEqDiff, or_true, true_or, and_self]
  exact hq
