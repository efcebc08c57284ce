/-! bits and small numbers -/
def bt (s : Int64) (k : Nat) : Bool := s.toBitVec.getLsbD k
theorem i_in {k : Nat} (h : k < 2147483648) : (Int32.ofNat k).toInt = k := Int32.toInt_ofNat_of_lt h
theorem i_ge {k : Nat} (h : k < 2147483648) (c : Int32) : (c ≤ Int32.ofNat k) = (c.toInt ≤ k) := by
  rw [Int32.le_iff_toInt_le, i_in h]
theorem i_le {k : Nat} (h : k < 2147483648) (c : Int32) : (Int32.ofNat k ≤ c) = (k ≤ c.toInt) := by
  rw [Int32.le_iff_toInt_le, i_in h]
theorem i_gt {k : Nat} (h : k < 2147483648) (c : Int32) : (c < Int32.ofNat k) = (c.toInt < k) := by
  rw [Int32.lt_iff_toInt_lt, i_in h]
theorem i_lt {k : Nat} (h : k < 2147483648) (c : Int32) : (Int32.ofNat k < c) = (k < c.toInt) := by
  rw [Int32.lt_iff_toInt_lt, i_in h]
theorem i_s (k : Nat) : Int32.ofNat k + 1 = Int32.ofNat (k + 1) := by
  rw [Int32.ofNat_add]; rfl
theorem i_add (a b : Nat) : Int32.ofNat a + Int32.ofNat b = Int32.ofNat (a + b) := (Int32.ofNat_add a b).symm
theorem sh_k : ∀ k : Fin 64, ((Int32.ofNat k.val).toInt64.toUInt64 &&& Int64.toUInt64 63) = UInt64.ofNat k.val := by decide
theorem ju_bt (s : Int64) {k : Nat} (h : k < 64) (j : Nat) : bt (mj_ju s (Int32.ofNat k)) j = bt s (k + j) := by
  unfold bt mj_ju
  rw [sh_k ⟨k, h⟩]
  have h1 : (s.toUInt64 >>> UInt64.ofNat k).toInt64.toBitVec = s.toBitVec >>> k := by
    show s.toBitVec >>> ((UInt64.ofNat k).toBitVec % 64) = _
    have h2 : (UInt64.ofNat k).toBitVec % 64 = BitVec.ofNat 64 k := by
      apply BitVec.eq_of_toNat_eq
      simp
      omega
    rw [h2]
    apply BitVec.eq_of_toNat_eq
    simp [Nat.mod_eq_of_lt (Nat.lt_trans h (by decide : 64 < 18446744073709551616))]
  rw [h1, BitVec.getLsbD_ushiftRight]
theorem bt_ext {s t : Int64} (h : ∀ k, k < 64 → bt s k = bt t k) : s = t := by
  apply Int64.toBitVec_inj.mp
  apply BitVec.eq_of_getLsbD_eq
  exact h
theorem bt_and (s t : Int64) (k : Nat) : bt (s &&& t) k = (bt s k && bt t k) := by
  unfold bt; rw [Int64.toBitVec_and, BitVec.getLsbD_and]
theorem bt_or (s t : Int64) (k : Nat) : bt (s ||| t) k = (bt s k || bt t k) := by
  unfold bt; rw [Int64.toBitVec_or, BitVec.getLsbD_or]
theorem bt_xor (s t : Int64) (k : Nat) : bt (s ^^^ t) k = (bt s k != bt t k) := by
  unfold bt; rw [Int64.toBitVec_xor, BitVec.getLsbD_xor]
theorem bt_not (s : Int64) {k : Nat} (h : k < 64) : bt (~~~ s) k = !bt s k := by
  unfold bt; rw [Int64.toBitVec_not, BitVec.getLsbD_not]; simp [h]
theorem bt_0 (k : Nat) : bt 0 k = false := by
  unfold bt; simp
theorem bt_m1 {k : Nat} (h : k < 64) : bt (-1) k = true := by
  have : ∀ k : Fin 64, bt (-1) k.val = true := by decide
  exact this ⟨k, h⟩
theorem bt_1 (k : Nat) : bt 1 k = decide (k = 0) := by
  unfold bt; simp
theorem bt_ge (s : Int64) {k : Nat} (h : 64 ≤ k) : bt s k = false := by
  unfold bt; exact BitVec.getLsbD_of_ge _ _ h
theorem js_bt (s : Int64) {k : Nat} (h : k < 64) {j : Nat} (hj : j < 64) : bt (mj_js s (Int32.ofNat k)) j = (decide (k ≤ j) && bt s (j - k)) := by
  unfold bt mj_js
  have h1 : (s <<< ((Int32.ofNat k).toInt64 &&& 63)).toBitVec = s.toBitVec <<< k := by
    have h3 : ∀ k : Fin 64, ((Int32.ofNat k.val).toInt64 &&& 63) = Int64.ofNat k.val := by decide
    rw [h3 ⟨k, h⟩]
    show s.toBitVec <<< ((Int64.ofNat k).toBitVec.smod 64) = _
    have h4 : ∀ k : Fin 64, ((Int64.ofNat k).toBitVec.smod 64) = BitVec.ofNat 64 k := by decide
    rw [h4 ⟨k, h⟩]
    apply BitVec.eq_of_toNat_eq
    simp [Nat.mod_eq_of_lt (Nat.lt_trans h (by decide : 64 < 18446744073709551616))]
  rw [h1, BitVec.getLsbD_shiftLeft]
  by_cases h5 : k ≤ j
  · have h6 : ¬ j < k := by omega
    simp [hj, h5, h6]
  · have h6 : j < k := by omega
    simp [h5, h6]
theorem ju_1 (s : Int64) {k : Nat} (h : k < 64) : mj_ju s (Int32.ofNat k) &&& 1 = if bt s k then 1 else 0 := by
  apply bt_ext
  intro j hj
  rw [bt_and, ju_bt s h, bt_1]
  by_cases h1 : j = 0
  · subst h1
    rw [Nat.add_zero]
    cases bt s k
    · simp [bt_0]
    · simp [bt_1]
  · cases bt s k
    · simp [bt_0, h1]
    · simp [bt_1, h1]
def cnt (s : Int64) : Nat → Nat
  | 0 => 0
  | k + 1 => cnt s k + (if bt s k then 1 else 0)
theorem cnt_le (s : Int64) : ∀ k, cnt s k ≤ k
  | 0 => Nat.le_refl _
  | k + 1 => by
    have h1 := cnt_le s k
    rw [cnt]
    split <;> omega
theorem ju_i (s : Int64) {k : Nat} (h : k < 64) : (mj_ju s (Int32.ofNat k) &&& 1).toInt32 = Int32.ofNat (if bt s k then 1 else 0) := by
  rw [ju_1 s h]
  cases bt s k <;> rfl
theorem li_64 : (64 : Int32).toInt = 64 := rfl
theorem li_8 : (8 : Int32).toInt = 8 := rfl
theorem li_0 : (0 : Int32).toInt = 0 := rfl
theorem li_1 : (1 : Int32).toInt = 1 := rfl
theorem i_mod8 {k : Nat} (h : k < 64) : Int32.ofNat k - Int32.ofNat k / 8 * 8 = Int32.ofNat (k % 8) := by
  have h1 : ∀ k : Fin 64, Int32.ofNat k.val - Int32.ofNat k.val / 8 * 8 = Int32.ofNat (k.val % 8) := by decide
  exact h1 ⟨k, h⟩
theorem i_div8 {k : Nat} (h : k < 64) : Int32.ofNat k / 8 = Int32.ofNat (k / 8) := by
  have h1 : ∀ k : Fin 64, Int32.ofNat k.val / 8 = Int32.ofNat (k.val / 8) := by decide
  exact h1 ⟨k, h⟩
theorem n80 : ((8 : Int32) = 0) = False := by decide
theorem b1 (b : Bool) : ((if b = true then (1 : Int64) else 0) = 1) = (b = true) := by cases b <;> decide
theorem b0 (b : Bool) : ((if b = true then (1 : Int64) else 0) = 0) = (b = false) := by cases b <;> decide
/-- wide and high, as far as k -/
def wd (s : Int64) : Nat → Nat
  | 0 => 0
  | k + 1 => if bt s k = true ∧ wd s k ≤ k % 8 then k % 8 + 1 else wd s k
def hg (s : Int64) : Nat → Nat
  | 0 => 0
  | k + 1 => if bt s k = true then k / 8 + 1 else hg s k
theorem wd_le (s : Int64) : ∀ k, wd s k ≤ 8
  | 0 => by rw [wd]; omega
  | k + 1 => by
    have h1 := wd_le s k
    rw [wd]
    split <;> omega
theorem hg_le (s : Int64) : ∀ k, k ≤ 64 → hg s k ≤ 8
  | 0, _ => by rw [hg]; omega
  | k + 1, h => by
    have h1 := hg_le s k (by omega)
    rw [hg]
    split <;> omega
theorem i_rem8 {k : Nat} (h : k < 64) : Int32.ofNat k - Int32.ofNat (k / 8) * 8 = Int32.ofNat (k % 8) := by
  rw [← i_div8 h, i_mod8 h]
