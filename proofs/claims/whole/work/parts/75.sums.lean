/-! sums; counts that end at 10^15 + 1; small numbers as bits -/
def sm (g : Nat → Nat) : Nat → Nat
  | 0 => 0
  | n + 1 => sm g n + g n
theorem sm_s (g : Nat → Nat) (n : Nat) : sm g (n + 1) = sm g n + g n := rfl
theorem sm_z (g : Nat → Nat) : sm g 0 = 0 := rfl
theorem sm_cg {f g : Nat → Nat} : ∀ n, (∀ i, i < n → f i = g i) → sm f n = sm g n
  | 0, _ => rfl
  | n + 1, h => by rw [sm_s, sm_s, sm_cg n (fun i hi => h i (by omega)), h n (by omega)]
theorem sm_n {g : Nat → Nat} : ∀ n, (∀ i, i < n → g i = 0) → sm g n = 0
  | 0, _ => rfl
  | n + 1, h => by rw [sm_s, sm_n n (fun i hi => h i (by omega)), h n (by omega)]
theorem sm_app (g : Nat → Nat) (a : Nat) : ∀ b, sm g (a + b) = sm g a + sm (fun j => g (a + j)) b
  | 0 => rfl
  | b + 1 => by
    show sm g (a + b) + g (a + b) = _
    rw [sm_app g a b, sm_s]
    omega
theorem sm_mul (x : Nat) (g : Nat → Nat) : ∀ n, x * sm g n = sm (fun i => x * g i) n
  | 0 => rfl
  | n + 1 => by rw [sm_s, sm_s, Nat.mul_add, sm_mul x g n]
theorem sm_one {f g : Nat → Nat} {k e : Nat} : ∀ n, k < n → (∀ i, i < n → i ≠ k → f i = g i) → f k = g k + e → sm f n = sm g n + e
  | 0, h, _, _ => absurd h (Nat.not_lt_zero _)
  | n + 1, h, h1, h2 => by
    rw [sm_s, sm_s]
    by_cases c : k = n
    · subst c
      rw [sm_cg k (fun i hi => h1 i (by omega) (by omega)), h2]
      omega
    · rw [sm_one n (by omega) (fun i hi hn => h1 i (by omega) hn) h2, h1 n (by omega) (by omega)]
      omega
theorem sm_if {p : Prop} [Decidable p] (g : Nat → Nat) (n : Nat) : sm (fun i => if p then g i else 0) n = if p then sm g n else 0 := by
  by_cases c : p
  · rw [if_pos c]; exact sm_cg n (fun i _ => if_pos c)
  · rw [if_neg c]; exact sm_n n (fun i _ => if_neg c)
def grt : Nat := 1000000000000001
def sv (x : Nat) : Int64 := Int64.ofNat (min x grt)
theorem sv_in (x : Nat) : (sv x).toInt = (min x grt : Nat) := by
  unfold sv
  exact Int64.toInt_ofNat_of_lt (by unfold grt; omega)
theorem sv_1 : sv 1 = 1 := rfl
theorem sv_00 : sv 0 = 0 := rfl
theorem sv_0 (x : Nat) : (sv x = 0) = (x = 0) := by
  rw [← Int64.toInt_inj, sv_in, show (0 : Int64).toInt = 0 from rfl]
  unfold grt
  exact propext ⟨fun h => by omega, fun h => by omega⟩
theorem sv_sum (x y : Nat) : (sv x + sv y).toInt = (min x grt : Nat) + (min y grt : Nat) := by
  have h : sv x + sv y = Int64.ofNat (min x grt + min y grt) := by
    unfold sv
    exact (Int64.ofNat_add _ _).symm
  rw [h, Int64.toInt_ofNat_of_lt (by unfold grt; omega)]
  omega
theorem sv_min (x y : Nat) : (if sv x + sv y < 1000000000000001 then sv x + sv y else 1000000000000001) = sv (x + y) := by
  have h0 : (sv x + sv y < 1000000000000001) = (((min x grt : Nat) : Int) + (min y grt : Nat) < 1000000000000001) := by
    rw [Int64.lt_iff_toInt_lt, sv_sum]
    rfl
  by_cases c : sv x + sv y < 1000000000000001
  · rw [if_pos c]
    rw [h0] at c
    apply Int64.toInt_inj.mp
    rw [sv_sum, sv_in]
    unfold grt at *
    omega
  · rw [if_neg c]
    rw [h0] at c
    apply Int64.toInt_inj.mp
    rw [sv_in, show (1000000000000001 : Int64).toInt = 1000000000000001 from rfl]
    unfold grt at *
    omega
theorem sv_le (x y : Nat) : (sv x + sv y ≤ 1000000000000000) = (x + y ≤ 1000000000000000) := by
  rw [Int64.le_iff_toInt_le, sv_sum, show (1000000000000000 : Int64).toInt = 1000000000000000 from rfl]
  unfold grt
  exact propext ⟨fun h => by omega, fun h => by omega⟩
theorem sv_le1 (x : Nat) : (sv x ≤ 1000000000000000) = (x ≤ 1000000000000000) := by
  rw [Int64.le_iff_toInt_le, sv_in, show (1000000000000000 : Int64).toInt = 1000000000000000 from rfl]
  unfold grt
  exact propext ⟨fun h => by omega, fun h => by omega⟩
theorem sv_small {x y : Nat} (h : x + y ≤ 1000000000000000) : sv x + sv y = sv (x + y) := by
  apply Int64.toInt_inj.mp
  rw [sv_sum, sv_in]
  unfold grt
  omega
theorem sv_big {x : Nat} (h : ¬ x ≤ 1000000000000000) : sv x = 1000000000000001 := by
  apply Int64.toInt_inj.mp
  rw [sv_in, show (1000000000000001 : Int64).toInt = 1000000000000001 from rfl]
  unfold grt
  omega
theorem n_or (a b : Nat) : Int32.ofNat a ||| Int32.ofNat b = Int32.ofNat (a ||| b) := by
  apply Int32.toBitVec_inj.mp
  show BitVec.ofNat 32 a ||| BitVec.ofNat 32 b = BitVec.ofNat 32 (a ||| b)
  apply BitVec.eq_of_getLsbD_eq
  intro i hi
  rw [BitVec.getLsbD_or, BitVec.getLsbD_ofNat, BitVec.getLsbD_ofNat, BitVec.getLsbD_ofNat, Nat.testBit_or, decide_eq_true hi]
  simp
theorem n_and (a b : Nat) : Int32.ofNat a &&& Int32.ofNat b = Int32.ofNat (a &&& b) := by
  apply Int32.toBitVec_inj.mp
  show BitVec.ofNat 32 a &&& BitVec.ofNat 32 b = BitVec.ofNat 32 (a &&& b)
  apply BitVec.eq_of_getLsbD_eq
  intro i hi
  rw [BitVec.getLsbD_and, BitVec.getLsbD_ofNat, BitVec.getLsbD_ofNat, BitVec.getLsbD_ofNat, Nat.testBit_and, decide_eq_true hi]
  simp
theorem n_and1 (a : Nat) : Int32.ofNat a &&& 1 = Int32.ofNat (a % 2) := by
  have h := n_and a 1
  rw [Nat.and_one_is_mod] at h
  exact h
theorem n_sar {v c : Nat} (hv : v < 2147483648) (hc : c < 32) : Int32.ofNat v >>> (Int32.ofNat c &&& 31) = Int32.ofNat (v / 2 ^ c) := by
  have h1 : ∀ c : Fin 32, ((Int32.ofNat c.val &&& 31).toBitVec.smod 32) = BitVec.ofNat 32 c.val := by decide
  have h2 : v / 2 ^ c ≤ v := Nat.div_le_self _ _
  apply Int32.toInt_inj.mp
  rw [i_in (by omega)]
  show (Int32.ofNat v >>> (Int32.ofNat c &&& 31)).toBitVec.toInt = _
  rw [Int32.toBitVec_shiftRight, h1 ⟨c, hc⟩]
  show ((Int32.ofNat v).toBitVec.sshiftRight (BitVec.ofNat 32 c).toNat).toInt = _
  rw [BitVec.toInt_sshiftRight, Int.shiftRight_eq_div_pow]
  show (Int32.ofNat v).toInt / _ = _
  rw [i_in hv, BitVec.toNat_ofNat, Nat.mod_eq_of_lt (by omega)]
  simp
theorem n_sh1 : ∀ c : Fin 31, (1 : Int32) <<< (Int32.ofNat c.val &&& 31) = Int32.ofNat (2 ^ c.val) := by decide
theorem n_shl {c : Nat} (h : c < 31) : (1 : Int32) <<< (Int32.ofNat c &&& 31) = Int32.ofNat (2 ^ c) := n_sh1 ⟨c, h⟩
theorem n_mul (a b : Nat) : Int32.ofNat a * Int32.ofNat b = Int32.ofNat (a * b) := (Int32.ofNat_mul a b).symm
theorem n_8m (a : Nat) : (8 : Int32) * Int32.ofNat a = Int32.ofNat (8 * a) := (Int32.ofNat_mul 8 a).symm
theorem n_4m (a : Nat) : (4 : Int32) * Int32.ofNat a = Int32.ofNat (4 * a) := (Int32.ofNat_mul 4 a).symm
theorem n_m32 (a : Nat) : Int32.ofNat a * 32 = Int32.ofNat (a * 32) := (Int32.ofNat_mul a 32).symm
theorem n_or_lt {a b n : Nat} (ha : a < 2 ^ n) (hb : b < 2 ^ n) : a ||| b < 2 ^ n := Nat.or_lt_two_pow ha hb
theorem n_bit (x i : Nat) : x.testBit i = decide (x / 2 ^ i % 2 = 1) := Nat.testBit_eq_decide_div_mod_eq
theorem n_lt {x n : Nat} (h : ∀ i, n ≤ i → x.testBit i = false) : x < 2 ^ n := by
  rcases Nat.lt_or_ge x (2 ^ n) with h1 | h1
  · exact h1
  · obtain ⟨i, a, b⟩ : ∃ i, n ≤ i ∧ x.testBit i = true := by
      first | exact Nat.exists_ge_and_testBit_of_ge_two_pow h1 | exact Nat.ge_two_pow_implies_high_bit_true h1
    rw [h i a] at b
    exact absurd b (by decide)
theorem n_mp (x n i : Nat) : (x * 2 ^ n).testBit i = (decide (n ≤ i) && x.testBit (i - n)) := by
  rw [Nat.mul_comm]
  exact Nat.testBit_two_pow_mul
theorem n_dp (x n i : Nat) : (x / 2 ^ n).testBit i = x.testBit (n + i) := by
  rw [Nat.testBit_div_two_pow]
  first | rfl | rw [Nat.add_comm]
theorem n_pw (n i : Nat) : (2 ^ n).testBit i = decide (n = i) := Nat.testBit_two_pow
