/-! the number of bits -/
theorem and_256 (x y : Nat) : x &&& y = 256 * ((x / 256) &&& (y / 256)) + ((x % 256) &&& (y % 256)) := by
  have h1 := @Nat.and_div_two_pow x y 8
  have h2 := @Nat.and_mod_two_pow x y 8
  have h3 := Nat.div_add_mod (x &&& y) 256
  rw [show (2 : Nat) ^ 8 = 256 from rfl] at h1 h2
  rw [h1, h2] at h3
  exact h3.symm
def p8 (b : Nat) : Nat := ((b - (b / 2 &&& 85) &&& 51) + ((b - (b / 2 &&& 85)) / 4 &&& 51) + ((b - (b / 2 &&& 85) &&& 51) + ((b - (b / 2 &&& 85)) / 4 &&& 51)) / 16) &&& 15
def m55 : Nat → Nat
  | 0 => 0
  | j + 1 => 256 * m55 j + 85
def m33 : Nat → Nat
  | 0 => 0
  | j + 1 => 256 * m33 j + 51
def m0f : Nat → Nat
  | 0 => 0
  | j + 1 => 256 * m0f j + 15
def f1 (n M : Nat) : Nat := n - (n / 2 &&& M)
def f2 (n M : Nat) : Nat := (n &&& M) + (n / 4 &&& M)
def f3 (n M : Nat) : Nat := (n + n / 16) &&& M
theorem and_le (a b : Nat) : a &&& b ≤ a := Nat.and_le_left
theorem f1_s (q b M : Nat) (hb : b < 256) : f1 (256 * q + b) (256 * M + 85) = 256 * f1 q M + (b - (b / 2 &&& 85)) := by
  unfold f1
  rw [and_256, show (256 * q + b) / 2 / 256 = q / 2 by omega, show (256 * M + 85) / 256 = M by omega, show (256 * M + 85) % 256 = 85 by omega]
  have h1 : (256 * q + b) / 2 % 256 = 128 * (q % 2) + b / 2 := by omega
  have h2 : ∀ b : Fin 256, ∀ c : Fin 2, (128 * c.val + b.val / 2) &&& 85 = b.val / 2 &&& 85 := by decide +kernel
  rw [h1, h2 ⟨b, hb⟩ ⟨q % 2, by omega⟩]
  have h3 := and_le (q / 2) M
  have h4 := and_le (b / 2) 85
  simp only at *
  omega
theorem f2_s (q b M : Nat) (hb : b < 256) : f2 (256 * q + b) (256 * M + 51) = 256 * f2 q M + ((b &&& 51) + (b / 4 &&& 51)) := by
  unfold f2
  rw [and_256 (256 * q + b), and_256 ((256 * q + b) / 4), show (256 * q + b) / 4 / 256 = q / 4 by omega, show (256 * M + 51) / 256 = M by omega, show (256 * M + 51) % 256 = 51 by omega, show (256 * q + b) / 256 = q by omega, show (256 * q + b) % 256 = b by omega]
  have h1 : (256 * q + b) / 4 % 256 = 64 * (q % 4) + b / 4 := by omega
  have h2 : ∀ b : Fin 256, ∀ c : Fin 4, (64 * c.val + b.val / 4) &&& 51 = b.val / 4 &&& 51 := by decide +kernel
  rw [h1, h2 ⟨b, hb⟩ ⟨q % 4, by omega⟩]
  simp only
  omega
theorem f3_s (q b M : Nat) (hb : b < 69) (hq : q % 16 ≤ 4) : f3 (256 * q + b) (256 * M + 15) = 256 * f3 q M + (b + b / 16 &&& 15) := by
  unfold f3
  have e : 256 * q + b + (256 * q + b) / 16 = 256 * (q + q / 16) + (16 * (q % 16) + b + b / 16) := by omega
  rw [e, and_256, show (256 * (q + q / 16) + (16 * (q % 16) + b + b / 16)) / 256 = q + q / 16 by omega, show (256 * M + 15) / 256 = M by omega, show (256 * M + 15) % 256 = 15 by omega, show (256 * (q + q / 16) + (16 * (q % 16) + b + b / 16)) % 256 = 16 * (q % 16) + b + b / 16 by omega]
  have h2 : ∀ b : Fin 69, ∀ c : Fin 16, (16 * c.val + b.val + b.val / 16) &&& 15 = (b.val + b.val / 16) &&& 15 := by decide +kernel
  rw [h2 ⟨b, hb⟩ ⟨q % 16, by omega⟩]
def F3 (n j : Nat) : Nat := f3 (f2 (f1 n (m55 j)) (m33 j)) (m0f j)
theorem p8_1 : ∀ b : Fin 256, b.val - (b.val / 2 &&& 85) < 256 := by decide +kernel
theorem p8_2 : ∀ b : Fin 256, ((b.val - (b.val / 2 &&& 85)) &&& 51) + ((b.val - (b.val / 2 &&& 85)) / 4 &&& 51) < 69 ∧ (((b.val - (b.val / 2 &&& 85)) &&& 51) + ((b.val - (b.val / 2 &&& 85)) / 4 &&& 51)) % 16 ≤ 4 ∧ p8 b.val ≤ 8 := by decide +kernel
theorem F3_s (j : Nat) : ∀ n, n < 256 ^ j → f2 (f1 n (m55 j)) (m33 j) % 16 ≤ 4 ∧ F3 n j < 256 ^ j ∧ ∀ b, b < 256 → F3 (256 * n + b) (j + 1) = 256 * F3 n j + p8 b := by
  induction j with
  | zero =>
    intro n hn
    have : n = 0 := by simpa using hn
    subst this
    refine ⟨by decide, by decide, fun b hb => ?_⟩
    have h1 : ∀ b : Fin 256, F3 (256 * 0 + b.val) (0 + 1) = 256 * F3 0 0 + p8 b.val := by decide +kernel
    exact h1 ⟨b, hb⟩
  | succ j ih =>
    intro n hn
    rw [Nat.pow_succ] at hn
    have e : n = 256 * (n / 256) + n % 256 := by omega
    have hq := ih (n / 256) (by omega)
    have hb : n % 256 < 256 := by omega
    have k1 := p8_1 ⟨n % 256, hb⟩
    have k2 := p8_2 ⟨n % 256, hb⟩
    have e1 : f2 (f1 n (m55 (j + 1))) (m33 (j + 1)) = 256 * f2 (f1 (n / 256) (m55 j)) (m33 j) + (((n % 256 - (n % 256 / 2 &&& 85)) &&& 51) + ((n % 256 - (n % 256 / 2 &&& 85)) / 4 &&& 51)) := by
      rw [m55, m33]
      conv => lhs; rw [e]
      rw [f1_s _ _ _ hb, f2_s _ _ _ k1]
    have h1 : f2 (f1 n (m55 (j + 1))) (m33 (j + 1)) % 16 ≤ 4 := by
      rw [e1]
      have := k2.2.1
      simp only at this
      omega
    have h0 : F3 n (j + 1) = 256 * F3 (n / 256) j + p8 (n % 256) := by
      have := hq.2.2 (n % 256) hb
      rw [← e] at this
      exact this
    refine ⟨h1, ?_, fun b hb2 => ?_⟩
    · have h3 := hq.2.1
      have h4 := k2.2.2
      rw [h0, Nat.pow_succ]
      simp only at h4
      omega
    · have k3 := p8_1 ⟨b, hb2⟩
      have k4 := (p8_2 ⟨b, hb2⟩).1
      unfold F3
      rw [show m55 (j + 1 + 1) = 256 * m55 (j + 1) + 85 from rfl, show m33 (j + 1 + 1) = 256 * m33 (j + 1) + 51 from rfl, show m0f (j + 1 + 1) = 256 * m0f (j + 1) + 15 from rfl]
      rw [f1_s _ _ _ hb2, f2_s _ _ _ k3, f3_s _ _ _ k4 h1]
      rfl
