/-! what a form covers of a strip -/
def fyk (f : Int64) : Nat → Nat → Nat
  | y, 0 => y
  | y, n + 1 => if bt f (8 * y) = true then y else fyk f (y + 1) n
theorem fyk_ok (f : Int64) : ∀ n y, (∃ z, y ≤ z ∧ z < y + n ∧ bt f (8 * z) = true) → y ≤ fyk f y n ∧ fyk f y n < y + n ∧ bt f (8 * fyk f y n) = true ∧ ∀ z, y ≤ z → z < fyk f y n → bt f (8 * z) = false
  | 0, y, h => by obtain ⟨z, a, b, _⟩ := h; omega
  | n + 1, y, h => by
    rw [fyk]
    by_cases c : bt f (8 * y) = true
    · rw [if_pos c]
      exact ⟨Nat.le_refl _, by omega, c, fun z a b => by omega⟩
    · rw [if_neg c]
      obtain ⟨z, a, b, e⟩ := h
      have hzy : z ≠ y := fun q => c (by rw [← q]; exact e)
      have ih := fyk_ok f n (y + 1) ⟨z, by omega, by omega, e⟩
      refine ⟨by omega, by omega, ih.2.2.1, fun t a1 b1 => ?_⟩
      by_cases q : t = y
      · rw [q]
        cases hb : bt f (8 * y) with
        | false => rfl
        | true => exact absurd hb c
      · exact ih.2.2.2 t (by omega) b1
def fy (f : Int64) : Nat := fyk f 0 8
theorem fy_ok {f : Int64} (h : Nm f) : fy f < 8 ∧ bt f (8 * fy f) = true ∧ ∀ z, z < fy f → bt f (8 * z) = false := by
  obtain ⟨y, hy, hb⟩ := h.2.1
  have h1 := fyk_ok f 8 0 ⟨y, by omega, by omega, hb⟩
  exact ⟨by have := h1.2.1; unfold fy; omega, h1.2.2.1, fun z hz => h1.2.2.2 z (Nat.zero_le _) hz⟩
def msk (w : Nat) (f : Int64) : Nat → Nat
  | 0 => 0
  | k + 1 => if bt f k = true then msk w f k ||| 2 ^ (w * (k % 8) + k / 8 - fy f) else msk w f k
def cvk (w t : Nat) (f : Int64) : Nat → Nat
  | 0 => 0
  | i + 1 => if bt f (8 * (i % 4) + i / 4) = true then cvk w t f i ||| 2 ^ (w * (i / 4) + t + i % 4) else cvk w t f i
theorem msk_s (w : Nat) (f : Int64) (k : Nat) : msk w f (k + 1) = if bt f k = true then msk w f k ||| 2 ^ (w * (k % 8) + k / 8 - fy f) else msk w f k := rfl
theorem cvk_s (w t : Nat) (f : Int64) (i : Nat) : cvk w t f (i + 1) = if bt f (8 * (i % 4) + i / 4) = true then cvk w t f i ||| 2 ^ (w * (i / 4) + t + i % 4) else cvk w t f i := rfl
theorem msk_bit (w : Nat) (f : Int64) (i : Nat) : ∀ k, (msk w f k).testBit i = true ↔ ∃ j, j < k ∧ bt f j = true ∧ w * (j % 8) + j / 8 - fy f = i
  | 0 => by
    rw [msk]
    exact ⟨fun h => by simp at h, fun h => by obtain ⟨j, a, _⟩ := h; omega⟩
  | k + 1 => by
    rw [msk_s]
    by_cases c : bt f k = true
    · rw [if_pos c, Nat.testBit_or, Bool.or_eq_true, msk_bit w f i k, n_pw, decide_eq_true_eq]
      constructor
      · rintro (⟨j, a, b, e⟩ | e)
        · exact ⟨j, by omega, b, e⟩
        · exact ⟨k, by omega, c, e⟩
      · rintro ⟨j, a, b, e⟩
        by_cases q : j = k
        · rw [q] at e; exact Or.inr e
        · exact Or.inl ⟨j, by omega, b, e⟩
    · rw [if_neg c, msk_bit w f i k]
      constructor
      · rintro ⟨j, a, b, e⟩
        exact ⟨j, by omega, b, e⟩
      · rintro ⟨j, a, b, e⟩
        by_cases q : j = k
        · rw [q] at b; exact absurd b c
        · exact ⟨j, by omega, b, e⟩
theorem cvk_bit (w t : Nat) (f : Int64) (i : Nat) : ∀ k, (cvk w t f k).testBit i = true ↔ ∃ j, j < k ∧ bt f (8 * (j % 4) + j / 4) = true ∧ w * (j / 4) + t + j % 4 = i
  | 0 => by
    rw [cvk]
    exact ⟨fun h => by simp at h, fun h => by obtain ⟨j, a, _⟩ := h; omega⟩
  | k + 1 => by
    rw [cvk_s]
    by_cases c : bt f (8 * (k % 4) + k / 4) = true
    · rw [if_pos c, Nat.testBit_or, Bool.or_eq_true, cvk_bit w t f i k, n_pw, decide_eq_true_eq]
      constructor
      · rintro (⟨j, a, b, e⟩ | e)
        · exact ⟨j, by omega, b, e⟩
        · exact ⟨k, by omega, c, e⟩
      · rintro ⟨j, a, b, e⟩
        by_cases q : j = k
        · rw [q] at e; exact Or.inr e
        · exact Or.inl ⟨j, by omega, b, e⟩
    · rw [if_neg c, cvk_bit w t f i k]
      constructor
      · rintro ⟨j, a, b, e⟩
        exact ⟨j, by omega, b, e⟩
      · rintro ⟨j, a, b, e⟩
        by_cases q : j = k
        · rw [q] at b; exact absurd b c
        · exact ⟨j, by omega, b, e⟩
theorem wx_0 (w x : Nat) : (x = 0 → w * x = 0) ∧ (1 ≤ x → w ≤ w * x) := ⟨fun e => by rw [e]; exact Nat.mul_zero _, fun e => Nat.le_mul_of_pos_right w e⟩
/-- fits: wide and high 4 at most -/
def Sm (f : Int64) : Prop := Nm f ∧ wd f 64 ≤ 4 ∧ hg f 64 ≤ 4
theorem fy_hg {f : Int64} (h : Nm f) : fy f < hg f 64 := by
  have h1 := hg_lt (fy_ok h).2.1
  omega
theorem cv_ms {w row : Nat} {f : Int64} (hf : Sm f) (hr : row < w) (hy : fy f ≤ row) : cvk w (row - fy f) f 16 = msk w f 64 * 2 ^ row := by
  have ho := fy_ok hf.1
  apply Nat.eq_of_testBit_eq
  intro i
  rw [Bool.eq_iff_iff, cvk_bit, n_mp, Bool.and_eq_true, decide_eq_true_eq, msk_bit]
  constructor
  · rintro ⟨j, a, b, e⟩
    have hx := wx_0 w (j / 4)
    have h0 : j / 4 = 0 → fy f ≤ j % 4 := fun q => by
      rcases Nat.lt_or_ge (j % 4) (fy f) with h1 | h1
      · have h2 := ho.2.2 _ h1
        rw [q, Nat.add_zero, h2] at b
        exact absurd b (by decide)
      · exact h1
    have e1 : (8 * (j % 4) + j / 4) % 8 = j / 4 := by omega
    have e2 : (8 * (j % 4) + j / 4) / 8 = j % 4 := by omega
    refine ⟨?_, 8 * (j % 4) + j / 4, by omega, b, ?_⟩
    · generalize w * (j / 4) = m at *
      omega
    · rw [e1, e2]
      generalize w * (j / 4) = m at *
      omega
  · rintro ⟨hi, k, a, b, e⟩
    have h1 := wd_lt b
    have h2 := hg_lt b
    have h3 := hf.2.1
    have h4 := hf.2.2
    have hx := wx_0 w (k % 8)
    have h0 : k % 8 = 0 → fy f ≤ k / 8 := fun q => by
      rcases Nat.lt_or_ge (k / 8) (fy f) with h1 | h1
      · have h2 := ho.2.2 _ h1
        rw [show 8 * (k / 8) = k by omega, b] at h2
        exact absurd h2 (by decide)
      · exact h1
    have e1 : (4 * (k % 8) + k / 8) / 4 = k % 8 := by omega
    have e2 : (4 * (k % 8) + k / 8) % 4 = k / 8 := by omega
    refine ⟨4 * (k % 8) + k / 8, by omega, ?_, ?_⟩
    · rw [e1, e2, show 8 * (k / 8) + k % 8 = k by omega]
      exact b
    · rw [e1, e2]
      generalize w * (k % 8) = m at *
      omega
def vld (w row : Nat) (f : Int64) : Bool := decide (fy f ≤ row ∧ row - fy f + hg f 64 ≤ w)
def cvv (w row : Nat) (f : Int64) : Nat := if vld w row f = true then cvk w (row - fy f) f 16 else 0
theorem cvv_y {w row : Nat} {f : Int64} (hf : Sm f) (hr : row < w) (h : vld w row f = true) : cvv w row f = msk w f 64 * 2 ^ row := by
  rw [cvv, if_pos h]
  exact cv_ms hf hr (of_decide_eq_true h).1
/-- the bits of a form that fits -/
theorem ms_bit {w row : Nat} {f : Int64} (hf : Sm f) (hr : row < w) (h : vld w row f = true) {i : Nat} (hb : (msk w f 64 * 2 ^ row).testBit i = true) : i < w * wd f 64 ∧ row ≤ i := by
  have h0 := of_decide_eq_true h
  have hb2 := hb
  rw [n_mp, Bool.and_eq_true, decide_eq_true_eq] at hb2
  rw [← cv_ms hf hr h0.1, cvk_bit] at hb
  obtain ⟨j, a, b, e⟩ := hb
  refine ⟨?_, hb2.1⟩
  have h1 := wd_lt b
  have h2 := hg_lt b
  have h3 : w * (j / 4 + 1) ≤ w * wd f 64 := Nat.mul_le_mul_left _ (by omega)
  rw [Nat.mul_add, Nat.mul_one] at h3
  generalize w * (j / 4) = m at *
  generalize w * wd f 64 = m2 at *
  omega
theorem ms_up {w row L : Nat} {f : Int64} (hf : Sm f) (hr : row < w) (h : vld w row f = true) (hL : wd f 64 ≤ L) : msk w f 64 * 2 ^ row < 2 ^ (w * L) := by
  apply n_lt
  intro i hi
  cases hb : (msk w f 64 * 2 ^ row).testBit i with
  | false => rfl
  | true =>
    have h1 := (ms_bit hf hr h hb).1
    have h2 : w * wd f 64 ≤ w * L := Nat.mul_le_mul_left _ hL
    omega
theorem ms_lo {w row L : Nat} {f : Int64} (hf : Sm f) (hr : row < w) (h : vld w row f = true) (hL : ¬ wd f 64 ≤ L) : ¬ msk w f 64 * 2 ^ row < 2 ^ (w * L) := by
  have h0 := of_decide_eq_true h
  obtain ⟨k, hk, e⟩ := wd_at (wd_pos (nm_ne hf.1))
  have h1 := wd_lt hk
  have h2 := hg_lt hk
  have h3 := hf.2.1
  have h4 := hf.2.2
  have hb : (msk w f 64 * 2 ^ row).testBit (w * (k % 8) + (row - fy f) + k / 8) = true := by
    rw [← cv_ms hf hr h0.1, cvk_bit]
    refine ⟨4 * (k % 8) + k / 8, by omega, ?_, ?_⟩
    · rw [show (4 * (k % 8) + k / 8) % 4 = k / 8 by omega, show (4 * (k % 8) + k / 8) / 4 = k % 8 by omega, show 8 * (k / 8) + k % 8 = k by omega]
      exact hk
    · rw [show (4 * (k % 8) + k / 8) % 4 = k / 8 by omega, show (4 * (k % 8) + k / 8) / 4 = k % 8 by omega]
  have h5 := Nat.ge_two_pow_of_testBit hb
  have h6 : w * L ≤ w * (k % 8) := Nat.mul_le_mul_left _ (by omega)
  have h7 : 2 ^ (w * L) ≤ 2 ^ (w * (k % 8) + (row - fy f) + k / 8) := Nat.pow_le_pow_right (by decide) (by omega)
  omega
theorem ms_ne {w row : Nat} {f : Int64} (hf : Sm f) (hr : row < w) (h : vld w row f = true) : msk w f 64 * 2 ^ row ≠ 0 := by
  have h1 := ms_lo (L := 0) hf hr h (by have := wd_pos (nm_ne hf.1); omega)
  rw [Nat.mul_zero] at h1
  omega
theorem cvv_lt {w row : Nat} {f : Int64} (hf : Sm f) (hr : row < w) : cvv w row f < 2 ^ (4 * w) := by
  by_cases h : vld w row f = true
  · rw [cvv_y hf hr h, Nat.mul_comm 4 w]
    exact ms_up hf hr h hf.2.1
  · rw [cvv, if_neg h]
    exact Nat.pow_pos (by decide)
theorem z_bit {x : Nat} : x = 0 ↔ ∀ i, x.testBit i = false := by
  constructor
  · intro h i
    rw [h]
    simp
  · intro h
    apply Nat.eq_of_testBit_eq
    intro i
    rw [h i]
    simp
theorem n_ands (m c r : Nat) : (m * 2 ^ r) &&& c = 0 ↔ m &&& (c / 2 ^ r) = 0 := by
  rw [z_bit, z_bit]
  constructor
  · intro h i
    have h1 := h (r + i)
    rw [Nat.testBit_and, n_mp, show r + i - r = i by omega, decide_eq_true (by omega), Bool.true_and] at h1
    rw [Nat.testBit_and, n_dp]
    exact h1
  · intro h i
    rw [Nat.testBit_and, n_mp]
    by_cases c1 : r ≤ i
    · have h1 := h (i - r)
      rw [Nat.testBit_and, n_dp, show r + (i - r) = i by omega] at h1
      rw [decide_eq_true c1, Bool.true_and]
      exact h1
    · rw [decide_eq_false c1, Bool.false_and, Bool.false_and]
theorem n_ors (m c r : Nat) : (c ||| m * 2 ^ r) / 2 ^ (r + 1) = (c / 2 ^ r ||| m) / 2 := by
  apply Nat.eq_of_testBit_eq
  intro i
  rw [n_dp, Nat.testBit_or, n_mp]
  have h : (c / 2 ^ r ||| m) / 2 = (c / 2 ^ r ||| m) / 2 ^ 1 := rfl
  rw [h, n_dp, Nat.testBit_or, n_dp, decide_eq_true (by omega : r ≤ r + 1 + i), Bool.true_and, show r + 1 + i - r = 1 + i by omega, show r + 1 + i = r + (1 + i) by omega]
/-! the choices one behind the other -/
def cfo (HS : Nat → Int64) : Nat → Nat → Int64
  | 0, _ => 0
  | K + 1, c => if c < off HS K then cfo HS K c else ff HS K (c - off HS K)
theorem off_s (HS : Nat → Int64) (K : Nat) : off HS (K + 1) = off HS K + nfo HS K := rfl
theorem cfo_at {HS : Nat → Int64} {i f : Nat} (hf : f < nfo HS i) : ∀ K, i < K → cfo HS K (off HS i + f) = ff HS i f
  | 0, h => absurd h (Nat.not_lt_zero _)
  | K + 1, h => by
    rw [cfo]
    by_cases c : i = K
    · rw [c, if_neg (by omega), show off HS K + f - off HS K = f by omega]
    · have h1 := off_lt (HS := HS) (show i < K by omega)
      rw [if_pos (by omega)]
      exact cfo_at hf K (by omega)
theorem sm_off (HS : Nat → Int64) (g : Int64 → Nat) : ∀ K, sm (fun c => g (cfo HS K c)) (off HS K) = sm (fun i => sm (fun f => g (ff HS i f)) (nfo HS i)) K
  | 0 => by rw [show off HS 0 = 0 from rfl, sm_z, sm_z]
  | K + 1 => by
    have e1 : sm (fun c => g (cfo HS (K + 1) c)) (off HS K) = sm (fun c => g (cfo HS K c)) (off HS K) := sm_cg _ (fun c hc => by rw [cfo, if_pos hc])
    have e2 : sm (fun j => g (cfo HS (K + 1) (off HS K + j))) (nfo HS K) = sm (fun f => g (ff HS K f)) (nfo HS K) := sm_cg _ (fun j hj => by rw [cfo, if_neg (by omega), show off HS K + j - off HS K = j by omega])
    rw [off_s, sm_app, e1, e2, sm_off HS g K, sm_s]
/-! how many ways there are, told from behind: by columns as the class goes, by squares as the model goes -/
def wfl (cv : Nat → Nat → Nat) (C w : Nat) (V : Nat → Nat) : Nat → Nat → Nat → Nat
  | 0, _, c => V (c / 2 ^ w)
  | j + 1, r, c => if c / 2 ^ r % 2 = 1 then wfl cv C w V j (r + 1) c else sm (fun i => if cv r i ≠ 0 ∧ cv r i &&& c = 0 then wfl cv C w V j (r + 1) (c ||| cv r i) else 0) C
theorem wfl_0 (cv : Nat → Nat → Nat) (C w : Nat) (V : Nat → Nat) (r c : Nat) : wfl cv C w V 0 r c = V (c / 2 ^ w) := rfl
theorem wfl_s (cv : Nat → Nat → Nat) (C w : Nat) (V : Nat → Nat) (j r c : Nat) : wfl cv C w V (j + 1) r c = if c / 2 ^ r % 2 = 1 then wfl cv C w V j (r + 1) c else sm (fun i => if cv r i ≠ 0 ∧ cv r i &&& c = 0 then wfl cv C w V j (r + 1) (c ||| cv r i) else 0) C := rfl
def scV (cv : Nat → Nat → Nat) (C w : Nat) : Nat → Nat → Nat
  | 0, f => if f = 0 then 1 else 0
  | k + 1, f => wfl cv C w (scV cv C w k) w 0 f
def trm (w row left : Nat) (V : Nat → Nat) (k : Nat) (f : Int64) : Nat := if (vld w row f = true ∧ wd f 64 ≤ left) ∧ msk w f 64 &&& k = 0 then V ((k ||| msk w f 64) / 2) else 0
def stv (w row left : Nat) (HS : Nat → Int64) (K : Nat) (V : Nat → Nat) (k : Nat) : Nat := if k % 2 = 1 then V (k / 2) else sm (fun i => sm (fun f => trm w row left V k (ff HS i f)) (nfo HS i)) K
def smV (w n : Nat) (HS : Nat → Int64) (K : Nat) : Nat → Nat → Nat
  | 0, k => if k = 0 then 1 else 0
  | r + 1, k => stv w ((w * n - (r + 1)) % w) (n - (w * n - (r + 1)) / w) HS K (smV w n HS K r) k
theorem smV_s (w n : Nat) (HS : Nat → Int64) (K r k : Nat) : smV w n HS K (r + 1) k = stv w ((w * n - (r + 1)) % w) (n - (w * n - (r + 1)) / w) HS K (smV w n HS K r) k := rfl
def scv (w : Nat) (HS : Nat → Int64) (K : Nat) (r i : Nat) : Nat := cvv w r (cfo HS K i)
theorem trm_eq {w r L c : Nat} {f : Int64} (hf : Sm f) (hr : r < w) (S : Nat → Nat) : (if cvv w r f ≠ 0 ∧ cvv w r f &&& c = 0 then (if c ||| cvv w r f < 2 ^ (w * L) then S ((c ||| cvv w r f) / 2 ^ (r + 1)) else 0) else 0) = if c < 2 ^ (w * L) then trm w r L S (c / 2 ^ r) f else 0 := by
  by_cases hv : vld w r f = true
  rotate_left
  · rw [if_neg (show ¬ (cvv w r f ≠ 0 ∧ cvv w r f &&& c = 0) from fun z => z.1 (by rw [cvv, if_neg hv])), trm, if_neg (show ¬ ((vld w r f = true ∧ wd f 64 ≤ L) ∧ msk w f 64 &&& (c / 2 ^ r) = 0) from fun z => hv z.1.1)]
    split <;> rfl
  rw [cvv_y hf hr hv, trm]
  have hne := ms_ne hf hr hv
  have hle : c ≤ c ||| msk w f 64 * 2 ^ r := Nat.left_le_or
  have hle2 : msk w f 64 * 2 ^ r ≤ c ||| msk w f 64 * 2 ^ r := Nat.right_le_or
  by_cases hc : c < 2 ^ (w * L)
  rotate_left
  · rw [if_neg hc, if_neg (show ¬ c ||| msk w f 64 * 2 ^ r < 2 ^ (w * L) by omega)]
    split <;> rfl
  rw [if_pos hc]
  by_cases hL : wd f 64 ≤ L
  rotate_left
  · have h1 := ms_lo hf hr hv hL
    rw [if_neg (show ¬ c ||| msk w f 64 * 2 ^ r < 2 ^ (w * L) by omega), if_neg (show ¬ ((vld w r f = true ∧ wd f 64 ≤ L) ∧ msk w f 64 &&& (c / 2 ^ r) = 0) from fun z => hL z.1.2)]
    split <;> rfl
  rw [if_pos (n_or_lt hc (ms_up hf hr hv hL)), n_ors]
  by_cases ha : msk w f 64 &&& (c / 2 ^ r) = 0
  · rw [if_pos ⟨hne, (n_ands _ _ _).mpr ha⟩, if_pos ⟨⟨hv, hL⟩, ha⟩]
  · rw [if_neg (fun z => ha ((n_ands _ _ _).mp z.2)), if_neg (fun z => ha z.2)]
theorem wfl_eq {w n K L : Nat} {HS : Nat → Int64} (hF : ∀ i, i < K → ∀ f, f < nfo HS i → Sm (ff HS i f)) (hL : L + 1 ≤ n) (ih : ∀ c, scV (scv w HS K) (off HS K) w L c = if c < 2 ^ (w * L) then smV w n HS K (w * L) c else 0) :
    ∀ j r c, r + j = w → wfl (scv w HS K) (off HS K) w (scV (scv w HS K) (off HS K) w L) j r c = if c < 2 ^ (w * (L + 1)) then smV w n HS K (w * L + j) (c / 2 ^ r) else 0
  | 0, r, c, hr => by
    obtain rfl : r = w := by omega
    have h1 : 2 ^ (r * (L + 1)) = 2 ^ (r * L) * 2 ^ r := by rw [Nat.mul_add, Nat.mul_one, Nat.pow_add]
    have h2 : c / 2 ^ r < 2 ^ (r * L) ↔ c < 2 ^ (r * L) * 2 ^ r := Nat.div_lt_iff_lt_mul (Nat.pow_pos (by decide))
    rw [wfl_0, ih, h1, Nat.add_zero]
    by_cases hc : c < 2 ^ (r * L) * 2 ^ r
    · rw [if_pos hc, if_pos (h2.mpr hc)]
    · rw [if_neg hc, if_neg (fun z => hc (h2.mp z))]
  | j + 1, r, c, hr => by
    have ihj := wfl_eq hF hL ih j (r + 1)
    have hrw : r < w := by omega
    obtain ⟨e, rfl⟩ : ∃ e, n = L + 1 + e := ⟨n - L - 1, by omega⟩
    have h1 : w * (L + 1 + e) - (w * L + j + 1) = w * e + r := by
      rw [Nat.mul_add, Nat.mul_add, Nat.mul_one]
      omega
    have h2 : (w * e + r) % w = r := by rw [Nat.mul_add_mod, Nat.mod_eq_of_lt hrw]
    have h3 : (w * e + r) / w = e := by rw [Nat.mul_add_div (by omega), Nat.div_eq_of_lt hrw, Nat.add_zero]
    rw [wfl_s, show w * L + (j + 1) = w * L + j + 1 by omega, smV_s, h1, h2, h3, show L + 1 + e - e = L + 1 by omega, stv]
    by_cases hp : c / 2 ^ r % 2 = 1
    · rw [if_pos hp, if_pos hp, ihj c (by omega), Nat.pow_succ, Nat.div_div_eq_div_mul]
    rw [if_neg hp, if_neg hp]
    have h4 : sm (fun i => if scv w HS K r i ≠ 0 ∧ scv w HS K r i &&& c = 0 then wfl (scv w HS K) (off HS K) w (scV (scv w HS K) (off HS K) w L) j (r + 1) (c ||| scv w HS K r i) else 0) (off HS K) = sm (fun i => (fun F => if cvv w r F ≠ 0 ∧ cvv w r F &&& c = 0 then (if c ||| cvv w r F < 2 ^ (w * (L + 1)) then smV w (L + 1 + e) HS K (w * L + j) ((c ||| cvv w r F) / 2 ^ (r + 1)) else 0) else 0) (cfo HS K i)) (off HS K) := by
      refine sm_cg _ (fun i _ => ?_)
      dsimp only
      rw [ihj _ (by omega)]
      rfl
    refine (h4.trans (sm_off HS (fun F => if cvv w r F ≠ 0 ∧ cvv w r F &&& c = 0 then (if c ||| cvv w r F < 2 ^ (w * (L + 1)) then smV w (L + 1 + e) HS K (w * L + j) ((c ||| cvv w r F) / 2 ^ (r + 1)) else 0) else 0) K)).trans ?_
    rw [← sm_if]
    refine sm_cg _ (fun i hi => ?_)
    rw [← sm_if]
    refine sm_cg _ (fun f hf => ?_)
    exact trm_eq (hF i hi f hf) hrw _
theorem scV_eq {w n K : Nat} {HS : Nat → Int64} (hF : ∀ i, i < K → ∀ f, f < nfo HS i → Sm (ff HS i f)) : ∀ L, L ≤ n → ∀ c, scV (scv w HS K) (off HS K) w L c = if c < 2 ^ (w * L) then smV w n HS K (w * L) c else 0
  | 0, _, c => by
    rw [scV, Nat.mul_zero, smV]
    by_cases h : c = 0
    · rw [if_pos h, if_pos (by rw [h]; decide)]
    · rw [if_neg h]
      split <;> rfl
  | L + 1, hL, c => by
    rw [scV, wfl_eq hF hL (scV_eq hF L (by omega)) w 0 c (by omega), Nat.pow_zero, Nat.div_one, Nat.mul_add, Nat.mul_one]
theorem scV_0 {w n K : Nat} {HS : Nat → Int64} (hF : ∀ i, i < K → ∀ f, f < nfo HS i → Sm (ff HS i f)) : scV (scv w HS K) (off HS K) w n 0 = smV w n HS K (w * n) 0 := by
  rw [scV_eq hF n (Nat.le_refl _), if_pos (Nat.pow_pos (by decide))]
