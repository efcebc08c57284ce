/-! what the model puts together is what the class does -/
def jn (s o : Int64) (X Y : Nat) : Int64 := if cnt (tg s o X Y) 64 ≤ 8 ∧ hng (tg s o X Y) = true then tg s o X Y else 0
theorem cnt_kth (s : Int64) : ∀ n i, i < cnt s n → ∃ k, k < n ∧ bt s k = true ∧ cnt s k = i
  | 0, i, h => absurd h (Nat.not_lt_zero _)
  | n + 1, i, h => by
    rw [cnt_s s n] at h
    by_cases h1 : i < cnt s n
    · obtain ⟨k, a, b⟩ := cnt_kth s n i h1
      exact ⟨k, by omega, b⟩
    · by_cases h2 : bt s n = true
      · rw [if_pos h2] at h
        exact ⟨n, by omega, h2, by omega⟩
      · rw [if_neg h2] at h
        omega
theorem cnt_js {s : Int64} {m : Nat} (hm : m < 64) (h : ∀ k, bt s k = true → k + m < 64) : cnt (mj_js s (Int32.ofNat m)) 64 = cnt s 64 := by
  rw [cnt_ct, cnt_ct]
  have h3 := ct_shift (bt (mj_js s (Int32.ofNat m))) m (64 - m)
  have h4 : ct (bt (mj_js s (Int32.ofNat m))) m = 0 := ct_zero (fun k hk => by rw [js_bt s hm (by omega), decide_eq_false (by omega : ¬ m ≤ k)]; rfl)
  have h5 : ct (fun k => bt (mj_js s (Int32.ofNat m)) (k + m)) (64 - m) = ct (bt s) (64 - m) := by
    apply ct_cong
    intro k hk
    rw [js_bt s hm (by omega), decide_eq_true (by omega : m ≤ k + m), show k + m - m = k by omega]
    rfl
  have h6 := ct_none (p := bt s) (a := 64 - m) m (fun k h7 h8 => by
    cases hb : bt s k with
    | false => rfl
    | true => have := h k hb; omega)
  rw [show 64 - m + m = 64 by omega] at h3 h6
  rw [h4, h5] at h3
  omega
theorem ct_or (p q : Nat → Bool) : ∀ n, ct (fun k => p k || q k) n + ct (fun k => p k && q k) n = ct p n + ct q n
  | 0 => rfl
  | n + 1 => by
    have h := ct_or p q n
    rw [ct, ct, ct, ct]
    cases p n <;> cases q n <;> simp <;> omega
theorem cnt_or (a b : Int64) : cnt (a ||| b) 64 + cnt (a &&& b) 64 = cnt a 64 + cnt b 64 := by
  have h := ct_or (bt a) (bt b) 64
  rw [← ct_cong (p := bt (a ||| b)) 64 (fun k _ => bt_or a b k), ← ct_cong (p := bt (a &&& b)) 64 (fun k _ => bt_and a b k)] at h
  rw [cnt_ct, cnt_ct, cnt_ct, cnt_ct]
  exact h
theorem cnt_pos {s : Int64} (h : s ≠ 0) : 0 < cnt s 64 := by
  obtain ⟨k, hk, hb⟩ := bt_any h
  have h1 := cnt_mon s (show k + 1 ≤ 64 by omega)
  rw [cnt_s s k, if_pos hb] at h1
  omega
/-- the points that the model placed -/
def PL (h : mj_H) (s o : Int64) (X Y : Nat) : Prop := mj_gI h 34 7 = Int32.ofNat (cnt s 64 + cnt o 64) ∧ (∀ k, bt s k = true → mj_gI h 38 (cnt s k) = Int32.ofNat (k % 8) ∧ mj_gI h 39 (cnt s k) = Int32.ofNat (k / 8)) ∧ (∀ k, bt o k = true → mj_gI h 38 (cnt s 64 + cnt o k) = (Int32.ofNat X - 8) + Int32.ofNat (k % 8) ∧ mj_gI h 39 (cnt s 64 + cnt o k) = (Int32.ofNat Y - 8) + Int32.ofNat (k / 8))
theorem pl_a : ∀ X : Fin 17, ∀ k : Fin 8, Int32.ofNat k.val = Int32.ofNat (k.val + (8 - X.val)) - Int32.ofNat (8 - X.val) ∧ (Int32.ofNat X.val - 8) + Int32.ofNat k.val = Int32.ofNat (k.val + (X.val - 8)) - Int32.ofNat (8 - X.val) := by decide +kernel
theorem pl_n {a A : Nat} (h : a < 1000) (hA : A < 1000) : ((Int32.ofNat a - Int32.ofNat A).toInt + A).toNat = a := by
  rw [subI h hA]
  omega
theorem ptt_bt (p q : Nat → Nat) {j : Nat} (hj : j < 64) : ∀ n, okp p q n = true → (bt (ptt p q n) j = true ↔ ∃ i, i < n ∧ j = 8 * q i + p i)
  | 0, _ => by
    rw [ptt, bt_0]
    exact ⟨fun h => absurd h (by decide), fun h => by obtain ⟨i, h1, _⟩ := h; exact absurd h1 (Nat.not_lt_zero _)⟩
  | n + 1, hok => by
    have h1 := (okp_iff p q (n + 1)).mp hok n (by omega)
    rw [okp, Bool.and_eq_true] at hok
    rw [ptt, bt_or, Bool.or_eq_true, ptt_bt p q hj n hok.1, js1_bt (by omega) hj, decide_eq_true_eq]
    constructor
    · rintro (⟨i, h2, h3⟩ | h2)
      · exact ⟨i, by omega, h3⟩
      · exact ⟨n, by omega, h2⟩
    · rintro ⟨i, h2, h3⟩
      by_cases e : i = n
      · rw [e] at h3; exact Or.inr h3
      · exact Or.inl ⟨i, by omega, h3⟩
theorem pm_togetherM (s o : Int64) (X Y : Nat) (hX : X ≤ 16) (hY : Y ≤ 16) (ns : Nm s) (no : Nm o) (h : mj_H) (Q : Option Value → mj_H → Prop) (d : Nat) (hS : St h) (hP : PL h s o X Y) (hq : Q (some (.long (jn s o X Y))) h) : mj_C (d + 3) 140 [.ref 34] h Q := by
  obtain ⟨hP1, hP2, hP3⟩ := hP
  have w1 := wd_le s 64
  have w2 := wd_le o 64
  have g1 := hg_le s 64 (by omega)
  have g2 := hg_le o 64 (by omega)
  have c1 := ns.2.2
  have c2 := no.2.2
  -- the points, counted from the left and from above
  have ex : ∀ i, i < cnt s 64 + cnt o 64 → (∃ k, bt s k = true ∧ cnt s k = i) ∨ (∃ k, bt o k = true ∧ cnt s 64 + cnt o k = i) := by
    intro i hi
    by_cases e : i < cnt s 64
    · obtain ⟨k, _, b, c⟩ := cnt_kth s 64 i e
      exact Or.inl ⟨k, b, c⟩
    · obtain ⟨k, _, b, c⟩ := cnt_kth o 64 (i - cnt s 64) (by omega)
      exact Or.inr ⟨k, b, by omega⟩
  let p : Nat → Nat := fun i => ((mj_gI h 38 i).toInt + (8 - X : Nat)).toNat
  let q : Nat → Nat := fun i => ((mj_gI h 39 i).toInt + (8 - Y : Nat)).toNat
  have ps : ∀ k, bt s k = true → p (cnt s k) = k % 8 + (8 - X) ∧ q (cnt s k) = k / 8 + (8 - Y) ∧ mj_gI h 38 (cnt s k) = Int32.ofNat (p (cnt s k)) - Int32.ofNat (8 - X) ∧ mj_gI h 39 (cnt s k) = Int32.ofNat (q (cnt s k)) - Int32.ofNat (8 - Y) := by
    intro k hk
    have hk2 := bt_lt hk
    have h1 := hP2 k hk
    have a1 := (pl_a ⟨X, by omega⟩ ⟨k % 8, by omega⟩).1
    have a2 := (pl_a ⟨Y, by omega⟩ ⟨k / 8, by omega⟩).1
    simp only at a1 a2
    have b1 : p (cnt s k) = k % 8 + (8 - X) := by
      show ((mj_gI h 38 (cnt s k)).toInt + (8 - X : Nat)).toNat = _
      rw [h1.1, a1, pl_n (by omega) (by omega)]
    have b2 : q (cnt s k) = k / 8 + (8 - Y) := by
      show ((mj_gI h 39 (cnt s k)).toInt + (8 - Y : Nat)).toNat = _
      rw [h1.2, a2, pl_n (by omega) (by omega)]
    rw [b1, b2]
    exact ⟨rfl, rfl, h1.1.trans a1, h1.2.trans a2⟩
  have po : ∀ k, bt o k = true → p (cnt s 64 + cnt o k) = k % 8 + (X - 8) ∧ q (cnt s 64 + cnt o k) = k / 8 + (Y - 8) ∧ mj_gI h 38 (cnt s 64 + cnt o k) = Int32.ofNat (p (cnt s 64 + cnt o k)) - Int32.ofNat (8 - X) ∧ mj_gI h 39 (cnt s 64 + cnt o k) = Int32.ofNat (q (cnt s 64 + cnt o k)) - Int32.ofNat (8 - Y) := by
    intro k hk
    have hk2 := bt_lt hk
    have h1 := hP3 k hk
    have a1 := (pl_a ⟨X, by omega⟩ ⟨k % 8, by omega⟩).2
    have a2 := (pl_a ⟨Y, by omega⟩ ⟨k / 8, by omega⟩).2
    simp only at a1 a2
    have b1 : p (cnt s 64 + cnt o k) = k % 8 + (X - 8) := by
      show ((mj_gI h 38 (cnt s 64 + cnt o k)).toInt + (8 - X : Nat)).toNat = _
      rw [h1.1, a1, pl_n (by omega) (by omega)]
    have b2 : q (cnt s 64 + cnt o k) = k / 8 + (Y - 8) := by
      show ((mj_gI h 39 (cnt s 64 + cnt o k)).toInt + (8 - Y : Nat)).toNat = _
      rw [h1.2, a2, pl_n (by omega) (by omega)]
    rw [b1, b2]
    exact ⟨rfl, rfl, h1.1.trans a1, h1.2.trans a2⟩
  have hsl : ∀ k, bt s k = true → cnt s k < cnt s 64 := by
    intro k hk
    have := cnt_mon s (show k + 1 ≤ 64 by have := bt_lt hk; omega)
    rw [cnt_s s k, if_pos hk] at this
    omega
  have hol : ∀ k, bt o k = true → cnt o k < cnt o 64 := by
    intro k hk
    have := cnt_mon o (show k + 1 ≤ 64 by have := bt_lt hk; omega)
    rw [cnt_s o k, if_pos hk] at this
    omega
  have hp : ∀ i, i < cnt s 64 + cnt o 64 → p i ≤ 16 ∧ mj_gI h 38 i = Int32.ofNat (p i) - Int32.ofNat (8 - X) := by
    intro i hi
    rcases ex i hi with ⟨k, hk, rfl⟩ | ⟨k, hk, rfl⟩
    · have := ps k hk; exact ⟨by omega, this.2.2.1⟩
    · have := po k hk; exact ⟨by omega, this.2.2.1⟩
  have hqq : ∀ i, i < cnt s 64 + cnt o 64 → q i ≤ 16 ∧ mj_gI h 39 i = Int32.ofNat (q i) - Int32.ofNat (8 - Y) := by
    intro i hi
    rcases ex i hi with ⟨k, hk, rfl⟩ | ⟨k, hk, rfl⟩
    · have := ps k hk; have h2 := bt_lt hk; exact ⟨by omega, this.2.2.2⟩
    · have := po k hk; have h2 := bt_lt hk; exact ⟨by omega, this.2.2.2⟩
  have hp0 : ∃ i, i < cnt s 64 + cnt o 64 ∧ p i = 0 := by
    by_cases e : 8 ≤ X
    · obtain ⟨y, hy, hb⟩ := ns.2.1
      have := ps _ hb; have h2 := hsl _ hb
      exact ⟨cnt s (8 * y), by omega, by omega⟩
    · obtain ⟨y, hy, hb⟩ := no.2.1
      have := po _ hb; have h2 := hol _ hb
      exact ⟨cnt s 64 + cnt o (8 * y), by omega, by omega⟩
  have hq0 : ∃ i, i < cnt s 64 + cnt o 64 ∧ q i = 0 := by
    by_cases e : 8 ≤ Y
    · obtain ⟨y, hy, hb⟩ := ns.1
      have := ps _ hb; have h2 := hsl _ hb
      exact ⟨cnt s y, by omega, by omega⟩
    · obtain ⟨y, hy, hb⟩ := no.1
      have := po _ hb; have h2 := hol _ hb
      exact ⟨cnt s 64 + cnt o y, by omega, by omega⟩
  refine pm_togetherR p q (cnt s 64 + cnt o 64) (8 - X) (8 - Y) h Q d hS (by omega) (by omega) hP1 (by omega) hp hqq hp0 hq0 ?_
  have hfin : tm p q (cnt s 64 + cnt o 64) = jn s o X Y := by
    by_cases hr : max (wd s 64 + (8 - X)) (wd o 64 + (X - 8)) ≤ 8 ∧ max (hg s 64 + (8 - Y)) (hg o 64 + (Y - 8)) ≤ 8
    · have hok : okp p q (cnt s 64 + cnt o 64) = true := by
        rw [okp_iff]
        intro i hi
        rcases ex i hi with ⟨k, hk, rfl⟩ | ⟨k, hk, rfl⟩
        · have := ps k hk; have h2 := wd_lt hk; have h3 := hg_lt hk; omega
        · have := po k hk; have h2 := wd_lt hk; have h3 := hg_lt hk; omega
      have ws0 := wd_pos (nm_ne ns)
      have wo0 := wd_pos (nm_ne no)
      have gs0 := hg_pos (nm_ne ns)
      have go0 := hg_pos (nm_ne no)
      have hm1 : 8 * (8 - Y) + (8 - X) < 64 := by omega
      have hm2 : 8 * (Y - 8) + (X - 8) < 64 := by omega
      have ks : cnt (mj_js s (Int32.ofNat (8 * (8 - Y) + (8 - X)))) 64 = cnt s 64 := cnt_js hm1 (fun k hk => by have h2 := wd_lt hk; have h3 := hg_lt hk; omega)
      have ko : cnt (mj_js o (Int32.ofNat (8 * (Y - 8) + (X - 8)))) 64 = cnt o 64 := cnt_js hm2 (fun k hk => by have h2 := wd_lt hk; have h3 := hg_lt hk; omega)
      have hT : ptt p q (cnt s 64 + cnt o 64) = mj_js s (Int32.ofNat (8 * (8 - Y) + (8 - X))) ||| mj_js o (Int32.ofNat (8 * (Y - 8) + (X - 8))) := by
        apply bt_ext
        intro j hj
        rw [Bool.eq_iff_iff, ptt_bt p q hj _ hok, bt_or, js_bt s hm1 hj, js_bt o hm2 hj, Bool.or_eq_true, Bool.and_eq_true, Bool.and_eq_true, decide_eq_true_eq, decide_eq_true_eq]
        constructor
        · rintro ⟨i, hi, hji⟩
          rcases ex i hi with ⟨k, hk, rfl⟩ | ⟨k, hk, rfl⟩
          · have := ps k hk
            exact Or.inl ⟨by omega, by rw [← hk]; congr 1; omega⟩
          · have := po k hk
            exact Or.inr ⟨by omega, by rw [← hk]; congr 1; omega⟩
        · rintro (⟨h1, h2⟩ | ⟨h1, h2⟩)
          · have := ps _ h2; have h3 := hsl _ h2
            exact ⟨cnt s (j - (8 * (8 - Y) + (8 - X))), by omega, by rw [this.1, this.2.1]; omega⟩
          · have := po _ h2; have h3 := hol _ h2
            exact ⟨cnt s 64 + cnt o (j - (8 * (Y - 8) + (X - 8))), by omega, by rw [this.1, this.2.1]; omega⟩
      have hor := cnt_or (mj_js s (Int32.ofNat (8 * (8 - Y) + (8 - X)))) (mj_js o (Int32.ofNat (8 * (Y - 8) + (X - 8))))
      rw [ks, ko] at hor
      rw [tm, hT, jn, tg, if_pos hr]
      by_cases hd : mj_js s (Int32.ofNat (8 * (8 - Y) + (8 - X))) &&& mj_js o (Int32.ofNat (8 * (Y - 8) + (X - 8))) = 0
      · rw [if_pos hd]
        rw [hd, cnt_z] at hor
        by_cases hc : cnt (mj_js s (Int32.ofNat (8 * (8 - Y) + (8 - X))) ||| mj_js o (Int32.ofNat (8 * (Y - 8) + (X - 8)))) 64 ≤ 8 ∧ hng (mj_js s (Int32.ofNat (8 * (8 - Y) + (8 - X))) ||| mj_js o (Int32.ofNat (8 * (Y - 8) + (X - 8)))) = true
        · rw [if_pos ⟨by omega, hok, by omega, hc.2⟩, if_pos hc]
        · rw [if_neg hc, if_neg (fun h5 => hc ⟨by omega, h5.2.2.2⟩)]
      · rw [if_neg hd]
        have := cnt_pos hd
        rw [if_neg (fun h5 => by have := h5.2.2.1; omega)]
        split <;> rfl
    · rw [jn, tg, if_neg hr, tm, if_neg]
      · split <;> rfl
      · rintro ⟨h1, h2, _⟩
        rw [okp_iff] at h2
        apply hr
        refine ⟨?_, ?_⟩
        · obtain ⟨k1, a1, b1⟩ := wd_at (wd_pos (nm_ne ns))
          obtain ⟨k2, a2, b2⟩ := wd_at (wd_pos (nm_ne no))
          have x1 := ps k1 a1; have y1 := hsl _ a1; have z1 := h2 _ (show cnt s k1 < cnt s 64 + cnt o 64 by omega)
          have x2 := po k2 a2; have y2 := hol _ a2; have z2 := h2 _ (show cnt s 64 + cnt o k2 < cnt s 64 + cnt o 64 by omega)
          omega
        · obtain ⟨k1, a1, b1⟩ := hg_at (hg_pos (nm_ne ns))
          obtain ⟨k2, a2, b2⟩ := hg_at (hg_pos (nm_ne no))
          have x1 := ps k1 a1; have y1 := hsl _ a1; have z1 := h2 _ (show cnt s k1 < cnt s 64 + cnt o 64 by omega)
          have x2 := po k2 a2; have y2 := hol _ a2; have z2 := h2 _ (show cnt s 64 + cnt o k2 < cnt s 64 + cnt o 64 by omega)
          omega
  rw [hfin]
  exact hq
theorem hng_0 : hng 0 = false := by unfold hng; rw [decide_eq_false (fun h => h.1 rfl)]
theorem jn_0 {s o : Int64} {X Y : Nat} : jn s o X Y = 0 ↔ ¬ (cnt (tg s o X Y) 64 ≤ 8 ∧ hng (tg s o X Y) = true) := by
  unfold jn
  split
  · rename_i h
    constructor
    · intro h1
      rw [h1, hng_0] at h
      exact absurd h.2 (by decide)
    · intro h1
      exact absurd h h1
  · rename_i h
    exact ⟨fun _ => h, fun _ => rfl⟩
