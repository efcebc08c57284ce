/-! the class tries only the squares near the heap: the same list -/
theorem lstep_skip (s : Int64) (q : Nat × (Nat → Int64)) (i : Nat) : ∀ j, (∀ t, i ≤ t → t < i + j → jn s 1 (t % 10 + 7) (t / 10 + 7) = 0) → lstep s q (i + j) = lstep s q i
  | 0, _ => rfl
  | j + 1, h => by
    rw [show i + (j + 1) = (i + j) + 1 by omega, lstep_s, if_pos (h (i + j) (by omega) (by omega))]
    exact lstep_skip s q i j (fun t a b => h t a (by omega))
theorem lstep_row {s : Int64} (hs : s ≠ 0) (q : Nat × (Nat → Int64)) {y : Nat} (hy : y < 10) : lstep s q (10 * y + (wd s 64 + 2)) = lstep s q (10 * (y + 1)) := by
  have hw := wd_le s 64
  have h := lstep_skip s q (10 * y + (wd s 64 + 2)) (8 - wd s 64) (fun t a b => jn_far hs (by omega) (by omega) (Or.inl (by omega)))
  rw [show 10 * y + (wd s 64 + 2) + (8 - wd s 64) = 10 * (y + 1) by omega] at h
  exact h.symm
theorem lstep_end {s : Int64} (hs : s ≠ 0) (q : Nat × (Nat → Int64)) : lstep s q (10 * (hg s 64 + 2)) = lstep s q 100 := by
  have hw := hg_le s 64 (by omega)
  have h := lstep_skip s q (10 * (hg s 64 + 2)) (100 - 10 * (hg s 64 + 2)) (fun t a b => jn_far hs (by omega) (by omega) (Or.inr (by omega)))
  rw [show 10 * (hg s 64 + 2) + (100 - 10 * (hg s 64 + 2)) = 100 by omega] at h
  exact h.symm
theorem x_s (X : Nat) : Int32.ofNat X - 8 + 1 = Int32.ofNat (X + 1) - 8 := by
  rw [← i_s, Int32.sub_eq_add_neg, Int32.sub_eq_add_neg, Int32.add_assoc, Int32.add_assoc, Int32.add_comm (-8) 1]
theorem x_gt : ∀ X : Fin 18, ∀ w : Fin 9, (Int32.ofNat w.val < Int32.ofNat X.val - 8) = (w.val + 8 < X.val) := by
  intro X w
  have h : ∀ X : Fin 18, ∀ w : Fin 9, decide (Int32.ofNat w.val < Int32.ofNat X.val - 8) = decide (w.val + 8 < X.val) := by decide +kernel
  have h2 := h X w
  rw [decide_eq_decide] at h2
  exact propext h2
theorem cnt_tg {s : Int64} (hs : s ≠ 0) {X Y : Nat} (hX : X ≤ 16) (hY : Y ≤ 16) : cnt (tg s 1 X Y) 64 ≤ cnt s 64 + 1 := by
  rw [tg, w_1.1, w_1.2]
  have h0 : cnt (0 : Int64) 64 = 0 := by decide +kernel
  by_cases c1 : max (wd s 64 + (8 - X)) (1 + (X - 8)) ≤ 8 ∧ max (hg s 64 + (8 - Y)) (1 + (Y - 8)) ≤ 8
  rotate_left
  · rw [if_neg c1, h0]; omega
  rw [if_pos c1]
  split
  · have h1 := cnt_or (mj_js s (Int32.ofNat (8 * (8 - Y) + (8 - X)))) (mj_js 1 (Int32.ofNat (8 * (Y - 8) + (X - 8))))
    have g1 := hg_pos hs
    have w1 := wd_pos hs
    have h2 := cnt_js (s := s) (m := 8 * (8 - Y) + (8 - X)) (by omega) (fun k hk => by
      have h4 := wd_lt hk
      have h5 := hg_lt hk
      omega)
    have h3 := cnt_js (s := 1) (m := 8 * (Y - 8) + (X - 8)) (by omega) (fun k hk => by rw [bt1_0 hk]; omega)
    rw [cnt_1] at h3
    omega
  · rw [h0]; omega
