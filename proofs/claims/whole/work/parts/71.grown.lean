/-! the class tries only the squares near the heap: the same list -/
theorem lstep_skip (s : Int64) (q : Nat × (Nat → Int64)) (i : Nat) : ∀ j, (∀ t, i ≤ t → t < i + j → jn s 1 (t % 10 + 7) (t / 10 + 7) = 0) → lstep s q (i + j) = lstep s q i
  | 0, _ => rfl
  | j + 1, h => by
    rw [show i + (j + 1) = (i + j) + 1 by omega, lstep_s, if_pos (h (i + j) (by omega) (by omega))]
    exact lstep_skip s q i j (fun t a b => h t a (by omega))
theorem lstep_row {s : Int64} (hs : s ≠ 0) (q : Nat × (Nat → Int64)) {y : Nat} (hy : y < 10) : lstep s q (10 * y + (wd s 64 + 2)) = lstep s q (10 * (y + 1)) := by
  have hw := wd_le s 64
  have h := lstep_skip s q (10 * y + (wd s 64 + 2)) (8 - wd s 64) (fun t a b => jn_far hs (by omega) (by omega) (Or.inl (by omega)))
  rw [show 10 * y + (wd s 64 + 2) + (8 - wd s 64) = 10 * (y + 1) by omega] at h
  exact h.symm
theorem lstep_end {s : Int64} (hs : s ≠ 0) (q : Nat × (Nat → Int64)) : lstep s q (10 * (hg s 64 + 2)) = lstep s q 100 := by
  have hw := hg_le s 64 (by omega)
  have h := lstep_skip s q (10 * (hg s 64 + 2)) (100 - 10 * (hg s 64 + 2)) (fun t a b => jn_far hs (by omega) (by omega) (Or.inr (by omega)))
  rw [show 10 * (hg s 64 + 2) + (100 - 10 * (hg s 64 + 2)) = 100 by omega] at h
  exact h.symm
theorem x_s (X : Nat) : Int32.ofNat X - 8 + 1 = Int32.ofNat (X + 1) - 8 := by
  rw [← i_s, Int32.sub_eq_add_neg, Int32.sub_eq_add_neg, Int32.add_assoc, Int32.add_assoc, Int32.add_comm (-8) 1]
theorem x_gt : ∀ X : Fin 18, ∀ w : Fin 9, (Int32.ofNat w.val < Int32.ofNat X.val - 8) = (w.val + 8 < X.val) := by
  intro X w
  have h : ∀ X : Fin 18, ∀ w : Fin 9, decide (Int32.ofNat w.val < Int32.ofNat X.val - 8) = decide (w.val + 8 < X.val) := by decide +kernel
  have h2 := h X w
  rw [decide_eq_decide] at h2
  exact propext h2
