/-! what a list holds, purely -/
theorem pl_is {f : Nat → Int64} {x : Int64} {n c : Nat} (h1 : c ≤ n) (h2 : ∀ i, i < c → f i < x) (h3 : c < n → ¬ f c < x) : pl f x n = c := by
  have a := pl_le f x n
  rcases Nat.lt_trichotomy (pl f x n) c with h | h | h
  · exact absurd (h2 _ h) (pl_at f x n (by omega))
  · exact h
  · exact absurd (pl_lt f x n h) (h3 (by omega))
theorem ins_end {q : Nat × (Nat → Int64)} {x : Int64} (h : ∀ i, i < q.1 → q.2 i < x) : (ins q x).1 = q.1 + 1 ∧ (∀ i, i < q.1 → (ins q x).2 i = q.2 i) ∧ (ins q x).2 q.1 = x := by
  have hp : pl q.2 x q.1 = q.1 := pl_is (Nat.le_refl _) h (fun a => absurd a (Nat.lt_irrefl _))
  have hn : stands q.2 x q.1 = false := by
    unfold stands
    rw [hp]
    exact decide_eq_false (fun a => absurd a.1 (Nat.lt_irrefl _))
  rw [ins, if_neg (by rw [hn]; decide)]
  refine ⟨rfl, fun i hi => ?_, ?_⟩
  · show insf q.2 x q.1 i = _
    rw [insf, hp, if_pos hi]
  · show insf q.2 x q.1 q.1 = _
    rw [insf, hp, if_neg (by omega), if_pos rfl]
theorem lsel_s (p : Nat × (Nat → Int64)) (b : Bool) (k : Nat) : lsel p b (k + 1) = if lf (p.2 k) b = p.2 k then ins (lsel p b k) (p.2 k) else lsel p b k := rfl
theorem lsel_lt (p : Nat × (Nat → Int64)) (b : Bool) (x : Int64) : ∀ k, (∀ j, j < k → p.2 j < x) → ∀ i, i < (lsel p b k).1 → (lsel p b k).2 i < x
  | 0, _ => fun i hi => absurd hi (Nat.not_lt_zero _)
  | k + 1, h => fun i hi => by
    have ih := lsel_lt p b x k (fun j hj => h j (by omega))
    rw [lsel_s] at hi ⊢
    by_cases c : lf (p.2 k) b = p.2 k
    · rw [if_pos c] at hi ⊢
      rcases ins_mem _ _ hi with e | ⟨t, ht, e⟩
      · rw [e]; exact h k (by omega)
      · rw [e]; exact ih t ht
    · rw [if_neg c] at hi ⊢
      exact ih i hi
def LQ (p : Nat × (Nat → Int64)) (how : Nat) (k : Nat) : Nat × (Nat → Int64) := if how = 0 then (k, p.2) else lsel p (decide (how = 2)) k
theorem LL_is (n how : Nat) : LL n how = LQ (LA n) how (LA n).1 := by
  rw [LL, LQ]
theorem LQ_lt {p : Nat × (Nat → Int64)} (how : Nat) {x : Int64} {k : Nat} (h : ∀ j, j < k → p.2 j < x) : ∀ i, i < (LQ p how k).1 → (LQ p how k).2 i < x := by
  unfold LQ
  split
  · exact h
  · exact lsel_lt p _ x k h
theorem LQ_0 (p : Nat × (Nat → Int64)) (how : Nat) : (LQ p how 0).1 = 0 := by
  unfold LQ
  split <;> rfl
theorem LQ_y {p : Nat × (Nat → Int64)} (hs : sr p) {how k : Nat} (hk : k < p.1) (hl : lsd (p.2 k) how = true) : (LQ p how (k + 1)).1 = (LQ p how k).1 + 1 ∧ (∀ i, i < (LQ p how k).1 → (LQ p how (k + 1)).2 i = (LQ p how k).2 i) ∧ (LQ p how (k + 1)).2 (LQ p how k).1 = p.2 k := by
  unfold LQ
  by_cases h0 : how = 0
  · rw [if_pos h0, if_pos h0]
    exact ⟨rfl, fun _ _ => rfl, rfl⟩
  · rw [if_neg h0, if_neg h0, lsel_s]
    have h1 : lf (p.2 k) (decide (how = 2)) = p.2 k := by
      rw [lsd, decide_eq_false h0, Bool.false_or] at hl
      exact of_decide_eq_true hl
    rw [if_pos h1]
    exact ins_end (lsel_lt p _ _ k (fun j hj => hs j k hj hk))
theorem LQ_n {p : Nat × (Nat → Int64)} {how k : Nat} (hl : ¬ lsd (p.2 k) how = true) : LQ p how (k + 1) = LQ p how k := by
  unfold LQ
  by_cases h0 : how = 0
  · rw [lsd, decide_eq_true h0] at hl
    exact absurd rfl hl
  · rw [if_neg h0, if_neg h0, lsel_s]
    rw [lsd, decide_eq_false h0, Bool.false_or] at hl
    rw [if_neg (fun z => hl (decide_eq_true z))]
theorem LQ_up {p : Nat × (Nat → Int64)} (hs : sr p) (how : Nat) {k : Nat} (hk : k < p.1) : (LQ p how k).1 ≤ (LQ p how (k + 1)).1 ∧ ∀ i, i < (LQ p how k).1 → (LQ p how (k + 1)).2 i = (LQ p how k).2 i := by
  by_cases hl : lsd (p.2 k) how = true
  · have h := LQ_y hs hk hl
    exact ⟨by omega, h.2.1⟩
  · rw [LQ_n hl]
    exact ⟨Nat.le_refl _, fun _ _ => rfl⟩
theorem LQ_all {p : Nat × (Nat → Int64)} (hs : sr p) (how : Nat) : ∀ j k, k + j = p.1 → (LQ p how k).1 ≤ (LQ p how p.1).1 ∧ ∀ i, i < (LQ p how k).1 → (LQ p how p.1).2 i = (LQ p how k).2 i
  | 0, k, h => by
    rw [show k = p.1 by omega]
    exact ⟨Nat.le_refl _, fun _ _ => rfl⟩
  | j + 1, k, h => by
    have ih := LQ_all hs how j (k + 1) (by omega)
    have h1 := LQ_up hs how (k := k) (by omega)
    exact ⟨by omega, fun i hi => (ih.2 i (by omega)).trans (h1.2 i hi)⟩
theorem LQ_pl {p : Nat × (Nat → Int64)} (hs : sr p) (how : Nat) (y : Int64) {k : Nat} (hk : k < p.1) : pl (LQ p how (k + 1)).2 y (LQ p how (k + 1)).1 = pl (LQ p how k).2 y (LQ p how k).1 + (if p.2 k < y ∧ lsd (p.2 k) how = true then 1 else 0) := by
  have hle := pl_le (LQ p how k).2 y (LQ p how k).1
  by_cases hl : lsd (p.2 k) how = true
  · obtain ⟨a, b, c⟩ := LQ_y hs hk hl
    by_cases hy : p.2 k < y
    · rw [if_pos ⟨hy, hl⟩]
      have h1 := LQ_lt how (x := p.2 k) (k := k) (fun j hj => hs j k hj hk)
      have h2 : pl (LQ p how k).2 y (LQ p how k).1 = (LQ p how k).1 := pl_is (Nat.le_refl _) (fun i hi => Int64.lt_trans (h1 i hi) hy) (fun z => absurd z (Nat.lt_irrefl _))
      rw [h2]
      refine pl_is (by omega) (fun i hi => ?_) (fun z => by omega)
      by_cases e : i = (LQ p how k).1
      · rw [e, c]; exact hy
      · rw [b i (by omega)]; exact Int64.lt_trans (h1 i (by omega)) hy
    · rw [if_neg (fun z => hy z.1)]
      refine pl_is (by omega) (fun i hi => ?_) (fun z => ?_)
      · rw [b i (by omega)]; exact pl_lt _ _ _ hi
      · simp only [Nat.add_zero] at z ⊢
        by_cases e : pl (LQ p how k).2 y (LQ p how k).1 = (LQ p how k).1
        · rw [e, c]; exact hy
        · rw [b _ (by omega)]; exact pl_at _ _ _ (by omega)
  · rw [LQ_n hl, if_neg (fun z => hl z.2)]
    rfl
theorem LQ_le {p : Nat × (Nat → Int64)} (hs : sr p) (how : Nat) : ∀ k, k ≤ p.1 → (LQ p how k).1 ≤ k
  | 0, _ => by rw [LQ_0]; omega
  | k + 1, h => by
    have ih := LQ_le hs how k (by omega)
    by_cases hl : lsd (p.2 k) how = true
    · have h := LQ_y hs (by omega) hl
      omega
    · rw [LQ_n hl]; omega
/-! the calls -/
noncomputable def opCount (A : AS) (n w : Int32) : Int32 × AS := if (1 ≤ n.toInt ∧ n.toInt ≤ 6) ∧ 0 ≤ w.toInt ∧ w.toInt ≤ 2 then (Int32.ofNat (LL (n.toInt - 1).toNat w.toInt.toNat).1, A) else (-6, oRf A 6)
noncomputable def opList (A : AS) (n w j : Int32) : Int64 × AS := if (1 ≤ n.toInt ∧ n.toInt ≤ 6) ∧ 0 ≤ w.toInt ∧ w.toInt ≤ 2 then (if 0 ≤ j.toInt ∧ j.toInt < (LL (n.toInt - 1).toNat w.toInt.toNat).1 then ((LL (n.toInt - 1).toNat w.toInt.toNat).2 j.toInt.toNat, A) else (0, oRf A 3)) else (0, oRf A 6)
noncomputable def rkv (s : Int64) (w : Nat) : Nat := pl (LL (cnt s 64 - 1) w).2 (if w = 0 then s else lf s (decide (w = 2))) (LL (cnt s 64 - 1) w).1
noncomputable def opRank (A : AS) (x w : Int32) : Int32 × AS := if vh A x = true then (if cnt (hx A x) 64 ≤ 6 ∧ 0 ≤ w.toInt ∧ w.toInt ≤ 2 then (Int32.ofNat (rkv (hx A x) w.toInt.toNat), A) else (-6, oRf A 6)) else (-3, oRf A 3)
