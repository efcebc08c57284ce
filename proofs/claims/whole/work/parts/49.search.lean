/-! the search, purely -/
def opn (HS : Nat → Int64) (G : Int64) (D : Nat) (S : Nat → Nat × Nat × Nat) : Int64 := G &&& (cov HS S D ^^^ (-1))
def fit (HS : Nat → Int64) (o : Int64) (i f : Nat) : Bool := bt (plc (ff HS i f)) (lb o) && decide (mv HS (lb o, i, f) &&& o = mv HS (lb o, i, f))
def scanF (HS : Nat → Int64) (o : Int64) (i : Nat) : Nat → Nat → Nat → Nat × Nat × Nat
  | 0, f, M => (0, f, M)
  | j + 1, f, M => if M = 100000 then (2, f, M) else if fit HS o i f = true then (1, f, M + 1) else scanF HS o i j (f + 1) (M + 1)
def scanS (HS : Nat → Int64) (o : Int64) (lef : Nat → Nat) : Nat → Nat → Nat → Nat → Nat × Nat × Nat × Nat
  | 0, i, f, M => (0, i, f, M)
  | j + 1, i, f, M => if lef i = 0 then scanS HS o lef j (i + 1) 0 M else
      (if (scanF HS o i (nfo HS i - f) f M).1 = 0 then scanS HS o lef j (i + 1) 0 (scanF HS o i (nfo HS i - f) f M).2.2 else ((scanF HS o i (nfo HS i - f) f M).1, i, (scanF HS o i (nfo HS i - f) f M).2.1, (scanF HS o i (nfo HS i - f) f M).2.2))
theorem scanS_step (HS : Nat → Int64) (o : Int64) (lef : Nat → Nat) (j i f M : Nat) (h1 : lef i ≠ 0) (h2 : f < nfo HS i) : scanS HS o lef (j + 1) i f M = if M = 100000 then (2, i, f, M) else if fit HS o i f = true then (1, i, f, M + 1) else scanS HS o lef (j + 1) i (f + 1) (M + 1) := by
  rw [scanS, if_neg h1, show nfo HS i - f = (nfo HS i - (f + 1)) + 1 by omega, scanF]
  by_cases a : M = 100000
  · rw [if_pos a, if_pos a]; rfl
  · rw [if_neg a, if_neg a]
    by_cases b : fit HS o i f = true
    · rw [if_pos b, if_pos b]; rfl
    · rw [if_neg b, if_neg b, scanS, if_neg h1]
theorem scanS_next (HS : Nat → Int64) (o : Int64) (lef : Nat → Nat) (j i f M : Nat) (h : lef i = 0 ∨ nfo HS i ≤ f) : scanS HS o lef (j + 1) i f M = scanS HS o lef j (i + 1) 0 M := by
  rw [scanS]
  by_cases a : lef i = 0
  · rw [if_pos a]
  · rw [if_neg a, show nfo HS i - f = 0 by omega, scanF]
    rfl
def upS (S : Nat → Nat × Nat × Nat) (D : Nat) (t : Nat × Nat × Nat) : Nat → Nat × Nat × Nat := fun d => if d = D then t else S d
def lefs (SC : Nat → Int32) (S : Nat → Nat × Nat × Nat) (D : Nat) (i : Nat) : Nat := cps (SC i) - used S i D
abbrev SS : Type := Nat × (Nat → Nat × Nat × Nat) × Nat
def big (K : Nat) (HS : Nat → Int64) (SC : Nat → Int32) (G : Int64) : Nat → Bool → SS → Option (Nat × SS)
  | 0, _, _ => none
  | n + 1, true, (D, S, M) => if D = 0 then some (0, D, S, M) else
      (if (scanS HS (opn HS G (D - 1) S) (lefs SC S (D - 1)) (K - (S (D - 1)).2.1) (S (D - 1)).2.1 ((S (D - 1)).2.2 + 1) M).1 = 0 then big K HS SC G n true (D - 1, S, (scanS HS (opn HS G (D - 1) S) (lefs SC S (D - 1)) (K - (S (D - 1)).2.1) (S (D - 1)).2.1 ((S (D - 1)).2.2 + 1) M).2.2.2)
      else if (scanS HS (opn HS G (D - 1) S) (lefs SC S (D - 1)) (K - (S (D - 1)).2.1) (S (D - 1)).2.1 ((S (D - 1)).2.2 + 1) M).1 = 1 then big K HS SC G n false (D, upS S (D - 1) (lb (opn HS G (D - 1) S), (scanS HS (opn HS G (D - 1) S) (lefs SC S (D - 1)) (K - (S (D - 1)).2.1) (S (D - 1)).2.1 ((S (D - 1)).2.2 + 1) M).2.1, (scanS HS (opn HS G (D - 1) S) (lefs SC S (D - 1)) (K - (S (D - 1)).2.1) (S (D - 1)).2.1 ((S (D - 1)).2.2 + 1) M).2.2.1), (scanS HS (opn HS G (D - 1) S) (lefs SC S (D - 1)) (K - (S (D - 1)).2.1) (S (D - 1)).2.1 ((S (D - 1)).2.2 + 1) M).2.2.2)
      else some (2, D - 1, S, (scanS HS (opn HS G (D - 1) S) (lefs SC S (D - 1)) (K - (S (D - 1)).2.1) (S (D - 1)).2.1 ((S (D - 1)).2.2 + 1) M).2.2.2))
  | n + 1, false, (D, S, M) => if opn HS G D S = 0 then some (1, D, S, M) else
      (if (scanS HS (opn HS G D S) (lefs SC S D) K 0 0 M).1 = 0 then big K HS SC G n true (D, S, (scanS HS (opn HS G D S) (lefs SC S D) K 0 0 M).2.2.2)
      else if (scanS HS (opn HS G D S) (lefs SC S D) K 0 0 M).1 = 1 then big K HS SC G n false (D + 1, upS S D (lb (opn HS G D S), (scanS HS (opn HS G D S) (lefs SC S D) K 0 0 M).2.1, (scanS HS (opn HS G D S) (lefs SC S D) K 0 0 M).2.2.1), (scanS HS (opn HS G D S) (lefs SC S D) K 0 0 M).2.2.2)
      else some (2, D, S, (scanS HS (opn HS G D S) (lefs SC S D) K 0 0 M).2.2.2))
/-- behind a scan: back, on, or spent -/
def aft (K : Nat) (HS : Nat → Int64) (SC : Nat → Int32) (G : Int64) (n D : Nat) (S : Nat → Nat × Nat × Nat) (r : Nat × Nat × Nat × Nat) : Option (Nat × SS) := if r.1 = 0 then big K HS SC G n true (D, S, r.2.2.2) else if r.1 = 1 then big K HS SC G n false (D + 1, upS S D (lb (opn HS G D S), r.2.1, r.2.2.1), r.2.2.2) else some (2, D, S, r.2.2.2)
theorem big_t (K : Nat) (HS : Nat → Int64) (SC : Nat → Int32) (G : Int64) (n D : Nat) (S : Nat → Nat × Nat × Nat) (M : Nat) (hD : 0 < D) : big K HS SC G (n + 1) true (D, S, M) = aft K HS SC G n (D - 1) S (scanS HS (opn HS G (D - 1) S) (lefs SC S (D - 1)) (K - (S (D - 1)).2.1) (S (D - 1)).2.1 ((S (D - 1)).2.2 + 1) M) := by
  rw [big, if_neg (by omega), aft, show D - 1 + 1 = D by omega]
theorem big_f (K : Nat) (HS : Nat → Int64) (SC : Nat → Int32) (G : Int64) (n D : Nat) (S : Nat → Nat × Nat × Nat) (M : Nat) (ho : opn HS G D S ≠ 0) : big K HS SC G (n + 1) false (D, S, M) = aft K HS SC G n D S (scanS HS (opn HS G D S) (lefs SC S D) K 0 0 M) := by
  rw [big, if_neg ho, aft]
theorem big_0 (K : Nat) (HS : Nat → Int64) (SC : Nat → Int32) (G : Int64) (n : Nat) (S : Nat → Nat × Nat × Nat) (M : Nat) : big K HS SC G (n + 1) true (0, S, M) = some (0, 0, S, M) := by
  rw [big, if_pos rfl]
theorem big_1 (K : Nat) (HS : Nat → Int64) (SC : Nat → Int32) (G : Int64) (n D : Nat) (S : Nat → Nat × Nat × Nat) (M : Nat) (ho : opn HS G D S = 0) : big K HS SC G (n + 1) false (D, S, M) = some (1, D, S, M) := by
  rw [big, if_pos ho]
/-- what a scan gives -/
theorem scanF_ok (HS : Nat → Int64) (o : Int64) (i : Nat) : ∀ j f M, M ≤ 100000 → M ≤ (scanF HS o i j f M).2.2 ∧ (scanF HS o i j f M).2.2 ≤ 100000 ∧ ((scanF HS o i j f M).1 = 0 ∨ ((scanF HS o i j f M).1 = 1 ∧ fit HS o i (scanF HS o i j f M).2.1 = true ∧ (f ≤ (scanF HS o i j f M).2.1 ∧ (scanF HS o i j f M).2.1 < f + j) ∧ M + 1 ≤ (scanF HS o i j f M).2.2) ∨ ((scanF HS o i j f M).1 = 2 ∧ (scanF HS o i j f M).2.2 = 100000))
  | 0, f, M, hM => ⟨Nat.le_refl _, hM, Or.inl rfl⟩
  | j + 1, f, M, hM => by
    rw [scanF]
    by_cases a : M = 100000
    · rw [if_pos a]
      exact ⟨Nat.le_refl _, hM, Or.inr (Or.inr ⟨rfl, a⟩)⟩
    · rw [if_neg a]
      by_cases b : fit HS o i f = true
      · rw [if_pos b]
        exact ⟨Nat.le_succ _, by show M + 1 ≤ 100000; omega, Or.inr (Or.inl ⟨rfl, b, by show f ≤ f ∧ f < f + (j + 1); omega, Nat.le_refl _⟩)⟩
      · rw [if_neg b]
        have ih := scanF_ok HS o i j (f + 1) (M + 1) (by omega)
        refine ⟨by omega, ih.2.1, ?_⟩
        rcases ih.2.2 with h | h | h
        · exact Or.inl h
        · exact Or.inr (Or.inl ⟨h.1, h.2.1, by omega, by omega⟩)
        · exact Or.inr (Or.inr h)
theorem scanS_ok (HS : Nat → Int64) (o : Int64) (lef : Nat → Nat) : ∀ j i f M, M ≤ 100000 → (scanS HS o lef j i f M).1 ≤ 2 ∧ M ≤ (scanS HS o lef j i f M).2.2.2 ∧ (scanS HS o lef j i f M).2.2.2 ≤ 100000 ∧ ((scanS HS o lef j i f M).1 = 1 → (scanS HS o lef j i f M).2.1 < i + j ∧ (scanS HS o lef j i f M).2.2.1 < nfo HS (scanS HS o lef j i f M).2.1 ∧ lef (scanS HS o lef j i f M).2.1 ≠ 0 ∧ fit HS o (scanS HS o lef j i f M).2.1 (scanS HS o lef j i f M).2.2.1 = true ∧ M + 1 ≤ (scanS HS o lef j i f M).2.2.2) ∧ ((scanS HS o lef j i f M).1 = 2 → (scanS HS o lef j i f M).2.2.2 = 100000)
  | 0, i, f, M, hM => ⟨Nat.zero_le 2, Nat.le_refl _, hM, fun h => absurd (show (0 : Nat) = 1 from h) (by decide), fun h => absurd (show (0 : Nat) = 2 from h) (by decide)⟩
  | j + 1, i, f, M, hM => by
    rw [scanS]
    by_cases a : lef i = 0
    · rw [if_pos a]
      have ih := scanS_ok HS o lef j (i + 1) 0 M hM
      exact ⟨ih.1, ih.2.1, ih.2.2.1, fun h => by have := ih.2.2.2.1 h; exact ⟨by omega, this.2⟩, ih.2.2.2.2⟩
    · rw [if_neg a]
      have h1 := scanF_ok HS o i (nfo HS i - f) f M hM
      by_cases b : (scanF HS o i (nfo HS i - f) f M).1 = 0
      · rw [if_pos b]
        have ih := scanS_ok HS o lef j (i + 1) 0 (scanF HS o i (nfo HS i - f) f M).2.2 h1.2.1
        exact ⟨ih.1, by omega, ih.2.2.1, fun h => by have := ih.2.2.2.1 h; exact ⟨by omega, this.2.1, this.2.2.1, this.2.2.2.1, by omega⟩, ih.2.2.2.2⟩
      · rw [if_neg b]
        rcases h1.2.2 with h | h | h
        · exact absurd h b
        · refine ⟨by show (scanF HS o i (nfo HS i - f) f M).1 ≤ 2; omega, h1.1, h1.2.1, fun _ => ⟨by show i < i + (j + 1); omega, ?_, a, h.2.1, h.2.2.2⟩, fun h9 => ?_⟩
          · show (scanF HS o i (nfo HS i - f) f M).2.1 < nfo HS i
            omega
          · change (scanF HS o i (nfo HS i - f) f M).1 = 2 at h9
            omega
        · refine ⟨by show (scanF HS o i (nfo HS i - f) f M).1 ≤ 2; omega, h1.1, h1.2.1, fun h9 => ?_, fun _ => h.2⟩
          change (scanF HS o i (nfo HS i - f) f M).1 = 1 at h9
          omega
/-! what is laid stays well laid -/
theorem cov_up (HS : Nat → Int64) (S : Nat → Nat × Nat × Nat) (D : Nat) (t : Nat × Nat × Nat) : ∀ d, d ≤ D → cov HS (upS S D t) d = cov HS S d
  | 0, _ => rfl
  | d + 1, h => by
    rw [cov, cov, cov_up HS S D t d (by omega)]
    have : upS S D t d = S d := if_neg (by omega)
    rw [this]
theorem used_up (S : Nat → Nat × Nat × Nat) (D : Nat) (t : Nat × Nat × Nat) (i : Nat) : ∀ d, d ≤ D → used (upS S D t) i d = used S i d
  | 0, _ => rfl
  | d + 1, h => by
    rw [used, used, used_up S D t i d (by omega)]
    have : upS S D t d = S d := if_neg (by omega)
    rw [this]
theorem up_at (S : Nat → Nat × Nat × Nat) (D : Nat) (t : Nat × Nat × Nat) : upS S D t D = t := if_pos rfl
theorem used_le (S : Nat → Nat × Nat × Nat) (i : Nat) : ∀ d, used S i d ≤ d
  | 0 => Nat.le_refl _
  | d + 1 => by have := used_le S i d; rw [used]; split <;> omega
theorem used_mon (S : Nat → Nat × Nat × Nat) (i : Nat) {a b : Nat} (h : a ≤ b) : used S i a ≤ used S i b := by
  induction b with
  | zero => rw [show a = 0 by omega]; omega
  | succ b ih =>
    by_cases e : a = b + 1
    · rw [e]; omega
    · have := ih (by omega)
      rw [used]
      omega
theorem wk_back {K : Nat} {HS : Nat → Int64} {SC : Nat → Int32} {G : Int64} {D : Nat} {S : Nat → Nat × Nat × Nat} {M M' : Nat} (h : Wk K HS SC G D S M) (hM : M ≤ M') (hM2 : M' ≤ 100000) : Wk K HS SC G (D - 1) S M' :=
  ⟨hM2, by have := h.2.1; omega, fun d hd => h.2.2.1 d (by omega), fun i hi => Nat.le_trans (used_mon S i (by omega)) (h.2.2.2 i hi)⟩
theorem wk_M {K : Nat} {HS : Nat → Int64} {SC : Nat → Int32} {G : Int64} {D : Nat} {S : Nat → Nat × Nat × Nat} {M M' : Nat} (h : Wk K HS SC G D S M) (hM : M ≤ M') (hM2 : M' ≤ 100000) : Wk K HS SC G D S M' :=
  ⟨hM2, by have := h.2.1; omega, h.2.2.1, h.2.2.2⟩
theorem sub_and {m o : Int64} : m &&& o = m ↔ sub m o := by
  constructor
  · intro h k hk
    have h1 := congrArg (fun x => bt x k) h
    simp only [bt_and, hk, Bool.true_and] at h1
    exact h1
  · intro h
    apply bt_ext
    intro k hk
    rw [bt_and]
    cases hb : bt m k with
    | false => rfl
    | true => rw [h k hb]; rfl
/-- the form begins where it is laid -/
theorem shp_0 {s : Int64} (h : s ≠ 0) : bt (shp s) 0 = true := by
  unfold shp
  rw [ju_bt s (lb_ne h), Nat.add_zero]
  exact lb_bit h
theorem mv_at {HS : Nat → Int64} {b i f : Nat} (hb : b < 64) (hn : ff HS i f ≠ 0) : bt (mv HS (b, i, f)) b = true := by
  unfold mv
  dsimp only
  rw [js_bt _ hb hb, Nat.sub_self, shp_0 hn, decide_eq_true (Nat.le_refl b)]
  rfl
theorem wk_take {K : Nat} {HS : Nat → Int64} {SC : Nat → Int32} {G : Int64} {D : Nat} {S : Nat → Nat × Nat × Nat} {M M' i f : Nat} (h : Wk K HS SC G D S M) (hM : M + 1 ≤ M') (hM2 : M' ≤ 100000) (ho : opn HS G D S ≠ 0) (hi : i < K) (hf : f < nfo HS i) (hn : ff HS i f ≠ 0) (hl : lefs SC S D i ≠ 0) (ht : fit HS (opn HS G D S) i f = true) : Wk K HS SC G (D + 1) (upS S D (lb (opn HS G D S), i, f)) M' := by
  have hb := lb_ne ho
  rw [fit, Bool.and_eq_true, decide_eq_true_eq] at ht
  refine ⟨hM2, by have := h.2.1; omega, fun d hd => ?_, fun j hj => ?_⟩
  · by_cases e : d = D
    · rw [e, up_at, cov_up HS S D _ D (Nat.le_refl _)]
      exact ⟨hb, hi, hf, mv_at hb hn, sub_and.mp ht.2⟩
    · have : upS S D (lb (opn HS G D S), i, f) d = S d := if_neg e
      rw [this, cov_up HS S D _ d (by omega)]
      exact h.2.2.1 d (by omega)
  · rw [used, used_up S D _ j D (Nat.le_refl _), up_at]
    have h1 := h.2.2.2 j hj
    unfold lefs at hl
    dsimp only
    by_cases e : i = j
    · rw [if_pos e]
      rw [e] at hl
      omega
    · rw [if_neg e]
      exact h1
/-- each form that is laid covers a square more -/
theorem wk_D {K : Nat} {HS : Nat → Int64} {SC : Nat → Int32} {G : Int64} {D : Nat} {S : Nat → Nat × Nat × Nat} {M : Nat} (h : Wk K HS SC G D S M) : ∀ d, d ≤ D → sub (cov HS S d) G ∧ d ≤ cnt (cov HS S d) 64
  | 0, _ => ⟨fun j hj => absurd (show bt 0 j = true from hj) (by rw [bt_0]; decide), Nat.zero_le _⟩
  | d + 1, hd => by
    have ih := wk_D h d (by omega)
    have h1 := h.2.2.1 d (by omega)
    have h2 : bt (cov HS S d) (S d).1 = false := by
      have h3 := h1.2.2.2.2 _ h1.2.2.2.1
      rw [bt_and, xm1_bt _ h1.1, Bool.and_eq_true, Bool.not_eq_true'] at h3
      exact h3.2
    rw [cov]
    constructor
    · intro j hj
      rw [bt_or, Bool.or_eq_true] at hj
      rcases hj with hj | hj
      · exact ih.1 j hj
      · have := h1.2.2.2.2 j hj
        rw [bt_and, Bool.and_eq_true] at this
        exact this.1
    · have h4 : cnt (cov HS S d) 64 < cnt (cov HS S d ||| mv HS (S d)) 64 := by
        apply cnt_grow
        · intro j hj
          rw [bt_or, hj, Bool.true_or]
        · intro e
          have h5 := congrArg (fun x => bt x (S d).1) e
          simp only [bt_or, h2, h1.2.2.2.1] at h5
          cases h5
      omega
theorem wk_64 {K : Nat} {HS : Nat → Int64} {SC : Nat → Int32} {G : Int64} {D : Nat} {S : Nat → Nat × Nat × Nat} {M : Nat} (h : Wk K HS SC G D S M) : D ≤ 64 := by
  have h1 := (wk_D h D (Nat.le_refl _)).2
  have h2 := cnt_le (cov HS S D) 64
  omega
theorem wk_63 {K : Nat} {HS : Nat → Int64} {SC : Nat → Int32} {G : Int64} {D : Nat} {S : Nat → Nat × Nat × Nat} {M : Nat} (h : Wk K HS SC G D S M) (ho : opn HS G D S ≠ 0) : D < 64 := by
  have h1 := (wk_D h D (Nat.le_refl _)).2
  obtain ⟨k, hk, hb⟩ := bt_any ho
  rw [opn, bt_and, xm1_bt _ hk, Bool.and_eq_true, Bool.not_eq_true'] at hb
  have h2 := cnt_set hk hb.2
  have h3 := cnt_le (cov HS S D ||| mj_js 1 (Int32.ofNat k)) 64
  omega
/-- what was open before the last form isn't nothing -/
theorem wk_open {K : Nat} {HS : Nat → Int64} {SC : Nat → Int32} {G : Int64} {D : Nat} {S : Nat → Nat × Nat × Nat} {M : Nat} (h : Wk K HS SC G D S M) (hD : 0 < D) : opn HS G (D - 1) S ≠ 0 := by
  have h1 := h.2.2.1 (D - 1) (by omega)
  exact bt_ne0 (h1.2.2.2.2 _ h1.2.2.2.1)
/-- the search ends; what it ends with -/
theorem big_ok (K : Nat) (HS : Nat → Int64) (SC : Nat → Int32) (G : Int64) (hn : ∀ i, i < K → ∀ f, f < nfo HS i → ff HS i f ≠ 0) : ∀ P D S M b, Wk K HS SC G D S M → 4 * (100000 - M) + 2 * D + (if b = true then 0 else 1) ≤ P → ∃ n code D' S' M', big K HS SC G n b (D, S, M) = some (code, D', S', M') ∧ code ≤ 2 ∧ M ≤ M' ∧ Wk K HS SC G D' S' M' ∧ (code = 1 → opn HS G D' S' = 0 ∧ (b = true → M + 1 ≤ M') ∧ (opn HS G D S ≠ 0 → M + 1 ≤ M')) ∧ (code = 2 → M' = 100000) := by
  intro P
  induction P using Nat.strongRecOn with
  | ind P ih =>
    intro D S M b hw hP
    have hM := hw.1
    have key : ∀ D0 i f, D0 ≤ D → Wk K HS SC G D0 S M → opn HS G D0 S ≠ 0 → (i ≤ K) → (4 * (100000 - M) + 2 * D0 < P) → ∃ n code D' S' M', aft K HS SC G n D0 S (scanS HS (opn HS G D0 S) (lefs SC S D0) (K - i) i f M) = some (code, D', S', M') ∧ code ≤ 2 ∧ M ≤ M' ∧ Wk K HS SC G D' S' M' ∧ (code = 1 → opn HS G D' S' = 0 ∧ M + 1 ≤ M') ∧ (code = 2 → M' = 100000) := by
      intro D0 i f hD0 hw0 ho hi hPP
      have hs := scanS_ok HS (opn HS G D0 S) (lefs SC S D0) (K - i) i f M hM
      generalize scanS HS (opn HS G D0 S) (lefs SC S D0) (K - i) i f M = r at hs
      obtain ⟨c, i', f', M'⟩ := r
      simp only at hs
      rcases (by omega : c = 0 ∨ c = 1 ∨ c = 2) with rfl | rfl | rfl
      · obtain ⟨n, code, D', S', M2, h1, h2, h3, h4, h5, h6⟩ := ih (4 * (100000 - M') + 2 * D0 + 0) (by omega) D0 S M' true (wk_M hw0 hs.2.1 hs.2.2.1) (by simp)
        exact ⟨n, code, D', S', M2, by rw [aft, if_pos rfl]; exact h1, h2, by omega, h4, fun h => ⟨(h5 h).1, by have := (h5 h).2.1 rfl; omega⟩, h6⟩
      · have h7 := hs.2.2.2.1 rfl
        have hw1 := wk_take hw0 h7.2.2.2.2 hs.2.2.1 ho (show i' < K by omega) h7.2.1 (hn i' (by omega) f' h7.2.1) h7.2.2.1 h7.2.2.2.1
        obtain ⟨n, code, D', S', M2, h1, h2, h3, h4, h5, h6⟩ := ih (4 * (100000 - M') + 2 * (D0 + 1) + 1) (by have := h7.2.2.2.2; omega) (D0 + 1) _ M' false hw1 (by simp)
        exact ⟨n, code, D', S', M2, by rw [aft, if_neg (show ¬ ((1 : Nat) = 0) by decide), if_pos rfl]; exact h1, h2, by omega, h4, fun h => ⟨(h5 h).1, by have := h7.2.2.2.2; omega⟩, h6⟩
      · exact ⟨0, 2, D0, S, M', by rw [aft, if_neg (show ¬ ((2 : Nat) = 0) by decide), if_neg (show ¬ ((2 : Nat) = 1) by decide)], by decide, hs.2.1, wk_M hw0 hs.2.1 hs.2.2.1, fun h => absurd h (by decide), fun _ => hs.2.2.2.2 rfl⟩
    cases b with
    | true =>
      by_cases hD : D = 0
      · subst hD
        exact ⟨1, 0, 0, S, M, big_0 K HS SC G 0 S M, by decide, Nat.le_refl _, hw, fun h => absurd h (by decide), fun h => absurd h (by decide)⟩
      · have ho := wk_open hw (by omega)
        have h2 := hw.2.2.1 (D - 1) (by omega)
        obtain ⟨n, code, D', S', M', h3, h4, h5, h6, h7, h8⟩ := key (D - 1) (S (D - 1)).2.1 ((S (D - 1)).2.2 + 1) (by omega) (wk_back hw (Nat.le_refl _) hM) ho (by omega) (by simp at hP; omega)
        exact ⟨n + 1, code, D', S', M', by rw [big_t K HS SC G n D S M (by omega)]; exact h3, h4, h5, h6, fun h => ⟨(h7 h).1, fun _ => (h7 h).2, fun _ => (h7 h).2⟩, h8⟩
    | false =>
      by_cases ho : opn HS G D S = 0
      · exact ⟨1, 1, D, S, M, big_1 K HS SC G 0 D S M ho, by decide, Nat.le_refl _, hw, fun _ => ⟨ho, fun h => absurd h (by decide), fun h => absurd ho h⟩, fun h => absurd h (by decide)⟩
      · obtain ⟨n, code, D', S', M', h3, h4, h5, h6, h7, h8⟩ := key D 0 0 (Nat.le_refl _) hw ho (Nat.zero_le _) (by simp at hP; omega)
        exact ⟨n + 1, code, D', S', M', by rw [big_f K HS SC G n D S M ho]; exact h3, h4, h5, h6, fun h => ⟨(h7 h).1, fun h9 => absurd h9 (by decide), fun _ => (h7 h).2⟩, h8⟩
