/-! squares beyond the heap's width and height do not join it -/
theorem col_apart {a c : Int64} {w : Nat} (ha : ∀ j, bt a j = true → j % 8 < w) (hc : ∀ j, bt c j = true → w < j % 8) : bes a &&& c = 0 ∧ bes c &&& a = 0 ∧ a &&& c = 0 := by
  refine ⟨bt_ext (fun k hk => ?_), bt_ext (fun k hk => ?_), bt_ext (fun k hk => ?_)⟩
  · rw [bt_and, bt_0, Bool.and_eq_false_iff]
    refine Classical.byContradiction (fun z => ?_)
    have h1 : bt (bes a) k = true := by
      cases h : bt (bes a) k with
      | true => rfl
      | false => exact absurd (Or.inl h) z
    have h2 : bt c k = true := by
      cases h : bt c k with
      | true => rfl
      | false => exact absurd (Or.inr h) z
    have h3 := hc k h2
    rw [bes_iff a hk] at h1
    rcases h1 with h | h | h | h
    · have := ha _ h.2; omega
    · have := ha _ h.2; omega
    · have := ha _ h.2; omega
    · have := ha _ h; omega
  · rw [bt_and, bt_0, Bool.and_eq_false_iff]
    refine Classical.byContradiction (fun z => ?_)
    have h1 : bt (bes c) k = true := by
      cases h : bt (bes c) k with
      | true => rfl
      | false => exact absurd (Or.inl h) z
    have h2 : bt a k = true := by
      cases h : bt a k with
      | true => rfl
      | false => exact absurd (Or.inr h) z
    have h3 := ha k h2
    rw [bes_iff c hk] at h1
    rcases h1 with h | h | h | h
    · have := hc _ h.2; omega
    · have := hc _ h.2; omega
    · have := hc _ h.2; omega
    · have := hc _ h; omega
  · rw [bt_and, bt_0, Bool.and_eq_false_iff]
    refine Classical.byContradiction (fun z => ?_)
    have h1 : bt a k = true := by
      cases h : bt a k with
      | true => rfl
      | false => exact absurd (Or.inl h) z
    have h2 : bt c k = true := by
      cases h : bt c k with
      | true => rfl
      | false => exact absurd (Or.inr h) z
    have := ha k h1
    have := hc k h2
    omega
theorem row_apart {a c : Int64} {w : Nat} (ha : ∀ j, bt a j = true → j / 8 < w) (hc : ∀ j, bt c j = true → w < j / 8) : bes a &&& c = 0 ∧ bes c &&& a = 0 ∧ a &&& c = 0 := by
  refine ⟨bt_ext (fun k hk => ?_), bt_ext (fun k hk => ?_), bt_ext (fun k hk => ?_)⟩
  · rw [bt_and, bt_0, Bool.and_eq_false_iff]
    refine Classical.byContradiction (fun z => ?_)
    have h1 : bt (bes a) k = true := by
      cases h : bt (bes a) k with
      | true => rfl
      | false => exact absurd (Or.inl h) z
    have h2 : bt c k = true := by
      cases h : bt c k with
      | true => rfl
      | false => exact absurd (Or.inr h) z
    have h3 := hc k h2
    rw [bes_iff a hk] at h1
    rcases h1 with h | h | h | h
    · have := ha _ h.2; omega
    · have := ha _ h.2; omega
    · have := ha _ h.2; omega
    · have := ha _ h; omega
  · rw [bt_and, bt_0, Bool.and_eq_false_iff]
    refine Classical.byContradiction (fun z => ?_)
    have h1 : bt (bes c) k = true := by
      cases h : bt (bes c) k with
      | true => rfl
      | false => exact absurd (Or.inl h) z
    have h2 : bt a k = true := by
      cases h : bt a k with
      | true => rfl
      | false => exact absurd (Or.inr h) z
    have h3 := ha k h2
    rw [bes_iff c hk] at h1
    rcases h1 with h | h | h | h
    · have := hc _ h.2; omega
    · have := hc _ h.2; omega
    · have := hc _ h.2; omega
    · have := hc _ h; omega
  · rw [bt_and, bt_0, Bool.and_eq_false_iff]
    refine Classical.byContradiction (fun z => ?_)
    have h1 : bt a k = true := by
      cases h : bt a k with
      | true => rfl
      | false => exact absurd (Or.inl h) z
    have h2 : bt c k = true := by
      cases h : bt c k with
      | true => rfl
      | false => exact absurd (Or.inr h) z
    have := ha k h1
    have := hc k h2
    omega
