/-! squares beyond the heap's width and height do not join it -/
theorem col_apart {a c : Int64} {w : Nat} (ha : ∀ j, bt a j = true → j % 8 < w) (hc : ∀ j, bt c j = true → w < j % 8) : bes a &&& c = 0 ∧ bes c &&& a = 0 ∧ a &&& c = 0 := by
  refine ⟨bt_ext (fun k hk => ?_), bt_ext (fun k hk => ?_), bt_ext (fun k hk => ?_)⟩
  · rw [bt_and, bt_0, Bool.and_eq_false_iff]
    refine Classical.byContradiction (fun z => ?_)
    have h1 : bt (bes a) k = true := by
      cases h : bt (bes a) k with
      | true => rfl
      | false => exact absurd (Or.inl h) z
    have h2 : bt c k = true := by
      cases h : bt c k with
      | true => rfl
      | false => exact absurd (Or.inr h) z
    have h3 := hc k h2
    rw [bes_iff a hk] at h1
    rcases h1 with h | h | h | h
    · have := ha _ h.2; omega
    · have := ha _ h.2; omega
    · have := ha _ h.2; omega
    · have := ha _ h; omega
  · rw [bt_and, bt_0, Bool.and_eq_false_iff]
    refine Classical.byContradiction (fun z => ?_)
    have h1 : bt (bes c) k = true := by
      cases h : bt (bes c) k with
      | true => rfl
      | false => exact absurd (Or.inl h) z
    have h2 : bt a k = true := by
      cases h : bt a k with
      | true => rfl
      | false => exact absurd (Or.inr h) z
    have h3 := ha k h2
    rw [bes_iff c hk] at h1
    rcases h1 with h | h | h | h
    · have := hc _ h.2; omega
    · have := hc _ h.2; omega
    · have := hc _ h.2; omega
    · have := hc _ h; omega
  · rw [bt_and, bt_0, Bool.and_eq_false_iff]
    refine Classical.byContradiction (fun z => ?_)
    have h1 : bt a k = true := by
      cases h : bt a k with
      | true => rfl
      | false => exact absurd (Or.inl h) z
    have h2 : bt c k = true := by
      cases h : bt c k with
      | true => rfl
      | false => exact absurd (Or.inr h) z
    have := ha k h1
    have := hc k h2
    omega
theorem row_apart {a c : Int64} {w : Nat} (ha : ∀ j, bt a j = true → j / 8 < w) (hc : ∀ j, bt c j = true → w < j / 8) : bes a &&& c = 0 ∧ bes c &&& a = 0 ∧ a &&& c = 0 := by
  refine ⟨bt_ext (fun k hk => ?_), bt_ext (fun k hk => ?_), bt_ext (fun k hk => ?_)⟩
  · rw [bt_and, bt_0, Bool.and_eq_false_iff]
    refine Classical.byContradiction (fun z => ?_)
    have h1 : bt (bes a) k = true := by
      cases h : bt (bes a) k with
      | true => rfl
      | false => exact absurd (Or.inl h) z
    have h2 : bt c k = true := by
      cases h : bt c k with
      | true => rfl
      | false => exact absurd (Or.inr h) z
    have h3 := hc k h2
    rw [bes_iff a hk] at h1
    rcases h1 with h | h | h | h
    · have := ha _ h.2; omega
    · have := ha _ h.2; omega
    · have := ha _ h.2; omega
    · have := ha _ h; omega
  · rw [bt_and, bt_0, Bool.and_eq_false_iff]
    refine Classical.byContradiction (fun z => ?_)
    have h1 : bt (bes c) k = true := by
      cases h : bt (bes c) k with
      | true => rfl
      | false => exact absurd (Or.inl h) z
    have h2 : bt a k = true := by
      cases h : bt a k with
      | true => rfl
      | false => exact absurd (Or.inr h) z
    have h3 := ha k h2
    rw [bes_iff c hk] at h1
    rcases h1 with h | h | h | h
    · have := hc _ h.2; omega
    · have := hc _ h.2; omega
    · have := hc _ h.2; omega
    · have := hc _ h; omega
  · rw [bt_and, bt_0, Bool.and_eq_false_iff]
    refine Classical.byContradiction (fun z => ?_)
    have h1 : bt a k = true := by
      cases h : bt a k with
      | true => rfl
      | false => exact absurd (Or.inl h) z
    have h2 : bt c k = true := by
      cases h : bt c k with
      | true => rfl
      | false => exact absurd (Or.inr h) z
    have := ha k h1
    have := hc k h2
    omega
theorem jn_far {s : Int64} (hs : s ≠ 0) {X Y : Nat} (hX : X ≤ 16) (hY : Y ≤ 16) (h : wd s 64 + 9 ≤ X ∨ hg s 64 + 9 ≤ Y) : jn s 1 X Y = 0 := by
  refine jn_0.mpr (fun z => ?_)
  have h2 := z.2
  have w1 := wd_pos hs
  have g1 := hg_pos hs
  rw [tg, w_1.1, w_1.2] at h2
  by_cases c1 : max (wd s 64 + (8 - X)) (1 + (X - 8)) ≤ 8 ∧ max (hg s 64 + (8 - Y)) (1 + (Y - 8)) ≤ 8
  rotate_left
  · rw [if_neg c1, hng_0] at h2
    exact absurd h2 (by decide)
  rw [if_pos c1] at h2
  have k1 : 8 * (8 - Y) + (8 - X) < 64 := by omega
  have k2 : 8 * (Y - 8) + (X - 8) < 64 := by omega
  have hb := lb_bit hs
  have hb1 := wd_lt hb
  have hb2 := hg_lt hb
  have hb3 := bt_lt hb
  have ab : ∀ j, bt (mj_js s (Int32.ofNat (8 * (8 - Y) + (8 - X)))) j = true → 8 * (8 - Y) + (8 - X) ≤ j ∧ bt s (j - (8 * (8 - Y) + (8 - X))) = true := fun j hj => by
    rw [js_bt s k1 (bt_lt hj), Bool.and_eq_true] at hj
    exact ⟨of_decide_eq_true hj.1, hj.2⟩
  have cb : ∀ j, bt (mj_js 1 (Int32.ofNat (8 * (Y - 8) + (X - 8)))) j = true → j = 8 * (Y - 8) + (X - 8) := fun j hj => by
    rw [js1_bt k2 (bt_lt hj)] at hj
    exact of_decide_eq_true hj
  have an : mj_js s (Int32.ofNat (8 * (8 - Y) + (8 - X))) ≠ 0 := fun e => by
    have h3 : bt (mj_js s (Int32.ofNat (8 * (8 - Y) + (8 - X)))) (lb s + (8 * (8 - Y) + (8 - X))) = true := by
      rw [js_bt s k1 (by omega), Nat.add_sub_cancel, hb, Bool.and_true]
      exact decide_eq_true (by omega)
    rw [e, bt_0] at h3
    exact absurd h3 (by decide)
  have cn : mj_js 1 (Int32.ofNat (8 * (Y - 8) + (X - 8))) ≠ 0 := fun e => by
    have h3 : bt (mj_js 1 (Int32.ofNat (8 * (Y - 8) + (X - 8)))) (8 * (Y - 8) + (X - 8)) = true := by
      rw [js1_bt k2 k2]
      exact decide_eq_true rfl
    rw [e, bt_0] at h3
    exact absurd h3 (by decide)
  have hab : bes (mj_js s (Int32.ofNat (8 * (8 - Y) + (8 - X)))) &&& mj_js 1 (Int32.ofNat (8 * (Y - 8) + (X - 8))) = 0 ∧ bes (mj_js 1 (Int32.ofNat (8 * (Y - 8) + (X - 8)))) &&& mj_js s (Int32.ofNat (8 * (8 - Y) + (8 - X))) = 0 ∧ mj_js s (Int32.ofNat (8 * (8 - Y) + (8 - X))) &&& mj_js 1 (Int32.ofNat (8 * (Y - 8) + (X - 8))) = 0 := by
    rcases h with h | h
    · refine col_apart (w := wd s 64) (fun j hj => ?_) (fun j hj => ?_)
      · have h3 := ab j hj
        have h4 := wd_lt h3.2
        omega
      · have h3 := cb j hj
        omega
    · refine row_apart (w := hg s 64) (fun j hj => ?_) (fun j hj => ?_)
      · have h3 := ab j hj
        have h4 := hg_lt h3.2
        have h5 := wd_lt h3.2
        omega
      · have h3 := cb j hj
        omega
  rw [if_pos hab.2.2, apart hab.1 hab.2.1 an cn hab.2.2] at h2
  exact absurd h2 (by decide)
