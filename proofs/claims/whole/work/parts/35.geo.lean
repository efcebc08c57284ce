/-! heaps in the corner; what is turned or mirrored lies there too -/
def Nm (s : Int64) : Prop := (∃ x, x < 8 ∧ bt s x = true) ∧ (∃ y, y < 8 ∧ bt s (8 * y) = true) ∧ cnt s 64 ≤ 8
theorem nm_ne {s : Int64} (h : Nm s) : s ≠ 0 := by
  obtain ⟨x, _, hx⟩ := h.1
  exact bt_ne0 hx
theorem wd_pos {s : Int64} (h : s ≠ 0) : 0 < wd s 64 := by
  obtain ⟨k, _, hb⟩ := bt_any h
  have := wd_lt hb
  omega
theorem hg_pos {s : Int64} (h : s ≠ 0) : 0 < hg s 64 := by
  obtain ⟨k, _, hb⟩ := bt_any h
  have := hg_lt hb
  omega
theorem wd_eq {s : Int64} {w : Nat} (h1 : ∀ k, bt s k = true → k % 8 < w) (h2 : 0 < w → ∃ k, bt s k = true ∧ k % 8 + 1 = w) : wd s 64 = w := by
  rcases Nat.lt_trichotomy (wd s 64) w with h | h | h
  · obtain ⟨k, a, b⟩ := h2 (by omega)
    have := wd_lt a
    omega
  · exact h
  · obtain ⟨k, a, b⟩ := wd_at (s := s) (by omega)
    have := h1 k a
    omega
theorem hg_eq {s : Int64} {w : Nat} (h1 : ∀ k, bt s k = true → k / 8 < w) (h2 : 0 < w → ∃ k, bt s k = true ∧ k / 8 + 1 = w) : hg s 64 = w := by
  rcases Nat.lt_trichotomy (hg s 64) w with h | h | h
  · obtain ⟨k, a, b⟩ := h2 (by omega)
    have := hg_lt a
    omega
  · exact h
  · obtain ⟨k, a, b⟩ := hg_at (s := s) (by omega)
    have := h1 k a
    omega
theorem cnt_s (s : Int64) (k : Nat) : cnt s (k + 1) = cnt s k + (if bt s k = true then 1 else 0) := rfl
theorem cnt_0 (s : Int64) : cnt s 0 = 0 := rfl
theorem cnt_z : cnt 0 64 = 0 := by decide
theorem ct_new {p q : Nat → Bool} {i : Nat} (hi : p i = false) (hq : ∀ j, q j = (p j || decide (j = i))) : ∀ n, ct q n = ct p n + (if i < n then 1 else 0)
  | 0 => rfl
  | n + 1 => by
    rw [ct, ct, ct_new hi hq n, hq n]
    by_cases h1 : n = i
    · rw [h1, hi, decide_eq_true rfl, if_neg (Nat.lt_irrefl i), if_pos (Nat.lt_succ_self i)]
      simp
    · rw [decide_eq_false h1, Bool.or_false]
      by_cases h2 : i < n
      · rw [if_pos h2, if_pos (show i < n + 1 by omega)]; omega
      · rw [if_neg h2, if_neg (show ¬ i < n + 1 by omega)]; omega
theorem cnt_set {t : Int64} {p : Nat} (hp : p < 64) (h : bt t p = false) : cnt (t ||| mj_js 1 (Int32.ofNat p)) 64 = cnt t 64 + 1 := by
  rw [cnt_ct, cnt_ct]
  have h1 : ct (bt (t ||| mj_js 1 (Int32.ofNat p))) 64 = ct (fun j => bt t j || decide (j = p)) 64 := by
    apply ct_cong
    intro k hk
    rw [bt_or, js1_bt hp hk]
  rw [h1, ct_new h (fun j => rfl) 64, if_pos hp]
theorem tnd_cnt (s : Int64) (H : Nat) (hH : H ≤ 8) (hs : ∀ k, bt s k = true → k / 8 < H) : ∀ n, n ≤ 64 → cnt (tnd s (Int32.ofNat H) n) 64 = cnt s n
  | 0, _ => by rw [tnd, cnt_0, cnt_z]
  | n + 1, hn => by
    have ih := tnd_cnt s H hH hs n (by omega)
    rw [tnd, cnt_s s n]
    by_cases h1 : bt s n = true
    · have h2 := hs n h1
      rw [if_pos h1, if_pos h1, i_sh (by omega), cnt_set (by omega), ih]
      cases h3 : bt (tnd s (Int32.ofNat H) n) (8 * (n % 8) + H - 1 - n / 8) with
      | false => rfl
      | true =>
        have h4 := (tnd_bt s H hH hs (by omega) n (by omega)).mp h3
        omega
    · rw [if_neg h1, if_neg h1, ih]
      rfl
theorem mrd_cnt (s : Int64) (W : Nat) (hW : W ≤ 8) (hs : ∀ k, bt s k = true → k % 8 < W) : ∀ n, n ≤ 64 → cnt (mrd s (Int32.ofNat W) n) 64 = cnt s n
  | 0, _ => by rw [mrd, cnt_0, cnt_z]
  | n + 1, hn => by
    have ih := mrd_cnt s W hW hs n (by omega)
    rw [mrd, cnt_s s n]
    by_cases h1 : bt s n = true
    · have h2 := hs n h1
      rw [if_pos h1, if_pos h1, i_sh (by omega), cnt_set (by omega), ih]
      cases h3 : bt (mrd s (Int32.ofNat W) n) (8 * (n / 8) + W - 1 - n % 8) with
      | false => rfl
      | true =>
        have h4 := (mrd_bt s W hW hs (by omega) n (by omega)).mp h3
        omega
    · rw [if_neg h1, if_neg h1, ih]
      rfl
theorem qd_cnt (s : Int64) : cnt (qd s) 64 = cnt s 64 := tnd_cnt s _ (hg_le s 64 (by omega)) (fun k hk => hg_lt hk) 64 (Nat.le_refl _)
theorem md_cnt (s : Int64) : cnt (md s) 64 = cnt s 64 := mrd_cnt s _ (wd_le s 64) (fun k hk => wd_lt hk) 64 (Nat.le_refl _)
theorem qd_src {s : Int64} {j : Nat} (h : bt (qd s) j = true) : j < 64 ∧ j % 8 < hg s 64 ∧ bt s (8 * (hg s 64 - 1 - j % 8) + j / 8) = true ∧ j / 8 < wd s 64 := by
  have hj := bt_lt h
  have h1 := (qd_bt s hj).mp h
  have h2 := wd_lt h1.2
  exact ⟨hj, h1.1, h1.2, by omega⟩
theorem qd_dst {s : Int64} {k : Nat} (h : bt s k = true) : bt (qd s) (8 * (k % 8) + (hg s 64 - 1 - k / 8)) = true := by
  have h1 := hg_lt h
  have h2 := hg_le s 64 (by omega)
  have h3 := bt_lt h
  rw [qd_bt s (by omega)]
  refine ⟨by omega, ?_⟩
  rw [← h]
  congr 1
  omega
theorem md_src {s : Int64} {j : Nat} (h : bt (md s) j = true) : j < 64 ∧ j % 8 < wd s 64 ∧ bt s (8 * (j / 8) + (wd s 64 - 1 - j % 8)) = true := by
  have hj := bt_lt h
  have h1 := (md_bt s hj).mp h
  exact ⟨hj, h1.1, h1.2⟩
theorem md_dst {s : Int64} {k : Nat} (h : bt s k = true) : bt (md s) (8 * (k / 8) + (wd s 64 - 1 - k % 8)) = true := by
  have h1 := wd_lt h
  have h2 := wd_le s 64
  have h3 := bt_lt h
  rw [md_bt s (by omega)]
  refine ⟨by omega, ?_⟩
  rw [← h]
  congr 1
  omega
theorem qd_wd {s : Int64} (h : Nm s) : wd (qd s) 64 = hg s 64 := by
  have h2 := hg_le s 64 (by omega)
  refine wd_eq (fun k hk => (qd_src hk).2.1) (fun hp => ?_)
  obtain ⟨x, hx, hb⟩ := h.1
  have h1 := hg_lt hb
  refine ⟨_, qd_dst hb, ?_⟩
  rw [show x / 8 = 0 by omega]
  omega
theorem qd_hg {s : Int64} : hg (qd s) 64 = wd s 64 := by
  have h2 := hg_le s 64 (by omega)
  refine hg_eq (fun k hk => (qd_src hk).2.2.2) (fun hp => ?_)
  obtain ⟨i, a, b⟩ := wd_at hp
  have h1 := hg_lt a
  refine ⟨_, qd_dst a, ?_⟩
  omega
theorem md_wd {s : Int64} (h : Nm s) : wd (md s) 64 = wd s 64 := by
  have h2 := wd_le s 64
  refine wd_eq (fun k hk => (md_src hk).2.1) (fun hp => ?_)
  obtain ⟨y, hy, hb⟩ := h.2.1
  have h1 := wd_lt hb
  refine ⟨_, md_dst hb, ?_⟩
  omega
theorem md_hg {s : Int64} : hg (md s) 64 = hg s 64 := by
  have h2 := wd_le s 64
  refine hg_eq (fun k hk => ?_) (fun hp => ?_)
  · have h3 := md_src hk
    have := hg_lt h3.2.2
    omega
  · obtain ⟨i, a, b⟩ := hg_at hp
    have h1 := wd_lt a
    refine ⟨_, md_dst a, ?_⟩
    omega
theorem nm_qd {s : Int64} (h : Nm s) : Nm (qd s) := by
  have h0 := hg_le s 64 (by omega)
  refine ⟨?_, ?_, by rw [qd_cnt]; exact h.2.2⟩
  · obtain ⟨y, hy, hb⟩ := h.2.1
    have h1 := hg_lt hb
    refine ⟨_, ?_, qd_dst hb⟩
    omega
  · obtain ⟨i, a, b⟩ := hg_at (hg_pos (nm_ne h))
    refine ⟨i % 8, by omega, ?_⟩
    rw [← qd_dst a]
    congr 1
    omega
theorem nm_md {s : Int64} (h : Nm s) : Nm (md s) := by
  have h0 := wd_le s 64
  refine ⟨?_, ?_, by rw [md_cnt]; exact h.2.2⟩
  · obtain ⟨x, hx, hb⟩ := h.1
    refine ⟨_, ?_, md_dst hb⟩
    omega
  · obtain ⟨i, a, b⟩ := wd_at (wd_pos (nm_ne h))
    have := bt_lt a
    refine ⟨i / 8, by omega, ?_⟩
    rw [← md_dst a]
    congr 1
    omega
theorem fs_nm {s : Int64} (h : Nm s) : ∀ i, Nm (fs s i)
  | 0 => h
  | i + 1 => by
    rw [fs]
    split
    · exact nm_md h
    · exact nm_qd (fs_nm h i)
theorem fs_cnt (s : Int64) : ∀ i, cnt (fs s i) 64 = cnt s 64
  | 0 => rfl
  | i + 1 => by
    rw [fs]
    split
    · exact md_cnt s
    · rw [qd_cnt, fs_cnt s i]
theorem fs_wh {s : Int64} (h : Nm s) : ∀ i, (wd (fs s i) 64 = wd s 64 ∧ hg (fs s i) 64 = hg s 64) ∨ (wd (fs s i) 64 = hg s 64 ∧ hg (fs s i) 64 = wd s 64)
  | 0 => Or.inl ⟨rfl, rfl⟩
  | i + 1 => by
    rw [fs]
    split
    · exact Or.inl ⟨md_wd h, md_hg⟩
    · rw [qd_wd (fs_nm h i), qd_hg]
      rcases fs_wh h i with h1 | h1
      · exact Or.inr ⟨h1.2, h1.1⟩
      · exact Or.inl ⟨h1.2, h1.1⟩
theorem ins_mem (q : Nat × (Nat → Int64)) (x : Int64) {i : Nat} (h : i < (ins q x).1) : (ins q x).2 i = x ∨ ∃ k, k < q.1 ∧ (ins q x).2 i = q.2 k := by
  have hp := pl_le q.2 x q.1
  unfold ins at h ⊢
  split at h
  · rename_i h1
    rw [if_pos h1]
    exact Or.inr ⟨i, h, rfl⟩
  · rename_i h1
    rw [if_neg h1]
    simp only at h
    show insf q.2 x q.1 i = x ∨ ∃ k, k < q.1 ∧ insf q.2 x q.1 i = q.2 k
    unfold insf
    by_cases c1 : i < pl q.2 x q.1
    · rw [if_pos c1]; exact Or.inr ⟨i, by omega, rfl⟩
    · rw [if_neg c1]
      by_cases c2 : i = pl q.2 x q.1
      · rw [if_pos c2]; exact Or.inl rfl
      · rw [if_neg c2]; exact Or.inr ⟨i - 1, by omega, rfl⟩
theorem fo_mem (s : Int64) : ∀ k i, i < (fo s k).1 → ∃ j, j < k ∧ (fo s k).2 i = fs s j
  | 0, i, h => absurd h (Nat.not_lt_zero _)
  | k + 1, i, h => by
    rw [fo] at h ⊢
    rcases ins_mem _ _ h with h1 | ⟨m, h1, h2⟩
    · exact ⟨k, by omega, h1⟩
    · obtain ⟨j, h3, h4⟩ := fo_mem s k m h1
      exact ⟨j, by omega, by rw [h2, h4]⟩
theorem fl_mem (s : Int64) (b : Bool) {i : Nat} (h : i < (fl s b).1) : ∃ j, j < 8 ∧ (fl s b).2 i = fs s j := by
  obtain ⟨j, h1, h2⟩ := fo_mem s (fn b) i h
  exact ⟨j, by have := fn_le b; omega, h2⟩
theorem fl_nm {s : Int64} (hn : Nm s) (b : Bool) {i : Nat} (h : i < (fl s b).1) : Nm ((fl s b).2 i) := by
  obtain ⟨j, _, h2⟩ := fl_mem s b h
  rw [h2]
  exact fs_nm hn j
theorem lm_mem (s : Int64) : ∀ k, ∃ j, lm s k = fs s j
  | 0 => ⟨0, rfl⟩
  | k + 1 => by
    rw [lm]
    split
    · exact ⟨k + 1, rfl⟩
    · exact lm_mem s k
theorem lu_nm {s : Int64} (h : Nm s) : lu s = s := by
  obtain ⟨x, hx, hx2⟩ := h.1
  obtain ⟨y, hy, hy2⟩ := h.2.1
  have h1 : lb s / 8 = 0 := by have := lb_mem hx2; omega
  have h2 : lb (cls s) = 0 := by
    have h3 : bt (cls s) 0 = true := (cls_iff s (by decide)).mpr ⟨y, hy, hy2⟩
    have := lb_mem h3
    omega
  rw [lu, if_neg (nm_ne h), h1, h2]
  apply bt_ext
  intro k hk
  rw [ju_bt s (k := 8 * 0 + 0) (by decide)]
  congr 1
  omega
theorem lu_bt {s : Int64} (h : s ≠ 0) (k : Nat) : bt (lu s) k = bt s (8 * (lb s / 8) + lb (cls s) + k) := by
  have h1 := lb_ne h
  have h2 := cls_ne h
  rw [lu, if_neg h, ju_bt s (by omega)]
/-- moved to the corner, a set of 8 squares at most is in the corner -/
theorem lu_cnt_le (s : Int64) (h : s ≠ 0) : cnt (lu s) 64 ≤ cnt s 64 := by
  have h1 := lb_ne h
  have h2 := cls_ne h
  rw [cnt_ct, cnt_ct]
  have e : ct (bt (lu s)) 64 = ct (fun k => bt s (k + (8 * (lb s / 8) + lb (cls s)))) 64 := ct_cong 64 (fun k _ => by rw [lu_bt h]; congr 1; omega)
  have h3 := ct_shift (bt s) (8 * (lb s / 8) + lb (cls s)) 64
  have h4 := ct_none (p := bt s) (a := 64) (8 * (lb s / 8) + lb (cls s)) (fun k hk _ => bt_ge s hk)
  rw [e]
  omega
theorem nm_lu {s : Int64} (h : s ≠ 0) (hc : cnt s 64 ≤ 8) : Nm (lu s) := by
  have h1 := lb_ne h
  have h2 := cls_ne h
  have h3 := lb_bit h
  have h4 : bt (cls s) (lb (cls s)) = true := lb_at _ (by omega)
  obtain ⟨y, hy, hy2⟩ := (cls_iff s h2).mp h4
  have h5 : bt (cls s) (lb s % 8) = true := (cls_iff s (by omega)).mpr ⟨lb s / 8, by omega, by rw [show 8 * (lb s / 8) + lb s % 8 = lb s by omega]; exact h3⟩
  have h6 := lb_mem h5
  have h7 := lb_mem hy2
  refine ⟨⟨lb s % 8 - lb (cls s), by omega, ?_⟩, ⟨y - lb s / 8, by omega, ?_⟩, Nat.le_trans (lu_cnt_le s h) hc⟩
  · rw [lu_bt h, ← h3]; congr 1; omega
  · rw [lu_bt h, ← hy2]; congr 1; omega
