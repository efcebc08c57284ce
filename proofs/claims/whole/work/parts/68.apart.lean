/-! a square that is not beside a heap does not join it -/
theorem bes_mono {m a : Int64} (hm : sub m a) {k : Nat} (hk : k < 64) (h : bt (bes m) k = true) : bt (bes a) k = true := by
  rw [bes_iff m hk] at h
  rw [bes_iff a hk]
  rcases h with h | h | h | h
  · exact Or.inl ⟨h.1, hm _ h.2⟩
  · exact Or.inr (Or.inl ⟨h.1, hm _ h.2⟩)
  · exact Or.inr (Or.inr (Or.inl ⟨h.1, hm _ h.2⟩))
  · exact Or.inr (Or.inr (Or.inr (hm _ h)))
theorem side_step {a c m : Int64} (h : bes a &&& c = 0) (hm : sub m a) : sub ((m ||| bes m) &&& (a ||| c)) a := fun j hj => by
  have hk := bt_lt hj
  rw [bt_and, bt_or, bt_or, Bool.and_eq_true, Bool.or_eq_true, Bool.or_eq_true] at hj
  rcases hj.2 with h1 | h1
  · exact h1
  · rcases hj.1 with h2 | h2
    · exact hm j h2
    · have h3 := bes_mono hm hk h2
      have h4 : bt (bes a &&& c) j = true := by rw [bt_and, h3, h1]; rfl
      rw [h, bt_0] at h4
      exact absurd h4 (by decide)
theorem side_rch {a c : Int64} (h : bes a &&& c = 0) : ∀ n m, sub m a → sub (rch (a ||| c) n m) a
  | 0, m, hm => hm
  | n + 1, m, hm => by
    rw [rch]
    split
    · exact hm
    · exact side_rch h n _ (side_step h hm)
theorem side_no {a c : Int64} (h1 : bes a &&& c = 0) (hc : c ≠ 0) (hd : a &&& c = 0) (hs : sub ((a ||| c) &&& -(a ||| c)) a) : hng (a ||| c) = false := by
  refine decide_eq_false (fun z => ?_)
  have h2 := side_rch h1 64 _ hs
  rw [z.2] at h2
  have h3 := lb_bit hc
  have h4 := h2 (lb c) (by rw [bt_or, h3, Bool.or_true])
  have h5 : bt (a &&& c) (lb c) = true := by rw [bt_and, h4, h3]; rfl
  rw [hd, bt_0] at h5
  exact absurd h5 (by decide)
theorem or_c (a c : Int64) : a ||| c = c ||| a := bt_ext (fun k hk => by rw [bt_or, bt_or, Bool.or_comm])
theorem and_c (a c : Int64) : a &&& c = c &&& a := bt_ext (fun k hk => by rw [bt_and, bt_and, Bool.and_comm])
theorem apart {a c : Int64} (h1 : bes a &&& c = 0) (h2 : bes c &&& a = 0) (ha : a ≠ 0) (hc : c ≠ 0) (hd : a &&& c = 0) : hng (a ||| c) = false := by
  have ht : a ||| c ≠ 0 := fun z => by
    have h3 := lb_bit ha
    have h4 : bt (a ||| c) (lb a) = true := by rw [bt_or, h3]; rfl
    rw [z, bt_0] at h4
    exact absurd h4 (by decide)
  have hb := lb_bit ht
  have hlow : ∀ b : Int64, bt b (lb (a ||| c)) = true → sub ((a ||| c) &&& -(a ||| c)) b := fun b hbb j hj => by
    rw [bt_low hb (fun j hj => lb_lt _ hj) (bt_lt hj)] at hj
    rw [of_decide_eq_true hj]
    exact hbb
  have hb2 := hb
  rw [bt_or, Bool.or_eq_true] at hb2
  rcases hb2 with h5 | h5
  · exact side_no h1 hc hd (hlow a h5)
  · have h6 := hlow c h5
    rw [or_c] at h6 ⊢
    exact side_no h2 ha (by rw [and_c]; exact hd) h6
