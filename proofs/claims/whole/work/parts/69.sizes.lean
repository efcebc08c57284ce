/-! the lists' lengths: a list of numbers that holds each -/
def EN0 : List (Nat × Nat × Nat) := [(1, 1, 1)]
def EN1 : List (Nat × Nat × Nat) := [(3, 2, 1), (257, 1, 2)]
def EN2 : List (Nat × Nat × Nat) := [(7, 3, 1), (259, 2, 2), (515, 2, 2), (769, 2, 2), (770, 2, 2), (65793, 1, 3)]
def EN3 : List (Nat × Nat × Nat) := [(15, 4, 1), (263, 3, 2), (519, 3, 2), (771, 2, 2), (774, 3, 2), (1031, 3, 2), (1539, 3, 2), (1793, 3, 2), (1794, 3, 2), (1796, 3, 2), (65795, 2, 3), (66305, 2, 3), (66306, 2, 3), (131587, 2, 3), (131841, 2, 3), (131842, 2, 3), (196865, 2, 3), (197122, 2, 3), (16843009, 1, 4)]
def EN4 : List (Nat × Nat × Nat) := [(31, 5, 1), (271, 4, 2), (527, 4, 2), (775, 3, 2), (782, 4, 2), (1039, 4, 2), (1287, 3, 2), (1543, 3, 2), (1795, 3, 2), (1797, 3, 2), (1798, 3, 2), (1804, 4, 2), (2063, 4, 2), (3079, 4, 2), (3587, 4, 2), (3841, 4, 2), (3842, 4, 2), (3844, 4, 2), (3848, 4, 2), (65799, 3, 3), (66307, 2, 3), (66310, 3, 3), (67329, 3, 3), (67330, 3, 3), (67332, 3, 3), (131591, 3, 3), (131843, 2, 3), (131846, 3, 3), (132611, 3, 3), (132865, 3, 3), (132866, 3, 3), (132868, 3, 3), (196867, 2, 3), (197123, 2, 3), (197126, 3, 3), (197377, 2, 3), (197378, 2, 3), (198146, 3, 3), (198148, 3, 3), (263175, 3, 3), (263683, 3, 3), (263937, 3, 3), (263938, 3, 3), (263940, 3, 3), (393731, 3, 3), (393985, 3, 3), (393986, 3, 3), (459009, 3, 3), (459266, 3, 3), (459780, 3, 3), (16843011, 2, 4), (16843521, 2, 4), (16843522, 2, 4), (16974081, 2, 4), (16974338, 2, 4), (33686019, 2, 4), (33686273, 2, 4), (33686274, 2, 4), (33751297, 2, 4), (33751554, 2, 4), (50397441, 2, 4), (50463234, 2, 4), (4311810305, 1, 5)]
def EN5 : List (Nat × Nat × Nat) := [(63, 6, 1), (287, 5, 2), (543, 5, 2), (783, 4, 2), (798, 5, 2), (1055, 5, 2), (1295, 4, 2), (1551, 4, 2), (1799, 3, 2), (1805, 4, 2), (1806, 4, 2), (1820, 5, 2), (2079, 5, 2), (2319, 4, 2), (2575, 4, 2), (2830, 4, 2), (3087, 4, 2), (3335, 4, 2), (3591, 4, 2), (3595, 4, 2), (3843, 4, 2), (3845, 4, 2), (3846, 4, 2), (3849, 4, 2), (3850, 4, 2), (3852, 4, 2), (3864, 5, 2), (4127, 5, 2), (6159, 5, 2), (7175, 5, 2), (7683, 5, 2), (7937, 5, 2), (7938, 5, 2), (7940, 5, 2), (7944, 5, 2), (7952, 5, 2), (65807, 4, 3), (66311, 3, 3), (66318, 4, 3), (66823, 3, 3), (67331, 3, 3), (67333, 3, 3), (67334, 3, 3), (67340, 4, 3), (69377, 4, 3), (69378, 4, 3), (69380, 4, 3), (69384, 4, 3), (131599, 4, 3), (131847, 3, 3), (131854, 4, 3), (132615, 3, 3), (132867, 3, 3), (132869, 3, 3), (132870, 3, 3), (132876, 4, 3), (134659, 4, 3), (134913, 4, 3), (134914, 4, 3), (134916, 4, 3), (134920, 4, 3), (196871, 3, 3), (197127, 3, 3), (197134, 4, 3), (197379, 2, 3), (197382, 3, 3), (198147, 3, 3), (198150, 3, 3), (198156, 4, 3), (198401, 3, 3), (198402, 3, 3), (198404, 3, 3), (200194, 4, 3), (200196, 4, 3), (200200, 4, 3), (263183, 4, 3), (263431, 3, 3), (263687, 3, 3), (263939, 3, 3), (263941, 3, 3), (263942, 3, 3), (263948, 4, 3), (265223, 4, 3), (265731, 4, 3), (265985, 4, 3), (265986, 4, 3), (265988, 4, 3), (265992, 4, 3), (329473, 3, 3), (329474, 3, 3), (329476, 3, 3), (393735, 3, 3), (393987, 3, 3), (393990, 3, 3), (394247, 3, 3), (394755, 3, 3), (395009, 3, 3), (395010, 3, 3), (395012, 3, 3), (459011, 3, 3), (459267, 3, 3), (459270, 3, 3), (459521, 3, 3), (459522, 3, 3), (459782, 3, 3), (459788, 4, 3), (460033, 3, 3), (460036, 3, 3), (460290, 3, 3), (460292, 3, 3), (461828, 4, 3), (461832, 4, 3), (526351, 4, 3), (527367, 4, 3), (527875, 4, 3), (528129, 4, 3), (528130, 4, 3), (528132, 4, 3), (528136, 4, 3), (787463, 4, 3), (787971, 4, 3), (788225, 4, 3), (788226, 4, 3), (788228, 4, 3), (918019, 4, 3), (918273, 4, 3), (918274, 4, 3), (983297, 4, 3), (983554, 4, 3), (984068, 4, 3), (985096, 4, 3), (16843015, 3, 4), (16843523, 2, 4), (16843526, 3, 4), (16844545, 3, 4), (16844546, 3, 4), (16844548, 3, 4), (16974083, 2, 4), (16974339, 2, 4), (16974342, 3, 4), (16974593, 2, 4), (16974594, 2, 4), (16975362, 3, 4), (16975364, 3, 4), (17236225, 3, 4), (17236482, 3, 4), (17236996, 3, 4), (33686023, 3, 4), (33686275, 2, 4), (33686278, 3, 4), (33687043, 3, 4), (33687297, 3, 4), (33687298, 3, 4), (33687300, 3, 4), (33751299, 2, 4), (33751555, 2, 4), (33751558, 3, 4), (33751809, 2, 4), (33751810, 2, 4), (33752578, 3, 4), (33752580, 3, 4), (33948163, 3, 4), (33948417, 3, 4), (33948418, 3, 4), (34013441, 3, 4), (34013698, 3, 4), (34014212, 3, 4), (50397443, 2, 4), (50397953, 2, 4), (50397954, 2, 4), (50463235, 2, 4), (50463238, 3, 4), (50463489, 2, 4), (50463490, 2, 4), (50464258, 3, 4), (50464260, 3, 4), (50528513, 2, 4), (50528770, 2, 4), (50725378, 3, 4), (50725892, 3, 4), (67372039, 3, 4), (67372547, 3, 4), (67372801, 3, 4), (67372802, 3, 4), (67372804, 3, 4), (67502595, 3, 4), (67502849, 3, 4), (67502850, 3, 4), (67567873, 3, 4), (67568130, 3, 4), (67568644, 3, 4), (100794883, 3, 4), (100795137, 3, 4), (100795138, 3, 4), (100860161, 3, 4), (100860418, 3, 4), (117506305, 3, 4), (117572098, 3, 4), (117703684, 3, 4), (4311810307, 2, 5), (4311810817, 2, 5), (4311810818, 2, 5), (4311941377, 2, 5), (4311941634, 2, 5), (4345364737, 2, 5), (4345430530, 2, 5), (8623620611, 2, 5), (8623620865, 2, 5), (8623620866, 2, 5), (8623685889, 2, 5), (8623686146, 2, 5), (8640332033, 2, 5), (8640397826, 2, 5), (12901744897, 2, 5), (12918587906, 2, 5), (1103823438081, 1, 6)]
def frc (v : Nat) (f : Nat → Bool) : Bool := match v with
  | 0 => f 0
  | k + 1 => f (k + 1)
theorem frc_is (v : Nat) (f : Nat → Bool) : frc v f = f v := by cases v <;> rfl
def jnx (s : Int64) (w g X Y : Nat) : Int64 :=
  if max (w + (8 - X)) (1 + (X - 8)) ≤ 8 ∧ max (g + (8 - Y)) (1 + (Y - 8)) ≤ 8 then
    (if mj_js s (Int32.ofNat (8 * (8 - Y) + (8 - X))) &&& mj_js 1 (Int32.ofNat (8 * (Y - 8) + (X - 8))) = 0 then
      (if bes (mj_js s (Int32.ofNat (8 * (8 - Y) + (8 - X)))) &&& mj_js 1 (Int32.ofNat (8 * (Y - 8) + (X - 8))) = 0 ∧ bes (mj_js 1 (Int32.ofNat (8 * (Y - 8) + (X - 8)))) &&& mj_js s (Int32.ofNat (8 * (8 - Y) + (8 - X))) = 0 ∧ mj_js s (Int32.ofNat (8 * (8 - Y) + (8 - X))) ≠ 0 ∧ mj_js 1 (Int32.ofNat (8 * (Y - 8) + (X - 8))) ≠ 0 then 0
       else mj_js s (Int32.ofNat (8 * (8 - Y) + (8 - X))) ||| mj_js 1 (Int32.ofNat (8 * (Y - 8) + (X - 8))))
     else 0) else 0
theorem w_1 : wd 1 64 = 1 ∧ hg 1 64 = 1 := by decide +kernel
theorem jn_x (s : Int64) (X Y : Nat) (h : jn s 1 X Y ≠ 0) : jn s 1 X Y = jnx s (wd s 64) (hg s 64) X Y := by
  have h1 : cnt (tg s 1 X Y) 64 ≤ 8 ∧ hng (tg s 1 X Y) = true := Classical.byContradiction (fun z => h (jn_0.mpr z))
  have h2 : jn s 1 X Y = tg s 1 X Y := by rw [jn, if_pos h1]
  rw [h2]
  have h3 := h1.2
  rw [jnx]
  rw [tg, w_1.1, w_1.2] at h3 ⊢
  split
  · rename_i c1
    rw [if_pos c1] at h3
    split
    · rename_i c2
      rw [if_pos c2] at h3
      split
      · rename_i c3
        rw [apart c3.1 c3.2.1 c3.2.2.1 c3.2.2.2 c2] at h3
        exact absurd h3 (by decide)
      · rfl
    · rfl
  · rfl
def tn (x : Int64) : Nat := x.toBitVec.toNat
def chk (l l' : List (Nat × Nat × Nat)) : Bool := l.all (fun e => decide (wd (Int64.ofNat e.1) 64 = e.2.1) && (decide (hg (Int64.ofNat e.1) 64 = e.2.2) && (List.range 100).all (fun i => frc (tn (jnx (Int64.ofNat e.1) e.2.1 e.2.2 (i % 10 + 7) (i / 10 + 7))) (fun v => Nat.beq v 0 || l'.any (fun e' => Nat.beq e'.1 v)))))
theorem chk_0 : chk EN0 EN1 = true := by decide +kernel
theorem chk_1 : chk EN1 EN2 = true := by decide +kernel
theorem chk_2 : chk EN2 EN3 = true := by decide +kernel
theorem chk_3 : chk EN3 EN4 = true := by decide +kernel
theorem chk_4 : chk EN4 EN5 = true := by decide +kernel
def inE (l : List (Nat × Nat × Nat)) (x : Int64) : Prop := ∃ e, e ∈ l ∧ x = Int64.ofNat e.1
theorem tn_of (x : Int64) : Int64.ofNat (tn x) = x := by
  apply Int64.toBitVec_inj.mp
  rw [Int64.toBitVec_ofNat']
  show BitVec.ofNat 64 x.toBitVec.toNat = x.toBitVec
  rw [BitVec.ofNat_toNat, BitVec.setWidth_eq]
theorem chk_jn {l l' : List (Nat × Nat × Nat)} (hc : chk l l' = true) {s : Int64} (hs : inE l s) {i : Nat} (hi : i < 100) (hj : jn s 1 (i % 10 + 7) (i / 10 + 7) ≠ 0) : inE l' (jn s 1 (i % 10 + 7) (i / 10 + 7)) := by
  obtain ⟨e, he, rfl⟩ := hs
  have h1 := List.all_eq_true.mp hc e he
  rw [Bool.and_eq_true, Bool.and_eq_true] at h1
  have h2 := of_decide_eq_true h1.1
  have h3 := of_decide_eq_true h1.2.1
  have h4 := List.all_eq_true.mp h1.2.2 i (List.mem_range.mpr hi)
  rw [frc_is] at h4
  have h5 := jn_x _ _ _ hj
  rw [h2, h3] at h5
  rw [← h5] at h4
  rw [Bool.or_eq_true] at h4
  rcases h4 with h4 | h4
  · have h6 := Nat.eq_of_beq_eq_true h4
    have h7 := tn_of (jn (Int64.ofNat e.1) 1 (i % 10 + 7) (i / 10 + 7))
    rw [h6] at h7
    exact absurd h7.symm hj
  · obtain ⟨e', he', h6⟩ := List.any_eq_true.mp h4
    have h7 := Nat.eq_of_beq_eq_true h6
    exact ⟨e', he', by rw [h7, tn_of]⟩
def aE (l : List (Nat × Nat × Nat)) (q : Nat × (Nat → Int64)) : Prop := ∀ i, i < q.1 → inE l (q.2 i)
theorem aE_ins {l : List (Nat × Nat × Nat)} {q : Nat × (Nat → Int64)} (h : aE l q) {x : Int64} (hx : inE l x) : aE l (ins q x) := fun i hi => by
  rcases ins_mem q x hi with e | ⟨k, hk, e⟩
  · rw [e]; exact hx
  · rw [e]; exact h k hk
theorem aE_step {l l' : List (Nat × Nat × Nat)} (hc : chk l l' = true) {s : Int64} (hs : inE l s) {q : Nat × (Nat → Int64)} (h : aE l' q) : ∀ i, i ≤ 100 → aE l' (lstep s q i)
  | 0, _ => h
  | i + 1, hi => by
    rw [lstep_s]
    split
    · exact aE_step hc hs h i (by omega)
    · rename_i h1
      exact aE_ins (aE_step hc hs h i (by omega)) (chk_jn hc hs (by omega) h1)
theorem aE_all {l l' : List (Nat × Nat × Nat)} (hc : chk l l' = true) {p : Nat × (Nat → Int64)} (hp : aE l p) : ∀ k, k ≤ p.1 → aE l' (lall p k)
  | 0, _ => fun i hi => absurd hi (Nat.not_lt_zero _)
  | k + 1, hk => by
    rw [lall_s]
    exact aE_step hc (hp k (by omega)) (aE_all hc hp k (by omega)) 100 (Nat.le_refl _)
theorem aE_0 : aE EN0 (LA 0) := fun i hi => ⟨(1, 1, 1), by decide, rfl⟩
theorem aE_1 : aE EN1 (LA 1) := aE_all chk_0 aE_0 _ (Nat.le_refl _)
theorem aE_2 : aE EN2 (LA 2) := aE_all chk_1 aE_1 _ (Nat.le_refl _)
theorem aE_3 : aE EN3 (LA 3) := aE_all chk_2 aE_2 _ (Nat.le_refl _)
theorem aE_4 : aE EN4 (LA 4) := aE_all chk_3 aE_3 _ (Nat.le_refl _)
theorem aE_5 : aE EN5 (LA 5) := aE_all chk_4 aE_4 _ (Nat.le_refl _)
theorem pigeon : ∀ (m : Nat) (l : List Nat) (f : Nat → Nat), (∀ i j, i < j → j < m → f i ≠ f j) → (∀ i, i < m → f i ∈ l) → m ≤ l.length
  | 0, _, _, _, _ => Nat.zero_le _
  | m + 1, l, f, h1, h2 => by
    have h3 := h2 m (by omega)
    have h4 := pigeon m (l.erase (f m)) f (fun i j a b => h1 i j a (by omega)) (fun i hi => (List.mem_erase_of_ne (h1 i m hi (by omega))).mpr (h2 i (by omega)))
    have h5 := List.length_erase_of_mem h3
    have h6 := List.length_pos_of_mem h3
    omega
theorem aE_len {l : List (Nat × Nat × Nat)} {q : Nat × (Nat → Int64)} (h : aE l q) (hs : sr q) : q.1 ≤ l.length := by
  have h1 := pigeon q.1 (l.map (fun e => tn (Int64.ofNat e.1))) (fun i => tn (q.2 i)) (fun i j a b e => ?_) (fun i hi => ?_)
  · rw [List.length_map] at h1
    exact h1
  · have h2 := hs i j a b
    have h3 : q.2 i = q.2 j := by
      have := tn_of (q.2 i)
      rw [e, tn_of] at this
      exact this.symm
    rw [h3] at h2
    exact False.elim (Int64.lt_irrefl h2)
  · obtain ⟨e, he, hx⟩ := h i hi
    exact List.mem_map.mpr ⟨e, he, by rw [hx]⟩
theorem la_ok : LAok := ⟨rfl, aE_len aE_1 (LA_sr 1), aE_len aE_2 (LA_sr 2), aE_len aE_3 (LA_sr 3), aE_len aE_4 (LA_sr 4), aE_len aE_5 (LA_sr 5)⟩
