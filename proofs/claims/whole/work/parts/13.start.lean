/-! the tables' facts, the program's facts; the law's start -/
theorem mj_layg {C : String} {T : u_T} {N : Nat} {w : Cond} (h : w ∈ u_ws C T N) : goodWord w = true := by
  unfold u_ws at h
  obtain ⟨k, -, rfl⟩ := List.mem_map.mp h
  unfold u_lay
  split <;> rfl
def mj_tk (ty : FieldType) (n : Nat) : Bool := match ty with
  | .int => n == 0
  | .long => n == 1
  | .boolean => n == 3
  | .object _ => n == 2
  | .array _ => n == 2
  | _ => false
theorem mj_tk_of {ty : FieldType} {n : Nat} (h : mj_tk ty n = true) : (n = 0 ∧ ty = .int) ∨ (n = 1 ∧ ty = .long) ∨ (n = 3 ∧ ty = .boolean) ∨ (n = 2 ∧ ∃ t, ty = .object t ∨ ∃ t', ty = .array t') := by
  cases ty with
  | int => exact Or.inl ⟨by simpa [mj_tk] using h, rfl⟩
  | long => exact Or.inr (Or.inl ⟨by simpa [mj_tk] using h, rfl⟩)
  | boolean => exact Or.inr (Or.inr (Or.inl ⟨by simpa [mj_tk] using h, rfl⟩))
  | object t => exact Or.inr (Or.inr (Or.inr ⟨by simpa [mj_tk] using h, t, Or.inl rfl⟩))
  | array t => exact Or.inr (Or.inr (Or.inr ⟨by simpa [mj_tk] using h, "", Or.inr ⟨t, rfl⟩⟩))
  | _ => simp [mj_tk] at h
theorem mj_tyk {T : u_T} {ty : Nat → FieldType} {N : Nat} (h : (List.range N).all (fun k => mj_tk (ty k) (mj_tc (T k).2.2.1)) = true) (k : Nat) (hk : k < N) : (mj_tc (T k).2.2.1 = 0 ∧ ty k = .int) ∨ (mj_tc (T k).2.2.1 = 1 ∧ ty k = .long) ∨ (mj_tc (T k).2.2.1 = 3 ∧ ty k = .boolean) ∨ (mj_tc (T k).2.2.1 = 2 ∧ ∃ t, ty k = .object t ∨ ∃ t', ty k = .array t') :=
  mj_tk_of (List.all_eq_true.mp h k (List.mem_range.mpr hk))
theorem mj_tb : mj_Tb := by
  refine ⟨?_, ?_, ?_⟩
  · intro q hq w hw
    refine mj_inw ?_ (mj_layg hw)
    simp only [vwCl, List.mem_cons, List.not_mem_nil, or_false] at hq
    rcases hq with rfl | rfl | rfl | rfl | rfl | rfl
    · exact mj_lay0 w hw
    · exact mj_lay1 w hw
    · exact mj_lay3 w hw
    · exact mj_lay4 w hw
    · exact mj_lay5 w hw
    · exact mj_lay6 w hw
  · intro w hw
    have hg : mj_oth.all goodWord = true := by decide +kernel
    exact mj_inw (mj_othw w hw) (List.all_eq_true.mp hg w hw)
  · intro q hq
    simp only [vwCl, List.mem_cons, List.not_mem_nil, or_false] at hq
    rcases hq with rfl | rfl | rfl | rfl | rfl | rfl
    · exact ⟨tyX0, tyX0_ok, nmX0, mj_tyk (by decide +kernel)⟩
    · exact ⟨tyX1, tyX1_ok, nmX1, mj_tyk (by decide +kernel)⟩
    · exact ⟨tyX3, tyX3_ok, nmX3, mj_tyk (by decide +kernel)⟩
    · exact ⟨tyX4, tyX4_ok, nmX4, mj_tyk (by decide +kernel)⟩
    · exact ⟨tyX5, tyX5_ok, nmX5, mj_tyk (by decide +kernel)⟩
    · exact ⟨tyX6, tyX6_ok, nmX6, mj_tyk (by decide +kernel)⟩
theorem mj_pg : mj_Pg := by
  refine ⟨fun M hM => ?_, fun a M f hM hf hlt => ?_⟩
  · obtain ⟨ct, h1, h2, h3⟩ := mj_prog_ok M hM
    exact ⟨ct, h1, fun w hw => mj_inw (h2 w hw) (List.all_eq_true.mp h3 w hw)⟩
  · have hz : (mj_prog.zip mj_fl)[a]? = some (M, f) := List.getElem?_zip_eq_some.mpr ⟨hM, hf⟩
    rcases mj_cal_ok _ (List.mem_of_getElem? hz) with h7 | ⟨⟨h1, h2, h3, h4, h5⟩, h6⟩
    · dsimp only at h7; omega
    · dsimp only at h1 h2 h3 h4 h5 h6
      simp only [Bool.and_eq_true, Bool.or_eq_true, decide_eq_true_eq] at h6
      obtain ⟨⟨⟨⟨g1, g2⟩, g3⟩, g4⟩, g5⟩ := h6
      refine ⟨⟨mj_inw h1 rfl, mj_inw h2 rfl, fun z => mj_inw (h3 z) rfl, fun z => ⟨mj_inw (h4 z).1 rfl, mj_inw (h4 z).2 rfl⟩, fun z => ?_⟩, ⟨g1, g2⟩, g3, g4⟩
      rcases g5 with g5 | g5
      · exact absurd z g5
      · exact ⟨mj_inw (h5 z) rfl, g5.1, g5.2⟩
