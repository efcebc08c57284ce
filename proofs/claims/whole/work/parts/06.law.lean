/-! the law is the code that the Statement speaks of: decided, a block a row -/
theorem mj_okb176_0 : mj_seg mj_ct10 mj_M176 0 mj_B176_0 = true := by decide +kernel
theorem mj_okb176_18 : mj_seg mj_ct10 mj_M176 18 mj_B176_18 = true := by decide +kernel
theorem mj_okb176_168 : mj_seg mj_ct10 mj_M176 168 mj_B176_168 = true := by decide +kernel
theorem mj_okb176_221 : mj_seg mj_ct10 mj_M176 221 mj_B176_221 = true := by decide +kernel
theorem mj_okb176_234 : mj_seg mj_ct10 mj_M176 234 mj_B176_234 = true := by decide +kernel
theorem mj_okb176_258 : mj_seg mj_ct10 mj_M176 258 mj_B176_258 = true := by decide +kernel
theorem mj_okb176_291 : mj_seg mj_ct10 mj_M176 291 mj_B176_291 = true := by decide +kernel
theorem mj_okb176_315 : mj_seg mj_ct10 mj_M176 315 mj_B176_315 = true := by decide +kernel
theorem mj_okb176_338 : mj_seg mj_ct10 mj_M176 338 mj_B176_338 = true := by decide +kernel
theorem mj_okb176_339 : mj_seg mj_ct10 mj_M176 339 mj_B176_339 = true := by decide +kernel
theorem mj_okb176_365 : mj_seg mj_ct10 mj_M176 365 mj_B176_365 = true := by decide +kernel
theorem mj_okb176_366 : mj_seg mj_ct10 mj_M176 366 mj_B176_366 = true := by decide +kernel
theorem mj_okb176_375 : mj_seg mj_ct10 mj_M176 375 mj_B176_375 = true := by decide +kernel
theorem mj_okb176_399 : mj_seg mj_ct10 mj_M176 399 mj_B176_399 = true := by decide +kernel
theorem mj_okb176_432 : mj_seg mj_ct10 mj_M176 432 mj_B176_432 = true := by decide +kernel
theorem mj_okb176_455 : mj_seg mj_ct10 mj_M176 455 mj_B176_455 = true := by decide +kernel
theorem mj_okb176_456 : mj_seg mj_ct10 mj_M176 456 mj_B176_456 = true := by decide +kernel
theorem mj_okb176_482 : mj_seg mj_ct10 mj_M176 482 mj_B176_482 = true := by decide +kernel
theorem mj_okb176_483 : mj_seg mj_ct10 mj_M176 483 mj_B176_483 = true := by decide +kernel
theorem mj_okb176_491 : mj_seg mj_ct10 mj_M176 491 mj_B176_491 = true := by decide +kernel
theorem mj_okb176_524 : mj_seg mj_ct10 mj_M176 524 mj_B176_524 = true := by decide +kernel
theorem mj_okb176_577 : mj_seg mj_ct10 mj_M176 577 mj_B176_577 = true := by decide +kernel
theorem mj_okb176_610 : mj_seg mj_ct10 mj_M176 610 mj_B176_610 = true := by decide +kernel
theorem mj_okb176_654 : mj_seg mj_ct10 mj_M176 654 mj_B176_654 = true := by decide +kernel
theorem mj_okb176_687 : mj_seg mj_ct10 mj_M176 687 mj_B176_687 = true := by decide +kernel
theorem mj_okb176_740 : mj_seg mj_ct10 mj_M176 740 mj_B176_740 = true := by decide +kernel
theorem mj_okb176_773 : mj_seg mj_ct10 mj_M176 773 mj_B176_773 = true := by decide +kernel
theorem mj_okb176_786 : mj_seg mj_ct10 mj_M176 786 mj_B176_786 = true := by decide +kernel
theorem mj_okb176_799 : mj_seg mj_ct10 mj_M176 799 mj_B176_799 = true := by decide +kernel
theorem mj_okb176_812 : mj_seg mj_ct10 mj_M176 812 mj_B176_812 = true := by decide +kernel
theorem mj_okb176_825 : mj_seg mj_ct10 mj_M176 825 mj_B176_825 = true := by decide +kernel
theorem mj_okb176_838 : mj_seg mj_ct10 mj_M176 838 mj_B176_838 = true := by decide +kernel
theorem mj_okb176_871 : mj_seg mj_ct10 mj_M176 871 mj_B176_871 = true := by decide +kernel
theorem mj_okb176_914 : mj_seg mj_ct10 mj_M176 914 mj_B176_914 = true := by decide +kernel
theorem mj_okb176_937 : mj_seg mj_ct10 mj_M176 937 mj_B176_937 = true := by decide +kernel
theorem mj_okb176_971 : mj_seg mj_ct10 mj_M176 971 mj_B176_971 = true := by decide +kernel
theorem mj_okb176_994 : mj_seg mj_ct10 mj_M176 994 mj_B176_994 = true := by decide +kernel
theorem mj_okb176_1007 : mj_seg mj_ct10 mj_M176 1007 mj_B176_1007 = true := by decide +kernel
theorem mj_okb176_1030 : mj_seg mj_ct10 mj_M176 1030 mj_B176_1030 = true := by decide +kernel
theorem mj_okb176_1073 : mj_seg mj_ct10 mj_M176 1073 mj_B176_1073 = true := by decide +kernel
theorem mj_okb176_1096 : mj_seg mj_ct10 mj_M176 1096 mj_B176_1096 = true := by decide +kernel
theorem mj_okb176_1102 : mj_seg mj_ct10 mj_M176 1102 mj_B176_1102 = true := by decide +kernel
theorem mj_okm176 : mj_okM mj_ct10 mj_M176 = true := by
  unfold mj_okM
  refine List.all_eq_true.mpr (fun q h => ?_)
  simp only [mj_M176, List.mem_cons, List.not_mem_nil, or_false] at h
  rcases h with rfl | rfl | rfl | rfl | rfl | rfl | rfl | rfl | rfl | rfl | rfl | rfl | rfl | rfl | rfl | rfl | rfl | rfl | rfl | rfl | rfl | rfl | rfl | rfl | rfl | rfl | rfl | rfl | rfl | rfl | rfl | rfl | rfl | rfl | rfl | rfl | rfl | rfl | rfl | rfl | rfl | rfl
  · exact mj_okb176_0
  · exact mj_okb176_18
  · exact mj_okb176_168
  · exact mj_okb176_221
  · exact mj_okb176_234
  · exact mj_okb176_258
  · exact mj_okb176_291
  · exact mj_okb176_315
  · exact mj_okb176_338
  · exact mj_okb176_339
  · exact mj_okb176_365
  · exact mj_okb176_366
  · exact mj_okb176_375
  · exact mj_okb176_399
  · exact mj_okb176_432
  · exact mj_okb176_455
  · exact mj_okb176_456
  · exact mj_okb176_482
  · exact mj_okb176_483
  · exact mj_okb176_491
  · exact mj_okb176_524
  · exact mj_okb176_577
  · exact mj_okb176_610
  · exact mj_okb176_654
  · exact mj_okb176_687
  · exact mj_okb176_740
  · exact mj_okb176_773
  · exact mj_okb176_786
  · exact mj_okb176_799
  · exact mj_okb176_812
  · exact mj_okb176_825
  · exact mj_okb176_838
  · exact mj_okb176_871
  · exact mj_okb176_914
  · exact mj_okb176_937
  · exact mj_okb176_971
  · exact mj_okb176_994
  · exact mj_okb176_1007
  · exact mj_okb176_1030
  · exact mj_okb176_1073
  · exact mj_okb176_1096
  · exact mj_okb176_1102
def mj_okq (M : mj_M) : Prop := ∃ ct : mj_T, mj_okM ct M = true ∧ (∀ w ∈ ct.map (fun q => q.2), w ∈ lw_tbl) ∧ (ct.map (fun q => q.2)).all goodWord = true
def mj_P0 : List mj_M := [mj_M0, mj_M1, mj_M2, mj_M3, mj_M4, mj_M5, mj_M6, mj_M7, mj_M8, mj_M9, mj_M10, mj_M11, mj_M12, mj_M13, mj_M14, mj_M15, mj_M16, mj_M17, mj_M18, mj_M19]
theorem mj_okP0 : ∀ M ∈ mj_P0, mj_okq M := by
  intro M h
  simp only [mj_P0, List.mem_cons, List.not_mem_nil, or_false] at h
  rcases h with rfl | rfl | rfl | rfl | rfl | rfl | rfl | rfl | rfl | rfl | rfl | rfl | rfl | rfl | rfl | rfl | rfl | rfl | rfl | rfl
  · exact ⟨mj_ct0, mj_okm0, mj_ctw0, mj_ctg0⟩
  · exact ⟨mj_ct1, mj_okm1, mj_ctw1, mj_ctg1⟩
  · exact ⟨mj_ct2, mj_okm2, mj_ctw2, mj_ctg2⟩
  · exact ⟨mj_ct3, mj_okm3, mj_ctw3, mj_ctg3⟩
  · exact ⟨mj_ct0, mj_okm4, mj_ctw0, mj_ctg0⟩
  · exact ⟨mj_ct4, mj_okm5, mj_ctw4, mj_ctg4⟩
  · exact ⟨mj_ct5, mj_okm6, mj_ctw5, mj_ctg5⟩
  · exact ⟨mj_ct4, mj_okm7, mj_ctw4, mj_ctg4⟩
  · exact ⟨mj_ct5, mj_okm8, mj_ctw5, mj_ctg5⟩
  · exact ⟨mj_ct4, mj_okm9, mj_ctw4, mj_ctg4⟩
  · exact ⟨mj_ct4, mj_okm10, mj_ctw4, mj_ctg4⟩
  · exact ⟨mj_ct0, mj_okm11, mj_ctw0, mj_ctg0⟩
  · exact ⟨mj_ct4, mj_okm12, mj_ctw4, mj_ctg4⟩
  · exact ⟨mj_ct4, mj_okm13, mj_ctw4, mj_ctg4⟩
  · exact ⟨mj_ct5, mj_okm14, mj_ctw5, mj_ctg5⟩
  · exact ⟨mj_ct6, mj_okm15, mj_ctw6, mj_ctg6⟩
  · exact ⟨mj_ct0, mj_okm16, mj_ctw0, mj_ctg0⟩
  · exact ⟨mj_ct0, mj_okm17, mj_ctw0, mj_ctg0⟩
  · exact ⟨mj_ct0, mj_okm18, mj_ctw0, mj_ctg0⟩
  · exact ⟨mj_ct0, mj_okm19, mj_ctw0, mj_ctg0⟩
def mj_P1 : List mj_M := [mj_M20, mj_M21, mj_M22, mj_M23, mj_M24, mj_M25, mj_M26, mj_M27, mj_M28, mj_M29, mj_M30, mj_M31, mj_M32, mj_M33, mj_M34, mj_M35, mj_M36, mj_M37, mj_M38, mj_M39]
theorem mj_okP1 : ∀ M ∈ mj_P1, mj_okq M := by
  intro M h
  simp only [mj_P1, List.mem_cons, List.not_mem_nil, or_false] at h
  rcases h with rfl | rfl | rfl | rfl | rfl | rfl | rfl | rfl | rfl | rfl | rfl | rfl | rfl | rfl | rfl | rfl | rfl | rfl | rfl | rfl
  · exact ⟨mj_ct0, mj_okm20, mj_ctw0, mj_ctg0⟩
  · exact ⟨mj_ct0, mj_okm21, mj_ctw0, mj_ctg0⟩
  · exact ⟨mj_ct4, mj_okm22, mj_ctw4, mj_ctg4⟩
  · exact ⟨mj_ct4, mj_okm23, mj_ctw4, mj_ctg4⟩
  · exact ⟨mj_ct4, mj_okm24, mj_ctw4, mj_ctg4⟩
  · exact ⟨mj_ct4, mj_okm25, mj_ctw4, mj_ctg4⟩
  · exact ⟨mj_ct5, mj_okm26, mj_ctw5, mj_ctg5⟩
  · exact ⟨mj_ct6, mj_okm27, mj_ctw6, mj_ctg6⟩
  · exact ⟨mj_ct4, mj_okm28, mj_ctw4, mj_ctg4⟩
  · exact ⟨mj_ct4, mj_okm29, mj_ctw4, mj_ctg4⟩
  · exact ⟨mj_ct4, mj_okm30, mj_ctw4, mj_ctg4⟩
  · exact ⟨mj_ct4, mj_okm31, mj_ctw4, mj_ctg4⟩
  · exact ⟨mj_ct4, mj_okm32, mj_ctw4, mj_ctg4⟩
  · exact ⟨mj_ct4, mj_okm33, mj_ctw4, mj_ctg4⟩
  · exact ⟨mj_ct4, mj_okm34, mj_ctw4, mj_ctg4⟩
  · exact ⟨mj_ct4, mj_okm35, mj_ctw4, mj_ctg4⟩
  · exact ⟨mj_ct4, mj_okm36, mj_ctw4, mj_ctg4⟩
  · exact ⟨mj_ct4, mj_okm37, mj_ctw4, mj_ctg4⟩
  · exact ⟨mj_ct6, mj_okm38, mj_ctw6, mj_ctg6⟩
  · exact ⟨mj_ct4, mj_okm39, mj_ctw4, mj_ctg4⟩
def mj_P2 : List mj_M := [mj_M40, mj_M41, mj_M42, mj_M43, mj_M44, mj_M45, mj_M46, mj_M47, mj_M48, mj_M49, mj_M50, mj_M51, mj_M52, mj_M53, mj_M54, mj_M55, mj_M56, mj_M57, mj_M58, mj_M59]
theorem mj_okP2 : ∀ M ∈ mj_P2, mj_okq M := by
  intro M h
  simp only [mj_P2, List.mem_cons, List.not_mem_nil, or_false] at h
  rcases h with rfl | rfl | rfl | rfl | rfl | rfl | rfl | rfl | rfl | rfl | rfl | rfl | rfl | rfl | rfl | rfl | rfl | rfl | rfl | rfl
  · exact ⟨mj_ct4, mj_okm40, mj_ctw4, mj_ctg4⟩
  · exact ⟨mj_ct4, mj_okm41, mj_ctw4, mj_ctg4⟩
  · exact ⟨mj_ct7, mj_okm42, mj_ctw7, mj_ctg7⟩
  · exact ⟨mj_ct0, mj_okm43, mj_ctw0, mj_ctg0⟩
  · exact ⟨mj_ct0, mj_okm44, mj_ctw0, mj_ctg0⟩
  · exact ⟨mj_ct0, mj_okm45, mj_ctw0, mj_ctg0⟩
  · exact ⟨mj_ct4, mj_okm46, mj_ctw4, mj_ctg4⟩
  · exact ⟨mj_ct0, mj_okm47, mj_ctw0, mj_ctg0⟩
  · exact ⟨mj_ct0, mj_okm48, mj_ctw0, mj_ctg0⟩
  · exact ⟨mj_ct0, mj_okm49, mj_ctw0, mj_ctg0⟩
  · exact ⟨mj_ct0, mj_okm50, mj_ctw0, mj_ctg0⟩
  · exact ⟨mj_ct4, mj_okm51, mj_ctw4, mj_ctg4⟩
  · exact ⟨mj_ct7, mj_okm52, mj_ctw7, mj_ctg7⟩
  · exact ⟨mj_ct7, mj_okm53, mj_ctw7, mj_ctg7⟩
  · exact ⟨mj_ct0, mj_okm54, mj_ctw0, mj_ctg0⟩
  · exact ⟨mj_ct0, mj_okm55, mj_ctw0, mj_ctg0⟩
  · exact ⟨mj_ct1, mj_okm56, mj_ctw1, mj_ctg1⟩
  · exact ⟨mj_ct1, mj_okm57, mj_ctw1, mj_ctg1⟩
  · exact ⟨mj_ct8, mj_okm58, mj_ctw8, mj_ctg8⟩
  · exact ⟨mj_ct8, mj_okm59, mj_ctw8, mj_ctg8⟩
def mj_P3 : List mj_M := [mj_M60, mj_M61, mj_M62, mj_M63, mj_M64, mj_M65, mj_M66, mj_M67, mj_M68, mj_M69, mj_M70, mj_M71, mj_M72, mj_M73, mj_M74, mj_M75, mj_M76, mj_M77, mj_M78, mj_M79]
theorem mj_okP3 : ∀ M ∈ mj_P3, mj_okq M := by
  intro M h
  simp only [mj_P3, List.mem_cons, List.not_mem_nil, or_false] at h
  rcases h with rfl | rfl | rfl | rfl | rfl | rfl | rfl | rfl | rfl | rfl | rfl | rfl | rfl | rfl | rfl | rfl | rfl | rfl | rfl | rfl
  · exact ⟨mj_ct8, mj_okm60, mj_ctw8, mj_ctg8⟩
  · exact ⟨mj_ct8, mj_okm61, mj_ctw8, mj_ctg8⟩
  · exact ⟨mj_ct1, mj_okm62, mj_ctw1, mj_ctg1⟩
  · exact ⟨mj_ct1, mj_okm63, mj_ctw1, mj_ctg1⟩
  · exact ⟨mj_ct0, mj_okm64, mj_ctw0, mj_ctg0⟩
  · exact ⟨mj_ct0, mj_okm65, mj_ctw0, mj_ctg0⟩
  · exact ⟨mj_ct8, mj_okm66, mj_ctw8, mj_ctg8⟩
  · exact ⟨mj_ct0, mj_okm67, mj_ctw0, mj_ctg0⟩
  · exact ⟨mj_ct0, mj_okm68, mj_ctw0, mj_ctg0⟩
  · exact ⟨mj_ct0, mj_okm69, mj_ctw0, mj_ctg0⟩
  · exact ⟨mj_ct0, mj_okm70, mj_ctw0, mj_ctg0⟩
  · exact ⟨mj_ct0, mj_okm71, mj_ctw0, mj_ctg0⟩
  · exact ⟨mj_ct2, mj_okm72, mj_ctw2, mj_ctg2⟩
  · exact ⟨mj_ct0, mj_okm73, mj_ctw0, mj_ctg0⟩
  · exact ⟨mj_ct2, mj_okm74, mj_ctw2, mj_ctg2⟩
  · exact ⟨mj_ct2, mj_okm75, mj_ctw2, mj_ctg2⟩
  · exact ⟨mj_ct0, mj_okm76, mj_ctw0, mj_ctg0⟩
  · exact ⟨mj_ct2, mj_okm77, mj_ctw2, mj_ctg2⟩
  · exact ⟨mj_ct2, mj_okm78, mj_ctw2, mj_ctg2⟩
  · exact ⟨mj_ct2, mj_okm79, mj_ctw2, mj_ctg2⟩
def mj_P4 : List mj_M := [mj_M80, mj_M81, mj_M82, mj_M83, mj_M84, mj_M85, mj_M86, mj_M87, mj_M88, mj_M89, mj_M90, mj_M91, mj_M92, mj_M93, mj_M94, mj_M95, mj_M96, mj_M97, mj_M98, mj_M99]
theorem mj_okP4 : ∀ M ∈ mj_P4, mj_okq M := by
  intro M h
  simp only [mj_P4, List.mem_cons, List.not_mem_nil, or_false] at h
  rcases h with rfl | rfl | rfl | rfl | rfl | rfl | rfl | rfl | rfl | rfl | rfl | rfl | rfl | rfl | rfl | rfl | rfl | rfl | rfl | rfl
  · exact ⟨mj_ct2, mj_okm80, mj_ctw2, mj_ctg2⟩
  · exact ⟨mj_ct2, mj_okm81, mj_ctw2, mj_ctg2⟩
  · exact ⟨mj_ct2, mj_okm82, mj_ctw2, mj_ctg2⟩
  · exact ⟨mj_ct0, mj_okm83, mj_ctw0, mj_ctg0⟩
  · exact ⟨mj_ct0, mj_okm84, mj_ctw0, mj_ctg0⟩
  · exact ⟨mj_ct0, mj_okm85, mj_ctw0, mj_ctg0⟩
  · exact ⟨mj_ct0, mj_okm86, mj_ctw0, mj_ctg0⟩
  · exact ⟨mj_ct2, mj_okm87, mj_ctw2, mj_ctg2⟩
  · exact ⟨mj_ct2, mj_okm88, mj_ctw2, mj_ctg2⟩
  · exact ⟨mj_ct2, mj_okm89, mj_ctw2, mj_ctg2⟩
  · exact ⟨mj_ct2, mj_okm90, mj_ctw2, mj_ctg2⟩
  · exact ⟨mj_ct0, mj_okm91, mj_ctw0, mj_ctg0⟩
  · exact ⟨mj_ct0, mj_okm92, mj_ctw0, mj_ctg0⟩
  · exact ⟨mj_ct0, mj_okm93, mj_ctw0, mj_ctg0⟩
  · exact ⟨mj_ct3, mj_okm94, mj_ctw3, mj_ctg3⟩
  · exact ⟨mj_ct3, mj_okm95, mj_ctw3, mj_ctg3⟩
  · exact ⟨mj_ct3, mj_okm96, mj_ctw3, mj_ctg3⟩
  · exact ⟨mj_ct3, mj_okm97, mj_ctw3, mj_ctg3⟩
  · exact ⟨mj_ct3, mj_okm98, mj_ctw3, mj_ctg3⟩
  · exact ⟨mj_ct3, mj_okm99, mj_ctw3, mj_ctg3⟩
def mj_P5 : List mj_M := [mj_M100, mj_M101, mj_M102, mj_M103, mj_M104, mj_M105, mj_M106, mj_M107, mj_M108, mj_M109, mj_M110, mj_M111, mj_M112, mj_M113, mj_M114, mj_M115, mj_M116, mj_M117, mj_M118, mj_M119]
theorem mj_okP5 : ∀ M ∈ mj_P5, mj_okq M := by
  intro M h
  simp only [mj_P5, List.mem_cons, List.not_mem_nil, or_false] at h
  rcases h with rfl | rfl | rfl | rfl | rfl | rfl | rfl | rfl | rfl | rfl | rfl | rfl | rfl | rfl | rfl | rfl | rfl | rfl | rfl | rfl
  · exact ⟨mj_ct3, mj_okm100, mj_ctw3, mj_ctg3⟩
  · exact ⟨mj_ct0, mj_okm101, mj_ctw0, mj_ctg0⟩
  · exact ⟨mj_ct0, mj_okm102, mj_ctw0, mj_ctg0⟩
  · exact ⟨mj_ct0, mj_okm103, mj_ctw0, mj_ctg0⟩
  · exact ⟨mj_ct0, mj_okm104, mj_ctw0, mj_ctg0⟩
  · exact ⟨mj_ct0, mj_okm105, mj_ctw0, mj_ctg0⟩
  · exact ⟨mj_ct9, mj_okm106, mj_ctw9, mj_ctg9⟩
  · exact ⟨mj_ct9, mj_okm107, mj_ctw9, mj_ctg9⟩
  · exact ⟨mj_ct9, mj_okm108, mj_ctw9, mj_ctg9⟩
  · exact ⟨mj_ct9, mj_okm109, mj_ctw9, mj_ctg9⟩
  · exact ⟨mj_ct9, mj_okm110, mj_ctw9, mj_ctg9⟩
  · exact ⟨mj_ct9, mj_okm111, mj_ctw9, mj_ctg9⟩
  · exact ⟨mj_ct9, mj_okm112, mj_ctw9, mj_ctg9⟩
  · exact ⟨mj_ct9, mj_okm113, mj_ctw9, mj_ctg9⟩
  · exact ⟨mj_ct9, mj_okm114, mj_ctw9, mj_ctg9⟩
  · exact ⟨mj_ct9, mj_okm115, mj_ctw9, mj_ctg9⟩
  · exact ⟨mj_ct9, mj_okm116, mj_ctw9, mj_ctg9⟩
  · exact ⟨mj_ct9, mj_okm117, mj_ctw9, mj_ctg9⟩
  · exact ⟨mj_ct9, mj_okm118, mj_ctw9, mj_ctg9⟩
  · exact ⟨mj_ct9, mj_okm119, mj_ctw9, mj_ctg9⟩
def mj_P6 : List mj_M := [mj_M120, mj_M121, mj_M122, mj_M123, mj_M124, mj_M125, mj_M126, mj_M127, mj_M128, mj_M129, mj_M130, mj_M131, mj_M132, mj_M133, mj_M134, mj_M135, mj_M136, mj_M137, mj_M138, mj_M139]
theorem mj_okP6 : ∀ M ∈ mj_P6, mj_okq M := by
  intro M h
  simp only [mj_P6, List.mem_cons, List.not_mem_nil, or_false] at h
  rcases h with rfl | rfl | rfl | rfl | rfl | rfl | rfl | rfl | rfl | rfl | rfl | rfl | rfl | rfl | rfl | rfl | rfl | rfl | rfl | rfl
  · exact ⟨mj_ct9, mj_okm120, mj_ctw9, mj_ctg9⟩
  · exact ⟨mj_ct9, mj_okm121, mj_ctw9, mj_ctg9⟩
  · exact ⟨mj_ct9, mj_okm122, mj_ctw9, mj_ctg9⟩
  · exact ⟨mj_ct9, mj_okm123, mj_ctw9, mj_ctg9⟩
  · exact ⟨mj_ct9, mj_okm124, mj_ctw9, mj_ctg9⟩
  · exact ⟨mj_ct9, mj_okm125, mj_ctw9, mj_ctg9⟩
  · exact ⟨mj_ct9, mj_okm126, mj_ctw9, mj_ctg9⟩
  · exact ⟨mj_ct9, mj_okm127, mj_ctw9, mj_ctg9⟩
  · exact ⟨mj_ct9, mj_okm128, mj_ctw9, mj_ctg9⟩
  · exact ⟨mj_ct9, mj_okm129, mj_ctw9, mj_ctg9⟩
  · exact ⟨mj_ct9, mj_okm130, mj_ctw9, mj_ctg9⟩
  · exact ⟨mj_ct9, mj_okm131, mj_ctw9, mj_ctg9⟩
  · exact ⟨mj_ct9, mj_okm132, mj_ctw9, mj_ctg9⟩
  · exact ⟨mj_ct9, mj_okm133, mj_ctw9, mj_ctg9⟩
  · exact ⟨mj_ct9, mj_okm134, mj_ctw9, mj_ctg9⟩
  · exact ⟨mj_ct9, mj_okm135, mj_ctw9, mj_ctg9⟩
  · exact ⟨mj_ct9, mj_okm136, mj_ctw9, mj_ctg9⟩
  · exact ⟨mj_ct9, mj_okm137, mj_ctw9, mj_ctg9⟩
  · exact ⟨mj_ct9, mj_okm138, mj_ctw9, mj_ctg9⟩
  · exact ⟨mj_ct9, mj_okm139, mj_ctw9, mj_ctg9⟩
def mj_P7 : List mj_M := [mj_M140, mj_M141, mj_M142, mj_M143, mj_M144, mj_M145, mj_M146, mj_M147, mj_M148, mj_M149, mj_M150, mj_M151, mj_M152, mj_M153, mj_M154, mj_M155, mj_M156, mj_M157, mj_M158, mj_M159]
theorem mj_okP7 : ∀ M ∈ mj_P7, mj_okq M := by
  intro M h
  simp only [mj_P7, List.mem_cons, List.not_mem_nil, or_false] at h
  rcases h with rfl | rfl | rfl | rfl | rfl | rfl | rfl | rfl | rfl | rfl | rfl | rfl | rfl | rfl | rfl | rfl | rfl | rfl | rfl | rfl
  · exact ⟨mj_ct9, mj_okm140, mj_ctw9, mj_ctg9⟩
  · exact ⟨mj_ct9, mj_okm141, mj_ctw9, mj_ctg9⟩
  · exact ⟨mj_ct9, mj_okm142, mj_ctw9, mj_ctg9⟩
  · exact ⟨mj_ct9, mj_okm143, mj_ctw9, mj_ctg9⟩
  · exact ⟨mj_ct9, mj_okm144, mj_ctw9, mj_ctg9⟩
  · exact ⟨mj_ct9, mj_okm145, mj_ctw9, mj_ctg9⟩
  · exact ⟨mj_ct9, mj_okm146, mj_ctw9, mj_ctg9⟩
  · exact ⟨mj_ct9, mj_okm147, mj_ctw9, mj_ctg9⟩
  · exact ⟨mj_ct9, mj_okm148, mj_ctw9, mj_ctg9⟩
  · exact ⟨mj_ct9, mj_okm149, mj_ctw9, mj_ctg9⟩
  · exact ⟨mj_ct9, mj_okm150, mj_ctw9, mj_ctg9⟩
  · exact ⟨mj_ct9, mj_okm151, mj_ctw9, mj_ctg9⟩
  · exact ⟨mj_ct9, mj_okm152, mj_ctw9, mj_ctg9⟩
  · exact ⟨mj_ct9, mj_okm153, mj_ctw9, mj_ctg9⟩
  · exact ⟨mj_ct9, mj_okm154, mj_ctw9, mj_ctg9⟩
  · exact ⟨mj_ct9, mj_okm155, mj_ctw9, mj_ctg9⟩
  · exact ⟨mj_ct9, mj_okm156, mj_ctw9, mj_ctg9⟩
  · exact ⟨mj_ct9, mj_okm157, mj_ctw9, mj_ctg9⟩
  · exact ⟨mj_ct9, mj_okm158, mj_ctw9, mj_ctg9⟩
  · exact ⟨mj_ct9, mj_okm159, mj_ctw9, mj_ctg9⟩
def mj_P8 : List mj_M := [mj_M160, mj_M161, mj_M162, mj_M163, mj_M164, mj_M165, mj_M166, mj_M167, mj_M168, mj_M169, mj_M170, mj_M171, mj_M172, mj_M173, mj_M174, mj_M175, mj_M176, mj_M177]
theorem mj_okP8 : ∀ M ∈ mj_P8, mj_okq M := by
  intro M h
  simp only [mj_P8, List.mem_cons, List.not_mem_nil, or_false] at h
  rcases h with rfl | rfl | rfl | rfl | rfl | rfl | rfl | rfl | rfl | rfl | rfl | rfl | rfl | rfl | rfl | rfl | rfl | rfl
  · exact ⟨mj_ct9, mj_okm160, mj_ctw9, mj_ctg9⟩
  · exact ⟨mj_ct9, mj_okm161, mj_ctw9, mj_ctg9⟩
  · exact ⟨mj_ct9, mj_okm162, mj_ctw9, mj_ctg9⟩
  · exact ⟨mj_ct9, mj_okm163, mj_ctw9, mj_ctg9⟩
  · exact ⟨mj_ct9, mj_okm164, mj_ctw9, mj_ctg9⟩
  · exact ⟨mj_ct9, mj_okm165, mj_ctw9, mj_ctg9⟩
  · exact ⟨mj_ct9, mj_okm166, mj_ctw9, mj_ctg9⟩
  · exact ⟨mj_ct9, mj_okm167, mj_ctw9, mj_ctg9⟩
  · exact ⟨mj_ct9, mj_okm168, mj_ctw9, mj_ctg9⟩
  · exact ⟨mj_ct9, mj_okm169, mj_ctw9, mj_ctg9⟩
  · exact ⟨mj_ct9, mj_okm170, mj_ctw9, mj_ctg9⟩
  · exact ⟨mj_ct9, mj_okm171, mj_ctw9, mj_ctg9⟩
  · exact ⟨mj_ct9, mj_okm172, mj_ctw9, mj_ctg9⟩
  · exact ⟨mj_ct9, mj_okm173, mj_ctw9, mj_ctg9⟩
  · exact ⟨mj_ct9, mj_okm174, mj_ctw9, mj_ctg9⟩
  · exact ⟨mj_ct9, mj_okm175, mj_ctw9, mj_ctg9⟩
  · exact ⟨mj_ct10, mj_okm176, mj_ctw10, mj_ctg10⟩
  · exact ⟨mj_ct2, mj_okm177, mj_ctw2, mj_ctg2⟩
set_option maxRecDepth 100000 in
theorem mj_prog_eq : mj_prog = mj_P0 ++ (mj_P1 ++ (mj_P2 ++ (mj_P3 ++ (mj_P4 ++ (mj_P5 ++ (mj_P6 ++ (mj_P7 ++ (mj_P8)))))))) := rfl
theorem mj_prog_ok : ∀ M ∈ mj_prog, mj_okq M := by
  intro M h
  rw [mj_prog_eq] at h
  simp only [List.mem_append] at h
  rcases h with h | h | h | h | h | h | h | h | h
  · exact mj_okP0 M h
  · exact mj_okP1 M h
  · exact mj_okP2 M h
  · exact mj_okP3 M h
  · exact mj_okP4 M h
  · exact mj_okP5 M h
  · exact mj_okP6 M h
  · exact mj_okP7 M h
  · exact mj_okP8 M h
/-- what a call of a method may rest on -/
def mj_calq (q : mj_M × Nat) : Prop := q.2 = 7 ∨ ((Cond.code q.1.1 q.1.2.1 q.1.2.2.1 q.1.2.2.2.1 ∈ lw_tbl ∧ Cond.initialized q.1.1.cls ∈ lw_tbl ∧ (q.2 = 0 → Cond.static q.1.1 ∈ lw_tbl) ∧ (q.2 = 1 → Cond.instanceMethod q.1.1 ∈ lw_tbl ∧ Cond.selects q.1.1.cls q.1.1 q.1.1 ∈ lw_tbl) ∧ (q.2 = 2 → Cond.instanceMethod q.1.1 ∈ lw_tbl)) ∧ (decide (q.1.1.cls ≠ "java/lang/invoke/MethodHandle") && decide (q.1.1.cls ≠ "java/lang/invoke/VarHandle") && plainName q.1.1.cls && decide (q.1.2.2.1 ≤ 22) && (decide (q.2 ≠ 2) || (decide (q.1.1.name = "<init>") && decide (q.1.2.2.2.1 = none)))) = true)
def mj_Q0 : List (mj_M × Nat) := [(mj_M0, 2), (mj_M1, 2), (mj_M2, 2), (mj_M3, 2), (mj_M4, 1), (mj_M5, 0), (mj_M6, 0), (mj_M7, 0), (mj_M8, 0), (mj_M9, 0), (mj_M10, 0), (mj_M11, 1), (mj_M12, 0), (mj_M13, 0), (mj_M14, 0), (mj_M15, 0), (mj_M16, 1), (mj_M17, 1), (mj_M18, 1), (mj_M19, 1)]
theorem mj_calQ0 : ∀ q ∈ mj_Q0, mj_calq q := by
  intro q h
  simp only [mj_Q0, List.mem_cons, List.not_mem_nil, or_false] at h
  rcases h with rfl | rfl | rfl | rfl | rfl | rfl | rfl | rfl | rfl | rfl | rfl | rfl | rfl | rfl | rfl | rfl | rfl | rfl | rfl | rfl
  · exact Or.inr ⟨⟨mj_mw0 _ (List.mem_of_getElem? (i := 0) rfl), mj_mw0 _ (List.mem_of_getElem? (i := 1) rfl), fun h => absurd h (by decide), fun h => absurd h (by decide), fun _ => mj_mw0 _ (List.mem_of_getElem? (i := 2) rfl)⟩, by decide +kernel⟩
  · exact Or.inr ⟨⟨mj_mw1 _ (List.mem_of_getElem? (i := 0) rfl), mj_mw1 _ (List.mem_of_getElem? (i := 1) rfl), fun h => absurd h (by decide), fun h => absurd h (by decide), fun _ => mj_mw1 _ (List.mem_of_getElem? (i := 2) rfl)⟩, by decide +kernel⟩
  · exact Or.inr ⟨⟨mj_mw2 _ (List.mem_of_getElem? (i := 0) rfl), mj_mw2 _ (List.mem_of_getElem? (i := 1) rfl), fun h => absurd h (by decide), fun h => absurd h (by decide), fun _ => mj_mw2 _ (List.mem_of_getElem? (i := 2) rfl)⟩, by decide +kernel⟩
  · exact Or.inr ⟨⟨mj_mw3 _ (List.mem_of_getElem? (i := 0) rfl), mj_mw3 _ (List.mem_of_getElem? (i := 1) rfl), fun h => absurd h (by decide), fun h => absurd h (by decide), fun _ => mj_mw3 _ (List.mem_of_getElem? (i := 2) rfl)⟩, by decide +kernel⟩
  · exact Or.inr ⟨⟨mj_mw4 _ (List.mem_of_getElem? (i := 0) rfl), mj_mw4 _ (List.mem_of_getElem? (i := 1) rfl), fun h => absurd h (by decide), fun _ => ⟨mj_mw4 _ (List.mem_of_getElem? (i := 2) rfl), mj_mw4 _ (List.mem_of_getElem? (i := 3) rfl)⟩, fun h => absurd h (by decide)⟩, by decide +kernel⟩
  · exact Or.inr ⟨⟨mj_mw5 _ (List.mem_of_getElem? (i := 0) rfl), mj_mw5 _ (List.mem_of_getElem? (i := 1) rfl), fun _ => mj_mw5 _ (List.mem_of_getElem? (i := 2) rfl), fun h => absurd h (by decide), fun h => absurd h (by decide)⟩, by decide +kernel⟩
  · exact Or.inr ⟨⟨mj_mw6 _ (List.mem_of_getElem? (i := 0) rfl), mj_mw6 _ (List.mem_of_getElem? (i := 1) rfl), fun _ => mj_mw6 _ (List.mem_of_getElem? (i := 2) rfl), fun h => absurd h (by decide), fun h => absurd h (by decide)⟩, by decide +kernel⟩
  · exact Or.inr ⟨⟨mj_mw7 _ (List.mem_of_getElem? (i := 0) rfl), mj_mw7 _ (List.mem_of_getElem? (i := 1) rfl), fun _ => mj_mw7 _ (List.mem_of_getElem? (i := 2) rfl), fun h => absurd h (by decide), fun h => absurd h (by decide)⟩, by decide +kernel⟩
  · exact Or.inr ⟨⟨mj_mw8 _ (List.mem_of_getElem? (i := 0) rfl), mj_mw8 _ (List.mem_of_getElem? (i := 1) rfl), fun _ => mj_mw8 _ (List.mem_of_getElem? (i := 2) rfl), fun h => absurd h (by decide), fun h => absurd h (by decide)⟩, by decide +kernel⟩
  · exact Or.inr ⟨⟨mj_mw9 _ (List.mem_of_getElem? (i := 0) rfl), mj_mw9 _ (List.mem_of_getElem? (i := 1) rfl), fun _ => mj_mw9 _ (List.mem_of_getElem? (i := 2) rfl), fun h => absurd h (by decide), fun h => absurd h (by decide)⟩, by decide +kernel⟩
  · exact Or.inr ⟨⟨mj_mw10 _ (List.mem_of_getElem? (i := 0) rfl), mj_mw10 _ (List.mem_of_getElem? (i := 1) rfl), fun _ => mj_mw10 _ (List.mem_of_getElem? (i := 2) rfl), fun h => absurd h (by decide), fun h => absurd h (by decide)⟩, by decide +kernel⟩
  · exact Or.inr ⟨⟨mj_mw11 _ (List.mem_of_getElem? (i := 0) rfl), mj_mw11 _ (List.mem_of_getElem? (i := 1) rfl), fun h => absurd h (by decide), fun _ => ⟨mj_mw11 _ (List.mem_of_getElem? (i := 2) rfl), mj_mw11 _ (List.mem_of_getElem? (i := 3) rfl)⟩, fun h => absurd h (by decide)⟩, by decide +kernel⟩
  · exact Or.inr ⟨⟨mj_mw12 _ (List.mem_of_getElem? (i := 0) rfl), mj_mw12 _ (List.mem_of_getElem? (i := 1) rfl), fun _ => mj_mw12 _ (List.mem_of_getElem? (i := 2) rfl), fun h => absurd h (by decide), fun h => absurd h (by decide)⟩, by decide +kernel⟩
  · exact Or.inr ⟨⟨mj_mw13 _ (List.mem_of_getElem? (i := 0) rfl), mj_mw13 _ (List.mem_of_getElem? (i := 1) rfl), fun _ => mj_mw13 _ (List.mem_of_getElem? (i := 2) rfl), fun h => absurd h (by decide), fun h => absurd h (by decide)⟩, by decide +kernel⟩
  · exact Or.inr ⟨⟨mj_mw14 _ (List.mem_of_getElem? (i := 0) rfl), mj_mw14 _ (List.mem_of_getElem? (i := 1) rfl), fun _ => mj_mw14 _ (List.mem_of_getElem? (i := 2) rfl), fun h => absurd h (by decide), fun h => absurd h (by decide)⟩, by decide +kernel⟩
  · exact Or.inr ⟨⟨mj_mw15 _ (List.mem_of_getElem? (i := 0) rfl), mj_mw15 _ (List.mem_of_getElem? (i := 1) rfl), fun _ => mj_mw15 _ (List.mem_of_getElem? (i := 2) rfl), fun h => absurd h (by decide), fun h => absurd h (by decide)⟩, by decide +kernel⟩
  · exact Or.inr ⟨⟨mj_mw16 _ (List.mem_of_getElem? (i := 0) rfl), mj_mw16 _ (List.mem_of_getElem? (i := 1) rfl), fun h => absurd h (by decide), fun _ => ⟨mj_mw16 _ (List.mem_of_getElem? (i := 2) rfl), mj_mw16 _ (List.mem_of_getElem? (i := 3) rfl)⟩, fun h => absurd h (by decide)⟩, by decide +kernel⟩
  · exact Or.inr ⟨⟨mj_mw17 _ (List.mem_of_getElem? (i := 0) rfl), mj_mw17 _ (List.mem_of_getElem? (i := 1) rfl), fun h => absurd h (by decide), fun _ => ⟨mj_mw17 _ (List.mem_of_getElem? (i := 2) rfl), mj_mw17 _ (List.mem_of_getElem? (i := 3) rfl)⟩, fun h => absurd h (by decide)⟩, by decide +kernel⟩
  · exact Or.inr ⟨⟨mj_mw18 _ (List.mem_of_getElem? (i := 0) rfl), mj_mw18 _ (List.mem_of_getElem? (i := 1) rfl), fun h => absurd h (by decide), fun _ => ⟨mj_mw18 _ (List.mem_of_getElem? (i := 2) rfl), mj_mw18 _ (List.mem_of_getElem? (i := 3) rfl)⟩, fun h => absurd h (by decide)⟩, by decide +kernel⟩
  · exact Or.inr ⟨⟨mj_mw19 _ (List.mem_of_getElem? (i := 0) rfl), mj_mw19 _ (List.mem_of_getElem? (i := 1) rfl), fun h => absurd h (by decide), fun _ => ⟨mj_mw19 _ (List.mem_of_getElem? (i := 2) rfl), mj_mw19 _ (List.mem_of_getElem? (i := 3) rfl)⟩, fun h => absurd h (by decide)⟩, by decide +kernel⟩
def mj_Q1 : List (mj_M × Nat) := [(mj_M20, 1), (mj_M21, 1), (mj_M22, 0), (mj_M23, 0), (mj_M24, 0), (mj_M25, 0), (mj_M26, 0), (mj_M27, 0), (mj_M28, 0), (mj_M29, 0), (mj_M30, 0), (mj_M31, 0), (mj_M32, 0), (mj_M33, 0), (mj_M34, 0), (mj_M35, 0), (mj_M36, 0), (mj_M37, 0), (mj_M38, 0), (mj_M39, 0)]
theorem mj_calQ1 : ∀ q ∈ mj_Q1, mj_calq q := by
  intro q h
  simp only [mj_Q1, List.mem_cons, List.not_mem_nil, or_false] at h
  rcases h with rfl | rfl | rfl | rfl | rfl | rfl | rfl | rfl | rfl | rfl | rfl | rfl | rfl | rfl | rfl | rfl | rfl | rfl | rfl | rfl
  · exact Or.inr ⟨⟨mj_mw20 _ (List.mem_of_getElem? (i := 0) rfl), mj_mw20 _ (List.mem_of_getElem? (i := 1) rfl), fun h => absurd h (by decide), fun _ => ⟨mj_mw20 _ (List.mem_of_getElem? (i := 2) rfl), mj_mw20 _ (List.mem_of_getElem? (i := 3) rfl)⟩, fun h => absurd h (by decide)⟩, by decide +kernel⟩
  · exact Or.inr ⟨⟨mj_mw21 _ (List.mem_of_getElem? (i := 0) rfl), mj_mw21 _ (List.mem_of_getElem? (i := 1) rfl), fun h => absurd h (by decide), fun _ => ⟨mj_mw21 _ (List.mem_of_getElem? (i := 2) rfl), mj_mw21 _ (List.mem_of_getElem? (i := 3) rfl)⟩, fun h => absurd h (by decide)⟩, by decide +kernel⟩
  · exact Or.inr ⟨⟨mj_mw22 _ (List.mem_of_getElem? (i := 0) rfl), mj_mw22 _ (List.mem_of_getElem? (i := 1) rfl), fun _ => mj_mw22 _ (List.mem_of_getElem? (i := 2) rfl), fun h => absurd h (by decide), fun h => absurd h (by decide)⟩, by decide +kernel⟩
  · exact Or.inr ⟨⟨mj_mw23 _ (List.mem_of_getElem? (i := 0) rfl), mj_mw23 _ (List.mem_of_getElem? (i := 1) rfl), fun _ => mj_mw23 _ (List.mem_of_getElem? (i := 2) rfl), fun h => absurd h (by decide), fun h => absurd h (by decide)⟩, by decide +kernel⟩
  · exact Or.inr ⟨⟨mj_mw24 _ (List.mem_of_getElem? (i := 0) rfl), mj_mw24 _ (List.mem_of_getElem? (i := 1) rfl), fun _ => mj_mw24 _ (List.mem_of_getElem? (i := 2) rfl), fun h => absurd h (by decide), fun h => absurd h (by decide)⟩, by decide +kernel⟩
  · exact Or.inr ⟨⟨mj_mw25 _ (List.mem_of_getElem? (i := 0) rfl), mj_mw25 _ (List.mem_of_getElem? (i := 1) rfl), fun _ => mj_mw25 _ (List.mem_of_getElem? (i := 2) rfl), fun h => absurd h (by decide), fun h => absurd h (by decide)⟩, by decide +kernel⟩
  · exact Or.inr ⟨⟨mj_mw26 _ (List.mem_of_getElem? (i := 0) rfl), mj_mw26 _ (List.mem_of_getElem? (i := 1) rfl), fun _ => mj_mw26 _ (List.mem_of_getElem? (i := 2) rfl), fun h => absurd h (by decide), fun h => absurd h (by decide)⟩, by decide +kernel⟩
  · exact Or.inr ⟨⟨mj_mw27 _ (List.mem_of_getElem? (i := 0) rfl), mj_mw27 _ (List.mem_of_getElem? (i := 1) rfl), fun _ => mj_mw27 _ (List.mem_of_getElem? (i := 2) rfl), fun h => absurd h (by decide), fun h => absurd h (by decide)⟩, by decide +kernel⟩
  · exact Or.inr ⟨⟨mj_mw28 _ (List.mem_of_getElem? (i := 0) rfl), mj_mw28 _ (List.mem_of_getElem? (i := 1) rfl), fun _ => mj_mw28 _ (List.mem_of_getElem? (i := 2) rfl), fun h => absurd h (by decide), fun h => absurd h (by decide)⟩, by decide +kernel⟩
  · exact Or.inr ⟨⟨mj_mw29 _ (List.mem_of_getElem? (i := 0) rfl), mj_mw29 _ (List.mem_of_getElem? (i := 1) rfl), fun _ => mj_mw29 _ (List.mem_of_getElem? (i := 2) rfl), fun h => absurd h (by decide), fun h => absurd h (by decide)⟩, by decide +kernel⟩
  · exact Or.inr ⟨⟨mj_mw30 _ (List.mem_of_getElem? (i := 0) rfl), mj_mw30 _ (List.mem_of_getElem? (i := 1) rfl), fun _ => mj_mw30 _ (List.mem_of_getElem? (i := 2) rfl), fun h => absurd h (by decide), fun h => absurd h (by decide)⟩, by decide +kernel⟩
  · exact Or.inr ⟨⟨mj_mw31 _ (List.mem_of_getElem? (i := 0) rfl), mj_mw31 _ (List.mem_of_getElem? (i := 1) rfl), fun _ => mj_mw31 _ (List.mem_of_getElem? (i := 2) rfl), fun h => absurd h (by decide), fun h => absurd h (by decide)⟩, by decide +kernel⟩
  · exact Or.inr ⟨⟨mj_mw32 _ (List.mem_of_getElem? (i := 0) rfl), mj_mw32 _ (List.mem_of_getElem? (i := 1) rfl), fun _ => mj_mw32 _ (List.mem_of_getElem? (i := 2) rfl), fun h => absurd h (by decide), fun h => absurd h (by decide)⟩, by decide +kernel⟩
  · exact Or.inr ⟨⟨mj_mw33 _ (List.mem_of_getElem? (i := 0) rfl), mj_mw33 _ (List.mem_of_getElem? (i := 1) rfl), fun _ => mj_mw33 _ (List.mem_of_getElem? (i := 2) rfl), fun h => absurd h (by decide), fun h => absurd h (by decide)⟩, by decide +kernel⟩
  · exact Or.inr ⟨⟨mj_mw34 _ (List.mem_of_getElem? (i := 0) rfl), mj_mw34 _ (List.mem_of_getElem? (i := 1) rfl), fun _ => mj_mw34 _ (List.mem_of_getElem? (i := 2) rfl), fun h => absurd h (by decide), fun h => absurd h (by decide)⟩, by decide +kernel⟩
  · exact Or.inr ⟨⟨mj_mw35 _ (List.mem_of_getElem? (i := 0) rfl), mj_mw35 _ (List.mem_of_getElem? (i := 1) rfl), fun _ => mj_mw35 _ (List.mem_of_getElem? (i := 2) rfl), fun h => absurd h (by decide), fun h => absurd h (by decide)⟩, by decide +kernel⟩
  · exact Or.inr ⟨⟨mj_mw36 _ (List.mem_of_getElem? (i := 0) rfl), mj_mw36 _ (List.mem_of_getElem? (i := 1) rfl), fun _ => mj_mw36 _ (List.mem_of_getElem? (i := 2) rfl), fun h => absurd h (by decide), fun h => absurd h (by decide)⟩, by decide +kernel⟩
  · exact Or.inr ⟨⟨mj_mw37 _ (List.mem_of_getElem? (i := 0) rfl), mj_mw37 _ (List.mem_of_getElem? (i := 1) rfl), fun _ => mj_mw37 _ (List.mem_of_getElem? (i := 2) rfl), fun h => absurd h (by decide), fun h => absurd h (by decide)⟩, by decide +kernel⟩
  · exact Or.inr ⟨⟨mj_mw38 _ (List.mem_of_getElem? (i := 0) rfl), mj_mw38 _ (List.mem_of_getElem? (i := 1) rfl), fun _ => mj_mw38 _ (List.mem_of_getElem? (i := 2) rfl), fun h => absurd h (by decide), fun h => absurd h (by decide)⟩, by decide +kernel⟩
  · exact Or.inr ⟨⟨mj_mw39 _ (List.mem_of_getElem? (i := 0) rfl), mj_mw39 _ (List.mem_of_getElem? (i := 1) rfl), fun _ => mj_mw39 _ (List.mem_of_getElem? (i := 2) rfl), fun h => absurd h (by decide), fun h => absurd h (by decide)⟩, by decide +kernel⟩
def mj_Q2 : List (mj_M × Nat) := [(mj_M40, 0), (mj_M41, 0), (mj_M42, 7), (mj_M43, 1), (mj_M44, 1), (mj_M45, 1), (mj_M46, 0), (mj_M47, 1), (mj_M48, 1), (mj_M49, 1), (mj_M50, 1), (mj_M51, 0), (mj_M52, 7), (mj_M53, 7), (mj_M54, 1), (mj_M55, 1), (mj_M56, 1), (mj_M57, 1), (mj_M58, 2), (mj_M59, 1)]
theorem mj_calQ2 : ∀ q ∈ mj_Q2, mj_calq q := by
  intro q h
  simp only [mj_Q2, List.mem_cons, List.not_mem_nil, or_false] at h
  rcases h with rfl | rfl | rfl | rfl | rfl | rfl | rfl | rfl | rfl | rfl | rfl | rfl | rfl | rfl | rfl | rfl | rfl | rfl | rfl | rfl
  · exact Or.inr ⟨⟨mj_mw40 _ (List.mem_of_getElem? (i := 0) rfl), mj_mw40 _ (List.mem_of_getElem? (i := 1) rfl), fun _ => mj_mw40 _ (List.mem_of_getElem? (i := 2) rfl), fun h => absurd h (by decide), fun h => absurd h (by decide)⟩, by decide +kernel⟩
  · exact Or.inr ⟨⟨mj_mw41 _ (List.mem_of_getElem? (i := 0) rfl), mj_mw41 _ (List.mem_of_getElem? (i := 1) rfl), fun _ => mj_mw41 _ (List.mem_of_getElem? (i := 2) rfl), fun h => absurd h (by decide), fun h => absurd h (by decide)⟩, by decide +kernel⟩
  · exact Or.inl rfl
  · exact Or.inr ⟨⟨mj_mw43 _ (List.mem_of_getElem? (i := 0) rfl), mj_mw43 _ (List.mem_of_getElem? (i := 1) rfl), fun h => absurd h (by decide), fun _ => ⟨mj_mw43 _ (List.mem_of_getElem? (i := 2) rfl), mj_mw43 _ (List.mem_of_getElem? (i := 3) rfl)⟩, fun h => absurd h (by decide)⟩, by decide +kernel⟩
  · exact Or.inr ⟨⟨mj_mw44 _ (List.mem_of_getElem? (i := 0) rfl), mj_mw44 _ (List.mem_of_getElem? (i := 1) rfl), fun h => absurd h (by decide), fun _ => ⟨mj_mw44 _ (List.mem_of_getElem? (i := 2) rfl), mj_mw44 _ (List.mem_of_getElem? (i := 3) rfl)⟩, fun h => absurd h (by decide)⟩, by decide +kernel⟩
  · exact Or.inr ⟨⟨mj_mw45 _ (List.mem_of_getElem? (i := 0) rfl), mj_mw45 _ (List.mem_of_getElem? (i := 1) rfl), fun h => absurd h (by decide), fun _ => ⟨mj_mw45 _ (List.mem_of_getElem? (i := 2) rfl), mj_mw45 _ (List.mem_of_getElem? (i := 3) rfl)⟩, fun h => absurd h (by decide)⟩, by decide +kernel⟩
  · exact Or.inr ⟨⟨mj_mw46 _ (List.mem_of_getElem? (i := 0) rfl), mj_mw46 _ (List.mem_of_getElem? (i := 1) rfl), fun _ => mj_mw46 _ (List.mem_of_getElem? (i := 2) rfl), fun h => absurd h (by decide), fun h => absurd h (by decide)⟩, by decide +kernel⟩
  · exact Or.inr ⟨⟨mj_mw47 _ (List.mem_of_getElem? (i := 0) rfl), mj_mw47 _ (List.mem_of_getElem? (i := 1) rfl), fun h => absurd h (by decide), fun _ => ⟨mj_mw47 _ (List.mem_of_getElem? (i := 2) rfl), mj_mw47 _ (List.mem_of_getElem? (i := 3) rfl)⟩, fun h => absurd h (by decide)⟩, by decide +kernel⟩
  · exact Or.inr ⟨⟨mj_mw48 _ (List.mem_of_getElem? (i := 0) rfl), mj_mw48 _ (List.mem_of_getElem? (i := 1) rfl), fun h => absurd h (by decide), fun _ => ⟨mj_mw48 _ (List.mem_of_getElem? (i := 2) rfl), mj_mw48 _ (List.mem_of_getElem? (i := 3) rfl)⟩, fun h => absurd h (by decide)⟩, by decide +kernel⟩
  · exact Or.inr ⟨⟨mj_mw49 _ (List.mem_of_getElem? (i := 0) rfl), mj_mw49 _ (List.mem_of_getElem? (i := 1) rfl), fun h => absurd h (by decide), fun _ => ⟨mj_mw49 _ (List.mem_of_getElem? (i := 2) rfl), mj_mw49 _ (List.mem_of_getElem? (i := 3) rfl)⟩, fun h => absurd h (by decide)⟩, by decide +kernel⟩
  · exact Or.inr ⟨⟨mj_mw50 _ (List.mem_of_getElem? (i := 0) rfl), mj_mw50 _ (List.mem_of_getElem? (i := 1) rfl), fun h => absurd h (by decide), fun _ => ⟨mj_mw50 _ (List.mem_of_getElem? (i := 2) rfl), mj_mw50 _ (List.mem_of_getElem? (i := 3) rfl)⟩, fun h => absurd h (by decide)⟩, by decide +kernel⟩
  · exact Or.inr ⟨⟨mj_mw51 _ (List.mem_of_getElem? (i := 0) rfl), mj_mw51 _ (List.mem_of_getElem? (i := 1) rfl), fun _ => mj_mw51 _ (List.mem_of_getElem? (i := 2) rfl), fun h => absurd h (by decide), fun h => absurd h (by decide)⟩, by decide +kernel⟩
  · exact Or.inl rfl
  · exact Or.inl rfl
  · exact Or.inr ⟨⟨mj_mw54 _ (List.mem_of_getElem? (i := 0) rfl), mj_mw54 _ (List.mem_of_getElem? (i := 1) rfl), fun h => absurd h (by decide), fun _ => ⟨mj_mw54 _ (List.mem_of_getElem? (i := 2) rfl), mj_mw54 _ (List.mem_of_getElem? (i := 3) rfl)⟩, fun h => absurd h (by decide)⟩, by decide +kernel⟩
  · exact Or.inr ⟨⟨mj_mw55 _ (List.mem_of_getElem? (i := 0) rfl), mj_mw55 _ (List.mem_of_getElem? (i := 1) rfl), fun h => absurd h (by decide), fun _ => ⟨mj_mw55 _ (List.mem_of_getElem? (i := 2) rfl), mj_mw55 _ (List.mem_of_getElem? (i := 3) rfl)⟩, fun h => absurd h (by decide)⟩, by decide +kernel⟩
  · exact Or.inr ⟨⟨mj_mw56 _ (List.mem_of_getElem? (i := 0) rfl), mj_mw56 _ (List.mem_of_getElem? (i := 1) rfl), fun h => absurd h (by decide), fun _ => ⟨mj_mw56 _ (List.mem_of_getElem? (i := 2) rfl), mj_mw56 _ (List.mem_of_getElem? (i := 3) rfl)⟩, fun h => absurd h (by decide)⟩, by decide +kernel⟩
  · exact Or.inr ⟨⟨mj_mw57 _ (List.mem_of_getElem? (i := 0) rfl), mj_mw57 _ (List.mem_of_getElem? (i := 1) rfl), fun h => absurd h (by decide), fun _ => ⟨mj_mw57 _ (List.mem_of_getElem? (i := 2) rfl), mj_mw57 _ (List.mem_of_getElem? (i := 3) rfl)⟩, fun h => absurd h (by decide)⟩, by decide +kernel⟩
  · exact Or.inr ⟨⟨mj_mw58 _ (List.mem_of_getElem? (i := 0) rfl), mj_mw58 _ (List.mem_of_getElem? (i := 1) rfl), fun h => absurd h (by decide), fun h => absurd h (by decide), fun _ => mj_mw58 _ (List.mem_of_getElem? (i := 2) rfl)⟩, by decide +kernel⟩
  · exact Or.inr ⟨⟨mj_mw59 _ (List.mem_of_getElem? (i := 0) rfl), mj_mw59 _ (List.mem_of_getElem? (i := 1) rfl), fun h => absurd h (by decide), fun _ => ⟨mj_mw59 _ (List.mem_of_getElem? (i := 2) rfl), mj_mw59 _ (List.mem_of_getElem? (i := 3) rfl)⟩, fun h => absurd h (by decide)⟩, by decide +kernel⟩
def mj_Q3 : List (mj_M × Nat) := [(mj_M60, 1), (mj_M61, 1), (mj_M62, 0), (mj_M63, 0), (mj_M64, 1), (mj_M65, 1), (mj_M66, 1), (mj_M67, 1), (mj_M68, 1), (mj_M69, 1), (mj_M70, 1), (mj_M71, 1), (mj_M72, 1), (mj_M73, 1), (mj_M74, 1), (mj_M75, 0), (mj_M76, 1), (mj_M77, 1), (mj_M78, 1), (mj_M79, 1)]
theorem mj_calQ3 : ∀ q ∈ mj_Q3, mj_calq q := by
  intro q h
  simp only [mj_Q3, List.mem_cons, List.not_mem_nil, or_false] at h
  rcases h with rfl | rfl | rfl | rfl | rfl | rfl | rfl | rfl | rfl | rfl | rfl | rfl | rfl | rfl | rfl | rfl | rfl | rfl | rfl | rfl
  · exact Or.inr ⟨⟨mj_mw60 _ (List.mem_of_getElem? (i := 0) rfl), mj_mw60 _ (List.mem_of_getElem? (i := 1) rfl), fun h => absurd h (by decide), fun _ => ⟨mj_mw60 _ (List.mem_of_getElem? (i := 2) rfl), mj_mw60 _ (List.mem_of_getElem? (i := 3) rfl)⟩, fun h => absurd h (by decide)⟩, by decide +kernel⟩
  · exact Or.inr ⟨⟨mj_mw61 _ (List.mem_of_getElem? (i := 0) rfl), mj_mw61 _ (List.mem_of_getElem? (i := 1) rfl), fun h => absurd h (by decide), fun _ => ⟨mj_mw61 _ (List.mem_of_getElem? (i := 2) rfl), mj_mw61 _ (List.mem_of_getElem? (i := 3) rfl)⟩, fun h => absurd h (by decide)⟩, by decide +kernel⟩
  · exact Or.inr ⟨⟨mj_mw62 _ (List.mem_of_getElem? (i := 0) rfl), mj_mw62 _ (List.mem_of_getElem? (i := 1) rfl), fun _ => mj_mw62 _ (List.mem_of_getElem? (i := 2) rfl), fun h => absurd h (by decide), fun h => absurd h (by decide)⟩, by decide +kernel⟩
  · exact Or.inr ⟨⟨mj_mw63 _ (List.mem_of_getElem? (i := 0) rfl), mj_mw63 _ (List.mem_of_getElem? (i := 1) rfl), fun _ => mj_mw63 _ (List.mem_of_getElem? (i := 2) rfl), fun h => absurd h (by decide), fun h => absurd h (by decide)⟩, by decide +kernel⟩
  · exact Or.inr ⟨⟨mj_mw64 _ (List.mem_of_getElem? (i := 0) rfl), mj_mw64 _ (List.mem_of_getElem? (i := 1) rfl), fun h => absurd h (by decide), fun _ => ⟨mj_mw64 _ (List.mem_of_getElem? (i := 2) rfl), mj_mw64 _ (List.mem_of_getElem? (i := 3) rfl)⟩, fun h => absurd h (by decide)⟩, by decide +kernel⟩
  · exact Or.inr ⟨⟨mj_mw65 _ (List.mem_of_getElem? (i := 0) rfl), mj_mw65 _ (List.mem_of_getElem? (i := 1) rfl), fun h => absurd h (by decide), fun _ => ⟨mj_mw65 _ (List.mem_of_getElem? (i := 2) rfl), mj_mw65 _ (List.mem_of_getElem? (i := 3) rfl)⟩, fun h => absurd h (by decide)⟩, by decide +kernel⟩
  · exact Or.inr ⟨⟨mj_mw66 _ (List.mem_of_getElem? (i := 0) rfl), mj_mw66 _ (List.mem_of_getElem? (i := 1) rfl), fun h => absurd h (by decide), fun _ => ⟨mj_mw66 _ (List.mem_of_getElem? (i := 2) rfl), mj_mw66 _ (List.mem_of_getElem? (i := 3) rfl)⟩, fun h => absurd h (by decide)⟩, by decide +kernel⟩
  · exact Or.inr ⟨⟨mj_mw67 _ (List.mem_of_getElem? (i := 0) rfl), mj_mw67 _ (List.mem_of_getElem? (i := 1) rfl), fun h => absurd h (by decide), fun _ => ⟨mj_mw67 _ (List.mem_of_getElem? (i := 2) rfl), mj_mw67 _ (List.mem_of_getElem? (i := 3) rfl)⟩, fun h => absurd h (by decide)⟩, by decide +kernel⟩
  · exact Or.inr ⟨⟨mj_mw68 _ (List.mem_of_getElem? (i := 0) rfl), mj_mw68 _ (List.mem_of_getElem? (i := 1) rfl), fun h => absurd h (by decide), fun _ => ⟨mj_mw68 _ (List.mem_of_getElem? (i := 2) rfl), mj_mw68 _ (List.mem_of_getElem? (i := 3) rfl)⟩, fun h => absurd h (by decide)⟩, by decide +kernel⟩
  · exact Or.inr ⟨⟨mj_mw69 _ (List.mem_of_getElem? (i := 0) rfl), mj_mw69 _ (List.mem_of_getElem? (i := 1) rfl), fun h => absurd h (by decide), fun _ => ⟨mj_mw69 _ (List.mem_of_getElem? (i := 2) rfl), mj_mw69 _ (List.mem_of_getElem? (i := 3) rfl)⟩, fun h => absurd h (by decide)⟩, by decide +kernel⟩
  · exact Or.inr ⟨⟨mj_mw70 _ (List.mem_of_getElem? (i := 0) rfl), mj_mw70 _ (List.mem_of_getElem? (i := 1) rfl), fun h => absurd h (by decide), fun _ => ⟨mj_mw70 _ (List.mem_of_getElem? (i := 2) rfl), mj_mw70 _ (List.mem_of_getElem? (i := 3) rfl)⟩, fun h => absurd h (by decide)⟩, by decide +kernel⟩
  · exact Or.inr ⟨⟨mj_mw71 _ (List.mem_of_getElem? (i := 0) rfl), mj_mw71 _ (List.mem_of_getElem? (i := 1) rfl), fun h => absurd h (by decide), fun _ => ⟨mj_mw71 _ (List.mem_of_getElem? (i := 2) rfl), mj_mw71 _ (List.mem_of_getElem? (i := 3) rfl)⟩, fun h => absurd h (by decide)⟩, by decide +kernel⟩
  · exact Or.inr ⟨⟨mj_mw72 _ (List.mem_of_getElem? (i := 0) rfl), mj_mw72 _ (List.mem_of_getElem? (i := 1) rfl), fun h => absurd h (by decide), fun _ => ⟨mj_mw72 _ (List.mem_of_getElem? (i := 2) rfl), mj_mw72 _ (List.mem_of_getElem? (i := 3) rfl)⟩, fun h => absurd h (by decide)⟩, by decide +kernel⟩
  · exact Or.inr ⟨⟨mj_mw73 _ (List.mem_of_getElem? (i := 0) rfl), mj_mw73 _ (List.mem_of_getElem? (i := 1) rfl), fun h => absurd h (by decide), fun _ => ⟨mj_mw73 _ (List.mem_of_getElem? (i := 2) rfl), mj_mw73 _ (List.mem_of_getElem? (i := 3) rfl)⟩, fun h => absurd h (by decide)⟩, by decide +kernel⟩
  · exact Or.inr ⟨⟨mj_mw74 _ (List.mem_of_getElem? (i := 0) rfl), mj_mw74 _ (List.mem_of_getElem? (i := 1) rfl), fun h => absurd h (by decide), fun _ => ⟨mj_mw74 _ (List.mem_of_getElem? (i := 2) rfl), mj_mw74 _ (List.mem_of_getElem? (i := 3) rfl)⟩, fun h => absurd h (by decide)⟩, by decide +kernel⟩
  · exact Or.inr ⟨⟨mj_mw75 _ (List.mem_of_getElem? (i := 0) rfl), mj_mw75 _ (List.mem_of_getElem? (i := 1) rfl), fun _ => mj_mw75 _ (List.mem_of_getElem? (i := 2) rfl), fun h => absurd h (by decide), fun h => absurd h (by decide)⟩, by decide +kernel⟩
  · exact Or.inr ⟨⟨mj_mw76 _ (List.mem_of_getElem? (i := 0) rfl), mj_mw76 _ (List.mem_of_getElem? (i := 1) rfl), fun h => absurd h (by decide), fun _ => ⟨mj_mw76 _ (List.mem_of_getElem? (i := 2) rfl), mj_mw76 _ (List.mem_of_getElem? (i := 3) rfl)⟩, fun h => absurd h (by decide)⟩, by decide +kernel⟩
  · exact Or.inr ⟨⟨mj_mw77 _ (List.mem_of_getElem? (i := 0) rfl), mj_mw77 _ (List.mem_of_getElem? (i := 1) rfl), fun h => absurd h (by decide), fun _ => ⟨mj_mw77 _ (List.mem_of_getElem? (i := 2) rfl), mj_mw77 _ (List.mem_of_getElem? (i := 3) rfl)⟩, fun h => absurd h (by decide)⟩, by decide +kernel⟩
  · exact Or.inr ⟨⟨mj_mw78 _ (List.mem_of_getElem? (i := 0) rfl), mj_mw78 _ (List.mem_of_getElem? (i := 1) rfl), fun h => absurd h (by decide), fun _ => ⟨mj_mw78 _ (List.mem_of_getElem? (i := 2) rfl), mj_mw78 _ (List.mem_of_getElem? (i := 3) rfl)⟩, fun h => absurd h (by decide)⟩, by decide +kernel⟩
  · exact Or.inr ⟨⟨mj_mw79 _ (List.mem_of_getElem? (i := 0) rfl), mj_mw79 _ (List.mem_of_getElem? (i := 1) rfl), fun h => absurd h (by decide), fun _ => ⟨mj_mw79 _ (List.mem_of_getElem? (i := 2) rfl), mj_mw79 _ (List.mem_of_getElem? (i := 3) rfl)⟩, fun h => absurd h (by decide)⟩, by decide +kernel⟩
def mj_Q4 : List (mj_M × Nat) := [(mj_M80, 1), (mj_M81, 1), (mj_M82, 1), (mj_M83, 1), (mj_M84, 1), (mj_M85, 1), (mj_M86, 1), (mj_M87, 1), (mj_M88, 1), (mj_M89, 1), (mj_M90, 1), (mj_M91, 1), (mj_M92, 1), (mj_M93, 1), (mj_M94, 1), (mj_M95, 1), (mj_M96, 1), (mj_M97, 1), (mj_M98, 1), (mj_M99, 0)]
theorem mj_calQ4 : ∀ q ∈ mj_Q4, mj_calq q := by
  intro q h
  simp only [mj_Q4, List.mem_cons, List.not_mem_nil, or_false] at h
  rcases h with rfl | rfl | rfl | rfl | rfl | rfl | rfl | rfl | rfl | rfl | rfl | rfl | rfl | rfl | rfl | rfl | rfl | rfl | rfl | rfl
  · exact Or.inr ⟨⟨mj_mw80 _ (List.mem_of_getElem? (i := 0) rfl), mj_mw80 _ (List.mem_of_getElem? (i := 1) rfl), fun h => absurd h (by decide), fun _ => ⟨mj_mw80 _ (List.mem_of_getElem? (i := 2) rfl), mj_mw80 _ (List.mem_of_getElem? (i := 3) rfl)⟩, fun h => absurd h (by decide)⟩, by decide +kernel⟩
  · exact Or.inr ⟨⟨mj_mw81 _ (List.mem_of_getElem? (i := 0) rfl), mj_mw81 _ (List.mem_of_getElem? (i := 1) rfl), fun h => absurd h (by decide), fun _ => ⟨mj_mw81 _ (List.mem_of_getElem? (i := 2) rfl), mj_mw81 _ (List.mem_of_getElem? (i := 3) rfl)⟩, fun h => absurd h (by decide)⟩, by decide +kernel⟩
  · exact Or.inr ⟨⟨mj_mw82 _ (List.mem_of_getElem? (i := 0) rfl), mj_mw82 _ (List.mem_of_getElem? (i := 1) rfl), fun h => absurd h (by decide), fun _ => ⟨mj_mw82 _ (List.mem_of_getElem? (i := 2) rfl), mj_mw82 _ (List.mem_of_getElem? (i := 3) rfl)⟩, fun h => absurd h (by decide)⟩, by decide +kernel⟩
  · exact Or.inr ⟨⟨mj_mw83 _ (List.mem_of_getElem? (i := 0) rfl), mj_mw83 _ (List.mem_of_getElem? (i := 1) rfl), fun h => absurd h (by decide), fun _ => ⟨mj_mw83 _ (List.mem_of_getElem? (i := 2) rfl), mj_mw83 _ (List.mem_of_getElem? (i := 3) rfl)⟩, fun h => absurd h (by decide)⟩, by decide +kernel⟩
  · exact Or.inr ⟨⟨mj_mw84 _ (List.mem_of_getElem? (i := 0) rfl), mj_mw84 _ (List.mem_of_getElem? (i := 1) rfl), fun h => absurd h (by decide), fun _ => ⟨mj_mw84 _ (List.mem_of_getElem? (i := 2) rfl), mj_mw84 _ (List.mem_of_getElem? (i := 3) rfl)⟩, fun h => absurd h (by decide)⟩, by decide +kernel⟩
  · exact Or.inr ⟨⟨mj_mw85 _ (List.mem_of_getElem? (i := 0) rfl), mj_mw85 _ (List.mem_of_getElem? (i := 1) rfl), fun h => absurd h (by decide), fun _ => ⟨mj_mw85 _ (List.mem_of_getElem? (i := 2) rfl), mj_mw85 _ (List.mem_of_getElem? (i := 3) rfl)⟩, fun h => absurd h (by decide)⟩, by decide +kernel⟩
  · exact Or.inr ⟨⟨mj_mw86 _ (List.mem_of_getElem? (i := 0) rfl), mj_mw86 _ (List.mem_of_getElem? (i := 1) rfl), fun h => absurd h (by decide), fun _ => ⟨mj_mw86 _ (List.mem_of_getElem? (i := 2) rfl), mj_mw86 _ (List.mem_of_getElem? (i := 3) rfl)⟩, fun h => absurd h (by decide)⟩, by decide +kernel⟩
  · exact Or.inr ⟨⟨mj_mw87 _ (List.mem_of_getElem? (i := 0) rfl), mj_mw87 _ (List.mem_of_getElem? (i := 1) rfl), fun h => absurd h (by decide), fun _ => ⟨mj_mw87 _ (List.mem_of_getElem? (i := 2) rfl), mj_mw87 _ (List.mem_of_getElem? (i := 3) rfl)⟩, fun h => absurd h (by decide)⟩, by decide +kernel⟩
  · exact Or.inr ⟨⟨mj_mw88 _ (List.mem_of_getElem? (i := 0) rfl), mj_mw88 _ (List.mem_of_getElem? (i := 1) rfl), fun h => absurd h (by decide), fun _ => ⟨mj_mw88 _ (List.mem_of_getElem? (i := 2) rfl), mj_mw88 _ (List.mem_of_getElem? (i := 3) rfl)⟩, fun h => absurd h (by decide)⟩, by decide +kernel⟩
  · exact Or.inr ⟨⟨mj_mw89 _ (List.mem_of_getElem? (i := 0) rfl), mj_mw89 _ (List.mem_of_getElem? (i := 1) rfl), fun h => absurd h (by decide), fun _ => ⟨mj_mw89 _ (List.mem_of_getElem? (i := 2) rfl), mj_mw89 _ (List.mem_of_getElem? (i := 3) rfl)⟩, fun h => absurd h (by decide)⟩, by decide +kernel⟩
  · exact Or.inr ⟨⟨mj_mw90 _ (List.mem_of_getElem? (i := 0) rfl), mj_mw90 _ (List.mem_of_getElem? (i := 1) rfl), fun h => absurd h (by decide), fun _ => ⟨mj_mw90 _ (List.mem_of_getElem? (i := 2) rfl), mj_mw90 _ (List.mem_of_getElem? (i := 3) rfl)⟩, fun h => absurd h (by decide)⟩, by decide +kernel⟩
  · exact Or.inr ⟨⟨mj_mw91 _ (List.mem_of_getElem? (i := 0) rfl), mj_mw91 _ (List.mem_of_getElem? (i := 1) rfl), fun h => absurd h (by decide), fun _ => ⟨mj_mw91 _ (List.mem_of_getElem? (i := 2) rfl), mj_mw91 _ (List.mem_of_getElem? (i := 3) rfl)⟩, fun h => absurd h (by decide)⟩, by decide +kernel⟩
  · exact Or.inr ⟨⟨mj_mw92 _ (List.mem_of_getElem? (i := 0) rfl), mj_mw92 _ (List.mem_of_getElem? (i := 1) rfl), fun h => absurd h (by decide), fun _ => ⟨mj_mw92 _ (List.mem_of_getElem? (i := 2) rfl), mj_mw92 _ (List.mem_of_getElem? (i := 3) rfl)⟩, fun h => absurd h (by decide)⟩, by decide +kernel⟩
  · exact Or.inr ⟨⟨mj_mw93 _ (List.mem_of_getElem? (i := 0) rfl), mj_mw93 _ (List.mem_of_getElem? (i := 1) rfl), fun h => absurd h (by decide), fun _ => ⟨mj_mw93 _ (List.mem_of_getElem? (i := 2) rfl), mj_mw93 _ (List.mem_of_getElem? (i := 3) rfl)⟩, fun h => absurd h (by decide)⟩, by decide +kernel⟩
  · exact Or.inr ⟨⟨mj_mw94 _ (List.mem_of_getElem? (i := 0) rfl), mj_mw94 _ (List.mem_of_getElem? (i := 1) rfl), fun h => absurd h (by decide), fun _ => ⟨mj_mw94 _ (List.mem_of_getElem? (i := 2) rfl), mj_mw94 _ (List.mem_of_getElem? (i := 3) rfl)⟩, fun h => absurd h (by decide)⟩, by decide +kernel⟩
  · exact Or.inr ⟨⟨mj_mw95 _ (List.mem_of_getElem? (i := 0) rfl), mj_mw95 _ (List.mem_of_getElem? (i := 1) rfl), fun h => absurd h (by decide), fun _ => ⟨mj_mw95 _ (List.mem_of_getElem? (i := 2) rfl), mj_mw95 _ (List.mem_of_getElem? (i := 3) rfl)⟩, fun h => absurd h (by decide)⟩, by decide +kernel⟩
  · exact Or.inr ⟨⟨mj_mw96 _ (List.mem_of_getElem? (i := 0) rfl), mj_mw96 _ (List.mem_of_getElem? (i := 1) rfl), fun h => absurd h (by decide), fun _ => ⟨mj_mw96 _ (List.mem_of_getElem? (i := 2) rfl), mj_mw96 _ (List.mem_of_getElem? (i := 3) rfl)⟩, fun h => absurd h (by decide)⟩, by decide +kernel⟩
  · exact Or.inr ⟨⟨mj_mw97 _ (List.mem_of_getElem? (i := 0) rfl), mj_mw97 _ (List.mem_of_getElem? (i := 1) rfl), fun h => absurd h (by decide), fun _ => ⟨mj_mw97 _ (List.mem_of_getElem? (i := 2) rfl), mj_mw97 _ (List.mem_of_getElem? (i := 3) rfl)⟩, fun h => absurd h (by decide)⟩, by decide +kernel⟩
  · exact Or.inr ⟨⟨mj_mw98 _ (List.mem_of_getElem? (i := 0) rfl), mj_mw98 _ (List.mem_of_getElem? (i := 1) rfl), fun h => absurd h (by decide), fun _ => ⟨mj_mw98 _ (List.mem_of_getElem? (i := 2) rfl), mj_mw98 _ (List.mem_of_getElem? (i := 3) rfl)⟩, fun h => absurd h (by decide)⟩, by decide +kernel⟩
  · exact Or.inr ⟨⟨mj_mw99 _ (List.mem_of_getElem? (i := 0) rfl), mj_mw99 _ (List.mem_of_getElem? (i := 1) rfl), fun _ => mj_mw99 _ (List.mem_of_getElem? (i := 2) rfl), fun h => absurd h (by decide), fun h => absurd h (by decide)⟩, by decide +kernel⟩
def mj_Q5 : List (mj_M × Nat) := [(mj_M100, 1), (mj_M101, 1), (mj_M102, 1), (mj_M103, 1), (mj_M104, 1), (mj_M105, 1), (mj_M106, 2), (mj_M107, 1), (mj_M108, 0), (mj_M109, 0), (mj_M110, 0), (mj_M111, 0), (mj_M112, 1), (mj_M113, 1), (mj_M114, 0), (mj_M115, 1), (mj_M116, 1), (mj_M117, 1), (mj_M118, 1), (mj_M119, 1)]
theorem mj_calQ5 : ∀ q ∈ mj_Q5, mj_calq q := by
  intro q h
  simp only [mj_Q5, List.mem_cons, List.not_mem_nil, or_false] at h
  rcases h with rfl | rfl | rfl | rfl | rfl | rfl | rfl | rfl | rfl | rfl | rfl | rfl | rfl | rfl | rfl | rfl | rfl | rfl | rfl | rfl
  · exact Or.inr ⟨⟨mj_mw100 _ (List.mem_of_getElem? (i := 0) rfl), mj_mw100 _ (List.mem_of_getElem? (i := 1) rfl), fun h => absurd h (by decide), fun _ => ⟨mj_mw100 _ (List.mem_of_getElem? (i := 2) rfl), mj_mw100 _ (List.mem_of_getElem? (i := 3) rfl)⟩, fun h => absurd h (by decide)⟩, by decide +kernel⟩
  · exact Or.inr ⟨⟨mj_mw101 _ (List.mem_of_getElem? (i := 0) rfl), mj_mw101 _ (List.mem_of_getElem? (i := 1) rfl), fun h => absurd h (by decide), fun _ => ⟨mj_mw101 _ (List.mem_of_getElem? (i := 2) rfl), mj_mw101 _ (List.mem_of_getElem? (i := 3) rfl)⟩, fun h => absurd h (by decide)⟩, by decide +kernel⟩
  · exact Or.inr ⟨⟨mj_mw102 _ (List.mem_of_getElem? (i := 0) rfl), mj_mw102 _ (List.mem_of_getElem? (i := 1) rfl), fun h => absurd h (by decide), fun _ => ⟨mj_mw102 _ (List.mem_of_getElem? (i := 2) rfl), mj_mw102 _ (List.mem_of_getElem? (i := 3) rfl)⟩, fun h => absurd h (by decide)⟩, by decide +kernel⟩
  · exact Or.inr ⟨⟨mj_mw103 _ (List.mem_of_getElem? (i := 0) rfl), mj_mw103 _ (List.mem_of_getElem? (i := 1) rfl), fun h => absurd h (by decide), fun _ => ⟨mj_mw103 _ (List.mem_of_getElem? (i := 2) rfl), mj_mw103 _ (List.mem_of_getElem? (i := 3) rfl)⟩, fun h => absurd h (by decide)⟩, by decide +kernel⟩
  · exact Or.inr ⟨⟨mj_mw104 _ (List.mem_of_getElem? (i := 0) rfl), mj_mw104 _ (List.mem_of_getElem? (i := 1) rfl), fun h => absurd h (by decide), fun _ => ⟨mj_mw104 _ (List.mem_of_getElem? (i := 2) rfl), mj_mw104 _ (List.mem_of_getElem? (i := 3) rfl)⟩, fun h => absurd h (by decide)⟩, by decide +kernel⟩
  · exact Or.inr ⟨⟨mj_mw105 _ (List.mem_of_getElem? (i := 0) rfl), mj_mw105 _ (List.mem_of_getElem? (i := 1) rfl), fun h => absurd h (by decide), fun _ => ⟨mj_mw105 _ (List.mem_of_getElem? (i := 2) rfl), mj_mw105 _ (List.mem_of_getElem? (i := 3) rfl)⟩, fun h => absurd h (by decide)⟩, by decide +kernel⟩
  · exact Or.inr ⟨⟨mj_mw106 _ (List.mem_of_getElem? (i := 0) rfl), mj_mw106 _ (List.mem_of_getElem? (i := 1) rfl), fun h => absurd h (by decide), fun h => absurd h (by decide), fun _ => mj_mw106 _ (List.mem_of_getElem? (i := 2) rfl)⟩, by decide +kernel⟩
  · exact Or.inr ⟨⟨mj_mw107 _ (List.mem_of_getElem? (i := 0) rfl), mj_mw107 _ (List.mem_of_getElem? (i := 1) rfl), fun h => absurd h (by decide), fun _ => ⟨mj_mw107 _ (List.mem_of_getElem? (i := 2) rfl), mj_mw107 _ (List.mem_of_getElem? (i := 3) rfl)⟩, fun h => absurd h (by decide)⟩, by decide +kernel⟩
  · exact Or.inr ⟨⟨mj_mw108 _ (List.mem_of_getElem? (i := 0) rfl), mj_mw108 _ (List.mem_of_getElem? (i := 1) rfl), fun _ => mj_mw108 _ (List.mem_of_getElem? (i := 2) rfl), fun h => absurd h (by decide), fun h => absurd h (by decide)⟩, by decide +kernel⟩
  · exact Or.inr ⟨⟨mj_mw109 _ (List.mem_of_getElem? (i := 0) rfl), mj_mw109 _ (List.mem_of_getElem? (i := 1) rfl), fun _ => mj_mw109 _ (List.mem_of_getElem? (i := 2) rfl), fun h => absurd h (by decide), fun h => absurd h (by decide)⟩, by decide +kernel⟩
  · exact Or.inr ⟨⟨mj_mw110 _ (List.mem_of_getElem? (i := 0) rfl), mj_mw110 _ (List.mem_of_getElem? (i := 1) rfl), fun _ => mj_mw110 _ (List.mem_of_getElem? (i := 2) rfl), fun h => absurd h (by decide), fun h => absurd h (by decide)⟩, by decide +kernel⟩
  · exact Or.inr ⟨⟨mj_mw111 _ (List.mem_of_getElem? (i := 0) rfl), mj_mw111 _ (List.mem_of_getElem? (i := 1) rfl), fun _ => mj_mw111 _ (List.mem_of_getElem? (i := 2) rfl), fun h => absurd h (by decide), fun h => absurd h (by decide)⟩, by decide +kernel⟩
  · exact Or.inr ⟨⟨mj_mw112 _ (List.mem_of_getElem? (i := 0) rfl), mj_mw112 _ (List.mem_of_getElem? (i := 1) rfl), fun h => absurd h (by decide), fun _ => ⟨mj_mw112 _ (List.mem_of_getElem? (i := 2) rfl), mj_mw112 _ (List.mem_of_getElem? (i := 3) rfl)⟩, fun h => absurd h (by decide)⟩, by decide +kernel⟩
  · exact Or.inr ⟨⟨mj_mw113 _ (List.mem_of_getElem? (i := 0) rfl), mj_mw113 _ (List.mem_of_getElem? (i := 1) rfl), fun h => absurd h (by decide), fun _ => ⟨mj_mw113 _ (List.mem_of_getElem? (i := 2) rfl), mj_mw113 _ (List.mem_of_getElem? (i := 3) rfl)⟩, fun h => absurd h (by decide)⟩, by decide +kernel⟩
  · exact Or.inr ⟨⟨mj_mw114 _ (List.mem_of_getElem? (i := 0) rfl), mj_mw114 _ (List.mem_of_getElem? (i := 1) rfl), fun _ => mj_mw114 _ (List.mem_of_getElem? (i := 2) rfl), fun h => absurd h (by decide), fun h => absurd h (by decide)⟩, by decide +kernel⟩
  · exact Or.inr ⟨⟨mj_mw115 _ (List.mem_of_getElem? (i := 0) rfl), mj_mw115 _ (List.mem_of_getElem? (i := 1) rfl), fun h => absurd h (by decide), fun _ => ⟨mj_mw115 _ (List.mem_of_getElem? (i := 2) rfl), mj_mw115 _ (List.mem_of_getElem? (i := 3) rfl)⟩, fun h => absurd h (by decide)⟩, by decide +kernel⟩
  · exact Or.inr ⟨⟨mj_mw116 _ (List.mem_of_getElem? (i := 0) rfl), mj_mw116 _ (List.mem_of_getElem? (i := 1) rfl), fun h => absurd h (by decide), fun _ => ⟨mj_mw116 _ (List.mem_of_getElem? (i := 2) rfl), mj_mw116 _ (List.mem_of_getElem? (i := 3) rfl)⟩, fun h => absurd h (by decide)⟩, by decide +kernel⟩
  · exact Or.inr ⟨⟨mj_mw117 _ (List.mem_of_getElem? (i := 0) rfl), mj_mw117 _ (List.mem_of_getElem? (i := 1) rfl), fun h => absurd h (by decide), fun _ => ⟨mj_mw117 _ (List.mem_of_getElem? (i := 2) rfl), mj_mw117 _ (List.mem_of_getElem? (i := 3) rfl)⟩, fun h => absurd h (by decide)⟩, by decide +kernel⟩
  · exact Or.inr ⟨⟨mj_mw118 _ (List.mem_of_getElem? (i := 0) rfl), mj_mw118 _ (List.mem_of_getElem? (i := 1) rfl), fun h => absurd h (by decide), fun _ => ⟨mj_mw118 _ (List.mem_of_getElem? (i := 2) rfl), mj_mw118 _ (List.mem_of_getElem? (i := 3) rfl)⟩, fun h => absurd h (by decide)⟩, by decide +kernel⟩
  · exact Or.inr ⟨⟨mj_mw119 _ (List.mem_of_getElem? (i := 0) rfl), mj_mw119 _ (List.mem_of_getElem? (i := 1) rfl), fun h => absurd h (by decide), fun _ => ⟨mj_mw119 _ (List.mem_of_getElem? (i := 2) rfl), mj_mw119 _ (List.mem_of_getElem? (i := 3) rfl)⟩, fun h => absurd h (by decide)⟩, by decide +kernel⟩
def mj_Q6 : List (mj_M × Nat) := [(mj_M120, 0), (mj_M121, 0), (mj_M122, 0), (mj_M123, 0), (mj_M124, 0), (mj_M125, 0), (mj_M126, 1), (mj_M127, 0), (mj_M128, 1), (mj_M129, 0), (mj_M130, 1), (mj_M131, 1), (mj_M132, 1), (mj_M133, 1), (mj_M134, 1), (mj_M135, 1), (mj_M136, 1), (mj_M137, 1), (mj_M138, 1), (mj_M139, 1)]
theorem mj_calQ6 : ∀ q ∈ mj_Q6, mj_calq q := by
  intro q h
  simp only [mj_Q6, List.mem_cons, List.not_mem_nil, or_false] at h
  rcases h with rfl | rfl | rfl | rfl | rfl | rfl | rfl | rfl | rfl | rfl | rfl | rfl | rfl | rfl | rfl | rfl | rfl | rfl | rfl | rfl
  · exact Or.inr ⟨⟨mj_mw120 _ (List.mem_of_getElem? (i := 0) rfl), mj_mw120 _ (List.mem_of_getElem? (i := 1) rfl), fun _ => mj_mw120 _ (List.mem_of_getElem? (i := 2) rfl), fun h => absurd h (by decide), fun h => absurd h (by decide)⟩, by decide +kernel⟩
  · exact Or.inr ⟨⟨mj_mw121 _ (List.mem_of_getElem? (i := 0) rfl), mj_mw121 _ (List.mem_of_getElem? (i := 1) rfl), fun _ => mj_mw121 _ (List.mem_of_getElem? (i := 2) rfl), fun h => absurd h (by decide), fun h => absurd h (by decide)⟩, by decide +kernel⟩
  · exact Or.inr ⟨⟨mj_mw122 _ (List.mem_of_getElem? (i := 0) rfl), mj_mw122 _ (List.mem_of_getElem? (i := 1) rfl), fun _ => mj_mw122 _ (List.mem_of_getElem? (i := 2) rfl), fun h => absurd h (by decide), fun h => absurd h (by decide)⟩, by decide +kernel⟩
  · exact Or.inr ⟨⟨mj_mw123 _ (List.mem_of_getElem? (i := 0) rfl), mj_mw123 _ (List.mem_of_getElem? (i := 1) rfl), fun _ => mj_mw123 _ (List.mem_of_getElem? (i := 2) rfl), fun h => absurd h (by decide), fun h => absurd h (by decide)⟩, by decide +kernel⟩
  · exact Or.inr ⟨⟨mj_mw124 _ (List.mem_of_getElem? (i := 0) rfl), mj_mw124 _ (List.mem_of_getElem? (i := 1) rfl), fun _ => mj_mw124 _ (List.mem_of_getElem? (i := 2) rfl), fun h => absurd h (by decide), fun h => absurd h (by decide)⟩, by decide +kernel⟩
  · exact Or.inr ⟨⟨mj_mw125 _ (List.mem_of_getElem? (i := 0) rfl), mj_mw125 _ (List.mem_of_getElem? (i := 1) rfl), fun _ => mj_mw125 _ (List.mem_of_getElem? (i := 2) rfl), fun h => absurd h (by decide), fun h => absurd h (by decide)⟩, by decide +kernel⟩
  · exact Or.inr ⟨⟨mj_mw126 _ (List.mem_of_getElem? (i := 0) rfl), mj_mw126 _ (List.mem_of_getElem? (i := 1) rfl), fun h => absurd h (by decide), fun _ => ⟨mj_mw126 _ (List.mem_of_getElem? (i := 2) rfl), mj_mw126 _ (List.mem_of_getElem? (i := 3) rfl)⟩, fun h => absurd h (by decide)⟩, by decide +kernel⟩
  · exact Or.inr ⟨⟨mj_mw127 _ (List.mem_of_getElem? (i := 0) rfl), mj_mw127 _ (List.mem_of_getElem? (i := 1) rfl), fun _ => mj_mw127 _ (List.mem_of_getElem? (i := 2) rfl), fun h => absurd h (by decide), fun h => absurd h (by decide)⟩, by decide +kernel⟩
  · exact Or.inr ⟨⟨mj_mw128 _ (List.mem_of_getElem? (i := 0) rfl), mj_mw128 _ (List.mem_of_getElem? (i := 1) rfl), fun h => absurd h (by decide), fun _ => ⟨mj_mw128 _ (List.mem_of_getElem? (i := 2) rfl), mj_mw128 _ (List.mem_of_getElem? (i := 3) rfl)⟩, fun h => absurd h (by decide)⟩, by decide +kernel⟩
  · exact Or.inr ⟨⟨mj_mw129 _ (List.mem_of_getElem? (i := 0) rfl), mj_mw129 _ (List.mem_of_getElem? (i := 1) rfl), fun _ => mj_mw129 _ (List.mem_of_getElem? (i := 2) rfl), fun h => absurd h (by decide), fun h => absurd h (by decide)⟩, by decide +kernel⟩
  · exact Or.inr ⟨⟨mj_mw130 _ (List.mem_of_getElem? (i := 0) rfl), mj_mw130 _ (List.mem_of_getElem? (i := 1) rfl), fun h => absurd h (by decide), fun _ => ⟨mj_mw130 _ (List.mem_of_getElem? (i := 2) rfl), mj_mw130 _ (List.mem_of_getElem? (i := 3) rfl)⟩, fun h => absurd h (by decide)⟩, by decide +kernel⟩
  · exact Or.inr ⟨⟨mj_mw131 _ (List.mem_of_getElem? (i := 0) rfl), mj_mw131 _ (List.mem_of_getElem? (i := 1) rfl), fun h => absurd h (by decide), fun _ => ⟨mj_mw131 _ (List.mem_of_getElem? (i := 2) rfl), mj_mw131 _ (List.mem_of_getElem? (i := 3) rfl)⟩, fun h => absurd h (by decide)⟩, by decide +kernel⟩
  · exact Or.inr ⟨⟨mj_mw132 _ (List.mem_of_getElem? (i := 0) rfl), mj_mw132 _ (List.mem_of_getElem? (i := 1) rfl), fun h => absurd h (by decide), fun _ => ⟨mj_mw132 _ (List.mem_of_getElem? (i := 2) rfl), mj_mw132 _ (List.mem_of_getElem? (i := 3) rfl)⟩, fun h => absurd h (by decide)⟩, by decide +kernel⟩
  · exact Or.inr ⟨⟨mj_mw133 _ (List.mem_of_getElem? (i := 0) rfl), mj_mw133 _ (List.mem_of_getElem? (i := 1) rfl), fun h => absurd h (by decide), fun _ => ⟨mj_mw133 _ (List.mem_of_getElem? (i := 2) rfl), mj_mw133 _ (List.mem_of_getElem? (i := 3) rfl)⟩, fun h => absurd h (by decide)⟩, by decide +kernel⟩
  · exact Or.inr ⟨⟨mj_mw134 _ (List.mem_of_getElem? (i := 0) rfl), mj_mw134 _ (List.mem_of_getElem? (i := 1) rfl), fun h => absurd h (by decide), fun _ => ⟨mj_mw134 _ (List.mem_of_getElem? (i := 2) rfl), mj_mw134 _ (List.mem_of_getElem? (i := 3) rfl)⟩, fun h => absurd h (by decide)⟩, by decide +kernel⟩
  · exact Or.inr ⟨⟨mj_mw135 _ (List.mem_of_getElem? (i := 0) rfl), mj_mw135 _ (List.mem_of_getElem? (i := 1) rfl), fun h => absurd h (by decide), fun _ => ⟨mj_mw135 _ (List.mem_of_getElem? (i := 2) rfl), mj_mw135 _ (List.mem_of_getElem? (i := 3) rfl)⟩, fun h => absurd h (by decide)⟩, by decide +kernel⟩
  · exact Or.inr ⟨⟨mj_mw136 _ (List.mem_of_getElem? (i := 0) rfl), mj_mw136 _ (List.mem_of_getElem? (i := 1) rfl), fun h => absurd h (by decide), fun _ => ⟨mj_mw136 _ (List.mem_of_getElem? (i := 2) rfl), mj_mw136 _ (List.mem_of_getElem? (i := 3) rfl)⟩, fun h => absurd h (by decide)⟩, by decide +kernel⟩
  · exact Or.inr ⟨⟨mj_mw137 _ (List.mem_of_getElem? (i := 0) rfl), mj_mw137 _ (List.mem_of_getElem? (i := 1) rfl), fun h => absurd h (by decide), fun _ => ⟨mj_mw137 _ (List.mem_of_getElem? (i := 2) rfl), mj_mw137 _ (List.mem_of_getElem? (i := 3) rfl)⟩, fun h => absurd h (by decide)⟩, by decide +kernel⟩
  · exact Or.inr ⟨⟨mj_mw138 _ (List.mem_of_getElem? (i := 0) rfl), mj_mw138 _ (List.mem_of_getElem? (i := 1) rfl), fun h => absurd h (by decide), fun _ => ⟨mj_mw138 _ (List.mem_of_getElem? (i := 2) rfl), mj_mw138 _ (List.mem_of_getElem? (i := 3) rfl)⟩, fun h => absurd h (by decide)⟩, by decide +kernel⟩
  · exact Or.inr ⟨⟨mj_mw139 _ (List.mem_of_getElem? (i := 0) rfl), mj_mw139 _ (List.mem_of_getElem? (i := 1) rfl), fun h => absurd h (by decide), fun _ => ⟨mj_mw139 _ (List.mem_of_getElem? (i := 2) rfl), mj_mw139 _ (List.mem_of_getElem? (i := 3) rfl)⟩, fun h => absurd h (by decide)⟩, by decide +kernel⟩
def mj_Q7 : List (mj_M × Nat) := [(mj_M140, 1), (mj_M141, 1), (mj_M142, 1), (mj_M143, 1), (mj_M144, 1), (mj_M145, 1), (mj_M146, 1), (mj_M147, 1), (mj_M148, 1), (mj_M149, 1), (mj_M150, 1), (mj_M151, 1), (mj_M152, 1), (mj_M153, 1), (mj_M154, 1), (mj_M155, 1), (mj_M156, 0), (mj_M157, 1), (mj_M158, 0), (mj_M159, 1)]
theorem mj_calQ7 : ∀ q ∈ mj_Q7, mj_calq q := by
  intro q h
  simp only [mj_Q7, List.mem_cons, List.not_mem_nil, or_false] at h
  rcases h with rfl | rfl | rfl | rfl | rfl | rfl | rfl | rfl | rfl | rfl | rfl | rfl | rfl | rfl | rfl | rfl | rfl | rfl | rfl | rfl
  · exact Or.inr ⟨⟨mj_mw140 _ (List.mem_of_getElem? (i := 0) rfl), mj_mw140 _ (List.mem_of_getElem? (i := 1) rfl), fun h => absurd h (by decide), fun _ => ⟨mj_mw140 _ (List.mem_of_getElem? (i := 2) rfl), mj_mw140 _ (List.mem_of_getElem? (i := 3) rfl)⟩, fun h => absurd h (by decide)⟩, by decide +kernel⟩
  · exact Or.inr ⟨⟨mj_mw141 _ (List.mem_of_getElem? (i := 0) rfl), mj_mw141 _ (List.mem_of_getElem? (i := 1) rfl), fun h => absurd h (by decide), fun _ => ⟨mj_mw141 _ (List.mem_of_getElem? (i := 2) rfl), mj_mw141 _ (List.mem_of_getElem? (i := 3) rfl)⟩, fun h => absurd h (by decide)⟩, by decide +kernel⟩
  · exact Or.inr ⟨⟨mj_mw142 _ (List.mem_of_getElem? (i := 0) rfl), mj_mw142 _ (List.mem_of_getElem? (i := 1) rfl), fun h => absurd h (by decide), fun _ => ⟨mj_mw142 _ (List.mem_of_getElem? (i := 2) rfl), mj_mw142 _ (List.mem_of_getElem? (i := 3) rfl)⟩, fun h => absurd h (by decide)⟩, by decide +kernel⟩
  · exact Or.inr ⟨⟨mj_mw143 _ (List.mem_of_getElem? (i := 0) rfl), mj_mw143 _ (List.mem_of_getElem? (i := 1) rfl), fun h => absurd h (by decide), fun _ => ⟨mj_mw143 _ (List.mem_of_getElem? (i := 2) rfl), mj_mw143 _ (List.mem_of_getElem? (i := 3) rfl)⟩, fun h => absurd h (by decide)⟩, by decide +kernel⟩
  · exact Or.inr ⟨⟨mj_mw144 _ (List.mem_of_getElem? (i := 0) rfl), mj_mw144 _ (List.mem_of_getElem? (i := 1) rfl), fun h => absurd h (by decide), fun _ => ⟨mj_mw144 _ (List.mem_of_getElem? (i := 2) rfl), mj_mw144 _ (List.mem_of_getElem? (i := 3) rfl)⟩, fun h => absurd h (by decide)⟩, by decide +kernel⟩
  · exact Or.inr ⟨⟨mj_mw145 _ (List.mem_of_getElem? (i := 0) rfl), mj_mw145 _ (List.mem_of_getElem? (i := 1) rfl), fun h => absurd h (by decide), fun _ => ⟨mj_mw145 _ (List.mem_of_getElem? (i := 2) rfl), mj_mw145 _ (List.mem_of_getElem? (i := 3) rfl)⟩, fun h => absurd h (by decide)⟩, by decide +kernel⟩
  · exact Or.inr ⟨⟨mj_mw146 _ (List.mem_of_getElem? (i := 0) rfl), mj_mw146 _ (List.mem_of_getElem? (i := 1) rfl), fun h => absurd h (by decide), fun _ => ⟨mj_mw146 _ (List.mem_of_getElem? (i := 2) rfl), mj_mw146 _ (List.mem_of_getElem? (i := 3) rfl)⟩, fun h => absurd h (by decide)⟩, by decide +kernel⟩
  · exact Or.inr ⟨⟨mj_mw147 _ (List.mem_of_getElem? (i := 0) rfl), mj_mw147 _ (List.mem_of_getElem? (i := 1) rfl), fun h => absurd h (by decide), fun _ => ⟨mj_mw147 _ (List.mem_of_getElem? (i := 2) rfl), mj_mw147 _ (List.mem_of_getElem? (i := 3) rfl)⟩, fun h => absurd h (by decide)⟩, by decide +kernel⟩
  · exact Or.inr ⟨⟨mj_mw148 _ (List.mem_of_getElem? (i := 0) rfl), mj_mw148 _ (List.mem_of_getElem? (i := 1) rfl), fun h => absurd h (by decide), fun _ => ⟨mj_mw148 _ (List.mem_of_getElem? (i := 2) rfl), mj_mw148 _ (List.mem_of_getElem? (i := 3) rfl)⟩, fun h => absurd h (by decide)⟩, by decide +kernel⟩
  · exact Or.inr ⟨⟨mj_mw149 _ (List.mem_of_getElem? (i := 0) rfl), mj_mw149 _ (List.mem_of_getElem? (i := 1) rfl), fun h => absurd h (by decide), fun _ => ⟨mj_mw149 _ (List.mem_of_getElem? (i := 2) rfl), mj_mw149 _ (List.mem_of_getElem? (i := 3) rfl)⟩, fun h => absurd h (by decide)⟩, by decide +kernel⟩
  · exact Or.inr ⟨⟨mj_mw150 _ (List.mem_of_getElem? (i := 0) rfl), mj_mw150 _ (List.mem_of_getElem? (i := 1) rfl), fun h => absurd h (by decide), fun _ => ⟨mj_mw150 _ (List.mem_of_getElem? (i := 2) rfl), mj_mw150 _ (List.mem_of_getElem? (i := 3) rfl)⟩, fun h => absurd h (by decide)⟩, by decide +kernel⟩
  · exact Or.inr ⟨⟨mj_mw151 _ (List.mem_of_getElem? (i := 0) rfl), mj_mw151 _ (List.mem_of_getElem? (i := 1) rfl), fun h => absurd h (by decide), fun _ => ⟨mj_mw151 _ (List.mem_of_getElem? (i := 2) rfl), mj_mw151 _ (List.mem_of_getElem? (i := 3) rfl)⟩, fun h => absurd h (by decide)⟩, by decide +kernel⟩
  · exact Or.inr ⟨⟨mj_mw152 _ (List.mem_of_getElem? (i := 0) rfl), mj_mw152 _ (List.mem_of_getElem? (i := 1) rfl), fun h => absurd h (by decide), fun _ => ⟨mj_mw152 _ (List.mem_of_getElem? (i := 2) rfl), mj_mw152 _ (List.mem_of_getElem? (i := 3) rfl)⟩, fun h => absurd h (by decide)⟩, by decide +kernel⟩
  · exact Or.inr ⟨⟨mj_mw153 _ (List.mem_of_getElem? (i := 0) rfl), mj_mw153 _ (List.mem_of_getElem? (i := 1) rfl), fun h => absurd h (by decide), fun _ => ⟨mj_mw153 _ (List.mem_of_getElem? (i := 2) rfl), mj_mw153 _ (List.mem_of_getElem? (i := 3) rfl)⟩, fun h => absurd h (by decide)⟩, by decide +kernel⟩
  · exact Or.inr ⟨⟨mj_mw154 _ (List.mem_of_getElem? (i := 0) rfl), mj_mw154 _ (List.mem_of_getElem? (i := 1) rfl), fun h => absurd h (by decide), fun _ => ⟨mj_mw154 _ (List.mem_of_getElem? (i := 2) rfl), mj_mw154 _ (List.mem_of_getElem? (i := 3) rfl)⟩, fun h => absurd h (by decide)⟩, by decide +kernel⟩
  · exact Or.inr ⟨⟨mj_mw155 _ (List.mem_of_getElem? (i := 0) rfl), mj_mw155 _ (List.mem_of_getElem? (i := 1) rfl), fun h => absurd h (by decide), fun _ => ⟨mj_mw155 _ (List.mem_of_getElem? (i := 2) rfl), mj_mw155 _ (List.mem_of_getElem? (i := 3) rfl)⟩, fun h => absurd h (by decide)⟩, by decide +kernel⟩
  · exact Or.inr ⟨⟨mj_mw156 _ (List.mem_of_getElem? (i := 0) rfl), mj_mw156 _ (List.mem_of_getElem? (i := 1) rfl), fun _ => mj_mw156 _ (List.mem_of_getElem? (i := 2) rfl), fun h => absurd h (by decide), fun h => absurd h (by decide)⟩, by decide +kernel⟩
  · exact Or.inr ⟨⟨mj_mw157 _ (List.mem_of_getElem? (i := 0) rfl), mj_mw157 _ (List.mem_of_getElem? (i := 1) rfl), fun h => absurd h (by decide), fun _ => ⟨mj_mw157 _ (List.mem_of_getElem? (i := 2) rfl), mj_mw157 _ (List.mem_of_getElem? (i := 3) rfl)⟩, fun h => absurd h (by decide)⟩, by decide +kernel⟩
  · exact Or.inr ⟨⟨mj_mw158 _ (List.mem_of_getElem? (i := 0) rfl), mj_mw158 _ (List.mem_of_getElem? (i := 1) rfl), fun _ => mj_mw158 _ (List.mem_of_getElem? (i := 2) rfl), fun h => absurd h (by decide), fun h => absurd h (by decide)⟩, by decide +kernel⟩
  · exact Or.inr ⟨⟨mj_mw159 _ (List.mem_of_getElem? (i := 0) rfl), mj_mw159 _ (List.mem_of_getElem? (i := 1) rfl), fun h => absurd h (by decide), fun _ => ⟨mj_mw159 _ (List.mem_of_getElem? (i := 2) rfl), mj_mw159 _ (List.mem_of_getElem? (i := 3) rfl)⟩, fun h => absurd h (by decide)⟩, by decide +kernel⟩
def mj_Q8 : List (mj_M × Nat) := [(mj_M160, 1), (mj_M161, 1), (mj_M162, 1), (mj_M163, 1), (mj_M164, 1), (mj_M165, 1), (mj_M166, 1), (mj_M167, 1), (mj_M168, 1), (mj_M169, 0), (mj_M170, 0), (mj_M171, 1), (mj_M172, 1), (mj_M173, 1), (mj_M174, 1), (mj_M175, 1), (mj_M176, 7), (mj_M177, 1)]
theorem mj_calQ8 : ∀ q ∈ mj_Q8, mj_calq q := by
  intro q h
  simp only [mj_Q8, List.mem_cons, List.not_mem_nil, or_false] at h
  rcases h with rfl | rfl | rfl | rfl | rfl | rfl | rfl | rfl | rfl | rfl | rfl | rfl | rfl | rfl | rfl | rfl | rfl | rfl
  · exact Or.inr ⟨⟨mj_mw160 _ (List.mem_of_getElem? (i := 0) rfl), mj_mw160 _ (List.mem_of_getElem? (i := 1) rfl), fun h => absurd h (by decide), fun _ => ⟨mj_mw160 _ (List.mem_of_getElem? (i := 2) rfl), mj_mw160 _ (List.mem_of_getElem? (i := 3) rfl)⟩, fun h => absurd h (by decide)⟩, by decide +kernel⟩
  · exact Or.inr ⟨⟨mj_mw161 _ (List.mem_of_getElem? (i := 0) rfl), mj_mw161 _ (List.mem_of_getElem? (i := 1) rfl), fun h => absurd h (by decide), fun _ => ⟨mj_mw161 _ (List.mem_of_getElem? (i := 2) rfl), mj_mw161 _ (List.mem_of_getElem? (i := 3) rfl)⟩, fun h => absurd h (by decide)⟩, by decide +kernel⟩
  · exact Or.inr ⟨⟨mj_mw162 _ (List.mem_of_getElem? (i := 0) rfl), mj_mw162 _ (List.mem_of_getElem? (i := 1) rfl), fun h => absurd h (by decide), fun _ => ⟨mj_mw162 _ (List.mem_of_getElem? (i := 2) rfl), mj_mw162 _ (List.mem_of_getElem? (i := 3) rfl)⟩, fun h => absurd h (by decide)⟩, by decide +kernel⟩
  · exact Or.inr ⟨⟨mj_mw163 _ (List.mem_of_getElem? (i := 0) rfl), mj_mw163 _ (List.mem_of_getElem? (i := 1) rfl), fun h => absurd h (by decide), fun _ => ⟨mj_mw163 _ (List.mem_of_getElem? (i := 2) rfl), mj_mw163 _ (List.mem_of_getElem? (i := 3) rfl)⟩, fun h => absurd h (by decide)⟩, by decide +kernel⟩
  · exact Or.inr ⟨⟨mj_mw164 _ (List.mem_of_getElem? (i := 0) rfl), mj_mw164 _ (List.mem_of_getElem? (i := 1) rfl), fun h => absurd h (by decide), fun _ => ⟨mj_mw164 _ (List.mem_of_getElem? (i := 2) rfl), mj_mw164 _ (List.mem_of_getElem? (i := 3) rfl)⟩, fun h => absurd h (by decide)⟩, by decide +kernel⟩
  · exact Or.inr ⟨⟨mj_mw165 _ (List.mem_of_getElem? (i := 0) rfl), mj_mw165 _ (List.mem_of_getElem? (i := 1) rfl), fun h => absurd h (by decide), fun _ => ⟨mj_mw165 _ (List.mem_of_getElem? (i := 2) rfl), mj_mw165 _ (List.mem_of_getElem? (i := 3) rfl)⟩, fun h => absurd h (by decide)⟩, by decide +kernel⟩
  · exact Or.inr ⟨⟨mj_mw166 _ (List.mem_of_getElem? (i := 0) rfl), mj_mw166 _ (List.mem_of_getElem? (i := 1) rfl), fun h => absurd h (by decide), fun _ => ⟨mj_mw166 _ (List.mem_of_getElem? (i := 2) rfl), mj_mw166 _ (List.mem_of_getElem? (i := 3) rfl)⟩, fun h => absurd h (by decide)⟩, by decide +kernel⟩
  · exact Or.inr ⟨⟨mj_mw167 _ (List.mem_of_getElem? (i := 0) rfl), mj_mw167 _ (List.mem_of_getElem? (i := 1) rfl), fun h => absurd h (by decide), fun _ => ⟨mj_mw167 _ (List.mem_of_getElem? (i := 2) rfl), mj_mw167 _ (List.mem_of_getElem? (i := 3) rfl)⟩, fun h => absurd h (by decide)⟩, by decide +kernel⟩
  · exact Or.inr ⟨⟨mj_mw168 _ (List.mem_of_getElem? (i := 0) rfl), mj_mw168 _ (List.mem_of_getElem? (i := 1) rfl), fun h => absurd h (by decide), fun _ => ⟨mj_mw168 _ (List.mem_of_getElem? (i := 2) rfl), mj_mw168 _ (List.mem_of_getElem? (i := 3) rfl)⟩, fun h => absurd h (by decide)⟩, by decide +kernel⟩
  · exact Or.inr ⟨⟨mj_mw169 _ (List.mem_of_getElem? (i := 0) rfl), mj_mw169 _ (List.mem_of_getElem? (i := 1) rfl), fun _ => mj_mw169 _ (List.mem_of_getElem? (i := 2) rfl), fun h => absurd h (by decide), fun h => absurd h (by decide)⟩, by decide +kernel⟩
  · exact Or.inr ⟨⟨mj_mw170 _ (List.mem_of_getElem? (i := 0) rfl), mj_mw170 _ (List.mem_of_getElem? (i := 1) rfl), fun _ => mj_mw170 _ (List.mem_of_getElem? (i := 2) rfl), fun h => absurd h (by decide), fun h => absurd h (by decide)⟩, by decide +kernel⟩
  · exact Or.inr ⟨⟨mj_mw171 _ (List.mem_of_getElem? (i := 0) rfl), mj_mw171 _ (List.mem_of_getElem? (i := 1) rfl), fun h => absurd h (by decide), fun _ => ⟨mj_mw171 _ (List.mem_of_getElem? (i := 2) rfl), mj_mw171 _ (List.mem_of_getElem? (i := 3) rfl)⟩, fun h => absurd h (by decide)⟩, by decide +kernel⟩
  · exact Or.inr ⟨⟨mj_mw172 _ (List.mem_of_getElem? (i := 0) rfl), mj_mw172 _ (List.mem_of_getElem? (i := 1) rfl), fun h => absurd h (by decide), fun _ => ⟨mj_mw172 _ (List.mem_of_getElem? (i := 2) rfl), mj_mw172 _ (List.mem_of_getElem? (i := 3) rfl)⟩, fun h => absurd h (by decide)⟩, by decide +kernel⟩
  · exact Or.inr ⟨⟨mj_mw173 _ (List.mem_of_getElem? (i := 0) rfl), mj_mw173 _ (List.mem_of_getElem? (i := 1) rfl), fun h => absurd h (by decide), fun _ => ⟨mj_mw173 _ (List.mem_of_getElem? (i := 2) rfl), mj_mw173 _ (List.mem_of_getElem? (i := 3) rfl)⟩, fun h => absurd h (by decide)⟩, by decide +kernel⟩
  · exact Or.inr ⟨⟨mj_mw174 _ (List.mem_of_getElem? (i := 0) rfl), mj_mw174 _ (List.mem_of_getElem? (i := 1) rfl), fun h => absurd h (by decide), fun _ => ⟨mj_mw174 _ (List.mem_of_getElem? (i := 2) rfl), mj_mw174 _ (List.mem_of_getElem? (i := 3) rfl)⟩, fun h => absurd h (by decide)⟩, by decide +kernel⟩
  · exact Or.inr ⟨⟨mj_mw175 _ (List.mem_of_getElem? (i := 0) rfl), mj_mw175 _ (List.mem_of_getElem? (i := 1) rfl), fun h => absurd h (by decide), fun _ => ⟨mj_mw175 _ (List.mem_of_getElem? (i := 2) rfl), mj_mw175 _ (List.mem_of_getElem? (i := 3) rfl)⟩, fun h => absurd h (by decide)⟩, by decide +kernel⟩
  · exact Or.inl rfl
  · exact Or.inr ⟨⟨mj_mw177 _ (List.mem_of_getElem? (i := 0) rfl), mj_mw177 _ (List.mem_of_getElem? (i := 1) rfl), fun h => absurd h (by decide), fun _ => ⟨mj_mw177 _ (List.mem_of_getElem? (i := 2) rfl), mj_mw177 _ (List.mem_of_getElem? (i := 3) rfl)⟩, fun h => absurd h (by decide)⟩, by decide +kernel⟩
set_option maxRecDepth 100000 in
theorem mj_cal_eq : mj_prog.zip mj_fl = mj_Q0 ++ (mj_Q1 ++ (mj_Q2 ++ (mj_Q3 ++ (mj_Q4 ++ (mj_Q5 ++ (mj_Q6 ++ (mj_Q7 ++ (mj_Q8)))))))) := rfl
theorem mj_cal_ok : ∀ q ∈ mj_prog.zip mj_fl, mj_calq q := by
  intro q h
  rw [mj_cal_eq] at h
  simp only [List.mem_append] at h
  rcases h with h | h | h | h | h | h | h | h | h
  · exact mj_calQ0 q h
  · exact mj_calQ1 q h
  · exact mj_calQ2 q h
  · exact mj_calQ3 q h
  · exact mj_calQ4 q h
  · exact mj_calQ5 q h
  · exact mj_calQ6 q h
  · exact mj_calQ7 q h
  · exact mj_calQ8 q h
