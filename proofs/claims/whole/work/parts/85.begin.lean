/-! what holds at the law's loop -/
def A0 : AS := ((0, fun _ => 0), (fun _ => 0), (0, (fun _ => 0), fun _ => 0), 0, (false, 0, 0, S0, 0, fun _ => 0), (false, 0, fun _ => 0))
theorem wf_0 : Wf A0 := ⟨Nat.zero_le _, fun i hi => absurd hi (Nat.not_lt_zero _), Nat.zero_le _, fun i hi => absurd hi (Nat.not_lt_zero _), fun hF => absurd (show false = true from hF) (by decide), fun hF => absurd (show false = true from hF) (by decide)⟩
theorem st_0 {g h : mj_H} (hb : bl 34 g h) (hC : CF g) (hM : MF h) : St h := by
  obtain ⟨kC, r0, r1, r2, r3, r4, r5, r6, r7, r8, r9, r10, r11, r12, r13, r14, r15, r16, r17, r18, r19, r20, r21, r22, r23, r24, r25, r26, r27, r28, q4, q5, i1, i6, j3, i9, i10, i14, f5, f33⟩ := hC
  obtain ⟨kM, s0, s1, s2, s3, s4, s5, s6, s7, s8, s9, s10, s11, s12, s13, s14, s15, s16, s17, s18, s19, s20, s21, s22, n1, n15, n10, n22, n23, n30, g36, g41⟩ := hM
  refine ⟨fun r a b => ?_, fun p hp => ?_⟩
  · by_cases c : r < 34
    · exact (hb r c).1.trans (kC r a c)
    · exact kM r (by omega) b
  · simp only [rfl_, List.mem_cons, List.not_mem_nil, or_false] at hp
    rcases hp with rfl | rfl | rfl | rfl | rfl | rfl | rfl | rfl | rfl | rfl | rfl | rfl | rfl | rfl | rfl | rfl | rfl | rfl | rfl | rfl | rfl | rfl | rfl | rfl | rfl | rfl | rfl | rfl | rfl | rfl | rfl | rfl | rfl | rfl | rfl | rfl | rfl | rfl | rfl | rfl | rfl | rfl | rfl | rfl | rfl | rfl | rfl | rfl | rfl | rfl | rfl | rfl
    · exact ((hb _ (by decide)).2.2.2 _).trans r0
    · exact ((hb _ (by decide)).2.2.2 _).trans r1
    · exact ((hb _ (by decide)).2.2.2 _).trans r2
    · exact ((hb _ (by decide)).2.2.2 _).trans r3
    · exact ((hb _ (by decide)).2.2.2 _).trans r4
    · exact ((hb _ (by decide)).2.2.2 _).trans r5
    · exact ((hb _ (by decide)).2.2.2 _).trans r6
    · exact ((hb _ (by decide)).2.2.2 _).trans r7
    · exact ((hb _ (by decide)).2.2.2 _).trans r8
    · exact ((hb _ (by decide)).2.2.2 _).trans r9
    · exact ((hb _ (by decide)).2.2.2 _).trans r10
    · exact ((hb _ (by decide)).2.2.2 _).trans r11
    · exact ((hb _ (by decide)).2.2.2 _).trans r12
    · exact ((hb _ (by decide)).2.2.2 _).trans r13
    · exact ((hb _ (by decide)).2.2.2 _).trans r14
    · exact ((hb _ (by decide)).2.2.2 _).trans r15
    · exact ((hb _ (by decide)).2.2.2 _).trans r16
    · exact ((hb _ (by decide)).2.2.2 _).trans r17
    · exact ((hb _ (by decide)).2.2.2 _).trans r18
    · exact ((hb _ (by decide)).2.2.2 _).trans r19
    · exact ((hb _ (by decide)).2.2.2 _).trans r20
    · exact ((hb _ (by decide)).2.2.2 _).trans r21
    · exact ((hb _ (by decide)).2.2.2 _).trans r22
    · exact ((hb _ (by decide)).2.2.2 _).trans r23
    · exact ((hb _ (by decide)).2.2.2 _).trans r24
    · exact ((hb _ (by decide)).2.2.2 _).trans r25
    · exact ((hb _ (by decide)).2.2.2 _).trans r26
    · exact ((hb _ (by decide)).2.2.2 _).trans r27
    · exact ((hb _ (by decide)).2.2.2 _).trans r28
    · exact s0
    · exact s1
    · exact s2
    · exact s3
    · exact s4
    · exact s5
    · exact s6
    · exact s7
    · exact s8
    · exact s9
    · exact s10
    · exact s11
    · exact s12
    · exact s13
    · exact s14
    · exact s15
    · exact s16
    · exact s17
    · exact s18
    · exact s19
    · exact s20
    · exact s21
    · exact s22
theorem cs_0 {g h : mj_H} (hb : bl 34 g h) (hC : CF g) (h1 : h.1 = 58) (h2 : h.2.1 ≤ 200000) : Cs A0 h := by
  obtain ⟨kC, r0, r1, r2, r3, r4, r5, r6, r7, r8, r9, r10, r11, r12, r13, r14, r15, r16, r17, r18, r19, r20, r21, r22, r23, r24, r25, r26, r27, r28, q4, q5, i1, i6, j3, i9, i10, i14, f5, f33⟩ := hC
  have I : ∀ r j, r < 34 → mj_gI h r j = mj_gI g r j := fun r j a => (hb r a).2.1 j
  have R : ∀ r j, r < 34 → mj_gR h r j = mj_gR g r j := fun r j a => (hb r a).2.2.2 j
  refine ⟨⟨(I _ _ (by decide)).trans i1, fun i hi => absurd hi (Nat.not_lt_zero _)⟩, fun i _ _ => (I _ _ (by decide)).trans (f33 i), ⟨(I _ _ (by decide)).trans i6, fun i hi => absurd hi (Nat.not_lt_zero _)⟩, ((hb 2 (by decide)).2.2.1 3).trans j3, ⟨(I _ _ (by decide)).trans i9, (I _ _ (by decide)).trans i10, fun hF => absurd (show false = true from hF) (by decide)⟩, ⟨(I _ _ (by decide)).trans i14, fun hF => absurd (show false = true from hF) (by decide)⟩, ⟨0, by decide, h1, h2, fun j _ _ => (R _ _ (by decide)).trans (f5 j), fun n hn => absurd hn (Nat.not_lt_zero _)⟩, Or.inl ⟨(R _ _ (by decide)).trans q4, (R _ _ (by decide)).trans q5⟩⟩
theorem ms_0 {h : mj_H} (hM : MF h) : Ms A0 h := by
  obtain ⟨kM, s0, s1, s2, s3, s4, s5, s6, s7, s8, s9, s10, s11, s12, s13, s14, s15, s16, s17, s18, s19, s20, s21, s22, n1, n15, n10, n22, n23, n30, g36, g41⟩ := hM
  exact ⟨⟨n1, fun i hi => absurd hi (Nat.not_lt_zero _)⟩, fun i _ _ => g36 i, ⟨n15, fun i hi => absurd hi (Nat.not_lt_zero _)⟩, n10, ⟨n22, n23, fun hF => absurd (show false = true from hF) (by decide)⟩, ⟨n30, fun hF => absurd (show false = true from hF) (by decide)⟩, Or.inl (g41 2)⟩
def Iv (L : Nat) (xs : Nat → Int32) (A : AS) (h : mj_H) : Prop := St h ∧ Zr h ∧ Cs A h ∧ Ms A h ∧ Wf A ∧ mj_k h 1 = (0, L) ∧ ∀ j, mj_gI h 1 j = xs j
theorem iv_c {L : Nat} {xs : Nat → Int32} {A B : AS} {h h1 : mj_H} (hI : Iv L xs A h) (k1 : kc B h h1) : St h1 ∧ Zr h1 ∧ Cs B h1 ∧ Ms A h1 ∧ mj_k h1 1 = (0, L) ∧ ∀ j, mj_gI h1 1 j = xs j :=
  ⟨k1.1, zr_sc hI.2.1 k1.2.2.2, k1.2.1, Ms_sm k1.2.2.1 hI.2.2.2.1, k1.2.2.2.1.trans hI.2.2.2.2.2.1, fun j => (k1.2.2.2.2.2.1 j).trans (hI.2.2.2.2.2.2 j)⟩
theorem iv_m {L : Nat} {xs : Nat → Int32} {B : AS} {h1 h2 : mj_H} (hS : St h1) (hZ : Zr h1) (hc : Cs B h1) (hk : mj_k h1 1 = (0, L)) (hx : ∀ j, mj_gI h1 1 j = xs j) (k2 : km B h1 h2) (hw : Wf B) : Iv L xs B h2 :=
  ⟨st_fr hS k2.1, ⟨(fr_k k2.1 0).trans hZ.1, fun i hi => (fr_I k2.1 (by omega)).trans (hZ.2 i hi)⟩, Cs_fr k2.1 (fun r j x => x) hc, k2.2, hw, (fr_k k2.1 1).trans hk, fun j => (fr_I k2.1 (by omega)).trans (hx j)⟩
theorem i_s3 (k : Nat) : Int32.ofNat k + 3 = Int32.ofNat (k + 3) := by rw [Int32.ofNat_add]; rfl
theorem i_s4 (k : Nat) : Int32.ofNat k + 4 = Int32.ofNat (k + 4) := by rw [Int32.ofNat_add]; rfl
theorem i_s5 (k : Nat) : Int32.ofNat k + 5 = Int32.ofNat (k + 5) := by rw [Int32.ofNat_add]; rfl
