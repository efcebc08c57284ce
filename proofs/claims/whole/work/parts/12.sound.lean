/-! SOUNDNESS, together -/
theorem mj_len3 {ct : mj_T} {M : mj_M} {pc : Nat} {i : Instr} {len a1 b1 t u : Nat} {x : Int32} {y : Int64} (hok : mj_okO ct M pc (i, len, a1, b1, t, u, x, y) = true) (h0 : mj_kd (i, len, a1, b1, t, u, x, y) ≠ 0) (h2 : mj_kd (i, len, a1, b1, t, u, x, y) ≠ 2) : len = 3 := by
  rcases mj_kd_cases i len a1 b1 t u x y with z | z | ⟨k9, rfl, -⟩ | ⟨k9, rfl, z⟩ | ⟨k9, rfl, z⟩
  · exact absurd z h0
  · exact absurd z h2
  · simp only [mj_okO, Bool.and_eq_true, decide_eq_true_eq] at hok
    exact hok.1
  · simp only [mj_okO, Bool.and_eq_true, decide_eq_true_eq] at hok
    exact hok.1
  · simp only [mj_okO, Bool.and_eq_true, decide_eq_true_eq] at hok
    exact hok.1
theorem mj_kd_static {ct : mj_T} {M : mj_M} {pc : Nat} {i : Instr} {len a1 b1 t u : Nat} {x : Int32} {y : Int64} (h : 4 ≤ mj_kd (i, len, a1, b1, t, u, x, y)) : ∃ k, i = .invokestatic k ∧ ((t = 9 ∧ mj_kd (i, len, a1, b1, t, u, x, y) = 4) ∨ (t ≠ 9 ∧ 5 ≤ t ∧ mj_kd (i, len, a1, b1, t, u, x, y) = t)) := by
  rcases mj_kd_cases i len a1 b1 t u x y with z | z | ⟨k9, rfl, z⟩ | ⟨k9, rfl, z⟩ | ⟨k9, rfl, z⟩
  · omega
  · omega
  · omega
  · refine ⟨k9, rfl, ?_⟩
    by_cases h9 : t = 9
    · rw [if_pos h9] at z; exact Or.inl ⟨h9, z⟩
    · rw [if_neg h9] at z
      by_cases h5 : 5 ≤ t
      · rw [if_pos h5] at z; exact Or.inr ⟨h9, h5, z⟩
      · rw [if_neg h5] at z; omega
  · split at z <;> omega
set_option maxHeartbeats 4000000 in
theorem mj_sound (hTb : mj_Tb) (hPg : mj_Pg) : ∀ n, mj_Body n := by
  intro n
  induction n with
  | zero => intro d a pc ops L S h v h' M ct hr; cases hr
  | succ n ih =>
    intro d a pc ops L S h v h' M ct hr hM hok hseg p l e R s m args below meth c Q G D A t0 b L0 xs n0 z0 as0 C0 hc1 hc2 hend
    cases ops with
    | nil =>
      rw [mj_run] at hr
      split at hr
      · rename_i B hB
        exact ih d a pc B L S h v h' M ct hr hM hok (mj_blk_seg hB hM hok) p l e R s m args below meth c Q G D A t0 b L0 xs n0 z0 as0 C0 hc1 hc2 hend
      · cases hr
    | cons o r =>
      have go : ∀ (d2 pc2 : Nat) (ops2 : List mj_O) (L2 S2 : List Value) (h2 : mj_H), d2 = d → mj_run n d2 a pc2 ops2 L2 S2 h2 = some (v, h') → mj_seg ct M pc2 ops2 = true → mj_K p l e R s m args below meth c Q G D A t0 b L0 xs as0 M.2.2.1 n0 z0 pc2 L2 S2 h2 := by
        intro d2 pc2 ops2 L2 S2 h2 e1 e2 e3
        subst e1
        exact ih d2 a pc2 ops2 L2 S2 h2 v h' M ct e2 hM hok e3 p l e R s m args below meth c Q G D A t0 b L0 xs n0 z0 as0 C0 hc1 hc2 hend
      rw [mj_seg, Bool.and_eq_true, Bool.and_eq_true, decide_eq_true_eq] at hseg
      obtain ⟨⟨hdec, hokO⟩, hseg⟩ := hseg
      obtain ⟨i, len, a1, b1, t, u, x0, y0⟩ := o
      dsimp only at hdec hseg
      obtain ⟨hx, hb, hml, hown, hts, hK, hA, hao, hZ, ⟨hT0, hT1, hT2⟩, ⟨hX0, hX1, hX2⟩, hnm, hct, hR1, hR2⟩ := id C0
      have hoth := hTb.2.1
      have size_of : ∀ {as9 : List Nat} {L9 : List Value} {ls9 : Array Slot}, mj_lr as9 L9 ls9 → L9.length = M.2.2.1 → c.maxLocals = ls9.size := by
        intro as9 L9 ls9 hl9 hn9
        obtain ⟨lv, f1, -⟩ := hl9
        rw [hml, ← hn9]; exact f1.1.symm
      rcases mj_run_inv hr with ⟨-, j, L', S', h1, he, hr2⟩ | ⟨hk, d', As, S', k, v1, h1, vs, rfl, hp, h4, hrb, hmx, hew, hr1, hps, hr2⟩ | ⟨hk, hrt, rfl⟩ | ⟨hk, d', q1, S', rfl, rfl, h4, hr2⟩ | ⟨hk, d', x, y, S', rfl, rfl, h4, hr2⟩ | ⟨hk, d', x, y, S', rfl, rfl, h4, hr2⟩ | ⟨hk, d', x, y, S', rfl, rfl, h4, hr2⟩ | ⟨hk, d', p1, q1, x, y, c1, S', rfl, rfl, ⟨h4, k1, k2, k3, k4, k5, k6, k7, k8, k9⟩, hr2⟩
      · obtain ⟨m1, m2⟩ := mj_run_mono _ _ _ _ _ _ _ _ _ _ hr2
        refine mj_step hTb C0 hokO hdec he (by omega) (by omega) ?_
        cases j with
        | none => exact go d _ r L' S' h1 rfl hr2 hseg
        | some tg => exact go d tg [] L' S' h1 rfl hr2 rfl
      · obtain ⟨m1, m2⟩ := mj_run_mono _ _ _ _ _ _ _ _ _ _ hr2
        have hl3 := mj_len3 hokO (by rw [hk]; decide) (by rw [hk]; decide)
        subst hl3
        exact mj_call ih hTb hPg C0 hokO hdec hk hp h4 hrb hmx hew hr1 hps (by omega) (by omega) (go _ _ r L _ h1 rfl hr2 hseg)
      · exact hend _ pc L S hokO hdec hrt
      · have hl3 := mj_len3 hokO (by rw [hk]; decide) (by rw [hk]; decide)
        subst hl3
        rcases mj_kd_cases i 3 a1 b1 t u x0 y0 with z | z | ⟨k9, rfl, z⟩ | ⟨k9, rfl, z⟩ | ⟨k9, rfl, z⟩
        · rw [hk] at z; cases z
        · rw [hk] at z; cases z
        · rw [hk] at z; cases z
        · rw [hk] at z; split at z
          · cases z
          · split at z <;> omega
        · rw [hk] at z
          have h8 : t = 8 := by
            by_cases h8 : t = 8
            · exact h8
            · rw [if_neg h8] at z; cases z
          simp only [mj_okO, Bool.and_eq_true, decide_eq_true_eq] at hokO
          rw [if_pos h8] at hokO
          intro H locs ls st ws hR g1 g2
          obtain ⟨hP, hD, hS, hh, ho, hl, hv, hn, ha⟩ := hR
          obtain ⟨w1, st2, rfl, f1, hv2⟩ := mj_vs_c hv
          obtain ⟨q, f2, rfl⟩ := mj_vr_r f1
          have hcat : (st2.map (fun v => v.category)).sum ≤ 8 := by rw [mj_vs_cat hv2]; exact mj_ok4_le h4
          refine W.objInit hx hb hown (hts _ (mj_in_of hokO.2 hct)) (hts _ (hoth _ (List.mem_of_getElem? (i := 2) rfl))) (hts _ (hoth _ (List.mem_of_getElem? (i := 3) rfl))) rfl (size_of hl hn).symm rfl hdec (by omega) (by show 2 * 0 + _ + 12 ≤ _; omega) ?_
          exact go _ _ r L _ h rfl hr2 hseg H locs ls st2 ws ⟨hP, hD, hS, hh, ho, hl, hv2, hn, ha⟩ g1 g2
      · have hl3 := mj_len3 hokO (by rw [hk]; decide) (by rw [hk]; decide)
        subst hl3
        obtain ⟨k9, rfl, ⟨z1, z2⟩ | ⟨z1, z2, z3⟩⟩ := mj_kd_static (ct := ct) (M := M) (pc := pc) (i := i) (len := 3) (a1 := a1) (b1 := b1) (t := t) (u := u) (x := x0) (y := y0) (by rw [hk]; decide)
        · rw [hk] at z2; cases z2
        · rw [hk] at z3
          subst z3
          obtain ⟨m1, m2⟩ := mj_run_mono _ _ _ _ _ _ _ _ _ _ hr2
          simp only [mj_okO, Bool.and_eq_true, decide_eq_true_eq, reduceCtorEq, if_false, if_true, Nat.reduceEqDiff] at hokO
          intro H locs ls st ws hR g1 g2
          obtain ⟨hP, hD, hS, hh, ho, hl, hv, hn, ha⟩ := hR
          obtain ⟨w1, st1, rfl, f1, hv1⟩ := mj_vs_c hv
          obtain rfl := mj_vr_i f1
          obtain ⟨w2, st2, rfl, f2, hv2⟩ := mj_vs_c hv1
          obtain rfl := mj_vr_i f2
          have hcat : (st2.map (fun v => v.category)).sum ≤ 8 := by rw [mj_vs_cat hv2]; exact mj_ok4_le h4
          exact va_mmax hx hb (size_of hl hn) hown (hts _ (mj_in_of hokO.2 hct)) (hts _ (hoth _ (List.mem_of_getElem? (i := 19) rfl))) (hts _ (hoth _ (List.mem_of_getElem? (i := 25) rfl))) (hts _ (hoth _ (List.mem_of_getElem? (i := 20) rfl))) (by omega) (by omega) (by omega) (by omega) hdec
            (go _ _ r L _ h rfl hr2 hseg H locs ls _ ws ⟨hP, hD, hS, hh, ho, hl, ⟨rfl, hv2⟩, hn, ha⟩ g1 g2)
      · have hl3 := mj_len3 hokO (by rw [hk]; decide) (by rw [hk]; decide)
        subst hl3
        obtain ⟨k9, rfl, ⟨z1, z2⟩ | ⟨z1, z2, z3⟩⟩ := mj_kd_static (ct := ct) (M := M) (pc := pc) (i := i) (len := 3) (a1 := a1) (b1 := b1) (t := t) (u := u) (x := x0) (y := y0) (by rw [hk]; decide)
        · rw [hk] at z2; cases z2
        · rw [hk] at z3
          subst z3
          obtain ⟨m1, m2⟩ := mj_run_mono _ _ _ _ _ _ _ _ _ _ hr2
          simp only [mj_okO, Bool.and_eq_true, decide_eq_true_eq, reduceCtorEq, if_false, if_true, Nat.reduceEqDiff] at hokO
          intro H locs ls st ws hR g1 g2
          obtain ⟨hP, hD, hS, hh, ho, hl, hv, hn, ha⟩ := hR
          obtain ⟨w1, st1, rfl, f1, hv1⟩ := mj_vs_c hv
          obtain rfl := mj_vr_i f1
          obtain ⟨w2, st2, rfl, f2, hv2⟩ := mj_vs_c hv1
          obtain rfl := mj_vr_i f2
          have hcat : (st2.map (fun v => v.category)).sum ≤ 8 := by rw [mj_vs_cat hv2]; exact mj_ok4_le h4
          exact va_mmin hx hb (size_of hl hn) hown (hts _ (mj_in_of hokO.2 hct)) (hts _ (hoth _ (List.mem_of_getElem? (i := 21) rfl))) (hts _ (hoth _ (List.mem_of_getElem? (i := 25) rfl))) (hts _ (hoth _ (List.mem_of_getElem? (i := 22) rfl))) (by omega) (by omega) (by omega) (by omega) hdec
            (go _ _ r L _ h rfl hr2 hseg H locs ls _ ws ⟨hP, hD, hS, hh, ho, hl, ⟨rfl, hv2⟩, hn, ha⟩ g1 g2)
      · have hl3 := mj_len3 hokO (by rw [hk]; decide) (by rw [hk]; decide)
        subst hl3
        obtain ⟨k9, rfl, ⟨z1, z2⟩ | ⟨z1, z2, z3⟩⟩ := mj_kd_static (ct := ct) (M := M) (pc := pc) (i := i) (len := 3) (a1 := a1) (b1 := b1) (t := t) (u := u) (x := x0) (y := y0) (by rw [hk]; decide)
        · rw [hk] at z2; cases z2
        · rw [hk] at z3
          subst z3
          obtain ⟨m1, m2⟩ := mj_run_mono _ _ _ _ _ _ _ _ _ _ hr2
          simp only [mj_okO, Bool.and_eq_true, decide_eq_true_eq, reduceCtorEq, if_false, if_true, Nat.reduceEqDiff] at hokO
          intro H locs ls st ws hR g1 g2
          obtain ⟨hP, hD, hS, hh, ho, hl, hv, hn, ha⟩ := hR
          obtain ⟨w1, st1, rfl, f1, hv1⟩ := mj_vs_c hv
          obtain rfl := mj_vr_l f1
          obtain ⟨w2, st2, rfl, f2, hv2⟩ := mj_vs_c hv1
          obtain rfl := mj_vr_l f2
          have hcat : (st2.map (fun v => v.category)).sum ≤ 8 := by rw [mj_vs_cat hv2]; exact mj_ok4_le h4
          exact va_mmin_long hx hb (size_of hl hn) hown (hts _ (mj_in_of hokO.2 hct)) (hts _ (hoth _ (List.mem_of_getElem? (i := 23) rfl))) (hts _ (hoth _ (List.mem_of_getElem? (i := 25) rfl))) (hts _ (hoth _ (List.mem_of_getElem? (i := 24) rfl))) (by omega) (by omega) (by omega) (by omega) hdec
            (go _ _ r L _ h rfl hr2 hseg H locs ls _ ws ⟨hP, hD, hS, hh, ho, hl, ⟨rfl, hv2⟩, hn, ha⟩ g1 g2)
      · obtain ⟨hk0, hk1, hk2, hk3, hk5, hk6, hk7⟩ := hk
        have hl3 := mj_len3 hokO hk0 hk2
        subst hl3
        obtain ⟨k9', rfl, ⟨z1, z2⟩ | ⟨z1, z2, z3⟩⟩ := mj_kd_static (ct := ct) (M := M) (pc := pc) (i := i) (len := 3) (a1 := a1) (b1 := b1) (t := t) (u := u) (x := x0) (y := y0) (by omega)
        · obtain ⟨m1, m2⟩ := mj_run_mono _ _ _ _ _ _ _ _ _ _ hr2
          simp only [mj_okO, Bool.and_eq_true, decide_eq_true_eq] at hokO
          rw [if_pos z1] at hokO
          intro H locs ls st ws hR g1 g2
          obtain ⟨hP, hD, hS, hh, ho, hl, hv, hn, ha⟩ := hR
          obtain ⟨w1, st1, rfl, f1, hv1⟩ := mj_vs_c hv
          obtain rfl := mj_vr_i f1
          obtain ⟨w2, st2, rfl, f2, hv2⟩ := mj_vs_c hv1
          obtain rfl := mj_vr_i f2
          obtain ⟨w3, st3, rfl, f3, hv3⟩ := mj_vs_c hv2
          obtain ⟨qa, f3a, rfl⟩ := mj_vr_r f3
          obtain ⟨w4, st4, rfl, f4, hv4⟩ := mj_vs_c hv3
          obtain rfl := mj_vr_i f4
          obtain ⟨w5, st5, rfl, f5, hv5⟩ := mj_vs_c hv4
          obtain ⟨pa, f5a, rfl⟩ := mj_vr_r f5
          have hcat : (st5.map (fun v => v.category)).sum ≤ 8 := by rw [mj_vs_cat hv5]; exact mj_ok4_le h4
          obtain ⟨kq, Eq, rfl, hwq, hcq⟩ := mj_find hh ho f3a (Or.inr k4)
          obtain ⟨kp, Ep, rfl, hwp, hcp⟩ := mj_find hh ho f5a (Or.inr k3)
          rw [mj_cr_i k2] at hcq
          rw [mj_cr_i k1] at hcp
          subst hcq; subst hcp
          have hcell : mj_cr G (mj_as t0 b ws) (mj_cp h (kp + 2) (kq + 2) x.toNatClampNeg y.toNatClampNeg c1.toNatClampNeg) (kq + 2) (.inl (G.1, (mj_k h (kq + 2)).2, .inl (va_cpy (mj_gI h (kp + 2)) (mj_gI h (kq + 2)) x.toNatClampNeg y.toNatClampNeg c1.toNatClampNeg))) := by
            rw [mj_cr_i (h := mj_cp h (kp + 2) (kq + 2) x.toNatClampNeg y.toNatClampNeg c1.toNatClampNeg) k2]
            have e9 : mj_gI (mj_cp h (kp + 2) (kq + 2) x.toNatClampNeg y.toNatClampNeg c1.toNatClampNeg) (kq + 2) = va_cpy (mj_gI h (kp + 2)) (mj_gI h (kq + 2)) x.toNatClampNeg y.toNatClampNeg c1.toNatClampNeg := by
              funext j9
              simp [mj_gI, mj_cp, mj_w]
              rfl
            rw [e9]
            rfl
          have hh2 := hh.set (E' := .inl (G.1, (mj_k h (kq + 2)).2, .inl (va_cpy (mj_gI h (kp + 2)) (mj_gI h (kq + 2)) x.toNatClampNeg y.toNatClampNeg c1.toNatClampNeg))) hwq (h' := mj_cp h (kp + 2) (kq + 2) x.toNatClampNeg y.toNatClampNeg c1.toNatClampNeg) rfl hcell (fun r hr => mj_sm_cp r hr)
          have ho2 : mj_old L0 xs (mj_cp h (kp + 2) (kq + 2) x.toNatClampNeg y.toNatClampNeg c1.toNatClampNeg) := ho.cong (mj_sm_cp 0 (by omega)) (mj_sm_cp 1 (by omega))
          have has := mj_as_set (t0 := t0) (b := b) (E' := .inl (G.1, (mj_k h (kq + 2)).2, .inl (va_cpy (mj_gI h (kp + 2)) (mj_gI h (kq + 2)) x.toNatClampNeg y.toNatClampNeg c1.toNatClampNeg))) hwq
          have hnw : nativeFrameWords "java/lang/System" "arraycopy" 5 ≤ 20 := by decide +kernel
          exact va_copyi hx hb (size_of hl hn) hown (hts _ (mj_in_of hokO.2 hct)) (hts _ (hoth _ (List.mem_of_getElem? (i := 4) rfl))) (hts _ (hoth _ (List.mem_of_getElem? (i := 5) rfl))) (hts _ (hoth _ (List.mem_of_getElem? (i := 6) rfl))) hK hP hD hS kp kq 0 0 hwp hwq rfl rfl rfl k5 k6 k7 k8 k9 (fun _ _ => rfl) (by omega) (by omega) hdec
            (fun H1 locs1 hP1 hD1 hS1 => go _ _ r L _ _ rfl hr2 hseg H1 locs1 ls st5 _ ⟨hP1, hD1, hS1, hh2, ho2, by rw [has]; exact hl, by rw [has]; exact hv5, hn, by rw [has]; exact ha⟩ g1 g2)
        · simp only [mj_okO, Bool.and_eq_true, decide_eq_true_eq] at hokO
          rw [if_neg z1, if_neg (by omega), if_neg (by omega), if_neg (by omega)] at hokO
          simp only [Bool.and_eq_true, decide_eq_true_eq] at hokO
          omega
