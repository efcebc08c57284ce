/-! SOUNDNESS of a whole run -/
theorem mj_rb1 {h : mj_H} {As : List Value} (hrb : mj_rb h 1 As = true) : ∃ (r : Nat) (As0 : List Value), As = .ref r :: As0 := by
  match As, hrb with
  | .ref r :: As0, _ => exact ⟨r, As0, rfl⟩
  | [], h9 => cases h9
  | .int _ :: _, h9 => cases h9
  | .long _ :: _, h9 => cases h9
  | .float _ :: _, h9 => cases h9
  | .double _ :: _, h9 => cases h9
  | .null :: _, h9 => cases h9
  | .retAddr _ :: _, h9 => cases h9
section
variable {p : Program} {l : Launch} {e : Env} {R : Room} {s : State} {m : MethodId} {args : Array Value} {below : List Frame} {meth : Method} {c : Code} {Q : State → Prop} {G : mj_G} {D : va_G} {A : Nat → Prop} {t0 b L0 : Nat} {xs : Nat → Int32} {M : mj_M} {ct : mj_T} {n0 z0 : Nat} {as0 : List Nat}
set_option maxHeartbeats 4000000 in
/-- a call, out of what is known of the callee's run -/
theorem mj_call {n d pc : Nat} {i : Instr} {len a1 b1 t u : Nat} {x : Int32} {y : Int64} {L S : List Value} {h : mj_H} (hB : mj_Body n) (hTb : mj_Tb) (hPg : mj_Pg) (C0 : mj_Cx p s m args meth c R G D A t0 b L0 xs M ct (d + 1)) (hok : mj_okO ct M pc (i, len, a1, b1, t, u, x, y) = true) (hdec : decode M.2.1 pc = .ok (i, len)) (hkd : mj_kd (i, len, a1, b1, t, u, x, y) = 1)
    {As S' vs : List Value} {k : Nat} {v1 : Option Value} {h1 : mj_H} (hpop : mj_pop b1 [] S = some (As, S')) (h4 : mj_ok4 S' = true) (hrb : mj_rb h u As = true) (hmx : mj_mx a1 = some k) (hew : mj_ew As k = true) (hrun : mj_run n d a1 0 [] (mj_en As k) [] h = some (v1, h1)) (hpush : mj_push t v1 = some vs)
    (hc1 : h1.1 ≤ n0 + R.cells) (hc2 : h1.2.1 ≤ z0 + R.slots) (hk : mj_K p l e R s m args below meth c Q G D A t0 b L0 xs as0 M.2.2.1 n0 z0 (pc + 3) L (vs ++ S') h1) : mj_K p l e R s m args below meth c Q G D A t0 b L0 xs as0 M.2.2.1 n0 z0 pc L S h := by
  obtain ⟨hx, hb, hml, hown, hts, hK, hA, hao, hZ, ⟨hT0, hT1, hT2⟩, ⟨hX0, hX1, hX2⟩, hnm, hct, hR1, hR2⟩ := C0
  intro H locs ls st ws hR g1 g2
  obtain ⟨hP, hD, hS, hh, ho, hl, hv, hn, ha⟩ := hR
  obtain ⟨m1, m2⟩ := mj_run_mono _ _ _ _ _ _ _ _ _ _ hrun
  obtain ⟨T, rfl, hAs, hTl⟩ := mj_pop_spec hpop
  rw [List.append_nil] at hAs
  obtain ⟨t1, t2, rfl, hv1, hv2⟩ := mj_vs_app hv
  have hav : mj_vs (mj_as t0 b ws) As t1.reverse := by rw [hAs]; exact mj_vs_rev hv1
  have hAl : As.length = b1 := by rw [hAs, List.length_reverse, hTl]
  have hsize : ls.size = M.2.2.1 := by
    obtain ⟨lv, f1, -⟩ := hl
    rw [← hn]; exact f1.1
  have hcat : (t2.map (fun v => v.category)).sum ≤ 8 := by rw [mj_vs_cat hv2]; exact mj_ok4_le h4
  -- what the callee is given
  have hA1 : ∀ q, va_A ws H.size q → A q := by
    rintro q (⟨k9, e9, h9⟩ | h9)
    · exact hD.2 k9 (q, e9) h9
    · exact hA q (Nat.le_trans hS.1 h9)
  have hkeep : ∀ q : Nat, q < s.heap.size → ¬ A q → H[q]? = s.heap[q]? := hS.2.1
  have hFx : mj_Fx G D t0 b L0 xs ws H (s.setVm s.vm) → True := fun _ => trivial
  have hFs : ∀ U : State, U.heap = H → s.WarmedH U.vm → mj_Fx G D t0 b L0 xs ws H U := by
    intro U hU hW
    refine ⟨hU, va_K.moved hW.alike hK, va_AO.moved hW.alike hao, ?_, ⟨?_, Nat.lt_of_lt_of_le hT1 hS.1, fun z => hT2 (hA1 _ z)⟩, ⟨?_, Nat.lt_of_lt_of_le hX1 hS.1, fun z => hX2 (hA1 _ z)⟩⟩
    · exact va_Z.narrow (va_Z.kept (va_Z.moved hW.alike hZ) (fun q h1 h2 => hkeep q h1 h2)) hA1
    · exact mj_TX.kept (mj_TX.moved hW.alike hT0) (hkeep t0 hT1 hT2)
    · exact mj_TX.kept (mj_TX.moved hW.alike hX0) (hkeep b hX1 hX2)
  have hblind : FrameBlind (va_Pc t1.reverse (mj_Fx G D t0 b L0 xs ws H)) := fun a9 U g9 mk9 q9 => ⟨q9.1, mj_Fx.moved (u := U) (U := U.calling g9 mk9 a9) (Vm.Alike.refl U.vm) q9.2.1 q9.2⟩
  -- behind it
  have after : ∀ (w : Option Value) (st t9 : State) (H1 : Heap) (Lc : List Loc), st.heap = H → t9.heap = H1 → s.vm.Alike t9.vm → (∀ q ∈ Lc, va_A ws H.size q.base) → mj_Qc G D (va_A ws H.size) t0 b L0 xs (mj_as t0 b ws) v1 h1 t1.reverse.toArray st (.returned w) t9 → W p l e R s m args below meth c H1 (locs ++ Lc) (h.1 - n0 + (h1.1 - h.1)) (h.2.1 - z0 + (h1.2.1 - h.2.1)) Q (F0 m (pc + 3) ls (w.toList ++ t2)) := by
    intro w st t9 H1 Lc e1 e2 hvm hL hq
    obtain ⟨⟨w', ws', e3, hov, hP1, hD1, hh1, ho1, hxt⟩, hF1, hF2⟩ := hq
    cases e3
    rw [e1] at hF1 hF2
    rw [e2] at hF1 hF2 hP1
    refine W.cs (cells' := h1.1 - n0) (slots' := h1.2.1 - z0) (by omega) (by omega) ?_
    refine hk H1 (locs ++ Lc) ls _ ws' ⟨hP1, hD1.weaken (fun _ _ _ z => hA1 _ z), ⟨Nat.le_trans hS.1 hF1, fun q q1 q2 => ?_, fun q hq => ?_⟩, hh1, ho1, hl.xt hxt, mj_vs_join (mj_push_vs hpush hov) (hv2.xt hxt), hn, ha.tr hxt⟩ (by omega) (by omega)
    · rw [hF2 q (Nat.lt_of_lt_of_le q1 hS.1) (fun z => q2 (hA1 q z))]
      exact hS.2.1 q q1 q2
    · rcases List.mem_append.mp hq with z | z
      · exact hS.2.2 q z
      · exact hA1 _ (hL q z)
  -- the callee
  have hcall : mj_callOk ct M.1.cls i a1 b1 t u = true ∧ len = 3 := by
    rcases mj_kd_cases i len a1 b1 t u x y with z | z | ⟨k9, rfl, -⟩ | ⟨k9, rfl, z⟩ | ⟨k9, rfl, z⟩
    · rw [hkd] at z; cases z
    · rw [hkd] at z; cases z
    · simp only [mj_okO, Bool.and_eq_true, decide_eq_true_eq] at hok
      exact ⟨hok.2, hok.1⟩
    · rw [hkd] at z
      have z1 : ¬ t = 9 := fun q => by rw [if_pos q] at z; cases z
      rw [if_neg z1] at z
      have z2 : ¬ 5 ≤ t := fun q => by rw [if_pos q] at z; omega
      simp only [mj_okO, Bool.and_eq_true, decide_eq_true_eq] at hok
      rw [if_neg z1, if_neg (by omega), if_neg (by omega), if_neg (by omega)] at hok
      simp only [Bool.and_eq_true, decide_eq_true_eq] at hok
      exact ⟨hok.2.2, hok.1⟩
    · rw [hkd] at z
      have z1 : ¬ t = 8 := fun q => by rw [if_pos q] at z; cases z
      simp only [mj_okO, Bool.and_eq_true, decide_eq_true_eq] at hok
      rw [if_neg z1] at hok
      exact ⟨hok.2, hok.1⟩
  obtain ⟨hcall, rfl⟩ := hcall
  unfold mj_callOk at hcall
  split at hcall
  case h_2 => cases hcall
  case h_1 Mc f hMc hfl =>
  split at hcall
  case h_1 => cases hcall
  case h_2 sg hsg =>
  rw [Bool.and_eq_true] at hcall
  obtain ⟨-, hcall⟩ := hcall
  have hkk := mj_mx_of hmx hMc
  cases i with
  | invokestatic idx =>
    simp only [Bool.and_eq_true, decide_eq_true_eq] at hcall
    obtain ⟨⟨⟨rfl, hu⟩, hb1⟩, hlink⟩ := hcall
    obtain ⟨⟨w1, w2, w3, -, -⟩, ⟨hc3, hc4⟩, hpl, hmax⟩ := hPg.2 a1 Mc 0 hMc hfl (by decide)
    have hMet := mj_met hB hPg (l := l) hrun hMc hkk hew hfl (by decide) hP hD hh ho hav
    refine mj_back (va_runS (As := t1.reverse) (rest := t2) ⟨hx, hb, hml, hown, hts⟩ hMet (va_cwS b1 hts (mj_GI ?_) rfl rfl rfl ⟨hc3, hc4, by rw [hsg, hb1]; rfl⟩ ⟨?_, ?_⟩) ⟨hblind, fun U hU hW => ⟨rfl, hFs U hU hW⟩⟩ rfl ?_ hsize ?_ (lv_room hcat) hdec ⟨by omega, by omega⟩) after
    · intro w hw
      simp only [va_wsS, List.cons_append, List.nil_append, List.mem_cons] at hw
      rcases hw with rfl | rfl | rfl | rfl | hw
      · exact mj_in_of hlink hct
      · exact w3 rfl
      · exact w2
      · exact w1
      · exact hw
    · show d + 1 ≤ R.frames; exact hR1
    · show 8 + (Mc.2.2.1 + 11) + 41 * d ≤ R.locals; omega
    · rw [List.length_reverse, mj_vs_len hv1, hTl]
    · show t1 ++ t2 = t1.reverse.reverse ++ t2; rw [List.reverse_reverse]
  | invokevirtual idx =>
    simp only [Bool.and_eq_true, decide_eq_true_eq] at hcall
    obtain ⟨⟨⟨rfl, hb1⟩, hlink⟩, hcls⟩ := hcall
    obtain ⟨⟨w1, w2, -, w3, -⟩, ⟨hc3, hc4⟩, hpl, hmax⟩ := hPg.2 a1 Mc 1 hMc hfl (by decide)
    have hMet := mj_met hB hPg (l := l) hrun hMc hkk hew hfl (by decide) hP hD hh ho hav
    cases hcl : vwCl[u - 3]? with
    | none => rw [hcl] at hcls; cases hcls
    | some cl1 =>
      obtain ⟨C, T9, N9⟩ := cl1
      rw [hcl] at hcls
      simp only [Bool.and_eq_true, decide_eq_true_eq] at hcls
      obtain ⟨hu3, hC⟩ := hcls
      obtain ⟨r, As0, rfl, htag⟩ : ∃ (r : Nat) (As0 : List Value), As = .ref r :: As0 ∧ (mj_k h r).1 = u := by
        unfold mj_rb at hrb
        split at hrb
        · omega
        · omega
        · split at hrb
          · rename_i r As0
            exact ⟨r, As0, rfl, of_decide_eq_true hrb⟩
          · cases hrb
      obtain ⟨q0, av0, hav1, hav2, hav3⟩ := mj_vs_c hav
      obtain ⟨q, hq1, rfl⟩ := mj_vr_r hav2
      obtain ⟨k2, E, rfl, hw, hc⟩ := mj_find hh ho hq1 (Or.inl (by rw [htag]; omega))
      have htag2 : (mj_k h (k2 + 2)).1 = (u - 3) + 3 := by omega
      rw [mj_cr_o htag2] at hc
      obtain ⟨fs, rfl, hc2', hc3'⟩ := hc
      have hrecv := va_recv hK hP hcl hw
      rw [hav1] at hblind hMet after
      refine mj_back (va_runV (C := C) (As := av0) (rest := t2) (b := q) ⟨hx, hb, hml, hown, hts⟩ hMet (cwV av0.length hts (mj_GI ?_) rfl rfl rfl ⟨hC.symm, hc3, hc4, ?_⟩ ⟨?_, ?_⟩) ⟨hblind, hrecv, fun U hU hW => ⟨rfl, hFs U hU hW⟩⟩ rfl rfl hsize ?_ (lv_room hcat) hdec ⟨by omega, by omega⟩) after
      · intro w hw
        simp only [wsV, List.cons_append, List.nil_append, List.mem_cons] at hw
        rcases hw with rfl | rfl | rfl | rfl | rfl | hw
        · exact mj_in_of hlink hct
        · exact (w3 rfl).1
        · rw [hC]; exact (w3 rfl).2
        · rw [hC]; exact w2
        · exact w1
        · exact hw
      · have e9 : av0.length = sg.parameters.length := by
          have := mj_vs_len hav3
          rw [List.length_cons] at hAl
          omega
        rw [hsg, e9]; rfl
      · show d + 1 ≤ R.frames; exact hR1
      · show 8 + (Mc.2.2.1 + 11) + 41 * d ≤ R.locals; omega
      · have e9 : t1 = av0.reverse ++ [.ref q] := by
          rw [← List.reverse_reverse t1, hav1, List.reverse_cons]
        show t1 ++ t2 = av0.reverse ++ .ref q :: t2
        rw [e9, List.append_assoc]; rfl
  | invokespecial idx =>
    simp only [Bool.and_eq_true, decide_eq_true_eq] at hcall
    obtain ⟨⟨⟨rfl, hu⟩, hb1⟩, hlink⟩ := hcall
    obtain ⟨⟨w1, w2, -, -, w3⟩, ⟨hc3, hc4⟩, hpl, hmax⟩ := hPg.2 a1 Mc 2 hMc hfl (by decide)
    obtain ⟨w4, w5, w6⟩ := w3 rfl
    have hMet := mj_met hB hPg (l := l) hrun hMc hkk hew hfl (by decide) hP hD hh ho hav
    subst hu
    obtain ⟨r, As0, rfl⟩ := mj_rb1 hrb
    obtain ⟨q0, av0, hav1, hav2, hav3⟩ := mj_vs_c hav
    obtain ⟨q, hq1, rfl⟩ := mj_vr_r hav2
    rw [hav1] at hblind hMet after
    rw [w6] at hMet
    refine mj_back (va_runI (As := av0) (rest := t2) (b := q) ⟨hx, hb, hml, hown, hts⟩ hMet (cwI av0.length hts (mj_GI ?_) rfl rfl rfl (hts _ w2) (hts _ (mj_in_of hlink hct)) (hts _ w4) w5 ⟨hc3, hc4, ?_⟩ ⟨?_, ?_⟩) ⟨hblind, fun U hU hW => ⟨rfl, hFs U hU hW⟩⟩ rfl rfl hsize ?_ (lv_room hcat) hdec ⟨by omega, by omega⟩) after
    · intro w hw
      rcases List.mem_cons.mp hw with rfl | hw
      · rw [← w6]; exact w1
      · exact hw
    · have e9 : av0.length = sg.parameters.length := by
        have := mj_vs_len hav3
        rw [List.length_cons] at hAl
        omega
      rw [hsg, e9]; rfl
    · show d + 1 ≤ R.frames; exact hR1
    · show 8 + (Mc.2.2.1 + 11) + 41 * d ≤ R.locals; omega
    · have e9 : t1 = av0.reverse ++ [.ref q] := by
        rw [← List.reverse_reverse t1, hav1, List.reverse_cons]
      show t1 ++ t2 = av0.reverse ++ .ref q :: t2
      rw [e9, List.append_assoc]; rfl
  | _ => cases hcall
end
