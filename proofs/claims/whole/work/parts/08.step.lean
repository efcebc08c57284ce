/-! SOUNDNESS of one instruction -/
theorem mj_ifs {c : Prop} [Decidable c] {α : Type} {x y : α} (h : (if c then some x else none) = some y) : c ∧ x = y := by
  by_cases hc : c
  · rw [if_pos hc] at h; exact ⟨hc, Option.some.inj h⟩
  · rw [if_neg hc] at h; cases h
theorem mj_ifn {c : Prop} [Decidable c] {α : Type} {x y : α} (h : (if c then none else some x) = some y) : ¬ c ∧ x = y := by
  by_cases hc : c
  · rw [if_pos hc] at h; cases h
  · rw [if_neg hc] at h; exact ⟨hc, Option.some.inj h⟩
section
variable {p : Program} {l : Launch} {e : Env} {R : Room} {s : State} {m : MethodId} {args : Array Value} {below : List Frame} {meth : Method} {c : Code} {Q : State → Prop} {G : mj_G} {D : va_G} {A : Nat → Prop} {t0 b L0 : Nat} {xs : Nat → Int32} {M : mj_M} {ct : mj_T} {d n0 z0 : Nat} {as0 : List Nat}
set_option maxHeartbeats 4000000 in
theorem mj_step (hTb : mj_Tb) (C0 : mj_Cx p s m args meth c R G D A t0 b L0 xs M ct d) {o : mj_O} {pc : Nat} {L S : List Value} {h h' : mj_H} {j : Option Nat} {L' S' : List Value} (hok : mj_okO ct M pc o = true) (hdec : decode M.2.1 pc = .ok (o.1, o.2.1)) (hE : mj_ex o pc L S h = some (j, L', S', h')) (hc1 : h'.1 ≤ n0 + R.cells) (hc2 : h'.2.1 ≤ z0 + R.slots)
    (hk : mj_K p l e R s m args below meth c Q G D A t0 b L0 xs as0 M.2.2.1 n0 z0 (j.getD (pc + o.2.1)) L' S' h') : mj_K p l e R s m args below meth c Q G D A t0 b L0 xs as0 M.2.2.1 n0 z0 pc L S h := by
  obtain ⟨i, len, a, k0, t, u, x, y⟩ := o
  obtain ⟨hx, hb, hml, hown, hts, hK, hA, hao, hZ, ⟨hT0, hT1, hT2⟩, ⟨hX0, hX1, hX2⟩, hnm, hct, hR1, hR2⟩ := C0
  obtain ⟨hlay, hoth, htys⟩ := hTb
  dsimp only at hdec hk
  cases i with
  | iconst n0v => 
    simp only [mj_okO, Bool.and_eq_true, Bool.or_eq_true, decide_eq_true_eq] at hok
    simp only [mj_ex] at hE
    simp only [Option.some.injEq, Prod.mk.injEq] at hE
    obtain ⟨rfl, rfl, rfl, rfl⟩ := hE
    obtain ⟨rfl, hq⟩ := hok
    intro H locs ls st ws hR g1 g2
    obtain ⟨hP, hD, hS, hh, ho, hl, hv, hn, ha⟩ := hR
    exact lv_iconst hx hb hdec hq (hk H locs ls _ ws ⟨hP, hD, hS, hh, ho, hl, ⟨rfl, hv⟩, hn, ha⟩ g1 g2)
  | bipush n0v => 
    simp only [mj_okO, Bool.and_eq_true, Bool.or_eq_true, decide_eq_true_eq] at hok
    simp only [mj_ex] at hE
    simp only [Option.some.injEq, Prod.mk.injEq] at hE
    obtain ⟨rfl, rfl, rfl, rfl⟩ := hE
    obtain ⟨rfl, hq⟩ := hok
    intro H locs ls st ws hR g1 g2
    obtain ⟨hP, hD, hS, hh, ho, hl, hv, hn, ha⟩ := hR
    exact lv_bipush hx hb hdec hq (hk H locs ls _ ws ⟨hP, hD, hS, hh, ho, hl, ⟨rfl, hv⟩, hn, ha⟩ g1 g2)
  | sipush n0v => 
    simp only [mj_okO, Bool.and_eq_true, Bool.or_eq_true, decide_eq_true_eq] at hok
    simp only [mj_ex] at hE
    simp only [Option.some.injEq, Prod.mk.injEq] at hE
    obtain ⟨rfl, rfl, rfl, rfl⟩ := hE
    obtain ⟨rfl, hq⟩ := hok
    intro H locs ls st ws hR g1 g2
    obtain ⟨hP, hD, hS, hh, ho, hl, hv, hn, ha⟩ := hR
    exact lv_sipush hx hb hdec hq (hk H locs ls _ ws ⟨hP, hD, hS, hh, ho, hl, ⟨rfl, hv⟩, hn, ha⟩ g1 g2)
  | ldc kk => 
    simp only [mj_okO, Bool.and_eq_true, Bool.or_eq_true, decide_eq_true_eq] at hok
    simp only [mj_ex] at hE
    simp only [Option.some.injEq, Prod.mk.injEq] at hE
    obtain ⟨rfl, rfl, rfl, rfl⟩ := hE
    obtain ⟨rfl, hq⟩ := hok
    intro H locs ls st ws hR g1 g2
    obtain ⟨hP, hD, hS, hh, ho, hl, hv, hn, ha⟩ := hR
    exact lv_ldc hx hb hown (hts _ (mj_in_of hq hct)) hdec (hk H locs ls _ ws ⟨hP, hD, hS, hh, ho, hl, ⟨rfl, hv⟩, hn, ha⟩ g1 g2)
  | ldc_w kk => 
    simp only [mj_okO, Bool.and_eq_true, Bool.or_eq_true, decide_eq_true_eq] at hok
    simp only [mj_ex] at hE
    simp only [Option.some.injEq, Prod.mk.injEq] at hE
    obtain ⟨rfl, rfl, rfl, rfl⟩ := hE
    obtain ⟨rfl, hq⟩ := hok
    intro H locs ls st ws hR g1 g2
    obtain ⟨hP, hD, hS, hh, ho, hl, hv, hn, ha⟩ := hR
    exact lv_ldcw hx hb hown (hts _ (mj_in_of hq hct)) hdec (hk H locs ls _ ws ⟨hP, hD, hS, hh, ho, hl, ⟨rfl, hv⟩, hn, ha⟩ g1 g2)
  | lconst n0v => 
    simp only [mj_okO, Bool.and_eq_true, Bool.or_eq_true, decide_eq_true_eq] at hok
    simp only [mj_ex] at hE
    simp only [Option.some.injEq, Prod.mk.injEq] at hE
    obtain ⟨rfl, rfl, rfl, rfl⟩ := hE
    obtain ⟨rfl, hq⟩ := hok
    intro H locs ls st ws hR g1 g2
    obtain ⟨hP, hD, hS, hh, ho, hl, hv, hn, ha⟩ := hR
    exact lv_lconst hx hb hdec hq (hk H locs ls _ ws ⟨hP, hD, hS, hh, ho, hl, ⟨rfl, hv⟩, hn, ha⟩ g1 g2)
  | ldc2_w kk => 
    simp only [mj_okO, Bool.and_eq_true, Bool.or_eq_true, decide_eq_true_eq] at hok
    simp only [mj_ex] at hE
    simp only [Option.some.injEq, Prod.mk.injEq] at hE
    obtain ⟨rfl, rfl, rfl, rfl⟩ := hE
    obtain ⟨rfl, hq⟩ := hok
    intro H locs ls st ws hR g1 g2
    obtain ⟨hP, hD, hS, hh, ho, hl, hv, hn, ha⟩ := hR
    exact lv_ldc2 hx hb hown (hts _ (mj_in_of hq hct)) hdec (hk H locs ls _ ws ⟨hP, hD, hS, hh, ho, hl, ⟨rfl, hv⟩, hn, ha⟩ g1 g2)
  | aconst_null => 
    simp only [mj_okO, Bool.and_eq_true, Bool.or_eq_true, decide_eq_true_eq] at hok
    simp only [mj_ex] at hE
    simp only [Option.some.injEq, Prod.mk.injEq] at hE
    obtain ⟨rfl, rfl, rfl, rfl⟩ := hE
    subst hok
    intro H locs ls st ws hR g1 g2
    obtain ⟨hP, hD, hS, hh, ho, hl, hv, hn, ha⟩ := hR
    exact lv_null hx hb hdec (hk H locs ls _ ws ⟨hP, hD, hS, hh, ho, hl, ⟨rfl, hv⟩, hn, ha⟩ g1 g2)
  | iload kk => 
    simp only [mj_okO, Bool.and_eq_true, Bool.or_eq_true, decide_eq_true_eq] at hok
    simp only [mj_ex] at hE
    split at hE
    · rename_i v hld
      simp only [Option.some.injEq, Prod.mk.injEq] at hE
      obtain ⟨rfl, rfl, rfl, rfl⟩ := hE
      obtain ⟨rfl, rfl⟩ := hok
      intro H locs ls st ws hR g1 g2
      obtain ⟨hP, hD, hS, hh, ho, hl, hv, hn, ha⟩ := hR
      obtain ⟨w, e1, e2⟩ := hl.ld hld (fun q => by cases q)
      obtain rfl := mj_vr_i e1
      exact lv_iload hx hb hdec e2 (hk H locs ls _ ws ⟨hP, hD, hS, hh, ho, hl, ⟨rfl, hv⟩, hn, ha⟩ g1 g2)
    · cases hE
  | iload_n kk => 
    simp only [mj_okO, Bool.and_eq_true, Bool.or_eq_true, decide_eq_true_eq] at hok
    simp only [mj_ex] at hE
    split at hE
    · rename_i v hld
      simp only [Option.some.injEq, Prod.mk.injEq] at hE
      obtain ⟨rfl, rfl, rfl, rfl⟩ := hE
      obtain ⟨rfl, rfl⟩ := hok
      intro H locs ls st ws hR g1 g2
      obtain ⟨hP, hD, hS, hh, ho, hl, hv, hn, ha⟩ := hR
      obtain ⟨w, e1, e2⟩ := hl.ld hld (fun q => by cases q)
      obtain rfl := mj_vr_i e1
      exact lv_iload_n hx hb hdec rfl e2 (hk H locs ls _ ws ⟨hP, hD, hS, hh, ho, hl, ⟨rfl, hv⟩, hn, ha⟩ g1 g2)
    · cases hE
  | lload kk => 
    simp only [mj_okO, Bool.and_eq_true, Bool.or_eq_true, decide_eq_true_eq] at hok
    simp only [mj_ex] at hE
    split at hE
    · rename_i v hld
      simp only [Option.some.injEq, Prod.mk.injEq] at hE
      obtain ⟨rfl, rfl, rfl, rfl⟩ := hE
      obtain ⟨rfl, rfl⟩ := hok
      intro H locs ls st ws hR g1 g2
      obtain ⟨hP, hD, hS, hh, ho, hl, hv, hn, ha⟩ := hR
      obtain ⟨w, e1, e2⟩ := hl.ld hld (fun q => by cases q)
      obtain rfl := mj_vr_l e1
      exact lv_lload hx hb hdec e2 (hk H locs ls _ ws ⟨hP, hD, hS, hh, ho, hl, ⟨rfl, hv⟩, hn, ha⟩ g1 g2)
    · cases hE
  | lload_n kk => 
    simp only [mj_okO, Bool.and_eq_true, Bool.or_eq_true, decide_eq_true_eq] at hok
    simp only [mj_ex] at hE
    split at hE
    · rename_i v hld
      simp only [Option.some.injEq, Prod.mk.injEq] at hE
      obtain ⟨rfl, rfl, rfl, rfl⟩ := hE
      obtain ⟨rfl, rfl⟩ := hok
      intro H locs ls st ws hR g1 g2
      obtain ⟨hP, hD, hS, hh, ho, hl, hv, hn, ha⟩ := hR
      obtain ⟨w, e1, e2⟩ := hl.ld hld (fun q => by cases q)
      obtain rfl := mj_vr_l e1
      exact lv_lload_n hx hb hdec rfl e2 (hk H locs ls _ ws ⟨hP, hD, hS, hh, ho, hl, ⟨rfl, hv⟩, hn, ha⟩ g1 g2)
    · cases hE
  | aload kk => 
    simp only [mj_okO, Bool.and_eq_true, Bool.or_eq_true, decide_eq_true_eq] at hok
    simp only [mj_ex] at hE
    split at hE
    · rename_i v hld
      simp only [Option.some.injEq, Prod.mk.injEq] at hE
      obtain ⟨rfl, rfl, rfl, rfl⟩ := hE
      obtain ⟨rfl, rfl⟩ := hok
      intro H locs ls st ws hR g1 g2
      obtain ⟨hP, hD, hS, hh, ho, hl, hv, hn, ha⟩ := hR
      obtain ⟨w, e1, e2⟩ := hl.ld hld (fun q => by cases q)
      obtain ⟨q, e3, rfl⟩ := mj_vr_r e1
      exact lv_aload hx hb hdec e2 (hk H locs ls _ ws ⟨hP, hD, hS, hh, ho, hl, ⟨⟨q, e3, rfl⟩, hv⟩, hn, ha⟩ g1 g2)
    · rename_i hld
      simp only [Option.some.injEq, Prod.mk.injEq] at hE
      obtain ⟨rfl, rfl, rfl, rfl⟩ := hE
      obtain ⟨rfl, rfl⟩ := hok
      intro H locs ls st ws hR g1 g2
      obtain ⟨hP, hD, hS, hh, ho, hl, hv, hn, ha⟩ := hR
      obtain ⟨w, e1, e2⟩ := hl.ld hld (fun q => by cases q)
      obtain rfl := mj_vr_n e1
      exact lv_aloadN hx hb hdec e2 (hk H locs ls _ ws ⟨hP, hD, hS, hh, ho, hl, ⟨rfl, hv⟩, hn, ha⟩ g1 g2)
    · cases hE
  | aload_n kk => 
    simp only [mj_okO, Bool.and_eq_true, Bool.or_eq_true, decide_eq_true_eq] at hok
    simp only [mj_ex] at hE
    split at hE
    · rename_i v hld
      simp only [Option.some.injEq, Prod.mk.injEq] at hE
      obtain ⟨rfl, rfl, rfl, rfl⟩ := hE
      obtain ⟨rfl, rfl⟩ := hok
      intro H locs ls st ws hR g1 g2
      obtain ⟨hP, hD, hS, hh, ho, hl, hv, hn, ha⟩ := hR
      obtain ⟨w, e1, e2⟩ := hl.ld hld (fun q => by cases q)
      obtain ⟨q, e3, rfl⟩ := mj_vr_r e1
      exact lv_aload_n hx hb hdec rfl e2 (hk H locs ls _ ws ⟨hP, hD, hS, hh, ho, hl, ⟨⟨q, e3, rfl⟩, hv⟩, hn, ha⟩ g1 g2)
    · rename_i hld
      simp only [Option.some.injEq, Prod.mk.injEq] at hE
      obtain ⟨rfl, rfl, rfl, rfl⟩ := hE
      obtain ⟨rfl, rfl⟩ := hok
      intro H locs ls st ws hR g1 g2
      obtain ⟨hP, hD, hS, hh, ho, hl, hv, hn, ha⟩ := hR
      obtain ⟨w, e1, e2⟩ := hl.ld hld (fun q => by cases q)
      obtain rfl := mj_vr_n e1
      exact lv_aload_nN hx hb hdec rfl e2 (hk H locs ls _ ws ⟨hP, hD, hS, hh, ho, hl, ⟨rfl, hv⟩, hn, ha⟩ g1 g2)
    · cases hE
  | istore kk => 
    simp only [mj_okO, Bool.and_eq_true, Bool.or_eq_true, decide_eq_true_eq] at hok
    simp only [mj_ex] at hE
    split at hE
    · rename_i v S1
      simp only [Option.some.injEq, Prod.mk.injEq] at hE
      obtain ⟨rfl, rfl, rfl, rfl⟩ := hE
      obtain ⟨⟨rfl, rfl⟩, hlt⟩ := hok
      intro H locs ls st ws hR g1 g2
      obtain ⟨hP, hD, hS, hh, ho, hl, hv, hn, ha⟩ := hR
      obtain ⟨w, st1, rfl, e1, hv1⟩ := mj_vs_c hv
      obtain rfl := mj_vr_i e1
      obtain ⟨lv, f1, f2⟩ := hl.st1 (by rw [hn]; exact hlt) e1
      rw [hn] at f1 f2
      exact lv_istore (lv := lv) hx hb hdec f1 hlt rfl (fun ls1 h1 => hk H locs ls1 _ ws ⟨hP, hD, hS, hh, ho, f2 ls1 h1, hv1, by rw [mj_st1_len]; exact hn, ha⟩ g1 g2)
    · cases hE
  | lstore kk => 
    simp only [mj_okO, Bool.and_eq_true, Bool.or_eq_true, decide_eq_true_eq] at hok
    simp only [mj_ex] at hE
    split at hE
    · rename_i v S1
      simp only [Option.some.injEq, Prod.mk.injEq] at hE
      obtain ⟨rfl, rfl, rfl, rfl⟩ := hE
      obtain ⟨⟨rfl, rfl⟩, hlt⟩ := hok
      intro H locs ls st ws hR g1 g2
      obtain ⟨hP, hD, hS, hh, ho, hl, hv, hn, ha⟩ := hR
      obtain ⟨w, st1, rfl, e1, hv1⟩ := mj_vs_c hv
      obtain rfl := mj_vr_l e1
      obtain ⟨lv, f1, f2⟩ := hl.st2 (by rw [hn]; exact hlt) e1
      rw [hn] at f1 f2
      exact lv_lstore (lv := lv) hx hb hdec f1 hlt rfl (fun ls1 h1 => hk H locs ls1 _ ws ⟨hP, hD, hS, hh, ho, f2 ls1 h1, hv1, by rw [mj_st2_len]; exact hn, ha⟩ g1 g2)
    · cases hE
  | astore kk => 
    simp only [mj_okO, Bool.and_eq_true, Bool.or_eq_true, decide_eq_true_eq] at hok
    simp only [mj_ex] at hE
    split at hE
    · rename_i v S1
      simp only [Option.some.injEq, Prod.mk.injEq] at hE
      obtain ⟨rfl, rfl, rfl, rfl⟩ := hE
      obtain ⟨⟨rfl, rfl⟩, hlt⟩ := hok
      intro H locs ls st ws hR g1 g2
      obtain ⟨hP, hD, hS, hh, ho, hl, hv, hn, ha⟩ := hR
      obtain ⟨w, st1, rfl, e1, hv1⟩ := mj_vs_c hv
      obtain ⟨q, e3, rfl⟩ := mj_vr_r e1
      obtain ⟨lv, f1, f2⟩ := hl.st1 (by rw [hn]; exact hlt) e1
      rw [hn] at f1 f2
      exact lv_astore (lv := lv) hx hb hdec f1 hlt rfl (fun ls1 h1 => hk H locs ls1 _ ws ⟨hP, hD, hS, hh, ho, f2 ls1 h1, hv1, by rw [mj_st1_len]; exact hn, ha⟩ g1 g2)
    · rename_i S1
      simp only [Option.some.injEq, Prod.mk.injEq] at hE
      obtain ⟨rfl, rfl, rfl, rfl⟩ := hE
      obtain ⟨⟨rfl, rfl⟩, hlt⟩ := hok
      intro H locs ls st ws hR g1 g2
      obtain ⟨hP, hD, hS, hh, ho, hl, hv, hn, ha⟩ := hR
      obtain ⟨w, st1, rfl, e1, hv1⟩ := mj_vs_c hv
      obtain rfl := mj_vr_n e1
      obtain ⟨lv, f1, f2⟩ := hl.st1 (by rw [hn]; exact hlt) e1
      rw [hn] at f1 f2
      exact lv_astoreN (lv := lv) hx hb hdec f1 hlt rfl (fun ls1 h1 => hk H locs ls1 _ ws ⟨hP, hD, hS, hh, ho, f2 ls1 h1, hv1, by rw [mj_st1_len]; exact hn, ha⟩ g1 g2)
    · cases hE
  | istore_n kk => 
    simp only [mj_okO, Bool.and_eq_true, Bool.or_eq_true, decide_eq_true_eq] at hok
    simp only [mj_ex] at hE
    split at hE
    · rename_i v S1
      simp only [Option.some.injEq, Prod.mk.injEq] at hE
      obtain ⟨rfl, rfl, rfl, rfl⟩ := hE
      obtain ⟨⟨rfl, rfl⟩, hlt⟩ := hok
      intro H locs ls st ws hR g1 g2
      obtain ⟨hP, hD, hS, hh, ho, hl, hv, hn, ha⟩ := hR
      obtain ⟨w, st1, rfl, e1, hv1⟩ := mj_vs_c hv
      obtain rfl := mj_vr_i e1
      obtain ⟨lv, f1, f2⟩ := hl.st1 (by rw [hn]; exact hlt) e1
      rw [hn] at f1 f2
      exact lv_istore_n (lv := lv) hx hb hdec rfl f1 hlt rfl (fun ls1 h1 => hk H locs ls1 _ ws ⟨hP, hD, hS, hh, ho, f2 ls1 h1, hv1, by rw [mj_st1_len]; exact hn, ha⟩ g1 g2)
    · cases hE
  | lstore_n kk => 
    simp only [mj_okO, Bool.and_eq_true, Bool.or_eq_true, decide_eq_true_eq] at hok
    simp only [mj_ex] at hE
    split at hE
    · rename_i v S1
      simp only [Option.some.injEq, Prod.mk.injEq] at hE
      obtain ⟨rfl, rfl, rfl, rfl⟩ := hE
      obtain ⟨⟨rfl, rfl⟩, hlt⟩ := hok
      intro H locs ls st ws hR g1 g2
      obtain ⟨hP, hD, hS, hh, ho, hl, hv, hn, ha⟩ := hR
      obtain ⟨w, st1, rfl, e1, hv1⟩ := mj_vs_c hv
      obtain rfl := mj_vr_l e1
      obtain ⟨lv, f1, f2⟩ := hl.st2 (by rw [hn]; exact hlt) e1
      rw [hn] at f1 f2
      exact lv_lstore_n (lv := lv) hx hb hdec rfl f1 hlt rfl (fun ls1 h1 => hk H locs ls1 _ ws ⟨hP, hD, hS, hh, ho, f2 ls1 h1, hv1, by rw [mj_st2_len]; exact hn, ha⟩ g1 g2)
    · cases hE
  | astore_n kk => 
    simp only [mj_okO, Bool.and_eq_true, Bool.or_eq_true, decide_eq_true_eq] at hok
    simp only [mj_ex] at hE
    split at hE
    · rename_i v S1
      simp only [Option.some.injEq, Prod.mk.injEq] at hE
      obtain ⟨rfl, rfl, rfl, rfl⟩ := hE
      obtain ⟨⟨rfl, rfl⟩, hlt⟩ := hok
      intro H locs ls st ws hR g1 g2
      obtain ⟨hP, hD, hS, hh, ho, hl, hv, hn, ha⟩ := hR
      obtain ⟨w, st1, rfl, e1, hv1⟩ := mj_vs_c hv
      obtain ⟨q, e3, rfl⟩ := mj_vr_r e1
      obtain ⟨lv, f1, f2⟩ := hl.st1 (by rw [hn]; exact hlt) e1
      rw [hn] at f1 f2
      exact lv_astore_n (lv := lv) hx hb hdec rfl f1 hlt rfl (fun ls1 h1 => hk H locs ls1 _ ws ⟨hP, hD, hS, hh, ho, f2 ls1 h1, hv1, by rw [mj_st1_len]; exact hn, ha⟩ g1 g2)
    · rename_i S1
      simp only [Option.some.injEq, Prod.mk.injEq] at hE
      obtain ⟨rfl, rfl, rfl, rfl⟩ := hE
      obtain ⟨⟨rfl, rfl⟩, hlt⟩ := hok
      intro H locs ls st ws hR g1 g2
      obtain ⟨hP, hD, hS, hh, ho, hl, hv, hn, ha⟩ := hR
      obtain ⟨w, st1, rfl, e1, hv1⟩ := mj_vs_c hv
      obtain rfl := mj_vr_n e1
      obtain ⟨lv, f1, f2⟩ := hl.st1 (by rw [hn]; exact hlt) e1
      rw [hn] at f1 f2
      exact lv_astore_nN (lv := lv) hx hb hdec rfl f1 hlt rfl (fun ls1 h1 => hk H locs ls1 _ ws ⟨hP, hD, hS, hh, ho, f2 ls1 h1, hv1, by rw [mj_st1_len]; exact hn, ha⟩ g1 g2)
    · cases hE
  | iinc kk nn => 
    simp only [mj_okO, Bool.and_eq_true, Bool.or_eq_true, decide_eq_true_eq] at hok
    simp only [mj_ex] at hE
    split at hE
    · rename_i v hld
      simp only [Option.some.injEq, Prod.mk.injEq] at hE
      obtain ⟨rfl, rfl, rfl, rfl⟩ := hE
      obtain ⟨⟨⟨rfl, rfl⟩, rfl⟩, hlt⟩ := hok
      intro H locs ls st ws hR g1 g2
      obtain ⟨hP, hD, hS, hh, ho, hl, hv, hn, ha⟩ := hR
      obtain ⟨lv0, f0, f3⟩ := hl
      obtain ⟨w, e1, e2⟩ := f3 _ _ (mj_ld_get hld (fun q => by cases q)) (fun q => by cases q)
      obtain rfl := mj_vr_i e1
      obtain ⟨k2, hk2⟩ := List.getElem?_of_mem e2
      have f4 : mj_lr (mj_as t0 b ws) L ls := ⟨lv0, f0, f3⟩
      rw [hn] at f0
      refine lv_iinc (lv := lv0) hx hb hdec f0 hk2 rfl hlt rfl (fun ls1 h1 => hk H locs ls1 _ ws ⟨hP, hD, hS, hh, ho, ?_, hv, by rw [mj_st1_len]; exact hn, ha⟩ g1 g2)
      exact mj_lr.put f0 f3 (by rw [hn]; exact hlt) rfl hn h1
    · cases hE
  | iadd => 
    simp only [mj_okO, Bool.and_eq_true, Bool.or_eq_true, decide_eq_true_eq] at hok
    simp only [mj_ex] at hE
    split at hE
    · rename_i w v S1
      simp only [Option.some.injEq, Prod.mk.injEq] at hE
      obtain ⟨rfl, rfl, rfl, rfl⟩ := hE
      subst hok
      intro H locs ls st ws hR g1 g2
      obtain ⟨hP, hD, hS, hh, ho, hl, hv, hn, ha⟩ := hR
      obtain ⟨y1, st1, rfl, e1, hv1⟩ := mj_vs_c hv
      obtain rfl := mj_vr_i e1
      obtain ⟨x1, st2, rfl, e2, hv2⟩ := mj_vs_c hv1
      obtain rfl := mj_vr_i e2
      exact lv_iadd hx hb hdec (hk H locs ls _ ws ⟨hP, hD, hS, hh, ho, hl, ⟨rfl, hv2⟩, hn, ha⟩ g1 g2)
    · cases hE
  | isub => 
    simp only [mj_okO, Bool.and_eq_true, Bool.or_eq_true, decide_eq_true_eq] at hok
    simp only [mj_ex] at hE
    split at hE
    · rename_i w v S1
      simp only [Option.some.injEq, Prod.mk.injEq] at hE
      obtain ⟨rfl, rfl, rfl, rfl⟩ := hE
      subst hok
      intro H locs ls st ws hR g1 g2
      obtain ⟨hP, hD, hS, hh, ho, hl, hv, hn, ha⟩ := hR
      obtain ⟨y1, st1, rfl, e1, hv1⟩ := mj_vs_c hv
      obtain rfl := mj_vr_i e1
      obtain ⟨x1, st2, rfl, e2, hv2⟩ := mj_vs_c hv1
      obtain rfl := mj_vr_i e2
      exact lv_isub hx hb hdec (hk H locs ls _ ws ⟨hP, hD, hS, hh, ho, hl, ⟨rfl, hv2⟩, hn, ha⟩ g1 g2)
    · cases hE
  | imul => 
    simp only [mj_okO, Bool.and_eq_true, Bool.or_eq_true, decide_eq_true_eq] at hok
    simp only [mj_ex] at hE
    split at hE
    · rename_i w v S1
      simp only [Option.some.injEq, Prod.mk.injEq] at hE
      obtain ⟨rfl, rfl, rfl, rfl⟩ := hE
      subst hok
      intro H locs ls st ws hR g1 g2
      obtain ⟨hP, hD, hS, hh, ho, hl, hv, hn, ha⟩ := hR
      obtain ⟨y1, st1, rfl, e1, hv1⟩ := mj_vs_c hv
      obtain rfl := mj_vr_i e1
      obtain ⟨x1, st2, rfl, e2, hv2⟩ := mj_vs_c hv1
      obtain rfl := mj_vr_i e2
      exact lv_imul hx hb hdec (hk H locs ls _ ws ⟨hP, hD, hS, hh, ho, hl, ⟨rfl, hv2⟩, hn, ha⟩ g1 g2)
    · cases hE
  | iand => 
    simp only [mj_okO, Bool.and_eq_true, Bool.or_eq_true, decide_eq_true_eq] at hok
    simp only [mj_ex] at hE
    split at hE
    · rename_i w v S1
      simp only [Option.some.injEq, Prod.mk.injEq] at hE
      obtain ⟨rfl, rfl, rfl, rfl⟩ := hE
      subst hok
      intro H locs ls st ws hR g1 g2
      obtain ⟨hP, hD, hS, hh, ho, hl, hv, hn, ha⟩ := hR
      obtain ⟨y1, st1, rfl, e1, hv1⟩ := mj_vs_c hv
      obtain rfl := mj_vr_i e1
      obtain ⟨x1, st2, rfl, e2, hv2⟩ := mj_vs_c hv1
      obtain rfl := mj_vr_i e2
      exact lv_iand hx hb hdec (hk H locs ls _ ws ⟨hP, hD, hS, hh, ho, hl, ⟨rfl, hv2⟩, hn, ha⟩ g1 g2)
    · cases hE
  | ior => 
    simp only [mj_okO, Bool.and_eq_true, Bool.or_eq_true, decide_eq_true_eq] at hok
    simp only [mj_ex] at hE
    split at hE
    · rename_i w v S1
      simp only [Option.some.injEq, Prod.mk.injEq] at hE
      obtain ⟨rfl, rfl, rfl, rfl⟩ := hE
      subst hok
      intro H locs ls st ws hR g1 g2
      obtain ⟨hP, hD, hS, hh, ho, hl, hv, hn, ha⟩ := hR
      obtain ⟨y1, st1, rfl, e1, hv1⟩ := mj_vs_c hv
      obtain rfl := mj_vr_i e1
      obtain ⟨x1, st2, rfl, e2, hv2⟩ := mj_vs_c hv1
      obtain rfl := mj_vr_i e2
      exact lv_ior hx hb hdec (hk H locs ls _ ws ⟨hP, hD, hS, hh, ho, hl, ⟨rfl, hv2⟩, hn, ha⟩ g1 g2)
    · cases hE
  | ixor => 
    simp only [mj_okO, Bool.and_eq_true, Bool.or_eq_true, decide_eq_true_eq] at hok
    simp only [mj_ex] at hE
    split at hE
    · rename_i w v S1
      simp only [Option.some.injEq, Prod.mk.injEq] at hE
      obtain ⟨rfl, rfl, rfl, rfl⟩ := hE
      subst hok
      intro H locs ls st ws hR g1 g2
      obtain ⟨hP, hD, hS, hh, ho, hl, hv, hn, ha⟩ := hR
      obtain ⟨y1, st1, rfl, e1, hv1⟩ := mj_vs_c hv
      obtain rfl := mj_vr_i e1
      obtain ⟨x1, st2, rfl, e2, hv2⟩ := mj_vs_c hv1
      obtain rfl := mj_vr_i e2
      exact lv_ixor hx hb hdec (hk H locs ls _ ws ⟨hP, hD, hS, hh, ho, hl, ⟨rfl, hv2⟩, hn, ha⟩ g1 g2)
    · cases hE
  | ishl => 
    simp only [mj_okO, Bool.and_eq_true, Bool.or_eq_true, decide_eq_true_eq] at hok
    simp only [mj_ex] at hE
    split at hE
    · rename_i w v S1
      simp only [Option.some.injEq, Prod.mk.injEq] at hE
      obtain ⟨rfl, rfl, rfl, rfl⟩ := hE
      subst hok
      intro H locs ls st ws hR g1 g2
      obtain ⟨hP, hD, hS, hh, ho, hl, hv, hn, ha⟩ := hR
      obtain ⟨y1, st1, rfl, e1, hv1⟩ := mj_vs_c hv
      obtain rfl := mj_vr_i e1
      obtain ⟨x1, st2, rfl, e2, hv2⟩ := mj_vs_c hv1
      obtain rfl := mj_vr_i e2
      exact lv_ishl hx hb hdec (hk H locs ls _ ws ⟨hP, hD, hS, hh, ho, hl, ⟨rfl, hv2⟩, hn, ha⟩ g1 g2)
    · cases hE
  | ishr => 
    simp only [mj_okO, Bool.and_eq_true, Bool.or_eq_true, decide_eq_true_eq] at hok
    simp only [mj_ex] at hE
    split at hE
    · rename_i w v S1
      simp only [Option.some.injEq, Prod.mk.injEq] at hE
      obtain ⟨rfl, rfl, rfl, rfl⟩ := hE
      subst hok
      intro H locs ls st ws hR g1 g2
      obtain ⟨hP, hD, hS, hh, ho, hl, hv, hn, ha⟩ := hR
      obtain ⟨y1, st1, rfl, e1, hv1⟩ := mj_vs_c hv
      obtain rfl := mj_vr_i e1
      obtain ⟨x1, st2, rfl, e2, hv2⟩ := mj_vs_c hv1
      obtain rfl := mj_vr_i e2
      exact lv_ishr hx hb hdec (hk H locs ls _ ws ⟨hP, hD, hS, hh, ho, hl, ⟨rfl, hv2⟩, hn, ha⟩ g1 g2)
    · cases hE
  | iushr => 
    simp only [mj_okO, Bool.and_eq_true, Bool.or_eq_true, decide_eq_true_eq] at hok
    simp only [mj_ex] at hE
    split at hE
    · rename_i w v S1
      simp only [Option.some.injEq, Prod.mk.injEq] at hE
      obtain ⟨rfl, rfl, rfl, rfl⟩ := hE
      subst hok
      intro H locs ls st ws hR g1 g2
      obtain ⟨hP, hD, hS, hh, ho, hl, hv, hn, ha⟩ := hR
      obtain ⟨y1, st1, rfl, e1, hv1⟩ := mj_vs_c hv
      obtain rfl := mj_vr_i e1
      obtain ⟨x1, st2, rfl, e2, hv2⟩ := mj_vs_c hv1
      obtain rfl := mj_vr_i e2
      exact lv_iushr hx hb hdec rfl (hk H locs ls _ ws ⟨hP, hD, hS, hh, ho, hl, ⟨rfl, hv2⟩, hn, ha⟩ g1 g2)
    · cases hE
  | idiv => 
    simp only [mj_okO, Bool.and_eq_true, Bool.or_eq_true, decide_eq_true_eq] at hok
    simp only [mj_ex] at hE
    split at hE
    · rename_i w v S1
      · obtain ⟨hne, hE⟩ := mj_ifn hE
        simp only [Option.some.injEq, Prod.mk.injEq] at hE
        obtain ⟨rfl, rfl, rfl, rfl⟩ := hE
        subst hok
        intro H locs ls st ws hR g1 g2
        obtain ⟨hP, hD, hS, hh, ho, hl, hv, hn, ha⟩ := hR
        obtain ⟨y1, st1, rfl, e1, hv1⟩ := mj_vs_c hv
        obtain rfl := mj_vr_i e1
        obtain ⟨x1, st2, rfl, e2, hv2⟩ := mj_vs_c hv1
        obtain rfl := mj_vr_i e2
        exact lv_idiv hx hb hdec hne (hk H locs ls _ ws ⟨hP, hD, hS, hh, ho, hl, ⟨rfl, hv2⟩, hn, ha⟩ g1 g2)
    · cases hE
  | irem => 
    simp only [mj_okO, Bool.and_eq_true, Bool.or_eq_true, decide_eq_true_eq] at hok
    simp only [mj_ex] at hE
    split at hE
    · rename_i w v S1
      · obtain ⟨hne, hE⟩ := mj_ifn hE
        simp only [Option.some.injEq, Prod.mk.injEq] at hE
        obtain ⟨rfl, rfl, rfl, rfl⟩ := hE
        subst hok
        intro H locs ls st ws hR g1 g2
        obtain ⟨hP, hD, hS, hh, ho, hl, hv, hn, ha⟩ := hR
        obtain ⟨y1, st1, rfl, e1, hv1⟩ := mj_vs_c hv
        obtain rfl := mj_vr_i e1
        obtain ⟨x1, st2, rfl, e2, hv2⟩ := mj_vs_c hv1
        obtain rfl := mj_vr_i e2
        exact lv_irem hx hb hdec hne (hk H locs ls _ ws ⟨hP, hD, hS, hh, ho, hl, ⟨rfl, hv2⟩, hn, ha⟩ g1 g2)
    · cases hE
  | ladd => 
    simp only [mj_okO, Bool.and_eq_true, Bool.or_eq_true, decide_eq_true_eq] at hok
    simp only [mj_ex] at hE
    split at hE
    · rename_i w v S1
      simp only [Option.some.injEq, Prod.mk.injEq] at hE
      obtain ⟨rfl, rfl, rfl, rfl⟩ := hE
      subst hok
      intro H locs ls st ws hR g1 g2
      obtain ⟨hP, hD, hS, hh, ho, hl, hv, hn, ha⟩ := hR
      obtain ⟨y1, st1, rfl, e1, hv1⟩ := mj_vs_c hv
      obtain rfl := mj_vr_l e1
      obtain ⟨x1, st2, rfl, e2, hv2⟩ := mj_vs_c hv1
      obtain rfl := mj_vr_l e2
      exact lv_ladd hx hb hdec (hk H locs ls _ ws ⟨hP, hD, hS, hh, ho, hl, ⟨rfl, hv2⟩, hn, ha⟩ g1 g2)
    · cases hE
  | lsub => 
    simp only [mj_okO, Bool.and_eq_true, Bool.or_eq_true, decide_eq_true_eq] at hok
    simp only [mj_ex] at hE
    split at hE
    · rename_i w v S1
      simp only [Option.some.injEq, Prod.mk.injEq] at hE
      obtain ⟨rfl, rfl, rfl, rfl⟩ := hE
      subst hok
      intro H locs ls st ws hR g1 g2
      obtain ⟨hP, hD, hS, hh, ho, hl, hv, hn, ha⟩ := hR
      obtain ⟨y1, st1, rfl, e1, hv1⟩ := mj_vs_c hv
      obtain rfl := mj_vr_l e1
      obtain ⟨x1, st2, rfl, e2, hv2⟩ := mj_vs_c hv1
      obtain rfl := mj_vr_l e2
      exact lv_lsub hx hb hdec (hk H locs ls _ ws ⟨hP, hD, hS, hh, ho, hl, ⟨rfl, hv2⟩, hn, ha⟩ g1 g2)
    · cases hE
  | land => 
    simp only [mj_okO, Bool.and_eq_true, Bool.or_eq_true, decide_eq_true_eq] at hok
    simp only [mj_ex] at hE
    split at hE
    · rename_i w v S1
      simp only [Option.some.injEq, Prod.mk.injEq] at hE
      obtain ⟨rfl, rfl, rfl, rfl⟩ := hE
      subst hok
      intro H locs ls st ws hR g1 g2
      obtain ⟨hP, hD, hS, hh, ho, hl, hv, hn, ha⟩ := hR
      obtain ⟨y1, st1, rfl, e1, hv1⟩ := mj_vs_c hv
      obtain rfl := mj_vr_l e1
      obtain ⟨x1, st2, rfl, e2, hv2⟩ := mj_vs_c hv1
      obtain rfl := mj_vr_l e2
      exact lv_land hx hb hdec (hk H locs ls _ ws ⟨hP, hD, hS, hh, ho, hl, ⟨rfl, hv2⟩, hn, ha⟩ g1 g2)
    · cases hE
  | lor => 
    simp only [mj_okO, Bool.and_eq_true, Bool.or_eq_true, decide_eq_true_eq] at hok
    simp only [mj_ex] at hE
    split at hE
    · rename_i w v S1
      simp only [Option.some.injEq, Prod.mk.injEq] at hE
      obtain ⟨rfl, rfl, rfl, rfl⟩ := hE
      subst hok
      intro H locs ls st ws hR g1 g2
      obtain ⟨hP, hD, hS, hh, ho, hl, hv, hn, ha⟩ := hR
      obtain ⟨y1, st1, rfl, e1, hv1⟩ := mj_vs_c hv
      obtain rfl := mj_vr_l e1
      obtain ⟨x1, st2, rfl, e2, hv2⟩ := mj_vs_c hv1
      obtain rfl := mj_vr_l e2
      exact lv_lor hx hb hdec (hk H locs ls _ ws ⟨hP, hD, hS, hh, ho, hl, ⟨rfl, hv2⟩, hn, ha⟩ g1 g2)
    · cases hE
  | lxor => 
    simp only [mj_okO, Bool.and_eq_true, Bool.or_eq_true, decide_eq_true_eq] at hok
    simp only [mj_ex] at hE
    split at hE
    · rename_i w v S1
      simp only [Option.some.injEq, Prod.mk.injEq] at hE
      obtain ⟨rfl, rfl, rfl, rfl⟩ := hE
      subst hok
      intro H locs ls st ws hR g1 g2
      obtain ⟨hP, hD, hS, hh, ho, hl, hv, hn, ha⟩ := hR
      obtain ⟨y1, st1, rfl, e1, hv1⟩ := mj_vs_c hv
      obtain rfl := mj_vr_l e1
      obtain ⟨x1, st2, rfl, e2, hv2⟩ := mj_vs_c hv1
      obtain rfl := mj_vr_l e2
      exact lv_lxor hx hb hdec (hk H locs ls _ ws ⟨hP, hD, hS, hh, ho, hl, ⟨rfl, hv2⟩, hn, ha⟩ g1 g2)
    · cases hE
  | lcmp => 
    simp only [mj_okO, Bool.and_eq_true, Bool.or_eq_true, decide_eq_true_eq] at hok
    simp only [mj_ex] at hE
    split at hE
    · rename_i w v S1
      simp only [Option.some.injEq, Prod.mk.injEq] at hE
      obtain ⟨rfl, rfl, rfl, rfl⟩ := hE
      subst hok
      intro H locs ls st ws hR g1 g2
      obtain ⟨hP, hD, hS, hh, ho, hl, hv, hn, ha⟩ := hR
      obtain ⟨y1, st1, rfl, e1, hv1⟩ := mj_vs_c hv
      obtain rfl := mj_vr_l e1
      obtain ⟨x1, st2, rfl, e2, hv2⟩ := mj_vs_c hv1
      obtain rfl := mj_vr_l e2
      exact W.lcmp hx hb hdec (hk H locs ls _ ws ⟨hP, hD, hS, hh, ho, hl, ⟨rfl, hv2⟩, hn, ha⟩ g1 g2)
    · cases hE
  | lshl => 
    simp only [mj_okO, Bool.and_eq_true, Bool.or_eq_true, decide_eq_true_eq] at hok
    simp only [mj_ex] at hE
    split at hE
    · rename_i w v S1
      simp only [Option.some.injEq, Prod.mk.injEq] at hE
      obtain ⟨rfl, rfl, rfl, rfl⟩ := hE
      subst hok
      intro H locs ls st ws hR g1 g2
      obtain ⟨hP, hD, hS, hh, ho, hl, hv, hn, ha⟩ := hR
      obtain ⟨y1, st1, rfl, e1, hv1⟩ := mj_vs_c hv
      obtain rfl := mj_vr_i e1
      obtain ⟨x1, st2, rfl, e2, hv2⟩ := mj_vs_c hv1
      obtain rfl := mj_vr_l e2
      exact lv_lshl hx hb hdec rfl (hk H locs ls _ ws ⟨hP, hD, hS, hh, ho, hl, ⟨rfl, hv2⟩, hn, ha⟩ g1 g2)
    · cases hE
  | lushr => 
    simp only [mj_okO, Bool.and_eq_true, Bool.or_eq_true, decide_eq_true_eq] at hok
    simp only [mj_ex] at hE
    split at hE
    · rename_i w v S1
      simp only [Option.some.injEq, Prod.mk.injEq] at hE
      obtain ⟨rfl, rfl, rfl, rfl⟩ := hE
      subst hok
      intro H locs ls st ws hR g1 g2
      obtain ⟨hP, hD, hS, hh, ho, hl, hv, hn, ha⟩ := hR
      obtain ⟨y1, st1, rfl, e1, hv1⟩ := mj_vs_c hv
      obtain rfl := mj_vr_i e1
      obtain ⟨x1, st2, rfl, e2, hv2⟩ := mj_vs_c hv1
      obtain rfl := mj_vr_l e2
      exact lv_lushr hx hb hdec rfl (hk H locs ls _ ws ⟨hP, hD, hS, hh, ho, hl, ⟨rfl, hv2⟩, hn, ha⟩ g1 g2)
    · cases hE
  | ineg => 
    simp only [mj_okO, Bool.and_eq_true, Bool.or_eq_true, decide_eq_true_eq] at hok
    simp only [mj_ex] at hE
    split at hE
    · rename_i v S1
      simp only [Option.some.injEq, Prod.mk.injEq] at hE
      obtain ⟨rfl, rfl, rfl, rfl⟩ := hE
      subst hok
      intro H locs ls st ws hR g1 g2
      obtain ⟨hP, hD, hS, hh, ho, hl, hv, hn, ha⟩ := hR
      obtain ⟨y1, st1, rfl, e1, hv1⟩ := mj_vs_c hv
      obtain rfl := mj_vr_i e1
      exact lv_ineg hx hb hdec (hk H locs ls _ ws ⟨hP, hD, hS, hh, ho, hl, ⟨rfl, hv1⟩, hn, ha⟩ g1 g2)
    · cases hE
  | lneg => 
    simp only [mj_okO, Bool.and_eq_true, Bool.or_eq_true, decide_eq_true_eq] at hok
    simp only [mj_ex] at hE
    split at hE
    · rename_i v S1
      simp only [Option.some.injEq, Prod.mk.injEq] at hE
      obtain ⟨rfl, rfl, rfl, rfl⟩ := hE
      subst hok
      intro H locs ls st ws hR g1 g2
      obtain ⟨hP, hD, hS, hh, ho, hl, hv, hn, ha⟩ := hR
      obtain ⟨y1, st1, rfl, e1, hv1⟩ := mj_vs_c hv
      obtain rfl := mj_vr_l e1
      exact lv_lneg hx hb hdec (hk H locs ls _ ws ⟨hP, hD, hS, hh, ho, hl, ⟨rfl, hv1⟩, hn, ha⟩ g1 g2)
    · cases hE
  | i2l => 
    simp only [mj_okO, Bool.and_eq_true, Bool.or_eq_true, decide_eq_true_eq] at hok
    simp only [mj_ex] at hE
    split at hE
    · rename_i v S1
      simp only [Option.some.injEq, Prod.mk.injEq] at hE
      obtain ⟨rfl, rfl, rfl, rfl⟩ := hE
      subst hok
      intro H locs ls st ws hR g1 g2
      obtain ⟨hP, hD, hS, hh, ho, hl, hv, hn, ha⟩ := hR
      obtain ⟨y1, st1, rfl, e1, hv1⟩ := mj_vs_c hv
      obtain rfl := mj_vr_i e1
      exact lv_i2l hx hb hdec rfl (hk H locs ls _ ws ⟨hP, hD, hS, hh, ho, hl, ⟨rfl, hv1⟩, hn, ha⟩ g1 g2)
    · cases hE
  | l2i => 
    simp only [mj_okO, Bool.and_eq_true, Bool.or_eq_true, decide_eq_true_eq] at hok
    simp only [mj_ex] at hE
    split at hE
    · rename_i v S1
      simp only [Option.some.injEq, Prod.mk.injEq] at hE
      obtain ⟨rfl, rfl, rfl, rfl⟩ := hE
      subst hok
      intro H locs ls st ws hR g1 g2
      obtain ⟨hP, hD, hS, hh, ho, hl, hv, hn, ha⟩ := hR
      obtain ⟨y1, st1, rfl, e1, hv1⟩ := mj_vs_c hv
      obtain rfl := mj_vr_l e1
      exact lv_l2i hx hb hdec rfl (hk H locs ls _ ws ⟨hP, hD, hS, hh, ho, hl, ⟨rfl, hv1⟩, hn, ha⟩ g1 g2)
    · cases hE
  | dup => 
    simp only [mj_okO, Bool.and_eq_true, Bool.or_eq_true, decide_eq_true_eq] at hok
    simp only [mj_ex] at hE
    split at hE
    · rename_i v S1
      simp only [Option.some.injEq, Prod.mk.injEq] at hE
      obtain ⟨rfl, rfl, rfl, rfl⟩ := hE
      subst hok
      intro H locs ls st ws hR g1 g2
      obtain ⟨hP, hD, hS, hh, ho, hl, hv, hn, ha⟩ := hR
      obtain ⟨y1, st1, rfl, e1, hv1⟩ := mj_vs_c hv
      obtain rfl := mj_vr_i e1
      exact lv_dup hx hb hdec rfl (hk H locs ls _ ws ⟨hP, hD, hS, hh, ho, hl, ⟨rfl, rfl, hv1⟩, hn, ha⟩ g1 g2)
    · rename_i v S1
      simp only [Option.some.injEq, Prod.mk.injEq] at hE
      obtain ⟨rfl, rfl, rfl, rfl⟩ := hE
      subst hok
      intro H locs ls st ws hR g1 g2
      obtain ⟨hP, hD, hS, hh, ho, hl, hv, hn, ha⟩ := hR
      obtain ⟨y1, st1, rfl, e1, hv1⟩ := mj_vs_c hv
      obtain ⟨q, e3, rfl⟩ := mj_vr_r e1
      exact lv_dup hx hb hdec rfl (hk H locs ls _ ws ⟨hP, hD, hS, hh, ho, hl, ⟨⟨q, e3, rfl⟩, ⟨q, e3, rfl⟩, hv1⟩, hn, ha⟩ g1 g2)
    · cases hE
  | dup2 => 
    simp only [mj_okO, Bool.and_eq_true, Bool.or_eq_true, decide_eq_true_eq] at hok
    simp only [mj_ex] at hE
    split at hE
    · rename_i w v S1
      simp only [Option.some.injEq, Prod.mk.injEq] at hE
      obtain ⟨rfl, rfl, rfl, rfl⟩ := hE
      subst hok
      intro H locs ls st ws hR g1 g2
      obtain ⟨hP, hD, hS, hh, ho, hl, hv, hn, ha⟩ := hR
      obtain ⟨y1, st1, rfl, e1, hv1⟩ := mj_vs_c hv
      obtain rfl := mj_vr_i e1
      obtain ⟨x1, st2, rfl, e2, hv2⟩ := mj_vs_c hv1
      obtain ⟨q, e3, rfl⟩ := mj_vr_r e2
      exact lv_dup2_11 hx hb hdec rfl rfl (hk H locs ls _ ws ⟨hP, hD, hS, hh, ho, hl, ⟨rfl, ⟨q, e3, rfl⟩, rfl, ⟨q, e3, rfl⟩, hv2⟩, hn, ha⟩ g1 g2)
    · cases hE
  | pop => 
    simp only [mj_okO, Bool.and_eq_true, Bool.or_eq_true, decide_eq_true_eq] at hok
    simp only [mj_ex] at hE
    split at hE
    · rename_i v S1
      simp only [Option.some.injEq, Prod.mk.injEq] at hE
      obtain ⟨rfl, rfl, rfl, rfl⟩ := hE
      subst hok
      intro H locs ls st ws hR g1 g2
      obtain ⟨hP, hD, hS, hh, ho, hl, hv, hn, ha⟩ := hR
      obtain ⟨y1, st1, rfl, e1, hv1⟩ := mj_vs_c hv
      obtain rfl := mj_vr_i e1
      exact lv_pop hx hb hdec rfl (hk H locs ls _ ws ⟨hP, hD, hS, hh, ho, hl, hv1, hn, ha⟩ g1 g2)
    · cases hE
  | goto off => 
    simp only [mj_okO, Bool.and_eq_true, Bool.or_eq_true, decide_eq_true_eq] at hok
    simp only [mj_ex] at hE
    simp only [Option.some.injEq, Prod.mk.injEq] at hE
    obtain ⟨rfl, rfl, rfl, rfl⟩ := hE
    obtain ⟨rfl, hq⟩ := hok
    intro H locs ls st ws hR g1 g2
    obtain ⟨hP, hD, hS, hh, ho, hl, hv, hn, ha⟩ := hR
    exact lv_goto hx hb hdec hq (hk H locs ls _ ws ⟨hP, hD, hS, hh, ho, hl, hv, hn, ha⟩ g1 g2)
  | ifCond cnd off => 
    simp only [mj_okO, Bool.and_eq_true, Bool.or_eq_true, decide_eq_true_eq] at hok
    simp only [mj_ex] at hE
    split at hE
    · rename_i v S1
      simp only [Option.some.injEq, Prod.mk.injEq] at hE
      obtain ⟨rfl, rfl, rfl, rfl⟩ := hE
      obtain ⟨rfl, hq⟩ := hok
      intro H locs ls st ws hR g1 g2
      obtain ⟨hP, hD, hS, hh, ho, hl, hv, hn, ha⟩ := hR
      obtain ⟨y1, st1, rfl, e1, hv1⟩ := mj_vs_c hv
      obtain rfl := mj_vr_i e1
      cases cnd
      · refine lv_if_eq hx hb hdec hq (fun hc => ?_) (fun hc => ?_)
        · have e9 : (if mj_bz .eq v then some a else none).getD (pc + 3) = a := by simp [mj_bz, hc]
          rw [e9] at hk
          exact hk H locs ls _ ws ⟨hP, hD, hS, hh, ho, hl, hv1, hn, ha⟩ g1 g2
        · have e9 : (if mj_bz .eq v then some a else none).getD (pc + 3) = pc + 3 := by simp [mj_bz, hc]
          rw [e9] at hk
          exact hk H locs ls _ ws ⟨hP, hD, hS, hh, ho, hl, hv1, hn, ha⟩ g1 g2
      · refine lv_if_ne hx hb hdec hq (fun hc => ?_) (fun hc => ?_)
        · have e9 : (if mj_bz .ne v then some a else none).getD (pc + 3) = a := by simp [mj_bz, hc]
          rw [e9] at hk
          exact hk H locs ls _ ws ⟨hP, hD, hS, hh, ho, hl, hv1, hn, ha⟩ g1 g2
        · have e9 : (if mj_bz .ne v then some a else none).getD (pc + 3) = pc + 3 := by simp [mj_bz, hc]
          rw [e9] at hk
          exact hk H locs ls _ ws ⟨hP, hD, hS, hh, ho, hl, hv1, hn, ha⟩ g1 g2
      · refine lv_if_lt hx hb hdec hq (fun hc => ?_) (fun hc => ?_)
        · have e9 : (if mj_bz .lt v then some a else none).getD (pc + 3) = a := by simp [mj_bz, hc]
          rw [e9] at hk
          exact hk H locs ls _ ws ⟨hP, hD, hS, hh, ho, hl, hv1, hn, ha⟩ g1 g2
        · have e9 : (if mj_bz .lt v then some a else none).getD (pc + 3) = pc + 3 := by simp [mj_bz, hc]
          rw [e9] at hk
          exact hk H locs ls _ ws ⟨hP, hD, hS, hh, ho, hl, hv1, hn, ha⟩ g1 g2
      · refine lv_if_ge hx hb hdec hq (fun hc => ?_) (fun hc => ?_)
        · have e9 : (if mj_bz .ge v then some a else none).getD (pc + 3) = a := by simp [mj_bz, hc]
          rw [e9] at hk
          exact hk H locs ls _ ws ⟨hP, hD, hS, hh, ho, hl, hv1, hn, ha⟩ g1 g2
        · have e9 : (if mj_bz .ge v then some a else none).getD (pc + 3) = pc + 3 := by simp [mj_bz, hc]
          rw [e9] at hk
          exact hk H locs ls _ ws ⟨hP, hD, hS, hh, ho, hl, hv1, hn, ha⟩ g1 g2
      · refine lv_if_gt hx hb hdec hq (fun hc => ?_) (fun hc => ?_)
        · have e9 : (if mj_bz .gt v then some a else none).getD (pc + 3) = a := by simp [mj_bz, hc]
          rw [e9] at hk
          exact hk H locs ls _ ws ⟨hP, hD, hS, hh, ho, hl, hv1, hn, ha⟩ g1 g2
        · have e9 : (if mj_bz .gt v then some a else none).getD (pc + 3) = pc + 3 := by simp [mj_bz, hc]
          rw [e9] at hk
          exact hk H locs ls _ ws ⟨hP, hD, hS, hh, ho, hl, hv1, hn, ha⟩ g1 g2
      · refine lv_if_le hx hb hdec hq (fun hc => ?_) (fun hc => ?_)
        · have e9 : (if mj_bz .le v then some a else none).getD (pc + 3) = a := by simp [mj_bz, hc]
          rw [e9] at hk
          exact hk H locs ls _ ws ⟨hP, hD, hS, hh, ho, hl, hv1, hn, ha⟩ g1 g2
        · have e9 : (if mj_bz .le v then some a else none).getD (pc + 3) = pc + 3 := by simp [mj_bz, hc]
          rw [e9] at hk
          exact hk H locs ls _ ws ⟨hP, hD, hS, hh, ho, hl, hv1, hn, ha⟩ g1 g2
    · cases hE
  | if_icmp cnd off => 
    simp only [mj_okO, Bool.and_eq_true, Bool.or_eq_true, decide_eq_true_eq] at hok
    simp only [mj_ex] at hE
    split at hE
    · rename_i w v S1
      simp only [Option.some.injEq, Prod.mk.injEq] at hE
      obtain ⟨rfl, rfl, rfl, rfl⟩ := hE
      obtain ⟨rfl, hq⟩ := hok
      intro H locs ls st ws hR g1 g2
      obtain ⟨hP, hD, hS, hh, ho, hl, hv, hn, ha⟩ := hR
      obtain ⟨y1, st1, rfl, e1, hv1⟩ := mj_vs_c hv
      obtain rfl := mj_vr_i e1
      obtain ⟨x1, st2, rfl, e2, hv2⟩ := mj_vs_c hv1
      obtain rfl := mj_vr_i e2
      cases cnd
      · refine lv_icmp_eq hx hb hdec hq (fun hc => ?_) (fun hc => ?_)
        · have e9 : (if mj_bc .eq v w then some a else none).getD (pc + 3) = a := by simp [mj_bc, hc]
          rw [e9] at hk
          exact hk H locs ls _ ws ⟨hP, hD, hS, hh, ho, hl, hv2, hn, ha⟩ g1 g2
        · have e9 : (if mj_bc .eq v w then some a else none).getD (pc + 3) = pc + 3 := by simp [mj_bc, hc]
          rw [e9] at hk
          exact hk H locs ls _ ws ⟨hP, hD, hS, hh, ho, hl, hv2, hn, ha⟩ g1 g2
      · refine lv_icmp_ne hx hb hdec hq (fun hc => ?_) (fun hc => ?_)
        · have e9 : (if mj_bc .ne v w then some a else none).getD (pc + 3) = a := by simp [mj_bc, hc]
          rw [e9] at hk
          exact hk H locs ls _ ws ⟨hP, hD, hS, hh, ho, hl, hv2, hn, ha⟩ g1 g2
        · have e9 : (if mj_bc .ne v w then some a else none).getD (pc + 3) = pc + 3 := by simp [mj_bc, hc]
          rw [e9] at hk
          exact hk H locs ls _ ws ⟨hP, hD, hS, hh, ho, hl, hv2, hn, ha⟩ g1 g2
      · refine lv_icmp_lt hx hb hdec hq (fun hc => ?_) (fun hc => ?_)
        · have e9 : (if mj_bc .lt v w then some a else none).getD (pc + 3) = a := by simp [mj_bc, hc]
          rw [e9] at hk
          exact hk H locs ls _ ws ⟨hP, hD, hS, hh, ho, hl, hv2, hn, ha⟩ g1 g2
        · have e9 : (if mj_bc .lt v w then some a else none).getD (pc + 3) = pc + 3 := by simp [mj_bc, hc]
          rw [e9] at hk
          exact hk H locs ls _ ws ⟨hP, hD, hS, hh, ho, hl, hv2, hn, ha⟩ g1 g2
      · refine lv_icmp_ge hx hb hdec hq (fun hc => ?_) (fun hc => ?_)
        · have e9 : (if mj_bc .ge v w then some a else none).getD (pc + 3) = a := by simp [mj_bc, hc]
          rw [e9] at hk
          exact hk H locs ls _ ws ⟨hP, hD, hS, hh, ho, hl, hv2, hn, ha⟩ g1 g2
        · have e9 : (if mj_bc .ge v w then some a else none).getD (pc + 3) = pc + 3 := by simp [mj_bc, hc]
          rw [e9] at hk
          exact hk H locs ls _ ws ⟨hP, hD, hS, hh, ho, hl, hv2, hn, ha⟩ g1 g2
      · refine lv_icmp_gt hx hb hdec hq (fun hc => ?_) (fun hc => ?_)
        · have e9 : (if mj_bc .gt v w then some a else none).getD (pc + 3) = a := by simp [mj_bc, hc]
          rw [e9] at hk
          exact hk H locs ls _ ws ⟨hP, hD, hS, hh, ho, hl, hv2, hn, ha⟩ g1 g2
        · have e9 : (if mj_bc .gt v w then some a else none).getD (pc + 3) = pc + 3 := by simp [mj_bc, hc]
          rw [e9] at hk
          exact hk H locs ls _ ws ⟨hP, hD, hS, hh, ho, hl, hv2, hn, ha⟩ g1 g2
      · refine lv_icmp_le hx hb hdec hq (fun hc => ?_) (fun hc => ?_)
        · have e9 : (if mj_bc .le v w then some a else none).getD (pc + 3) = a := by simp [mj_bc, hc]
          rw [e9] at hk
          exact hk H locs ls _ ws ⟨hP, hD, hS, hh, ho, hl, hv2, hn, ha⟩ g1 g2
        · have e9 : (if mj_bc .le v w then some a else none).getD (pc + 3) = pc + 3 := by simp [mj_bc, hc]
          rw [e9] at hk
          exact hk H locs ls _ ws ⟨hP, hD, hS, hh, ho, hl, hv2, hn, ha⟩ g1 g2
    · cases hE
  | ifnonnull off => 
    simp only [mj_okO, Bool.and_eq_true, Bool.or_eq_true, decide_eq_true_eq] at hok
    simp only [mj_ex] at hE
    split at hE
    · rename_i v S1
      simp only [Option.some.injEq, Prod.mk.injEq] at hE
      obtain ⟨rfl, rfl, rfl, rfl⟩ := hE
      obtain ⟨rfl, hq⟩ := hok
      intro H locs ls st ws hR g1 g2
      obtain ⟨hP, hD, hS, hh, ho, hl, hv, hn, ha⟩ := hR
      obtain ⟨y1, st1, rfl, e1, hv1⟩ := mj_vs_c hv
      obtain ⟨q, e3, rfl⟩ := mj_vr_r e1
      exact lv_ifnonnull hx hb hdec hq (hk H locs ls _ ws ⟨hP, hD, hS, hh, ho, hl, hv1, hn, ha⟩ g1 g2)
    · rename_i S1
      simp only [Option.some.injEq, Prod.mk.injEq] at hE
      obtain ⟨rfl, rfl, rfl, rfl⟩ := hE
      obtain ⟨rfl, hq⟩ := hok
      intro H locs ls st ws hR g1 g2
      obtain ⟨hP, hD, hS, hh, ho, hl, hv, hn, ha⟩ := hR
      obtain ⟨y1, st1, rfl, e1, hv1⟩ := mj_vs_c hv
      obtain rfl := mj_vr_n e1
      exact lv_ifnonnullN hx hb hdec (hk H locs ls _ ws ⟨hP, hD, hS, hh, ho, hl, hv1, hn, ha⟩ g1 g2)
    · cases hE
  | tableswitch dflt lo hi offs => 
    simp only [mj_okO, Bool.and_eq_true, Bool.or_eq_true, decide_eq_true_eq] at hok
    simp only [mj_ex] at hE
    split at hE
    · rename_i v S1
      simp only [Option.some.injEq, Prod.mk.injEq] at hE
      obtain ⟨rfl, rfl, rfl, rfl⟩ := hE
      obtain ⟨⟨⟨hq1, hq2⟩, hq3⟩, hq4⟩ := hok
      intro H locs ls st ws hR g1 g2
      obtain ⟨hP, hD, hS, hh, ho, hl, hv, hn, ha⟩ := hR
      obtain ⟨y1, st1, rfl, e1, hv1⟩ := mj_vs_c hv
      obtain rfl := mj_vr_i e1
      have hk := hk H locs ls _ ws ⟨hP, hD, hS, hh, ho, hl, hv1, hn, ha⟩ g1 g2
      simp only [mj_sw] at hk
      by_cases hc : v.toInt < lo ∨ hi < v.toInt
      · rw [if_pos hc] at hk
        exact lv_tableOut hx hb hdec hc (Int.toNat_of_nonneg hq1).symm hk
      · rw [if_neg hc] at hk
        have h1 : ¬ v.toInt < lo := fun z => hc (Or.inl z)
        have h2 : ¬ hi < v.toInt := fun z => hc (Or.inr z)
        have h3 : (v.toInt - lo).toNat < offs.size := by omega
        have h4 : offs[(v.toInt - lo).toNat]? = some offs[(v.toInt - lo).toNat] := Array.getElem?_eq_getElem h3
        rw [h4] at hk
        have h5 := List.all_eq_true.mp hq4 offs[(v.toInt - lo).toNat] (Array.getElem_mem_toList h3)
        simp only [decide_eq_true_eq] at h5
        exact lv_tableIn hx hb hdec h1 h2 h4 (Int.toNat_of_nonneg h5).symm hk
    · cases hE
  | getstatic kk => 
    simp only [mj_okO, Bool.and_eq_true, Bool.or_eq_true, decide_eq_true_eq] at hok
    simp only [mj_ex] at hE
    simp only [Option.some.injEq, Prod.mk.injEq] at hE
    obtain ⟨rfl, rfl, rfl, rfl⟩ := hE
    obtain ⟨rfl, hq⟩ := hok
    intro H locs ls st ws hR g1 g2
    obtain ⟨hP, hD, hS, hh, ho, hl, hv, hn, ha⟩ := hR
    exact va_gets hx hb hZ hS hown (hts _ (mj_in_of hq hct)) (fun _ h => h) hdec (hk H locs ls _ ws ⟨hP, hD, hS, hh, ho, hl, ⟨⟨t0, rfl, rfl⟩, hv⟩, hn, ha⟩ g1 g2)
  | getfield kk => 
    simp only [mj_okO, Bool.and_eq_true, Bool.or_eq_true, decide_eq_true_eq] at hok
    simp only [mj_ex] at hE
    split at hE
    · rename_i r S1
      · obtain ⟨hkd, hE⟩ := mj_ifs hE
        simp only [Option.some.injEq, Prod.mk.injEq] at hE
        obtain ⟨rfl, rfl, rfl, rfl⟩ := hE
        obtain ⟨rfl, hq⟩ := hok
        unfold mj_fk at hq
        cases hcl : vwCl[a]? with
        | none => rw [hcl] at hq; cases hq
        | some cl1 =>
          obtain ⟨C, T, N⟩ := cl1
          rw [hcl] at hq
          simp only [Bool.and_eq_true, decide_eq_true_eq] at hq
          obtain ⟨⟨⟨hq1, hq2⟩, hq3⟩, hq4⟩ := hq
          intro H locs ls st ws hR g1 g2
          obtain ⟨hP, hD, hS, hh, ho, hl, hv, hn, ha⟩ := hR
          obtain ⟨y1, st1, rfl, e1, hv1⟩ := mj_vs_c hv
          obtain ⟨q, e3, rfl⟩ := mj_vr_r e1
          obtain ⟨k2, E, rfl, hw, hc⟩ := mj_find hh ho e3 (Or.inl (by rw [hkd]; omega))
          rw [mj_cr_o hkd] at hc
          obtain ⟨fs, rfl, hc2, hc3⟩ := hc
          have hlen : k0 < fs.length := by rw [hc2]; unfold mj_nf; rw [hcl]; exact hq1
          have hf := List.getElem?_eq_getElem hlen
          have hc4 := mj_fr_gv (hc3 k0 _ hf)
          have ht : mj_ft a k0 = t := by unfold mj_ft; rw [hcl]; exact hq2.symm
          rw [ht] at hc4
          exact va_get (T := T) (N := N) hx hb hts (hlay _ (List.mem_of_getElem? hcl)) hown hK hP k2 hw hcl k0 hq1 (hts _ (mj_in_of hq4 hct)) (fun _ z => by rw [hq3] at z; exact z) hf hdec (hk H locs ls _ ws ⟨hP, hD, hS, hh, ho, hl, ⟨hc4, hv1⟩, hn, ha⟩ g1 g2)
    · cases hE
  | putfield kk => 
    simp only [mj_okO, Bool.and_eq_true, Bool.or_eq_true, decide_eq_true_eq] at hok
    simp only [mj_ex] at hE
    split at hE
    · rename_i v r S1
      · obtain ⟨hkd, hE⟩ := mj_ifs hE
        obtain ⟨hkd, htt⟩ := hkd
        simp only [Option.some.injEq, Prod.mk.injEq] at hE
        obtain ⟨rfl, rfl, rfl, rfl⟩ := hE
        obtain ⟨⟨rfl, hq⟩, hfl⟩ := hok
        unfold mj_fk at hq
        cases hcl : vwCl[a]? with
        | none => rw [hcl] at hq; cases hq
        | some cl1 =>
          obtain ⟨C, T, N⟩ := cl1
          rw [hcl] at hq hfl
          simp only [Bool.and_eq_true, Bool.or_eq_true, decide_eq_true_eq] at hq hfl
          obtain ⟨⟨⟨hq1, hq2⟩, hq3⟩, hq4⟩ := hq
          intro H locs ls st ws hR g1 g2
          obtain ⟨hP, hD, hS, hh, ho, hl, hv, hn, ha⟩ := hR
          obtain ⟨y1, st1, rfl, e1, hv1⟩ := mj_vs_c hv
          obtain rfl := mj_vr_i e1
          obtain ⟨x1, st2, rfl, e2, hv2⟩ := mj_vs_c hv1
          obtain ⟨q, e3, rfl⟩ := mj_vr_r e2
          obtain ⟨k2, E, rfl, hw, hc⟩ := mj_find hh ho e3 (Or.inl (by rw [hkd]; omega))
          rw [mj_cr_o hkd] at hc
          obtain ⟨fs, rfl, hc2, hc3⟩ := hc
          have hlen : k0 < fs.length := by rw [hc2]; unfold mj_nf; rw [hcl]; exact hq1
          have ht : mj_ft a k0 = t := by unfold mj_ft; rw [hcl]; exact hq2.symm
          obtain ⟨ty, hty1, hty2, hty3⟩ := htys _ (List.mem_of_getElem? hcl)
          have hty3 := hty3 k0 hq1
          dsimp only at hty3
          rw [← hq2] at hty3
          have hnf : narrow (ty k0) (.int v) = .int v ∧ fits (ty k0) (.int v) = true := by
            rcases hty3 with ⟨z, e⟩ | ⟨z, e⟩ | ⟨z, e⟩ | ⟨z, t9, e⟩
            · rw [e]; exact ⟨rfl, rfl⟩
            · omega
            · rcases htt with z1 | ⟨z1, rfl | rfl⟩
              · omega
              · rw [e]; exact ⟨rfl, rfl⟩
              · rw [e]; exact ⟨rfl, rfl⟩
            · omega
          have hcell : mj_cr G (mj_as t0 b ws) (mj_sI h (k2 + 2) k0 v) (k2 + 2) (.inr (a, fs.set k0 (.int v))) := by
            rw [mj_cr_o (h := mj_sI h (k2 + 2) k0 v) (ci := a) hkd]
            refine ⟨_, rfl, by rw [List.length_set]; exact hc2, fun kq vq hq9 => ?_⟩
            by_cases e9 : kq = k0
            · subst e9
              rw [List.getElem?_set_self hlen] at hq9
              cases hq9
              rw [ht]
              rcases htt with rfl | ⟨rfl, -⟩
              · show Value.int v = .int (mj_gI (mj_sI h (k2 + 2) kq v) (k2 + 2) kq)
                rw [mj_gI_sI]; simp [upd]
              · show Value.int v = .int (mj_gI (mj_sI h (k2 + 2) kq v) (k2 + 2) kq)
                rw [mj_gI_sI]; simp [upd]
            · rw [List.getElem?_set_ne (Ne.symm e9)] at hq9
              have hc9 := hc3 kq vq hq9
              rw [mj_gI_sI]
              simp only [upd, if_neg e9]
              exact hc9
          have hh2 := hh.set (E' := .inr (a, fs.set k0 (.int v))) hw (h' := mj_sI h (k2 + 2) k0 v) rfl hcell (fun r hr => mj_sm_sI r hr)
          have ho2 : mj_old L0 xs (mj_sI h (k2 + 2) k0 v) := ho.cong (mj_sm_sI 0 (by omega)) (mj_sm_sI 1 (by omega))
          have has := mj_as_set (t0 := t0) (b := b) (E' := .inr (a, fs.set k0 (.int v))) hw
          have kk : ∀ (H1 : Heap) (locs1 : List Loc), va_P D vwCl (ws.set k2 (q, .inr (a, fs.set k0 (.int v)))) H1 → va_D A (ws.set k2 (q, .inr (a, fs.set k0 (.int v)))) → va_S A s.heap H1 locs1 → W p l e R s m args below meth c H1 locs1 (h.1 - n0) (h.2.1 - z0) Q (F0 m (pc + 3) ls st2) := fun H1 locs1 hP1 hD1 hS1 =>
            hk H1 locs1 ls st2 _ ⟨hP1, hD1, hS1, hh2, ho2, by rw [has]; exact hl, by rw [has]; exact hv2, hn, by rw [has]; exact ha⟩ g1 g2
          obtain ⟨hu, hfl⟩ := hfl
          by_cases hfin : (T k0).2.2.2 = true
          · rw [if_pos hfin] at hu
            rcases hfl with hz | ⟨hz1, hz2⟩
            · omega
            · exact va_putF (T := T) (N := N) hx hb hts (hlay _ (List.mem_of_getElem? hcl)) ty hty1 hty2 hown hK hP hD hS k2 hw hcl k0 hq1 (hts _ (mj_in_of hq4 hct)) (fun _ z => by rw [hq3] at z; exact z) hfin (hnm hz1) hz2 (hty1 k0 hq1) hnf.1 hnf.2 hlen hdec kk
          · exact va_put (T := T) (N := N) hx hb hts (hlay _ (List.mem_of_getElem? hcl)) ty hty1 hty2 hown hK hP hD hS k2 hw hcl k0 hq1 (hts _ (mj_in_of hq4 hct)) (fun _ z => by rw [hq3] at z; exact z) (by simpa using hfin) (hty1 k0 hq1) hnf.1 hnf.2 hlen hdec kk
    · rename_i v r S1
      · obtain ⟨hkd, hE⟩ := mj_ifs hE
        obtain ⟨hkd, htt⟩ := hkd
        simp only [Option.some.injEq, Prod.mk.injEq] at hE
        obtain ⟨rfl, rfl, rfl, rfl⟩ := hE
        obtain ⟨⟨rfl, hq⟩, hfl⟩ := hok
        unfold mj_fk at hq
        cases hcl : vwCl[a]? with
        | none => rw [hcl] at hq; cases hq
        | some cl1 =>
          obtain ⟨C, T, N⟩ := cl1
          rw [hcl] at hq hfl
          simp only [Bool.and_eq_true, Bool.or_eq_true, decide_eq_true_eq] at hq hfl
          obtain ⟨⟨⟨hq1, hq2⟩, hq3⟩, hq4⟩ := hq
          intro H locs ls st ws hR g1 g2
          obtain ⟨hP, hD, hS, hh, ho, hl, hv, hn, ha⟩ := hR
          obtain ⟨y1, st1, rfl, e1, hv1⟩ := mj_vs_c hv
          obtain rfl := mj_vr_l e1
          obtain ⟨x1, st2, rfl, e2, hv2⟩ := mj_vs_c hv1
          obtain ⟨q, e3, rfl⟩ := mj_vr_r e2
          obtain ⟨k2, E, rfl, hw, hc⟩ := mj_find hh ho e3 (Or.inl (by rw [hkd]; omega))
          rw [mj_cr_o hkd] at hc
          obtain ⟨fs, rfl, hc2, hc3⟩ := hc
          have hlen : k0 < fs.length := by rw [hc2]; unfold mj_nf; rw [hcl]; exact hq1
          have ht : mj_ft a k0 = t := by unfold mj_ft; rw [hcl]; exact hq2.symm
          obtain ⟨ty, hty1, hty2, hty3⟩ := htys _ (List.mem_of_getElem? hcl)
          have hty3 := hty3 k0 hq1
          dsimp only at hty3
          rw [← hq2] at hty3
          have hnf : narrow (ty k0) (.long v) = .long v ∧ fits (ty k0) (.long v) = true := by
            rcases hty3 with ⟨z, e⟩ | ⟨z, e⟩ | ⟨z, e⟩ | ⟨z, t9, e⟩
            · omega
            · rw [e]; exact ⟨rfl, rfl⟩
            · omega
            · omega
          have hcell : mj_cr G (mj_as t0 b ws) (mj_sJ h (k2 + 2) k0 v) (k2 + 2) (.inr (a, fs.set k0 (.long v))) := by
            rw [mj_cr_o (h := mj_sJ h (k2 + 2) k0 v) (ci := a) hkd]
            refine ⟨_, rfl, by rw [List.length_set]; exact hc2, fun kq vq hq9 => ?_⟩
            by_cases e9 : kq = k0
            · subst e9
              rw [List.getElem?_set_self hlen] at hq9
              cases hq9
              rw [ht]
              subst htt
              show Value.long v = .long (mj_gJ (mj_sJ h (k2 + 2) kq v) (k2 + 2) kq)
              rw [mj_gJ_sJ]; simp [vp_updL]
            · rw [List.getElem?_set_ne (Ne.symm e9)] at hq9
              have hc9 := hc3 kq vq hq9
              rw [mj_gJ_sJ]
              simp only [vp_updL, if_neg e9]
              exact hc9
          have hh2 := hh.set (E' := .inr (a, fs.set k0 (.long v))) hw (h' := mj_sJ h (k2 + 2) k0 v) rfl hcell (fun r hr => mj_sm_sJ r hr)
          have ho2 : mj_old L0 xs (mj_sJ h (k2 + 2) k0 v) := ho.cong (mj_sm_sJ 0 (by omega)) (mj_sm_sJ 1 (by omega))
          have has := mj_as_set (t0 := t0) (b := b) (E' := .inr (a, fs.set k0 (.long v))) hw
          have kk : ∀ (H1 : Heap) (locs1 : List Loc), va_P D vwCl (ws.set k2 (q, .inr (a, fs.set k0 (.long v)))) H1 → va_D A (ws.set k2 (q, .inr (a, fs.set k0 (.long v)))) → va_S A s.heap H1 locs1 → W p l e R s m args below meth c H1 locs1 (h.1 - n0) (h.2.1 - z0) Q (F0 m (pc + 3) ls st2) := fun H1 locs1 hP1 hD1 hS1 =>
            hk H1 locs1 ls st2 _ ⟨hP1, hD1, hS1, hh2, ho2, by rw [has]; exact hl, by rw [has]; exact hv2, hn, by rw [has]; exact ha⟩ g1 g2
          obtain ⟨hu, hfl⟩ := hfl
          by_cases hfin : (T k0).2.2.2 = true
          · rw [if_pos hfin] at hu
            rcases hfl with hz | ⟨hz1, hz2⟩
            · omega
            · exact va_putF (T := T) (N := N) hx hb hts (hlay _ (List.mem_of_getElem? hcl)) ty hty1 hty2 hown hK hP hD hS k2 hw hcl k0 hq1 (hts _ (mj_in_of hq4 hct)) (fun _ z => by rw [hq3] at z; exact z) hfin (hnm hz1) hz2 (hty1 k0 hq1) hnf.1 hnf.2 hlen hdec kk
          · exact va_put (T := T) (N := N) hx hb hts (hlay _ (List.mem_of_getElem? hcl)) ty hty1 hty2 hown hK hP hD hS k2 hw hcl k0 hq1 (hts _ (mj_in_of hq4 hct)) (fun _ z => by rw [hq3] at z; exact z) (by simpa using hfin) (hty1 k0 hq1) hnf.1 hnf.2 hlen hdec kk
    · rename_i v r S1
      · obtain ⟨hkd, hE⟩ := mj_ifs hE
        obtain ⟨hkd, htt⟩ := hkd
        simp only [Option.some.injEq, Prod.mk.injEq] at hE
        obtain ⟨rfl, rfl, rfl, rfl⟩ := hE
        obtain ⟨⟨rfl, hq⟩, hfl⟩ := hok
        unfold mj_fk at hq
        cases hcl : vwCl[a]? with
        | none => rw [hcl] at hq; cases hq
        | some cl1 =>
          obtain ⟨C, T, N⟩ := cl1
          rw [hcl] at hq hfl
          simp only [Bool.and_eq_true, Bool.or_eq_true, decide_eq_true_eq] at hq hfl
          obtain ⟨⟨⟨hq1, hq2⟩, hq3⟩, hq4⟩ := hq
          intro H locs ls st ws hR g1 g2
          obtain ⟨hP, hD, hS, hh, ho, hl, hv, hn, ha⟩ := hR
          obtain ⟨y1, st1, rfl, e1, hv1⟩ := mj_vs_c hv
          obtain ⟨qv, e5, rfl⟩ := mj_vr_r e1
          obtain ⟨x1, st2, rfl, e2, hv2⟩ := mj_vs_c hv1
          obtain ⟨q, e3, rfl⟩ := mj_vr_r e2
          obtain ⟨k2, E, rfl, hw, hc⟩ := mj_find hh ho e3 (Or.inl (by rw [hkd]; omega))
          rw [mj_cr_o hkd] at hc
          obtain ⟨fs, rfl, hc2, hc3⟩ := hc
          have hlen : k0 < fs.length := by rw [hc2]; unfold mj_nf; rw [hcl]; exact hq1
          have ht : mj_ft a k0 = t := by unfold mj_ft; rw [hcl]; exact hq2.symm
          obtain ⟨ty, hty1, hty2, hty3⟩ := htys _ (List.mem_of_getElem? hcl)
          have hty3 := hty3 k0 hq1
          dsimp only at hty3
          rw [← hq2] at hty3
          have hnf : narrow (ty k0) (.ref qv) = .ref qv ∧ fits (ty k0) (.ref qv) = true := by
            rcases hty3 with ⟨z, e⟩ | ⟨z, e⟩ | ⟨z, e⟩ | ⟨z, t9, e | ⟨t8, e⟩⟩
            · omega
            · omega
            · omega
            · rw [e]; exact ⟨rfl, rfl⟩
            · rw [e]; exact ⟨rfl, rfl⟩
          have hcell : mj_cr G (mj_as t0 b ws) (mj_sR h (k2 + 2) k0 (some v)) (k2 + 2) (.inr (a, fs.set k0 (.ref qv))) := by
            rw [mj_cr_o (h := mj_sR h (k2 + 2) k0 (some v)) (ci := a) hkd]
            refine ⟨_, rfl, by rw [List.length_set]; exact hc2, fun kq vq hq9 => ?_⟩
            by_cases e9 : kq = k0
            · subst e9
              rw [List.getElem?_set_self hlen] at hq9
              cases hq9
              rw [ht]
              subst htt
              refine ⟨some qv, rfl, ?_⟩
              rw [mj_gR_sR]
              simp only [va_up, if_true]
              exact ⟨qv, e5, rfl⟩
            · rw [List.getElem?_set_ne (Ne.symm e9)] at hq9
              have hc9 := hc3 kq vq hq9
              rw [mj_gR_sR]
              simp only [va_up, if_neg e9]
              exact hc9
          have hh2 := hh.set (E' := .inr (a, fs.set k0 (.ref qv))) hw (h' := mj_sR h (k2 + 2) k0 (some v)) rfl hcell (fun r hr => mj_sm_sR r hr)
          have ho2 : mj_old L0 xs (mj_sR h (k2 + 2) k0 (some v)) := ho.cong (mj_sm_sR 0 (by omega)) (mj_sm_sR 1 (by omega))
          have has := mj_as_set (t0 := t0) (b := b) (E' := .inr (a, fs.set k0 (.ref qv))) hw
          have kk : ∀ (H1 : Heap) (locs1 : List Loc), va_P D vwCl (ws.set k2 (q, .inr (a, fs.set k0 (.ref qv)))) H1 → va_D A (ws.set k2 (q, .inr (a, fs.set k0 (.ref qv)))) → va_S A s.heap H1 locs1 → W p l e R s m args below meth c H1 locs1 (h.1 - n0) (h.2.1 - z0) Q (F0 m (pc + 3) ls st2) := fun H1 locs1 hP1 hD1 hS1 =>
            hk H1 locs1 ls st2 _ ⟨hP1, hD1, hS1, hh2, ho2, by rw [has]; exact hl, by rw [has]; exact hv2, hn, by rw [has]; exact ha⟩ g1 g2
          obtain ⟨hu, hfl⟩ := hfl
          by_cases hfin : (T k0).2.2.2 = true
          · rw [if_pos hfin] at hu
            rcases hfl with hz | ⟨hz1, hz2⟩
            · omega
            · exact va_putF (T := T) (N := N) hx hb hts (hlay _ (List.mem_of_getElem? hcl)) ty hty1 hty2 hown hK hP hD hS k2 hw hcl k0 hq1 (hts _ (mj_in_of hq4 hct)) (fun _ z => by rw [hq3] at z; exact z) hfin (hnm hz1) hz2 (hty1 k0 hq1) hnf.1 hnf.2 hlen hdec kk
          · exact va_put (T := T) (N := N) hx hb hts (hlay _ (List.mem_of_getElem? hcl)) ty hty1 hty2 hown hK hP hD hS k2 hw hcl k0 hq1 (hts _ (mj_in_of hq4 hct)) (fun _ z => by rw [hq3] at z; exact z) (by simpa using hfin) (hty1 k0 hq1) hnf.1 hnf.2 hlen hdec kk
    · cases hE
  | iaload => 
    simp only [mj_okO, Bool.and_eq_true, Bool.or_eq_true, decide_eq_true_eq] at hok
    simp only [mj_ex] at hE
    split at hE
    · rename_i v r S1
      · obtain ⟨hkd, hE⟩ := mj_ifs hE
        obtain ⟨hkd, hin⟩ := hkd
        simp only [Option.some.injEq, Prod.mk.injEq] at hE
        obtain ⟨rfl, rfl, rfl, rfl⟩ := hE
        subst hok
        intro H locs ls st ws hR g1 g2
        obtain ⟨hP, hD, hS, hh, ho, hl, hv, hn, ha⟩ := hR
        obtain ⟨y1, st1, rfl, e1, hv1⟩ := mj_vs_c hv
        obtain rfl := mj_vr_i e1
        obtain ⟨x1, st2, rfl, e2, hv2⟩ := mj_vs_c hv1
        obtain ⟨q, e3, rfl⟩ := mj_vr_r e2
        rcases mj_findI (L0 := L0) (xs := xs) hh e3 hkd with ⟨rfl, rfl⟩ | ⟨rfl, rfl⟩ | ⟨k2, rfl, hw⟩
        · rw [ho.1] at hin
          have hlt : v.toNatClampNeg < 6 := Nat.not_le.mp fun z => hin (Or.inr z)
          refine mj_sld hx hb hT0 hT1 hT2 hS hin hdec ?_
          rw [← ho.2.2.1 _ hlt]
          exact hk H locs ls _ ws ⟨hP, hD, hS, hh, ho, hl, ⟨rfl, hv2⟩, hn, ha⟩ g1 g2
        · rw [ho.2.1] at hin
          have hlt : v.toNatClampNeg < L0 := Nat.not_le.mp fun z => hin (Or.inr z)
          refine mj_sld hx hb hX0 hX1 hX2 hS hin hdec ?_
          rw [← ho.2.2.2 _ hlt]
          exact hk H locs ls _ ws ⟨hP, hD, hS, hh, ho, hl, ⟨rfl, hv2⟩, hn, ha⟩ g1 g2
        · exact va_iald hx hb hK hP k2 0 hw rfl hin hdec (hk H locs ls _ ws ⟨hP, hD, hS, hh, ho, hl, ⟨rfl, hv2⟩, hn, ha⟩ g1 g2)
    · cases hE
  | laload => 
    simp only [mj_okO, Bool.and_eq_true, Bool.or_eq_true, decide_eq_true_eq] at hok
    simp only [mj_ex] at hE
    split at hE
    · rename_i v r S1
      · obtain ⟨hkd, hE⟩ := mj_ifs hE
        obtain ⟨hkd, hin⟩ := hkd
        simp only [Option.some.injEq, Prod.mk.injEq] at hE
        obtain ⟨rfl, rfl, rfl, rfl⟩ := hE
        subst hok
        intro H locs ls st ws hR g1 g2
        obtain ⟨hP, hD, hS, hh, ho, hl, hv, hn, ha⟩ := hR
        obtain ⟨y1, st1, rfl, e1, hv1⟩ := mj_vs_c hv
        obtain rfl := mj_vr_i e1
        obtain ⟨x1, st2, rfl, e2, hv2⟩ := mj_vs_c hv1
        obtain ⟨q, e3, rfl⟩ := mj_vr_r e2
        obtain ⟨k2, E, rfl, hw, hc⟩ := mj_find hh ho e3 (Or.inl (by rw [hkd]; omega))
        rw [mj_cr_l hkd] at hc
        subst hc
        exact va_lald hx hb hK hP k2 1 hw rfl hin hdec (hk H locs ls _ ws ⟨hP, hD, hS, hh, ho, hl, ⟨rfl, hv2⟩, hn, ha⟩ g1 g2)
    · cases hE
  | aaload => 
    simp only [mj_okO, Bool.and_eq_true, Bool.or_eq_true, decide_eq_true_eq] at hok
    simp only [mj_ex] at hE
    split at hE
    · rename_i v r S1
      · obtain ⟨hkd, hE⟩ := mj_ifs hE
        obtain ⟨hkd, hin⟩ := hkd
        simp only [Option.some.injEq, Prod.mk.injEq] at hE
        obtain ⟨rfl, rfl, rfl, rfl⟩ := hE
        subst hok
        intro H locs ls st ws hR g1 g2
        obtain ⟨hP, hD, hS, hh, ho, hl, hv, hn, ha⟩ := hR
        obtain ⟨y1, st1, rfl, e1, hv1⟩ := mj_vs_c hv
        obtain rfl := mj_vr_i e1
        obtain ⟨x1, st2, rfl, e2, hv2⟩ := mj_vs_c hv1
        obtain ⟨q, e3, rfl⟩ := mj_vr_r e2
        obtain ⟨k2, E, rfl, hw, hc⟩ := mj_find hh ho e3 (Or.inl (by rw [hkd]; omega))
        rw [mj_cr_r hkd] at hc
        obtain ⟨g, rfl, hg⟩ := hc
        exact va_aldq hx hb hK hP k2 2 hw rfl hin hdec (hk H locs ls _ ws ⟨hP, hD, hS, hh, ho, hl, ⟨mj_rf_vr (hg _), hv2⟩, hn, ha⟩ g1 g2)
    · cases hE
  | iastore => 
    simp only [mj_okO, Bool.and_eq_true, Bool.or_eq_true, decide_eq_true_eq] at hok
    simp only [mj_ex] at hE
    split at hE
    · rename_i w v r S1
      · obtain ⟨hkd, hE⟩ := mj_ifs hE
        obtain ⟨hkd, hge, hin⟩ := hkd
        simp only [Option.some.injEq, Prod.mk.injEq] at hE
        obtain ⟨rfl, rfl, rfl, rfl⟩ := hE
        subst hok
        intro H locs ls st ws hR g1 g2
        obtain ⟨hP, hD, hS, hh, ho, hl, hv, hn, ha⟩ := hR
        obtain ⟨z1, st0, rfl, e0, hv1⟩ := mj_vs_c hv
        obtain rfl := mj_vr_i e0
        obtain ⟨y1, st1, rfl, e1, hv2⟩ := mj_vs_c hv1
        obtain rfl := mj_vr_i e1
        obtain ⟨x1, st2, rfl, e2, hv3⟩ := mj_vs_c hv2
        obtain ⟨q, e3, rfl⟩ := mj_vr_r e2
        obtain ⟨k2, E, rfl, hw, hc⟩ := mj_find hh ho e3 (Or.inr hge)
        rw [mj_cr_i hkd] at hc
        subst hc
        have hcell : mj_cr G (mj_as t0 b ws) (mj_sI h (k2 + 2) v.toNatClampNeg w) (k2 + 2) (.inl (G.1, (mj_k h (k2 + 2)).2, .inl (upd (mj_gI h (k2 + 2)) v.toNatClampNeg w))) := by
          rw [mj_cr_i (h := mj_sI h (k2 + 2) v.toNatClampNeg w) hkd, mj_gI_sI]
          rfl
        have hh2 := hh.set (E' := .inl (G.1, (mj_k h (k2 + 2)).2, .inl (upd (mj_gI h (k2 + 2)) v.toNatClampNeg w))) hw (h' := mj_sI h (k2 + 2) v.toNatClampNeg w) rfl hcell (fun r hr => mj_sm_sI r hr)
        have ho2 : mj_old L0 xs (mj_sI h (k2 + 2) v.toNatClampNeg w) := ho.cong (mj_sm_sI 0 (by omega)) (mj_sm_sI 1 (by omega))
        have has := mj_as_set (t0 := t0) (b := b) (E' := .inl (G.1, (mj_k h (k2 + 2)).2, .inl (upd (mj_gI h (k2 + 2)) v.toNatClampNeg w))) hw
        exact va_iast hx hb hK hP hD hS k2 0 hw rfl hin hdec (fun H1 locs1 hP1 hD1 hS1 => hk H1 locs1 ls st2 _ ⟨hP1, hD1, hS1, hh2, ho2, by rw [has]; exact hl, by rw [has]; exact hv3, hn, by rw [has]; exact ha⟩ g1 g2)
    · cases hE
  | lastore => 
    simp only [mj_okO, Bool.and_eq_true, Bool.or_eq_true, decide_eq_true_eq] at hok
    simp only [mj_ex] at hE
    split at hE
    · rename_i w v r S1
      · obtain ⟨hkd, hE⟩ := mj_ifs hE
        obtain ⟨hkd, hin⟩ := hkd
        simp only [Option.some.injEq, Prod.mk.injEq] at hE
        obtain ⟨rfl, rfl, rfl, rfl⟩ := hE
        subst hok
        intro H locs ls st ws hR g1 g2
        obtain ⟨hP, hD, hS, hh, ho, hl, hv, hn, ha⟩ := hR
        obtain ⟨z1, st0, rfl, e0, hv1⟩ := mj_vs_c hv
        obtain rfl := mj_vr_l e0
        obtain ⟨y1, st1, rfl, e1, hv2⟩ := mj_vs_c hv1
        obtain rfl := mj_vr_i e1
        obtain ⟨x1, st2, rfl, e2, hv3⟩ := mj_vs_c hv2
        obtain ⟨q, e3, rfl⟩ := mj_vr_r e2
        obtain ⟨k2, E, rfl, hw, hc⟩ := mj_find hh ho e3 (Or.inl (by rw [hkd]; omega))
        rw [mj_cr_l hkd] at hc
        subst hc
        have hcell : mj_cr G (mj_as t0 b ws) (mj_sJ h (k2 + 2) v.toNatClampNeg w) (k2 + 2) (.inl (G.2.1, (mj_k h (k2 + 2)).2, .inr (.inl (vp_updL (mj_gJ h (k2 + 2)) v.toNatClampNeg w)))) := by
          rw [mj_cr_l (h := mj_sJ h (k2 + 2) v.toNatClampNeg w) hkd, mj_gJ_sJ]
          rfl
        have hh2 := hh.set (E' := .inl (G.2.1, (mj_k h (k2 + 2)).2, .inr (.inl (vp_updL (mj_gJ h (k2 + 2)) v.toNatClampNeg w)))) hw (h' := mj_sJ h (k2 + 2) v.toNatClampNeg w) rfl hcell (fun r hr => mj_sm_sJ r hr)
        have ho2 : mj_old L0 xs (mj_sJ h (k2 + 2) v.toNatClampNeg w) := ho.cong (mj_sm_sJ 0 (by omega)) (mj_sm_sJ 1 (by omega))
        have has := mj_as_set (t0 := t0) (b := b) (E' := .inl (G.2.1, (mj_k h (k2 + 2)).2, .inr (.inl (vp_updL (mj_gJ h (k2 + 2)) v.toNatClampNeg w)))) hw
        exact va_last hx hb hK hP hD hS k2 1 hw rfl hin hdec (fun H1 locs1 hP1 hD1 hS1 => hk H1 locs1 ls st2 _ ⟨hP1, hD1, hS1, hh2, ho2, by rw [has]; exact hl, by rw [has]; exact hv3, hn, by rw [has]; exact ha⟩ g1 g2)
    · cases hE
  | aastore => 
    simp only [mj_okO, Bool.and_eq_true, Bool.or_eq_true, decide_eq_true_eq] at hok
    simp only [mj_ex] at hE
    split at hE
    · rename_i w v r S1
      · obtain ⟨hkd, hE⟩ := mj_ifs hE
        obtain ⟨hkd, hkq, hin⟩ := hkd
        simp only [Option.some.injEq, Prod.mk.injEq] at hE
        obtain ⟨rfl, rfl, rfl, rfl⟩ := hE
        subst hok
        intro H locs ls st ws hR g1 g2
        obtain ⟨hP, hD, hS, hh, ho, hl, hv, hn, ha⟩ := hR
        obtain ⟨z1, st0, rfl, e0, hv1⟩ := mj_vs_c hv
        obtain ⟨qv, e5, rfl⟩ := mj_vr_r e0
        obtain ⟨y1, st1, rfl, e1, hv2⟩ := mj_vs_c hv1
        obtain rfl := mj_vr_i e1
        obtain ⟨x1, st2, rfl, e2, hv3⟩ := mj_vs_c hv2
        obtain ⟨q, e3, rfl⟩ := mj_vr_r e2
        obtain ⟨k2, E, rfl, hw, hc⟩ := mj_find hh ho e3 (Or.inl (by rw [hkd]; omega))
        rw [mj_cr_r hkd] at hc
        obtain ⟨g, rfl, hg⟩ := hc
        obtain ⟨kv, Ev, rfl, hwv, hcv⟩ := mj_find hh ho e5 (Or.inl (by rw [hkq]; omega))
        rw [mj_cr_o (ci := 0) hkq] at hcv
        obtain ⟨fsv, rfl, hcv2, hcv3⟩ := hcv
        have hcell : mj_cr G (mj_as t0 b ws) (mj_sR h (k2 + 2) v.toNatClampNeg (some (kv + 2))) (k2 + 2) (.inl (G.2.2, (mj_k h (k2 + 2)).2, .inr (.inr (.inr (.inr (va_up g v.toNatClampNeg (some qv))))))) := by
          rw [mj_cr_r (h := mj_sR h (k2 + 2) v.toNatClampNeg (some (kv + 2))) hkd, mj_gR_sR]
          refine ⟨_, rfl, fun j => ?_⟩
          by_cases e9 : j = v.toNatClampNeg
          · subst e9
            simp only [va_up, if_true]
            exact ⟨qv, e5, rfl⟩
          · simp only [va_up, if_neg e9]
            exact hg j
        have hh2 := hh.set (E' := .inl (G.2.2, (mj_k h (k2 + 2)).2, .inr (.inr (.inr (.inr (va_up g v.toNatClampNeg (some qv))))))) hw (h' := mj_sR h (k2 + 2) v.toNatClampNeg (some (kv + 2))) rfl hcell (fun r hr => mj_sm_sR r hr)
        have ho2 : mj_old L0 xs (mj_sR h (k2 + 2) v.toNatClampNeg (some (kv + 2))) := ho.cong (mj_sm_sR 0 (by omega)) (mj_sm_sR 1 (by omega))
        have has := mj_as_set (t0 := t0) (b := b) (E' := .inl (G.2.2, (mj_k h (k2 + 2)).2, .inr (.inr (.inr (.inr (va_up g v.toNatClampNeg (some qv))))))) hw
        exact va_astq (r := (RX0, TX0, 2)) hx hb hK hP hD hS k2 2 kv 0 hw rfl hwv rfl hin hdec (fun H1 locs1 hP1 hD1 hS1 => hk H1 locs1 ls st2 _ ⟨hP1, hD1, hS1, hh2, ho2, by rw [has]; exact hl, by rw [has]; exact hv3, hn, by rw [has]; exact ha⟩ g1 g2)
    · cases hE
  | arraylength => 
    simp only [mj_okO, Bool.and_eq_true, Bool.or_eq_true, decide_eq_true_eq] at hok
    simp only [mj_ex] at hE
    split at hE
    · rename_i r S1
      · obtain ⟨hkd, hE⟩ := mj_ifs hE
        simp only [Option.some.injEq, Prod.mk.injEq] at hE
        obtain ⟨rfl, rfl, rfl, rfl⟩ := hE
        subst hok
        intro H locs ls st ws hR g1 g2
        obtain ⟨hP, hD, hS, hh, ho, hl, hv, hn, ha⟩ := hR
        obtain ⟨x1, st2, rfl, e2, hv1⟩ := mj_vs_c hv
        obtain ⟨q, e3, rfl⟩ := mj_vr_r e2
        have kk := hk H locs ls (.int (Int32.ofNat (mj_k h r).2) :: st2) ws ⟨hP, hD, hS, hh, ho, hl, ⟨rfl, hv1⟩, hn, ha⟩ g1 g2
        rcases mj_as_get e3 with ⟨rfl, rfl⟩ | ⟨rfl, rfl⟩ | ⟨k2, E, rfl, hw⟩
        · rw [ho.1] at kk
          exact mj_slen hx hb hT0 hT1 hT2 hS hdec kk
        · rw [ho.2.1] at kk
          exact mj_slen hx hb hX0 hX1 hX2 hS hdec kk
        · have hc := hh.2 k2 (q, E) hw
          dsimp only at hc
          rcases (show (mj_k h (k2 + 2)).1 = 0 ∨ (mj_k h (k2 + 2)).1 = 1 ∨ (mj_k h (k2 + 2)).1 = 2 by omega) with z | z | z
          · rw [mj_cr_i z] at hc; subst hc; exact va_alen hx hb hK hP k2 0 hw rfl rfl hdec kk
          · rw [mj_cr_l z] at hc; subst hc; exact va_alen hx hb hK hP k2 1 hw rfl rfl hdec kk
          · rw [mj_cr_r z] at hc; obtain ⟨g, rfl, hg⟩ := hc; exact va_alen hx hb hK hP k2 2 hw rfl rfl hdec kk
    · cases hE
  | newarray ty => 
    simp only [mj_okO, Bool.and_eq_true, Bool.or_eq_true, decide_eq_true_eq] at hok
    simp only [mj_ex] at hE
    split at hE
    · rename_i v S1
      · obtain ⟨hkd, hE⟩ := mj_ifs hE
        obtain ⟨hv0, hv1, hv2⟩ := hkd
        simp only [Option.some.injEq, Prod.mk.injEq] at hE
        obtain ⟨rfl, rfl, rfl, rfl⟩ := hE
        obtain ⟨rfl, -⟩ := hok
        intro H locs ls st ws hR g1 g2
        obtain ⟨hP, hD, hS, hh, ho, hl, hv, hn, ha⟩ := hR
        obtain ⟨x1, st2, rfl, e2, hv1⟩ := mj_vs_c hv
        obtain rfl := mj_vr_i e2
        rcases hv2 with rfl | rfl
        · simp only [if_true, reduceCtorEq, if_false] at hk hc1 hc2
          have hcell : ∀ q : Nat, mj_cr G (mj_as t0 b (ws ++ [(q, .inl (G.1, v.toNatClampNeg, .inl (fun _ => 0)))])) (mj_new h 0 v.toNatClampNeg) h.1 (.inl (G.1, v.toNatClampNeg, .inl (fun _ => 0))) := by
            intro q
            rw [mj_cr_i (by rw [mj_new_k]), mj_new_k, mj_new_I]
          refine va_newa (atype := .int) (ty := .int) (N' := v.toNatClampNeg) (a0 := (v.toNatClampNeg, .inl (fun _ => 0))) hx hb (hts _ (hoth _ (List.mem_of_getElem? (i := 0) rfl))) rfl hK hP hD hS hA (fun cA => rfl) hv0 rfl (by show v.toNatClampNeg * 4 ≤ 536870912; omega) (by have := hc1; simp only [mj_new] at this; omega) (by have := hc2; simp only [mj_new] at this; omega) hdec (fun q cA H1 hK1 hP1 hD1 hS1 => ?_)
          have hcA : cA = G.1 := by
            have z1 := (hK1.2 3 (cA, .int) rfl).2
            have z2 := (hK.2 0 (G.1, .int) rfl).2
            exact Option.some.inj (z1.symm.trans z2)
          subst hcA
          refine W.cs (cells' := (mj_new h 0 v.toNatClampNeg).1 - n0) (slots' := (mj_new h 0 v.toNatClampNeg).2.1 - z0) (by simp only [mj_new]; omega) (by simp only [mj_new]; omega) ?_
          have hh2 := hh.push (q := q) (h' := mj_new h 0 v.toNatClampNeg) rfl (hcell q) (fun r hr => mj_sm_new r hr)
          have hge : 2 ≤ h.1 := by have := hh.1; omega
          exact hk H1 locs ls _ _ ⟨hP1, hD1, hS1, hh2, ho.cong (mj_sm_new 0 (by omega)) (mj_sm_new 1 (by omega)), hl.xt mj_as_xt, ⟨⟨q, by rw [← hh.1]; exact mj_as_of (E := .inl (G.1, v.toNatClampNeg, .inl (fun _ => 0))) (by rw [List.getElem?_append_right (Nat.le_refl _), Nat.sub_self]; rfl), rfl⟩, hv1.xt mj_as_xt⟩, hn, ha.tr mj_as_xt⟩ (by simp only [mj_new]; omega) (by simp only [mj_new]; omega)
        · simp only [if_true, reduceCtorEq, if_false] at hk hc1 hc2
          have hcell : ∀ q : Nat, mj_cr G (mj_as t0 b (ws ++ [(q, .inl (G.2.1, v.toNatClampNeg, .inr (.inl (fun _ => 0))))])) (mj_new h 1 v.toNatClampNeg) h.1 (.inl (G.2.1, v.toNatClampNeg, .inr (.inl (fun _ => 0)))) := by
            intro q
            rw [mj_cr_l (by rw [mj_new_k]), mj_new_k, mj_new_J]
          refine va_newa (atype := .long) (ty := .long) (N' := v.toNatClampNeg) (a0 := (v.toNatClampNeg, .inr (.inl (fun _ => 0)))) hx hb (hts _ (hoth _ (List.mem_of_getElem? (i := 1) rfl))) rfl hK hP hD hS hA (fun cA => rfl) hv0 rfl (by show v.toNatClampNeg * 8 ≤ 536870912; omega) (by have := hc1; simp only [mj_new] at this; omega) (by have := hc2; simp only [mj_new] at this; omega) hdec (fun q cA H1 hK1 hP1 hD1 hS1 => ?_)
          have hcA : cA = G.2.1 := by
            have z1 := (hK1.2 3 (cA, .long) rfl).2
            have z2 := (hK.2 1 (G.2.1, .long) rfl).2
            exact Option.some.inj (z1.symm.trans z2)
          subst hcA
          refine W.cs (cells' := (mj_new h 1 v.toNatClampNeg).1 - n0) (slots' := (mj_new h 1 v.toNatClampNeg).2.1 - z0) (by simp only [mj_new]; omega) (by simp only [mj_new]; omega) ?_
          have hh2 := hh.push (q := q) (h' := mj_new h 1 v.toNatClampNeg) rfl (hcell q) (fun r hr => mj_sm_new r hr)
          have hge : 2 ≤ h.1 := by have := hh.1; omega
          exact hk H1 locs ls _ _ ⟨hP1, hD1, hS1, hh2, ho.cong (mj_sm_new 0 (by omega)) (mj_sm_new 1 (by omega)), hl.xt mj_as_xt, ⟨⟨q, by rw [← hh.1]; exact mj_as_of (E := .inl (G.2.1, v.toNatClampNeg, .inr (.inl (fun _ => 0)))) (by rw [List.getElem?_append_right (Nat.le_refl _), Nat.sub_self]; rfl), rfl⟩, hv1.xt mj_as_xt⟩, hn, ha.tr mj_as_xt⟩ (by simp only [mj_new]; omega) (by simp only [mj_new]; omega)
    · cases hE
  | anewarray kk => 
    simp only [mj_okO, Bool.and_eq_true, Bool.or_eq_true, decide_eq_true_eq] at hok
    simp only [mj_ex] at hE
    split at hE
    · rename_i v S1
      · obtain ⟨hkd, hE⟩ := mj_ifs hE
        obtain ⟨hv0, hv1⟩ := hkd
        simp only [Option.some.injEq, Prod.mk.injEq] at hE
        obtain ⟨rfl, rfl, rfl, rfl⟩ := hE
        obtain ⟨rfl, hq⟩ := hok
        intro H locs ls st ws hR g1 g2
        obtain ⟨hP, hD, hS, hh, ho, hl, hv, hn, ha⟩ := hR
        obtain ⟨x1, st2, rfl, e2, hv1⟩ := mj_vs_c hv
        obtain rfl := mj_vr_i e2
        have hcell : ∀ q : Nat, mj_cr G (mj_as t0 b (ws ++ [(q, .inl (G.2.2, v.toNatClampNeg, .inr (.inr (.inr (.inr (fun _ => none))))))])) (mj_new h 2 v.toNatClampNeg) h.1 (.inl (G.2.2, v.toNatClampNeg, .inr (.inr (.inr (.inr (fun _ => none)))))) := by
          intro q
          rw [mj_cr_r (by rw [mj_new_k]), mj_new_k, mj_new_R]
          exact ⟨_, rfl, fun _ => rfl⟩
        refine va_newq hx hb hown (hts _ (mj_in_of hq hct)) hao hK hP hD hS hA hv0 rfl (by omega) (by have := hc1; simp only [mj_new] at this; omega) (by have := hc2; simp only [mj_new] at this; omega) hdec (fun q cA H1 hK1 hP1 hD1 hS1 => ?_)
        have hcA : cA = G.2.2 := by
          obtain ⟨-, -, -, -, -, z1⟩ := (hK1.2 3 (cA, .object "HeapSquares$HeapList") rfl).2
          obtain ⟨-, -, -, -, -, z2⟩ := (hK.2 2 (G.2.2, .object "HeapSquares$HeapList") rfl).2
          exact Option.some.inj (z1.symm.trans z2)
        subst hcA
        refine W.cs (cells' := (mj_new h 2 v.toNatClampNeg).1 - n0) (slots' := (mj_new h 2 v.toNatClampNeg).2.1 - z0) (by simp only [mj_new]; omega) (by simp only [mj_new]; omega) ?_
        have hh2 := hh.push (q := q) (h' := mj_new h 2 v.toNatClampNeg) rfl (hcell q) (fun r hr => mj_sm_new r hr)
        have hge : 2 ≤ h.1 := by have := hh.1; omega
        exact hk H1 locs ls _ _ ⟨hP1, hD1, hS1, hh2, ho.cong (mj_sm_new 0 (by omega)) (mj_sm_new 1 (by omega)), hl.xt mj_as_xt, ⟨⟨q, by rw [← hh.1]; exact mj_as_of (E := .inl (G.2.2, v.toNatClampNeg, .inr (.inr (.inr (.inr (fun _ => none)))))) (by rw [List.getElem?_append_right (Nat.le_refl _), Nat.sub_self]; rfl), rfl⟩, hv1.xt mj_as_xt⟩, hn, ha.tr mj_as_xt⟩ (by simp only [mj_new]; omega) (by simp only [mj_new]; omega)
    · cases hE
  | new kk => 
    simp only [mj_okO, Bool.and_eq_true, Bool.or_eq_true, decide_eq_true_eq] at hok
    simp only [mj_ex] at hE
    simp only [Option.some.injEq, Prod.mk.injEq] at hE
    obtain ⟨rfl, rfl, rfl, rfl⟩ := hE
    obtain ⟨rfl, hq⟩ := hok
    cases hcl : vwCl[a]? with
    | none => rw [hcl] at hq; cases hq
    | some cl1 =>
      obtain ⟨C, T, N⟩ := cl1
      rw [hcl] at hq
      simp only [Bool.and_eq_true, decide_eq_true_eq] at hq
      obtain ⟨rfl, hq2⟩ := hq
      intro H locs ls st ws hR g1 g2
      obtain ⟨hP, hD, hS, hh, ho, hl, hv, hn, ha⟩ := hR
      obtain ⟨ty, hty1, hty2, hty3⟩ := htys _ (List.mem_of_getElem? hcl)
      dsimp only at hty1 hty2 hty3
      obtain ⟨hi1, hi2⟩ : Cond.instantiable C k0 ∈ mj_tbl ∧ Cond.initialized C ∈ mj_tbl := mj_insts hoth hcl
      refine va_new (fs := (List.range k0).map (fun k => defaultValue (ty k))) (T := T) (N := k0) (ci := a) hx hb hts (hlay _ (List.mem_of_getElem? hcl)) ty hty1 hown (hts _ (mj_in_of hq2 hct)) (hts _ hi1) (hts _ hi2) hK hP hD hS hA hcl (fun j hj => by simp [vp_V, hj]) (by have := hc1; simp only [mj_new] at this; omega) (by have := hc2; simp only [mj_new] at this; omega) hdec (fun q H1 hP1 hD1 hS1 => ?_)
      have hcell : mj_cr G (mj_as t0 b (ws ++ [(q, .inr (a, (List.range k0).map (fun k => defaultValue (ty k))))])) (mj_new h (a + 3) k0) h.1 (.inr (a, (List.range k0).map (fun k => defaultValue (ty k)))) := by
        rw [mj_cr_o (ci := a) (by rw [mj_new_k])]
        refine ⟨_, rfl, by simp [mj_nf, hcl], fun kq vq hq9 => ?_⟩
        rw [mj_new_I, mj_new_J, mj_new_R]
        have hlt : kq < k0 := by have := (List.getElem?_eq_some_iff.mp hq9).1; simpa using this
        rw [List.getElem?_map, List.getElem?_range hlt] at hq9
        have e9 : defaultValue (ty kq) = vq := Option.some.inj hq9
        subst e9
        have hft : mj_ft a kq = mj_tc (T kq).2.2.1 := by unfold mj_ft; rw [hcl]
        rw [hft]
        rcases hty3 kq hlt with ⟨z, e⟩ | ⟨z, e⟩ | ⟨z, e⟩ | ⟨z, t9, e | ⟨t8, e⟩⟩
        · rw [z, e]; rfl
        · rw [z, e]; rfl
        · rw [z, e]; rfl
        · rw [z, e]; exact ⟨none, rfl, rfl⟩
        · rw [z, e]; exact ⟨none, rfl, rfl⟩
      refine W.cs (cells' := (mj_new h (a + 3) k0).1 - n0) (slots' := (mj_new h (a + 3) k0).2.1 - z0) (by simp only [mj_new]; omega) (by simp only [mj_new]; omega) ?_
      have hh2 := hh.push (q := q) (h' := mj_new h (a + 3) k0) rfl hcell (fun r hr => mj_sm_new r hr)
      have hge : 2 ≤ h.1 := by have := hh.1; omega
      exact hk H1 locs ls _ _ ⟨hP1, hD1, hS1, hh2, ho.cong (mj_sm_new 0 (by omega)) (mj_sm_new 1 (by omega)), hl.xt mj_as_xt, ⟨⟨q, by rw [← hh.1]; exact mj_as_of (E := .inr (a, (List.range k0).map (fun k => defaultValue (ty k)))) (by rw [List.getElem?_append_right (Nat.le_refl _), Nat.sub_self]; rfl), rfl⟩, hv.xt mj_as_xt⟩, hn, ha.tr mj_as_xt⟩ (by simp only [mj_new]; omega) (by simp only [mj_new]; omega)
  | _ => simp [mj_ex] at hE
end
