/-! SOUNDNESS of a run -/
/-- what a run's first step may be -/
def mj_stp (n d m pc : Nat) (o : mj_O) (r : List mj_O) (L S : List Value) (h : mj_H) (v : Option Value) (h' : mj_H) : Prop :=
  (mj_kd o = 0 ∧ ∃ (j : Option Nat) (L' S' : List Value) (h1 : mj_H), mj_ex o pc L S h = some (j, L', S', h1) ∧ mj_run n d m (j.getD (pc + o.2.1)) (match j with | none => r | some _ => []) L' S' h1 = some (v, h')) ∨
  (mj_kd o = 1 ∧ ∃ (d' : Nat) (As S' : List Value) (k : Nat) (v1 : Option Value) (h1 : mj_H) (vs : List Value), d = d' + 1 ∧ mj_pop o.2.2.2.1 [] S = some (As, S') ∧ mj_ok4 S' = true ∧ mj_rb h o.2.2.2.2.2.1 As = true ∧ mj_mx o.2.2.1 = some k ∧ mj_ew As k = true ∧ mj_run n d' o.2.2.1 0 [] (mj_en As k) [] h = some (v1, h1) ∧ mj_push o.2.2.2.2.1 v1 = some vs ∧ mj_run n (d' + 1) m (pc + 3) r L (vs ++ S') h1 = some (v, h')) ∨
  (mj_kd o = 2 ∧ mj_rt o S = some v ∧ h' = h) ∨
  (mj_kd o = 3 ∧ ∃ (d' q : Nat) (S' : List Value), d = d' + 1 ∧ S = .ref q :: S' ∧ mj_ok4 S' = true ∧ mj_run n (d' + 1) m (pc + 3) r L S' h = some (v, h')) ∨
  (mj_kd o = 5 ∧ ∃ (d' : Nat) (x y : Int32) (S' : List Value), d = d' + 1 ∧ S = .int y :: .int x :: S' ∧ mj_ok4 S' = true ∧ mj_run n (d' + 1) m (pc + 3) r L (.int (if x < y then y else x) :: S') h = some (v, h')) ∨
  (mj_kd o = 6 ∧ ∃ (d' : Nat) (x y : Int32) (S' : List Value), d = d' + 1 ∧ S = .int y :: .int x :: S' ∧ mj_ok4 S' = true ∧ mj_run n (d' + 1) m (pc + 3) r L (.int (if y < x then y else x) :: S') h = some (v, h')) ∨
  (mj_kd o = 7 ∧ ∃ (d' : Nat) (x y : Int64) (S' : List Value), d = d' + 1 ∧ S = .long y :: .long x :: S' ∧ mj_ok4 S' = true ∧ mj_run n (d' + 1) m (pc + 3) r L (.long (if y < x then y else x) :: S') h = some (v, h')) ∨
  ((mj_kd o ≠ 0 ∧ mj_kd o ≠ 1 ∧ mj_kd o ≠ 2 ∧ mj_kd o ≠ 3 ∧ mj_kd o ≠ 5 ∧ mj_kd o ≠ 6 ∧ mj_kd o ≠ 7) ∧ ∃ (d' p q : Nat) (x y c : Int32) (S' : List Value), d = d' + 1 ∧ S = .int c :: .int y :: .ref q :: .int x :: .ref p :: S' ∧ (mj_ok4 S' = true ∧ (mj_k h p).1 = 0 ∧ (mj_k h q).1 = 0 ∧ 2 ≤ p ∧ 2 ≤ q ∧ ¬ x < 0 ∧ ¬ y < 0 ∧ ¬ c < 0 ∧ x.toNatClampNeg + c.toNatClampNeg ≤ (mj_k h p).2 ∧ y.toNatClampNeg + c.toNatClampNeg ≤ (mj_k h q).2) ∧ mj_run n (d' + 1) m (pc + 3) r L S' (mj_cp h p q x.toNatClampNeg y.toNatClampNeg c.toNatClampNeg) = some (v, h'))
theorem mj_ift {c : Prop} [Decidable c] {α : Type} {x : Option α} {y : α} (h : (if c then x else none) = some y) : c ∧ x = some y := by
  by_cases hc : c
  · rw [if_pos hc] at h; exact ⟨hc, h⟩
  · rw [if_neg hc] at h; cases h
theorem mj_run_inv {n d m pc : Nat} {o : mj_O} {r : List mj_O} {L S : List Value} {h : mj_H} {v : Option Value} {h' : mj_H} (hr : mj_run (n + 1) d m pc (o :: r) L S h = some (v, h')) : mj_stp n d m pc o r L S h v h' := by
  unfold mj_stp
  rw [mj_run.eq_def] at hr
  dsimp only at hr
  split at hr
  · rename_i hk
    left
    refine ⟨hk, ?_⟩
    split at hr
    · rename_i L' S' h1 he
      exact ⟨none, L', S', h1, he, hr⟩
    · rename_i tg L' S' h1 he
      exact ⟨some tg, L', S', h1, he, hr⟩
    · cases hr
  · rename_i hk
    right; left
    refine ⟨hk, ?_⟩
    split at hr
    · cases hr
    · rename_i d'
      split at hr
      · cases hr
      · rename_i As S' hp
        obtain ⟨hc, hr⟩ := mj_ift hr
        rw [Bool.and_eq_true] at hc
        split at hr
        · cases hr
        · rename_i k hk2
          obtain ⟨hc2, hr⟩ := mj_ift hr
          split at hr
          · cases hr
          · rename_i v1 h1 hr1
            split at hr
            · cases hr
            · rename_i vs hv
              exact ⟨d', As, S', k, v1, h1, vs, rfl, hp, hc.1, hc.2, hk2, hc2, hr1, hv, hr⟩
  · rename_i hk
    right; right; left
    refine ⟨hk, ?_⟩
    split at hr
    · rename_i v2 hv
      cases hr
      exact ⟨hv, rfl⟩
    · cases hr
  · rename_i hk
    right; right; right; left
    refine ⟨hk, ?_⟩
    split at hr
    · rename_i d' q S'
      obtain ⟨hc, hr⟩ := mj_ift hr
      exact ⟨d', q, S', rfl, rfl, hc, hr⟩
    · cases hr
  · rename_i hk
    right; right; right; right; left
    refine ⟨hk, ?_⟩
    split at hr
    · rename_i d' y x S'
      obtain ⟨hc, hr⟩ := mj_ift hr
      exact ⟨d', x, y, S', rfl, rfl, hc, hr⟩
    · cases hr
  · rename_i hk
    right; right; right; right; right; left
    refine ⟨hk, ?_⟩
    split at hr
    · rename_i d' y x S'
      obtain ⟨hc, hr⟩ := mj_ift hr
      exact ⟨d', x, y, S', rfl, rfl, hc, hr⟩
    · cases hr
  · rename_i hk
    right; right; right; right; right; right; left
    refine ⟨hk, ?_⟩
    split at hr
    · rename_i d' y x S'
      obtain ⟨hc, hr⟩ := mj_ift hr
      exact ⟨d', x, y, S', rfl, rfl, hc, hr⟩
    · cases hr
  · rename_i h0 h1 h2 h3 h5 h6 h7
    right; right; right; right; right; right; right
    refine ⟨⟨h0, h1, h2, h3, h5, h6, h7⟩, ?_⟩
    split at hr
    · rename_i d' c y q x p S'
      obtain ⟨hc, hr⟩ := mj_ift hr
      exact ⟨d', p, q, x, y, c, S', rfl, rfl, hc, hr⟩
    · cases hr
set_option maxHeartbeats 4000000 in
theorem mj_ex_mono {o : mj_O} {pc : Nat} {L S : List Value} {h h' : mj_H} {j : Option Nat} {L' S' : List Value} (hE : mj_ex o pc L S h = some (j, L', S', h')) : h.1 ≤ h'.1 ∧ h.2.1 ≤ h'.2.1 := by
  obtain ⟨i, len, a, b, t, u, x, y⟩ := o
  cases i <;> simp only [mj_ex] at hE <;> first
    | (cases hE; done)
    | (simp only [Option.some.injEq, Prod.mk.injEq] at hE; obtain ⟨-, -, -, rfl⟩ := hE; first | exact ⟨Nat.le_refl _, Nat.le_refl _⟩ | (simp only [mj_new]; omega))
    | (split at hE <;> first
      | (cases hE; done)
      | (simp only [Option.some.injEq, Prod.mk.injEq] at hE; obtain ⟨-, -, -, rfl⟩ := hE; exact ⟨Nat.le_refl _, Nat.le_refl _⟩)
      | (obtain ⟨-, hE⟩ := mj_ifs hE; simp only [Prod.mk.injEq] at hE; obtain ⟨-, -, -, rfl⟩ := hE; first | exact ⟨Nat.le_refl _, Nat.le_refl _⟩ | (simp only [mj_new]; omega))
      | (obtain ⟨-, hE⟩ := mj_ifn hE; simp only [Prod.mk.injEq] at hE; obtain ⟨-, -, -, rfl⟩ := hE; exact ⟨Nat.le_refl _, Nat.le_refl _⟩))
theorem mj_run_mono : ∀ (n d m pc : Nat) (ops : List mj_O) (L S : List Value) (h : mj_H) (v : Option Value) (h' : mj_H), mj_run n d m pc ops L S h = some (v, h') → h.1 ≤ h'.1 ∧ h.2.1 ≤ h'.2.1 := by
  intro n
  induction n with
  | zero => intro d m pc ops L S h v h' hr; cases hr
  | succ n ih =>
    intro d m pc ops L S h v h' hr
    cases ops with
    | nil =>
      rw [mj_run] at hr
      split at hr
      · exact ih _ _ _ _ _ _ _ _ _ hr
      · cases hr
    | cons o r =>
      rcases mj_run_inv hr with ⟨-, j, L', S', h1, he, hr⟩ | ⟨-, d', As, S', k, v1, h1, vs, -, -, -, -, -, -, hr1, -, hr⟩ | ⟨-, -, rfl⟩ | ⟨-, d', q, S', -, -, -, hr⟩ | ⟨-, d', x, y, S', -, -, -, hr⟩ | ⟨-, d', x, y, S', -, -, -, hr⟩ | ⟨-, d', x, y, S', -, -, -, hr⟩ | ⟨-, d', p, q, x, y, c, S', -, -, -, hr⟩
      · obtain ⟨a1, a2⟩ := mj_ex_mono he
        obtain ⟨b1, b2⟩ := ih _ _ _ _ _ _ _ _ _ hr
        omega
      · obtain ⟨a1, a2⟩ := ih _ _ _ _ _ _ _ _ _ hr1
        obtain ⟨b1, b2⟩ := ih _ _ _ _ _ _ _ _ _ hr
        omega
      · exact ⟨Nat.le_refl _, Nat.le_refl _⟩
      · exact ih _ _ _ _ _ _ _ _ _ hr
      · exact ih _ _ _ _ _ _ _ _ _ hr
      · exact ih _ _ _ _ _ _ _ _ _ hr
      · exact ih _ _ _ _ _ _ _ _ _ hr
      · have e := ih _ _ _ _ _ _ _ _ _ hr
        exact e
def mj_ov (as : List Nat) : Option Value → Option Value → Prop
  | none, none => True
  | some v, some w => mj_vr as v w
  | _, _ => False
/-- a method's end: its answer, the world behind it -/
def mj_Qc (G : mj_G) (D : va_G) (A : Nat → Prop) (t0 b L0 : Nat) (xs : Nat → Int32) (as0 : List Nat) (v : Option Value) (h' : mj_H) : Array Value → State → Outcome → State → Prop := fun _ st o t =>
  (∃ (w : Option Value) (ws : va_W), o = .returned w ∧ mj_ov (mj_as t0 b ws) v w ∧ va_P D vwCl ws t.heap ∧ va_D A ws ∧ mj_hr G t0 b ws h' ∧ mj_old L0 xs h' ∧ mj_xt as0 (mj_as t0 b ws)) ∧ va_F A st t
section
variable {p : Program} {l : Launch} {e : Env} {R : Room} {s : State} {m : MethodId} {args : Array Value} {below : List Frame} {meth : Method} {c : Code} {Q : State → Prop} {G : mj_G} {D : va_G} {A : Nat → Prop} {t0 b L0 : Nat} {xs : Nat → Int32} {M : mj_M} {ct : mj_T} {d n0 z0 : Nat} {as0 : List Nat}
theorem mj_fin (C0 : mj_Cx p s m args meth c R G D A t0 b L0 xs M ct d) (hret : meth.sig.returnType = M.2.2.2.1) (hlocks : meth.locks = false) {o : mj_O} {pc : Nat} {L S : List Value} {h' : mj_H} {v : Option Value} (hok : mj_okO ct M pc o = true) (hdec : decode M.2.1 pc = .ok (o.1, o.2.1)) (hE : mj_rt o S = some v) :
    mj_K p l e R s m args below meth c (MQ below (mj_Qc G D A t0 b L0 xs as0 v h') args s (h'.1 - n0) (h'.2.1 - z0) A) G D A t0 b L0 xs as0 M.2.2.1 n0 z0 pc L S h' := by
  obtain ⟨i, len, a, k0, t, u, x, y⟩ := o
  obtain ⟨hx, hb, hml, hown, hts, hK, hA, hao, hZ, hT, hX, hnm, hct, hR1, hR2⟩ := C0
  dsimp only at hdec
  intro H locs ls st ws hR g1 g2
  obtain ⟨hP, hD, hS, hh, ho, hl, hv, hn, ha⟩ := hR
  cases i with
  | ireturn =>
    simp only [mj_rt] at hE
    split at hE
    · rename_i w
      obtain ⟨hc, rfl⟩ := mj_ifs hE
      obtain ⟨w1, st1, rfl, e1, hv1⟩ := mj_vs_c hv
      obtain rfl := mj_vr_i e1
      obtain rfl := mj_vs_nil hv1
      simp only [mj_okO, Bool.and_eq_true, Bool.or_eq_true, decide_eq_true_eq] at hok
      obtain ⟨rfl, ⟨rfl, hq⟩ | ⟨rfl, hq⟩⟩ := hok
      · exact W.iret hx hb (by rw [hret, hq]) (fun t ht hW => ⟨⟨_, ws, rfl, rfl, by rw [ht]; exact hP, hD, hh, ho, ha⟩, hS.F ht⟩) hS.2.2 hdec
      · have hn2 : narrow .boolean (.int w) = .int w := by
          rcases hc with z | rfl | rfl
          · exact absurd z (by decide)
          · rfl
          · rfl
        exact W.zret hx hb (by rw [hret, hq]) hn2 (fun t ht hW => ⟨⟨_, ws, rfl, rfl, by rw [ht]; exact hP, hD, hh, ho, ha⟩, hS.F ht⟩) hS.2.2 hdec
    · cases hE
  | lreturn =>
    simp only [mj_rt] at hE
    split at hE
    · rename_i w
      cases hE
      obtain ⟨w1, st1, rfl, e1, hv1⟩ := mj_vs_c hv
      obtain rfl := mj_vr_l e1
      obtain rfl := mj_vs_nil hv1
      simp only [mj_okO, Bool.and_eq_true, Bool.or_eq_true, decide_eq_true_eq] at hok
      obtain ⟨rfl, hq⟩ := hok
      exact W.lret hx hb (by rw [hret, hq]) (fun t ht hW => ⟨⟨_, ws, rfl, rfl, by rw [ht]; exact hP, hD, hh, ho, ha⟩, hS.F ht⟩) hS.2.2 hdec
    · cases hE
  | areturn =>
    simp only [mj_okO, Bool.and_eq_true, decide_eq_true_eq] at hok
    obtain ⟨rfl, hq⟩ := hok
    split at hq
    · rename_i nm hq2
      simp only [mj_rt] at hE
      split at hE
      · rename_i w
        cases hE
        obtain ⟨w1, st1, rfl, e1, hv1⟩ := mj_vs_c hv
        have e2 := e1
        obtain ⟨q, e3, rfl⟩ := mj_vr_r e1
        obtain rfl := mj_vs_nil hv1
        exact W.aret hx hb (by rw [hret, hq2]) (Or.inl ⟨nm, rfl⟩) (Or.inr ⟨q, rfl⟩) (fun t ht hW => ⟨⟨_, ws, rfl, e2, by rw [ht]; exact hP, hD, hh, ho, ha⟩, hS.F ht⟩) hS.2.2 hdec
      · cases hE
        obtain ⟨w1, st1, rfl, e1, hv1⟩ := mj_vs_c hv
        obtain rfl := mj_vr_n e1
        obtain rfl := mj_vs_nil hv1
        exact W.aret hx hb (by rw [hret, hq2]) (Or.inl ⟨nm, rfl⟩) (Or.inl rfl) (fun t ht hW => ⟨⟨_, ws, rfl, rfl, by rw [ht]; exact hP, hD, hh, ho, ha⟩, hS.F ht⟩) hS.2.2 hdec
      · cases hE
    · cases hq
  | return_ =>
    simp only [mj_rt] at hE
    split at hE
    · cases hE
      obtain rfl := mj_vs_nil hv
      simp only [mj_okO, Bool.and_eq_true, Bool.or_eq_true, decide_eq_true_eq] at hok
      obtain ⟨rfl, hq⟩ := hok
      exact W.vret hx hb (by rw [hret, hq]) (fun t ht hW => ⟨⟨_, ws, rfl, trivial, by rw [ht]; exact hP, hD, hh, ho, ha⟩, hS.F ht⟩) hS.2.2 hdec
    · cases hE
  | _ => simp [mj_rt] at hE
theorem mj_back {H : Heap} {locs : List Loc} {cells slots mc ms pc : Nat} {ls : Array Slot} {st0 rest : List Value} {Qa : State → Outcome → State → Prop} {free : Addr → Prop} (hr : va_Run p l e R s m args below meth c H locs cells slots mc ms (F0 m pc ls st0) rest Qa free)
    (kk : ∀ (w : Option Value) (st t : State) (H1 : Heap) (L : List Loc), st.heap = H → t.heap = H1 → s.vm.Alike t.vm → (∀ q ∈ L, free q.base) → Qa st (.returned w) t → W p l e R s m args below meth c H1 (locs ++ L) (cells + mc) (slots + ms) Q (F0 m (pc + 3) ls (w.toList ++ rest))) : W p l e R s m args below meth c H locs cells slots Q (F0 m pc ls st0) := by
  intro T hT X
  obtain ⟨v, st₀, t, T', L, h0, X', hL, e1, e2, hq, st⟩ := hr T hT X
  obtain ⟨t2, a1, b1⟩ := kk v st₀ t T'.heap L h0 e1.symm (by rw [← e2]; exact X'.warmed.alike) hL hq T' rfl X'
  exact ⟨t2, st t2 a1, b1⟩
end
