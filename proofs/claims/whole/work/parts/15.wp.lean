/-! WEAKEST PRECONDITIONS over the mini machine -/
theorem mj_run_of {n d m pc : Nat} {o : mj_O} {r : List mj_O} {L S : List Value} {h : mj_H} {v : Option Value} {h' : mj_H} (hs : mj_stp n d m pc o r L S h v h') : mj_run (n + 1) d m pc (o :: r) L S h = some (v, h') := by
  rw [mj_run.eq_def]
  dsimp only
  rcases hs with ⟨hk, j, L', S', h1, he, hr⟩ | ⟨hk, d', As, S', k, v1, h1, vs, rfl, hp, h4, hrb, hmx, hew, hr1, hps, hr⟩ | ⟨hk, hrt, rfl⟩ | ⟨hk, d', q1, S', rfl, rfl, h4, hr⟩ | ⟨hk, d', x, y, S', rfl, rfl, h4, hr⟩ | ⟨hk, d', x, y, S', rfl, rfl, h4, hr⟩ | ⟨hk, d', x, y, S', rfl, rfl, h4, hr⟩ | ⟨⟨k0, k1, k2, k3, k5, k6, k7⟩, d', p1, q1, x, y, c1, S', rfl, rfl, hc, hr⟩
  · simp only [hk, he]
    cases j with
    | none => exact hr
    | some tg => exact hr
  · simp only [hk, hp, h4, hrb, hmx, hew, hr1, hps, hr, Bool.and_self, if_true]
  · simp only [hk, hrt]
  · simp only [hk, h4, hr, if_true]
  · simp only [hk, h4, if_true]; exact hr
  · simp only [hk, h4, if_true]; exact hr
  · simp only [hk, h4, if_true]; exact hr
  · split
    · exact absurd (by assumption) k0
    · exact absurd (by assumption) k1
    · exact absurd (by assumption) k2
    · exact absurd (by assumption) k3
    · exact absurd (by assumption) k5
    · exact absurd (by assumption) k6
    · exact absurd (by assumption) k7
    · dsimp only; rw [if_pos hc]; exact hr
theorem mj_run_fuel : ∀ (n d m pc : Nat) (ops : List mj_O) (L S : List Value) (h : mj_H) (v : Option Value) (h' : mj_H), mj_run n d m pc ops L S h = some (v, h') → mj_run (n + 1) d m pc ops L S h = some (v, h') := by
  intro n
  induction n with
  | zero => intro d m pc ops L S h v h' hr; cases hr
  | succ n ih =>
    intro d m pc ops L S h v h' hr
    cases ops with
    | nil =>
      rw [mj_run] at hr ⊢
      split at hr
      · rename_i B hB
        exact ih _ _ _ _ _ _ _ _ _ hr
      · cases hr
    | cons o r =>
      apply mj_run_of
      rcases mj_run_inv hr with ⟨hk, j, L', S', h1, he, hr⟩ | ⟨hk, d', As, S', k, v1, h1, vs, rfl, hp, h4, hrb, hmx, hew, hr1, hps, hr⟩ | ⟨hk, hrt, rfl⟩ | ⟨hk, d', q1, S', rfl, rfl, h4, hr⟩ | ⟨hk, d', x, y, S', rfl, rfl, h4, hr⟩ | ⟨hk, d', x, y, S', rfl, rfl, h4, hr⟩ | ⟨hk, d', x, y, S', rfl, rfl, h4, hr⟩ | ⟨hk, d', p1, q1, x, y, c1, S', rfl, rfl, hc, hr⟩
      · exact Or.inl ⟨hk, j, L', S', h1, he, ih _ _ _ _ _ _ _ _ _ hr⟩
      · exact Or.inr (Or.inl ⟨hk, d', As, S', k, v1, h1, vs, rfl, hp, h4, hrb, hmx, hew, ih _ _ _ _ _ _ _ _ _ hr1, hps, ih _ _ _ _ _ _ _ _ _ hr⟩)
      · exact Or.inr (Or.inr (Or.inl ⟨hk, hrt, rfl⟩))
      · exact Or.inr (Or.inr (Or.inr (Or.inl ⟨hk, d', q1, S', rfl, rfl, h4, ih _ _ _ _ _ _ _ _ _ hr⟩)))
      · exact Or.inr (Or.inr (Or.inr (Or.inr (Or.inl ⟨hk, d', x, y, S', rfl, rfl, h4, ih _ _ _ _ _ _ _ _ _ hr⟩))))
      · exact Or.inr (Or.inr (Or.inr (Or.inr (Or.inr (Or.inl ⟨hk, d', x, y, S', rfl, rfl, h4, ih _ _ _ _ _ _ _ _ _ hr⟩)))))
      · exact Or.inr (Or.inr (Or.inr (Or.inr (Or.inr (Or.inr (Or.inl ⟨hk, d', x, y, S', rfl, rfl, h4, ih _ _ _ _ _ _ _ _ _ hr⟩))))))
      · exact Or.inr (Or.inr (Or.inr (Or.inr (Or.inr (Or.inr (Or.inr ⟨hk, d', p1, q1, x, y, c1, S', rfl, rfl, hc, ih _ _ _ _ _ _ _ _ _ hr⟩))))))
theorem mj_run_more {n d m pc : Nat} {ops : List mj_O} {L S : List Value} {h : mj_H} {v : Option Value} {h' : mj_H} (hr : mj_run n d m pc ops L S h = some (v, h')) : ∀ k, mj_run (n + k) d m pc ops L S h = some (v, h')
  | 0 => hr
  | k + 1 => mj_run_fuel _ _ _ _ _ _ _ _ _ _ (mj_run_more hr k)
def mj_XB (d m pc : Nat) (ops : List mj_O) (L S : List Value) (h : mj_H) (Q : Option Value → mj_H → Prop) : Prop := ∃ n v h', mj_run n d m pc ops L S h = some (v, h') ∧ Q v h'
def mj_X (d m pc : Nat) (L S : List Value) (h : mj_H) (Q : Option Value → mj_H → Prop) : Prop := mj_XB d m pc [] L S h Q
/-- a call of method a -/
def mj_C (d a : Nat) (As : List Value) (h : mj_H) (Q : Option Value → mj_H → Prop) : Prop := ∃ k, mj_mx a = some k ∧ mj_ew As k = true ∧ mj_X d a 0 (mj_en As k) [] h Q
theorem mj_X.mono {d m pc : Nat} {L S : List Value} {h : mj_H} {Q Q' : Option Value → mj_H → Prop} (hx : mj_X d m pc L S h Q) (hq : ∀ v h', Q v h' → Q' v h') : mj_X d m pc L S h Q' := by
  obtain ⟨n, v, h', h1, h2⟩ := hx
  exact ⟨n, v, h', h1, hq v h' h2⟩
theorem mj_C.mono {d a : Nat} {As : List Value} {h : mj_H} {Q Q' : Option Value → mj_H → Prop} (hx : mj_C d a As h Q) (hq : ∀ v h', Q v h' → Q' v h') : mj_C d a As h Q' := by
  obtain ⟨k, h1, h2, h3⟩ := hx
  exact ⟨k, h1, h2, h3.mono hq⟩
theorem mj_C_of {d a : Nat} {As : List Value} {h : mj_H} {Q : Option Value → mj_H → Prop} (k : Nat) (h1 : mj_mx a = some k) (h2 : mj_ew As k = true) (h3 : mj_X d a 0 (mj_en As k) [] h Q) : mj_C d a As h Q := ⟨k, h1, h2, h3⟩
theorem mj_XB_st {d m pc : Nat} {o : mj_O} {r : List mj_O} {L S : List Value} {h : mj_H} {Q : Option Value → mj_H → Prop} {pc1 : Nat} {ops1 : List mj_O} {L1 S1 : List Value} {h1 : mj_H} (v : ∀ n v h', mj_run n d m pc1 ops1 L1 S1 h1 = some (v, h') → mj_stp n d m pc o r L S h v h') (hx : mj_XB d m pc1 ops1 L1 S1 h1 Q) : mj_XB d m pc (o :: r) L S h Q := by
  obtain ⟨n, v1, h', hr, hq⟩ := hx
  exact ⟨n + 1, v1, h', mj_run_of (v n v1 h' hr), hq⟩
theorem mj_XB_ex {d m pc : Nat} {o : mj_O} {r : List mj_O} {L S L' S' : List Value} {h h1 : mj_H} {Q : Option Value → mj_H → Prop} (hk : mj_kd o = 0) (he : mj_ex o pc L S h = some (none, L', S', h1)) (hx : mj_XB d m (pc + o.2.1) r L' S' h1 Q) : mj_XB d m pc (o :: r) L S h Q :=
  mj_XB_st (fun n v h' hr => Or.inl ⟨hk, none, L', S', h1, he, hr⟩) hx
theorem mj_XB_go {d m pc tg : Nat} {o : mj_O} {r : List mj_O} {L S L' S' : List Value} {h h1 : mj_H} {Q : Option Value → mj_H → Prop} (hk : mj_kd o = 0) (he : mj_ex o pc L S h = some (some tg, L', S', h1)) (hx : mj_X d m tg L' S' h1 Q) : mj_XB d m pc (o :: r) L S h Q :=
  mj_XB_st (fun n v h' hr => Or.inl ⟨hk, some tg, L', S', h1, he, hr⟩) hx
theorem mj_X_blk {d m pc : Nat} {B : List mj_O} {L S : List Value} {h : mj_H} {Q : Option Value → mj_H → Prop} (hB : mj_blk m pc = some B) (hx : mj_XB d m pc B L S h Q) : mj_X d m pc L S h Q := by
  obtain ⟨n, v, h', hr, hq⟩ := hx
  refine ⟨n + 1, v, h', ?_, hq⟩
  rw [mj_run, hB]
  exact hr
/-! what is on the stack, in a local -/
def mj_pI (S : List Value) (k : Int32 → List Value → Prop) : Prop := match S with
  | .int v :: S' => k v S'
  | _ => False
def mj_pJ (S : List Value) (k : Int64 → List Value → Prop) : Prop := match S with
  | .long v :: S' => k v S'
  | _ => False
def mj_pR (S : List Value) (k : Nat → List Value → Prop) : Prop := match S with
  | .ref v :: S' => k v S'
  | _ => False
def mj_pA (S : List Value) (k : Value → List Value → Prop) : Prop := match S with
  | .ref v :: S' => k (.ref v) S'
  | .null :: S' => k .null S'
  | _ => False
def mj_pD (S : List Value) (k : Value → List Value → Prop) : Prop := match S with
  | .int v :: S' => k (.int v) S'
  | .ref v :: S' => k (.ref v) S'
  | _ => False
def mj_pN (S : List Value) (k1 k2 : List Value → Prop) : Prop := match S with
  | .ref _ :: S' => k1 S'
  | .null :: S' => k2 S'
  | _ => False
def mj_pII (S : List Value) (k : Int32 → Int32 → List Value → Prop) : Prop := match S with
  | .int w :: .int v :: S' => k v w S'
  | _ => False
def mj_pJJ (S : List Value) (k : Int64 → Int64 → List Value → Prop) : Prop := match S with
  | .long w :: .long v :: S' => k v w S'
  | _ => False
def mj_pIJ (S : List Value) (k : Int64 → Int32 → List Value → Prop) : Prop := match S with
  | .int w :: .long v :: S' => k v w S'
  | _ => False
def mj_pIR (S : List Value) (k : Int32 → Nat → List Value → Prop) : Prop := match S with
  | .int v :: .ref r :: S' => k v r S'
  | _ => False
def mj_pIIR (S : List Value) (k : Int32 → Int32 → Nat → List Value → Prop) : Prop := match S with
  | .int w :: .int v :: .ref r :: S' => k w v r S'
  | _ => False
def mj_pJIR (S : List Value) (k : Int64 → Int32 → Nat → List Value → Prop) : Prop := match S with
  | .long w :: .int v :: .ref r :: S' => k w v r S'
  | _ => False
def mj_pRIR (S : List Value) (k : Nat → Int32 → Nat → List Value → Prop) : Prop := match S with
  | .ref q :: .int v :: .ref r :: S' => k q v r S'
  | _ => False
def mj_pF (S : List Value) (t : Nat) (k1 : Int32 → Nat → List Value → Prop) (k2 : Int64 → Nat → List Value → Prop) (k3 : Nat → Nat → List Value → Prop) : Prop := match S with
  | .int v :: .ref r :: S' => k1 v r S'
  | .long v :: .ref r :: S' => t = 1 ∧ k2 v r S'
  | .ref v :: .ref r :: S' => t = 2 ∧ k3 v r S'
  | _ => False
def mj_pC (S : List Value) (k : Int32 → Int32 → Nat → Int32 → Nat → List Value → Prop) : Prop := match S with
  | .int c :: .int w :: .ref q :: .int v :: .ref p :: S' => k c w q v p S'
  | _ => False
def mj_lI (v : Value) (k : Int32 → Prop) : Prop := match v with
  | .int x => k x
  | _ => False
def mj_lJ (v : Value) (k : Int64 → Prop) : Prop := match v with
  | .long x => k x
  | _ => False
def mj_lA (v : Value) (k : Value → Prop) : Prop := match v with
  | .ref x => k (.ref x)
  | .null => k .null
  | _ => False
def mj_rI (S : List Value) (k : Int32 → Prop) : Prop := match S with
  | [.int v] => k v
  | _ => False
def mj_rJ (S : List Value) (k : Int64 → Prop) : Prop := match S with
  | [.long v] => k v
  | _ => False
def mj_rA (S : List Value) (k : Value → Prop) : Prop := match S with
  | [.ref v] => k (.ref v)
  | [.null] => k .null
  | _ => False
def mj_rV (S : List Value) (k : Prop) : Prop := match S with
  | [] => k
  | _ => False
def mj_pn : Nat → List Value → List Value → (List Value → List Value → Prop) → Prop
  | 0, As, S, k => k As S
  | _ + 1, _, [], _ => False
  | n + 1, As, v :: S, k => mj_pn n (v :: As) S k
def mj_dn (d : Nat) (k : Nat → Prop) : Prop := match d with
  | 0 => False
  | d + 1 => k d
def mj_wr (t : Nat) (v : Option Value) (k : List Value → Prop) : Prop := match t with
  | 0 => v = none ∧ k []
  | 1 => ∃ x, v = some (.int x) ∧ k [.int x]
  | 2 => ∃ x, v = some (.long x) ∧ k [.long x]
  | 3 => ∃ x, v = some (va_rf x) ∧ k [va_rf x]
  | _ => False
def mj_wt (t : Nat) (k k5 k6 k7 k9 : Prop) : Prop := match t with
  | 5 => k5
  | 6 => k6
  | 7 => k7
  | 9 => k9
  | t => t < 5 ∧ k
def mj_ws (t : Nat) (k k8 : Prop) : Prop := match t with
  | 8 => k8
  | t => t ≠ 8 ∧ k
def mj_iu (v w : Int32) : Int32 := (v.toUInt32 >>> (w.toUInt32 &&& Int32.toUInt32 31)).toInt32
def mj_js (v : Int64) (w : Int32) : Int64 := v <<< (w.toInt64 &&& 63)
def mj_ju (v : Int64) (w : Int32) : Int64 := (v.toUInt64 >>> (w.toInt64.toUInt64 &&& Int64.toUInt64 63)).toInt64
theorem mj_bz_iff (c : ClassFile.Cond) (x : Int32) : mj_bz c x = true ↔ mj_cz c x := by
  cases c <;> simp only [mj_bz, mj_cz, decide_eq_true_eq]
theorem mj_bc_iff (c : ClassFile.Cond) (x y : Int32) : mj_bc c x y = true ↔ mj_cc c x y := by
  cases c <;> simp only [mj_bc, mj_cc, decide_eq_true_eq]
theorem mj_pn_spec : ∀ {n : Nat} {As S : List Value} {k : List Value → List Value → Prop}, mj_pn n As S k → ∃ As' S', mj_pop n As S = some (As', S') ∧ k As' S'
  | 0, As, S, k, h => ⟨As, S, rfl, h⟩
  | n + 1, As, [], k, h => h.elim
  | n + 1, As, v :: S, k, h => mj_pn_spec (n := n) (As := v :: As) (S := S) h
theorem mj_rc_rb {h : mj_H} {u : Nat} {As : List Value} (hc : mj_rc h u As) : mj_rb h u As = true := by
  match u, As, hc with
  | 0, _, _ => rfl
  | 1, .ref r :: _, _ => rfl
  | u + 2, .ref r :: _, hc => exact decide_eq_true (show (mj_k h r).1 = u + 2 from hc)
  | 1, [], hc => exact (show False from hc).elim
  | u + 2, [], hc => exact (show False from hc).elim
  | 1, .int _ :: _, hc => exact (show False from hc).elim
  | u + 2, .int _ :: _, hc => exact (show False from hc).elim
  | 1, .long _ :: _, hc => exact (show False from hc).elim
  | u + 2, .long _ :: _, hc => exact (show False from hc).elim
  | 1, .float _ :: _, hc => exact (show False from hc).elim
  | u + 2, .float _ :: _, hc => exact (show False from hc).elim
  | 1, .double _ :: _, hc => exact (show False from hc).elim
  | u + 2, .double _ :: _, hc => exact (show False from hc).elim
  | 1, .null :: _, hc => exact (show False from hc).elim
  | u + 2, .null :: _, hc => exact (show False from hc).elim
  | 1, .retAddr _ :: _, hc => exact (show False from hc).elim
  | u + 2, .retAddr _ :: _, hc => exact (show False from hc).elim
theorem mj_wr_spec {t : Nat} {v : Option Value} {k : List Value → Prop} (h : mj_wr t v k) : ∃ vs, mj_push t v = some vs ∧ k vs := by
  unfold mj_wr at h
  split at h
  · obtain ⟨rfl, h⟩ := h; exact ⟨[], rfl, h⟩
  · obtain ⟨x, rfl, h⟩ := h; exact ⟨_, rfl, h⟩
  · obtain ⟨x, rfl, h⟩ := h; exact ⟨_, rfl, h⟩
  · obtain ⟨x, rfl, h⟩ := h
    cases x with
    | none => exact ⟨_, rfl, h⟩
    | some a => exact ⟨_, rfl, h⟩
  · exact h.elim
theorem mj_XB_call {d m pc : Nat} {i : Instr} {len a b t u : Nat} {x : Int32} {y : Int64} {r : List mj_O} {L S : List Value} {h : mj_H} {Q : Option Value → mj_H → Prop} {W : List Value → List Value → mj_H → Prop} (hk : mj_kd (i, len, a, b, t, u, x, y) = 1)
    (hw : mj_pn b [] S fun As S1 => mj_ok4 S1 = true ∧ mj_rc h u As ∧ mj_dn d fun d1 => mj_C d1 a As h fun v1 h1 => mj_wr t v1 fun vs => W vs S1 h1) (hW : ∀ vs S1 h1, W vs S1 h1 → mj_XB d m (pc + 3) r L (vs ++ S1) h1 Q) : mj_XB d m pc ((i, len, a, b, t, u, x, y) :: r) L S h Q := by
  obtain ⟨As, S1, hp, h4, hrc, hd⟩ := mj_pn_spec hw
  cases d with
  | zero => exact hd.elim
  | succ d =>
    obtain ⟨k, hmx, hew, n1, v1, h1, hr1, hwr⟩ := hd
    obtain ⟨vs, hps, hw2⟩ := mj_wr_spec hwr
    obtain ⟨n2, v2, h2, hr2, hq⟩ := hW vs S1 h1 hw2
    refine ⟨n1 + n2 + 1, v2, h2, mj_run_of (Or.inr (Or.inl ⟨hk, d, As, S1, k, v1, h1, vs, rfl, hp, h4, mj_rc_rb hrc, hmx, hew, mj_run_more hr1 n2, hps, ?_⟩)), hq⟩
    rw [Nat.add_comm n1 n2]
    exact mj_run_more hr2 n1

def mj_wp : List mj_O → Nat → Nat → Nat → List Value → List Value → mj_H → (Option Value → mj_H → Prop) → Prop
  | [], d, m, pc, L, S, h, Q => mj_X d m pc L S h Q
  | (i, len, a, b, t, u, x, y) :: r, d, m, pc, L, S, h, Q => match i with
    | .iconst _ => mj_wp r d m (pc + len) L (.int x :: S) h Q
    | .bipush _ => mj_wp r d m (pc + len) L (.int x :: S) h Q
    | .sipush _ => mj_wp r d m (pc + len) L (.int x :: S) h Q
    | .ldc _ => mj_wp r d m (pc + len) L (.int x :: S) h Q
    | .ldc_w _ => mj_wp r d m (pc + len) L (.int x :: S) h Q
    | .lconst _ => mj_wp r d m (pc + len) L (.long y :: S) h Q
    | .ldc2_w _ => mj_wp r d m (pc + len) L (.long y :: S) h Q
    | .aconst_null => mj_wp r d m (pc + len) L (.null :: S) h Q
    | .iload _ => mj_lI (mj_ld L a) fun v => mj_wp r d m (pc + len) L (.int v :: S) h Q
    | .iload_n _ => mj_lI (mj_ld L a) fun v => mj_wp r d m (pc + len) L (.int v :: S) h Q
    | .lload _ => mj_lJ (mj_ld L a) fun v => mj_wp r d m (pc + len) L (.long v :: S) h Q
    | .lload_n _ => mj_lJ (mj_ld L a) fun v => mj_wp r d m (pc + len) L (.long v :: S) h Q
    | .aload _ => mj_lA (mj_ld L a) fun v => mj_wp r d m (pc + len) L (v :: S) h Q
    | .aload_n _ => mj_lA (mj_ld L a) fun v => mj_wp r d m (pc + len) L (v :: S) h Q
    | .istore _ => mj_pI S fun v S1 => mj_wp r d m (pc + len) (mj_st1 L a (.int v)) S1 h Q
    | .istore_n _ => mj_pI S fun v S1 => mj_wp r d m (pc + len) (mj_st1 L a (.int v)) S1 h Q
    | .lstore _ => mj_pJ S fun v S1 => mj_wp r d m (pc + len) (mj_st2 L a (.long v)) S1 h Q
    | .lstore_n _ => mj_pJ S fun v S1 => mj_wp r d m (pc + len) (mj_st2 L a (.long v)) S1 h Q
    | .astore _ => mj_pA S fun v S1 => mj_wp r d m (pc + len) (mj_st1 L a v) S1 h Q
    | .astore_n _ => mj_pA S fun v S1 => mj_wp r d m (pc + len) (mj_st1 L a v) S1 h Q
    | .iinc _ _ => mj_lI (mj_ld L a) fun v => mj_wp r d m (pc + len) (mj_st1 L a (.int (v + x))) S h Q
    | .iadd => mj_pII S fun v w S1 => mj_wp r d m (pc + len) L (.int (v + w) :: S1) h Q
    | .isub => mj_pII S fun v w S1 => mj_wp r d m (pc + len) L (.int (v - w) :: S1) h Q
    | .imul => mj_pII S fun v w S1 => mj_wp r d m (pc + len) L (.int (v * w) :: S1) h Q
    | .iand => mj_pII S fun v w S1 => mj_wp r d m (pc + len) L (.int (v &&& w) :: S1) h Q
    | .ior => mj_pII S fun v w S1 => mj_wp r d m (pc + len) L (.int (v ||| w) :: S1) h Q
    | .ixor => mj_pII S fun v w S1 => mj_wp r d m (pc + len) L (.int (v ^^^ w) :: S1) h Q
    | .ishl => mj_pII S fun v w S1 => mj_wp r d m (pc + len) L (.int (v <<< (w &&& 31)) :: S1) h Q
    | .ishr => mj_pII S fun v w S1 => mj_wp r d m (pc + len) L (.int (v >>> (w &&& 31)) :: S1) h Q
    | .iushr => mj_pII S fun v w S1 => mj_wp r d m (pc + len) L (.int (mj_iu v w) :: S1) h Q
    | .idiv => mj_pII S fun v w S1 => ¬ w = 0 ∧ mj_wp r d m (pc + len) L (.int (v / w) :: S1) h Q
    | .irem => mj_pII S fun v w S1 => ¬ w = 0 ∧ mj_wp r d m (pc + len) L (.int (v - v / w * w) :: S1) h Q
    | .ineg => mj_pI S fun v S1 => mj_wp r d m (pc + len) L (.int (-v) :: S1) h Q
    | .ladd => mj_pJJ S fun v w S1 => mj_wp r d m (pc + len) L (.long (v + w) :: S1) h Q
    | .lsub => mj_pJJ S fun v w S1 => mj_wp r d m (pc + len) L (.long (v - w) :: S1) h Q
    | .land => mj_pJJ S fun v w S1 => mj_wp r d m (pc + len) L (.long (v &&& w) :: S1) h Q
    | .lor => mj_pJJ S fun v w S1 => mj_wp r d m (pc + len) L (.long (v ||| w) :: S1) h Q
    | .lxor => mj_pJJ S fun v w S1 => mj_wp r d m (pc + len) L (.long (v ^^^ w) :: S1) h Q
    | .lcmp => mj_pJJ S fun v w S1 => mj_wp r d m (pc + len) L (.int (lg_cmp v w) :: S1) h Q
    | .lneg => mj_pJ S fun v S1 => mj_wp r d m (pc + len) L (.long (-v) :: S1) h Q
    | .lshl => mj_pIJ S fun v w S1 => mj_wp r d m (pc + len) L (.long (mj_js v w) :: S1) h Q
    | .lushr => mj_pIJ S fun v w S1 => mj_wp r d m (pc + len) L (.long (mj_ju v w) :: S1) h Q
    | .i2l => mj_pI S fun v S1 => mj_wp r d m (pc + len) L (.long v.toInt64 :: S1) h Q
    | .l2i => mj_pJ S fun v S1 => mj_wp r d m (pc + len) L (.int v.toInt32 :: S1) h Q
    | .dup => mj_pD S fun v S1 => mj_wp r d m (pc + len) L (v :: v :: S1) h Q
    | .dup2 => mj_pIR S fun v r1 S1 => mj_wp r d m (pc + len) L (.int v :: .ref r1 :: .int v :: .ref r1 :: S1) h Q
    | .pop => mj_pI S fun _ S1 => mj_wp r d m (pc + len) L S1 h Q
    | .goto _ => mj_X d m a L S h Q
    | .ifCond c _ => mj_pI S fun v S1 => (mj_cz c v → mj_X d m a L S1 h Q) ∧ (¬ mj_cz c v → mj_wp r d m (pc + len) L S1 h Q)
    | .if_icmp c _ => mj_pII S fun v w S1 => (mj_cc c v w → mj_X d m a L S1 h Q) ∧ (¬ mj_cc c v w → mj_wp r d m (pc + len) L S1 h Q)
    | .ifnonnull _ => mj_pN S (fun S1 => mj_X d m a L S1 h Q) (fun S1 => mj_wp r d m (pc + len) L S1 h Q)
    | .tableswitch dflt lo hi offs => mj_pI S fun v S1 => mj_X d m (mj_sw pc dflt lo hi offs v) L S1 h Q
    | .getstatic _ => mj_wp r d m (pc + len) L (.ref 0 :: S) h Q
    | .getfield _ => mj_pR S fun r1 S1 => (mj_k h r1).1 = a + 3 ∧ mj_wp r d m (pc + len) L (mj_gv h t r1 b :: S1) h Q
    | .putfield _ => mj_pF S t (fun v r1 S1 => (mj_k h r1).1 = a + 3 ∧ (t = 0 ∨ (t = 3 ∧ (v = 0 ∨ v = 1))) ∧ mj_wp r d m (pc + len) L S1 (mj_sI h r1 b v) Q) (fun v r1 S1 => (mj_k h r1).1 = a + 3 ∧ mj_wp r d m (pc + len) L S1 (mj_sJ h r1 b v) Q) (fun v r1 S1 => (mj_k h r1).1 = a + 3 ∧ mj_wp r d m (pc + len) L S1 (mj_sR h r1 b (some v)) Q)
    | .iaload => mj_pIR S fun v r1 S1 => (mj_k h r1).1 = 0 ∧ vp_in v (mj_k h r1).2 ∧ mj_wp r d m (pc + len) L (.int (mj_gI h r1 v.toNatClampNeg) :: S1) h Q
    | .laload => mj_pIR S fun v r1 S1 => (mj_k h r1).1 = 1 ∧ vp_in v (mj_k h r1).2 ∧ mj_wp r d m (pc + len) L (.long (mj_gJ h r1 v.toNatClampNeg) :: S1) h Q
    | .aaload => mj_pIR S fun v r1 S1 => (mj_k h r1).1 = 2 ∧ vp_in v (mj_k h r1).2 ∧ mj_wp r d m (pc + len) L (va_rf (mj_gR h r1 v.toNatClampNeg) :: S1) h Q
    | .iastore => mj_pIIR S fun w v r1 S1 => (mj_k h r1).1 = 0 ∧ 2 ≤ r1 ∧ vp_in v (mj_k h r1).2 ∧ mj_wp r d m (pc + len) L S1 (mj_sI h r1 v.toNatClampNeg w) Q
    | .lastore => mj_pJIR S fun w v r1 S1 => (mj_k h r1).1 = 1 ∧ vp_in v (mj_k h r1).2 ∧ mj_wp r d m (pc + len) L S1 (mj_sJ h r1 v.toNatClampNeg w) Q
    | .aastore => mj_pRIR S fun q v r1 S1 => (mj_k h r1).1 = 2 ∧ (mj_k h q).1 = 3 ∧ vp_in v (mj_k h r1).2 ∧ mj_wp r d m (pc + len) L S1 (mj_sR h r1 v.toNatClampNeg (some q)) Q
    | .arraylength => mj_pR S fun r1 S1 => (mj_k h r1).1 < 3 ∧ mj_wp r d m (pc + len) L (.int (Int32.ofNat (mj_k h r1).2) :: S1) h Q
    | .newarray ty => mj_pI S fun v S1 => ¬ v < 0 ∧ v.toNatClampNeg ≤ 1000000 ∧ (ty = .int ∨ ty = .long) ∧ mj_wp r d m (pc + len) L (.ref h.1 :: S1) (mj_new h (if ty = .int then 0 else 1) v.toNatClampNeg) Q
    | .anewarray _ => mj_pI S fun v S1 => ¬ v < 0 ∧ v.toNatClampNeg ≤ 1000000 ∧ mj_wp r d m (pc + len) L (.ref h.1 :: S1) (mj_new h 2 v.toNatClampNeg) Q
    | .new _ => mj_wp r d m (pc + len) L (.ref h.1 :: S) (mj_new h (a + 3) b) Q
    | .invokevirtual _ => mj_pn b [] S fun As S1 => mj_ok4 S1 = true ∧ mj_rc h u As ∧ mj_dn d fun d1 => mj_C d1 a As h fun v1 h1 => mj_wr t v1 fun vs => mj_wp r d m (pc + 3) L (vs ++ S1) h1 Q
    | .invokestatic _ => mj_wt t (mj_pn b [] S fun As S1 => mj_ok4 S1 = true ∧ mj_rc h u As ∧ mj_dn d fun d1 => mj_C d1 a As h fun v1 h1 => mj_wr t v1 fun vs => mj_wp r d m (pc + 3) L (vs ++ S1) h1 Q) (mj_pII S fun v w S1 => mj_ok4 S1 = true ∧ mj_dn d fun _ => mj_wp r d m (pc + 3) L (.int (if v < w then w else v) :: S1) h Q) (mj_pII S fun v w S1 => mj_ok4 S1 = true ∧ mj_dn d fun _ => mj_wp r d m (pc + 3) L (.int (if w < v then w else v) :: S1) h Q) (mj_pJJ S fun v w S1 => mj_ok4 S1 = true ∧ mj_dn d fun _ => mj_wp r d m (pc + 3) L (.long (if w < v then w else v) :: S1) h Q) (mj_pC S fun c w q v p S1 => mj_ok4 S1 = true ∧ (mj_dn d fun _ => True) ∧ (mj_k h p).1 = 0 ∧ (mj_k h q).1 = 0 ∧ 2 ≤ p ∧ 2 ≤ q ∧ ¬ v < 0 ∧ ¬ w < 0 ∧ ¬ c < 0 ∧ v.toNatClampNeg + c.toNatClampNeg ≤ (mj_k h p).2 ∧ w.toNatClampNeg + c.toNatClampNeg ≤ (mj_k h q).2 ∧ mj_wp r d m (pc + 3) L S1 (mj_cp h p q v.toNatClampNeg w.toNatClampNeg c.toNatClampNeg) Q)
    | .invokespecial _ => mj_ws t (mj_pn b [] S fun As S1 => mj_ok4 S1 = true ∧ mj_rc h u As ∧ mj_dn d fun d1 => mj_C d1 a As h fun v1 h1 => mj_wr t v1 fun vs => mj_wp r d m (pc + 3) L (vs ++ S1) h1 Q) (mj_pR S fun _ S1 => mj_ok4 S1 = true ∧ mj_dn d fun _ => mj_wp r d m (pc + 3) L S1 h Q)
    | .ireturn => mj_rI S fun v => (t = 0 ∨ v = 0 ∨ v = 1) ∧ Q (some (.int v)) h
    | .lreturn => mj_rJ S fun v => Q (some (.long v)) h
    | .areturn => mj_rA S fun v => Q (some v) h
    | .return_ => mj_rV S (Q none h)
    | _ => False
set_option maxHeartbeats 4000000 in
theorem mj_wp_ok : ∀ (ops : List mj_O) (d m pc : Nat) (L S : List Value) (h : mj_H) (Q : Option Value → mj_H → Prop), mj_wp ops d m pc L S h Q → mj_XB d m pc ops L S h Q := by
  intro ops
  induction ops with
  | nil => intro d m pc L S h Q hw; exact hw
  | cons o r ih =>
    intro d m pc L S h Q hw
    obtain ⟨i, len, a, b, t, u, x, y⟩ := o
    cases i with
    | iconst k1 =>
      replace hw : mj_wp r d m (pc + len) L (.int x :: S) h Q := hw
      exact mj_XB_ex rfl rfl (ih _ _ _ _ _ _ _ hw)
    | bipush k1 =>
      replace hw : mj_wp r d m (pc + len) L (.int x :: S) h Q := hw
      exact mj_XB_ex rfl rfl (ih _ _ _ _ _ _ _ hw)
    | sipush k1 =>
      replace hw : mj_wp r d m (pc + len) L (.int x :: S) h Q := hw
      exact mj_XB_ex rfl rfl (ih _ _ _ _ _ _ _ hw)
    | ldc k1 =>
      replace hw : mj_wp r d m (pc + len) L (.int x :: S) h Q := hw
      exact mj_XB_ex rfl rfl (ih _ _ _ _ _ _ _ hw)
    | ldc_w k1 =>
      replace hw : mj_wp r d m (pc + len) L (.int x :: S) h Q := hw
      exact mj_XB_ex rfl rfl (ih _ _ _ _ _ _ _ hw)
    | lconst k1 =>
      replace hw : mj_wp r d m (pc + len) L (.long y :: S) h Q := hw
      exact mj_XB_ex rfl rfl (ih _ _ _ _ _ _ _ hw)
    | ldc2_w k1 =>
      replace hw : mj_wp r d m (pc + len) L (.long y :: S) h Q := hw
      exact mj_XB_ex rfl rfl (ih _ _ _ _ _ _ _ hw)
    | aconst_null =>
      replace hw : mj_wp r d m (pc + len) L (.null :: S) h Q := hw
      exact mj_XB_ex rfl rfl (ih _ _ _ _ _ _ _ hw)
    | iload k1 =>
      replace hw : mj_lI (mj_ld L a) fun v => mj_wp r d m (pc + len) L (.int v :: S) h Q := hw
      unfold mj_lI at hw
      split at hw
      · rename_i v he
        exact mj_XB_ex rfl (by simp only [mj_ex]; rw [he]) (ih _ _ _ _ _ _ _ hw)
      · exact hw.elim
    | iload_n k1 =>
      replace hw : mj_lI (mj_ld L a) fun v => mj_wp r d m (pc + len) L (.int v :: S) h Q := hw
      unfold mj_lI at hw
      split at hw
      · rename_i v he
        exact mj_XB_ex rfl (by simp only [mj_ex]; rw [he]) (ih _ _ _ _ _ _ _ hw)
      · exact hw.elim
    | lload k1 =>
      replace hw : mj_lJ (mj_ld L a) fun v => mj_wp r d m (pc + len) L (.long v :: S) h Q := hw
      unfold mj_lJ at hw
      split at hw
      · rename_i v he
        exact mj_XB_ex rfl (by simp only [mj_ex]; rw [he]) (ih _ _ _ _ _ _ _ hw)
      · exact hw.elim
    | lload_n k1 =>
      replace hw : mj_lJ (mj_ld L a) fun v => mj_wp r d m (pc + len) L (.long v :: S) h Q := hw
      unfold mj_lJ at hw
      split at hw
      · rename_i v he
        exact mj_XB_ex rfl (by simp only [mj_ex]; rw [he]) (ih _ _ _ _ _ _ _ hw)
      · exact hw.elim
    | aload k1 =>
      replace hw : mj_lA (mj_ld L a) fun v => mj_wp r d m (pc + len) L (v :: S) h Q := hw
      unfold mj_lA at hw
      split at hw
      · rename_i v he
        exact mj_XB_ex rfl (by simp only [mj_ex]; rw [he]) (ih _ _ _ _ _ _ _ hw)
      · rename_i he
        exact mj_XB_ex rfl (by simp only [mj_ex]; rw [he]) (ih _ _ _ _ _ _ _ hw)
      · exact hw.elim
    | aload_n k1 =>
      replace hw : mj_lA (mj_ld L a) fun v => mj_wp r d m (pc + len) L (v :: S) h Q := hw
      unfold mj_lA at hw
      split at hw
      · rename_i v he
        exact mj_XB_ex rfl (by simp only [mj_ex]; rw [he]) (ih _ _ _ _ _ _ _ hw)
      · rename_i he
        exact mj_XB_ex rfl (by simp only [mj_ex]; rw [he]) (ih _ _ _ _ _ _ _ hw)
      · exact hw.elim
    | istore k1 =>
      replace hw : mj_pI S fun v S1 => mj_wp r d m (pc + len) (mj_st1 L a (.int v)) S1 h Q := hw
      unfold mj_pI at hw
      split at hw
      · exact mj_XB_ex rfl rfl (ih _ _ _ _ _ _ _ hw)
      · exact hw.elim
    | istore_n k1 =>
      replace hw : mj_pI S fun v S1 => mj_wp r d m (pc + len) (mj_st1 L a (.int v)) S1 h Q := hw
      unfold mj_pI at hw
      split at hw
      · exact mj_XB_ex rfl rfl (ih _ _ _ _ _ _ _ hw)
      · exact hw.elim
    | lstore k1 =>
      replace hw : mj_pJ S fun v S1 => mj_wp r d m (pc + len) (mj_st2 L a (.long v)) S1 h Q := hw
      unfold mj_pJ at hw
      split at hw
      · exact mj_XB_ex rfl rfl (ih _ _ _ _ _ _ _ hw)
      · exact hw.elim
    | lstore_n k1 =>
      replace hw : mj_pJ S fun v S1 => mj_wp r d m (pc + len) (mj_st2 L a (.long v)) S1 h Q := hw
      unfold mj_pJ at hw
      split at hw
      · exact mj_XB_ex rfl rfl (ih _ _ _ _ _ _ _ hw)
      · exact hw.elim
    | astore k1 =>
      replace hw : mj_pA S fun v S1 => mj_wp r d m (pc + len) (mj_st1 L a v) S1 h Q := hw
      unfold mj_pA at hw
      split at hw
      · exact mj_XB_ex rfl rfl (ih _ _ _ _ _ _ _ hw)
      · exact mj_XB_ex rfl rfl (ih _ _ _ _ _ _ _ hw)
      · exact hw.elim
    | astore_n k1 =>
      replace hw : mj_pA S fun v S1 => mj_wp r d m (pc + len) (mj_st1 L a v) S1 h Q := hw
      unfold mj_pA at hw
      split at hw
      · exact mj_XB_ex rfl rfl (ih _ _ _ _ _ _ _ hw)
      · exact mj_XB_ex rfl rfl (ih _ _ _ _ _ _ _ hw)
      · exact hw.elim
    | iinc k1 k2 =>
      replace hw : mj_lI (mj_ld L a) fun v => mj_wp r d m (pc + len) (mj_st1 L a (.int (v + x))) S h Q := hw
      unfold mj_lI at hw
      split at hw
      · rename_i v he
        exact mj_XB_ex rfl (by simp only [mj_ex]; rw [he]) (ih _ _ _ _ _ _ _ hw)
      · exact hw.elim
    | iadd =>
      replace hw : mj_pII S fun v w S1 => mj_wp r d m (pc + len) L (.int (v + w) :: S1) h Q := hw
      unfold mj_pII at hw
      split at hw
      · exact mj_XB_ex rfl rfl (ih _ _ _ _ _ _ _ hw)
      · exact hw.elim
    | isub =>
      replace hw : mj_pII S fun v w S1 => mj_wp r d m (pc + len) L (.int (v - w) :: S1) h Q := hw
      unfold mj_pII at hw
      split at hw
      · exact mj_XB_ex rfl rfl (ih _ _ _ _ _ _ _ hw)
      · exact hw.elim
    | imul =>
      replace hw : mj_pII S fun v w S1 => mj_wp r d m (pc + len) L (.int (v * w) :: S1) h Q := hw
      unfold mj_pII at hw
      split at hw
      · exact mj_XB_ex rfl rfl (ih _ _ _ _ _ _ _ hw)
      · exact hw.elim
    | iand =>
      replace hw : mj_pII S fun v w S1 => mj_wp r d m (pc + len) L (.int (v &&& w) :: S1) h Q := hw
      unfold mj_pII at hw
      split at hw
      · exact mj_XB_ex rfl rfl (ih _ _ _ _ _ _ _ hw)
      · exact hw.elim
    | ior =>
      replace hw : mj_pII S fun v w S1 => mj_wp r d m (pc + len) L (.int (v ||| w) :: S1) h Q := hw
      unfold mj_pII at hw
      split at hw
      · exact mj_XB_ex rfl rfl (ih _ _ _ _ _ _ _ hw)
      · exact hw.elim
    | ixor =>
      replace hw : mj_pII S fun v w S1 => mj_wp r d m (pc + len) L (.int (v ^^^ w) :: S1) h Q := hw
      unfold mj_pII at hw
      split at hw
      · exact mj_XB_ex rfl rfl (ih _ _ _ _ _ _ _ hw)
      · exact hw.elim
    | ishl =>
      replace hw : mj_pII S fun v w S1 => mj_wp r d m (pc + len) L (.int (v <<< (w &&& 31)) :: S1) h Q := hw
      unfold mj_pII at hw
      split at hw
      · exact mj_XB_ex rfl rfl (ih _ _ _ _ _ _ _ hw)
      · exact hw.elim
    | ishr =>
      replace hw : mj_pII S fun v w S1 => mj_wp r d m (pc + len) L (.int (v >>> (w &&& 31)) :: S1) h Q := hw
      unfold mj_pII at hw
      split at hw
      · exact mj_XB_ex rfl rfl (ih _ _ _ _ _ _ _ hw)
      · exact hw.elim
    | iushr =>
      replace hw : mj_pII S fun v w S1 => mj_wp r d m (pc + len) L (.int (mj_iu v w) :: S1) h Q := hw
      unfold mj_pII at hw
      split at hw
      · exact mj_XB_ex rfl rfl (ih _ _ _ _ _ _ _ hw)
      · exact hw.elim
    | idiv =>
      replace hw : mj_pII S fun v w S1 => ¬ w = 0 ∧ mj_wp r d m (pc + len) L (.int (v / w) :: S1) h Q := hw
      unfold mj_pII at hw
      split at hw
      · exact mj_XB_ex rfl (by simp only [mj_ex]; rw [if_neg hw.1]) (ih _ _ _ _ _ _ _ hw.2)
      · exact hw.elim
    | irem =>
      replace hw : mj_pII S fun v w S1 => ¬ w = 0 ∧ mj_wp r d m (pc + len) L (.int (v - v / w * w) :: S1) h Q := hw
      unfold mj_pII at hw
      split at hw
      · exact mj_XB_ex rfl (by simp only [mj_ex]; rw [if_neg hw.1]) (ih _ _ _ _ _ _ _ hw.2)
      · exact hw.elim
    | ineg =>
      replace hw : mj_pI S fun v S1 => mj_wp r d m (pc + len) L (.int (-v) :: S1) h Q := hw
      unfold mj_pI at hw
      split at hw
      · exact mj_XB_ex rfl rfl (ih _ _ _ _ _ _ _ hw)
      · exact hw.elim
    | ladd =>
      replace hw : mj_pJJ S fun v w S1 => mj_wp r d m (pc + len) L (.long (v + w) :: S1) h Q := hw
      unfold mj_pJJ at hw
      split at hw
      · exact mj_XB_ex rfl rfl (ih _ _ _ _ _ _ _ hw)
      · exact hw.elim
    | lsub =>
      replace hw : mj_pJJ S fun v w S1 => mj_wp r d m (pc + len) L (.long (v - w) :: S1) h Q := hw
      unfold mj_pJJ at hw
      split at hw
      · exact mj_XB_ex rfl rfl (ih _ _ _ _ _ _ _ hw)
      · exact hw.elim
    | land =>
      replace hw : mj_pJJ S fun v w S1 => mj_wp r d m (pc + len) L (.long (v &&& w) :: S1) h Q := hw
      unfold mj_pJJ at hw
      split at hw
      · exact mj_XB_ex rfl rfl (ih _ _ _ _ _ _ _ hw)
      · exact hw.elim
    | lor =>
      replace hw : mj_pJJ S fun v w S1 => mj_wp r d m (pc + len) L (.long (v ||| w) :: S1) h Q := hw
      unfold mj_pJJ at hw
      split at hw
      · exact mj_XB_ex rfl rfl (ih _ _ _ _ _ _ _ hw)
      · exact hw.elim
    | lxor =>
      replace hw : mj_pJJ S fun v w S1 => mj_wp r d m (pc + len) L (.long (v ^^^ w) :: S1) h Q := hw
      unfold mj_pJJ at hw
      split at hw
      · exact mj_XB_ex rfl rfl (ih _ _ _ _ _ _ _ hw)
      · exact hw.elim
    | lcmp =>
      replace hw : mj_pJJ S fun v w S1 => mj_wp r d m (pc + len) L (.int (lg_cmp v w) :: S1) h Q := hw
      unfold mj_pJJ at hw
      split at hw
      · exact mj_XB_ex rfl rfl (ih _ _ _ _ _ _ _ hw)
      · exact hw.elim
    | lneg =>
      replace hw : mj_pJ S fun v S1 => mj_wp r d m (pc + len) L (.long (-v) :: S1) h Q := hw
      unfold mj_pJ at hw
      split at hw
      · exact mj_XB_ex rfl rfl (ih _ _ _ _ _ _ _ hw)
      · exact hw.elim
    | lshl =>
      replace hw : mj_pIJ S fun v w S1 => mj_wp r d m (pc + len) L (.long (mj_js v w) :: S1) h Q := hw
      unfold mj_pIJ at hw
      split at hw
      · exact mj_XB_ex rfl rfl (ih _ _ _ _ _ _ _ hw)
      · exact hw.elim
    | lushr =>
      replace hw : mj_pIJ S fun v w S1 => mj_wp r d m (pc + len) L (.long (mj_ju v w) :: S1) h Q := hw
      unfold mj_pIJ at hw
      split at hw
      · exact mj_XB_ex rfl rfl (ih _ _ _ _ _ _ _ hw)
      · exact hw.elim
    | i2l =>
      replace hw : mj_pI S fun v S1 => mj_wp r d m (pc + len) L (.long v.toInt64 :: S1) h Q := hw
      unfold mj_pI at hw
      split at hw
      · exact mj_XB_ex rfl rfl (ih _ _ _ _ _ _ _ hw)
      · exact hw.elim
    | l2i =>
      replace hw : mj_pJ S fun v S1 => mj_wp r d m (pc + len) L (.int v.toInt32 :: S1) h Q := hw
      unfold mj_pJ at hw
      split at hw
      · exact mj_XB_ex rfl rfl (ih _ _ _ _ _ _ _ hw)
      · exact hw.elim
    | dup =>
      replace hw : mj_pD S fun v S1 => mj_wp r d m (pc + len) L (v :: v :: S1) h Q := hw
      unfold mj_pD at hw
      split at hw
      · exact mj_XB_ex rfl rfl (ih _ _ _ _ _ _ _ hw)
      · exact mj_XB_ex rfl rfl (ih _ _ _ _ _ _ _ hw)
      · exact hw.elim
    | dup2 =>
      replace hw : mj_pIR S fun v r1 S1 => mj_wp r d m (pc + len) L (.int v :: .ref r1 :: .int v :: .ref r1 :: S1) h Q := hw
      unfold mj_pIR at hw
      split at hw
      · exact mj_XB_ex rfl rfl (ih _ _ _ _ _ _ _ hw)
      · exact hw.elim
    | pop =>
      replace hw : mj_pI S fun _ S1 => mj_wp r d m (pc + len) L S1 h Q := hw
      unfold mj_pI at hw
      split at hw
      · exact mj_XB_ex rfl rfl (ih _ _ _ _ _ _ _ hw)
      · exact hw.elim
    | goto k1 =>
      replace hw : mj_X d m a L S h Q := hw
      exact mj_XB_go rfl rfl hw
    | ifCond c k1 =>
      replace hw : mj_pI S fun v S1 => (mj_cz c v → mj_X d m a L S1 h Q) ∧ (¬ mj_cz c v → mj_wp r d m (pc + len) L S1 h Q) := hw
      unfold mj_pI at hw
      split at hw
      · rename_i v S1
        by_cases hc : mj_cz c v
        · exact mj_XB_go rfl (by simp only [mj_ex]; rw [(mj_bz_iff c v).mpr hc]; rfl) (hw.1 hc)
        · exact mj_XB_ex rfl (by simp only [mj_ex]; rw [show mj_bz c v = false by (rw [← Bool.not_eq_true]; exact fun q => hc ((mj_bz_iff c v).mp q))]; rfl) (ih _ _ _ _ _ _ _ (hw.2 hc))
      · exact hw.elim
    | if_icmp c k1 =>
      replace hw : mj_pII S fun v w S1 => (mj_cc c v w → mj_X d m a L S1 h Q) ∧ (¬ mj_cc c v w → mj_wp r d m (pc + len) L S1 h Q) := hw
      unfold mj_pII at hw
      split at hw
      · rename_i w v S1
        by_cases hc : mj_cc c v w
        · exact mj_XB_go rfl (by simp only [mj_ex]; rw [(mj_bc_iff c v w).mpr hc]; rfl) (hw.1 hc)
        · exact mj_XB_ex rfl (by simp only [mj_ex]; rw [show mj_bc c v w = false by (rw [← Bool.not_eq_true]; exact fun q => hc ((mj_bc_iff c v w).mp q))]; rfl) (ih _ _ _ _ _ _ _ (hw.2 hc))
      · exact hw.elim
    | ifnonnull k1 =>
      replace hw : mj_pN S (fun S1 => mj_X d m a L S1 h Q) (fun S1 => mj_wp r d m (pc + len) L S1 h Q) := hw
      unfold mj_pN at hw
      split at hw
      · exact mj_XB_go rfl rfl hw
      · exact mj_XB_ex rfl rfl (ih _ _ _ _ _ _ _ hw)
      · exact hw.elim
    | tableswitch dflt lo hi offs =>
      replace hw : mj_pI S fun v S1 => mj_X d m (mj_sw pc dflt lo hi offs v) L S1 h Q := hw
      unfold mj_pI at hw
      split at hw
      · exact mj_XB_go rfl rfl hw
      · exact hw.elim
    | getstatic k1 =>
      replace hw : mj_wp r d m (pc + len) L (.ref 0 :: S) h Q := hw
      exact mj_XB_ex rfl rfl (ih _ _ _ _ _ _ _ hw)
    | getfield k1 =>
      replace hw : mj_pR S fun r1 S1 => (mj_k h r1).1 = a + 3 ∧ mj_wp r d m (pc + len) L (mj_gv h t r1 b :: S1) h Q := hw
      unfold mj_pR at hw
      split at hw
      · exact mj_XB_ex rfl (by simp only [mj_ex]; rw [if_pos hw.1]) (ih _ _ _ _ _ _ _ hw.2)
      · exact hw.elim
    | putfield k1 =>
      replace hw : mj_pF S t (fun v r1 S1 => (mj_k h r1).1 = a + 3 ∧ (t = 0 ∨ (t = 3 ∧ (v = 0 ∨ v = 1))) ∧ mj_wp r d m (pc + len) L S1 (mj_sI h r1 b v) Q) (fun v r1 S1 => (mj_k h r1).1 = a + 3 ∧ mj_wp r d m (pc + len) L S1 (mj_sJ h r1 b v) Q) (fun v r1 S1 => (mj_k h r1).1 = a + 3 ∧ mj_wp r d m (pc + len) L S1 (mj_sR h r1 b (some v)) Q) := hw
      unfold mj_pF at hw
      split at hw
      · exact mj_XB_ex rfl (by simp only [mj_ex]; rw [if_pos ⟨hw.1, hw.2.1⟩]) (ih _ _ _ _ _ _ _ hw.2.2)
      · exact mj_XB_ex rfl (by simp only [mj_ex]; rw [if_pos ⟨hw.2.1, hw.1⟩]) (ih _ _ _ _ _ _ _ hw.2.2)
      · exact mj_XB_ex rfl (by simp only [mj_ex]; rw [if_pos ⟨hw.2.1, hw.1⟩]) (ih _ _ _ _ _ _ _ hw.2.2)
      · exact hw.elim
    | iaload =>
      replace hw : mj_pIR S fun v r1 S1 => (mj_k h r1).1 = 0 ∧ vp_in v (mj_k h r1).2 ∧ mj_wp r d m (pc + len) L (.int (mj_gI h r1 v.toNatClampNeg) :: S1) h Q := hw
      unfold mj_pIR at hw
      split at hw
      · exact mj_XB_ex rfl (by simp only [mj_ex]; rw [if_pos ⟨hw.1, hw.2.1⟩]) (ih _ _ _ _ _ _ _ hw.2.2)
      · exact hw.elim
    | laload =>
      replace hw : mj_pIR S fun v r1 S1 => (mj_k h r1).1 = 1 ∧ vp_in v (mj_k h r1).2 ∧ mj_wp r d m (pc + len) L (.long (mj_gJ h r1 v.toNatClampNeg) :: S1) h Q := hw
      unfold mj_pIR at hw
      split at hw
      · exact mj_XB_ex rfl (by simp only [mj_ex]; rw [if_pos ⟨hw.1, hw.2.1⟩]) (ih _ _ _ _ _ _ _ hw.2.2)
      · exact hw.elim
    | aaload =>
      replace hw : mj_pIR S fun v r1 S1 => (mj_k h r1).1 = 2 ∧ vp_in v (mj_k h r1).2 ∧ mj_wp r d m (pc + len) L (va_rf (mj_gR h r1 v.toNatClampNeg) :: S1) h Q := hw
      unfold mj_pIR at hw
      split at hw
      · exact mj_XB_ex rfl (by simp only [mj_ex]; rw [if_pos ⟨hw.1, hw.2.1⟩]) (ih _ _ _ _ _ _ _ hw.2.2)
      · exact hw.elim
    | iastore =>
      replace hw : mj_pIIR S fun w v r1 S1 => (mj_k h r1).1 = 0 ∧ 2 ≤ r1 ∧ vp_in v (mj_k h r1).2 ∧ mj_wp r d m (pc + len) L S1 (mj_sI h r1 v.toNatClampNeg w) Q := hw
      unfold mj_pIIR at hw
      split at hw
      · exact mj_XB_ex rfl (by simp only [mj_ex]; rw [if_pos ⟨hw.1, hw.2.1, hw.2.2.1⟩]) (ih _ _ _ _ _ _ _ hw.2.2.2)
      · exact hw.elim
    | lastore =>
      replace hw : mj_pJIR S fun w v r1 S1 => (mj_k h r1).1 = 1 ∧ vp_in v (mj_k h r1).2 ∧ mj_wp r d m (pc + len) L S1 (mj_sJ h r1 v.toNatClampNeg w) Q := hw
      unfold mj_pJIR at hw
      split at hw
      · exact mj_XB_ex rfl (by simp only [mj_ex]; rw [if_pos ⟨hw.1, hw.2.1⟩]) (ih _ _ _ _ _ _ _ hw.2.2)
      · exact hw.elim
    | aastore =>
      replace hw : mj_pRIR S fun q v r1 S1 => (mj_k h r1).1 = 2 ∧ (mj_k h q).1 = 3 ∧ vp_in v (mj_k h r1).2 ∧ mj_wp r d m (pc + len) L S1 (mj_sR h r1 v.toNatClampNeg (some q)) Q := hw
      unfold mj_pRIR at hw
      split at hw
      · exact mj_XB_ex rfl (by simp only [mj_ex]; rw [if_pos ⟨hw.1, hw.2.1, hw.2.2.1⟩]) (ih _ _ _ _ _ _ _ hw.2.2.2)
      · exact hw.elim
    | arraylength =>
      replace hw : mj_pR S fun r1 S1 => (mj_k h r1).1 < 3 ∧ mj_wp r d m (pc + len) L (.int (Int32.ofNat (mj_k h r1).2) :: S1) h Q := hw
      unfold mj_pR at hw
      split at hw
      · exact mj_XB_ex rfl (by simp only [mj_ex]; rw [if_pos hw.1]) (ih _ _ _ _ _ _ _ hw.2)
      · exact hw.elim
    | newarray ty =>
      replace hw : mj_pI S fun v S1 => ¬ v < 0 ∧ v.toNatClampNeg ≤ 1000000 ∧ (ty = .int ∨ ty = .long) ∧ mj_wp r d m (pc + len) L (.ref h.1 :: S1) (mj_new h (if ty = .int then 0 else 1) v.toNatClampNeg) Q := hw
      unfold mj_pI at hw
      split at hw
      · exact mj_XB_ex rfl (by simp only [mj_ex]; rw [if_pos ⟨hw.1, hw.2.1, hw.2.2.1⟩]) (ih _ _ _ _ _ _ _ hw.2.2.2)
      · exact hw.elim
    | anewarray k1 =>
      replace hw : mj_pI S fun v S1 => ¬ v < 0 ∧ v.toNatClampNeg ≤ 1000000 ∧ mj_wp r d m (pc + len) L (.ref h.1 :: S1) (mj_new h 2 v.toNatClampNeg) Q := hw
      unfold mj_pI at hw
      split at hw
      · exact mj_XB_ex rfl (by simp only [mj_ex]; rw [if_pos ⟨hw.1, hw.2.1⟩]) (ih _ _ _ _ _ _ _ hw.2.2)
      · exact hw.elim
    | new k1 =>
      replace hw : mj_wp r d m (pc + len) L (.ref h.1 :: S) (mj_new h (a + 3) b) Q := hw
      exact mj_XB_ex rfl rfl (ih _ _ _ _ _ _ _ hw)
    | invokevirtual k1 =>
      replace hw : mj_pn b [] S fun As S1 => mj_ok4 S1 = true ∧ mj_rc h u As ∧ mj_dn d fun d1 => mj_C d1 a As h fun v1 h1 => mj_wr t v1 fun vs => mj_wp r d m (pc + 3) L (vs ++ S1) h1 Q := hw
      exact mj_XB_call rfl hw (fun vs S1 h1 hw => ih _ _ _ _ _ _ _ hw)
    | invokestatic k1 =>
      replace hw : mj_wt t (mj_pn b [] S fun As S1 => mj_ok4 S1 = true ∧ mj_rc h u As ∧ mj_dn d fun d1 => mj_C d1 a As h fun v1 h1 => mj_wr t v1 fun vs => mj_wp r d m (pc + 3) L (vs ++ S1) h1 Q) (mj_pII S fun v w S1 => mj_ok4 S1 = true ∧ mj_dn d fun _ => mj_wp r d m (pc + 3) L (.int (if v < w then w else v) :: S1) h Q) (mj_pII S fun v w S1 => mj_ok4 S1 = true ∧ mj_dn d fun _ => mj_wp r d m (pc + 3) L (.int (if w < v then w else v) :: S1) h Q) (mj_pJJ S fun v w S1 => mj_ok4 S1 = true ∧ mj_dn d fun _ => mj_wp r d m (pc + 3) L (.long (if w < v then w else v) :: S1) h Q) (mj_pC S fun c w q v p S1 => mj_ok4 S1 = true ∧ (mj_dn d fun _ => True) ∧ (mj_k h p).1 = 0 ∧ (mj_k h q).1 = 0 ∧ 2 ≤ p ∧ 2 ≤ q ∧ ¬ v < 0 ∧ ¬ w < 0 ∧ ¬ c < 0 ∧ v.toNatClampNeg + c.toNatClampNeg ≤ (mj_k h p).2 ∧ w.toNatClampNeg + c.toNatClampNeg ≤ (mj_k h q).2 ∧ mj_wp r d m (pc + 3) L S1 (mj_cp h p q v.toNatClampNeg w.toNatClampNeg c.toNatClampNeg) Q) := hw
      unfold mj_wt at hw
      split at hw
      · unfold mj_pII at hw
        split at hw
        · obtain ⟨h4, hw⟩ := hw
          cases d with
          | zero => exact hw.elim
          | succ d => exact mj_XB_st (v := fun n v9 h9 hr9 => Or.inr (Or.inr (Or.inr (Or.inr (Or.inl ⟨rfl, d, _, _, _, rfl, rfl, h4, hr9⟩))))) (ih _ _ _ _ _ _ _ hw)
        · exact hw.elim
      · unfold mj_pII at hw
        split at hw
        · obtain ⟨h4, hw⟩ := hw
          cases d with
          | zero => exact hw.elim
          | succ d => exact mj_XB_st (v := fun n v9 h9 hr9 => Or.inr (Or.inr (Or.inr (Or.inr (Or.inr (Or.inl ⟨rfl, d, _, _, _, rfl, rfl, h4, hr9⟩)))))) (ih _ _ _ _ _ _ _ hw)
        · exact hw.elim
      · unfold mj_pJJ at hw
        split at hw
        · obtain ⟨h4, hw⟩ := hw
          cases d with
          | zero => exact hw.elim
          | succ d => exact mj_XB_st (v := fun n v9 h9 hr9 => Or.inr (Or.inr (Or.inr (Or.inr (Or.inr (Or.inr (Or.inl ⟨rfl, d, _, _, _, rfl, rfl, h4, hr9⟩))))))) (ih _ _ _ _ _ _ _ hw)
        · exact hw.elim
      · unfold mj_pC at hw
        split at hw
        · obtain ⟨h4, hd, k1, k2, k3, k4, k5, k6, k7, k8, k9, hw⟩ := hw
          cases d with
          | zero => exact hd.elim
          | succ d => exact mj_XB_st (v := fun n v9 h9 hr9 => Or.inr (Or.inr (Or.inr (Or.inr (Or.inr (Or.inr (Or.inr ⟨⟨by simp [mj_kd], by simp [mj_kd], by simp [mj_kd], by simp [mj_kd], by simp [mj_kd], by simp [mj_kd], by simp [mj_kd]⟩, d, _, _, _, _, _, _, rfl, rfl, ⟨h4, k1, k2, k3, k4, k5, k6, k7, k8, k9⟩, hr9⟩))))))) (ih _ _ _ _ _ _ _ hw)
        · exact hw.elim
      · exact mj_XB_call (by have h5 := hw.1; show (if t = 9 then 4 else if 5 ≤ t then t else 1) = 1; rw [if_neg (by omega), if_neg (by omega)]) hw.2 (fun vs S1 h1 hw => ih _ _ _ _ _ _ _ hw)
    | invokespecial k1 =>
      replace hw : mj_ws t (mj_pn b [] S fun As S1 => mj_ok4 S1 = true ∧ mj_rc h u As ∧ mj_dn d fun d1 => mj_C d1 a As h fun v1 h1 => mj_wr t v1 fun vs => mj_wp r d m (pc + 3) L (vs ++ S1) h1 Q) (mj_pR S fun _ S1 => mj_ok4 S1 = true ∧ mj_dn d fun _ => mj_wp r d m (pc + 3) L S1 h Q) := hw
      unfold mj_ws at hw
      split at hw
      · unfold mj_pR at hw
        split at hw
        · obtain ⟨h4, hw⟩ := hw
          cases d with
          | zero => exact hw.elim
          | succ d => exact mj_XB_st (v := fun n v9 h9 hr9 => Or.inr (Or.inr (Or.inr (Or.inl ⟨rfl, d, _, _, rfl, rfl, h4, hr9⟩)))) (ih _ _ _ _ _ _ _ hw)
        · exact hw.elim
      · exact mj_XB_call (by simp [mj_kd, hw.1]) hw.2 (fun vs S1 h1 hw => ih _ _ _ _ _ _ _ hw)
    | ireturn =>
      replace hw : mj_rI S fun v => (t = 0 ∨ v = 0 ∨ v = 1) ∧ Q (some (.int v)) h := hw
      unfold mj_rI at hw
      split at hw
      · exact ⟨1, _, _, mj_run_of (n := 0) (Or.inr (Or.inr (Or.inl ⟨rfl, by simp only [mj_rt]; rw [if_pos hw.1], rfl⟩))), hw.2⟩
      · exact hw.elim
    | lreturn =>
      replace hw : mj_rJ S fun v => Q (some (.long v)) h := hw
      unfold mj_rJ at hw
      split at hw
      · exact ⟨1, _, _, mj_run_of (n := 0) (Or.inr (Or.inr (Or.inl ⟨rfl, rfl, rfl⟩))), hw⟩
      · exact hw.elim
    | areturn =>
      replace hw : mj_rA S fun v => Q (some v) h := hw
      unfold mj_rA at hw
      split at hw
      · exact ⟨1, _, _, mj_run_of (n := 0) (Or.inr (Or.inr (Or.inl ⟨rfl, rfl, rfl⟩))), hw⟩
      · exact ⟨1, _, _, mj_run_of (n := 0) (Or.inr (Or.inr (Or.inl ⟨rfl, rfl, rfl⟩))), hw⟩
      · exact hw.elim
    | return_ =>
      replace hw : mj_rV S (Q none h) := hw
      unfold mj_rV at hw
      split at hw
      · exact ⟨1, _, _, mj_run_of (n := 0) (Or.inr (Or.inr (Or.inl ⟨rfl, rfl, rfl⟩))), hw⟩
      · exact hw.elim
    | _ => exact hw.elim
theorem mj_go {d m pc : Nat} {B : List mj_O} {L S : List Value} {h : mj_H} {Q : Option Value → mj_H → Prop} (hB : mj_blk m pc = some B) (hw : mj_wp B d m pc L S h Q) : mj_X d m pc L S h Q := mj_X_blk hB (mj_wp_ok B d m pc L S h Q hw)
/-! the same, an instruction a row; what stands behind a branch or a call isn't opened (mj_kt) -/
def mj_kt (r : List mj_O) (d m pc : Nat) (L : List Value) (Q : Option Value → mj_H → Prop) (S : List Value) (h : mj_H) : Prop := mj_wp r d m pc L S h Q
theorem kt_e (r : List mj_O) (d m pc : Nat) (L : List Value) (Q : Option Value → mj_H → Prop) (S : List Value) (h : mj_H) : mj_kt r d m pc L Q S h = mj_wp r d m pc L S h Q := Eq.trans rfl rfl
def mj_wcall (a b t u d : Nat) (S : List Value) (h : mj_H) (K : List Value → mj_H → Prop) : Prop := mj_pn b [] S fun As S1 => mj_ok4 S1 = true ∧ mj_rc h u As ∧ mj_dn d fun d1 => mj_C d1 a As h fun v1 h1 => mj_wr t v1 fun vs => K (vs ++ S1) h1
theorem wp_iconst {len a b t u : Nat} {x : Int32} {y : Int64} {r : List mj_O} {d m pc : Nat} {L S : List Value} {h : mj_H} {Q : Option Value → mj_H → Prop} {k1 : Int} : mj_wp ((.iconst k1, len, a, b, t, u, x, y) :: r) d m pc L S h Q = (mj_wp r d m (pc + len) L (.int x :: S) h Q) := Eq.trans rfl rfl
theorem wp_bipush {len a b t u : Nat} {x : Int32} {y : Int64} {r : List mj_O} {d m pc : Nat} {L S : List Value} {h : mj_H} {Q : Option Value → mj_H → Prop} {k1 : Int} : mj_wp ((.bipush k1, len, a, b, t, u, x, y) :: r) d m pc L S h Q = (mj_wp r d m (pc + len) L (.int x :: S) h Q) := Eq.trans rfl rfl
theorem wp_sipush {len a b t u : Nat} {x : Int32} {y : Int64} {r : List mj_O} {d m pc : Nat} {L S : List Value} {h : mj_H} {Q : Option Value → mj_H → Prop} {k1 : Int} : mj_wp ((.sipush k1, len, a, b, t, u, x, y) :: r) d m pc L S h Q = (mj_wp r d m (pc + len) L (.int x :: S) h Q) := Eq.trans rfl rfl
theorem wp_ldc {len a b t u : Nat} {x : Int32} {y : Int64} {r : List mj_O} {d m pc : Nat} {L S : List Value} {h : mj_H} {Q : Option Value → mj_H → Prop} {k1 : Nat} : mj_wp ((.ldc k1, len, a, b, t, u, x, y) :: r) d m pc L S h Q = (mj_wp r d m (pc + len) L (.int x :: S) h Q) := Eq.trans rfl rfl
theorem wp_ldc_w {len a b t u : Nat} {x : Int32} {y : Int64} {r : List mj_O} {d m pc : Nat} {L S : List Value} {h : mj_H} {Q : Option Value → mj_H → Prop} {k1 : Nat} : mj_wp ((.ldc_w k1, len, a, b, t, u, x, y) :: r) d m pc L S h Q = (mj_wp r d m (pc + len) L (.int x :: S) h Q) := Eq.trans rfl rfl
theorem wp_lconst {len a b t u : Nat} {x : Int32} {y : Int64} {r : List mj_O} {d m pc : Nat} {L S : List Value} {h : mj_H} {Q : Option Value → mj_H → Prop} {k1 : Fin 2} : mj_wp ((.lconst k1, len, a, b, t, u, x, y) :: r) d m pc L S h Q = (mj_wp r d m (pc + len) L (.long y :: S) h Q) := Eq.trans rfl rfl
theorem wp_ldc2_w {len a b t u : Nat} {x : Int32} {y : Int64} {r : List mj_O} {d m pc : Nat} {L S : List Value} {h : mj_H} {Q : Option Value → mj_H → Prop} {k1 : Nat} : mj_wp ((.ldc2_w k1, len, a, b, t, u, x, y) :: r) d m pc L S h Q = (mj_wp r d m (pc + len) L (.long y :: S) h Q) := Eq.trans rfl rfl
theorem wp_aconst_null {len a b t u : Nat} {x : Int32} {y : Int64} {r : List mj_O} {d m pc : Nat} {L S : List Value} {h : mj_H} {Q : Option Value → mj_H → Prop} : mj_wp ((.aconst_null, len, a, b, t, u, x, y) :: r) d m pc L S h Q = (mj_wp r d m (pc + len) L (.null :: S) h Q) := Eq.trans rfl rfl
theorem wp_iload {len a b t u : Nat} {x : Int32} {y : Int64} {r : List mj_O} {d m pc : Nat} {L S : List Value} {h : mj_H} {Q : Option Value → mj_H → Prop} {k1 : Nat} : mj_wp ((.iload k1, len, a, b, t, u, x, y) :: r) d m pc L S h Q = (mj_lI (mj_ld L a) fun v => mj_wp r d m (pc + len) L (.int v :: S) h Q) := Eq.trans rfl rfl
theorem wp_iload_n {len a b t u : Nat} {x : Int32} {y : Int64} {r : List mj_O} {d m pc : Nat} {L S : List Value} {h : mj_H} {Q : Option Value → mj_H → Prop} {k1 : Fin 4} : mj_wp ((.iload_n k1, len, a, b, t, u, x, y) :: r) d m pc L S h Q = (mj_lI (mj_ld L a) fun v => mj_wp r d m (pc + len) L (.int v :: S) h Q) := Eq.trans rfl rfl
theorem wp_lload {len a b t u : Nat} {x : Int32} {y : Int64} {r : List mj_O} {d m pc : Nat} {L S : List Value} {h : mj_H} {Q : Option Value → mj_H → Prop} {k1 : Nat} : mj_wp ((.lload k1, len, a, b, t, u, x, y) :: r) d m pc L S h Q = (mj_lJ (mj_ld L a) fun v => mj_wp r d m (pc + len) L (.long v :: S) h Q) := Eq.trans rfl rfl
theorem wp_lload_n {len a b t u : Nat} {x : Int32} {y : Int64} {r : List mj_O} {d m pc : Nat} {L S : List Value} {h : mj_H} {Q : Option Value → mj_H → Prop} {k1 : Fin 4} : mj_wp ((.lload_n k1, len, a, b, t, u, x, y) :: r) d m pc L S h Q = (mj_lJ (mj_ld L a) fun v => mj_wp r d m (pc + len) L (.long v :: S) h Q) := Eq.trans rfl rfl
theorem wp_aload {len a b t u : Nat} {x : Int32} {y : Int64} {r : List mj_O} {d m pc : Nat} {L S : List Value} {h : mj_H} {Q : Option Value → mj_H → Prop} {k1 : Nat} : mj_wp ((.aload k1, len, a, b, t, u, x, y) :: r) d m pc L S h Q = (mj_lA (mj_ld L a) fun v => mj_wp r d m (pc + len) L (v :: S) h Q) := Eq.trans rfl rfl
theorem wp_aload_n {len a b t u : Nat} {x : Int32} {y : Int64} {r : List mj_O} {d m pc : Nat} {L S : List Value} {h : mj_H} {Q : Option Value → mj_H → Prop} {k1 : Fin 4} : mj_wp ((.aload_n k1, len, a, b, t, u, x, y) :: r) d m pc L S h Q = (mj_lA (mj_ld L a) fun v => mj_wp r d m (pc + len) L (v :: S) h Q) := Eq.trans rfl rfl
theorem wp_istore {len a b t u : Nat} {x : Int32} {y : Int64} {r : List mj_O} {d m pc : Nat} {L S : List Value} {h : mj_H} {Q : Option Value → mj_H → Prop} {k1 : Nat} : mj_wp ((.istore k1, len, a, b, t, u, x, y) :: r) d m pc L S h Q = (mj_pI S fun v S1 => mj_wp r d m (pc + len) (mj_st1 L a (.int v)) S1 h Q) := Eq.trans rfl rfl
theorem wp_istore_n {len a b t u : Nat} {x : Int32} {y : Int64} {r : List mj_O} {d m pc : Nat} {L S : List Value} {h : mj_H} {Q : Option Value → mj_H → Prop} {k1 : Fin 4} : mj_wp ((.istore_n k1, len, a, b, t, u, x, y) :: r) d m pc L S h Q = (mj_pI S fun v S1 => mj_wp r d m (pc + len) (mj_st1 L a (.int v)) S1 h Q) := Eq.trans rfl rfl
theorem wp_lstore {len a b t u : Nat} {x : Int32} {y : Int64} {r : List mj_O} {d m pc : Nat} {L S : List Value} {h : mj_H} {Q : Option Value → mj_H → Prop} {k1 : Nat} : mj_wp ((.lstore k1, len, a, b, t, u, x, y) :: r) d m pc L S h Q = (mj_pJ S fun v S1 => mj_wp r d m (pc + len) (mj_st2 L a (.long v)) S1 h Q) := Eq.trans rfl rfl
theorem wp_lstore_n {len a b t u : Nat} {x : Int32} {y : Int64} {r : List mj_O} {d m pc : Nat} {L S : List Value} {h : mj_H} {Q : Option Value → mj_H → Prop} {k1 : Fin 4} : mj_wp ((.lstore_n k1, len, a, b, t, u, x, y) :: r) d m pc L S h Q = (mj_pJ S fun v S1 => mj_wp r d m (pc + len) (mj_st2 L a (.long v)) S1 h Q) := Eq.trans rfl rfl
theorem wp_astore {len a b t u : Nat} {x : Int32} {y : Int64} {r : List mj_O} {d m pc : Nat} {L S : List Value} {h : mj_H} {Q : Option Value → mj_H → Prop} {k1 : Nat} : mj_wp ((.astore k1, len, a, b, t, u, x, y) :: r) d m pc L S h Q = (mj_pA S fun v S1 => mj_wp r d m (pc + len) (mj_st1 L a v) S1 h Q) := Eq.trans rfl rfl
theorem wp_astore_n {len a b t u : Nat} {x : Int32} {y : Int64} {r : List mj_O} {d m pc : Nat} {L S : List Value} {h : mj_H} {Q : Option Value → mj_H → Prop} {k1 : Fin 4} : mj_wp ((.astore_n k1, len, a, b, t, u, x, y) :: r) d m pc L S h Q = (mj_pA S fun v S1 => mj_wp r d m (pc + len) (mj_st1 L a v) S1 h Q) := Eq.trans rfl rfl
theorem wp_iinc {len a b t u : Nat} {x : Int32} {y : Int64} {r : List mj_O} {d m pc : Nat} {L S : List Value} {h : mj_H} {Q : Option Value → mj_H → Prop} {k1 : Nat} {k2 : Int} : mj_wp ((.iinc k1 k2, len, a, b, t, u, x, y) :: r) d m pc L S h Q = (mj_lI (mj_ld L a) fun v => mj_wp r d m (pc + len) (mj_st1 L a (.int (v + x))) S h Q) := Eq.trans rfl rfl
theorem wp_iadd {len a b t u : Nat} {x : Int32} {y : Int64} {r : List mj_O} {d m pc : Nat} {L S : List Value} {h : mj_H} {Q : Option Value → mj_H → Prop} : mj_wp ((.iadd, len, a, b, t, u, x, y) :: r) d m pc L S h Q = (mj_pII S fun v w S1 => mj_wp r d m (pc + len) L (.int (v + w) :: S1) h Q) := Eq.trans rfl rfl
theorem wp_isub {len a b t u : Nat} {x : Int32} {y : Int64} {r : List mj_O} {d m pc : Nat} {L S : List Value} {h : mj_H} {Q : Option Value → mj_H → Prop} : mj_wp ((.isub, len, a, b, t, u, x, y) :: r) d m pc L S h Q = (mj_pII S fun v w S1 => mj_wp r d m (pc + len) L (.int (v - w) :: S1) h Q) := Eq.trans rfl rfl
theorem wp_imul {len a b t u : Nat} {x : Int32} {y : Int64} {r : List mj_O} {d m pc : Nat} {L S : List Value} {h : mj_H} {Q : Option Value → mj_H → Prop} : mj_wp ((.imul, len, a, b, t, u, x, y) :: r) d m pc L S h Q = (mj_pII S fun v w S1 => mj_wp r d m (pc + len) L (.int (v * w) :: S1) h Q) := Eq.trans rfl rfl
theorem wp_iand {len a b t u : Nat} {x : Int32} {y : Int64} {r : List mj_O} {d m pc : Nat} {L S : List Value} {h : mj_H} {Q : Option Value → mj_H → Prop} : mj_wp ((.iand, len, a, b, t, u, x, y) :: r) d m pc L S h Q = (mj_pII S fun v w S1 => mj_wp r d m (pc + len) L (.int (v &&& w) :: S1) h Q) := Eq.trans rfl rfl
theorem wp_ior {len a b t u : Nat} {x : Int32} {y : Int64} {r : List mj_O} {d m pc : Nat} {L S : List Value} {h : mj_H} {Q : Option Value → mj_H → Prop} : mj_wp ((.ior, len, a, b, t, u, x, y) :: r) d m pc L S h Q = (mj_pII S fun v w S1 => mj_wp r d m (pc + len) L (.int (v ||| w) :: S1) h Q) := Eq.trans rfl rfl
theorem wp_ixor {len a b t u : Nat} {x : Int32} {y : Int64} {r : List mj_O} {d m pc : Nat} {L S : List Value} {h : mj_H} {Q : Option Value → mj_H → Prop} : mj_wp ((.ixor, len, a, b, t, u, x, y) :: r) d m pc L S h Q = (mj_pII S fun v w S1 => mj_wp r d m (pc + len) L (.int (v ^^^ w) :: S1) h Q) := Eq.trans rfl rfl
theorem wp_ishl {len a b t u : Nat} {x : Int32} {y : Int64} {r : List mj_O} {d m pc : Nat} {L S : List Value} {h : mj_H} {Q : Option Value → mj_H → Prop} : mj_wp ((.ishl, len, a, b, t, u, x, y) :: r) d m pc L S h Q = (mj_pII S fun v w S1 => mj_wp r d m (pc + len) L (.int (v <<< (w &&& 31)) :: S1) h Q) := Eq.trans rfl rfl
theorem wp_ishr {len a b t u : Nat} {x : Int32} {y : Int64} {r : List mj_O} {d m pc : Nat} {L S : List Value} {h : mj_H} {Q : Option Value → mj_H → Prop} : mj_wp ((.ishr, len, a, b, t, u, x, y) :: r) d m pc L S h Q = (mj_pII S fun v w S1 => mj_wp r d m (pc + len) L (.int (v >>> (w &&& 31)) :: S1) h Q) := Eq.trans rfl rfl
theorem wp_iushr {len a b t u : Nat} {x : Int32} {y : Int64} {r : List mj_O} {d m pc : Nat} {L S : List Value} {h : mj_H} {Q : Option Value → mj_H → Prop} : mj_wp ((.iushr, len, a, b, t, u, x, y) :: r) d m pc L S h Q = (mj_pII S fun v w S1 => mj_wp r d m (pc + len) L (.int (mj_iu v w) :: S1) h Q) := Eq.trans rfl rfl
theorem wp_idiv {len a b t u : Nat} {x : Int32} {y : Int64} {r : List mj_O} {d m pc : Nat} {L S : List Value} {h : mj_H} {Q : Option Value → mj_H → Prop} : mj_wp ((.idiv, len, a, b, t, u, x, y) :: r) d m pc L S h Q = (mj_pII S fun v w S1 => ¬ w = 0 ∧ mj_wp r d m (pc + len) L (.int (v / w) :: S1) h Q) := Eq.trans rfl rfl
theorem wp_irem {len a b t u : Nat} {x : Int32} {y : Int64} {r : List mj_O} {d m pc : Nat} {L S : List Value} {h : mj_H} {Q : Option Value → mj_H → Prop} : mj_wp ((.irem, len, a, b, t, u, x, y) :: r) d m pc L S h Q = (mj_pII S fun v w S1 => ¬ w = 0 ∧ mj_wp r d m (pc + len) L (.int (v - v / w * w) :: S1) h Q) := Eq.trans rfl rfl
theorem wp_ineg {len a b t u : Nat} {x : Int32} {y : Int64} {r : List mj_O} {d m pc : Nat} {L S : List Value} {h : mj_H} {Q : Option Value → mj_H → Prop} : mj_wp ((.ineg, len, a, b, t, u, x, y) :: r) d m pc L S h Q = (mj_pI S fun v S1 => mj_wp r d m (pc + len) L (.int (-v) :: S1) h Q) := Eq.trans rfl rfl
theorem wp_ladd {len a b t u : Nat} {x : Int32} {y : Int64} {r : List mj_O} {d m pc : Nat} {L S : List Value} {h : mj_H} {Q : Option Value → mj_H → Prop} : mj_wp ((.ladd, len, a, b, t, u, x, y) :: r) d m pc L S h Q = (mj_pJJ S fun v w S1 => mj_wp r d m (pc + len) L (.long (v + w) :: S1) h Q) := Eq.trans rfl rfl
theorem wp_lsub {len a b t u : Nat} {x : Int32} {y : Int64} {r : List mj_O} {d m pc : Nat} {L S : List Value} {h : mj_H} {Q : Option Value → mj_H → Prop} : mj_wp ((.lsub, len, a, b, t, u, x, y) :: r) d m pc L S h Q = (mj_pJJ S fun v w S1 => mj_wp r d m (pc + len) L (.long (v - w) :: S1) h Q) := Eq.trans rfl rfl
theorem wp_land {len a b t u : Nat} {x : Int32} {y : Int64} {r : List mj_O} {d m pc : Nat} {L S : List Value} {h : mj_H} {Q : Option Value → mj_H → Prop} : mj_wp ((.land, len, a, b, t, u, x, y) :: r) d m pc L S h Q = (mj_pJJ S fun v w S1 => mj_wp r d m (pc + len) L (.long (v &&& w) :: S1) h Q) := Eq.trans rfl rfl
theorem wp_lor {len a b t u : Nat} {x : Int32} {y : Int64} {r : List mj_O} {d m pc : Nat} {L S : List Value} {h : mj_H} {Q : Option Value → mj_H → Prop} : mj_wp ((.lor, len, a, b, t, u, x, y) :: r) d m pc L S h Q = (mj_pJJ S fun v w S1 => mj_wp r d m (pc + len) L (.long (v ||| w) :: S1) h Q) := Eq.trans rfl rfl
theorem wp_lxor {len a b t u : Nat} {x : Int32} {y : Int64} {r : List mj_O} {d m pc : Nat} {L S : List Value} {h : mj_H} {Q : Option Value → mj_H → Prop} : mj_wp ((.lxor, len, a, b, t, u, x, y) :: r) d m pc L S h Q = (mj_pJJ S fun v w S1 => mj_wp r d m (pc + len) L (.long (v ^^^ w) :: S1) h Q) := Eq.trans rfl rfl
theorem wp_lcmp {len a b t u : Nat} {x : Int32} {y : Int64} {r : List mj_O} {d m pc : Nat} {L S : List Value} {h : mj_H} {Q : Option Value → mj_H → Prop} : mj_wp ((.lcmp, len, a, b, t, u, x, y) :: r) d m pc L S h Q = (mj_pJJ S fun v w S1 => mj_wp r d m (pc + len) L (.int (lg_cmp v w) :: S1) h Q) := Eq.trans rfl rfl
theorem wp_lneg {len a b t u : Nat} {x : Int32} {y : Int64} {r : List mj_O} {d m pc : Nat} {L S : List Value} {h : mj_H} {Q : Option Value → mj_H → Prop} : mj_wp ((.lneg, len, a, b, t, u, x, y) :: r) d m pc L S h Q = (mj_pJ S fun v S1 => mj_wp r d m (pc + len) L (.long (-v) :: S1) h Q) := Eq.trans rfl rfl
theorem wp_lshl {len a b t u : Nat} {x : Int32} {y : Int64} {r : List mj_O} {d m pc : Nat} {L S : List Value} {h : mj_H} {Q : Option Value → mj_H → Prop} : mj_wp ((.lshl, len, a, b, t, u, x, y) :: r) d m pc L S h Q = (mj_pIJ S fun v w S1 => mj_wp r d m (pc + len) L (.long (mj_js v w) :: S1) h Q) := Eq.trans rfl rfl
theorem wp_lushr {len a b t u : Nat} {x : Int32} {y : Int64} {r : List mj_O} {d m pc : Nat} {L S : List Value} {h : mj_H} {Q : Option Value → mj_H → Prop} : mj_wp ((.lushr, len, a, b, t, u, x, y) :: r) d m pc L S h Q = (mj_pIJ S fun v w S1 => mj_wp r d m (pc + len) L (.long (mj_ju v w) :: S1) h Q) := Eq.trans rfl rfl
theorem wp_i2l {len a b t u : Nat} {x : Int32} {y : Int64} {r : List mj_O} {d m pc : Nat} {L S : List Value} {h : mj_H} {Q : Option Value → mj_H → Prop} : mj_wp ((.i2l, len, a, b, t, u, x, y) :: r) d m pc L S h Q = (mj_pI S fun v S1 => mj_wp r d m (pc + len) L (.long v.toInt64 :: S1) h Q) := Eq.trans rfl rfl
theorem wp_l2i {len a b t u : Nat} {x : Int32} {y : Int64} {r : List mj_O} {d m pc : Nat} {L S : List Value} {h : mj_H} {Q : Option Value → mj_H → Prop} : mj_wp ((.l2i, len, a, b, t, u, x, y) :: r) d m pc L S h Q = (mj_pJ S fun v S1 => mj_wp r d m (pc + len) L (.int v.toInt32 :: S1) h Q) := Eq.trans rfl rfl
theorem wp_dup {len a b t u : Nat} {x : Int32} {y : Int64} {r : List mj_O} {d m pc : Nat} {L S : List Value} {h : mj_H} {Q : Option Value → mj_H → Prop} : mj_wp ((.dup, len, a, b, t, u, x, y) :: r) d m pc L S h Q = (mj_pD S fun v S1 => mj_wp r d m (pc + len) L (v :: v :: S1) h Q) := Eq.trans rfl rfl
theorem wp_dup2 {len a b t u : Nat} {x : Int32} {y : Int64} {r : List mj_O} {d m pc : Nat} {L S : List Value} {h : mj_H} {Q : Option Value → mj_H → Prop} : mj_wp ((.dup2, len, a, b, t, u, x, y) :: r) d m pc L S h Q = (mj_pIR S fun v r1 S1 => mj_wp r d m (pc + len) L (.int v :: .ref r1 :: .int v :: .ref r1 :: S1) h Q) := Eq.trans rfl rfl
theorem wp_pop {len a b t u : Nat} {x : Int32} {y : Int64} {r : List mj_O} {d m pc : Nat} {L S : List Value} {h : mj_H} {Q : Option Value → mj_H → Prop} : mj_wp ((.pop, len, a, b, t, u, x, y) :: r) d m pc L S h Q = (mj_pI S fun _ S1 => mj_wp r d m (pc + len) L S1 h Q) := Eq.trans rfl rfl
theorem wp_goto {len a b t u : Nat} {x : Int32} {y : Int64} {r : List mj_O} {d m pc : Nat} {L S : List Value} {h : mj_H} {Q : Option Value → mj_H → Prop} {k1 : Int} : mj_wp ((.goto k1, len, a, b, t, u, x, y) :: r) d m pc L S h Q = (mj_X d m a L S h Q) := Eq.trans rfl rfl
theorem wp_ifCond {len a b t u : Nat} {x : Int32} {y : Int64} {r : List mj_O} {d m pc : Nat} {L S : List Value} {h : mj_H} {Q : Option Value → mj_H → Prop} {k1 : Int} {c : ClassFile.Cond} : mj_wp ((.ifCond c k1, len, a, b, t, u, x, y) :: r) d m pc L S h Q = (mj_pI S fun v S1 => (mj_cz c v → mj_X d m a L S1 h Q) ∧ (¬ mj_cz c v → mj_kt r d m (pc + len) L Q S1 h)) := Eq.trans rfl rfl
theorem wp_if_icmp {len a b t u : Nat} {x : Int32} {y : Int64} {r : List mj_O} {d m pc : Nat} {L S : List Value} {h : mj_H} {Q : Option Value → mj_H → Prop} {k1 : Int} {c : ClassFile.Cond} : mj_wp ((.if_icmp c k1, len, a, b, t, u, x, y) :: r) d m pc L S h Q = (mj_pII S fun v w S1 => (mj_cc c v w → mj_X d m a L S1 h Q) ∧ (¬ mj_cc c v w → mj_kt r d m (pc + len) L Q S1 h)) := Eq.trans rfl rfl
theorem wp_ifnonnull {len a b t u : Nat} {x : Int32} {y : Int64} {r : List mj_O} {d m pc : Nat} {L S : List Value} {h : mj_H} {Q : Option Value → mj_H → Prop} {k1 : Int} : mj_wp ((.ifnonnull k1, len, a, b, t, u, x, y) :: r) d m pc L S h Q = (mj_pN S (fun S1 => mj_X d m a L S1 h Q) (fun S1 => mj_kt r d m (pc + len) L Q S1 h)) := Eq.trans rfl rfl
theorem wp_tableswitch {len a b t u : Nat} {x : Int32} {y : Int64} {r : List mj_O} {d m pc : Nat} {L S : List Value} {h : mj_H} {Q : Option Value → mj_H → Prop} {dflt lo hi : Int} {offs : Array Int} : mj_wp ((.tableswitch dflt lo hi offs, len, a, b, t, u, x, y) :: r) d m pc L S h Q = (mj_pI S fun v S1 => mj_X d m (mj_sw pc dflt lo hi offs v) L S1 h Q) := Eq.trans rfl rfl
theorem wp_getstatic {len a b t u : Nat} {x : Int32} {y : Int64} {r : List mj_O} {d m pc : Nat} {L S : List Value} {h : mj_H} {Q : Option Value → mj_H → Prop} {k1 : Nat} : mj_wp ((.getstatic k1, len, a, b, t, u, x, y) :: r) d m pc L S h Q = (mj_wp r d m (pc + len) L (.ref 0 :: S) h Q) := Eq.trans rfl rfl
theorem wp_getfield {len a b t u : Nat} {x : Int32} {y : Int64} {r : List mj_O} {d m pc : Nat} {L S : List Value} {h : mj_H} {Q : Option Value → mj_H → Prop} {k1 : Nat} : mj_wp ((.getfield k1, len, a, b, t, u, x, y) :: r) d m pc L S h Q = (mj_pR S fun r1 S1 => (mj_k h r1).1 = a + 3 ∧ mj_wp r d m (pc + len) L (mj_gv h t r1 b :: S1) h Q) := Eq.trans rfl rfl
theorem wp_putfield {len a b t u : Nat} {x : Int32} {y : Int64} {r : List mj_O} {d m pc : Nat} {L S : List Value} {h : mj_H} {Q : Option Value → mj_H → Prop} {k1 : Nat} : mj_wp ((.putfield k1, len, a, b, t, u, x, y) :: r) d m pc L S h Q = (mj_pF S t (fun v r1 S1 => (mj_k h r1).1 = a + 3 ∧ (t = 0 ∨ (t = 3 ∧ (v = 0 ∨ v = 1))) ∧ mj_wp r d m (pc + len) L S1 (mj_sI h r1 b v) Q) (fun v r1 S1 => (mj_k h r1).1 = a + 3 ∧ mj_wp r d m (pc + len) L S1 (mj_sJ h r1 b v) Q) (fun v r1 S1 => (mj_k h r1).1 = a + 3 ∧ mj_wp r d m (pc + len) L S1 (mj_sR h r1 b (some v)) Q)) := Eq.trans rfl rfl
theorem wp_iaload {len a b t u : Nat} {x : Int32} {y : Int64} {r : List mj_O} {d m pc : Nat} {L S : List Value} {h : mj_H} {Q : Option Value → mj_H → Prop} : mj_wp ((.iaload, len, a, b, t, u, x, y) :: r) d m pc L S h Q = (mj_pIR S fun v r1 S1 => (mj_k h r1).1 = 0 ∧ vp_in v (mj_k h r1).2 ∧ mj_wp r d m (pc + len) L (.int (mj_gI h r1 v.toNatClampNeg) :: S1) h Q) := Eq.trans rfl rfl
theorem wp_laload {len a b t u : Nat} {x : Int32} {y : Int64} {r : List mj_O} {d m pc : Nat} {L S : List Value} {h : mj_H} {Q : Option Value → mj_H → Prop} : mj_wp ((.laload, len, a, b, t, u, x, y) :: r) d m pc L S h Q = (mj_pIR S fun v r1 S1 => (mj_k h r1).1 = 1 ∧ vp_in v (mj_k h r1).2 ∧ mj_wp r d m (pc + len) L (.long (mj_gJ h r1 v.toNatClampNeg) :: S1) h Q) := Eq.trans rfl rfl
theorem wp_aaload {len a b t u : Nat} {x : Int32} {y : Int64} {r : List mj_O} {d m pc : Nat} {L S : List Value} {h : mj_H} {Q : Option Value → mj_H → Prop} : mj_wp ((.aaload, len, a, b, t, u, x, y) :: r) d m pc L S h Q = (mj_pIR S fun v r1 S1 => (mj_k h r1).1 = 2 ∧ vp_in v (mj_k h r1).2 ∧ mj_wp r d m (pc + len) L (va_rf (mj_gR h r1 v.toNatClampNeg) :: S1) h Q) := Eq.trans rfl rfl
theorem wp_iastore {len a b t u : Nat} {x : Int32} {y : Int64} {r : List mj_O} {d m pc : Nat} {L S : List Value} {h : mj_H} {Q : Option Value → mj_H → Prop} : mj_wp ((.iastore, len, a, b, t, u, x, y) :: r) d m pc L S h Q = (mj_pIIR S fun w v r1 S1 => (mj_k h r1).1 = 0 ∧ 2 ≤ r1 ∧ vp_in v (mj_k h r1).2 ∧ mj_wp r d m (pc + len) L S1 (mj_sI h r1 v.toNatClampNeg w) Q) := Eq.trans rfl rfl
theorem wp_lastore {len a b t u : Nat} {x : Int32} {y : Int64} {r : List mj_O} {d m pc : Nat} {L S : List Value} {h : mj_H} {Q : Option Value → mj_H → Prop} : mj_wp ((.lastore, len, a, b, t, u, x, y) :: r) d m pc L S h Q = (mj_pJIR S fun w v r1 S1 => (mj_k h r1).1 = 1 ∧ vp_in v (mj_k h r1).2 ∧ mj_wp r d m (pc + len) L S1 (mj_sJ h r1 v.toNatClampNeg w) Q) := Eq.trans rfl rfl
theorem wp_aastore {len a b t u : Nat} {x : Int32} {y : Int64} {r : List mj_O} {d m pc : Nat} {L S : List Value} {h : mj_H} {Q : Option Value → mj_H → Prop} : mj_wp ((.aastore, len, a, b, t, u, x, y) :: r) d m pc L S h Q = (mj_pRIR S fun q v r1 S1 => (mj_k h r1).1 = 2 ∧ (mj_k h q).1 = 3 ∧ vp_in v (mj_k h r1).2 ∧ mj_wp r d m (pc + len) L S1 (mj_sR h r1 v.toNatClampNeg (some q)) Q) := Eq.trans rfl rfl
theorem wp_arraylength {len a b t u : Nat} {x : Int32} {y : Int64} {r : List mj_O} {d m pc : Nat} {L S : List Value} {h : mj_H} {Q : Option Value → mj_H → Prop} : mj_wp ((.arraylength, len, a, b, t, u, x, y) :: r) d m pc L S h Q = (mj_pR S fun r1 S1 => (mj_k h r1).1 < 3 ∧ mj_wp r d m (pc + len) L (.int (Int32.ofNat (mj_k h r1).2) :: S1) h Q) := Eq.trans rfl rfl
theorem wp_newarray {len a b t u : Nat} {x : Int32} {y : Int64} {r : List mj_O} {d m pc : Nat} {L S : List Value} {h : mj_H} {Q : Option Value → mj_H → Prop} {ty : ArrayType} : mj_wp ((.newarray ty, len, a, b, t, u, x, y) :: r) d m pc L S h Q = (mj_pI S fun v S1 => ¬ v < 0 ∧ v.toNatClampNeg ≤ 1000000 ∧ (ty = .int ∨ ty = .long) ∧ mj_wp r d m (pc + len) L (.ref h.1 :: S1) (mj_new h (if ty = .int then 0 else 1) v.toNatClampNeg) Q) := Eq.trans rfl rfl
theorem wp_anewarray {len a b t u : Nat} {x : Int32} {y : Int64} {r : List mj_O} {d m pc : Nat} {L S : List Value} {h : mj_H} {Q : Option Value → mj_H → Prop} {k1 : Nat} : mj_wp ((.anewarray k1, len, a, b, t, u, x, y) :: r) d m pc L S h Q = (mj_pI S fun v S1 => ¬ v < 0 ∧ v.toNatClampNeg ≤ 1000000 ∧ mj_wp r d m (pc + len) L (.ref h.1 :: S1) (mj_new h 2 v.toNatClampNeg) Q) := Eq.trans rfl rfl
theorem wp_new {len a b t u : Nat} {x : Int32} {y : Int64} {r : List mj_O} {d m pc : Nat} {L S : List Value} {h : mj_H} {Q : Option Value → mj_H → Prop} {k1 : Nat} : mj_wp ((.new k1, len, a, b, t, u, x, y) :: r) d m pc L S h Q = (mj_wp r d m (pc + len) L (.ref h.1 :: S) (mj_new h (a + 3) b) Q) := Eq.trans rfl rfl
theorem wp_invokevirtual {len a b t u : Nat} {x : Int32} {y : Int64} {r : List mj_O} {d m pc : Nat} {L S : List Value} {h : mj_H} {Q : Option Value → mj_H → Prop} {k1 : Nat} : mj_wp ((.invokevirtual k1, len, a, b, t, u, x, y) :: r) d m pc L S h Q = (mj_wcall a b t u d S h (mj_kt r d m (pc + 3) L Q)) := Eq.trans rfl rfl
theorem wp_invokestatic {len a b t u : Nat} {x : Int32} {y : Int64} {r : List mj_O} {d m pc : Nat} {L S : List Value} {h : mj_H} {Q : Option Value → mj_H → Prop} {k1 : Nat} : mj_wp ((.invokestatic k1, len, a, b, t, u, x, y) :: r) d m pc L S h Q = (mj_wt t (mj_wcall a b t u d S h (mj_kt r d m (pc + 3) L Q)) (mj_pII S fun v w S1 => mj_ok4 S1 = true ∧ mj_dn d fun _ => mj_wp r d m (pc + 3) L (.int (if v < w then w else v) :: S1) h Q) (mj_pII S fun v w S1 => mj_ok4 S1 = true ∧ mj_dn d fun _ => mj_wp r d m (pc + 3) L (.int (if w < v then w else v) :: S1) h Q) (mj_pJJ S fun v w S1 => mj_ok4 S1 = true ∧ mj_dn d fun _ => mj_wp r d m (pc + 3) L (.long (if w < v then w else v) :: S1) h Q) (mj_pC S fun c w q v p S1 => mj_ok4 S1 = true ∧ (mj_dn d fun _ => True) ∧ (mj_k h p).1 = 0 ∧ (mj_k h q).1 = 0 ∧ 2 ≤ p ∧ 2 ≤ q ∧ ¬ v < 0 ∧ ¬ w < 0 ∧ ¬ c < 0 ∧ v.toNatClampNeg + c.toNatClampNeg ≤ (mj_k h p).2 ∧ w.toNatClampNeg + c.toNatClampNeg ≤ (mj_k h q).2 ∧ mj_wp r d m (pc + 3) L S1 (mj_cp h p q v.toNatClampNeg w.toNatClampNeg c.toNatClampNeg) Q)) := Eq.trans rfl rfl
theorem wp_invokespecial {len a b t u : Nat} {x : Int32} {y : Int64} {r : List mj_O} {d m pc : Nat} {L S : List Value} {h : mj_H} {Q : Option Value → mj_H → Prop} {k1 : Nat} : mj_wp ((.invokespecial k1, len, a, b, t, u, x, y) :: r) d m pc L S h Q = (mj_ws t (mj_wcall a b t u d S h (mj_kt r d m (pc + 3) L Q)) (mj_pR S fun _ S1 => mj_ok4 S1 = true ∧ mj_dn d fun _ => mj_wp r d m (pc + 3) L S1 h Q)) := Eq.trans rfl rfl
theorem wp_ireturn {len a b t u : Nat} {x : Int32} {y : Int64} {r : List mj_O} {d m pc : Nat} {L S : List Value} {h : mj_H} {Q : Option Value → mj_H → Prop} : mj_wp ((.ireturn, len, a, b, t, u, x, y) :: r) d m pc L S h Q = (mj_rI S fun v => (t = 0 ∨ v = 0 ∨ v = 1) ∧ Q (some (.int v)) h) := Eq.trans rfl rfl
theorem wp_lreturn {len a b t u : Nat} {x : Int32} {y : Int64} {r : List mj_O} {d m pc : Nat} {L S : List Value} {h : mj_H} {Q : Option Value → mj_H → Prop} : mj_wp ((.lreturn, len, a, b, t, u, x, y) :: r) d m pc L S h Q = (mj_rJ S fun v => Q (some (.long v)) h) := Eq.trans rfl rfl
theorem wp_areturn {len a b t u : Nat} {x : Int32} {y : Int64} {r : List mj_O} {d m pc : Nat} {L S : List Value} {h : mj_H} {Q : Option Value → mj_H → Prop} : mj_wp ((.areturn, len, a, b, t, u, x, y) :: r) d m pc L S h Q = (mj_rA S fun v => Q (some v) h) := Eq.trans rfl rfl
theorem wp_return_ {len a b t u : Nat} {x : Int32} {y : Int64} {r : List mj_O} {d m pc : Nat} {L S : List Value} {h : mj_H} {Q : Option Value → mj_H → Prop} : mj_wp ((.return_, len, a, b, t, u, x, y) :: r) d m pc L S h Q = (mj_rV S (Q none h)) := Eq.trans rfl rfl
theorem wp_nil {d m pc : Nat} {L S : List Value} {h : mj_H} {Q : Option Value → mj_H → Prop} : mj_wp [] d m pc L S h Q = mj_X d m pc L S h Q := Eq.trans rfl rfl
theorem wr_v {k : List Value → Prop} : mj_wr 0 none k = k [] := by simp [mj_wr]
theorem wr_i {x : Int32} {k : List Value → Prop} : mj_wr 1 (some (.int x)) k = k [.int x] := by simp [mj_wr]
theorem wr_l {x : Int64} {k : List Value → Prop} : mj_wr 2 (some (.long x)) k = k [.long x] := by simp [mj_wr]
theorem wr_r {x : Nat} {k : List Value → Prop} : mj_wr 3 (some (.ref x)) k = k [.ref x] := by
  apply propext
  constructor
  · rintro ⟨o, h1, h2⟩
    cases o with
    | none => cases h1
    | some a => cases h1; exact h2
  · intro h
    exact ⟨some x, rfl, h⟩
theorem rf_s {a : Nat} : va_rf (some a) = .ref a := Eq.trans rfl rfl
theorem rf_n : va_rf none = .null := Eq.trans rfl rfl
theorem k_sI {h : mj_H} {r k q : Nat} {v : Int32} : mj_k (mj_sI h r k v) q = mj_k h q := Eq.trans rfl rfl
theorem k_sJ {h : mj_H} {r k q : Nat} {v : Int64} : mj_k (mj_sJ h r k v) q = mj_k h q := Eq.trans rfl rfl
theorem k_sR {h : mj_H} {r k q : Nat} {v : Option Nat} : mj_k (mj_sR h r k v) q = mj_k h q := Eq.trans rfl rfl
theorem R_sI {h : mj_H} {r k q j : Nat} {v : Int32} : mj_gR (mj_sI h r k v) q j = mj_gR h q j := Eq.trans rfl rfl
theorem R_sJ {h : mj_H} {r k q j : Nat} {v : Int64} : mj_gR (mj_sJ h r k v) q j = mj_gR h q j := Eq.trans rfl rfl
theorem J_sI {h : mj_H} {r k q j : Nat} {v : Int32} : mj_gJ (mj_sI h r k v) q j = mj_gJ h q j := Eq.trans rfl rfl
theorem J_sR {h : mj_H} {r k q j : Nat} {v : Option Nat} : mj_gJ (mj_sR h r k v) q j = mj_gJ h q j := Eq.trans rfl rfl
theorem I_sJ {h : mj_H} {r k q j : Nat} {v : Int64} : mj_gI (mj_sJ h r k v) q j = mj_gI h q j := Eq.trans rfl rfl
theorem I_sR {h : mj_H} {r k q j : Nat} {v : Option Nat} : mj_gI (mj_sR h r k v) q j = mj_gI h q j := Eq.trans rfl rfl
theorem I_sI {h : mj_H} {r k q j : Nat} {v : Int32} : mj_gI (mj_sI h r k v) q j = if q = r ∧ j = k then v else mj_gI h q j := Eq.trans rfl rfl
theorem J_sJ {h : mj_H} {r k q j : Nat} {v : Int64} : mj_gJ (mj_sJ h r k v) q j = if q = r ∧ j = k then v else mj_gJ h q j := Eq.trans rfl rfl
theorem R_sR {h : mj_H} {r k q j : Nat} {v : Option Nat} : mj_gR (mj_sR h r k v) q j = if q = r ∧ j = k then v else mj_gR h q j := Eq.trans rfl rfl
theorem c1_J : mj_c1 mj_J = mj_J := Eq.trans rfl rfl
theorem c1_i {x : Int32} : mj_c1 (.int x) = .int x := Eq.trans rfl rfl
theorem c1_l {x : Int64} : mj_c1 (.long x) = mj_J := Eq.trans rfl rfl
theorem c1_r {x : Nat} : mj_c1 (.ref x) = .ref x := Eq.trans rfl rfl
theorem c1_n : mj_c1 .null = .null := Eq.trans rfl rfl
theorem c1_rf {o : Option Nat} : mj_c1 (va_rf o) = va_rf o := by cases o <;> rfl
theorem lc_eq {x y : Int64} : (lg_cmp x y = 0) = (x = y) := by
  unfold lg_cmp
  apply propext
  by_cases h1 : y < x
  · rw [if_pos h1]
    exact ⟨fun h => absurd h (by decide), fun h => by subst h; exact absurd h1 (Int64.lt_irrefl)⟩
  · rw [if_neg h1]
    by_cases h2 : x = y
    · rw [if_pos h2]; exact ⟨fun _ => h2, fun _ => rfl⟩
    · rw [if_neg h2]; exact ⟨fun h => absurd h (by decide), fun h => absurd h h2⟩
theorem lc_lt {x y : Int64} : (lg_cmp x y < 0) = (x < y) := by
  unfold lg_cmp
  apply propext
  by_cases h1 : y < x
  · rw [if_pos h1]
    exact ⟨fun h => absurd h (by decide), fun h => absurd (Int64.lt_trans h1 h) Int64.lt_irrefl⟩
  · rw [if_neg h1]
    by_cases h2 : x = y
    · rw [if_pos h2]; exact ⟨fun h => absurd h (by decide), fun h => by rw [h2] at h; exact absurd h Int64.lt_irrefl⟩
    · rw [if_neg h2]
      refine ⟨fun _ => ?_, fun _ => by decide⟩
      rw [Int64.lt_iff_toInt_lt] at h1 ⊢
      have h3 : x.toInt ≠ y.toInt := fun z => h2 (Int64.toInt_inj.mp z)
      omega
theorem lc_gt {x y : Int64} : (0 < lg_cmp x y) = (y < x) := by
  unfold lg_cmp
  apply propext
  by_cases h1 : y < x
  · rw [if_pos h1]; exact ⟨fun _ => h1, fun _ => by decide⟩
  · rw [if_neg h1]
    by_cases h2 : x = y
    · rw [if_pos h2]; exact ⟨fun h => absurd h (by decide), fun h => absurd h h1⟩
    · rw [if_neg h2]; exact ⟨fun h => absurd h (by decide), fun h => absurd h h1⟩
theorem lc_ge {x y : Int64} : (0 ≤ lg_cmp x y) = (y ≤ x) := by
  apply propext
  rw [← Int32.not_lt, ← Int64.not_lt, lc_lt]
theorem lc_le {x y : Int64} : (lg_cmp x y ≤ 0) = (x ≤ y) := by
  apply propext
  rw [← Int32.not_lt, ← Int64.not_lt, lc_gt]
theorem e_pI {S : List Value} {v : Int32} {k : Int32 → List Value → Prop} : mj_pI (.int v :: S) k = k v S := Eq.trans rfl rfl
theorem e_pJ {S : List Value} {v : Int64} {k : Int64 → List Value → Prop} : mj_pJ (.long v :: S) k = k v S := Eq.trans rfl rfl
theorem e_pR {S : List Value} {v : Nat} {k : Nat → List Value → Prop} : mj_pR (.ref v :: S) k = k v S := Eq.trans rfl rfl
theorem e_pA1 {S : List Value} {v : Nat} {k : Value → List Value → Prop} : mj_pA (.ref v :: S) k = k (.ref v) S := Eq.trans rfl rfl
theorem e_pA2 {S : List Value} {k : Value → List Value → Prop} : mj_pA (.null :: S) k = k .null S := Eq.trans rfl rfl
theorem e_pD1 {S : List Value} {v : Int32} {k : Value → List Value → Prop} : mj_pD (.int v :: S) k = k (.int v) S := Eq.trans rfl rfl
theorem e_pD2 {S : List Value} {v : Nat} {k : Value → List Value → Prop} : mj_pD (.ref v :: S) k = k (.ref v) S := Eq.trans rfl rfl
theorem e_pN1 {S : List Value} {v : Nat} {k1 k2 : List Value → Prop} : mj_pN (.ref v :: S) k1 k2 = k1 S := Eq.trans rfl rfl
theorem e_pN2 {S : List Value} {k1 k2 : List Value → Prop} : mj_pN (.null :: S) k1 k2 = k2 S := Eq.trans rfl rfl
theorem e_pII {S : List Value} {w v : Int32} {k : Int32 → Int32 → List Value → Prop} : mj_pII (.int w :: .int v :: S) k = k v w S := Eq.trans rfl rfl
theorem e_pJJ {S : List Value} {w v : Int64} {k : Int64 → Int64 → List Value → Prop} : mj_pJJ (.long w :: .long v :: S) k = k v w S := Eq.trans rfl rfl
theorem e_pIJ {S : List Value} {w : Int32} {v : Int64} {k : Int64 → Int32 → List Value → Prop} : mj_pIJ (.int w :: .long v :: S) k = k v w S := Eq.trans rfl rfl
theorem e_pIR {S : List Value} {v : Int32} {r : Nat} {k : Int32 → Nat → List Value → Prop} : mj_pIR (.int v :: .ref r :: S) k = k v r S := Eq.trans rfl rfl
theorem e_pIIR {S : List Value} {w v : Int32} {r : Nat} {k : Int32 → Int32 → Nat → List Value → Prop} : mj_pIIR (.int w :: .int v :: .ref r :: S) k = k w v r S := Eq.trans rfl rfl
theorem e_pJIR {S : List Value} {w : Int64} {v : Int32} {r : Nat} {k : Int64 → Int32 → Nat → List Value → Prop} : mj_pJIR (.long w :: .int v :: .ref r :: S) k = k w v r S := Eq.trans rfl rfl
theorem e_pRIR {S : List Value} {w : Nat} {v : Int32} {r : Nat} {k : Nat → Int32 → Nat → List Value → Prop} : mj_pRIR (.ref w :: .int v :: .ref r :: S) k = k w v r S := Eq.trans rfl rfl
theorem e_pF1 {S : List Value} {v : Int32} {t r : Nat} {k1 : Int32 → Nat → List Value → Prop} {k2 : Int64 → Nat → List Value → Prop} {k3 : Nat → Nat → List Value → Prop} : mj_pF (.int v :: .ref r :: S) t k1 k2 k3 = k1 v r S := Eq.trans rfl rfl
theorem e_pF2 {S : List Value} {v : Int64} {t r : Nat} {k1 : Int32 → Nat → List Value → Prop} {k2 : Int64 → Nat → List Value → Prop} {k3 : Nat → Nat → List Value → Prop} : mj_pF (.long v :: .ref r :: S) t k1 k2 k3 = (t = 1 ∧ k2 v r S) := Eq.trans rfl rfl
theorem e_pF3 {S : List Value} {v : Nat} {t r : Nat} {k1 : Int32 → Nat → List Value → Prop} {k2 : Int64 → Nat → List Value → Prop} {k3 : Nat → Nat → List Value → Prop} : mj_pF (.ref v :: .ref r :: S) t k1 k2 k3 = (t = 2 ∧ k3 v r S) := Eq.trans rfl rfl
theorem e_lI {x : Int32} {k : Int32 → Prop} : mj_lI (.int x) k = k x := Eq.trans rfl rfl
theorem e_lJ {x : Int64} {k : Int64 → Prop} : mj_lJ (.long x) k = k x := Eq.trans rfl rfl
theorem e_lA1 {x : Nat} {k : Value → Prop} : mj_lA (.ref x) k = k (.ref x) := Eq.trans rfl rfl
theorem e_lA2 {k : Value → Prop} : mj_lA .null k = k .null := Eq.trans rfl rfl
theorem e_rI {x : Int32} {k : Int32 → Prop} : mj_rI [.int x] k = k x := Eq.trans rfl rfl
theorem e_rJ {x : Int64} {k : Int64 → Prop} : mj_rJ [.long x] k = k x := Eq.trans rfl rfl
theorem e_rA1 {x : Nat} {k : Value → Prop} : mj_rA [.ref x] k = k (.ref x) := Eq.trans rfl rfl
theorem e_rA2 {k : Value → Prop} : mj_rA [.null] k = k .null := Eq.trans rfl rfl
theorem e_rV {k : Prop} : mj_rV [] k = k := Eq.trans rfl rfl
theorem e_pn0 {As S : List Value} {k : List Value → List Value → Prop} : mj_pn 0 As S k = k As S := Eq.trans rfl rfl
theorem e_pn1 {As S : List Value} {v : Value} {k : List Value → List Value → Prop} : mj_pn 1 As (v :: S) k = mj_pn 0 (v :: As) S k := Eq.trans rfl rfl
theorem e_pn2 {As S : List Value} {v : Value} {k : List Value → List Value → Prop} : mj_pn 2 As (v :: S) k = mj_pn 1 (v :: As) S k := Eq.trans rfl rfl
theorem e_pn3 {As S : List Value} {v : Value} {k : List Value → List Value → Prop} : mj_pn 3 As (v :: S) k = mj_pn 2 (v :: As) S k := Eq.trans rfl rfl
theorem e_pn4 {As S : List Value} {v : Value} {k : List Value → List Value → Prop} : mj_pn 4 As (v :: S) k = mj_pn 3 (v :: As) S k := Eq.trans rfl rfl
theorem e_pn5 {As S : List Value} {v : Value} {k : List Value → List Value → Prop} : mj_pn 5 As (v :: S) k = mj_pn 4 (v :: As) S k := Eq.trans rfl rfl
theorem e_dn {d : Nat} {k : Nat → Prop} : mj_dn (d + 1) k = k d := Eq.trans rfl rfl
theorem e_wt0 {k k5 k6 k7 k9 : Prop} : mj_wt 0 k k5 k6 k7 k9 = k := by simp [mj_wt]
theorem e_wt1 {k k5 k6 k7 k9 : Prop} : mj_wt 1 k k5 k6 k7 k9 = k := by simp [mj_wt]
theorem e_wt2 {k k5 k6 k7 k9 : Prop} : mj_wt 2 k k5 k6 k7 k9 = k := by simp [mj_wt]
theorem e_wt3 {k k5 k6 k7 k9 : Prop} : mj_wt 3 k k5 k6 k7 k9 = k := by simp [mj_wt]
theorem e_wt4 {k k5 k6 k7 k9 : Prop} : mj_wt 4 k k5 k6 k7 k9 = k := by simp [mj_wt]
theorem e_wt5 {k k5 k6 k7 k9 : Prop} : mj_wt 5 k k5 k6 k7 k9 = k5 := Eq.trans rfl rfl
theorem e_wt6 {k k5 k6 k7 k9 : Prop} : mj_wt 6 k k5 k6 k7 k9 = k6 := Eq.trans rfl rfl
theorem e_wt7 {k k5 k6 k7 k9 : Prop} : mj_wt 7 k k5 k6 k7 k9 = k7 := Eq.trans rfl rfl
theorem e_wt9 {k k5 k6 k7 k9 : Prop} : mj_wt 9 k k5 k6 k7 k9 = k9 := Eq.trans rfl rfl
theorem e_ws8 {k k8 : Prop} : mj_ws 8 k k8 = k8 := Eq.trans rfl rfl
theorem e_ws0 {k k8 : Prop} : mj_ws 0 k k8 = k := by simp [mj_ws]
theorem e_ws1 {k k8 : Prop} : mj_ws 1 k k8 = k := by simp [mj_ws]
theorem e_ws2 {k k8 : Prop} : mj_ws 2 k k8 = k := by simp [mj_ws]
theorem e_ws3 {k k8 : Prop} : mj_ws 3 k k8 = k := by simp [mj_ws]
theorem e_ws4 {k k8 : Prop} : mj_ws 4 k k8 = k := by simp [mj_ws]
theorem e_wc {a b t u d : Nat} {S : List Value} {h : mj_H} {K : List Value → mj_H → Prop} : mj_wcall a b t u d S h K = (mj_pn b [] S fun As S1 => mj_ok4 S1 = true ∧ mj_rc h u As ∧ mj_dn d fun d1 => mj_C d1 a As h fun v1 h1 => mj_wr t v1 fun vs => K (vs ++ S1) h1) := Eq.trans rfl rfl
