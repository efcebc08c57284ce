/-! SOUNDNESS of calls, and of a whole run -/
/-- the program's facts that a run rests on -/
def mj_Pg : Prop := (∀ M ∈ mj_prog, ∃ ct : mj_T, mj_okM ct M = true ∧ ∀ w ∈ ct.map (fun q => q.2), w ∈ mj_tbl) ∧
  ∀ (a : Nat) (M : mj_M) (f : Nat), mj_prog[a]? = some M → mj_fl[a]? = some f → f < 3 →
    (Cond.code M.1 M.2.1 M.2.2.1 M.2.2.2.1 ∈ mj_tbl ∧ Cond.initialized M.1.cls ∈ mj_tbl ∧ (f = 0 → Cond.static M.1 ∈ mj_tbl) ∧ (f = 1 → Cond.instanceMethod M.1 ∈ mj_tbl ∧ Cond.selects M.1.cls M.1 M.1 ∈ mj_tbl) ∧ (f = 2 → Cond.instanceMethod M.1 ∈ mj_tbl ∧ M.1.name = "<init>" ∧ M.2.2.2.1 = none)) ∧
    (M.1.cls ≠ "java/lang/invoke/MethodHandle" ∧ M.1.cls ≠ "java/lang/invoke/VarHandle") ∧ plainName M.1.cls = true ∧ M.2.2.1 ≤ 22
theorem mj_GI {ws : List Cond} (h : ∀ w ∈ ws, w ∈ mj_tbl) : GoodIn mj_tbl ws := fun w hw => ⟨h w hw, good_of_word (mj_good w (h w hw))⟩
theorem mj_look_mem : ∀ {bs : List (Nat × List mj_O)} {pc : Nat} {B : List mj_O}, mj_look bs pc = some B → (pc, B) ∈ bs
  | [], _, _, h => by cases h
  | (p, B0) :: r, pc, B, h => by
    rw [mj_look] at h
    by_cases hp : p = pc
    · rw [if_pos hp] at h
      cases h
      rw [hp]
      exact List.mem_cons_self
    · rw [if_neg hp] at h
      exact List.mem_cons_of_mem _ (mj_look_mem h)
theorem mj_blk_seg {a pc : Nat} {B : List mj_O} {M : mj_M} {ct : mj_T} (h : mj_blk a pc = some B) (hM : mj_prog[a]? = some M) (hok : mj_okM ct M = true) : mj_seg ct M pc B = true := by
  unfold mj_blk at h
  rw [hM] at h
  exact List.all_eq_true.mp hok (pc, B) (mj_look_mem h)
theorem mj_mx_of {a k : Nat} {M : mj_M} (h : mj_mx a = some k) (hM : mj_prog[a]? = some M) : k = M.2.2.1 := by
  unfold mj_mx at h
  rw [hM] at h
  exact (Option.some.inj h).symm
theorem mj_kd_cases (i : Instr) (len a b t u : Nat) (x : Int32) (y : Int64) : mj_kd (i, len, a, b, t, u, x, y) = 0 ∨ mj_kd (i, len, a, b, t, u, x, y) = 2 ∨ (∃ k, i = .invokevirtual k ∧ mj_kd (i, len, a, b, t, u, x, y) = 1) ∨ (∃ k, i = .invokestatic k ∧ mj_kd (i, len, a, b, t, u, x, y) = if t = 9 then 4 else if 5 ≤ t then t else 1) ∨ (∃ k, i = .invokespecial k ∧ mj_kd (i, len, a, b, t, u, x, y) = if t = 8 then 3 else 1) := by
  cases i <;> simp [mj_kd]
theorem mj_push_vs {as : List Nat} {t : Nat} {v w : Option Value} {vs : List Value} (h : mj_push t v = some vs) (ho : mj_ov as v w) : mj_vs as vs w.toList := by
  unfold mj_push at h
  split at h
  · cases h
    cases w with
    | none => exact trivial
    | some w => exact ho.elim
  · cases h
    cases w with
    | none => exact ho.elim
    | some w => exact ⟨ho, trivial⟩
  · cases h
    cases w with
    | none => exact ho.elim
    | some w => exact ⟨ho, trivial⟩
  · cases h
    cases w with
    | none => exact ho.elim
    | some w => exact ⟨ho, trivial⟩
  · cases h
    cases w with
    | none => exact ho.elim
    | some w => exact ⟨ho, trivial⟩
  · cases h
/-- what is said of a run of n steps at most -/
def mj_Body (n : Nat) : Prop := ∀ (d a pc : Nat) (ops : List mj_O) (L S : List Value) (h : mj_H) (v : Option Value) (h' : mj_H) (M : mj_M) (ct : mj_T), mj_run n d a pc ops L S h = some (v, h') → mj_prog[a]? = some M → mj_okM ct M = true → mj_seg ct M pc ops = true →
  ∀ (p : Program) (l : Launch) (e : Env) (R : Room) (s : State) (m : MethodId) (args : Array Value) (below : List Frame) (meth : Method) (c : Code) (Q : State → Prop) (G : mj_G) (D : va_G) (A : Nat → Prop) (t0 b L0 : Nat) (xs : Nat → Int32) (n0 z0 : Nat) (as0 : List Nat),
    mj_Cx p s m args meth c R G D A t0 b L0 xs M ct d → h'.1 ≤ n0 + R.cells → h'.2.1 ≤ z0 + R.slots →
    (∀ (o : mj_O) (pc : Nat) (L S : List Value), mj_okO ct M pc o = true → decode M.2.1 pc = .ok (o.1, o.2.1) → mj_rt o S = some v → mj_K p l e R s m args below meth c Q G D A t0 b L0 xs as0 M.2.2.1 n0 z0 pc L S h') →
    mj_K p l e R s m args below meth c Q G D A t0 b L0 xs as0 M.2.2.1 n0 z0 pc L S h
/-- what a callee is given -/
def mj_Fx (G : mj_G) (D : va_G) (t0 b L0 : Nat) (xs : Nat → Int32) (ws : va_W) (H : Heap) (U : State) : Prop :=
  U.heap = H ∧ va_K D vwCl [(G.1, .int), (G.2.1, .long), (G.2.2, .object "HeapSquares$HeapList")] U ∧ va_AO "HeapSquares$HeapList" U ∧ va_Z "HeapSquares$Lists" "HEAPS_BY_STEPS" "[I" (.ref t0) (va_A ws H.size) U H ∧
  (mj_TX t0 6 mj_hbs U H ∧ t0 < H.size ∧ ¬ va_A ws H.size t0) ∧ (mj_TX b L0 xs U H ∧ b < H.size ∧ ¬ va_A ws H.size b)
theorem mj_Fx.moved {G : mj_G} {D : va_G} {t0 b L0 : Nat} {xs : Nat → Int32} {ws : va_W} {H : Heap} {u U : State} (hvm : u.vm.Alike U.vm) (hH : U.heap = H) (h : mj_Fx G D t0 b L0 xs ws H u) : mj_Fx G D t0 b L0 xs ws H U := by
  obtain ⟨h1, h2, h3, h4, ⟨h5, h6, h7⟩, ⟨h8, h9, h10⟩⟩ := h
  exact ⟨hH, va_K.moved hvm h2, va_AO.moved hvm h3, va_Z.moved hvm h4, ⟨mj_TX.moved hvm h5, h6, h7⟩, ⟨mj_TX.moved hvm h8, h9, h10⟩⟩
set_option maxHeartbeats 4000000 in
theorem mj_met {n : Nat} (hB : mj_Body n) (hPg : mj_Pg) {l : Launch} {d a k f : Nat} {As : List Value} {h h1 : mj_H} {v1 : Option Value} {M : mj_M} (hrun : mj_run n d a 0 [] (mj_en As k) [] h = some (v1, h1)) (hM : mj_prog[a]? = some M) (hk : k = M.2.2.1) (hew : mj_ew As k = true) (hfl : mj_fl[a]? = some f) (hf : f < 3)
    {G : mj_G} {D : va_G} {A : Nat → Prop} {t0 b L0 : Nat} {xs : Nat → Int32} {ws : va_W} {H : Heap} {av : List Value} (hP : va_P D vwCl ws H) (hD : va_D A ws) (hh : mj_hr G t0 b ws h) (ho : mj_old L0 xs h) (hav : mj_vs (mj_as t0 b ws) As av) :
    Met l M.1 (Cond.code M.1 M.2.1 M.2.2.1 M.2.2.2.1 :: mj_tbl) ({ frames := d, cells := h1.1 - h.1, slots := h1.2.1 - h.2.1, locals := 41 * d }) (va_Pc av (mj_Fx G D t0 b L0 xs ws H)) (mj_Qc G D (va_A ws H.size) t0 b L0 xs (mj_as t0 b ws) v1 h1) (h1.1 - h.1) (h1.2.1 - h.2.1) (va_A ws H.size) := by
  obtain ⟨ct, hct1, hct2⟩ := hPg.1 M (List.mem_of_getElem? hM)
  obtain ⟨-, -, hpl, -⟩ := hPg.2 a M f hM hfl hf
  refine Met.ofW (cc := M.2.1) (maxL := M.2.2.1) (ret := M.2.2.2.1) hpl rfl ?_
  intro p e s m args below meth c s₁ B hml hv
  obtain ⟨rfl, hH, hK, hao, hZ, hT, hX⟩ := hv
  subst hH
  have hts := atoms_spec (ws := Cond.code M.1 M.2.1 M.2.2.1 M.2.2.2.1 :: mj_tbl) B.pre
  have hown : s.vm.findClass M.1.cls = some m.cls := findClass_of_methodNamed B.named
  have hnm : meth.name = M.1.name := (name_of_methodNamed B.named B.method).1
  have C0 : mj_Cx p s m av.toArray meth c ({ frames := d, cells := h1.1 - h.1, slots := h1.2.1 - h.2.1, locals := 41 * d }) G D (va_A ws s.heap.size) t0 b L0 xs M ct d :=
    ⟨B.exec, B.bytes, hml, hown, fun w hw => hts w (List.mem_cons_of_mem _ hw), hK, fun q hq => Or.inr hq, hao, hZ, hT, hX, fun z => hnm.trans z, hct2, Nat.le_refl _, Nat.le_refl _⟩
  obtain ⟨m1, m2⟩ := mj_run_mono _ _ _ _ _ _ _ _ _ _ hrun
  have K := hB d a 0 [] (mj_en As k) [] h v1 h1 M ct hrun hM hct1 rfl p l e ({ frames := d, cells := h1.1 - h.1, slots := h1.2.1 - h.2.1, locals := 41 * d }) s m av.toArray below meth c
    (MQ below (mj_Qc G D (va_A ws s.heap.size) t0 b L0 xs (mj_as t0 b ws) v1 h1) av.toArray s (h1.1 - h.1) (h1.2.1 - h.2.1) (va_A ws s.heap.size)) G D (va_A ws s.heap.size) t0 b L0 xs h.1 h.2.1 (mj_as t0 b ws) C0 (by show h1.1 ≤ h.1 + (h1.1 - h.1); omega) (by show h1.2.1 ≤ h.2.1 + (h1.2.1 - h.2.1); omega)
    (fun o pc L S h5 h6 h7 => mj_fin C0 B.returns B.notSynchronized h5 h6 h7)
  rw [lg_entry_eq]
  subst hk
  have W0 := K s.heap [] _ [] ws ⟨hP, hD.self, va_S.rf, hh, ho, mj_lr_en hav hew, trivial, mj_en_len As _ hew, mj_xt.rf⟩ (Nat.le_refl _) (Nat.le_refl _)
  exact W.cs (Nat.sub_self _).symm (Nat.sub_self _).symm W0
