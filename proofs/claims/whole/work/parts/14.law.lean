/-! THE CLAIM OUT OF ONE WALK OF THE LAW'S BODY. Your part is whole_start (and what it stands on); all else here is the same for every law, but numbers. -/
def R_law : String := "HeapSquaresLaw"
def lw_P (b : Addr) (xs : List Int32) (args : Array Value) (s : State) : Prop := args = #[.ref b] ∧ s.IntsAt b xs ∧ xs.length ≤ 2560 ∧ (Jvm.Cond.and given_1 narrow_1).before args s = true
def lw_Q (_ : Array Value) (s : State) (o : Outcome) (t : State) : Prop := o = .returned (some (.int 1)) ∧ Framed s o t [] 600000 7302250
def lw_Z (below : List Frame) (a : Array Value) (s : State) : State → Prop := fun t => ∃ o, t.status = .running ∧ Ended t below o ∧ lw_Q a s o t
/-- the law's own end, with 1 on the stack, nothing written that was there before, its room as the claim has it -/
theorem lw_ret {p : Program} {l : Launch} {e : Env} {s : State} {m : MethodId} {below : List Frame} {meth : Method} {c : Code} {b : Nat} (hx : p.tables.exec = Jvm.exec) (hb : c.code = code) (hr : meth.sig.returnType = ret) (hlocks : meth.locks = false) {pc : Nat} {H : Heap} {ls : Array Slot} (hdg : decode code pc = .ok (.ireturn, 1)) : W p l e room_1 s m #[Value.ref b] below meth c H [] 600000 7302250 (lw_Z below #[Value.ref b] s) (F0 m pc ls [.int 1]) := by
  intro T hT X
  obtain ⟨fs, hret, hrun, hended, hW, hframe⟩ := X.leave (v := some (.int 1)) (hlocks := hlocks) (fun h => by rw [hr] at h; cases h)
  have hmeth' : T.vm.method? m = some meth := X.method'
  refine ⟨T.setFrames fs, ?_, .returned (some (.int 1)), hrun, hended, rfl, ⟨_, rfl⟩, hW, hframe⟩
  jvm_step X.here [X.here.top, hx, hb, hdg, hmeth', hr, ret, narrow_b1]
  (try refine ⟨rfl, ?_⟩); (try refine ⟨rfl, ?_⟩)
  first | (intro acts; rw [hret _ acts rfl rfl rfl]) | rw [hret _ _ rfl rfl rfl]
  exact Steps.refl _
/-- what holds at the law's entry: the machine, the code, the tables' words (any of lw_tbl by 'hts w (by decide +kernel)'), the script of L ints xs at the cell b, what the Statement gives of the start (any of its parts by flat_of_before) -/
def lw_At (p : Program) (s : State) (m : MethodId) (meth : Method) (c : Code) (b L : Nat) (xs : Nat → Int32) : Prop :=
  p.tables.exec = Jvm.exec ∧ c.code = code ∧ meth.sig.returnType = ret ∧ c.maxLocals = 4 ∧ s.vm.findClass R_law = some m.cls ∧ (∀ w ∈ lw_tbl, w.before #[Value.ref b] s = true) ∧ va_X b L xs s s.heap ∧ b < s.heap.size ∧ meth.locks = false ∧ (Jvm.Cond.and given_1 narrow_1).before #[Value.ref b] s = true
/-! from a run of the mini machine to the claim -/
def mj_h0 (L : Nat) (xs : Nat → Int32) : mj_H := (2, 0, (fun r => if r = 0 then (0, 6) else if r = 1 then (0, L) else (0, 0)), (fun r k => if r = 0 then mj_hbs k else if r = 1 then xs k else 0), (fun _ _ => 0), (fun _ _ => none))
theorem mj_rt_int {o : mj_O} {S : List Value} {w : Int32} (h : mj_rt o S = some (some (.int w))) : o.1 = .ireturn ∧ S = [.int w] := by
  obtain ⟨i, len, a, b, t, u, x, y⟩ := o
  cases i with
  | ireturn =>
    simp only [mj_rt] at h
    split at h
    · obtain ⟨-, h⟩ := mj_ifs h
      cases h
      exact ⟨rfl, rfl⟩
    · cases h
  | lreturn =>
    simp only [mj_rt] at h
    split at h <;> cases h
  | areturn =>
    simp only [mj_rt] at h
    split at h <;> cases h
  | return_ =>
    simp only [mj_rt] at h
    split at h <;> cases h
  | _ => simp [mj_rt] at h
set_option maxHeartbeats 4000000 in
/-- the claim's walk, out of a run of the law over the mini machine -/
theorem mj_start (hrun : ∀ (L : Nat) (xs : Nat → Int32), L ≤ 2560 → ∃ (n : Nat) (h' : mj_H), mj_run n 100 176 0 [] [.ref 1, mj_J, mj_J, mj_J] [] (mj_h0 L xs) = some (some (.int 1), h') ∧ h'.1 ≤ 600002 ∧ h'.2.1 ≤ 7302250)
    {p : Program} {e : Env} {s : State} {m : MethodId} {below : List Frame} {meth : Method} {c : Code} (l : Launch) {b L : Nat} {xs : Nat → Int32} (hL : L ≤ 2560) (C0 : lw_At p s m meth c b L xs) : W p l e room_1 s m #[Value.ref b] below meth c s.heap [] 0 0 (lw_Z below #[Value.ref b] s) (entryFrame m ([Value.ref b] : List Value).toArray 4) := by
  obtain ⟨hx, hb, hr, hml, hown, hts, hX, hbl, hlocks, hgv⟩ := id C0
  obtain ⟨n, h', hrun, hc1, hc2⟩ := hrun L xs hL
  have hts2 : ∀ w ∈ mj_tbl, w.before #[Value.ref b] s = true := fun w hw => hts w (List.mem_filter.mp hw).1
  -- the arrays' classes
  obtain ⟨cI, kI, compI, hI1, hI2, hI3⟩ := Cond.arrayClass_spec (hts2 _ (mj_tb.2.1 _ (List.mem_of_getElem? (i := 0) rfl) : Cond.arrayClass .int ∈ mj_tbl))
  obtain ⟨cJ, kJ, compJ, hJ1, hJ2, hJ3⟩ := Cond.arrayClass_spec (hts2 _ (mj_tb.2.1 _ (List.mem_of_getElem? (i := 1) rfl) : Cond.arrayClass .long ∈ mj_tbl))
  have hover : (Cond.arrayOver (.object "HeapSquares$HeapList")).before #[Value.ref b] s = true := hts _ (List.mem_of_getElem? (i := 66) (by decide +kernel))
  obtain ⟨compR, cR, kR, hR1, hR2, hR3, hR4, hR5⟩ := Cond.arrayOver_spec hover
  -- the classes
  have hcls : ∀ k : Nat, ∃ (cC : ClassId) (iS : Nat → Nat), ∀ q : vw_C, vwCl[k]? = some q → u_Kn s q.1 q.2.1 q.2.2 cC iS := by
    intro k
    cases hk : vwCl[k]? with
    | none => exact ⟨0, fun _ => 0, fun q h => by cases h⟩
    | some q =>
      obtain ⟨C, T, N⟩ := q
      obtain ⟨hi1, hi2⟩ := mj_insts mj_tb.2.1 hk
      obtain ⟨c0, iS0, hK0⟩ := u_known (C := C) (T := T) (N := N) (n := N) hts2 (mj_tb.1 (C, T, N) (List.mem_of_getElem? hk)) (hts2 _ hi1)
      exact ⟨c0, iS0, fun q h => by cases h; exact hK0⟩
  obtain ⟨dC, hdC⟩ := Classical.axiomOfChoice hcls
  obtain ⟨dI, hdI⟩ := Classical.axiomOfChoice hdC
  have hK : va_K (dC, dI) vwCl [(cI, .int), (cJ, .long), (cR, .object "HeapSquares$HeapList")] s := by
    refine ⟨fun k q hk => hdI k q hk, fun k q hk => ?_⟩
    match k, hk with
    | 0, hk => cases hk; exact ⟨fun n z => ⟨fun k h => (by cases h), kI, hI2, compI, hI3⟩, hI1⟩
    | 1, hk => cases hk; exact ⟨fun n z => ⟨fun k h => (by cases h), kJ, hJ2, compJ, hJ3⟩, hJ1⟩
    | 2, hk => cases hk; exact ⟨fun n z => ⟨fun k h => (by cases h), kR, hR3, compR, hR4⟩, kR, compR, hR3, hR4, hR1, hR5⟩
    | k + 3, hk => simp at hk
  -- the static row
  have hs := flat_of_before _ hgv
  have hA0 : ∀ a : Nat, a < s.heap.size → ¬ (fun q : Nat => s.heap.size ≤ q) a := fun a h => Nat.not_le.mpr h
  obtain ⟨t0, ht0, hT0⟩ := va_Tof (tm := .static "HeapSquares$Lists" "HEAPS_BY_STEPS" "[I") (ty := .int) (N := 6) (f := fun j => .int (mj_hbs j)) (A := fun q : Nat => s.heap.size ≤ q) (by decide) (hs _ (by decide +kernel)) (va_eqt (hs _ (by decide +kernel)))
    (fun j hj => by
      match j, hj with
      | 0, _ => exact va_eqt (hs _ (by decide +kernel))
      | 1, _ => exact va_eqt (hs _ (by decide +kernel))
      | 2, _ => exact va_eqt (hs _ (by decide +kernel))
      | 3, _ => exact va_eqt (hs _ (by decide +kernel))
      | 4, _ => exact va_eqt (hs _ (by decide +kernel))
      | 5, _ => exact va_eqt (hs _ (by decide +kernel))
      | j + 6, hj => exact absurd hj (by omega)) hA0
  obtain ⟨cell0, u1, u2, u3, u4, u5, u6, u7⟩ := hT0
  have hlt0 : t0 < s.heap.size := (Array.getElem?_eq_some_iff.mp u1).1
  have hZ : va_Z "HeapSquares$Lists" "HEAPS_BY_STEPS" "[I" (.ref t0) (fun q : Nat => s.heap.size ≤ q) s s.heap :=
    va_Zof (hts _ (List.mem_of_getElem? (i := 403) (by decide +kernel))) (hts2 _ (mj_tb.2.1 _ (List.mem_of_getElem? (i := 10) rfl) : Cond.initialized RX1 ∈ mj_tbl)) ht0 hA0
  have hXT : mj_TX b L xs s s.heap := by
    obtain ⟨scr, x1, x2, x3, x4, x5⟩ := hX
    exact ⟨scr, x1, x2, x3, by omega, by rw [x4], x5⟩
  have hM : mj_prog[176]? = some mj_M176 := rfl
  obtain ⟨ct, hct1, hct2⟩ := mj_pg.1 mj_M176 (List.mem_of_getElem? hM)
  have C1 : mj_Cx p s m #[Value.ref b] meth c room_1 (cI, cJ, cR) (dC, dI) (fun q : Nat => s.heap.size ≤ q) t0 b L xs mj_M176 ct 100 :=
    ⟨hx, hb, hml, hown, hts2, hK, fun q h => h, va_AO.of hover, hZ, ⟨⟨cell0, u1, u2, u3, u4, u5, fun j hj => u6 j hj⟩, hlt0, u7⟩, ⟨hXT, hbl, Nat.not_le.mpr hbl⟩, fun z => absurd z (by decide), hct2, by show 100 ≤ 2048; decide, by show 41 * 100 ≤ 84000; decide⟩
  have K := mj_sound mj_tb mj_pg n 100 176 0 [] _ [] (mj_h0 L xs) _ h' mj_M176 ct hrun hM hct1 rfl p l e room_1 s m #[Value.ref b] below meth c (lw_Z below #[Value.ref b] s) (cI, cJ, cR) (dC, dI) (fun q : Nat => s.heap.size ≤ q) t0 b L xs 2 0 [] C1 (by show h'.1 ≤ 2 + 600000; omega) (by show h'.2.1 ≤ 0 + 7302250; omega)
    (fun o pc L' S' hok hdec hrt => by
      obtain ⟨e1, rfl⟩ := mj_rt_int hrt
      obtain ⟨i, len, a, b1, t, u, x, y⟩ := o
      dsimp only at e1 hdec
      subst e1
      simp only [mj_okO, Bool.and_eq_true, decide_eq_true_eq] at hok
      obtain ⟨rfl, -⟩ := hok
      intro H locs ls st ws hR g1 g2
      obtain ⟨hP, hD, hS, hh, ho, hl, hv, hn, ha⟩ := hR
      obtain ⟨w1, st1, rfl, f1, hv1⟩ := mj_vs_c hv
      obtain rfl := mj_vr_i f1
      obtain rfl := mj_vs_nil hv1
      refine va_forget hS.2.2 ?_
      refine W.widen (k := 600000) (n := 7302250) (by omega) (by omega) ?_
      exact lw_ret hx hb hr hlocks hdec)
  rw [lg_entry_eq]
  have W0 := K s.heap [] _ [] [] ⟨fun k q h => by simp at h, ⟨fun i j p q h => by simp at h, fun k q h => by simp at h⟩, va_S.rf, ⟨rfl, fun k q h => by simp at h⟩, ⟨rfl, rfl, fun j hj => rfl, fun j hj => rfl⟩, mj_lr_en (As := [.ref 1]) (vs := [.ref b]) (n := 4) ⟨⟨b, rfl, rfl⟩, trivial⟩ rfl, trivial, rfl, fun k q h => by simp at h⟩ (Nat.le_refl _) (Nat.le_refl _)
  exact W0
