/-! SOUNDNESS of the mini machine: values, locals, cells -/
def mj_vr (as : List Nat) (v w : Value) : Prop := match v with
  | .ref k => ∃ q, as[k]? = some q ∧ w = .ref q
  | v => w = v
def mj_vs (as : List Nat) : List Value → List Value → Prop
  | [], [] => True
  | v :: S, w :: st => mj_vr as v w ∧ mj_vs as S st
  | _, _ => False
def mj_or (as : List Nat) (o o' : Option Nat) : Prop := match o with
  | none => o' = none
  | some k => ∃ q, as[k]? = some q ∧ o' = some q
def mj_xt (as as' : List Nat) : Prop := ∀ (k q : Nat), as[k]? = some q → as'[k]? = some q
theorem mj_xt.rf {as : List Nat} : mj_xt as as := fun _ _ h => h
theorem mj_xt.tr {a b c : List Nat} (h1 : mj_xt a b) (h2 : mj_xt b c) : mj_xt a c := fun k q h => h2 k q (h1 k q h)
theorem mj_vr.xt {as as' : List Nat} {v w : Value} (h : mj_xt as as') (hv : mj_vr as v w) : mj_vr as' v w := by
  cases v with
  | ref k => obtain ⟨q, h1, h2⟩ := hv; exact ⟨q, h k q h1, h2⟩
  | _ => exact hv
theorem mj_vs.xt {as as' : List Nat} (h : mj_xt as as') : ∀ {S st : List Value}, mj_vs as S st → mj_vs as' S st
  | [], [], _ => trivial
  | _ :: _, _ :: _, hv => ⟨hv.1.xt h, mj_vs.xt h hv.2⟩
  | [], _ :: _, hv => hv.elim
  | _ :: _, [], hv => hv.elim
theorem mj_or.xt {as as' : List Nat} {o o' : Option Nat} (h : mj_xt as as') (hv : mj_or as o o') : mj_or as' o o' := by
  cases o with
  | none => exact hv
  | some k => obtain ⟨q, h1, h2⟩ := hv; exact ⟨q, h k q h1, h2⟩
theorem mj_vr.cat {as : List Nat} {v w : Value} (h : mj_vr as v w) : w.category = v.category := by
  cases v with
  | ref k => obtain ⟨q, -, rfl⟩ := h; rfl
  | _ => rw [show w = _ from h]
theorem mj_vr_i {as : List Nat} {x : Int32} {w : Value} (h : mj_vr as (.int x) w) : w = .int x := h
theorem mj_vr_l {as : List Nat} {x : Int64} {w : Value} (h : mj_vr as (.long x) w) : w = .long x := h
theorem mj_vr_n {as : List Nat} {w : Value} (h : mj_vr as .null w) : w = .null := h
theorem mj_vr_r {as : List Nat} {k : Nat} {w : Value} (h : mj_vr as (.ref k) w) : ∃ q, as[k]? = some q ∧ w = .ref q := h
theorem mj_vr_rf {as : List Nat} {o : Option Nat} {w : Value} (h : mj_vr as (va_rf o) w) : ∃ o', w = va_rf o' ∧ mj_or as o o' := by
  cases o with
  | none => exact ⟨none, h, rfl⟩
  | some k => obtain ⟨q, h1, h2⟩ := h; exact ⟨some q, h2, q, h1, rfl⟩
theorem mj_rf_vr {as : List Nat} {o o' : Option Nat} (h : mj_or as o o') : mj_vr as (va_rf o) (va_rf o') := by
  cases o with
  | none => rw [show o' = none from h]; exact rfl
  | some k => obtain ⟨q, h1, rfl⟩ := h; exact ⟨q, h1, rfl⟩
theorem mj_vs_c {as : List Nat} {v : Value} {S st : List Value} (h : mj_vs as (v :: S) st) : ∃ w st', st = w :: st' ∧ mj_vr as v w ∧ mj_vs as S st' := by
  cases st with
  | nil => exact h.elim
  | cons w st' => exact ⟨w, st', rfl, h.1, h.2⟩
theorem mj_vs_nil {as : List Nat} {st : List Value} (h : mj_vs as [] st) : st = [] := by
  cases st with
  | nil => rfl
  | cons w st' => exact h.elim
theorem mj_vs_app {as : List Nat} : ∀ {T S st : List Value}, mj_vs as (T ++ S) st → ∃ t1 t2, st = t1 ++ t2 ∧ mj_vs as T t1 ∧ mj_vs as S t2
  | [], S, st, h => ⟨[], st, rfl, trivial, h⟩
  | v :: T, S, st, h => by
    obtain ⟨w, st', rfl, h1, h2⟩ := mj_vs_c (S := T ++ S) h
    obtain ⟨t1, t2, rfl, h3, h4⟩ := mj_vs_app h2
    exact ⟨w :: t1, t2, rfl, ⟨h1, h3⟩, h4⟩
theorem mj_vs_join {as : List Nat} : ∀ {T S t1 t2 : List Value}, mj_vs as T t1 → mj_vs as S t2 → mj_vs as (T ++ S) (t1 ++ t2)
  | [], S, t1, t2, h1, h2 => by rw [mj_vs_nil h1]; exact h2
  | v :: T, S, t1, t2, h1, h2 => by
    obtain ⟨w, st', rfl, h3, h4⟩ := mj_vs_c h1
    exact ⟨h3, mj_vs_join h4 h2⟩
theorem mj_vs_rev {as : List Nat} : ∀ {T t : List Value}, mj_vs as T t → mj_vs as T.reverse t.reverse
  | [], t, h => by rw [mj_vs_nil h]; exact trivial
  | v :: T, t, h => by
    obtain ⟨w, st', rfl, h3, h4⟩ := mj_vs_c h
    rw [List.reverse_cons, List.reverse_cons]
    exact mj_vs_join (mj_vs_rev h4) ⟨h3, trivial⟩
theorem mj_vs_len {as : List Nat} : ∀ {T t : List Value}, mj_vs as T t → t.length = T.length
  | [], t, h => by rw [mj_vs_nil h]
  | v :: T, t, h => by
    obtain ⟨w, st', rfl, h3, h4⟩ := mj_vs_c h
    rw [List.length_cons, List.length_cons, mj_vs_len h4]
theorem mj_vs_cat {as : List Nat} : ∀ {T t : List Value}, mj_vs as T t → t.map (fun v => v.category) = T.map (fun v => v.category)
  | [], t, h => by rw [mj_vs_nil h]
  | v :: T, t, h => by
    obtain ⟨w, st', rfl, h3, h4⟩ := mj_vs_c h
    rw [List.map_cons, List.map_cons, mj_vs_cat h4, h3.cat]
theorem mj_cat2 (v : Value) : v.category ≤ 2 := by rcases lv_cat v with h | h <;> omega
theorem mj_ok4_le {S : List Value} (h : mj_ok4 S = true) : (S.map (fun v => v.category)).sum ≤ 8 := by
  match S, h with
  | [], _ => simp
  | [a], _ => have := mj_cat2 a; simp; omega
  | [a, b], _ => have := mj_cat2 a; have := mj_cat2 b; simp; omega
  | [a, b, c], _ => have := mj_cat2 a; have := mj_cat2 b; have := mj_cat2 c; simp; omega
  | [a, b, c, d], _ => have := mj_cat2 a; have := mj_cat2 b; have := mj_cat2 c; have := mj_cat2 d; simp; omega
theorem mj_pop_spec : ∀ {n : Nat} {As S As' S' : List Value}, mj_pop n As S = some (As', S') → ∃ T, S = T ++ S' ∧ As' = T.reverse ++ As ∧ T.length = n
  | 0, As, S, As', S', h => by
    simp only [mj_pop, Option.some.injEq, Prod.mk.injEq] at h
    exact ⟨[], by rw [h.2]; rfl, by rw [← h.1]; rfl, rfl⟩
  | n + 1, As, [], As', S', h => by simp [mj_pop] at h
  | n + 1, As, v :: S, As', S', h => by
    simp only [mj_pop] at h
    obtain ⟨T, h1, h2, h3⟩ := mj_pop_spec h
    refine ⟨v :: T, by rw [h1]; rfl, ?_, by rw [List.length_cons, h3]⟩
    rw [h2, List.reverse_cons, List.append_assoc]
    rfl
/-! locals -/
theorem mj_ld_get : ∀ {L : List Value} {a : Nat} {v : Value}, mj_ld L a = v → v ≠ mj_J → L[a]? = some v
  | [], a, v, h, hj => absurd h.symm hj
  | u :: r, 0, v, h, _ => by rw [← show u = v from h]; rfl
  | _ :: r, i + 1, v, h, hj => by rw [List.getElem?_cons_succ]; exact mj_ld_get (L := r) h hj
theorem mj_st1_len : ∀ (L : List Value) (a : Nat) (v : Value), (mj_st1 L a v).length = L.length
  | [], _, _ => rfl
  | _ :: _, 0, _ => rfl
  | _ :: r, 1, v => by rw [mj_st1, List.length_cons, List.length_cons, mj_st1_len r 0 v]
  | _ :: r, i + 2, v => by rw [mj_st1, List.length_cons, List.length_cons, mj_st1_len r (i + 1) v]
theorem mj_st2_len : ∀ (L : List Value) (a : Nat) (v : Value), (mj_st2 L a v).length = L.length
  | [], _, _ => rfl
  | [_], 0, _ => rfl
  | _ :: _ :: _, 0, _ => rfl
  | _ :: r, 1, v => by rw [mj_st2, List.length_cons, List.length_cons, mj_st2_len r 0 v]
  | _ :: r, i + 2, v => by rw [mj_st2, List.length_cons, List.length_cons, mj_st2_len r (i + 1) v]
theorem mj_st1_get : ∀ (L : List Value) (a : Nat) (v : Value), a < L.length → ∀ (i : Nat) (u : Value), (mj_st1 L a v)[i]? = some u → (i = a ∧ u = v) ∨ (i + 1 = a ∧ ∃ u0, L[i]? = some u0 ∧ u = mj_c1 u0) ∨ (i ≠ a ∧ i + 1 ≠ a ∧ L[i]? = some u)
  | [], a, v, h, i, u, hu => absurd h (Nat.not_lt_zero _)
  | a0 :: r, 0, v, h, i, u, hu => by
    cases i with
    | zero => exact Or.inl ⟨rfl, (Option.some.inj hu).symm⟩
    | succ i => exact Or.inr (Or.inr ⟨by omega, by omega, hu⟩)
  | a0 :: r, 1, v, h, i, u, hu => by
    rw [mj_st1] at hu
    cases i with
    | zero => exact Or.inr (Or.inl ⟨rfl, a0, rfl, (Option.some.inj hu).symm⟩)
    | succ i =>
      rw [List.getElem?_cons_succ] at hu
      rcases mj_st1_get r 0 v (by rw [List.length_cons] at h; omega) i u hu with ⟨h1, h2⟩ | ⟨h1, -⟩ | ⟨h1, h2, h3⟩
      · exact Or.inl ⟨by omega, h2⟩
      · omega
      · exact Or.inr (Or.inr ⟨by omega, by omega, h3⟩)
  | a0 :: r, k + 2, v, h, i, u, hu => by
    rw [mj_st1] at hu
    cases i with
    | zero => exact Or.inr (Or.inr ⟨by omega, by omega, hu⟩)
    | succ i =>
      rw [List.getElem?_cons_succ] at hu
      rcases mj_st1_get r (k + 1) v (by rw [List.length_cons] at h; omega) i u hu with ⟨h1, h2⟩ | ⟨h1, u0, h2, h3⟩ | ⟨h1, h2, h3⟩
      · exact Or.inl ⟨by omega, h2⟩
      · exact Or.inr (Or.inl ⟨by omega, u0, h2, h3⟩)
      · exact Or.inr (Or.inr ⟨by omega, by omega, h3⟩)
theorem mj_st2_get : ∀ (L : List Value) (a : Nat) (v : Value), a + 1 < L.length → ∀ (i : Nat) (u : Value), (mj_st2 L a v)[i]? = some u → (i = a ∧ u = v) ∨ (i = a + 1 ∧ u = mj_J) ∨ (i + 1 = a ∧ ∃ u0, L[i]? = some u0 ∧ u = mj_c1 u0) ∨ (i ≠ a ∧ i ≠ a + 1 ∧ i + 1 ≠ a ∧ L[i]? = some u)
  | [], a, v, h, i, u, hu => absurd h (Nat.not_lt_zero _)
  | [_], 0, v, h, i, u, hu => absurd h (by simp)
  | a0 :: a1 :: r, 0, v, h, i, u, hu => by
    match i, hu with
    | 0, hu => exact Or.inl ⟨rfl, (Option.some.inj hu).symm⟩
    | 1, hu => exact Or.inr (Or.inl ⟨rfl, (Option.some.inj hu).symm⟩)
    | i + 2, hu => exact Or.inr (Or.inr (Or.inr ⟨by omega, by omega, by omega, hu⟩))
  | a0 :: r, 1, v, h, i, u, hu => by
    rw [mj_st2] at hu
    cases i with
    | zero => exact Or.inr (Or.inr (Or.inl ⟨rfl, a0, rfl, (Option.some.inj hu).symm⟩))
    | succ i =>
      rw [List.getElem?_cons_succ] at hu
      rcases mj_st2_get r 0 v (by rw [List.length_cons] at h; omega) i u hu with ⟨h1, h2⟩ | ⟨h1, h2⟩ | ⟨h1, -⟩ | ⟨h1, h2, h3, h4⟩
      · exact Or.inl ⟨by omega, h2⟩
      · exact Or.inr (Or.inl ⟨by omega, h2⟩)
      · omega
      · exact Or.inr (Or.inr (Or.inr ⟨by omega, by omega, by omega, h4⟩))
  | a0 :: r, k + 2, v, h, i, u, hu => by
    rw [mj_st2] at hu
    cases i with
    | zero => exact Or.inr (Or.inr (Or.inr ⟨by omega, by omega, by omega, hu⟩))
    | succ i =>
      rw [List.getElem?_cons_succ] at hu
      rcases mj_st2_get r (k + 1) v (by rw [List.length_cons] at h; omega) i u hu with ⟨h1, h2⟩ | ⟨h1, h2⟩ | ⟨h1, u0, h2, h3⟩ | ⟨h1, h2, h3, h4⟩
      · exact Or.inl ⟨by omega, h2⟩
      · exact Or.inr (Or.inl ⟨by omega, h2⟩)
      · exact Or.inr (Or.inr (Or.inl ⟨by omega, u0, h2, h3⟩))
      · exact Or.inr (Or.inr (Or.inr ⟨by omega, by omega, by omega, h4⟩))
theorem mj_c1_ok {u : Value} (h : mj_c1 u ≠ mj_J) : mj_c1 u = u ∧ u.category = 1 := by
  cases u <;> first | exact ⟨rfl, rfl⟩ | exact absurd rfl h
def mj_lr (as : List Nat) (L : List Value) (ls : Array Slot) : Prop := ∃ lv : List (Nat × Value), lv_has ls L.length lv ∧ ∀ (i : Nat) (v : Value), L[i]? = some v → v ≠ mj_J → ∃ w, mj_vr as v w ∧ (i, w) ∈ lv
theorem mj_lr.xt {as as' : List Nat} {L : List Value} {ls : Array Slot} (h : mj_xt as as') (hl : mj_lr as L ls) : mj_lr as' L ls := by
  obtain ⟨lv, h1, h2⟩ := hl
  refine ⟨lv, h1, fun i v hi hj => ?_⟩
  obtain ⟨w, h3, h4⟩ := h2 i v hi hj
  exact ⟨w, h3.xt h, h4⟩
theorem mj_lr.ld {as : List Nat} {L : List Value} {ls : Array Slot} {a : Nat} {v : Value} (h : mj_lr as L ls) (hv : mj_ld L a = v) (hj : v ≠ mj_J) : ∃ w, mj_vr as v w ∧ ls[a]? = some (.val w) := by
  obtain ⟨lv, h1, h2⟩ := h
  obtain ⟨w, h3, h4⟩ := h2 a v (mj_ld_get hv hj) hj
  exact ⟨w, h3, h1.2.2 (a, w) h4⟩
theorem mj_lr.st1 {as : List Nat} {L : List Value} {ls : Array Slot} {a : Nat} {v w : Value} (h : mj_lr as L ls) (ha : a < L.length) (hw : mj_vr as v w) : ∃ lv, lv_has ls L.length lv ∧ ∀ ls', lv_has ls' L.length ((a, w) :: lv.filter (fun q => !(q.1 == a) && !(q.1 + 1 == a && q.2.category == 2))) → mj_lr as (mj_st1 L a v) ls' := by
  obtain ⟨lv, h1, h2⟩ := h
  refine ⟨lv, h1, fun ls' h' => ⟨_, by rw [mj_st1_len]; exact h', fun i u hi hj => ?_⟩⟩
  rcases mj_st1_get L a v ha i u hi with ⟨rfl, rfl⟩ | ⟨e, u0, e1, rfl⟩ | ⟨e1, e2, e3⟩
  · exact ⟨w, hw, List.mem_cons_self⟩
  · obtain ⟨c1, c2⟩ := mj_c1_ok hj
    rw [c1] at hj ⊢
    obtain ⟨w0, g1, g2⟩ := h2 i u0 e1 hj
    refine ⟨w0, g1, List.mem_cons_of_mem _ (List.mem_filter.mpr ⟨g2, ?_⟩)⟩
    have hc := g1.cat
    have hne : i ≠ a := by omega
    simp [hc, c2, hne]
  · obtain ⟨w0, g1, g2⟩ := h2 i u e3 hj
    refine ⟨w0, g1, List.mem_cons_of_mem _ (List.mem_filter.mpr ⟨g2, ?_⟩)⟩
    simp [e1, e2]
theorem mj_lr.st2 {as : List Nat} {L : List Value} {ls : Array Slot} {a : Nat} {v w : Value} (h : mj_lr as L ls) (ha : a + 1 < L.length) (hw : mj_vr as v w) : ∃ lv, lv_has ls L.length lv ∧ ∀ ls', lv_has ls' L.length ((a, w) :: lv.filter (fun q => !(q.1 == a) && (!(q.1 == a + 1) && !(q.1 + 1 == a && q.2.category == 2)))) → mj_lr as (mj_st2 L a v) ls' := by
  obtain ⟨lv, h1, h2⟩ := h
  refine ⟨lv, h1, fun ls' h' => ⟨_, by rw [mj_st2_len]; exact h', fun i u hi hj => ?_⟩⟩
  rcases mj_st2_get L a v ha i u hi with ⟨rfl, rfl⟩ | ⟨-, rfl⟩ | ⟨e, u0, e1, rfl⟩ | ⟨e1, e2, e4, e3⟩
  · exact ⟨w, hw, List.mem_cons_self⟩
  · exact absurd rfl hj
  · obtain ⟨c1, c2⟩ := mj_c1_ok hj
    rw [c1] at hj ⊢
    obtain ⟨w0, g1, g2⟩ := h2 i u0 e1 hj
    refine ⟨w0, g1, List.mem_cons_of_mem _ (List.mem_filter.mpr ⟨g2, ?_⟩)⟩
    have hc := g1.cat
    have hne : i ≠ a := by omega
    have hne2 : i ≠ a + 1 := by omega
    simp [hc, c2, hne, hne2]
  · obtain ⟨w0, g1, g2⟩ := h2 i u e3 hj
    refine ⟨w0, g1, List.mem_cons_of_mem _ (List.mem_filter.mpr ⟨g2, ?_⟩)⟩
    simp [e1, e2, e4]
theorem mj_en_len : ∀ (As : List Value) (n : Nat), mj_ew As n = true → (mj_en As n).length = n := by
  intro As
  induction As with
  | nil => intro n _; simp [mj_en]
  | cons v r ih =>
    intro n h
    cases v <;> (match n, h with
      | 0, h => simp [mj_ew] at h
      | 1, h => first | (simp [mj_ew] at h; done) | (simp only [mj_ew] at h; simp [mj_en, ih 0 h])
      | n + 2, h => first | (simp only [mj_ew] at h; simp [mj_en, ih n h]; done) | (simp only [mj_ew] at h; simp [mj_en, ih (n + 1) h]))
theorem mj_ew_w {as : List Nat} : ∀ (As vs : List Value) (n : Nat), mj_vs as As vs → mj_ew As n = true → (lg_sl vs).length ≤ n := by
  intro As
  induction As with
  | nil => intro vs n hv _; rw [mj_vs_nil hv]; simp [lg_sl]
  | cons v r ih =>
    intro vs n hv h
    obtain ⟨w, vs', rfl, h1, h2⟩ := mj_vs_c hv
    have hc := h1.cat
    have e : (lg_sl (w :: vs')).length = (if v.category = 2 then 2 else 1) + (lg_sl vs').length := by
      simp only [lg_sl, List.flatMap_cons, List.length_append, hc]
      split <;> rfl
    rw [e]
    cases v <;> (match n, h with
      | 0, h => simp [mj_ew] at h
      | 1, h => first | (simp [mj_ew] at h; done) | (simp only [mj_ew] at h; have := ih vs' 0 h2 h; simp [Value.category]; omega)
      | n + 2, h => first | (simp only [mj_ew] at h; have := ih vs' n h2 h; simp [Value.category]; omega) | (simp only [mj_ew] at h; have := ih vs' (n + 1) h2 h; simp [Value.category]; omega))
theorem mj_en_get {as : List Nat} : ∀ (As vs : List Value) (n k : Nat), mj_vs as As vs → ∀ (i : Nat) (v : Value), (mj_en As n)[i]? = some v → v ≠ mj_J → ∃ w, mj_vr as v w ∧ (k + i, w) ∈ lv_args k vs := by
  intro As
  induction As with
  | nil =>
    intro vs n k hv i v hi hj
    rw [mj_en] at hi
    exact absurd (List.eq_of_mem_replicate (List.mem_of_getElem? hi)) hj
  | cons a r ih =>
    intro vs n k hv i v hi hj
    obtain ⟨w, vs', rfl, h1, h2⟩ := mj_vs_c hv
    have hc := h1.cat
    have two : a.category = 2 → ∀ m, (mj_en r m)[i - 2]? = some v → 2 ≤ i → ∃ w', mj_vr as v w' ∧ (k + i, w') ∈ lv_args k (w :: vs') := by
      intro h3 m h4 h5
      obtain ⟨w', g1, g2⟩ := ih vs' m (k + 2) h2 (i - 2) v h4 hj
      refine ⟨w', g1, ?_⟩
      rw [lv_args, if_pos (by rw [hc, h3])]
      rw [show k + 2 + (i - 2) = k + i by omega] at g2
      exact List.mem_cons_of_mem _ g2
    have one : a.category = 1 → ∀ m, (mj_en r m)[i - 1]? = some v → 1 ≤ i → ∃ w', mj_vr as v w' ∧ (k + i, w') ∈ lv_args k (w :: vs') := by
      intro h3 m h4 h5
      obtain ⟨w', g1, g2⟩ := ih vs' m (k + 1) h2 (i - 1) v h4 hj
      refine ⟨w', g1, ?_⟩
      rw [lv_args, if_neg (by rw [hc, h3]; decide)]
      rw [show k + 1 + (i - 1) = k + i by omega] at g2
      exact List.mem_cons_of_mem _ g2
    have zero : i = 0 → a = v → ∃ w', mj_vr as v w' ∧ (k + i, w') ∈ lv_args k (w :: vs') := by
      intro h3 h4
      subst h3; subst h4
      exact ⟨w, h1, by rw [lv_args]; exact List.mem_cons_self⟩
    cases a <;> (match n, i, hi with
      | 0, i, hi => simp [mj_en] at hi
      | 1, 0, hi => exact zero rfl (by simpa [mj_en] using hi)
      | 1, i + 1, hi => first | (simp [mj_en] at hi; done) | exact one rfl 0 (by simpa [mj_en] using hi) (by omega)
      | n + 2, 0, hi => exact zero rfl (by simpa [mj_en] using hi)
      | n + 2, 1, hi => first | exact one rfl (n + 1) (by simpa [mj_en] using hi) (by omega) | exact absurd (by simpa [mj_en] using hi.symm) hj
      | n + 2, i + 2, hi => first | exact one rfl (n + 1) (by simpa [mj_en] using hi) (by omega) | exact two rfl n (by simpa [mj_en] using hi) (by omega))
theorem mj_lr_en {as : List Nat} {As vs : List Value} {n : Nat} (hv : mj_vs as As vs) (h : mj_ew As n = true) : mj_lr as (mj_en As n) ((lg_sl vs ++ List.replicate (n - (lg_sl vs).length) Slot.unset).toArray) := by
  refine ⟨lv_args 0 vs, ?_, fun i v hi hj => ?_⟩
  · rw [mj_en_len As n h]
    exact lv_entry vs (mj_ew_w As vs n hv h)
  · obtain ⟨w, g1, g2⟩ := mj_en_get As vs n 0 hv i v hi hj
    exact ⟨w, g1, by simpa using g2⟩
/-! cells and states -/
def mj_nf (ci : Nat) : Nat := match vwCl[ci]? with
  | some (_, _, N) => N
  | none => 0
def mj_ft (ci k : Nat) : Nat := match vwCl[ci]? with
  | some (_, T, _) => mj_tc (T k).2.2.1
  | none => 0
abbrev mj_G : Type := ClassId × ClassId × ClassId
def mj_fr (as : List Nat) (t : Nat) (x : Int32) (y : Int64) (o : Option Nat) (v : Value) : Prop := match t with
  | 0 => v = .int x
  | 1 => v = .long y
  | 3 => v = .int x
  | _ => ∃ o', v = va_rf o' ∧ mj_or as o o'
theorem mj_fr.xt {as as' : List Nat} {t : Nat} {x : Int32} {y : Int64} {o : Option Nat} {v : Value} (h : mj_xt as as') (hv : mj_fr as t x y o v) : mj_fr as' t x y o v := by
  unfold mj_fr at hv ⊢
  split at hv
  · exact hv
  · exact hv
  · exact hv
  · obtain ⟨o', h1, h2⟩ := hv
    exact ⟨o', h1, h2.xt h⟩
theorem mj_fr_gv {as : List Nat} {t r k : Nat} {h : mj_H} {v : Value} (hv : mj_fr as t (mj_gI h r k) (mj_gJ h r k) (mj_gR h r k) v) : mj_vr as (mj_gv h t r k) v := by
  match t, hv with
  | 0, hv => exact hv
  | 1, hv => exact hv
  | 3, hv => exact hv
  | 2, hv => obtain ⟨o', rfl, h2⟩ := hv; exact mj_rf_vr h2
  | n + 4, hv => obtain ⟨o', rfl, h2⟩ := hv; exact mj_rf_vr h2
def mj_cr (G : mj_G) (as : List Nat) (h : mj_H) (r : Nat) (E : va_E) : Prop := match (mj_k h r).1 with
  | 0 => E = .inl (G.1, (mj_k h r).2, .inl (mj_gI h r))
  | 1 => E = .inl (G.2.1, (mj_k h r).2, .inr (.inl (mj_gJ h r)))
  | 2 => ∃ g : Nat → Option Nat, E = .inl (G.2.2, (mj_k h r).2, .inr (.inr (.inr (.inr g)))) ∧ ∀ j, mj_or as (mj_gR h r j) (g j)
  | ci + 3 => ∃ fs : List Value, E = .inr (ci, fs) ∧ fs.length = mj_nf ci ∧ ∀ (k : Nat) (v : Value), fs[k]? = some v → mj_fr as (mj_ft ci k) (mj_gI h r k) (mj_gJ h r k) (mj_gR h r k) v
theorem mj_cr_i {G : mj_G} {as : List Nat} {h : mj_H} {r : Nat} {E : va_E} (hk : (mj_k h r).1 = 0) : mj_cr G as h r E = (E = .inl (G.1, (mj_k h r).2, .inl (mj_gI h r))) := by
  unfold mj_cr; rw [hk]
theorem mj_cr_l {G : mj_G} {as : List Nat} {h : mj_H} {r : Nat} {E : va_E} (hk : (mj_k h r).1 = 1) : mj_cr G as h r E = (E = .inl (G.2.1, (mj_k h r).2, .inr (.inl (mj_gJ h r)))) := by
  unfold mj_cr; rw [hk]
theorem mj_cr_r {G : mj_G} {as : List Nat} {h : mj_H} {r : Nat} {E : va_E} (hk : (mj_k h r).1 = 2) : mj_cr G as h r E = (∃ g : Nat → Option Nat, E = .inl (G.2.2, (mj_k h r).2, .inr (.inr (.inr (.inr g)))) ∧ ∀ j, mj_or as (mj_gR h r j) (g j)) := by
  unfold mj_cr; rw [hk]
theorem mj_cr_o {G : mj_G} {as : List Nat} {h : mj_H} {r ci : Nat} {E : va_E} (hk : (mj_k h r).1 = ci + 3) : mj_cr G as h r E = (∃ fs : List Value, E = .inr (ci, fs) ∧ fs.length = mj_nf ci ∧ ∀ (k : Nat) (v : Value), fs[k]? = some v → mj_fr as (mj_ft ci k) (mj_gI h r k) (mj_gJ h r k) (mj_gR h r k) v) := by
  unfold mj_cr; rw [hk]
theorem mj_cr.xt {G : mj_G} {as as' : List Nat} {h : mj_H} {r : Nat} {E : va_E} (hx : mj_xt as as') (hc : mj_cr G as h r E) : mj_cr G as' h r E := by
  unfold mj_cr at hc ⊢
  split at hc
  · exact hc
  · exact hc
  · obtain ⟨g, h1, h2⟩ := hc
    exact ⟨g, h1, fun j => (h2 j).xt hx⟩
  · obtain ⟨fs, h1, h2, h3⟩ := hc
    exact ⟨fs, h1, h2, fun k v hk => (h3 k v hk).xt hx⟩
def mj_sm (h' h : mj_H) (r : Nat) : Prop := mj_k h' r = mj_k h r ∧ mj_gI h' r = mj_gI h r ∧ mj_gJ h' r = mj_gJ h r ∧ mj_gR h' r = mj_gR h r
theorem mj_cr.cong {G : mj_G} {as : List Nat} {h h' : mj_H} {r : Nat} {E : va_E} (hs : mj_sm h' h r) (hc : mj_cr G as h r E) : mj_cr G as h' r E := by
  obtain ⟨e1, e2, e3, e4⟩ := hs
  unfold mj_cr at hc ⊢
  rw [e1, e2, e3, e4]
  exact hc
def mj_as (t0 b : Nat) (ws : va_W) : List Nat := t0 :: b :: ws.map (fun q => q.1)
theorem mj_as_get {t0 b : Nat} {ws : va_W} {r q : Nat} (h : (mj_as t0 b ws)[r]? = some q) : (r = 0 ∧ q = t0) ∨ (r = 1 ∧ q = b) ∨ ∃ (k : Nat) (E : va_E), r = k + 2 ∧ ws[k]? = some (q, E) := by
  match r, h with
  | 0, h => exact Or.inl ⟨rfl, (Option.some.inj h).symm⟩
  | 1, h => exact Or.inr (Or.inl ⟨rfl, (Option.some.inj h).symm⟩)
  | k + 2, h =>
    rw [mj_as, List.getElem?_cons_succ, List.getElem?_cons_succ, List.getElem?_map] at h
    cases hk : ws[k]? with
    | none => rw [hk] at h; cases h
    | some x =>
      rw [hk] at h
      obtain ⟨a, E⟩ := x
      have e : a = q := Option.some.inj h
      subst e
      exact Or.inr (Or.inr ⟨k, E, rfl, hk⟩)
theorem mj_as_of {t0 b : Nat} {ws : va_W} {k q : Nat} {E : va_E} (h : ws[k]? = some (q, E)) : (mj_as t0 b ws)[k + 2]? = some q := by
  rw [mj_as, List.getElem?_cons_succ, List.getElem?_cons_succ, List.getElem?_map, h]
  rfl
theorem mj_as_set {t0 b : Nat} {ws : va_W} {k q : Nat} {E E' : va_E} (h : ws[k]? = some (q, E)) : mj_as t0 b (ws.set k (q, E')) = mj_as t0 b ws := by
  have e : (ws.set k (q, E')).map (fun q => q.1) = ws.map (fun q => q.1) := by
    apply List.ext_getElem?
    intro i
    rw [List.getElem?_map, List.getElem?_map]
    by_cases hi : i = k
    · subst hi
      rw [List.getElem?_set_self (List.getElem?_eq_some_iff.mp h).1, h]
      rfl
    · rw [List.getElem?_set_ne (Ne.symm hi)]
  rw [mj_as, e, mj_as]
theorem mj_as_xt {t0 b : Nat} {ws : va_W} {x : Nat × va_E} : mj_xt (mj_as t0 b ws) (mj_as t0 b (ws ++ [x])) := by
  intro k q h
  rcases mj_as_get h with ⟨rfl, rfl⟩ | ⟨rfl, rfl⟩ | ⟨k, E, rfl, hk⟩
  · rfl
  · rfl
  · refine mj_as_of (E := E) ?_
    rw [List.getElem?_append_left (List.getElem?_eq_some_iff.mp hk).1, hk]
def mj_hr (G : mj_G) (t0 b : Nat) (ws : va_W) (h : mj_H) : Prop := ws.length + 2 = h.1 ∧ ∀ (k : Nat) (q : Nat × va_E), ws[k]? = some q → mj_cr G (mj_as t0 b ws) h (k + 2) q.2
theorem mj_hr.set {G : mj_G} {t0 b : Nat} {ws : va_W} {h h' : mj_H} {k q : Nat} {E E' : va_E} (hh : mj_hr G t0 b ws h) (hw : ws[k]? = some (q, E)) (hn : h'.1 = h.1) (hc : mj_cr G (mj_as t0 b ws) h' (k + 2) E') (ho : ∀ r, r ≠ k + 2 → mj_sm h' h r) : mj_hr G t0 b (ws.set k (q, E')) h' := by
  refine ⟨by rw [List.length_set, hn]; exact hh.1, fun i x hi => ?_⟩
  rw [mj_as_set hw]
  by_cases e : i = k
  · subst e
    rw [List.getElem?_set_self (List.getElem?_eq_some_iff.mp hw).1] at hi
    cases hi
    exact hc
  · rw [List.getElem?_set_ne (Ne.symm e)] at hi
    exact (hh.2 i x hi).cong (ho _ (by omega))
theorem mj_hr.push {G : mj_G} {t0 b : Nat} {ws : va_W} {h h' : mj_H} {q : Nat} {E : va_E} (hh : mj_hr G t0 b ws h) (hn : h'.1 = h.1 + 1) (hc : mj_cr G (mj_as t0 b (ws ++ [(q, E)])) h' h.1 E) (ho : ∀ r, r ≠ h.1 → mj_sm h' h r) : mj_hr G t0 b (ws ++ [(q, E)]) h' := by
  have hl := hh.1
  refine ⟨by rw [List.length_append, hn]; simp; omega, fun i x hi => ?_⟩
  by_cases e : i < ws.length
  · rw [List.getElem?_append_left e] at hi
    exact ((hh.2 i x hi).xt mj_as_xt).cong (ho _ (by omega))
  · rw [List.getElem?_append_right (by omega)] at hi
    have hz : i - ws.length < 1 := (List.getElem?_eq_some_iff.mp hi).1
    have e2 : i = ws.length := by omega
    subst e2
    rw [Nat.sub_self] at hi
    cases hi
    rw [hl]
    exact hc
theorem mj_sm_sI {h : mj_H} {r k : Nat} {v : Int32} (q : Nat) (e : q ≠ r) : mj_sm (mj_sI h r k v) h q := by
  refine ⟨rfl, ?_, rfl, rfl⟩
  funext j
  simp [mj_gI, mj_sI, mj_u, e]
theorem mj_sm_sJ {h : mj_H} {r k : Nat} {v : Int64} (q : Nat) (e : q ≠ r) : mj_sm (mj_sJ h r k v) h q := by
  refine ⟨rfl, rfl, ?_, rfl⟩
  funext j
  simp [mj_gJ, mj_sJ, mj_u, e]
theorem mj_sm_sR {h : mj_H} {r k : Nat} {v : Option Nat} (q : Nat) (e : q ≠ r) : mj_sm (mj_sR h r k v) h q := by
  refine ⟨rfl, rfl, rfl, ?_⟩
  funext j
  simp [mj_gR, mj_sR, mj_u, e]
theorem mj_sm_cp {h : mj_H} {p r sp dp n : Nat} (q : Nat) (e : q ≠ r) : mj_sm (mj_cp h p r sp dp n) h q := by
  refine ⟨rfl, ?_, rfl, rfl⟩
  funext j
  simp [mj_gI, mj_cp, mj_w, e]
theorem mj_sm_new {h : mj_H} {tag len : Nat} (q : Nat) (e : q ≠ h.1) : mj_sm (mj_new h tag len) h q := by
  refine ⟨?_, ?_, ?_, ?_⟩
  · simp [mj_k, mj_new, e]
  · funext j; simp [mj_gI, mj_new, mj_w, e]
  · funext j; simp [mj_gJ, mj_new, mj_w, e]
  · funext j; simp [mj_gR, mj_new, mj_w, e]
theorem mj_new_k {h : mj_H} {tag len : Nat} : mj_k (mj_new h tag len) h.1 = (tag, len) := by simp [mj_k, mj_new]
theorem mj_new_I {h : mj_H} {tag len : Nat} : mj_gI (mj_new h tag len) h.1 = fun _ => 0 := by funext j; simp [mj_gI, mj_new, mj_w]
theorem mj_new_J {h : mj_H} {tag len : Nat} : mj_gJ (mj_new h tag len) h.1 = fun _ => 0 := by funext j; simp [mj_gJ, mj_new, mj_w]
theorem mj_new_R {h : mj_H} {tag len : Nat} : mj_gR (mj_new h tag len) h.1 = fun _ => none := by funext j; simp [mj_gR, mj_new, mj_w]
theorem mj_gI_sI {h : mj_H} {r k : Nat} {v : Int32} : mj_gI (mj_sI h r k v) r = upd (mj_gI h r) k v := by
  funext j
  simp [mj_gI, mj_sI, mj_u, upd]
theorem mj_gJ_sJ {h : mj_H} {r k : Nat} {v : Int64} : mj_gJ (mj_sJ h r k v) r = vp_updL (mj_gJ h r) k v := by
  funext j
  simp [mj_gJ, mj_sJ, mj_u, vp_updL]
theorem mj_gR_sR {h : mj_H} {r k : Nat} {v : Option Nat} : mj_gR (mj_sR h r k v) r = va_up (mj_gR h r) k v := by
  funext j
  simp [mj_gR, mj_sR, mj_u, va_up]
/-- the old rows: the static one, the script -/
def mj_hbs : Nat → Int32
  | 0 => 1
  | 1 => 2
  | 2 => 6
  | 3 => 19
  | 4 => 63
  | _ => 216
def mj_old (L0 : Nat) (xs : Nat → Int32) (h : mj_H) : Prop := mj_k h 0 = (0, 6) ∧ mj_k h 1 = (0, L0) ∧ (∀ j, j < 6 → mj_gI h 0 j = mj_hbs j) ∧ ∀ j, j < L0 → mj_gI h 1 j = xs j
theorem mj_old.cong {L0 : Nat} {xs : Nat → Int32} {h h' : mj_H} (ho : mj_old L0 xs h) (h0 : mj_sm h' h 0) (h1 : mj_sm h' h 1) : mj_old L0 xs h' := by
  obtain ⟨a1, a2, a3, a4⟩ := ho
  obtain ⟨b1, b2, -, -⟩ := h0
  obtain ⟨c1, c2, -, -⟩ := h1
  exact ⟨by rw [b1]; exact a1, by rw [c1]; exact a2, fun j hj => by rw [b2]; exact a3 j hj, fun j hj => by rw [c2]; exact a4 j hj⟩
/-- an old row of ints, L of which are known, its length too -/
def mj_TX (b L : Nat) (xs : Nat → Int32) (U : State) (H : Heap) : Prop := ∃ scr : Cell, H[b]? = some scr ∧ U.isArrayOf scr .int ∧ scr.vm ≠ .unknown ∧ L ≤ scr.slots.size ∧ scr.slots.size.toInt32 = Int32.ofNat L ∧ ∀ j : Nat, j < L → scr.slots[j]? = some (.int (xs j))
theorem mj_TX.kept {b L : Nat} {xs : Nat → Int32} {U : State} {H H1 : Heap} (h : mj_TX b L xs U H) (hq : H1[b]? = H[b]?) : mj_TX b L xs U H1 := by
  obtain ⟨scr, h1, h2⟩ := h
  exact ⟨scr, by rw [hq]; exact h1, h2⟩
theorem mj_TX.moved {b L : Nat} {xs : Nat → Int32} {u U : State} {H : Heap} (hvm : u.vm.Alike U.vm) (h : mj_TX b L xs u H) : mj_TX b L xs U H := by
  obtain ⟨scr, h1, h2, h3⟩ := h
  exact ⟨scr, h1, State.isArrayOf_alike hvm h2, h3⟩
section
variable {p : Program} {l : Launch} {e : Env} {R : Room} {s : State} {m : MethodId} {args : Array Value} {below : List Frame} {meth : Method} {c : Code} {H : Heap} {locs : List Loc} {cells slots : Nat} {Q : State → Prop}
variable {cc : ByteArray} {pc : Nat} {ls : Array Slot} {rest : List Value} {A : Nat → Prop} {H0 : Heap}
theorem mj_sld (hexec : p.tables.exec = Jvm.exec) (hb : c.code = cc) {b L : Nat} {xs : Nat → Int32} (hX : mj_TX b L xs s H0) (hbl : b < H0.size) (hbA : ¬ A b) (hS : va_S A H0 H locs) {i : Int32} (hin : vp_in i L) (hdg : decode cc pc = .ok (.iaload, 1))
    (kk : W p l e R s m args below meth c H locs cells slots Q (F0 m (pc + 1) ls (.int (xs i.toNatClampNeg) :: rest))) : W p l e R s m args below meth c H locs cells slots Q (F0 m pc ls (.int i :: .ref b :: rest)) := by
  obtain ⟨scr, h1, h2, h3, h4, -, h5⟩ := hX
  have hlt : i.toNatClampNeg < L := Nat.not_le.mp fun q => hin (Or.inr q)
  exact W.iald (v := .int (xs i.toNatClampNeg)) hexec hb (by rw [hS.2.1 b hbl hbA]; exact h1) h2 h3 (fun z => z.elim (fun z => hin (Or.inl z)) (fun z => hin (Or.inr (Nat.le_trans h4 z)))) (h5 _ hlt) rfl rfl hdg kk
theorem mj_slen (hexec : p.tables.exec = Jvm.exec) (hb : c.code = cc) {b L : Nat} {xs : Nat → Int32} (hX : mj_TX b L xs s H0) (hbl : b < H0.size) (hbA : ¬ A b) (hS : va_S A H0 H locs) (hdg : decode cc pc = .ok (.arraylength, 1))
    (kk : W p l e R s m args below meth c H locs cells slots Q (F0 m (pc + 1) ls (.int (Int32.ofNat L) :: rest))) : W p l e R s m args below meth c H locs cells slots Q (F0 m pc ls (.ref b :: rest)) := by
  obtain ⟨scr, h1, h2, h3, h4, h6, h5⟩ := hX
  exact W.alen (n := Int32.ofNat L) hexec hb (by rw [hS.2.1 b hbl hbA]; exact h1) h2 h6 rfl rfl hdg kk
end
/-- what the mini machine's state has to do with the machine's -/
def mj_R (G : mj_G) (D : va_G) (A : Nat → Prop) (s : State) (t0 b L0 : Nat) (xs : Nat → Int32) (as0 : List Nat) (nL : Nat) (H : Heap) (locs : List Loc) (ls : Array Slot) (st : List Value) (ws : va_W) (L S : List Value) (h : mj_H) : Prop :=
  va_P D vwCl ws H ∧ va_D A ws ∧ va_S A s.heap H locs ∧ mj_hr G t0 b ws h ∧ mj_old L0 xs h ∧ mj_lr (mj_as t0 b ws) L ls ∧ mj_vs (mj_as t0 b ws) S st ∧ L.length = nL ∧ mj_xt as0 (mj_as t0 b ws)
/-- the tables' facts that no method changes -/
def mj_Tb : Prop := (∀ q ∈ vwCl, ∀ w ∈ u_ws q.1 q.2.1 q.2.2, w ∈ mj_tbl) ∧ (∀ w ∈ mj_oth, w ∈ mj_tbl) ∧
  ∀ q ∈ vwCl, ∃ ty : Nat → FieldType, (∀ k, k < q.2.2 → parseFieldDescriptor (q.2.1 k).2.2.1 = some (ty k)) ∧ (∀ a, a < q.2.2 → ∀ b, b < q.2.2 → a ≠ b → (q.2.1 a).2.1 ≠ (q.2.1 b).2.1) ∧
    ∀ k, k < q.2.2 → (mj_tc (q.2.1 k).2.2.1 = 0 ∧ ty k = .int) ∨ (mj_tc (q.2.1 k).2.2.1 = 1 ∧ ty k = .long) ∨ (mj_tc (q.2.1 k).2.2.1 = 3 ∧ ty k = .boolean) ∨ (mj_tc (q.2.1 k).2.2.1 = 2 ∧ ∃ t, ty k = .object t ∨ ∃ t', ty k = .array t')
/-- what stands throughout a method -/
def mj_Cx (p : Program) (s : State) (m : MethodId) (args : Array Value) (meth : Method) (c : Code) (R : Room) (G : mj_G) (D : va_G) (A : Nat → Prop) (t0 b L0 : Nat) (xs : Nat → Int32) (M : mj_M) (ct : mj_T) (d : Nat) : Prop :=
  p.tables.exec = Jvm.exec ∧ c.code = M.2.1 ∧ c.maxLocals = M.2.2.1 ∧ s.vm.findClass M.1.cls = some m.cls ∧ (∀ w ∈ mj_tbl, w.before args s = true) ∧ va_K D vwCl [(G.1, .int), (G.2.1, .long), (G.2.2, .object "HeapSquares$HeapList")] s ∧ (∀ q, s.heap.size ≤ q → A q) ∧
  va_AO "HeapSquares$HeapList" s ∧ va_Z "HeapSquares$Lists" "HEAPS_BY_STEPS" "[I" (.ref t0) A s s.heap ∧ (mj_TX t0 6 mj_hbs s s.heap ∧ t0 < s.heap.size ∧ ¬ A t0) ∧ (mj_TX b L0 xs s s.heap ∧ b < s.heap.size ∧ ¬ A b) ∧ (M.1.name = "<init>" → meth.name = "<init>") ∧ (∀ w ∈ ct.map (fun q => q.2), w ∈ mj_tbl) ∧ d ≤ R.frames ∧ 41 * d ≤ R.locals
def mj_K (p : Program) (l : Launch) (e : Env) (R : Room) (s : State) (m : MethodId) (args : Array Value) (below : List Frame) (meth : Method) (c : Code) (Q : State → Prop) (G : mj_G) (D : va_G) (A : Nat → Prop) (t0 b L0 : Nat) (xs : Nat → Int32) (as0 : List Nat) (nL n0 z0 : Nat) (pc : Nat) (L S : List Value) (h : mj_H) : Prop :=
  ∀ (H : Heap) (locs : List Loc) (ls : Array Slot) (st : List Value) (ws : va_W), mj_R G D A s t0 b L0 xs as0 nL H locs ls st ws L S h → n0 ≤ h.1 → z0 ≤ h.2.1 → W p l e R s m args below meth c H locs (h.1 - n0) (h.2.1 - z0) Q (F0 m pc ls st)
theorem mj_in_of {ct : mj_T} {i : Nat} {w : Cond} (h : mj_in ct i w = true) (hct : ∀ w ∈ ct.map (fun q => q.2), w ∈ mj_tbl) : w ∈ mj_tbl := by
  unfold mj_in at h
  split at h
  · rename_i w' hw
    have e : w' = w := of_decide_eq_true h
    subst e
    refine hct _ ?_
    clear h hct
    induction ct with
    | nil => cases hw
    | cons q r ih =>
      obtain ⟨k, w0⟩ := q
      rw [mj_lk] at hw
      by_cases hk : k = i
      · rw [if_pos hk] at hw
        cases hw
        exact List.mem_cons_self
      · rw [if_neg hk] at hw
        exact List.mem_cons_of_mem _ (ih hw)
  · cases h
theorem mj_nn {x : Int32} {n : Nat} (h : ¬ (x < 0 ∨ n ≤ x.toNatClampNeg)) : vp_in x n := h
/-- a cell of ours by its number -/
theorem mj_find {G : mj_G} {t0 b : Nat} {ws : va_W} {h : mj_H} {L0 : Nat} {xs : Nat → Int32} {r q : Nat} (hh : mj_hr G t0 b ws h) (ho : mj_old L0 xs h) (h1 : (mj_as t0 b ws)[r]? = some q) (h2 : (mj_k h r).1 ≠ 0 ∨ 2 ≤ r) : ∃ (k : Nat) (E : va_E), r = k + 2 ∧ ws[k]? = some (q, E) ∧ mj_cr G (mj_as t0 b ws) h r E := by
  rcases mj_as_get h1 with ⟨rfl, rfl⟩ | ⟨rfl, rfl⟩ | ⟨k, E, rfl, hk⟩
  · rcases h2 with h2 | h2
    · exact absurd (by rw [ho.1]) h2
    · omega
  · rcases h2 with h2 | h2
    · exact absurd (by rw [ho.2.1]) h2
    · omega
  · exact ⟨k, E, rfl, hk, hh.2 k (q, E) hk⟩
theorem mj_findI {G : mj_G} {t0 b : Nat} {ws : va_W} {h : mj_H} {L0 : Nat} {xs : Nat → Int32} {r q : Nat} (hh : mj_hr G t0 b ws h) (h1 : (mj_as t0 b ws)[r]? = some q) (hk : (mj_k h r).1 = 0) : (r = 0 ∧ q = t0) ∨ (r = 1 ∧ q = b) ∨ ∃ k : Nat, r = k + 2 ∧ ws[k]? = some (q, .inl (G.1, (mj_k h r).2, .inl (mj_gI h r))) := by
  rcases mj_as_get h1 with ⟨rfl, rfl⟩ | ⟨rfl, rfl⟩ | ⟨k, E, rfl, hw⟩
  · exact Or.inl ⟨rfl, rfl⟩
  · exact Or.inr (Or.inl ⟨rfl, rfl⟩)
  · have hc := hh.2 k (q, E) hw
    rw [mj_cr_i hk] at hc
    exact Or.inr (Or.inr ⟨k, rfl, by rw [hw, show E = _ from hc]⟩)
theorem mj_lr.put {as : List Nat} {L : List Value} {ls1 : Array Slot} {a nL : Nat} {v w : Value} {lv : List (Nat × Value)} {ls : Array Slot} (f0 : lv_has ls nL lv) (f3 : ∀ (i : Nat) (v : Value), L[i]? = some v → v ≠ mj_J → ∃ w, mj_vr as v w ∧ (i, w) ∈ lv) (ha : a < L.length) (hw : mj_vr as v w) (hn : L.length = nL) (h1 : lv_has ls1 nL ((a, w) :: lv.filter (fun q => !(q.1 == a) && !(q.1 + 1 == a && q.2.category == 2)))) : mj_lr as (mj_st1 L a v) ls1 := by
  refine ⟨_, by rw [mj_st1_len, hn]; exact h1, fun i u hi hj => ?_⟩
  rcases mj_st1_get L a v ha i u hi with ⟨rfl, rfl⟩ | ⟨e, u0, e1, rfl⟩ | ⟨e1, e2, e3⟩
  · exact ⟨w, hw, List.mem_cons_self⟩
  · obtain ⟨c1, c2⟩ := mj_c1_ok hj
    rw [c1] at hj ⊢
    obtain ⟨w0, g1, g2⟩ := f3 i u0 e1 hj
    refine ⟨w0, g1, List.mem_cons_of_mem _ (List.mem_filter.mpr ⟨g2, ?_⟩)⟩
    have hc := g1.cat
    have hne : i ≠ a := by omega
    simp [hc, c2, hne]
  · obtain ⟨w0, g1, g2⟩ := f3 i u e3 hj
    refine ⟨w0, g1, List.mem_cons_of_mem _ (List.mem_filter.mpr ⟨g2, ?_⟩)⟩
    simp [e1, e2]
theorem mj_insts (hoth : ∀ w ∈ mj_oth, w ∈ mj_tbl) {a : Nat} {C : String} {T : u_T} {N : Nat} (hcl : vwCl[a]? = some (C, T, N)) : Cond.instantiable C N ∈ mj_tbl ∧ Cond.initialized C ∈ mj_tbl := by
  match a, hcl with
  | 0, hcl => cases hcl; exact ⟨hoth _ (List.mem_of_getElem? (i := 7) rfl), hoth _ (List.mem_of_getElem? (i := 8) rfl)⟩
  | 1, hcl => cases hcl; exact ⟨hoth _ (List.mem_of_getElem? (i := 9) rfl), hoth _ (List.mem_of_getElem? (i := 10) rfl)⟩
  | 2, hcl => cases hcl; exact ⟨hoth _ (List.mem_of_getElem? (i := 11) rfl), hoth _ (List.mem_of_getElem? (i := 12) rfl)⟩
  | 3, hcl => cases hcl; exact ⟨hoth _ (List.mem_of_getElem? (i := 13) rfl), hoth _ (List.mem_of_getElem? (i := 14) rfl)⟩
  | 4, hcl => cases hcl; exact ⟨hoth _ (List.mem_of_getElem? (i := 15) rfl), hoth _ (List.mem_of_getElem? (i := 16) rfl)⟩
  | 5, hcl => cases hcl; exact ⟨hoth _ (List.mem_of_getElem? (i := 17) rfl), hoth _ (List.mem_of_getElem? (i := 18) rfl)⟩
  | a + 6, hcl => simp [vwCl] at hcl
