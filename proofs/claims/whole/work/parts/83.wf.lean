/-! every call keeps the bench well formed -/
theorem wf_Rf {A : AS} {b : Nat} (hw : Wf A) : Wf (oRf A b) := hw
theorem wf_Pu {A : AS} {s : Int64} (hw : Wf A) (hn : aN A < 12) (hs : Nm s) : Wf (oPu A s) := by
  have hH : ∀ i, i < aN A → aH (oPu A s) i = aH A i := fun i hi => by
    show (if i = aN A then s else aH A i) = aH A i
    rw [if_neg (by omega)]
  refine ⟨by show aN A + 1 ≤ 12; omega, fun i hi => ?_, hw.2.2.1, fun i hi => ⟨by show aSH A i < aN A + 1; have := (hw.2.2.2.1 i hi).1; omega, (hw.2.2.2.1 i hi).2⟩, fun hF => ⟨fun i hi => ?_, (hw.2.2.2.2.1 hF).2⟩, hw.2.2.2.2.2⟩
  · by_cases e : i = aN A
    · have : aH (oPu A s) i = s := by
        show (if i = aN A then s else aH A i) = s
        rw [if_pos e]
      rw [this]; exact hs
    · have hi2 : i < aN A + 1 := hi
      rw [hH i (by omega)]
      exact hw.2.1 i (by omega)
  · have h1 : aHS (oPu A s) i = aHS A i := hH _ (hw.2.2.2.1 i hi).1
    rw [h1]
    exact (hw.2.2.2.2.1 hF).1 i hi
theorem wf_Add {A : AS} {s : Int64} (hw : Wf A) (hs : Nm s) : Wf (opAdd A s).2 := by
  unfold opAdd
  split
  · exact wf_Pu hw (by assumption) hs
  · exact wf_Rf hw
theorem hng_ne {s : Int64} (h : hng s = true) : s ≠ 0 := fun z => by rw [z, hng_0] at h; exact absurd h (by decide)
theorem wf_heap {A : AS} (hw : Wf A) (s : Int64) : Wf (opHeap A s).2 := by
  unfold opHeap
  split
  · rename_i h1
    exact wf_Add hw (nm_lu (hng_ne h1.2) h1.1)
  · exact wf_Rf hw
theorem wf_drop {A : AS} (hw : Wf A) : Wf (opDrop A).2 := by
  unfold opDrop
  split
  · exact wf_Rf hw
  · split
    · exact wf_Rf hw
    · rename_i h0 h1
      have hs : ∀ i, i < aK A → aSH A i + 1 ≠ aN A := fun i hi e => h1 (List.any_eq_true.mpr ⟨i, List.mem_range.mpr hi, decide_eq_true e⟩)
      refine ⟨by show aN A - 1 ≤ 12; have := hw.1; omega, fun i hi => ?_, hw.2.2.1, fun i hi => ⟨?_, (hw.2.2.2.1 i hi).2⟩, fun hF => hw.2.2.2.2.1 hF, hw.2.2.2.2.2⟩
      · have hi2 : i < aN A - 1 := hi
        exact hw.2.1 i (by omega)
      · show aSH A i < aN A - 1
        have a1 := (hw.2.2.2.1 i hi).1
        have a2 := hs i hi
        omega
theorem wf_set {A : AS} (hw : Wf A) (x : Int32) : Wf (opSet A x).2 := by unfold opSet; split <;> exact hw
theorem wf_look {A : AS} (hw : Wf A) (x w : Int32) : Wf (opLook A x w).2 := by
  unfold opLook
  repeat' split
  all_goals exact hw
theorem wf_code {A : AS} (hw : Wf A) (x : Int32) : Wf (opCode A x).2 := by unfold opCode; split <;> exact hw
theorem wf_form {A : AS} (hw : Wf A) (x i : Int32) (b : Bool) : Wf (opForm A x i b).2 := by
  unfold opForm
  repeat' split
  all_goals exact hw
theorem wf_cuts {A : AS} (hw : Wf A) (x : Int32) : Wf (opCuts A x).2 := by unfold opCuts; split <;> exact hw
theorem wf_same {A : AS} (hw : Wf A) (x y : Int32) : Wf (opSame A x y).2 := by unfold opSame; split <;> exact hw
theorem nm_qdn {s : Int64} (h : Nm s) : ∀ k, Nm (qdn s k)
  | 0 => h
  | k + 1 => nm_qd (nm_qdn h k)
theorem hx_nm {A : AS} (hw : Wf A) {x : Int32} (h : vh A x = true) : Nm (hx A x) := hw.2.1 _ (vh_of h).1
theorem wf_turn {A : AS} (hw : Wf A) (x t : Int32) (b : Bool) : Wf (opTurn A x t b).2 := by
  unfold opTurn
  split
  · rename_i h1
    split
    · refine wf_Add hw (nm_qdn ?_ _)
      split
      · exact nm_md (hx_nm hw h1)
      · exact hx_nm hw h1
    · exact wf_Rf hw
  · exact wf_Rf hw
theorem wf_Jn {A : AS} (hw : Wf A) {s o : Int64} (ns : Nm s) (no : Nm o) {X Y : Nat} (hX : X ≤ 16) (hY : Y ≤ 16) : Wf (opJn A s o X Y).2 := by
  unfold opJn
  split
  · exact wf_Rf hw
  · rename_i h1
    exact wf_Add hw (nm_jn hX hY ns no h1)
theorem wf_grow {A : AS} (hw : Wf A) (x q : Int32) : Wf (opGrow A x q).2 := by
  unfold opGrow
  split
  · rename_i h1
    split
    · rename_i h2
      exact wf_Jn hw (hx_nm hw h1) nm_1 (by omega) (by omega)
    · exact wf_Rf hw
  · exact wf_Rf hw
theorem wf_put {A : AS} (hw : Wf A) (x y u v : Int32) : Wf (opPut A x y u v).2 := by
  unfold opPut
  split
  · rename_i h1
    split
    · rename_i h2
      exact wf_Jn hw (hx_nm hw h1.1) (hx_nm hw h1.2) (by omega) (by omega)
    · exact wf_Rf hw
  · exact wf_Rf hw
theorem wf_count {A : AS} (hw : Wf A) (n w : Int32) : Wf (opCount A n w).2 := by unfold opCount; split <;> exact hw
theorem wf_list {A : AS} (hw : Wf A) (n w j : Int32) : Wf (opList A n w j).2 := by
  unfold opList
  repeat' split
  all_goals exact hw
theorem wf_rank {A : AS} (hw : Wf A) (x w : Int32) : Wf (opRank A x w).2 := by
  unfold opRank
  repeat' split
  all_goals exact hw
theorem wf_ground {A : AS} (hw : Wf A) (s : Int64) : Wf (opGround A s).2 := ⟨hw.1, hw.2.1, hw.2.2.1, hw.2.2.2.1, fun hF => absurd (show false = true from hF) (by decide), hw.2.2.2.2.2⟩
theorem wf_sort {A : AS} (hw : Wf A) (x c : Int32) : Wf (opSort A x c).2 := by
  unfold opSort
  split
  · rename_i h1
    have hv := of_decide_eq_true h1
    split
    · rename_i h2
      split
      · rename_i h3
        refine ⟨hw.1, hw.2.1, by show aK A + 1 ≤ 4; omega, fun i hi => ?_, fun hF => absurd (show false = true from hF) (by decide), hw.2.2.2.2.2⟩
        have hi2 : i < aK A + 1 := hi
        show (if i = aK A then x.toInt.toNat else aSH A i) < aN A ∧ -1 ≤ (if i = aK A then c else aSC A i).toInt ∧ (if i = aK A then c else aSC A i).toInt ≤ 64
        by_cases e : i = aK A
        · rw [if_pos e, if_pos e]
          exact ⟨by omega, h2⟩
        · rw [if_neg e, if_neg e]
          exact hw.2.2.2.1 i (by omega)
      · exact wf_Rf hw
    · exact wf_Rf hw
  · exact wf_Rf hw
theorem wf_unsort {A : AS} (hw : Wf A) : Wf (opUnsort A).2 := ⟨hw.1, hw.2.1, Nat.zero_le _, fun i hi => absurd (show i < 0 from hi) (Nat.not_lt_zero _), fun hF => absurd (show false = true from hF) (by decide), hw.2.2.2.2.2⟩
theorem wf_nK {A : AS} (hw : Wf A) (F : Bool) (M : Nat) (st : SS) (HS : Nat → Int64) (h : F = true → (∀ i, i < aK A → HS i = aHS A i) ∧ Wk (aK A) HS (aSC A) (aG A) st.1 st.2.1 st.2.2 ∧ opn HS (aG A) st.1 st.2.1 = 0) : Wf (nK A F M st HS) :=
  ⟨hw.1, hw.2.1, hw.2.2.1, hw.2.2.2.1, h, hw.2.2.2.2.2⟩
theorem wf_seek {A : AS} (hw : Wf A) (HS : Nat → Int64) (hQ : ∀ i, i < aK A → HS i = aHS A i) (b : Bool) (D : Nat) (S : Nat → Nat × Nat × Nat) (M : Nat) (hW : Wk (aK A) HS (aSC A) (aG A) D S M) : Wf (opSeek A (bgr (aK A) HS (aSC A) (aG A) b (D, S, M)) HS).2 := by
  have hNm : ∀ i, i < aK A → Nm (HS i) := fun i hi => by rw [hQ i hi]; exact wf_nm hw i hi
  have hok := bgr_is (aK A) HS (aSC A) (aG A) (fun i hi f hf => nm_ne (ff_nm hNm i hi f hf)) b D S M hW
  generalize bgr (aK A) HS (aSC A) (aG A) b (D, S, M) = r at hok
  have h1 : Wf (nK A (decide (r.1 = 1)) r.2.2.2 r.2 HS) := wf_nK hw _ _ _ _ (fun z => ⟨hQ, hok.2.2.1, (hok.2.2.2 (of_decide_eq_true z)).1⟩)
  unfold opSeek
  split
  · exact h1
  · exact h1
theorem wf_first {A : AS} (hw : Wf A) : Wf (opFirst A).2 := wf_seek hw _ (fun _ _ => rfl) false 0 S0 0 (wk_0 _ _ _ _)
theorem wf_go {A : AS} (hw : Wf A) : Wf (opGo A).2 := by
  unfold opGo
  split
  · rename_i hF
    exact wf_seek hw _ (hw.2.2.2.2.1 hF).1 true _ _ _ (hw.2.2.2.2.1 hF).2.1
  · exact wf_Rf hw
theorem wf_nT {A : AS} (hw : Wf A) (t : Int32) : Wf (nT A t) := hw
theorem wf_all {A : AS} (hw : Wf A) : Wf (opAll A).2 := by
  unfold opAll
  split
  · exact wf_nT hw _
  · exact wf_nT hw _
theorem wf_tries {A : AS} (hw : Wf A) : Wf (opTries A).2 := hw
theorem wf_laid {A : AS} (hw : Wf A) (i w : Int32) : Wf (opLaid A i w).2 := by
  unfold opLaid
  repeat' split
  all_goals exact hw
theorem wf_colour {A : AS} (hw : Wf A) (k m r : Int32) : Wf (opColour A k m r).2 := by unfold opColour; split <;> exact hw
theorem wf_square {A : AS} (hw : Wf A) (x : Int32) : Wf (opSquare A x).2 := by
  unfold opSquare
  repeat' split
  all_goals exact hw
theorem wf_strip {A : AS} (hw : Wf A) (w n : Int32) : Wf (opStrip A w n).2 := by
  unfold opStrip
  repeat' split
  all_goals exact hw
theorem wf_nR {A : AS} (hw : Wf A) (R : Bool × Nat × (Nat → Int32)) (h : R.1 = true → R.2.1 ≤ 8) : Wf (nR A R) := ⟨hw.1, hw.2.1, hw.2.2.1, hw.2.2.2.1, hw.2.2.2.2.1, h⟩
theorem wf_lay {A : AS} (hw : Wf A) (x : Int32) : Wf (opLay A x).2 := by
  unfold opLay
  split
  · exact wf_nR hw _ (fun _ => hg_le _ 64 (by omega))
  · exact wf_Rf hw
theorem wf_tear {A : AS} (hw : Wf A) : Wf (opTear A).2 := wf_nR hw _ (fun z => absurd (show false = true from z) (by decide))
theorem wf_row {A : AS} (hw : Wf A) (i : Int32) : Wf (opRow A i).2 := by
  unfold opRow
  repeat' split
  all_goals exact hw
theorem wf_copy {A : AS} (hw : Wf A) (i j n : Int32) : Wf (opCopy A i j n).2 := by
  unfold opCopy
  split
  · rename_i hT
    split
    · split
      · exact wf_nR hw _ (fun _ => hw.2.2.2.2.2 hT)
      · exact wf_Rf hw
    · exact wf_Rf hw
  · exact wf_Rf hw
theorem wf_status {A : AS} (hw : Wf A) (b : Int32) : Wf (opStatus A b).2 := by unfold opStatus; split <;> exact hw
