/-! what the two objects hold: an abstract bench, its picture in the class's cells and in the model's -/
/-- heaps; refusals; sorts (heap, copies); ground; found, tries told, depth, what is laid, tries made, the heaps that are laid; the row -/
abbrev AS : Type := (Nat × (Nat → Int64)) × (Nat → Int32) × (Nat × (Nat → Nat) × (Nat → Int32)) × Int64 × (Bool × Int32 × Nat × (Nat → Nat × Nat × Nat) × Nat × (Nat → Int64)) × (Bool × Nat × (Nat → Int32))
def aN (A : AS) : Nat := A.1.1
def aH (A : AS) : Nat → Int64 := A.1.2
def aR (A : AS) : Nat → Int32 := A.2.1
def aK (A : AS) : Nat := A.2.2.1.1
def aSH (A : AS) : Nat → Nat := A.2.2.1.2.1
def aSC (A : AS) : Nat → Int32 := A.2.2.1.2.2
def aG (A : AS) : Int64 := A.2.2.2.1
def aF (A : AS) : Bool := A.2.2.2.2.1.1
def aT (A : AS) : Int32 := A.2.2.2.2.1.2.1
def aD (A : AS) : Nat := A.2.2.2.2.1.2.2.1
def aS (A : AS) : Nat → Nat × Nat × Nat := A.2.2.2.2.1.2.2.2.1
def aM (A : AS) : Nat := A.2.2.2.2.1.2.2.2.2.1
def aQ (A : AS) : Nat → Int64 := A.2.2.2.2.1.2.2.2.2.2
def aRT (A : AS) : Bool := A.2.2.2.2.2.1
def aRC (A : AS) : Nat := A.2.2.2.2.2.2.1
def aRN (A : AS) : Nat → Int32 := A.2.2.2.2.2.2.2
def aHS (A : AS) (i : Nat) : Int64 := aH A (aSH A i)
/-- how many forms the i-th sort has; where its forms begin among all choices -/
def nfo (HS : Nat → Int64) (i : Nat) : Nat := (fl (HS i) true).1
def ff (HS : Nat → Int64) (i f : Nat) : Int64 := (fl (HS i) true).2 f
def off (HS : Nat → Int64) : Nat → Nat
  | 0 => 0
  | i + 1 => off HS i + nfo HS i
/-- a form from its least square on; where its corner may lie -/
def shp (s : Int64) : Int64 := mj_ju s (Int32.ofNat (lb s))
def plc (s : Int64) : Int64 := mj_js (bx (9 - wd s 64) (9 - hg s 64)) (Int32.ofNat (lb s))
def mv (HS : Nat → Int64) (t : Nat × Nat × Nat) : Int64 := mj_js (shp (ff HS t.2.1 t.2.2)) (Int32.ofNat t.1)
/-- what the first d of the laid forms cover -/
def cov (HS : Nat → Int64) (S : Nat → Nat × Nat × Nat) : Nat → Int64
  | 0 => 0
  | d + 1 => cov HS S d ||| mv HS (S d)
def used (S : Nat → Nat × Nat × Nat) (i : Nat) : Nat → Nat
  | 0 => 0
  | d + 1 => used S i d + (if (S d).2.1 = i then 1 else 0)
/-- the copies of a sort: 64 where any number may be taken -/
def cps (c : Int32) : Nat := if c = -1 then 64 else c.toInt.toNat
/-- the tables of choices in the class's Tries at b -/
def TB (b K : Nat) (HS : Nat → Int64) (h : mj_H) : Prop := mj_gI h b 4 = Int32.ofNat (off HS K) ∧ mj_gI h b 6 = Int32.ofNat K ∧ ∀ i, i < K → ∀ f, f < nfo HS i → mj_gJ h (b + 1) (off HS i + f) = shp (ff HS i f) ∧ mj_gJ h (b + 2) (off HS i + f) = plc (ff HS i f) ∧ mj_gI h (b + 3) (off HS i + f) = Int32.ofNat i ∧ mj_gI h (b + 4) (off HS i + f) = Int32.ofNat f
/-- what is laid there -/
def TK (b K : Nat) (HS : Nat → Int64) (SC : Nat → Int32) (G : Int64) (D : Nat) (S : Nat → Nat × Nat × Nat) (M : Nat) (h : mj_H) : Prop := mj_gI h b 10 = Int32.ofNat D ∧ mj_gJ h b 11 = (G &&& (cov HS S D ^^^ (-1))) ∧ mj_gI h b 14 = Int32.ofNat M ∧ (∀ d, d < D → mj_gI h (b + 7) d = Int32.ofNat (S d).1 ∧ mj_gI h (b + 8) d = Int32.ofNat (off HS (S d).2.1 + (S d).2.2)) ∧ ∀ i, i < K → mj_gI h (b + 5) i = Int32.ofNat (cps (SC i) - used S i D)
/-- the same in the model -/
def MK (w : Nat) (HS : Nat → Int64) (D : Nat) (S : Nat → Nat × Nat × Nat) (M : Nat) (h : mj_H) : Prop := mj_gI h 49 w = Int32.ofNat D ∧ mj_gI h 50 w = Int32.ofNat M ∧ (∀ d, d ≤ D → mj_gJ h 51 (65 * w + d) = cov HS S d) ∧ ∀ d, d < D → mj_gI h 46 (65 * w + d) = Int32.ofNat (S d).1 ∧ mj_gI h 47 (65 * w + d) = Int32.ofNat (S d).2.1 ∧ mj_gI h 48 (65 * w + d) = Int32.ofNat (S d).2.2
/-- what is laid is laid well -/
def Wk (K : Nat) (HS : Nat → Int64) (SC : Nat → Int32) (G : Int64) (D : Nat) (S : Nat → Nat × Nat × Nat) (M : Nat) : Prop := M ≤ 100000 ∧ D ≤ M ∧ (∀ d, d < D → (S d).1 < 64 ∧ (S d).2.1 < K ∧ (S d).2.2 < nfo HS (S d).2.1 ∧ bt (mv HS (S d)) (S d).1 = true ∧ sub (mv HS (S d)) (G &&& (cov HS S d ^^^ (-1)))) ∧ ∀ i, i < K → used S i D ≤ cps (SC i)
/-! the lists -/
def lstep (s : Int64) (q : Nat × (Nat → Int64)) : Nat → Nat × (Nat → Int64)
  | 0 => q
  | i + 1 => if jn s 1 (i % 10 + 7) (i / 10 + 7) = 0 then lstep s q i else ins (lstep s q i) (jn s 1 (i % 10 + 7) (i / 10 + 7))
def lall (p : Nat × (Nat → Int64)) : Nat → Nat × (Nat → Int64)
  | 0 => (0, fun _ => 0)
  | k + 1 => lstep (p.2 k) (lall p k) 100
/-- all heaps of n + 1 squares, by their numbers -/
def LA : Nat → Nat × (Nat → Int64)
  | 0 => (1, fun _ => 1)
  | n + 1 => lall (LA n) (LA n).1
def lsel (p : Nat × (Nat → Int64)) (b : Bool) : Nat → Nat × (Nat → Int64)
  | 0 => (0, fun _ => 0)
  | k + 1 => if lf (p.2 k) b = p.2 k then ins (lsel p b k) (p.2 k) else lsel p b k
def LL (n how : Nat) : Nat × (Nat → Int64) := if how = 0 then LA n else lsel (LA n) (decide (how = 2)) (LA n).1
/-- the list of size n + 1 in the class's cells: its object at r, its numbers at r + 1 -/
def HL (q : Nat × (Nat → Int64)) (r cap : Nat) (h : mj_H) : Prop := mj_k h r = (3, 2) ∧ mj_gR h r 0 = some (r + 1) ∧ mj_gI h r 1 = Int32.ofNat q.1 ∧ mj_k h (r + 1) = (1, cap) ∧ q.1 ≤ cap ∧ cap < 1000 ∧ ∀ i, i < q.1 → mj_gJ h (r + 1) i = q.2 i
def CL (m : Nat) (h : mj_H) : Prop := m ≤ 6 ∧ h.1 = 58 + 6 * m ∧ h.2.1 ≤ 200000 + 4000 * m ∧ (∀ j, 3 * m ≤ j → j < 18 → mj_gR h 5 j = none) ∧ ∀ n, n < m → ∀ w, w < 3 → mj_gR h 5 (3 * n + w) = some (58 + 6 * n + 2 * w) ∧ ∃ cap, HL (LL n w) (58 + 6 * n + 2 * w) cap h
def lof : Nat → Nat
  | 0 => 0
  | n + 1 => lof n + (LA n).1
def c1 (n : Nat) (H : Nat → Int64) (h : mj_H) : Prop := mj_gI h 2 1 = Int32.ofNat n ∧ ∀ i, i < n → mj_gJ h 3 i = H i
def c2 (R : Nat → Int32) (h : mj_H) : Prop := ∀ i, 2 ≤ i → i ≤ 8 → mj_gI h 33 i = R i
def c3 (K : Nat) (SH : Nat → Nat) (SC : Nat → Int32) (h : mj_H) : Prop := mj_gI h 2 6 = Int32.ofNat K ∧ ∀ i, i < K → mj_gI h 6 i = Int32.ofNat (SH i) ∧ mj_gI h 7 i = SC i
def c4 (G : Int64) (h : mj_H) : Prop := mj_gJ h 2 3 = G
def c5 (A : AS) (h : mj_H) : Prop := mj_gI h 2 9 = (if aF A = true then 1 else 0) ∧ mj_gI h 2 10 = aT A ∧ (aF A = true → TB 8 (aK A) (aQ A) h ∧ TK 8 (aK A) (aQ A) (aSC A) (aG A) (aD A) (aS A) (aM A) h ∧ mj_gI h 8 13 = 1)
def c6 (A : AS) (h : mj_H) : Prop := mj_gI h 2 14 = (if aRT A = true then 1 else 0) ∧ (aRT A = true → mj_gI h 2 13 = Int32.ofNat (aRC A) ∧ ∀ j, j < aRC A → mj_gI h 31 j = aRN A j)
def c8 (h : mj_H) : Prop := (mj_gR h 26 4 = some 29 ∧ mj_gR h 26 5 = some 30) ∨ (mj_gR h 26 4 = some 30 ∧ mj_gR h 26 5 = some 29)
def m1 (n : Nat) (H : Nat → Int64) (h : mj_H) : Prop := mj_gI h 34 1 = Int32.ofNat n ∧ ∀ i, i < n → mj_gJ h 35 i = H i
def m2 (R : Nat → Int32) (h : mj_H) : Prop := ∀ i, 2 ≤ i → i ≤ 8 → mj_gI h 36 i = R i
def m3 (A : AS) (h : mj_H) : Prop := mj_gI h 34 15 = Int32.ofNat (aK A) ∧ ∀ i, i < aK A → mj_gI h 42 i = Int32.ofNat (aSH A i) ∧ mj_gI h 43 i = aSC A i ∧ mj_gI h 44 i = Int32.ofNat (nfo (aHS A) i) ∧ ∀ f, f < nfo (aHS A) i → mj_gJ h 45 (8 * i + f) = ff (aHS A) i f
def m4 (G : Int64) (h : mj_H) : Prop := mj_gJ h 34 10 = G
def m5 (A : AS) (h : mj_H) : Prop := mj_gI h 34 22 = (if aF A = true then 1 else 0) ∧ mj_gI h 34 23 = aT A ∧ (aF A = true → MK 0 (aQ A) (aD A) (aS A) (aM A) h)
def m6 (A : AS) (h : mj_H) : Prop := mj_gI h 34 30 = (if aRT A = true then Int32.ofNat (aRC A) else -1) ∧ (aRT A = true → ∀ j, j < aRC A → mj_gI h 56 j = aRN A j)
def m7 (h : mj_H) : Prop := mj_gI h 41 2 = 0 ∨ ((∀ n, n ≤ 6 → mj_gI h 41 (n + 1) = Int32.ofNat (lof n)) ∧ ∀ n, n < 6 → ∀ i, i < (LA n).1 → mj_gJ h 40 (lof n + i) = (LA n).2 i)
def Cs (A : AS) (h : mj_H) : Prop := c1 (aN A) (aH A) h ∧ c2 (aR A) h ∧ c3 (aK A) (aSH A) (aSC A) h ∧ c4 (aG A) h ∧ c5 A h ∧ c6 A h ∧ (∃ m, CL m h) ∧ c8 h
def Ms (A : AS) (h : mj_H) : Prop := m1 (aN A) (aH A) h ∧ m2 (aR A) h ∧ m3 A h ∧ m4 (aG A) h ∧ m5 A h ∧ m6 A h ∧ m7 h
def Wf (A : AS) : Prop := aN A ≤ 12 ∧ (∀ i, i < aN A → Nm (aH A i)) ∧ aK A ≤ 4 ∧ (∀ i, i < aK A → aSH A i < aN A ∧ -1 ≤ (aSC A i).toInt ∧ (aSC A i).toInt ≤ 64) ∧ (aF A = true → (∀ i, i < aK A → aQ A i = aHS A i) ∧ Wk (aK A) (aQ A) (aSC A) (aG A) (aD A) (aS A) (aM A) ∧ aG A &&& (cov (aQ A) (aS A) (aD A) ^^^ (-1)) = 0) ∧ (aRT A = true → aRC A ≤ 8)
/-! what stays where nothing was written -/
def d1 (r j : Nat) : Prop := r = 3 ∨ (r = 2 ∧ j = 1)
def d2 (r _ : Nat) : Prop := r = 33
def d3 (r j : Nat) : Prop := r = 6 ∨ r = 7 ∨ (r = 2 ∧ j = 6)
def d4 (r j : Nat) : Prop := r = 2 ∧ j = 3
def d5 (r j : Nat) : Prop := (8 ≤ r ∧ r ≤ 16) ∨ (r = 2 ∧ (j = 9 ∨ j = 10))
def d6 (r j : Nat) : Prop := r = 31 ∨ (r = 2 ∧ (j = 13 ∨ j = 14))
def d7 (r _ : Nat) : Prop := 58 ≤ r
theorem c1_fr {P : Nat → Nat → Prop} {n : Nat} {H : Nat → Int64} {h h1 : mj_H} (hf : fr P h h1) (hP : ∀ r j, P r j → ¬ d1 r j) (hc : c1 n H h) : c1 n H h1 :=
  ⟨(fr_I hf (fun x => hP 2 1 x (Or.inr ⟨rfl, rfl⟩))).trans hc.1, fun i hi => (fr_J hf (fun x => hP 3 i x (Or.inl rfl))).trans (hc.2 i hi)⟩
theorem c2_fr {P : Nat → Nat → Prop} {R : Nat → Int32} {h h1 : mj_H} (hf : fr P h h1) (hP : ∀ r j, P r j → ¬ d2 r j) (hc : c2 R h) : c2 R h1 :=
  fun i a b => (fr_I hf (fun x => hP 33 i x rfl)).trans (hc i a b)
theorem c3_fr {P : Nat → Nat → Prop} {K : Nat} {SH : Nat → Nat} {SC : Nat → Int32} {h h1 : mj_H} (hf : fr P h h1) (hP : ∀ r j, P r j → ¬ d3 r j) (hc : c3 K SH SC h) : c3 K SH SC h1 :=
  ⟨(fr_I hf (fun x => hP 2 6 x (Or.inr (Or.inr ⟨rfl, rfl⟩)))).trans hc.1, fun i hi => ⟨(fr_I hf (fun x => hP 6 i x (Or.inl rfl))).trans (hc.2 i hi).1, (fr_I hf (fun x => hP 7 i x (Or.inr (Or.inl rfl)))).trans (hc.2 i hi).2⟩⟩
theorem c4_fr {P : Nat → Nat → Prop} {G : Int64} {h h1 : mj_H} (hf : fr P h h1) (hP : ∀ r j, P r j → ¬ d4 r j) (hc : c4 G h) : c4 G h1 :=
  (fr_J hf (fun x => hP 2 3 x ⟨rfl, rfl⟩)).trans hc
theorem TB_fr {P : Nat → Nat → Prop} {b K : Nat} {HS : Nat → Int64} {h h1 : mj_H} (hf : fr P h h1) (hP : ∀ r j, P r j → ¬ ((b < r ∧ r ≤ b + 4) ∨ (r = b ∧ (j = 4 ∨ j = 6)))) (hc : TB b K HS h) : TB b K HS h1 := by
  refine ⟨(fr_I hf (fun x => hP _ _ x (by omega))).trans hc.1, (fr_I hf (fun x => hP _ _ x (by omega))).trans hc.2.1, fun i hi f hff => ?_⟩
  have h2 := hc.2.2 i hi f hff
  exact ⟨(fr_J hf (fun x => hP _ _ x (by omega))).trans h2.1, (fr_J hf (fun x => hP _ _ x (by omega))).trans h2.2.1, (fr_I hf (fun x => hP _ _ x (by omega))).trans h2.2.2.1, (fr_I hf (fun x => hP _ _ x (by omega))).trans h2.2.2.2⟩
theorem TK_fr {P : Nat → Nat → Prop} {b K D M : Nat} {HS : Nat → Int64} {SC : Nat → Int32} {G : Int64} {S : Nat → Nat × Nat × Nat} {h h1 : mj_H} (hf : fr P h h1) (hP : ∀ r j, P r j → ¬ (r = b + 5 ∨ r = b + 7 ∨ r = b + 8 ∨ (r = b ∧ (j = 10 ∨ j = 11 ∨ j = 14)))) (hc : TK b K HS SC G D S M h) : TK b K HS SC G D S M h1 := by
  refine ⟨(fr_I hf (fun x => hP _ _ x (by omega))).trans hc.1, (fr_J hf (fun x => hP _ _ x (by omega))).trans hc.2.1, (fr_I hf (fun x => hP _ _ x (by omega))).trans hc.2.2.1, fun e he => ?_, fun i hi => (fr_I hf (fun x => hP _ _ x (by omega))).trans (hc.2.2.2.2 i hi)⟩
  have h2 := hc.2.2.2.1 e he
  exact ⟨(fr_I hf (fun x => hP _ _ x (by omega))).trans h2.1, (fr_I hf (fun x => hP _ _ x (by omega))).trans h2.2⟩
theorem c5_fr {P : Nat → Nat → Prop} {A : AS} {h h1 : mj_H} (hf : fr P h h1) (hP : ∀ r j, P r j → ¬ d5 r j) (hc : c5 A h) : c5 A h1 := by
  unfold d5 at hP
  refine ⟨(fr_I hf (fun x => hP _ _ x (by omega))).trans hc.1, (fr_I hf (fun x => hP _ _ x (by omega))).trans hc.2.1, fun hF => ?_⟩
  have h2 := hc.2.2 hF
  refine ⟨TB_fr hf (fun r j x y => hP r j x (by omega)) h2.1, TK_fr hf (fun r j x y => hP r j x (by omega)) h2.2.1, (fr_I hf (fun x => hP _ _ x (by omega))).trans h2.2.2⟩
theorem c6_fr {P : Nat → Nat → Prop} {A : AS} {h h1 : mj_H} (hf : fr P h h1) (hP : ∀ r j, P r j → ¬ d6 r j) (hc : c6 A h) : c6 A h1 := by
  unfold d6 at hP
  refine ⟨(fr_I hf (fun x => hP _ _ x (by omega))).trans hc.1, fun hF => ?_⟩
  have h2 := hc.2 hF
  exact ⟨(fr_I hf (fun x => hP _ _ x (by omega))).trans h2.1, fun j hj => (fr_I hf (fun x => hP _ _ x (by omega))).trans (h2.2 j hj)⟩
theorem HL_fr {P : Nat → Nat → Prop} {q : Nat × (Nat → Int64)} {r cap : Nat} {h h1 : mj_H} (hf : fr P h h1) (hP : ∀ a j, P a j → ¬ (a = r ∨ a = r + 1)) (hc : HL q r cap h) : HL q r cap h1 :=
  ⟨(fr_k hf _).trans hc.1, (fr_R hf _ _).trans hc.2.1, (fr_I hf (fun x => hP _ _ x (Or.inl rfl))).trans hc.2.2.1, (fr_k hf _).trans hc.2.2.2.1, hc.2.2.2.2.1, hc.2.2.2.2.2.1, fun i hi => (fr_J hf (fun x => hP _ _ x (Or.inr rfl))).trans (hc.2.2.2.2.2.2 i hi)⟩
theorem CL_fr {P : Nat → Nat → Prop} {m : Nat} {h h1 : mj_H} (hf : fr P h h1) (hP : ∀ a j, P a j → ¬ d7 a j) (hc : CL m h) : CL m h1 := by
  unfold d7 at hP
  refine ⟨hc.1, hf.1.trans hc.2.1, by rw [hf.2.1]; exact hc.2.2.1, fun j a b => (fr_R hf _ _).trans (hc.2.2.2.1 j a b), fun n hn w hw => ?_⟩
  obtain ⟨h2, cap, h3⟩ := hc.2.2.2.2 n hn w hw
  exact ⟨(fr_R hf _ _).trans h2, cap, HL_fr hf (fun a j x y => hP a j x (by omega)) h3⟩
theorem c8_fr {P : Nat → Nat → Prop} {h h1 : mj_H} (hf : fr P h h1) (hc : c8 h) : c8 h1 := by
  unfold c8
  rw [fr_R hf, fr_R hf]
  exact hc
theorem Cs_fr {P : Nat → Nat → Prop} {A : AS} {h h1 : mj_H} (hf : fr P h h1) (hP : ∀ r j, P r j → 34 ≤ r ∧ r < 58) (hc : Cs A h) : Cs A h1 :=
  ⟨c1_fr hf (fun r j x y => by have := hP r j x; unfold d1 at y; omega) hc.1, c2_fr hf (fun r j x y => by have := hP r j x; unfold d2 at y; omega) hc.2.1, c3_fr hf (fun r j x y => by have := hP r j x; unfold d3 at y; omega) hc.2.2.1, c4_fr hf (fun r j x y => by have := hP r j x; unfold d4 at y; omega) hc.2.2.2.1, c5_fr hf (fun r j x y => by have := hP r j x; unfold d5 at y; omega) hc.2.2.2.2.1, c6_fr hf (fun r j x y => by have := hP r j x; unfold d6 at y; omega) hc.2.2.2.2.2.1, (by obtain ⟨m, hm⟩ := hc.2.2.2.2.2.2.1; exact ⟨m, CL_fr hf (fun r j x y => by have := hP r j x; unfold d7 at y; omega) hm⟩), c8_fr hf hc.2.2.2.2.2.2.2⟩
def e1 (r j : Nat) : Prop := r = 35 ∨ (r = 34 ∧ j = 1)
def e2 (r _ : Nat) : Prop := r = 36
def e3 (r j : Nat) : Prop := (42 ≤ r ∧ r ≤ 45) ∨ (r = 34 ∧ j = 15)
def e4 (r j : Nat) : Prop := r = 34 ∧ j = 10
def e5 (r j : Nat) : Prop := (46 ≤ r ∧ r ≤ 51) ∨ (r = 34 ∧ (j = 22 ∨ j = 23))
def e6 (r j : Nat) : Prop := r = 56 ∨ (r = 34 ∧ j = 30)
def e7 (r _ : Nat) : Prop := r = 40 ∨ r = 41
/-- equal in what the model holds -/
def msm (h h1 : mj_H) : Prop := ∀ r, 34 ≤ r → r < 58 → (∀ j, mj_gI h1 r j = mj_gI h r j) ∧ (∀ j, mj_gJ h1 r j = mj_gJ h r j)
theorem Ms_sm {A : AS} {h h1 : mj_H} (hs : msm h h1) (hc : Ms A h) : Ms A h1 := by
  have I : ∀ r j, 34 ≤ r → r < 58 → mj_gI h1 r j = mj_gI h r j := fun r j a b => (hs r a b).1 j
  have J : ∀ r j, 34 ≤ r → r < 58 → mj_gJ h1 r j = mj_gJ h r j := fun r j a b => (hs r a b).2 j
  obtain ⟨a1, a2, a3, a4, a5, a6, a7⟩ := hc
  refine ⟨⟨(I _ _ (by decide) (by decide)).trans a1.1, fun i hi => (J _ _ (by decide) (by decide)).trans (a1.2 i hi)⟩, fun i x y => (I _ _ (by decide) (by decide)).trans (a2 i x y), ⟨(I _ _ (by decide) (by decide)).trans a3.1, fun i hi => ?_⟩, (J _ _ (by decide) (by decide)).trans a4, ⟨(I _ _ (by decide) (by decide)).trans a5.1, (I _ _ (by decide) (by decide)).trans a5.2.1, fun hF => ?_⟩, ⟨(I _ _ (by decide) (by decide)).trans a6.1, fun hF j hj => (I _ _ (by decide) (by decide)).trans (a6.2 hF j hj)⟩, ?_⟩
  · have := a3.2 i hi
    exact ⟨(I _ _ (by decide) (by decide)).trans this.1, (I _ _ (by decide) (by decide)).trans this.2.1, (I _ _ (by decide) (by decide)).trans this.2.2.1, fun f hff => (J _ _ (by decide) (by decide)).trans (this.2.2.2 f hff)⟩
  · have := a5.2.2 hF
    refine ⟨(I _ _ (by decide) (by decide)).trans this.1, (I _ _ (by decide) (by decide)).trans this.2.1, fun d hd => (J _ _ (by decide) (by decide)).trans (this.2.2.1 d hd), fun d hd => ?_⟩
    have := this.2.2.2 d hd
    exact ⟨(I _ _ (by decide) (by decide)).trans this.1, (I _ _ (by decide) (by decide)).trans this.2.1, (I _ _ (by decide) (by decide)).trans this.2.2⟩
  · rcases a7 with a7 | a7
    · exact Or.inl ((I _ _ (by decide) (by decide)).trans a7)
    · exact Or.inr ⟨fun n hn => (I _ _ (by decide) (by decide)).trans (a7.1 n hn), fun n hn i hi => (J _ _ (by decide) (by decide)).trans (a7.2 n hn i hi)⟩
theorem m1_fr {P : Nat → Nat → Prop} {n : Nat} {H : Nat → Int64} {h h1 : mj_H} (hf : fr P h h1) (hP : ∀ r j, P r j → ¬ e1 r j) (hc : m1 n H h) : m1 n H h1 :=
  ⟨(fr_I hf (fun x => hP 34 1 x (Or.inr ⟨rfl, rfl⟩))).trans hc.1, fun i hi => (fr_J hf (fun x => hP 35 i x (Or.inl rfl))).trans (hc.2 i hi)⟩
theorem m2_fr {P : Nat → Nat → Prop} {R : Nat → Int32} {h h1 : mj_H} (hf : fr P h h1) (hP : ∀ r j, P r j → ¬ e2 r j) (hc : m2 R h) : m2 R h1 :=
  fun i a b => (fr_I hf (fun x => hP 36 i x rfl)).trans (hc i a b)
theorem m3_fr {P : Nat → Nat → Prop} {A : AS} {h h1 : mj_H} (hf : fr P h h1) (hP : ∀ r j, P r j → ¬ e3 r j) (hc : m3 A h) : m3 A h1 := by
  unfold e3 at hP
  refine ⟨(fr_I hf (fun x => hP _ _ x (by omega))).trans hc.1, fun i hi => ?_⟩
  have := hc.2 i hi
  exact ⟨(fr_I hf (fun x => hP _ _ x (by omega))).trans this.1, (fr_I hf (fun x => hP _ _ x (by omega))).trans this.2.1, (fr_I hf (fun x => hP _ _ x (by omega))).trans this.2.2.1, fun f hff => (fr_J hf (fun x => hP _ _ x (by omega))).trans (this.2.2.2 f hff)⟩
theorem m4_fr {P : Nat → Nat → Prop} {G : Int64} {h h1 : mj_H} (hf : fr P h h1) (hP : ∀ r j, P r j → ¬ e4 r j) (hc : m4 G h) : m4 G h1 :=
  (fr_J hf (fun x => hP 34 10 x ⟨rfl, rfl⟩)).trans hc
theorem m5_fr {P : Nat → Nat → Prop} {A : AS} {h h1 : mj_H} (hf : fr P h h1) (hP : ∀ r j, P r j → ¬ e5 r j) (hc : m5 A h) : m5 A h1 := by
  unfold e5 at hP
  refine ⟨(fr_I hf (fun x => hP _ _ x (by omega))).trans hc.1, (fr_I hf (fun x => hP _ _ x (by omega))).trans hc.2.1, fun hF => ?_⟩
  have := hc.2.2 hF
  refine ⟨(fr_I hf (fun x => hP _ _ x (by omega))).trans this.1, (fr_I hf (fun x => hP _ _ x (by omega))).trans this.2.1, fun d hd => (fr_J hf (fun x => hP _ _ x (by omega))).trans (this.2.2.1 d hd), fun d hd => ?_⟩
  have := this.2.2.2 d hd
  exact ⟨(fr_I hf (fun x => hP _ _ x (by omega))).trans this.1, (fr_I hf (fun x => hP _ _ x (by omega))).trans this.2.1, (fr_I hf (fun x => hP _ _ x (by omega))).trans this.2.2⟩
theorem m6_fr {P : Nat → Nat → Prop} {A : AS} {h h1 : mj_H} (hf : fr P h h1) (hP : ∀ r j, P r j → ¬ e6 r j) (hc : m6 A h) : m6 A h1 := by
  unfold e6 at hP
  exact ⟨(fr_I hf (fun x => hP _ _ x (by omega))).trans hc.1, fun hF j hj => (fr_I hf (fun x => hP _ _ x (by omega))).trans (hc.2 hF j hj)⟩
theorem m7_fr {P : Nat → Nat → Prop} {h h1 : mj_H} (hf : fr P h h1) (hP : ∀ r j, P r j → ¬ e7 r j) (hc : m7 h) : m7 h1 := by
  unfold e7 at hP
  rcases hc with a7 | a7
  · exact Or.inl ((fr_I hf (fun x => hP _ _ x (by omega))).trans a7)
  · exact Or.inr ⟨fun n hn => (fr_I hf (fun x => hP _ _ x (by omega))).trans (a7.1 n hn), fun n hn i hi => (fr_J hf (fun x => hP _ _ x (by omega))).trans (a7.2 n hn i hi)⟩
theorem Ms_fr {P : Nat → Nat → Prop} {A : AS} {h h1 : mj_H} (hf : fr P h h1) (hP : ∀ r j, P r j → ¬ (e1 r j ∨ e2 r j ∨ e3 r j ∨ e4 r j ∨ e5 r j ∨ e6 r j ∨ e7 r j)) (hc : Ms A h) : Ms A h1 :=
  ⟨m1_fr hf (fun r j x y => hP r j x (Or.inl y)) hc.1, m2_fr hf (fun r j x y => hP r j x (Or.inr (Or.inl y))) hc.2.1, m3_fr hf (fun r j x y => hP r j x (Or.inr (Or.inr (Or.inl y)))) hc.2.2.1, m4_fr hf (fun r j x y => hP r j x (Or.inr (Or.inr (Or.inr (Or.inl y))))) hc.2.2.2.1, m5_fr hf (fun r j x y => hP r j x (Or.inr (Or.inr (Or.inr (Or.inr (Or.inl y)))))) hc.2.2.2.2.1, m6_fr hf (fun r j x y => hP r j x (Or.inr (Or.inr (Or.inr (Or.inr (Or.inr (Or.inl y))))))) hc.2.2.2.2.2.1, m7_fr hf (fun r j x y => hP r j x (Or.inr (Or.inr (Or.inr (Or.inr (Or.inr (Or.inr y))))))) hc.2.2.2.2.2.2⟩
