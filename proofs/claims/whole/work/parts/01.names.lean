-- ===== PART A: goes FIRST, ahead of the names: the tables' words, and 'selects' of the private methods out of them =====
/-- a private method of a class that the tables say can be made, by its rows of tables_1 -/
def lw_okq (q : MethodName × Nat) : Prop := (q.1.cls ≠ "java/lang/invoke/MethodHandle" ∧ q.1.cls ≠ "java/lang/invoke/VarHandle") ∧ Cond.instantiable q.1.cls q.2 ∈ tables_1 ∧ Cond.privateMethod q.1 ∈ tables_1 ∧ Cond.instanceMethod q.1 ∈ tables_1
theorem lw_p0 : lw_okq (⟨"HeapSquares", "refuse", "(I)I"⟩, 17) := ⟨⟨by decide +kernel, by decide +kernel⟩, List.mem_of_getElem? (i := 13) (by decide +kernel), List.mem_of_getElem? (i := 191) (by decide +kernel), List.mem_of_getElem? (i := 192) (by decide +kernel)⟩
theorem lw_p1 : lw_okq (⟨"HeapSquares", "addHeap", "(J)I"⟩, 17) := ⟨⟨by decide +kernel, by decide +kernel⟩, List.mem_of_getElem? (i := 13) (by decide +kernel), List.mem_of_getElem? (i := 209) (by decide +kernel), List.mem_of_getElem? (i := 210) (by decide +kernel)⟩
theorem lw_p2 : lw_okq (⟨"HeapSquares", "isThere", "(I)Z"⟩, 17) := ⟨⟨by decide +kernel, by decide +kernel⟩, List.mem_of_getElem? (i := 13) (by decide +kernel), List.mem_of_getElem? (i := 221) (by decide +kernel), List.mem_of_getElem? (i := 222) (by decide +kernel)⟩
theorem lw_p3 : lw_okq (⟨"HeapSquares", "refuseLong", "(I)J"⟩, 17) := ⟨⟨by decide +kernel, by decide +kernel⟩, List.mem_of_getElem? (i := 13) (by decide +kernel), List.mem_of_getElem? (i := 225) (by decide +kernel), List.mem_of_getElem? (i := 226) (by decide +kernel)⟩
theorem lw_p4 : lw_okq (⟨"HeapSquares", "addTogether", "(JJII)I"⟩, 17) := ⟨⟨by decide +kernel, by decide +kernel⟩, List.mem_of_getElem? (i := 13) (by decide +kernel), List.mem_of_getElem? (i := 334) (by decide +kernel), List.mem_of_getElem? (i := 335) (by decide +kernel)⟩
theorem lw_p5 : lw_okq (⟨"HeapSquares$Lists", "make", "(I)V"⟩, 1) := ⟨⟨by decide +kernel, by decide +kernel⟩, List.mem_of_getElem? (i := 21) (by decide +kernel), List.mem_of_getElem? (i := 359) (by decide +kernel), List.mem_of_getElem? (i := 360) (by decide +kernel)⟩
theorem lw_p6 : lw_okq (⟨"HeapSquares", "loadSorts", "(LHeapSquares$Tries;)V"⟩, 17) := ⟨⟨by decide +kernel, by decide +kernel⟩, List.mem_of_getElem? (i := 13) (by decide +kernel), List.mem_of_getElem? (i := 433) (by decide +kernel), List.mem_of_getElem? (i := 434) (by decide +kernel)⟩
theorem lw_p7 : lw_okq (⟨"HeapSquares", "sortSet", "(I)J"⟩, 17) := ⟨⟨by decide +kernel, by decide +kernel⟩, List.mem_of_getElem? (i := 13) (by decide +kernel), List.mem_of_getElem? (i := 441) (by decide +kernel), List.mem_of_getElem? (i := 442) (by decide +kernel)⟩
theorem lw_p8 : lw_okq (⟨"HeapSquares", "seek", "()I"⟩, 17) := ⟨⟨by decide +kernel, by decide +kernel⟩, List.mem_of_getElem? (i := 13) (by decide +kernel), List.mem_of_getElem? (i := 457) (by decide +kernel), List.mem_of_getElem? (i := 458) (by decide +kernel)⟩
theorem lw_p9 : lw_okq (⟨"HeapSquares$Tries", "takeBack", "()Z"⟩, 15) := ⟨⟨by decide +kernel, by decide +kernel⟩, List.mem_of_getElem? (i := 34) (by decide +kernel), List.mem_of_getElem? (i := 465) (by decide +kernel), List.mem_of_getElem? (i := 466) (by decide +kernel)⟩
theorem lw_p10 : lw_okq (⟨"HeapSquares$Tries", "isTaken", "(I)Z"⟩, 15) := ⟨⟨by decide +kernel, by decide +kernel⟩, List.mem_of_getElem? (i := 34) (by decide +kernel), List.mem_of_getElem? (i := 469) (by decide +kernel), List.mem_of_getElem? (i := 470) (by decide +kernel)⟩
theorem lw_p11 : lw_okq (⟨"HeapSquares$Tries", "isChoice", "(I)Z"⟩, 15) := ⟨⟨by decide +kernel, by decide +kernel⟩, List.mem_of_getElem? (i := 34) (by decide +kernel), List.mem_of_getElem? (i := 473) (by decide +kernel), List.mem_of_getElem? (i := 474) (by decide +kernel)⟩
theorem lw_p12 : lw_okq (⟨"HeapSquares$Tries", "skipSortsWithoutCopies", "()V"⟩, 15) := ⟨⟨by decide +kernel, by decide +kernel⟩, List.mem_of_getElem? (i := 34) (by decide +kernel), List.mem_of_getElem? (i := 478) (by decide +kernel), List.mem_of_getElem? (i := 479) (by decide +kernel)⟩
theorem lw_p13 : lw_okq (⟨"HeapSquares$Tries", "tryNextChoice", "()V"⟩, 15) := ⟨⟨by decide +kernel, by decide +kernel⟩, List.mem_of_getElem? (i := 34) (by decide +kernel), List.mem_of_getElem? (i := 483) (by decide +kernel), List.mem_of_getElem? (i := 484) (by decide +kernel)⟩
theorem lw_p14 : lw_okq (⟨"HeapSquares$StripCount", "coverFrom", "(IJ)I"⟩, 6) := ⟨⟨by decide +kernel, by decide +kernel⟩, List.mem_of_getElem? (i := 87) (by decide +kernel), List.mem_of_getElem? (i := 549) (by decide +kernel), List.mem_of_getElem? (i := 550) (by decide +kernel)⟩
theorem lw_p15 : lw_okq (⟨"HeapSquares$StripCount", "passColumn", "()V"⟩, 6) := ⟨⟨by decide +kernel, by decide +kernel⟩, List.mem_of_getElem? (i := 87) (by decide +kernel), List.mem_of_getElem? (i := 558) (by decide +kernel), List.mem_of_getElem? (i := 559) (by decide +kernel)⟩
def lw_privs_1 : List (MethodName × Nat) := [(⟨"HeapSquares", "refuse", "(I)I"⟩, 17), (⟨"HeapSquares", "addHeap", "(J)I"⟩, 17), (⟨"HeapSquares", "isThere", "(I)Z"⟩, 17), (⟨"HeapSquares", "refuseLong", "(I)J"⟩, 17), (⟨"HeapSquares", "addTogether", "(JJII)I"⟩, 17), (⟨"HeapSquares$Lists", "make", "(I)V"⟩, 1), (⟨"HeapSquares", "loadSorts", "(LHeapSquares$Tries;)V"⟩, 17), (⟨"HeapSquares", "sortSet", "(I)J"⟩, 17), (⟨"HeapSquares", "seek", "()I"⟩, 17), (⟨"HeapSquares$Tries", "takeBack", "()Z"⟩, 15), (⟨"HeapSquares$Tries", "isTaken", "(I)Z"⟩, 15), (⟨"HeapSquares$Tries", "isChoice", "(I)Z"⟩, 15), (⟨"HeapSquares$Tries", "skipSortsWithoutCopies", "()V"⟩, 15), (⟨"HeapSquares$Tries", "tryNextChoice", "()V"⟩, 15), (⟨"HeapSquares$StripCount", "coverFrom", "(IJ)I"⟩, 6), (⟨"HeapSquares$StripCount", "passColumn", "()V"⟩, 6)]
theorem lw_r1 : ∀ q ∈ lw_privs_1, lw_okq q := List.forall_mem_cons.mpr ⟨lw_p0, List.forall_mem_cons.mpr ⟨lw_p1, List.forall_mem_cons.mpr ⟨lw_p2, List.forall_mem_cons.mpr ⟨lw_p3, List.forall_mem_cons.mpr ⟨lw_p4, List.forall_mem_cons.mpr ⟨lw_p5, List.forall_mem_cons.mpr ⟨lw_p6, List.forall_mem_cons.mpr ⟨lw_p7, List.forall_mem_cons.mpr ⟨lw_p8, List.forall_mem_cons.mpr ⟨lw_p9, List.forall_mem_cons.mpr ⟨lw_p10, List.forall_mem_cons.mpr ⟨lw_p11, List.forall_mem_cons.mpr ⟨lw_p12, List.forall_mem_cons.mpr ⟨lw_p13, List.forall_mem_cons.mpr ⟨lw_p14, List.forall_mem_cons.mpr ⟨lw_p15, fun _ h => absurd h List.not_mem_nil⟩⟩⟩⟩⟩⟩⟩⟩⟩⟩⟩⟩⟩⟩⟩⟩
theorem lw_p16 : lw_okq (⟨"HeapSquares$StripCount", "addWays", "(IJ)V"⟩, 6) := ⟨⟨by decide +kernel, by decide +kernel⟩, List.mem_of_getElem? (i := 87) (by decide +kernel), List.mem_of_getElem? (i := 565) (by decide +kernel), List.mem_of_getElem? (i := 566) (by decide +kernel)⟩
theorem lw_p17 : lw_okq (⟨"HeapSquaresModel", "no", "(I)I"⟩, 31) := ⟨⟨by decide +kernel, by decide +kernel⟩, List.mem_of_getElem? (i := 596) (by decide +kernel), List.mem_of_getElem? (i := 714) (by decide +kernel), List.mem_of_getElem? (i := 715) (by decide +kernel)⟩
theorem lw_p18 : lw_okq (⟨"HeapSquaresModel", "adds", "(J)I"⟩, 31) := ⟨⟨by decide +kernel, by decide +kernel⟩, List.mem_of_getElem? (i := 596) (by decide +kernel), List.mem_of_getElem? (i := 718) (by decide +kernel), List.mem_of_getElem? (i := 719) (by decide +kernel)⟩
theorem lw_p19 : lw_okq (⟨"HeapSquaresModel", "isHeap", "(I)Z"⟩, 31) := ⟨⟨by decide +kernel, by decide +kernel⟩, List.mem_of_getElem? (i := 596) (by decide +kernel), List.mem_of_getElem? (i := 735) (by decide +kernel), List.mem_of_getElem? (i := 736) (by decide +kernel)⟩
theorem lw_p20 : lw_okq (⟨"HeapSquaresModel", "none", "(I)J"⟩, 31) := ⟨⟨by decide +kernel, by decide +kernel⟩, List.mem_of_getElem? (i := 596) (by decide +kernel), List.mem_of_getElem? (i := 739) (by decide +kernel), List.mem_of_getElem? (i := 740) (by decide +kernel)⟩
theorem lw_p21 : lw_okq (⟨"HeapSquaresModel", "findForms", "(JZ)V"⟩, 31) := ⟨⟨by decide +kernel, by decide +kernel⟩, List.mem_of_getElem? (i := 596) (by decide +kernel), List.mem_of_getElem? (i := 765) (by decide +kernel), List.mem_of_getElem? (i := 766) (by decide +kernel)⟩
theorem lw_p22 : lw_okq (⟨"HeapSquaresModel", "comes", "(J)V"⟩, 31) := ⟨⟨by decide +kernel, by decide +kernel⟩, List.mem_of_getElem? (i := 596) (by decide +kernel), List.mem_of_getElem? (i := 772) (by decide +kernel), List.mem_of_getElem? (i := 773) (by decide +kernel)⟩
theorem lw_p23 : lw_okq (⟨"HeapSquaresModel", "halvesOf", "(J)I"⟩, 31) := ⟨⟨by decide +kernel, by decide +kernel⟩, List.mem_of_getElem? (i := 596) (by decide +kernel), List.mem_of_getElem? (i := 779) (by decide +kernel), List.mem_of_getElem? (i := 780) (by decide +kernel)⟩
theorem lw_p24 : lw_okq (⟨"HeapSquaresModel", "leastOf", "(JZ)J"⟩, 31) := ⟨⟨by decide +kernel, by decide +kernel⟩, List.mem_of_getElem? (i := 596) (by decide +kernel), List.mem_of_getElem? (i := 784) (by decide +kernel), List.mem_of_getElem? (i := 785) (by decide +kernel)⟩
theorem lw_p25 : lw_okq (⟨"HeapSquaresModel", "placeAll", "(JII)V"⟩, 31) := ⟨⟨by decide +kernel, by decide +kernel⟩, List.mem_of_getElem? (i := 596) (by decide +kernel), List.mem_of_getElem? (i := 813) (by decide +kernel), List.mem_of_getElem? (i := 814) (by decide +kernel)⟩
theorem lw_p26 : lw_okq (⟨"HeapSquaresModel", "place", "(II)V"⟩, 31) := ⟨⟨by decide +kernel, by decide +kernel⟩, List.mem_of_getElem? (i := 596) (by decide +kernel), List.mem_of_getElem? (i := 817) (by decide +kernel), List.mem_of_getElem? (i := 818) (by decide +kernel)⟩
theorem lw_p27 : lw_okq (⟨"HeapSquaresModel", "together", "()J"⟩, 31) := ⟨⟨by decide +kernel, by decide +kernel⟩, List.mem_of_getElem? (i := 596) (by decide +kernel), List.mem_of_getElem? (i := 821) (by decide +kernel), List.mem_of_getElem? (i := 822) (by decide +kernel)⟩
theorem lw_p28 : lw_okq (⟨"HeapSquaresModel", "makeLists", "()V"⟩, 31) := ⟨⟨by decide +kernel, by decide +kernel⟩, List.mem_of_getElem? (i := 596) (by decide +kernel), List.mem_of_getElem? (i := 836) (by decide +kernel), List.mem_of_getElem? (i := 837) (by decide +kernel)⟩
theorem lw_p29 : lw_okq (⟨"HeapSquaresModel", "lists", "(IJ)V"⟩, 31) := ⟨⟨by decide +kernel, by decide +kernel⟩, List.mem_of_getElem? (i := 596) (by decide +kernel), List.mem_of_getElem? (i := 840) (by decide +kernel), List.mem_of_getElem? (i := 841) (by decide +kernel)⟩
theorem lw_p30 : lw_okq (⟨"HeapSquaresModel", "isListed", "(JI)Z"⟩, 31) := ⟨⟨by decide +kernel, by decide +kernel⟩, List.mem_of_getElem? (i := 596) (by decide +kernel), List.mem_of_getElem? (i := 844) (by decide +kernel), List.mem_of_getElem? (i := 845) (by decide +kernel)⟩
theorem lw_p31 : lw_okq (⟨"HeapSquaresModel", "sets", "(III)V"⟩, 31) := ⟨⟨by decide +kernel, by decide +kernel⟩, List.mem_of_getElem? (i := 596) (by decide +kernel), List.mem_of_getElem? (i := 865) (by decide +kernel), List.mem_of_getElem? (i := 866) (by decide +kernel)⟩
def lw_privs_2 : List (MethodName × Nat) := [(⟨"HeapSquares$StripCount", "addWays", "(IJ)V"⟩, 6), (⟨"HeapSquaresModel", "no", "(I)I"⟩, 31), (⟨"HeapSquaresModel", "adds", "(J)I"⟩, 31), (⟨"HeapSquaresModel", "isHeap", "(I)Z"⟩, 31), (⟨"HeapSquaresModel", "none", "(I)J"⟩, 31), (⟨"HeapSquaresModel", "findForms", "(JZ)V"⟩, 31), (⟨"HeapSquaresModel", "comes", "(J)V"⟩, 31), (⟨"HeapSquaresModel", "halvesOf", "(J)I"⟩, 31), (⟨"HeapSquaresModel", "leastOf", "(JZ)J"⟩, 31), (⟨"HeapSquaresModel", "placeAll", "(JII)V"⟩, 31), (⟨"HeapSquaresModel", "place", "(II)V"⟩, 31), (⟨"HeapSquaresModel", "together", "()J"⟩, 31), (⟨"HeapSquaresModel", "makeLists", "()V"⟩, 31), (⟨"HeapSquaresModel", "lists", "(IJ)V"⟩, 31), (⟨"HeapSquaresModel", "isListed", "(JI)Z"⟩, 31), (⟨"HeapSquaresModel", "sets", "(III)V"⟩, 31)]
theorem lw_r2 : ∀ q ∈ lw_privs_2, lw_okq q := List.forall_mem_cons.mpr ⟨lw_p16, List.forall_mem_cons.mpr ⟨lw_p17, List.forall_mem_cons.mpr ⟨lw_p18, List.forall_mem_cons.mpr ⟨lw_p19, List.forall_mem_cons.mpr ⟨lw_p20, List.forall_mem_cons.mpr ⟨lw_p21, List.forall_mem_cons.mpr ⟨lw_p22, List.forall_mem_cons.mpr ⟨lw_p23, List.forall_mem_cons.mpr ⟨lw_p24, List.forall_mem_cons.mpr ⟨lw_p25, List.forall_mem_cons.mpr ⟨lw_p26, List.forall_mem_cons.mpr ⟨lw_p27, List.forall_mem_cons.mpr ⟨lw_p28, List.forall_mem_cons.mpr ⟨lw_p29, List.forall_mem_cons.mpr ⟨lw_p30, List.forall_mem_cons.mpr ⟨lw_p31, fun _ h => absurd h List.not_mem_nil⟩⟩⟩⟩⟩⟩⟩⟩⟩⟩⟩⟩⟩⟩⟩⟩
theorem lw_p32 : lw_okq (⟨"HeapSquaresModel", "begins", "(I)V"⟩, 31) := ⟨⟨by decide +kernel, by decide +kernel⟩, List.mem_of_getElem? (i := 596) (by decide +kernel), List.mem_of_getElem? (i := 877) (by decide +kernel), List.mem_of_getElem? (i := 878) (by decide +kernel)⟩
theorem lw_p33 : lw_okq (⟨"HeapSquaresModel", "goesOn", "(IJZ)I"⟩, 31) := ⟨⟨by decide +kernel, by decide +kernel⟩, List.mem_of_getElem? (i := 596) (by decide +kernel), List.mem_of_getElem? (i := 881) (by decide +kernel), List.mem_of_getElem? (i := 882) (by decide +kernel)⟩
theorem lw_p34 : lw_okq (⟨"HeapSquaresModel", "chooses", "(IJII)I"⟩, 31) := ⟨⟨by decide +kernel, by decide +kernel⟩, List.mem_of_getElem? (i := 596) (by decide +kernel), List.mem_of_getElem? (i := 885) (by decide +kernel), List.mem_of_getElem? (i := 886) (by decide +kernel)⟩
theorem lw_p35 : lw_okq (⟨"HeapSquaresModel", "left", "(II)I"⟩, 31) := ⟨⟨by decide +kernel, by decide +kernel⟩, List.mem_of_getElem? (i := 596) (by decide +kernel), List.mem_of_getElem? (i := 892) (by decide +kernel), List.mem_of_getElem? (i := 893) (by decide +kernel)⟩
theorem lw_p36 : lw_okq (⟨"HeapSquaresModel", "found", "(I)I"⟩, 31) := ⟨⟨by decide +kernel, by decide +kernel⟩, List.mem_of_getElem? (i := 596) (by decide +kernel), List.mem_of_getElem? (i := 900) (by decide +kernel), List.mem_of_getElem? (i := 901) (by decide +kernel)⟩
theorem lw_p37 : lw_okq (⟨"HeapSquaresModel", "squareOf", "(I)I"⟩, 31) := ⟨⟨by decide +kernel, by decide +kernel⟩, List.mem_of_getElem? (i := 596) (by decide +kernel), List.mem_of_getElem? (i := 930) (by decide +kernel), List.mem_of_getElem? (i := 931) (by decide +kernel)⟩
theorem lw_p38 : lw_okq (⟨"HeapSquaresModel", "steps", "(IIII)V"⟩, 31) := ⟨⟨by decide +kernel, by decide +kernel⟩, List.mem_of_getElem? (i := 596) (by decide +kernel), List.mem_of_getElem? (i := 940) (by decide +kernel), List.mem_of_getElem? (i := 941) (by decide +kernel)⟩
def lw_privs_3 : List (MethodName × Nat) := [(⟨"HeapSquaresModel", "begins", "(I)V"⟩, 31), (⟨"HeapSquaresModel", "goesOn", "(IJZ)I"⟩, 31), (⟨"HeapSquaresModel", "chooses", "(IJII)I"⟩, 31), (⟨"HeapSquaresModel", "left", "(II)I"⟩, 31), (⟨"HeapSquaresModel", "found", "(I)I"⟩, 31), (⟨"HeapSquaresModel", "squareOf", "(I)I"⟩, 31), (⟨"HeapSquaresModel", "steps", "(IIII)V"⟩, 31)]
theorem lw_r3 : ∀ q ∈ lw_privs_3, lw_okq q := List.forall_mem_cons.mpr ⟨lw_p32, List.forall_mem_cons.mpr ⟨lw_p33, List.forall_mem_cons.mpr ⟨lw_p34, List.forall_mem_cons.mpr ⟨lw_p35, List.forall_mem_cons.mpr ⟨lw_p36, List.forall_mem_cons.mpr ⟨lw_p37, List.forall_mem_cons.mpr ⟨lw_p38, fun _ h => absurd h List.not_mem_nil⟩⟩⟩⟩⟩⟩⟩
def lw_privs : List (MethodName × Nat) := lw_privs_1 ++ (lw_privs_2 ++ (lw_privs_3))
def lw_tbl : List Cond := k2_sels lw_privs ++ tables_1
theorem lw_privs_ok : ∀ q ∈ lw_privs, lw_okq q := by
  show ∀ q ∈ lw_privs_1 ++ (lw_privs_2 ++ (lw_privs_3)), lw_okq q
  exact List.forall_mem_append.mpr ⟨lw_r1, List.forall_mem_append.mpr ⟨lw_r2, lw_r3⟩⟩
-- ===== end of PART A
/-! ===== BEGIN words of one list among another's, by their places ===== -/
theorem goodIn_r {big : List Cond} (ws : List Cond) (ps : List Nat) (hp : ws = ps.filterMap (fun i => big[i]?)) (h : ws.all goodWord = true) : GoodIn big ws := by
  intro w hw
  have h1 := List.all_eq_true.mp h w hw
  rw [hp] at hw
  obtain ⟨i, -, hi⟩ := List.mem_filterMap.mp hw
  have hm : w ∈ big := by first | exact List.mem_of_getElem? hi | exact List.getElem?_mem hi
  exact ⟨hm, good_of_word h1⟩
theorem goodIn_app {big a b : List Cond} (ha : GoodIn big a) (hb : GoodIn big b) : GoodIn big (a ++ b) := fun w h => (List.mem_append.mp h).elim (ha w) (hb w)
theorem goodIn_ca {big a b : List Cond} {c : Cond} (ha : GoodIn big (c :: a)) (hb : GoodIn big b) : GoodIn big (c :: (a ++ b)) := fun w h => (List.mem_cons.mp h).elim (fun e => ha w (List.mem_cons.mpr (Or.inl e))) (fun h => (List.mem_append.mp h).elim (fun h => ha w (List.mem_cons.mpr (Or.inr h))) (hb w))
theorem goodIn_sub {big ws : List Cond} (hm : ∀ w ∈ ws, w ∈ big) (h : ws.all goodWord = true) : GoodIn big ws := fun w hw => ⟨hm w hw, good_of_word (List.all_eq_true.mp h w hw)⟩
/-! ===== END ===== -/

def RX0 : String := "HeapSquares$HeapList"
def TX0 : u_T := fun k => match k with
  | 0 => ("HeapSquares$HeapList", "sets", "[J", true)
  | _ => ("HeapSquares$HeapList", "many", "I", false)
def tyX0 : Nat → FieldType := fun k => match k with
  | 0 => .array .long
  | _ => .int
abbrev wsX00 : List Cond := u_ws RX0 TX0 2
theorem nmX0 : ∀ a, a < 2 → ∀ b, b < 2 → a ≠ b → (TX0 a).2.1 ≠ (TX0 b).2.1 := by decide +kernel
theorem tyX0_ok : ∀ k, k < 2 → parseFieldDescriptor (TX0 k).2.2.1 = some (tyX0 k) := by decide +kernel
abbrev cX0_init : ByteArray := prog_2_method_1_code
def yX0_init : MethodName := ⟨RX0, "<init>", "(I)V"⟩
abbrev cX0_length : ByteArray := prog_2_method_2_code
def yX0_length : MethodName := ⟨RX0, "length", "()I"⟩
abbrev cX0_at : ByteArray := prog_2_method_3_code
def yX0_at : MethodName := ⟨RX0, "at", "(I)J"⟩
abbrev cX0_add : ByteArray := prog_2_method_4_code
def yX0_add : MethodName := ⟨RX0, "add", "(J)V"⟩
abbrev cX0_placeOf : ByteArray := prog_2_method_5_code
def yX0_placeOf : MethodName := ⟨RX0, "placeOf", "(J)I"⟩
def RX1 : String := "HeapSquares$Lists"
def TX1 : u_T := fun k => match k with
  | _ => ("HeapSquares$Lists", "made", "[LHeapSquares$HeapList;", true)
def tyX1 : Nat → FieldType := fun k => match k with
  | _ => .array (.object "HeapSquares$HeapList")
abbrev wsX10 : List Cond := u_ws RX1 TX1 1
theorem nmX1 : ∀ a, a < 1 → ∀ b, b < 1 → a ≠ b → (TX1 a).2.1 ≠ (TX1 b).2.1 := by decide +kernel
theorem tyX1_ok : ∀ k, k < 1 → parseFieldDescriptor (TX1 k).2.2.1 = some (tyX1 k) := by decide +kernel
abbrev cX1_init : ByteArray := prog_3_method_1_code
def yX1_init : MethodName := ⟨RX1, "<init>", "()V"⟩
abbrev cX1_of : ByteArray := prog_3_method_2_code
def yX1_of : MethodName := ⟨RX1, "of", "(II)LHeapSquares$HeapList;"⟩
abbrev cX1_make : ByteArray := prog_3_method_3_code
def yX1_make : MethodName := ⟨RX1, "make", "(I)V"⟩
abbrev cX1_leastOf : ByteArray := prog_3_method_4_code
def yX1_leastOf : MethodName := ⟨RX1, "leastOf", "(LHeapSquares$HeapList;Z)LHeapSquares$HeapList;"⟩
abbrev cX1_addGrown : ByteArray := prog_3_method_5_code
def yX1_addGrown : MethodName := ⟨RX1, "addGrown", "(LHeapSquares$HeapList;J)V"⟩
def RX2 : String := "HeapSquares$Sets"
def TX2 : u_T := fun k => match k with
  | _ => ("", "", "", false)
def tyX2 : Nat → FieldType := fun k => match k with
  | _ => .int
abbrev wsX20 : List Cond := u_ws RX2 TX2 0
theorem nmX2 : ∀ a, a < 0 → ∀ b, b < 0 → a ≠ b → (TX2 a).2.1 ≠ (TX2 b).2.1 := by decide +kernel
theorem tyX2_ok : ∀ k, k < 0 → parseFieldDescriptor (TX2 k).2.2.1 = some (tyX2 k) := by decide +kernel
abbrev cX2_isHeap : ByteArray := prog_4_method_2_code
def yX2_isHeap : MethodName := ⟨RX2, "isHeap", "(J)Z"⟩
abbrev cX2_hangsTogether : ByteArray := prog_4_method_3_code
def yX2_hangsTogether : MethodName := ⟨RX2, "hangsTogether", "(J)Z"⟩
abbrev cX2_reached : ByteArray := prog_4_method_4_code
def yX2_reached : MethodName := ⟨RX2, "reached", "(JJ)J"⟩
abbrev cX2_besides : ByteArray := prog_4_method_5_code
def yX2_besides : MethodName := ⟨RX2, "besides", "(J)J"⟩
abbrev cX2_columns : ByteArray := prog_4_method_6_code
def yX2_columns : MethodName := ⟨RX2, "columns", "(J)J"⟩
abbrev cX2_wide : ByteArray := prog_4_method_7_code
def yX2_wide : MethodName := ⟨RX2, "wide", "(J)I"⟩
abbrev cX2_high : ByteArray := prog_4_method_8_code
def yX2_high : MethodName := ⟨RX2, "high", "(J)I"⟩
abbrev cX2_box : ByteArray := prog_4_method_9_code
def yX2_box : MethodName := ⟨RX2, "box", "(II)J"⟩
abbrev cX2_leftUp : ByteArray := prog_4_method_10_code
def yX2_leftUp : MethodName := ⟨RX2, "leftUp", "(J)J"⟩
abbrev cX2_quarter : ByteArray := prog_4_method_11_code
def yX2_quarter : MethodName := ⟨RX2, "quarter", "(J)J"⟩
abbrev cX2_mirror : ByteArray := prog_4_method_12_code
def yX2_mirror : MethodName := ⟨RX2, "mirror", "(J)J"⟩
abbrev cX2_leastForm : ByteArray := prog_4_method_13_code
def yX2_leastForm : MethodName := ⟨RX2, "leastForm", "(JZ)J"⟩
abbrev cX2_formsInto : ByteArray := prog_4_method_14_code
def yX2_formsInto : MethodName := ⟨RX2, "formsInto", "([JJZ)I"⟩
abbrev cX2_insert : ByteArray := prog_4_method_15_code
def yX2_insert : MethodName := ⟨RX2, "insert", "([JIJ)I"⟩
abbrev cX2_place : ByteArray := prog_4_method_16_code
def yX2_place : MethodName := ⟨RX2, "place", "([JIJ)I"⟩
abbrev cX2_together : ByteArray := prog_4_method_17_code
def yX2_together : MethodName := ⟨RX2, "together", "(JJII)J"⟩
abbrev cX2_kind : ByteArray := prog_4_method_18_code
def yX2_kind : MethodName := ⟨RX2, "kind", "(J)I"⟩
abbrev cX2_hasWholeRows : ByteArray := prog_4_method_19_code
def yX2_hasWholeRows : MethodName := ⟨RX2, "hasWholeRows", "(J)Z"⟩
abbrev cX2_joinsCorners : ByteArray := prog_4_method_20_code
def yX2_joinsCorners : MethodName := ⟨RX2, "joinsCorners", "(J)Z"⟩
abbrev cX2_isHoled : ByteArray := prog_4_method_21_code
def yX2_isHoled : MethodName := ⟨RX2, "isHoled", "(J)Z"⟩
abbrev cX2_rim : ByteArray := prog_4_method_22_code
def yX2_rim : MethodName := ⟨RX2, "rim", "(J)I"⟩
abbrev cX2_cutsOf : ByteArray := prog_4_method_23_code
def yX2_cutsOf : MethodName := ⟨RX2, "cutsOf", "(J)J"⟩
abbrev cX2_halves : ByteArray := prog_4_method_24_code
def yX2_halves : MethodName := ⟨RX2, "halves", "(J)I"⟩
abbrev cX2_chosen : ByteArray := prog_4_method_25_code
def yX2_chosen : MethodName := ⟨RX2, "chosen", "(JI)J"⟩
abbrev cX2_areHalves : ByteArray := prog_4_method_26_code
def yX2_areHalves : MethodName := ⟨RX2, "areHalves", "(JJ)Z"⟩
def RX3 : String := "HeapSquares$StripCount"
def TX3 : u_T := fun k => match k with
  | 0 => ("HeapSquares$StripCount", "forms", "[J", true)
  | 1 => ("HeapSquares$StripCount", "covers", "[I", true)
  | 2 => ("HeapSquares$StripCount", "choices", "I", false)
  | 3 => ("HeapSquares$StripCount", "rows", "I", false)
  | 4 => ("HeapSquares$StripCount", "ways", "[J", false)
  | _ => ("HeapSquares$StripCount", "waysBehind", "[J", false)
def tyX3 : Nat → FieldType := fun k => match k with
  | 0 => .array .long
  | 1 => .array .int
  | 2 => .int
  | 3 => .int
  | 4 => .array .long
  | _ => .array .long
abbrev wsX30 : List Cond := u_ws RX3 TX3 6
theorem nmX3 : ∀ a, a < 6 → ∀ b, b < 6 → a ≠ b → (TX3 a).2.1 ≠ (TX3 b).2.1 := by decide +kernel
theorem tyX3_ok : ∀ k, k < 6 → parseFieldDescriptor (TX3 k).2.2.1 = some (tyX3 k) := by decide +kernel
abbrev cX3_init : ByteArray := prog_5_method_1_code
def yX3_init : MethodName := ⟨RX3, "<init>", "()V"⟩
abbrev cX3_begin : ByteArray := prog_5_method_2_code
def yX3_begin : MethodName := ⟨RX3, "begin", "(I)V"⟩
abbrev cX3_addSort : ByteArray := prog_5_method_3_code
def yX3_addSort : MethodName := ⟨RX3, "addSort", "(J)V"⟩
abbrev cX3_coverFrom : ByteArray := prog_5_method_4_code
def yX3_coverFrom : MethodName := ⟨RX3, "coverFrom", "(IJ)I"⟩
abbrev cX3_layings : ByteArray := prog_5_method_5_code
def yX3_layings : MethodName := ⟨RX3, "layings", "(I)J"⟩
abbrev cX3_passColumn : ByteArray := prog_5_method_6_code
def yX3_passColumn : MethodName := ⟨RX3, "passColumn", "()V"⟩
abbrev cX3_fill : ByteArray := prog_5_method_7_code
def yX3_fill : MethodName := ⟨RX3, "fill", "(LHeapSquares$StripCount;IIJ)V"⟩
abbrev cX3_addWays : ByteArray := prog_5_method_8_code
def yX3_addWays : MethodName := ⟨RX3, "addWays", "(IJ)V"⟩
def RX4 : String := "HeapSquares$Tries"
def TX4 : u_T := fun k => match k with
  | 0 => ("HeapSquares$Tries", "choiceShape", "[J", true)
  | 1 => ("HeapSquares$Tries", "choicePlaces", "[J", true)
  | 2 => ("HeapSquares$Tries", "choiceSort", "[I", true)
  | 3 => ("HeapSquares$Tries", "choiceForm", "[I", true)
  | 4 => ("HeapSquares$Tries", "choices", "I", false)
  | 5 => ("HeapSquares$Tries", "copiesLeft", "[I", true)
  | 6 => ("HeapSquares$Tries", "sorts", "I", false)
  | 7 => ("HeapSquares$Tries", "forms", "[J", true)
  | 8 => ("HeapSquares$Tries", "takenBit", "[I", true)
  | 9 => ("HeapSquares$Tries", "takenChoice", "[I", true)
  | 10 => ("HeapSquares$Tries", "depth", "I", false)
  | 11 => ("HeapSquares$Tries", "open", "J", false)
  | 12 => ("HeapSquares$Tries", "nextChoice", "I", false)
  | 13 => ("HeapSquares$Tries", "atLaying", "Z", false)
  | _ => ("HeapSquares$Tries", "triesMade", "I", false)
def tyX4 : Nat → FieldType := fun k => match k with
  | 0 => .array .long
  | 1 => .array .long
  | 2 => .array .int
  | 3 => .array .int
  | 4 => .int
  | 5 => .array .int
  | 6 => .int
  | 7 => .array .long
  | 8 => .array .int
  | 9 => .array .int
  | 10 => .int
  | 11 => .long
  | 12 => .int
  | 13 => .boolean
  | _ => .int
abbrev wsX40 : List Cond := u_ws RX4 TX4 15
theorem nmX4 : ∀ a, a < 15 → ∀ b, b < 15 → a ≠ b → (TX4 a).2.1 ≠ (TX4 b).2.1 := by decide +kernel
theorem tyX4_ok : ∀ k, k < 15 → parseFieldDescriptor (TX4 k).2.2.1 = some (tyX4 k) := by decide +kernel
abbrev cX4_init : ByteArray := prog_6_method_1_code
def yX4_init : MethodName := ⟨RX4, "<init>", "()V"⟩
abbrev cX4_begin : ByteArray := prog_6_method_2_code
def yX4_begin : MethodName := ⟨RX4, "begin", "(J)V"⟩
abbrev cX4_addSort : ByteArray := prog_6_method_3_code
def yX4_addSort : MethodName := ⟨RX4, "addSort", "(JI)V"⟩
abbrev cX4_made : ByteArray := prog_6_method_4_code
def yX4_made : MethodName := ⟨RX4, "made", "()I"⟩
abbrev cX4_taken : ByteArray := prog_6_method_5_code
def yX4_taken : MethodName := ⟨RX4, "taken", "()I"⟩
abbrev cX4_sortAt : ByteArray := prog_6_method_6_code
def yX4_sortAt : MethodName := ⟨RX4, "sortAt", "(I)I"⟩
abbrev cX4_bitAt : ByteArray := prog_6_method_7_code
def yX4_bitAt : MethodName := ⟨RX4, "bitAt", "(I)I"⟩
abbrev cX4_formAt : ByteArray := prog_6_method_8_code
def yX4_formAt : MethodName := ⟨RX4, "formAt", "(I)I"⟩
abbrev cX4_isTaken : ByteArray := prog_6_method_9_code
def yX4_isTaken : MethodName := ⟨RX4, "isTaken", "(I)Z"⟩
abbrev cX4_next : ByteArray := prog_6_method_10_code
def yX4_next : MethodName := ⟨RX4, "next", "()I"⟩
abbrev cX4_skipSortsWithoutCopies : ByteArray := prog_6_method_11_code
def yX4_skipSortsWithoutCopies : MethodName := ⟨RX4, "skipSortsWithoutCopies", "()V"⟩
abbrev cX4_isChoice : ByteArray := prog_6_method_12_code
def yX4_isChoice : MethodName := ⟨RX4, "isChoice", "(I)Z"⟩
abbrev cX4_tryNextChoice : ByteArray := prog_6_method_13_code
def yX4_tryNextChoice : MethodName := ⟨RX4, "tryNextChoice", "()V"⟩
abbrev cX4_takeBack : ByteArray := prog_6_method_14_code
def yX4_takeBack : MethodName := ⟨RX4, "takeBack", "()Z"⟩
abbrev cX4_placesOf : ByteArray := prog_6_method_15_code
def yX4_placesOf : MethodName := ⟨RX4, "placesOf", "(J)J"⟩
def RX5 : String := "HeapSquares"
def TX5 : u_T := fun k => match k with
  | 0 => ("HeapSquares", "heaps", "[J", true)
  | 1 => ("HeapSquares", "heapCount", "I", false)
  | 2 => ("HeapSquares", "lists", "LHeapSquares$Lists;", true)
  | 3 => ("HeapSquares", "area", "J", false)
  | 4 => ("HeapSquares", "sortHeap", "[I", true)
  | 5 => ("HeapSquares", "sortCopies", "[I", true)
  | 6 => ("HeapSquares", "sortCount", "I", false)
  | 7 => ("HeapSquares", "kept", "LHeapSquares$Tries;", true)
  | 8 => ("HeapSquares", "aside", "LHeapSquares$Tries;", true)
  | 9 => ("HeapSquares", "found", "Z", false)
  | 10 => ("HeapSquares", "triesTold", "I", false)
  | 11 => ("HeapSquares", "stripCount", "LHeapSquares$StripCount;", true)
  | 12 => ("HeapSquares", "numbers", "[I", true)
  | 13 => ("HeapSquares", "numberCount", "I", false)
  | 14 => ("HeapSquares", "rowThere", "Z", false)
  | 15 => ("HeapSquares", "forms", "[J", true)
  | _ => ("HeapSquares", "refusals", "[I", true)
def tyX5 : Nat → FieldType := fun k => match k with
  | 0 => .array .long
  | 1 => .int
  | 2 => .object "HeapSquares$Lists"
  | 3 => .long
  | 4 => .array .int
  | 5 => .array .int
  | 6 => .int
  | 7 => .object "HeapSquares$Tries"
  | 8 => .object "HeapSquares$Tries"
  | 9 => .boolean
  | 10 => .int
  | 11 => .object "HeapSquares$StripCount"
  | 12 => .array .int
  | 13 => .int
  | 14 => .boolean
  | 15 => .array .long
  | _ => .array .int
abbrev wsX50 : List Cond := u_ws RX5 TX5 17
theorem nmX5 : ∀ a, a < 17 → ∀ b, b < 17 → a ≠ b → (TX5 a).2.1 ≠ (TX5 b).2.1 := by decide +kernel
theorem tyX5_ok : ∀ k, k < 17 → parseFieldDescriptor (TX5 k).2.2.1 = some (tyX5 k) := by decide +kernel
abbrev cX5_init : ByteArray := prog_1_method_1_code
def yX5_init : MethodName := ⟨RX5, "<init>", "()V"⟩
abbrev cX5_heap : ByteArray := prog_1_method_2_code
def yX5_heap : MethodName := ⟨RX5, "heap", "(J)I"⟩
abbrev cX5_drop : ByteArray := prog_1_method_3_code
def yX5_drop : MethodName := ⟨RX5, "drop", "()I"⟩
abbrev cX5_set : ByteArray := prog_1_method_4_code
def yX5_set : MethodName := ⟨RX5, "set", "(I)J"⟩
abbrev cX5_look : ByteArray := prog_1_method_5_code
def yX5_look : MethodName := ⟨RX5, "look", "(II)I"⟩
abbrev cX5_code : ByteArray := prog_1_method_6_code
def yX5_code : MethodName := ⟨RX5, "code", "(I)J"⟩
abbrev cX5_form : ByteArray := prog_1_method_7_code
def yX5_form : MethodName := ⟨RX5, "form", "(IIZ)J"⟩
abbrev cX5_cuts : ByteArray := prog_1_method_8_code
def yX5_cuts : MethodName := ⟨RX5, "cuts", "(I)J"⟩
abbrev cX5_same : ByteArray := prog_1_method_9_code
def yX5_same : MethodName := ⟨RX5, "same", "(II)I"⟩
abbrev cX5_turn : ByteArray := prog_1_method_10_code
def yX5_turn : MethodName := ⟨RX5, "turn", "(IIZ)I"⟩
abbrev cX5_grow : ByteArray := prog_1_method_11_code
def yX5_grow : MethodName := ⟨RX5, "grow", "(II)I"⟩
abbrev cX5_put : ByteArray := prog_1_method_12_code
def yX5_put : MethodName := ⟨RX5, "put", "(IIII)I"⟩
abbrev cX5_count : ByteArray := prog_1_method_13_code
def yX5_count : MethodName := ⟨RX5, "count", "(II)I"⟩
abbrev cX5_list : ByteArray := prog_1_method_14_code
def yX5_list : MethodName := ⟨RX5, "list", "(III)J"⟩
abbrev cX5_rank : ByteArray := prog_1_method_15_code
def yX5_rank : MethodName := ⟨RX5, "rank", "(II)I"⟩
abbrev cX5_ground : ByteArray := prog_1_method_16_code
def yX5_ground : MethodName := ⟨RX5, "ground", "(J)I"⟩
abbrev cX5_sort : ByteArray := prog_1_method_17_code
def yX5_sort : MethodName := ⟨RX5, "sort", "(II)I"⟩
abbrev cX5_unsort : ByteArray := prog_1_method_18_code
def yX5_unsort : MethodName := ⟨RX5, "unsort", "()I"⟩
abbrev cX5_first : ByteArray := prog_1_method_19_code
def yX5_first : MethodName := ⟨RX5, "first", "()I"⟩
abbrev cX5_go : ByteArray := prog_1_method_20_code
def yX5_go : MethodName := ⟨RX5, "go", "()I"⟩
abbrev cX5_all : ByteArray := prog_1_method_21_code
def yX5_all : MethodName := ⟨RX5, "all", "()I"⟩
abbrev cX5_tries : ByteArray := prog_1_method_22_code
def yX5_tries : MethodName := ⟨RX5, "tries", "()I"⟩
abbrev cX5_laid : ByteArray := prog_1_method_23_code
def yX5_laid : MethodName := ⟨RX5, "laid", "(II)I"⟩
abbrev cX5_colour : ByteArray := prog_1_method_24_code
def yX5_colour : MethodName := ⟨RX5, "colour", "(III)I"⟩
abbrev cX5_square : ByteArray := prog_1_method_25_code
def yX5_square : MethodName := ⟨RX5, "square", "(I)I"⟩
abbrev cX5_strip : ByteArray := prog_1_method_26_code
def yX5_strip : MethodName := ⟨RX5, "strip", "(II)J"⟩
abbrev cX5_lay : ByteArray := prog_1_method_27_code
def yX5_lay : MethodName := ⟨RX5, "lay", "(I)I"⟩
abbrev cX5_tear : ByteArray := prog_1_method_28_code
def yX5_tear : MethodName := ⟨RX5, "tear", "()I"⟩
abbrev cX5_row : ByteArray := prog_1_method_29_code
def yX5_row : MethodName := ⟨RX5, "row", "(I)I"⟩
abbrev cX5_copy : ByteArray := prog_1_method_30_code
def yX5_copy : MethodName := ⟨RX5, "copy", "(III)I"⟩
abbrev cX5_status : ByteArray := prog_1_method_31_code
def yX5_status : MethodName := ⟨RX5, "status", "(I)I"⟩
abbrev cX5_refuse : ByteArray := prog_1_method_32_code
def yX5_refuse : MethodName := ⟨RX5, "refuse", "(I)I"⟩
abbrev cX5_refuseLong : ByteArray := prog_1_method_33_code
def yX5_refuseLong : MethodName := ⟨RX5, "refuseLong", "(I)J"⟩
abbrev cX5_isThere : ByteArray := prog_1_method_34_code
def yX5_isThere : MethodName := ⟨RX5, "isThere", "(I)Z"⟩
abbrev cX5_addHeap : ByteArray := prog_1_method_35_code
def yX5_addHeap : MethodName := ⟨RX5, "addHeap", "(J)I"⟩
abbrev cX5_addTogether : ByteArray := prog_1_method_36_code
def yX5_addTogether : MethodName := ⟨RX5, "addTogether", "(JJII)I"⟩
abbrev cX5_sortSet : ByteArray := prog_1_method_37_code
def yX5_sortSet : MethodName := ⟨RX5, "sortSet", "(I)J"⟩
abbrev cX5_loadSorts : ByteArray := prog_1_method_38_code
def yX5_loadSorts : MethodName := ⟨RX5, "loadSorts", "(LHeapSquares$Tries;)V"⟩
abbrev cX5_seek : ByteArray := prog_1_method_39_code
def yX5_seek : MethodName := ⟨RX5, "seek", "()I"⟩
def RX6 : String := "HeapSquaresModel"
def TX6 : u_T := fun k => match k with
  | 0 => ("HeapSquaresModel", "heaps", "[J", true)
  | 1 => ("HeapSquaresModel", "many", "I", false)
  | 2 => ("HeapSquaresModel", "refused", "[I", true)
  | 3 => ("HeapSquaresModel", "forms", "[J", true)
  | 4 => ("HeapSquaresModel", "formCount", "I", false)
  | 5 => ("HeapSquaresModel", "xs", "[I", true)
  | 6 => ("HeapSquaresModel", "ys", "[I", true)
  | 7 => ("HeapSquaresModel", "placed", "I", false)
  | 8 => ("HeapSquaresModel", "listed", "[J", true)
  | 9 => ("HeapSquaresModel", "listFrom", "[I", true)
  | 10 => ("HeapSquaresModel", "ground", "J", false)
  | 11 => ("HeapSquaresModel", "sortHeap", "[I", true)
  | 12 => ("HeapSquaresModel", "sortCopies", "[I", true)
  | 13 => ("HeapSquaresModel", "sortForms", "[I", true)
  | 14 => ("HeapSquaresModel", "formOf", "[J", true)
  | 15 => ("HeapSquaresModel", "sorts", "I", false)
  | 16 => ("HeapSquaresModel", "square", "[I", true)
  | 17 => ("HeapSquaresModel", "sortAt", "[I", true)
  | 18 => ("HeapSquaresModel", "formAt", "[I", true)
  | 19 => ("HeapSquaresModel", "depth", "[I", true)
  | 20 => ("HeapSquaresModel", "tried", "[I", true)
  | 21 => ("HeapSquaresModel", "covered", "[J", true)
  | 22 => ("HeapSquaresModel", "isFound", "Z", false)
  | 23 => ("HeapSquaresModel", "lastTries", "I", false)
  | 24 => ("HeapSquaresModel", "asideHeap", "[I", true)
  | 25 => ("HeapSquaresModel", "asideCopies", "[I", true)
  | 26 => ("HeapSquaresModel", "ways", "[J", true)
  | 27 => ("HeapSquaresModel", "then", "[J", true)
  | 28 => ("HeapSquaresModel", "row", "[I", true)
  | 29 => ("HeapSquaresModel", "shifted", "[I", true)
  | _ => ("HeapSquaresModel", "rowSize", "I", false)
def tyX6 : Nat → FieldType := fun k => match k with
  | 0 => .array .long
  | 1 => .int
  | 2 => .array .int
  | 3 => .array .long
  | 4 => .int
  | 5 => .array .int
  | 6 => .array .int
  | 7 => .int
  | 8 => .array .long
  | 9 => .array .int
  | 10 => .long
  | 11 => .array .int
  | 12 => .array .int
  | 13 => .array .int
  | 14 => .array .long
  | 15 => .int
  | 16 => .array .int
  | 17 => .array .int
  | 18 => .array .int
  | 19 => .array .int
  | 20 => .array .int
  | 21 => .array .long
  | 22 => .boolean
  | 23 => .int
  | 24 => .array .int
  | 25 => .array .int
  | 26 => .array .long
  | 27 => .array .long
  | 28 => .array .int
  | 29 => .array .int
  | _ => .int
abbrev wsX60 : List Cond := u_ws RX6 TX6 31
theorem nmX6 : ∀ a, a < 31 → ∀ b, b < 31 → a ≠ b → (TX6 a).2.1 ≠ (TX6 b).2.1 := by decide +kernel
theorem tyX6_ok : ∀ k, k < 31 → parseFieldDescriptor (TX6 k).2.2.1 = some (tyX6 k) := by decide +kernel
abbrev cX6_init : ByteArray := prog_8_method_1_code
def yX6_init : MethodName := ⟨RX6, "<init>", "()V"⟩
abbrev cX6_isIn : ByteArray := prog_8_method_2_code
def yX6_isIn : MethodName := ⟨RX6, "isIn", "(JJJ)Z"⟩
abbrev cX6_no : ByteArray := prog_8_method_3_code
def yX6_no : MethodName := ⟨RX6, "no", "(I)I"⟩
abbrev cX6_none : ByteArray := prog_8_method_4_code
def yX6_none : MethodName := ⟨RX6, "none", "(I)J"⟩
abbrev cX6_isHeap : ByteArray := prog_8_method_5_code
def yX6_isHeap : MethodName := ⟨RX6, "isHeap", "(I)Z"⟩
abbrev cX6_has : ByteArray := prog_8_method_6_code
def yX6_has : MethodName := ⟨RX6, "has", "(JII)Z"⟩
abbrev cX6_squares : ByteArray := prog_8_method_7_code
def yX6_squares : MethodName := ⟨RX6, "squares", "(J)I"⟩
abbrev cX6_wideOf : ByteArray := prog_8_method_8_code
def yX6_wideOf : MethodName := ⟨RX6, "wideOf", "(J)I"⟩
abbrev cX6_highOf : ByteArray := prog_8_method_9_code
def yX6_highOf : MethodName := ⟨RX6, "highOf", "(J)I"⟩
abbrev cX6_hangs : ByteArray := prog_8_method_10_code
def yX6_hangs : MethodName := ⟨RX6, "hangs", "(J)Z"⟩
abbrev cX6_moved : ByteArray := prog_8_method_11_code
def yX6_moved : MethodName := ⟨RX6, "moved", "(J)J"⟩
abbrev cX6_turned : ByteArray := prog_8_method_12_code
def yX6_turned : MethodName := ⟨RX6, "turned", "(J)J"⟩
abbrev cX6_mirrored : ByteArray := prog_8_method_13_code
def yX6_mirrored : MethodName := ⟨RX6, "mirrored", "(J)J"⟩
abbrev cX6_comes : ByteArray := prog_8_method_14_code
def yX6_comes : MethodName := ⟨RX6, "comes", "(J)V"⟩
abbrev cX6_findForms : ByteArray := prog_8_method_15_code
def yX6_findForms : MethodName := ⟨RX6, "findForms", "(JZ)V"⟩
abbrev cX6_leastOf : ByteArray := prog_8_method_16_code
def yX6_leastOf : MethodName := ⟨RX6, "leastOf", "(JZ)J"⟩
abbrev cX6_adds : ByteArray := prog_8_method_17_code
def yX6_adds : MethodName := ⟨RX6, "adds", "(J)I"⟩
abbrev cX6_heap : ByteArray := prog_8_method_18_code
def yX6_heap : MethodName := ⟨RX6, "heap", "(J)I"⟩
abbrev cX6_drop : ByteArray := prog_8_method_19_code
def yX6_drop : MethodName := ⟨RX6, "drop", "()I"⟩
abbrev cX6_set : ByteArray := prog_8_method_20_code
def yX6_set : MethodName := ⟨RX6, "set", "(I)J"⟩
abbrev cX6_isClosed : ByteArray := prog_8_method_21_code
def yX6_isClosed : MethodName := ⟨RX6, "isClosed", "(JZ)Z"⟩
abbrev cX6_isHoled : ByteArray := prog_8_method_22_code
def yX6_isHoled : MethodName := ⟨RX6, "isHoled", "(J)Z"⟩
abbrev cX6_kindOf : ByteArray := prog_8_method_23_code
def yX6_kindOf : MethodName := ⟨RX6, "kindOf", "(J)I"⟩
abbrev cX6_rimOf : ByteArray := prog_8_method_24_code
def yX6_rimOf : MethodName := ⟨RX6, "rimOf", "(J)I"⟩
abbrev cX6_halvesOf : ByteArray := prog_8_method_25_code
def yX6_halvesOf : MethodName := ⟨RX6, "halvesOf", "(J)I"⟩
abbrev cX6_look : ByteArray := prog_8_method_26_code
def yX6_look : MethodName := ⟨RX6, "look", "(II)I"⟩
abbrev cX6_code : ByteArray := prog_8_method_27_code
def yX6_code : MethodName := ⟨RX6, "code", "(I)J"⟩
abbrev cX6_form : ByteArray := prog_8_method_28_code
def yX6_form : MethodName := ⟨RX6, "form", "(IIZ)J"⟩
abbrev cX6_cuts : ByteArray := prog_8_method_29_code
def yX6_cuts : MethodName := ⟨RX6, "cuts", "(I)J"⟩
abbrev cX6_same : ByteArray := prog_8_method_30_code
def yX6_same : MethodName := ⟨RX6, "same", "(II)I"⟩
abbrev cX6_turn : ByteArray := prog_8_method_31_code
def yX6_turn : MethodName := ⟨RX6, "turn", "(IIZ)I"⟩
abbrev cX6_place : ByteArray := prog_8_method_32_code
def yX6_place : MethodName := ⟨RX6, "place", "(II)V"⟩
abbrev cX6_placeAll : ByteArray := prog_8_method_33_code
def yX6_placeAll : MethodName := ⟨RX6, "placeAll", "(JII)V"⟩
abbrev cX6_together : ByteArray := prog_8_method_34_code
def yX6_together : MethodName := ⟨RX6, "together", "()J"⟩
abbrev cX6_grow : ByteArray := prog_8_method_35_code
def yX6_grow : MethodName := ⟨RX6, "grow", "(II)I"⟩
abbrev cX6_put : ByteArray := prog_8_method_36_code
def yX6_put : MethodName := ⟨RX6, "put", "(IIII)I"⟩
abbrev cX6_lists : ByteArray := prog_8_method_37_code
def yX6_lists : MethodName := ⟨RX6, "lists", "(IJ)V"⟩
abbrev cX6_makeLists : ByteArray := prog_8_method_38_code
def yX6_makeLists : MethodName := ⟨RX6, "makeLists", "()V"⟩
abbrev cX6_isListed : ByteArray := prog_8_method_39_code
def yX6_isListed : MethodName := ⟨RX6, "isListed", "(JI)Z"⟩
abbrev cX6_count : ByteArray := prog_8_method_40_code
def yX6_count : MethodName := ⟨RX6, "count", "(II)I"⟩
abbrev cX6_list : ByteArray := prog_8_method_41_code
def yX6_list : MethodName := ⟨RX6, "list", "(III)J"⟩
abbrev cX6_rank : ByteArray := prog_8_method_42_code
def yX6_rank : MethodName := ⟨RX6, "rank", "(II)I"⟩
abbrev cX6_ground : ByteArray := prog_8_method_43_code
def yX6_ground : MethodName := ⟨RX6, "ground", "(J)I"⟩
abbrev cX6_sort : ByteArray := prog_8_method_44_code
def yX6_sort : MethodName := ⟨RX6, "sort", "(II)I"⟩
abbrev cX6_sets : ByteArray := prog_8_method_45_code
def yX6_sets : MethodName := ⟨RX6, "sets", "(III)V"⟩
abbrev cX6_unsort : ByteArray := prog_8_method_46_code
def yX6_unsort : MethodName := ⟨RX6, "unsort", "()I"⟩
abbrev cX6_leastBit : ByteArray := prog_8_method_47_code
def yX6_leastBit : MethodName := ⟨RX6, "leastBit", "(J)I"⟩
abbrev cX6_movedTo : ByteArray := prog_8_method_48_code
def yX6_movedTo : MethodName := ⟨RX6, "movedTo", "(JI)J"⟩
abbrev cX6_left : ByteArray := prog_8_method_49_code
def yX6_left : MethodName := ⟨RX6, "left", "(II)I"⟩
abbrev cX6_begins : ByteArray := prog_8_method_50_code
def yX6_begins : MethodName := ⟨RX6, "begins", "(I)V"⟩
abbrev cX6_chooses : ByteArray := prog_8_method_51_code
def yX6_chooses : MethodName := ⟨RX6, "chooses", "(IJII)I"⟩
abbrev cX6_goesOn : ByteArray := prog_8_method_52_code
def yX6_goesOn : MethodName := ⟨RX6, "goesOn", "(IJZ)I"⟩
abbrev cX6_found : ByteArray := prog_8_method_53_code
def yX6_found : MethodName := ⟨RX6, "found", "(I)I"⟩
abbrev cX6_first : ByteArray := prog_8_method_54_code
def yX6_first : MethodName := ⟨RX6, "first", "()I"⟩
abbrev cX6_go : ByteArray := prog_8_method_55_code
def yX6_go : MethodName := ⟨RX6, "go", "()I"⟩
abbrev cX6_all : ByteArray := prog_8_method_56_code
def yX6_all : MethodName := ⟨RX6, "all", "()I"⟩
abbrev cX6_tries : ByteArray := prog_8_method_57_code
def yX6_tries : MethodName := ⟨RX6, "tries", "()I"⟩
abbrev cX6_laid : ByteArray := prog_8_method_58_code
def yX6_laid : MethodName := ⟨RX6, "laid", "(II)I"⟩
abbrev cX6_colour : ByteArray := prog_8_method_59_code
def yX6_colour : MethodName := ⟨RX6, "colour", "(III)I"⟩
abbrev cX6_square : ByteArray := prog_8_method_60_code
def yX6_square : MethodName := ⟨RX6, "square", "(I)I"⟩
abbrev cX6_squareOf : ByteArray := prog_8_method_61_code
def yX6_squareOf : MethodName := ⟨RX6, "squareOf", "(I)I"⟩
abbrev cX6_columns : ByteArray := prog_8_method_62_code
def yX6_columns : MethodName := ⟨RX6, "columns", "(JIII)I"⟩
abbrev cX6_plus : ByteArray := prog_8_method_63_code
def yX6_plus : MethodName := ⟨RX6, "plus", "(JJ)J"⟩
abbrev cX6_strip : ByteArray := prog_8_method_64_code
def yX6_strip : MethodName := ⟨RX6, "strip", "(II)J"⟩
abbrev cX6_steps : ByteArray := prog_8_method_65_code
def yX6_steps : MethodName := ⟨RX6, "steps", "(IIII)V"⟩
abbrev cX6_lay : ByteArray := prog_8_method_66_code
def yX6_lay : MethodName := ⟨RX6, "lay", "(I)I"⟩
abbrev cX6_tear : ByteArray := prog_8_method_67_code
def yX6_tear : MethodName := ⟨RX6, "tear", "()I"⟩
abbrev cX6_row : ByteArray := prog_8_method_68_code
def yX6_row : MethodName := ⟨RX6, "row", "(I)I"⟩
abbrev cX6_copy : ByteArray := prog_8_method_69_code
def yX6_copy : MethodName := ⟨RX6, "copy", "(III)I"⟩
abbrev cX6_status : ByteArray := prog_8_method_70_code
def yX6_status : MethodName := ⟨RX6, "status", "(I)I"⟩
def RJ6 : String := "java/lang/Integer"
def TJ6 : u_T := fun k => match k with
  | _ => ("", "", "", false)
def tyJ6 : Nat → FieldType := fun k => match k with
  | _ => .int
abbrev wsJ60 : List Cond := u_ws RJ6 TJ6 0
theorem nmJ6 : ∀ a, a < 0 → ∀ b, b < 0 → a ≠ b → (TJ6 a).2.1 ≠ (TJ6 b).2.1 := by decide +kernel
theorem tyJ6_ok : ∀ k, k < 0 → parseFieldDescriptor (TJ6 k).2.2.1 = some (tyJ6 k) := by decide +kernel
abbrev cJ6_numberOfLeadingZeros_0f7a4 : ByteArray := prog_9_method_47_code
def yJ6_numberOfLeadingZeros_0f7a4 : MethodName := ⟨RJ6, "numberOfLeadingZeros", "(I)I"⟩
abbrev cJ6_numberOfTrailingZeros_0f7a4 : ByteArray := prog_9_method_48_code
def yJ6_numberOfTrailingZeros_0f7a4 : MethodName := ⟨RJ6, "numberOfTrailingZeros", "(I)I"⟩
abbrev cJ6_bitCount_0f7a4 : ByteArray := prog_9_method_49_code
def yJ6_bitCount_0f7a4 : MethodName := ⟨RJ6, "bitCount", "(I)I"⟩
def RJ13 : String := "java/lang/Long"
def TJ13 : u_T := fun k => match k with
  | _ => ("", "", "", false)
def tyJ13 : Nat → FieldType := fun k => match k with
  | _ => .int
abbrev wsJ130 : List Cond := u_ws RJ13 TJ13 0
theorem nmJ13 : ∀ a, a < 0 → ∀ b, b < 0 → a ≠ b → (TJ13 a).2.1 ≠ (TJ13 b).2.1 := by decide +kernel
theorem tyJ13_ok : ∀ k, k < 0 → parseFieldDescriptor (TJ13 k).2.2.1 = some (tyJ13 k) := by decide +kernel
abbrev cJ13_lowestOneBit_067f4 : ByteArray := prog_10_method_47_code
def yJ13_lowestOneBit_067f4 : MethodName := ⟨RJ13, "lowestOneBit", "(J)J"⟩
abbrev cJ13_numberOfLeadingZeros_95d88 : ByteArray := prog_10_method_48_code
def yJ13_numberOfLeadingZeros_95d88 : MethodName := ⟨RJ13, "numberOfLeadingZeros", "(J)I"⟩
abbrev cJ13_numberOfTrailingZeros_95d88 : ByteArray := prog_10_method_49_code
def yJ13_numberOfTrailingZeros_95d88 : MethodName := ⟨RJ13, "numberOfTrailingZeros", "(J)I"⟩
abbrev cJ13_bitCount_95d88 : ByteArray := prog_10_method_50_code
def yJ13_bitCount_95d88 : MethodName := ⟨RJ13, "bitCount", "(J)I"⟩
def RJ9 : String := "java/lang/Math"
def TJ9 : u_T := fun k => match k with
  | _ => ("", "", "", false)
def tyJ9 : Nat → FieldType := fun k => match k with
  | _ => .int
abbrev wsJ90 : List Cond := u_ws RJ9 TJ9 0
theorem nmJ9 : ∀ a, a < 0 → ∀ b, b < 0 → a ≠ b → (TJ9 a).2.1 ≠ (TJ9 b).2.1 := by decide +kernel
theorem tyJ9_ok : ∀ k, k < 0 → parseFieldDescriptor (TJ9 k).2.2.1 = some (tyJ9 k) := by decide +kernel
abbrev cJ9_max_7cf53 : ByteArray := prog_11_method_65_code
def yJ9_max_7cf53 : MethodName := ⟨RJ9, "max", "(II)I"⟩
abbrev cJ9_min_7cf53 : ByteArray := prog_11_method_69_code
def yJ9_min_7cf53 : MethodName := ⟨RJ9, "min", "(II)I"⟩
abbrev cJ9_min_f86c9 : ByteArray := prog_11_method_70_code
def yJ9_min_f86c9 : MethodName := ⟨RJ9, "min", "(JJ)J"⟩
def RJ10 : String := "java/lang/System"
def TJ10 : u_T := fun k => match k with
  | _ => ("", "", "", false)
def tyJ10 : Nat → FieldType := fun k => match k with
  | _ => .int
abbrev wsJ100 : List Cond := u_ws RJ10 TJ10 0
theorem nmJ10 : ∀ a, a < 0 → ∀ b, b < 0 → a ≠ b → (TJ10 a).2.1 ≠ (TJ10 b).2.1 := by decide +kernel
theorem tyJ10_ok : ∀ k, k < 0 → parseFieldDescriptor (TJ10 k).2.2.1 = some (tyJ10 k) := by decide +kernel
def RL : String := "HeapSquaresLaw"
abbrev cL_law : ByteArray := code
def yL_law : MethodName := ⟨RL, "law", "([I)Z"⟩
abbrev vwCl : List vw_C := [(RX0, TX0, 2), (RX1, TX1, 1), (RX3, TX3, 6), (RX4, TX4, 15), (RX5, TX5, 17), (RX6, TX6, 31)]
/-- the words that stay true under every shift of what has been resolved -/
def mj_tbl : List Cond := lw_tbl.filter goodWord
theorem mj_inw {w : Cond} (h1 : w ∈ lw_tbl) (h2 : goodWord w = true) : w ∈ mj_tbl := List.mem_filter.mpr ⟨h1, h2⟩
theorem mj_good : ∀ w ∈ mj_tbl, goodWord w = true := fun _ h => (List.mem_filter.mp h).2
