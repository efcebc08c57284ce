/-! loads read at once, ahead of what stands behind them -/
theorem ldA_0 {x : Nat} {L : List Value} {k : Value → Prop} : mj_lA (mj_ld (.ref x :: L) 0) k = k (.ref x) := Eq.trans rfl rfl
theorem ldI_0 {x : Int32} {L : List Value} {k : Int32 → Prop} : mj_lI (mj_ld (.int x :: L) 0) k = k x := Eq.trans rfl rfl
theorem ldJ_0 {x : Int64} {L : List Value} {k : Int64 → Prop} : mj_lJ (mj_ld (.long x :: L) 0) k = k x := Eq.trans rfl rfl
theorem ldA_1 {v0 : Value} {x : Nat} {L : List Value} {k : Value → Prop} : mj_lA (mj_ld (v0 :: .ref x :: L) 1) k = k (.ref x) := Eq.trans rfl rfl
theorem ldI_1 {v0 : Value} {x : Int32} {L : List Value} {k : Int32 → Prop} : mj_lI (mj_ld (v0 :: .int x :: L) 1) k = k x := Eq.trans rfl rfl
theorem ldJ_1 {v0 : Value} {x : Int64} {L : List Value} {k : Int64 → Prop} : mj_lJ (mj_ld (v0 :: .long x :: L) 1) k = k x := Eq.trans rfl rfl
theorem ldA_2 {v0 v1 : Value} {x : Nat} {L : List Value} {k : Value → Prop} : mj_lA (mj_ld (v0 :: v1 :: .ref x :: L) 2) k = k (.ref x) := Eq.trans rfl rfl
theorem ldI_2 {v0 v1 : Value} {x : Int32} {L : List Value} {k : Int32 → Prop} : mj_lI (mj_ld (v0 :: v1 :: .int x :: L) 2) k = k x := Eq.trans rfl rfl
theorem ldJ_2 {v0 v1 : Value} {x : Int64} {L : List Value} {k : Int64 → Prop} : mj_lJ (mj_ld (v0 :: v1 :: .long x :: L) 2) k = k x := Eq.trans rfl rfl
theorem ldA_3 {v0 v1 v2 : Value} {x : Nat} {L : List Value} {k : Value → Prop} : mj_lA (mj_ld (v0 :: v1 :: v2 :: .ref x :: L) 3) k = k (.ref x) := Eq.trans rfl rfl
theorem ldI_3 {v0 v1 v2 : Value} {x : Int32} {L : List Value} {k : Int32 → Prop} : mj_lI (mj_ld (v0 :: v1 :: v2 :: .int x :: L) 3) k = k x := Eq.trans rfl rfl
theorem ldJ_3 {v0 v1 v2 : Value} {x : Int64} {L : List Value} {k : Int64 → Prop} : mj_lJ (mj_ld (v0 :: v1 :: v2 :: .long x :: L) 3) k = k x := Eq.trans rfl rfl
theorem ldA_4 {v0 v1 v2 v3 : Value} {x : Nat} {L : List Value} {k : Value → Prop} : mj_lA (mj_ld (v0 :: v1 :: v2 :: v3 :: .ref x :: L) 4) k = k (.ref x) := Eq.trans rfl rfl
theorem ldI_4 {v0 v1 v2 v3 : Value} {x : Int32} {L : List Value} {k : Int32 → Prop} : mj_lI (mj_ld (v0 :: v1 :: v2 :: v3 :: .int x :: L) 4) k = k x := Eq.trans rfl rfl
theorem ldJ_4 {v0 v1 v2 v3 : Value} {x : Int64} {L : List Value} {k : Int64 → Prop} : mj_lJ (mj_ld (v0 :: v1 :: v2 :: v3 :: .long x :: L) 4) k = k x := Eq.trans rfl rfl
theorem ldA_5 {v0 v1 v2 v3 v4 : Value} {x : Nat} {L : List Value} {k : Value → Prop} : mj_lA (mj_ld (v0 :: v1 :: v2 :: v3 :: v4 :: .ref x :: L) 5) k = k (.ref x) := Eq.trans rfl rfl
theorem ldI_5 {v0 v1 v2 v3 v4 : Value} {x : Int32} {L : List Value} {k : Int32 → Prop} : mj_lI (mj_ld (v0 :: v1 :: v2 :: v3 :: v4 :: .int x :: L) 5) k = k x := Eq.trans rfl rfl
theorem ldJ_5 {v0 v1 v2 v3 v4 : Value} {x : Int64} {L : List Value} {k : Int64 → Prop} : mj_lJ (mj_ld (v0 :: v1 :: v2 :: v3 :: v4 :: .long x :: L) 5) k = k x := Eq.trans rfl rfl
theorem ldA_6 {v0 v1 v2 v3 v4 v5 : Value} {x : Nat} {L : List Value} {k : Value → Prop} : mj_lA (mj_ld (v0 :: v1 :: v2 :: v3 :: v4 :: v5 :: .ref x :: L) 6) k = k (.ref x) := Eq.trans rfl rfl
theorem ldI_6 {v0 v1 v2 v3 v4 v5 : Value} {x : Int32} {L : List Value} {k : Int32 → Prop} : mj_lI (mj_ld (v0 :: v1 :: v2 :: v3 :: v4 :: v5 :: .int x :: L) 6) k = k x := Eq.trans rfl rfl
theorem ldJ_6 {v0 v1 v2 v3 v4 v5 : Value} {x : Int64} {L : List Value} {k : Int64 → Prop} : mj_lJ (mj_ld (v0 :: v1 :: v2 :: v3 :: v4 :: v5 :: .long x :: L) 6) k = k x := Eq.trans rfl rfl
theorem ldA_7 {v0 v1 v2 v3 v4 v5 v6 : Value} {x : Nat} {L : List Value} {k : Value → Prop} : mj_lA (mj_ld (v0 :: v1 :: v2 :: v3 :: v4 :: v5 :: v6 :: .ref x :: L) 7) k = k (.ref x) := Eq.trans rfl rfl
theorem ldI_7 {v0 v1 v2 v3 v4 v5 v6 : Value} {x : Int32} {L : List Value} {k : Int32 → Prop} : mj_lI (mj_ld (v0 :: v1 :: v2 :: v3 :: v4 :: v5 :: v6 :: .int x :: L) 7) k = k x := Eq.trans rfl rfl
theorem ldJ_7 {v0 v1 v2 v3 v4 v5 v6 : Value} {x : Int64} {L : List Value} {k : Int64 → Prop} : mj_lJ (mj_ld (v0 :: v1 :: v2 :: v3 :: v4 :: v5 :: v6 :: .long x :: L) 7) k = k x := Eq.trans rfl rfl
theorem ldA_8 {v0 v1 v2 v3 v4 v5 v6 v7 : Value} {x : Nat} {L : List Value} {k : Value → Prop} : mj_lA (mj_ld (v0 :: v1 :: v2 :: v3 :: v4 :: v5 :: v6 :: v7 :: .ref x :: L) 8) k = k (.ref x) := Eq.trans rfl rfl
theorem ldI_8 {v0 v1 v2 v3 v4 v5 v6 v7 : Value} {x : Int32} {L : List Value} {k : Int32 → Prop} : mj_lI (mj_ld (v0 :: v1 :: v2 :: v3 :: v4 :: v5 :: v6 :: v7 :: .int x :: L) 8) k = k x := Eq.trans rfl rfl
theorem ldJ_8 {v0 v1 v2 v3 v4 v5 v6 v7 : Value} {x : Int64} {L : List Value} {k : Int64 → Prop} : mj_lJ (mj_ld (v0 :: v1 :: v2 :: v3 :: v4 :: v5 :: v6 :: v7 :: .long x :: L) 8) k = k x := Eq.trans rfl rfl
theorem ldA_9 {v0 v1 v2 v3 v4 v5 v6 v7 v8 : Value} {x : Nat} {L : List Value} {k : Value → Prop} : mj_lA (mj_ld (v0 :: v1 :: v2 :: v3 :: v4 :: v5 :: v6 :: v7 :: v8 :: .ref x :: L) 9) k = k (.ref x) := Eq.trans rfl rfl
theorem ldI_9 {v0 v1 v2 v3 v4 v5 v6 v7 v8 : Value} {x : Int32} {L : List Value} {k : Int32 → Prop} : mj_lI (mj_ld (v0 :: v1 :: v2 :: v3 :: v4 :: v5 :: v6 :: v7 :: v8 :: .int x :: L) 9) k = k x := Eq.trans rfl rfl
theorem ldJ_9 {v0 v1 v2 v3 v4 v5 v6 v7 v8 : Value} {x : Int64} {L : List Value} {k : Int64 → Prop} : mj_lJ (mj_ld (v0 :: v1 :: v2 :: v3 :: v4 :: v5 :: v6 :: v7 :: v8 :: .long x :: L) 9) k = k x := Eq.trans rfl rfl
theorem ldA_10 {v0 v1 v2 v3 v4 v5 v6 v7 v8 v9 : Value} {x : Nat} {L : List Value} {k : Value → Prop} : mj_lA (mj_ld (v0 :: v1 :: v2 :: v3 :: v4 :: v5 :: v6 :: v7 :: v8 :: v9 :: .ref x :: L) 10) k = k (.ref x) := Eq.trans rfl rfl
theorem ldI_10 {v0 v1 v2 v3 v4 v5 v6 v7 v8 v9 : Value} {x : Int32} {L : List Value} {k : Int32 → Prop} : mj_lI (mj_ld (v0 :: v1 :: v2 :: v3 :: v4 :: v5 :: v6 :: v7 :: v8 :: v9 :: .int x :: L) 10) k = k x := Eq.trans rfl rfl
theorem ldJ_10 {v0 v1 v2 v3 v4 v5 v6 v7 v8 v9 : Value} {x : Int64} {L : List Value} {k : Int64 → Prop} : mj_lJ (mj_ld (v0 :: v1 :: v2 :: v3 :: v4 :: v5 :: v6 :: v7 :: v8 :: v9 :: .long x :: L) 10) k = k x := Eq.trans rfl rfl
theorem ldA_11 {v0 v1 v2 v3 v4 v5 v6 v7 v8 v9 v10 : Value} {x : Nat} {L : List Value} {k : Value → Prop} : mj_lA (mj_ld (v0 :: v1 :: v2 :: v3 :: v4 :: v5 :: v6 :: v7 :: v8 :: v9 :: v10 :: .ref x :: L) 11) k = k (.ref x) := Eq.trans rfl rfl
theorem ldI_11 {v0 v1 v2 v3 v4 v5 v6 v7 v8 v9 v10 : Value} {x : Int32} {L : List Value} {k : Int32 → Prop} : mj_lI (mj_ld (v0 :: v1 :: v2 :: v3 :: v4 :: v5 :: v6 :: v7 :: v8 :: v9 :: v10 :: .int x :: L) 11) k = k x := Eq.trans rfl rfl
theorem ldJ_11 {v0 v1 v2 v3 v4 v5 v6 v7 v8 v9 v10 : Value} {x : Int64} {L : List Value} {k : Int64 → Prop} : mj_lJ (mj_ld (v0 :: v1 :: v2 :: v3 :: v4 :: v5 :: v6 :: v7 :: v8 :: v9 :: v10 :: .long x :: L) 11) k = k x := Eq.trans rfl rfl
theorem ldA_12 {v0 v1 v2 v3 v4 v5 v6 v7 v8 v9 v10 v11 : Value} {x : Nat} {L : List Value} {k : Value → Prop} : mj_lA (mj_ld (v0 :: v1 :: v2 :: v3 :: v4 :: v5 :: v6 :: v7 :: v8 :: v9 :: v10 :: v11 :: .ref x :: L) 12) k = k (.ref x) := Eq.trans rfl rfl
theorem ldI_12 {v0 v1 v2 v3 v4 v5 v6 v7 v8 v9 v10 v11 : Value} {x : Int32} {L : List Value} {k : Int32 → Prop} : mj_lI (mj_ld (v0 :: v1 :: v2 :: v3 :: v4 :: v5 :: v6 :: v7 :: v8 :: v9 :: v10 :: v11 :: .int x :: L) 12) k = k x := Eq.trans rfl rfl
theorem ldJ_12 {v0 v1 v2 v3 v4 v5 v6 v7 v8 v9 v10 v11 : Value} {x : Int64} {L : List Value} {k : Int64 → Prop} : mj_lJ (mj_ld (v0 :: v1 :: v2 :: v3 :: v4 :: v5 :: v6 :: v7 :: v8 :: v9 :: v10 :: v11 :: .long x :: L) 12) k = k x := Eq.trans rfl rfl
theorem ldA_13 {v0 v1 v2 v3 v4 v5 v6 v7 v8 v9 v10 v11 v12 : Value} {x : Nat} {L : List Value} {k : Value → Prop} : mj_lA (mj_ld (v0 :: v1 :: v2 :: v3 :: v4 :: v5 :: v6 :: v7 :: v8 :: v9 :: v10 :: v11 :: v12 :: .ref x :: L) 13) k = k (.ref x) := Eq.trans rfl rfl
theorem ldI_13 {v0 v1 v2 v3 v4 v5 v6 v7 v8 v9 v10 v11 v12 : Value} {x : Int32} {L : List Value} {k : Int32 → Prop} : mj_lI (mj_ld (v0 :: v1 :: v2 :: v3 :: v4 :: v5 :: v6 :: v7 :: v8 :: v9 :: v10 :: v11 :: v12 :: .int x :: L) 13) k = k x := Eq.trans rfl rfl
theorem ldJ_13 {v0 v1 v2 v3 v4 v5 v6 v7 v8 v9 v10 v11 v12 : Value} {x : Int64} {L : List Value} {k : Int64 → Prop} : mj_lJ (mj_ld (v0 :: v1 :: v2 :: v3 :: v4 :: v5 :: v6 :: v7 :: v8 :: v9 :: v10 :: v11 :: v12 :: .long x :: L) 13) k = k x := Eq.trans rfl rfl
