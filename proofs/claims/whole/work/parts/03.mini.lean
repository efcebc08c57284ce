/-! THE MINI MACHINE: an abstract heap of numbered cells (0: the static row, 1: the script, 2 and on: what was made), typed by kind; blocks of instructions run over it -/
/-- next number, elements made, kinds (0 ints, 1 longs, 2 references, ci + 3 an object; length), ints, longs, references -/
abbrev mj_H : Type := Nat × Nat × (Nat → Nat × Nat) × (Nat → Nat → Int32) × (Nat → Nat → Int64) × (Nat → Nat → Option Nat)
def mj_k (h : mj_H) (r : Nat) : Nat × Nat := h.2.2.1 r
def mj_gI (h : mj_H) (r k : Nat) : Int32 := h.2.2.2.1 r k
def mj_gJ (h : mj_H) (r k : Nat) : Int64 := h.2.2.2.2.1 r k
def mj_gR (h : mj_H) (r k : Nat) : Option Nat := h.2.2.2.2.2 r k
def mj_u {α : Type} (f : Nat → Nat → α) (r k : Nat) (v : α) : Nat → Nat → α := fun r' k' => if r' = r ∧ k' = k then v else f r' k'
def mj_w {α : Type} (f : Nat → Nat → α) (r : Nat) (g : Nat → α) : Nat → Nat → α := fun r' => if r' = r then g else f r'
def mj_sI (h : mj_H) (r k : Nat) (v : Int32) : mj_H := (h.1, h.2.1, h.2.2.1, mj_u h.2.2.2.1 r k v, h.2.2.2.2.1, h.2.2.2.2.2)
def mj_sJ (h : mj_H) (r k : Nat) (v : Int64) : mj_H := (h.1, h.2.1, h.2.2.1, h.2.2.2.1, mj_u h.2.2.2.2.1 r k v, h.2.2.2.2.2)
def mj_sR (h : mj_H) (r k : Nat) (v : Option Nat) : mj_H := (h.1, h.2.1, h.2.2.1, h.2.2.2.1, h.2.2.2.2.1, mj_u h.2.2.2.2.2 r k v)
def mj_new (h : mj_H) (tag len : Nat) : mj_H := (h.1 + 1, h.2.1 + len, (fun r => if r = h.1 then (tag, len) else h.2.2.1 r), mj_w h.2.2.2.1 h.1 (fun _ => 0), mj_w h.2.2.2.2.1 h.1 (fun _ => 0), mj_w h.2.2.2.2.2 h.1 (fun _ => none))
def mj_cp (h : mj_H) (q r sp dp n : Nat) : mj_H := (h.1, h.2.1, h.2.2.1, mj_w h.2.2.2.1 r (va_cpy (h.2.2.2.1 q) (h.2.2.2.1 r) sp dp n), h.2.2.2.2.1, h.2.2.2.2.2)
/-- what stands in a local that nothing reads -/
def mj_J : Value := .float 0
def mj_c1 : Value → Value
  | .long _ => mj_J
  | .double _ => mj_J
  | v => v
def mj_ld : List Value → Nat → Value
  | [], _ => mj_J
  | v :: _, 0 => v
  | _ :: r, i + 1 => mj_ld r i
def mj_st1 : List Value → Nat → Value → List Value
  | [], _, _ => []
  | _ :: r, 0, v => v :: r
  | a :: r, 1, v => mj_c1 a :: mj_st1 r 0 v
  | a :: r, i + 2, v => a :: mj_st1 r (i + 1) v
def mj_st2 : List Value → Nat → Value → List Value
  | [], _, _ => []
  | [_], 0, v => [v]
  | _ :: _ :: r, 0, v => v :: mj_J :: r
  | a :: r, 1, v => mj_c1 a :: mj_st2 r 0 v
  | a :: r, i + 2, v => a :: mj_st2 r (i + 1) v
/-- a method's locals at its entry -/
def mj_en : List Value → Nat → List Value
  | [], n => List.replicate n mj_J
  | .long v :: r, n + 2 => .long v :: mj_J :: mj_en r n
  | .long v :: _, 1 => [.long v]
  | .double v :: r, n + 2 => .double v :: mj_J :: mj_en r n
  | .double v :: _, 1 => [.double v]
  | v :: r, n + 1 => v :: mj_en r n
  | _ :: _, 0 => []
/-- the arguments fit into so many locals -/
def mj_ew : List Value → Nat → Bool
  | [], _ => true
  | .long _ :: r, n + 2 => mj_ew r n
  | .long _ :: _, _ => false
  | .double _ :: r, n + 2 => mj_ew r n
  | .double _ :: _, _ => false
  | _ :: r, n + 1 => mj_ew r n
  | _ :: _, 0 => false
/-- no more than four values -/
def mj_ok4 : List Value → Bool
  | [] => true
  | [_] => true
  | [_, _] => true
  | [_, _, _] => true
  | [_, _, _, _] => true
  | _ => false
def mj_gv (h : mj_H) (t r b : Nat) : Value := match t with
  | 0 => .int (mj_gI h r b)
  | 1 => .long (mj_gJ h r b)
  | 3 => .int (mj_gI h r b)
  | _ => va_rf (mj_gR h r b)
def mj_cz : ClassFile.Cond → Int32 → Prop
  | .eq, x => x = 0
  | .ne, x => ¬ x = 0
  | .lt, x => x < 0
  | .ge, x => 0 ≤ x
  | .gt, x => 0 < x
  | .le, x => x ≤ 0
def mj_cc : ClassFile.Cond → Int32 → Int32 → Prop
  | .eq, x, y => x = y
  | .ne, x, y => ¬ x = y
  | .lt, x, y => x < y
  | .ge, x, y => y ≤ x
  | .gt, x, y => y < x
  | .le, x, y => x ≤ y
def mj_bz (c : ClassFile.Cond) (x : Int32) : Bool := match c with
  | .eq => decide (x = 0)
  | .ne => decide (¬ x = 0)
  | .lt => decide (x < 0)
  | .ge => decide (0 ≤ x)
  | .gt => decide (0 < x)
  | .le => decide (x ≤ 0)
def mj_bc (c : ClassFile.Cond) (x y : Int32) : Bool := match c with
  | .eq => decide (x = y)
  | .ne => decide (¬ x = y)
  | .lt => decide (x < y)
  | .ge => decide (y ≤ x)
  | .gt => decide (y < x)
  | .le => decide (x ≤ y)
/-- where a switch goes -/
def mj_sw (pc : Nat) (dflt lo hi : Int) (offs : Array Int) (x : Int32) : Nat :=
  if x.toInt < lo ∨ hi < x.toInt then ((pc : Int) + dflt).toNat else ((pc : Int) + (offs[(x.toInt - lo).toNat]?).getD 0).toNat
def mj_ex (o : mj_O) (pc : Nat) (L S : List Value) (h : mj_H) : Option (Option Nat × List Value × List Value × mj_H) :=
  match o with
  | (i, _, a, b, t, _, x, y) => match i with
    | .iconst _ => some (none, L, .int x :: S, h)
    | .bipush _ => some (none, L, .int x :: S, h)
    | .sipush _ => some (none, L, .int x :: S, h)
    | .ldc _ => some (none, L, .int x :: S, h)
    | .ldc_w _ => some (none, L, .int x :: S, h)
    | .lconst _ => some (none, L, .long y :: S, h)
    | .ldc2_w _ => some (none, L, .long y :: S, h)
    | .aconst_null => some (none, L, .null :: S, h)
    | .iload _ => (match mj_ld L a with | .int v => some (none, L, .int v :: S, h) | _ => none)
    | .iload_n _ => (match mj_ld L a with | .int v => some (none, L, .int v :: S, h) | _ => none)
    | .lload _ => (match mj_ld L a with | .long v => some (none, L, .long v :: S, h) | _ => none)
    | .lload_n _ => (match mj_ld L a with | .long v => some (none, L, .long v :: S, h) | _ => none)
    | .aload _ => (match mj_ld L a with | .ref v => some (none, L, .ref v :: S, h) | .null => some (none, L, .null :: S, h) | _ => none)
    | .aload_n _ => (match mj_ld L a with | .ref v => some (none, L, .ref v :: S, h) | .null => some (none, L, .null :: S, h) | _ => none)
    | .istore _ => (match S with | .int v :: S' => some (none, mj_st1 L a (.int v), S', h) | _ => none)
    | .istore_n _ => (match S with | .int v :: S' => some (none, mj_st1 L a (.int v), S', h) | _ => none)
    | .lstore _ => (match S with | .long v :: S' => some (none, mj_st2 L a (.long v), S', h) | _ => none)
    | .lstore_n _ => (match S with | .long v :: S' => some (none, mj_st2 L a (.long v), S', h) | _ => none)
    | .astore _ => (match S with | .ref v :: S' => some (none, mj_st1 L a (.ref v), S', h) | .null :: S' => some (none, mj_st1 L a .null, S', h) | _ => none)
    | .astore_n _ => (match S with | .ref v :: S' => some (none, mj_st1 L a (.ref v), S', h) | .null :: S' => some (none, mj_st1 L a .null, S', h) | _ => none)
    | .iinc _ _ => (match mj_ld L a with | .int v => some (none, mj_st1 L a (.int (v + x)), S, h) | _ => none)
    | .iadd => (match S with | .int w :: .int v :: S' => some (none, L, .int (v + w) :: S', h) | _ => none)
    | .isub => (match S with | .int w :: .int v :: S' => some (none, L, .int (v - w) :: S', h) | _ => none)
    | .imul => (match S with | .int w :: .int v :: S' => some (none, L, .int (v * w) :: S', h) | _ => none)
    | .iand => (match S with | .int w :: .int v :: S' => some (none, L, .int (v &&& w) :: S', h) | _ => none)
    | .ior => (match S with | .int w :: .int v :: S' => some (none, L, .int (v ||| w) :: S', h) | _ => none)
    | .ixor => (match S with | .int w :: .int v :: S' => some (none, L, .int (v ^^^ w) :: S', h) | _ => none)
    | .ishl => (match S with | .int w :: .int v :: S' => some (none, L, .int (v <<< (w &&& 31)) :: S', h) | _ => none)
    | .ishr => (match S with | .int w :: .int v :: S' => some (none, L, .int (v >>> (w &&& 31)) :: S', h) | _ => none)
    | .iushr => (match S with | .int w :: .int v :: S' => some (none, L, .int (v.toUInt32 >>> (w.toUInt32 &&& Int32.toUInt32 31)).toInt32 :: S', h) | _ => none)
    | .idiv => (match S with | .int w :: .int v :: S' => if w = 0 then none else some (none, L, .int (v / w) :: S', h) | _ => none)
    | .irem => (match S with | .int w :: .int v :: S' => if w = 0 then none else some (none, L, .int (v - v / w * w) :: S', h) | _ => none)
    | .ineg => (match S with | .int v :: S' => some (none, L, .int (-v) :: S', h) | _ => none)
    | .ladd => (match S with | .long w :: .long v :: S' => some (none, L, .long (v + w) :: S', h) | _ => none)
    | .lsub => (match S with | .long w :: .long v :: S' => some (none, L, .long (v - w) :: S', h) | _ => none)
    | .land => (match S with | .long w :: .long v :: S' => some (none, L, .long (v &&& w) :: S', h) | _ => none)
    | .lor => (match S with | .long w :: .long v :: S' => some (none, L, .long (v ||| w) :: S', h) | _ => none)
    | .lxor => (match S with | .long w :: .long v :: S' => some (none, L, .long (v ^^^ w) :: S', h) | _ => none)
    | .lcmp => (match S with | .long w :: .long v :: S' => some (none, L, .int (lg_cmp v w) :: S', h) | _ => none)
    | .lneg => (match S with | .long v :: S' => some (none, L, .long (-v) :: S', h) | _ => none)
    | .lshl => (match S with | .int w :: .long v :: S' => some (none, L, .long (v <<< (w.toInt64 &&& 63)) :: S', h) | _ => none)
    | .lushr => (match S with | .int w :: .long v :: S' => some (none, L, .long (v.toUInt64 >>> (w.toInt64.toUInt64 &&& Int64.toUInt64 63)).toInt64 :: S', h) | _ => none)
    | .i2l => (match S with | .int v :: S' => some (none, L, .long v.toInt64 :: S', h) | _ => none)
    | .l2i => (match S with | .long v :: S' => some (none, L, .int v.toInt32 :: S', h) | _ => none)
    | .dup => (match S with | .int v :: S' => some (none, L, .int v :: .int v :: S', h) | .ref v :: S' => some (none, L, .ref v :: .ref v :: S', h) | _ => none)
    | .dup2 => (match S with | .int w :: .ref v :: S' => some (none, L, .int w :: .ref v :: .int w :: .ref v :: S', h) | _ => none)
    | .pop => (match S with | .int _ :: S' => some (none, L, S', h) | _ => none)
    | .goto _ => some (some a, L, S, h)
    | .ifCond c _ => (match S with | .int v :: S' => some (if mj_bz c v then some a else none, L, S', h) | _ => none)
    | .if_icmp c _ => (match S with | .int w :: .int v :: S' => some (if mj_bc c v w then some a else none, L, S', h) | _ => none)
    | .ifnonnull _ => (match S with | .ref _ :: S' => some (some a, L, S', h) | .null :: S' => some (none, L, S', h) | _ => none)
    | .tableswitch d lo hi offs => (match S with | .int v :: S' => some (some (mj_sw pc d lo hi offs v), L, S', h) | _ => none)
    | .getstatic _ => some (none, L, .ref 0 :: S, h)
    | .getfield _ => (match S with | .ref r :: S' => if (mj_k h r).1 = a + 3 then some (none, L, mj_gv h t r b :: S', h) else none | _ => none)
    | .putfield _ => (match S with
      | .int v :: .ref r :: S' => if (mj_k h r).1 = a + 3 ∧ (t = 0 ∨ (t = 3 ∧ (v = 0 ∨ v = 1))) then some (none, L, S', mj_sI h r b v) else none
      | .long v :: .ref r :: S' => if (mj_k h r).1 = a + 3 ∧ t = 1 then some (none, L, S', mj_sJ h r b v) else none
      | .ref q :: .ref r :: S' => if (mj_k h r).1 = a + 3 ∧ t = 2 then some (none, L, S', mj_sR h r b (some q)) else none
      | _ => none)
    | .iaload => (match S with | .int v :: .ref r :: S' => if (mj_k h r).1 = 0 ∧ ¬ (v < 0 ∨ (mj_k h r).2 ≤ v.toNatClampNeg) then some (none, L, .int (mj_gI h r v.toNatClampNeg) :: S', h) else none | _ => none)
    | .laload => (match S with | .int v :: .ref r :: S' => if (mj_k h r).1 = 1 ∧ ¬ (v < 0 ∨ (mj_k h r).2 ≤ v.toNatClampNeg) then some (none, L, .long (mj_gJ h r v.toNatClampNeg) :: S', h) else none | _ => none)
    | .aaload => (match S with | .int v :: .ref r :: S' => if (mj_k h r).1 = 2 ∧ ¬ (v < 0 ∨ (mj_k h r).2 ≤ v.toNatClampNeg) then some (none, L, va_rf (mj_gR h r v.toNatClampNeg) :: S', h) else none | _ => none)
    | .iastore => (match S with | .int w :: .int v :: .ref r :: S' => if (mj_k h r).1 = 0 ∧ 2 ≤ r ∧ ¬ (v < 0 ∨ (mj_k h r).2 ≤ v.toNatClampNeg) then some (none, L, S', mj_sI h r v.toNatClampNeg w) else none | _ => none)
    | .lastore => (match S with | .long w :: .int v :: .ref r :: S' => if (mj_k h r).1 = 1 ∧ ¬ (v < 0 ∨ (mj_k h r).2 ≤ v.toNatClampNeg) then some (none, L, S', mj_sJ h r v.toNatClampNeg w) else none | _ => none)
    | .aastore => (match S with | .ref q :: .int v :: .ref r :: S' => if (mj_k h r).1 = 2 ∧ (mj_k h q).1 = 3 ∧ ¬ (v < 0 ∨ (mj_k h r).2 ≤ v.toNatClampNeg) then some (none, L, S', mj_sR h r v.toNatClampNeg (some q)) else none | _ => none)
    | .arraylength => (match S with | .ref r :: S' => if (mj_k h r).1 < 3 then some (none, L, .int (Int32.ofNat (mj_k h r).2) :: S', h) else none | _ => none)
    | .newarray ty => (match S with | .int v :: S' => if ¬ v < 0 ∧ v.toNatClampNeg ≤ 1000000 ∧ (ty = .int ∨ ty = .long) then some (none, L, .ref h.1 :: S', mj_new h (if ty = .int then 0 else 1) v.toNatClampNeg) else none | _ => none)
    | .anewarray _ => (match S with | .int v :: S' => if ¬ v < 0 ∧ v.toNatClampNeg ≤ 1000000 then some (none, L, .ref h.1 :: S', mj_new h 2 v.toNatClampNeg) else none | _ => none)
    | .new _ => some (none, L, .ref h.1 :: S, mj_new h (a + 3) b)
    | _ => none
/-- the blocks of a method, by their first instruction's place -/
def mj_look : List (Nat × List mj_O) → Nat → Option (List mj_O)
  | [], _ => none
  | (p, B) :: r, pc => if p = pc then some B else mj_look r pc
def mj_blk (m pc : Nat) : Option (List mj_O) := match mj_prog[m]? with
  | some M => mj_look M.2.2.2.2 pc
  | none => none
def mj_mx (m : Nat) : Option Nat := (mj_prog[m]?).map (fun M => M.2.2.1)
/-- the values on top of the stack, the topmost last -/
def mj_pop : Nat → List Value → List Value → Option (List Value × List Value)
  | 0, As, S => some (As, S)
  | _ + 1, _, [] => none
  | n + 1, As, v :: S => mj_pop n (v :: As) S
/-- a call's receiver is of the class that is told (u = 0: nothing is asked; 1: a reference) -/
def mj_rc (h : mj_H) (u : Nat) (As : List Value) : Prop := match u with
  | 0 => True
  | 1 => (match As with
    | .ref _ :: _ => True
    | _ => False)
  | u => (match As with
    | .ref r :: _ => (mj_k h r).1 = u
    | _ => False)
def mj_rb (h : mj_H) (u : Nat) (As : List Value) : Bool := match u with
  | 0 => true
  | 1 => (match As with
    | .ref _ :: _ => true
    | _ => false)
  | u => (match As with
    | .ref r :: _ => decide ((mj_k h r).1 = u)
    | _ => false)
/-- what an answer puts on the stack -/
def mj_push : Nat → Option Value → Option (List Value)
  | 0, none => some []
  | 1, some (.int v) => some [.int v]
  | 2, some (.long v) => some [.long v]
  | 3, some (.ref v) => some [.ref v]
  | 3, some .null => some [.null]
  | _, _ => none
/-- 0: within the method; 1: a call; 2: the end; 3: Object's constructor; 4: arraycopy of ints; 5, 6: the greater, the less of two ints; 7: the less of two longs -/
def mj_kd (o : mj_O) : Nat := match o with
  | (i, _, _, _, t, _, _, _) => match i with
    | .invokevirtual _ => 1
    | .invokestatic _ => if t = 9 then 4 else if 5 ≤ t then t else 1
    | .invokespecial _ => if t = 8 then 3 else 1
    | .ireturn => 2
    | .lreturn => 2
    | .areturn => 2
    | .return_ => 2
    | _ => 0
def mj_rt (o : mj_O) (S : List Value) : Option (Option Value) := match o with
  | (i, _, _, _, t, _, _, _) => match i with
    | .ireturn => (match S with | [.int v] => if t = 0 ∨ v = 0 ∨ v = 1 then some (some (.int v)) else none | _ => none)
    | .lreturn => (match S with | [.long v] => some (some (.long v)) | _ => none)
    | .areturn => (match S with | [.ref v] => some (some (.ref v)) | [.null] => some (some .null) | _ => none)
    | .return_ => (match S with | [] => some none | _ => none)
    | _ => none
def mj_run : Nat → Nat → Nat → Nat → List mj_O → List Value → List Value → mj_H → Option (Option Value × mj_H)
  | 0, _, _, _, _, _, _, _ => none
  | n + 1, d, m, pc, ops, L, S, h => match ops with
    | [] => (match mj_blk m pc with | some B => mj_run n d m pc B L S h | none => none)
    | o :: r => match mj_kd o with
      | 0 => (match mj_ex o pc L S h with
        | some (none, L', S', h') => mj_run n d m (pc + o.2.1) r L' S' h'
        | some (some tg, L', S', h') => mj_run n d m tg [] L' S' h'
        | none => none)
      | 1 => (match d with
        | 0 => none
        | d' + 1 => match mj_pop o.2.2.2.1 [] S with
          | none => none
          | some (As, S') => if mj_ok4 S' && mj_rb h o.2.2.2.2.2.1 As then
              (match mj_mx o.2.2.1 with
              | none => none
              | some k => if mj_ew As k then (match mj_run n d' o.2.2.1 0 [] (mj_en As k) [] h with
                | none => none
                | some (v, h') => match mj_push o.2.2.2.2.1 v with
                  | none => none
                  | some vs => mj_run n d m (pc + 3) r L (vs ++ S') h')
                else none)
            else none)
      | 2 => (match mj_rt o S with | some v => some (v, h) | none => none)
      | 3 => (match d, S with
        | d' + 1, .ref _ :: S' => if mj_ok4 S' then mj_run n d m (pc + 3) r L S' h else none
        | _, _ => none)
      | 5 => (match d, S with
        | d' + 1, .int w :: .int v :: S' => if mj_ok4 S' then mj_run n d m (pc + 3) r L (.int (if v < w then w else v) :: S') h else none
        | _, _ => none)
      | 6 => (match d, S with
        | d' + 1, .int w :: .int v :: S' => if mj_ok4 S' then mj_run n d m (pc + 3) r L (.int (if w < v then w else v) :: S') h else none
        | _, _ => none)
      | 7 => (match d, S with
        | d' + 1, .long w :: .long v :: S' => if mj_ok4 S' then mj_run n d m (pc + 3) r L (.long (if w < v then w else v) :: S') h else none
        | _, _ => none)
      | _ => (match d, S with
        | d' + 1, .int c :: .int w :: .ref q :: .int v :: .ref p :: S' =>
          if mj_ok4 S' ∧ (mj_k h p).1 = 0 ∧ (mj_k h q).1 = 0 ∧ 2 ≤ p ∧ 2 ≤ q ∧ ¬ v < 0 ∧ ¬ w < 0 ∧ ¬ c < 0 ∧ v.toNatClampNeg + c.toNatClampNeg ≤ (mj_k h p).2 ∧ w.toNatClampNeg + c.toNatClampNeg ≤ (mj_k h q).2
          then mj_run n d m (pc + 3) r L S' (mj_cp h p q v.toNatClampNeg w.toNatClampNeg c.toNatClampNeg) else none
        | _, _ => none)
/-- what is asked of a resolved instruction: it is the code's, and its operands are the tables' (ct: the words that a class's constant pool gives, by their places) -/
abbrev mj_T : Type := List (Nat × Cond)
def mj_lk : mj_T → Nat → Option Cond
  | [], _ => none
  | (k, w) :: r, i => if k = i then some w else mj_lk r i
def mj_in (ct : mj_T) (i : Nat) (w : Cond) : Bool := match mj_lk ct i with
  | some w' => decide (w' = w)
  | none => false
def mj_tc (d : String) : Nat := if d = "I" then 0 else if d = "J" then 1 else if d = "Z" then 3 else 2
def mj_fk (ct : mj_T) (own : String) (idx a b t : Nat) : Bool := match vwCl[a]? with
  | some (C, T, N) => decide (b < N) && decide (t = mj_tc (T b).2.2.1) && decide ((T b).1 = C) && mj_in ct idx (.fieldLink own idx C (T b).2.1 (T b).2.2.1)
  | none => false
/-- the kind of an answer -/
def mj_rk : Option FieldType → Nat
  | none => 0
  | some .int => 1
  | some .boolean => 1
  | some .long => 2
  | some _ => 3
def mj_callOk (ct : mj_T) (own : String) (i : Instr) (a b t u : Nat) : Bool := match mj_prog[a]?, mj_fl[a]? with
  | some M, some f => (match parseMethodDescriptor M.1.desc with
    | none => false
    | some sg => decide (t = mj_rk M.2.2.2.1) && match i with
      | .invokestatic idx => decide (f = 0) && decide (u = 0) && decide (b = sg.parameters.length) && mj_in ct idx (.methodLink own idx M.1)
      | .invokevirtual idx => decide (f = 1) && decide (b = sg.parameters.length + 1) && mj_in ct idx (.methodLink own idx M.1) && (match vwCl[u - 3]? with
        | some (C, _, _) => decide (3 ≤ u) && decide (C = M.1.cls)
        | none => false)
      | .invokespecial idx => decide (f = 2) && decide (u = 1) && decide (b = sg.parameters.length + 1) && mj_in ct idx (.methodLink own idx M.1)
      | _ => false)
  | _, _ => false
def mj_okO (ct : mj_T) (M : mj_M) (pc : Nat) (o : mj_O) : Bool := match o with
  | (i, len, a, b, t, u, x, y) => match i with
    | .iconst n => decide (len = 1) && decide (Int32.ofInt n = x)
    | .bipush n => decide (len = 2) && decide ((Int8.ofInt n).toInt32 = x)
    | .sipush n => decide (len = 3) && decide ((Int16.ofInt n).toInt32 = x)
    | .ldc k => decide (len = 2) && mj_in ct k (.constant M.1.cls k x)
    | .ldc_w k => decide (len = 3) && mj_in ct k (.constant M.1.cls k x)
    | .lconst n => decide (len = 1) && decide (Int64.ofNat (n : Nat) = y)
    | .ldc2_w k => decide (len = 3) && mj_in ct k (.constantLong M.1.cls k y)
    | .iload k => decide (len = 2) && decide (k = a)
    | .iload_n k => decide (len = 1) && decide ((k : Nat) = a)
    | .lload k => decide (len = 2) && decide (k = a)
    | .lload_n k => decide (len = 1) && decide ((k : Nat) = a)
    | .aload k => decide (len = 2) && decide (k = a)
    | .aload_n k => decide (len = 1) && decide ((k : Nat) = a)
    | .istore k => decide (len = 2) && decide (k = a) && decide (a < M.2.2.1)
    | .istore_n k => decide (len = 1) && decide ((k : Nat) = a) && decide (a < M.2.2.1)
    | .lstore k => decide (len = 2) && decide (k = a) && decide (a + 1 < M.2.2.1)
    | .lstore_n k => decide (len = 1) && decide ((k : Nat) = a) && decide (a + 1 < M.2.2.1)
    | .astore k => decide (len = 2) && decide (k = a) && decide (a < M.2.2.1)
    | .astore_n k => decide (len = 1) && decide ((k : Nat) = a) && decide (a < M.2.2.1)
    | .iinc k n => decide (len = 3) && decide (k = a) && decide (Int32.ofInt n = x) && decide (a < M.2.2.1)
    | .goto off => decide (len = 3) && decide ((pc : Int) + off = (a : Int))
    | .ifCond _ off => decide (len = 3) && decide ((pc : Int) + off = (a : Int))
    | .if_icmp _ off => decide (len = 3) && decide ((pc : Int) + off = (a : Int))
    | .ifnonnull off => decide (len = 3) && decide ((pc : Int) + off = (a : Int))
    | .tableswitch d lo hi offs => decide (0 ≤ (pc : Int) + d) && decide (lo ≤ hi) && decide ((offs.size : Int) = hi - lo + 1) && offs.toList.all (fun off => decide (0 ≤ (pc : Int) + off))
    | .getstatic k => decide (len = 3) && mj_in ct k (.fieldLink M.1.cls k "HeapSquares$Lists" "HEAPS_BY_STEPS" "[I")
    | .getfield k => decide (len = 3) && mj_fk ct M.1.cls k a b t
    | .putfield k => decide (len = 3) && mj_fk ct M.1.cls k a b t && (match vwCl[a]? with
      | some (_, T, _) => decide (u = if (T b).2.2.2 then 1 else 0) && (decide (u = 0) || (decide (M.1.name = "<init>") && decide ((T b).1 = M.1.cls)))
      | none => false)
    | .newarray ty => decide (len = 2) && (decide (ty = .int) || decide (ty = .long))
    | .anewarray k => decide (len = 3) && mj_in ct k (.classLink M.1.cls k "HeapSquares$HeapList")
    | .new k => decide (len = 3) && (match vwCl[a]? with
      | some (C, _, N) => decide (b = N) && mj_in ct k (.classLink M.1.cls k C)
      | none => false)
    | .invokestatic k => decide (len = 3) && (if t = 9 then mj_in ct k (.methodLink M.1.cls k arraycopyName) else if t = 5 then mj_in ct k (.methodLink M.1.cls k Lib.Math.max.name) else if t = 6 then mj_in ct k (.methodLink M.1.cls k Lib.Math.min.name) else if t = 7 then mj_in ct k (.methodLink M.1.cls k Lib.MathLoose.min_long.x) else decide (t < 5) && mj_callOk ct M.1.cls i a b t u)
    | .invokevirtual _ => decide (len = 3) && mj_callOk ct M.1.cls i a b t u
    | .invokespecial k => decide (len = 3) && (if t = 8 then mj_in ct k (.methodLink M.1.cls k Lib.objectInit) else mj_callOk ct M.1.cls i a b t u)
    | .ireturn => decide (len = 1) && (decide (t = 0) && decide (M.2.2.2.1 = some .int) || decide (t = 3) && decide (M.2.2.2.1 = some .boolean))
    | .lreturn => decide (len = 1) && decide (M.2.2.2.1 = some .long)
    | .areturn => decide (len = 1) && (match M.2.2.2.1 with
      | some (.object _) => true
      | _ => false)
    | .return_ => decide (len = 1) && decide (M.2.2.2.1 = none)
    | _ => decide (len = 1)
def mj_seg (ct : mj_T) (M : mj_M) : Nat → List mj_O → Bool
  | _, [] => true
  | pc, o :: r => decide (decode M.2.1 pc = .ok (o.1, o.2.1)) && mj_okO ct M pc o && mj_seg ct M (pc + o.2.1) r
def mj_okM (ct : mj_T) (M : mj_M) : Bool := M.2.2.2.2.all (fun q => mj_seg ct M q.1 q.2)
