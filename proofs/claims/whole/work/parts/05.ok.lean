/-! What is asked of each entry of the evaluator's code, and of each link -/
def fcd (t : FieldType) : Nat := match t with
  | .long => 1
  | .int => 0
  | .boolean => 3
  | .object _ => 2
  | .array _ => 2
  | _ => 9
def rcd (t : Option FieldType) : Nat := match t with
  | some .byte => 1
  | some .boolean => 2
  | some .char => 4
  | some .int => 0
  | _ => 9
def swOK (pc : Nat) : Int → List Int → List (Int32 × Nat) → Bool
  | _, [], [] => true
  | lo, o :: r, q :: t => decide (q.1.toInt = lo) && decide ((pc : Int) + o = (q.2 : Int)) && swOK pc (lo + 1) r t
  | _, _, _ => false
def hasF (o i a b : Nat) : Bool := flL.any (fun q => q.1 == o && q.2.1 == i && q.2.2.1 == a && q.2.2.2.1 == b)
def hasN (o i a b : Nat) : Bool := fnL.any (fun q => q.1 == o && q.2.1 == i && q.2.2.1 == a && q.2.2.2 == b)
def has3 (l : List (Nat × Nat × Nat × Nat)) (o i a : Nat) : Bool := l.any (fun q => q.1 == o && q.2.1 == i && q.2.2.1 == a)
def hasM (o i a k : Nat) : Bool := mlL.any (fun q => q.1 == o && q.2.1 == i && q.2.2.1 == a && q.2.2.2.1 == k)
def npar (M : Nat) : Nat := match parseMethodDescriptor (mY M).desc with
  | some d => d.parameters.length
  | none => 99
/-- the place of an instruction behind 'throw new', as 'stake' has it -/
def thrOK (M pc : Nat) : Bool := M == M_WF_stake && pc == 45
def okB (M : Nat) (q : Nat × Ent9) : Bool :=
  decide (decode (mB M) q.1 = .ok (q.2.1, q.2.2.1)) &&
  match q with
  | (pc, i, n, a, b, c, L) => match i with
    | .iconst _ | .lconst _ | .aconst_null | .iload_n _ | .lload_n _ | .aload_n _ | .istore_n _ | .lstore_n _ | .astore_n _ | .iadd | .isub | .imul | .iand | .ior | .ixor | .ishl | .ishr | .iushr | .idiv | .irem | .ineg | .i2l | .i2b | .i2c | .l2i | .lneg | .ladd | .lsub | .lmul | .land | .lor | .lxor | .lshl | .lushr | .lcmp | .dup | .dup2 | .iaload | .baload | .laload | .iastore | .bastore | .lastore | .arraylength | .athrow => n == 1
    | .bipush _ | .iload _ | .lload _ | .aload _ | .istore _ | .lstore _ | .astore _ => n == 2
    | .sipush _ | .iinc _ _ => n == 3
    | .ldc k => n == 2 && (if c = 0 then has3 ciL (mO M) k a else has3 (strL.map (fun q => (q.1, q.2.1, q.2.2, 0))) (mO M) k a)
    | .ldc_w k => n == 3 && has3 ciL (mO M) k a
    | .ldc2_w k => n == 3 && has3 cjL (mO M) k a
    | .goto o | .if_icmp _ o | .ifCond _ o | .ifnonnull o | .ifnull o => n == 3 && decide ((pc : Int) + o = (a : Int))
    | .tableswitch d lo hi offs => decide ((pc : Int) + d = (a : Int)) && decide (hi = lo + (offs.size : Int) - 1) && swOK pc lo offs.toList L
    | .getfield k => n == 3 && (if a = 80 then (mO M == 21 && ((k == 9 && b == 0 && c == 2) || (k == 15 && b == 1 && c == 0))) else (decide (a < 15) && decide (b < (clT a).2.2) && (hasF (mO M) k a b || hasN (mO M) k a b) && c == fcd (tyT a b)))
    | .putfield k => n == 3 && decide (a < 15) && decide (b < (clT a).2.2) && c == fcd (tyT a b) && ((hasN (mO M) k a b && !((clT a).2.1 b).2.2.2) || (hasF (mO M) k a b && (!((clT a).2.1 b).2.2.2 || (decide ((mY M).name = "<init>") && decide (((clT a).2.1 b).1 = (mY M).cls)))))
    | .getstatic k => n == 3 && ((c == 2 && mO M == 10 && ((k == 47 && a == 90) || (k == 50 && a == 91) || (k == 57 && a == 92) || (k == 60 && a == 93))) || (c == 3 && ((mO M == 23 && (k == 13 || k == 20)) || (mO M == 21 && k == 1053))) || (c == 0 && b == 1 && mO M == 21 && k == 38))
    | .new k => n == 3 && ((c == 0 && decide (a < 15) && b == (clT a).2.2 && has3 clL (mO M) k a) || (c == 77 && b == 6 && thrOK M pc))
    | .newarray t => n == 2 && (c == match t with
      | .int => 0
      | .byte => 1
      | .boolean => 2
      | .long => 3
      | _ => 8)
    | .invokevirtual k => n == 3 && (c == 99 || (decide ((mY a).cls = (if c = 81 then "java/lang/String" else onm (c - 1))) && decide (0 < c) && (decide (c ≤ 15) || c == 81) && b == npar a + 1 && (hasM (mO M) k a 0 || hasM (mO M) k a 4) && plainName (mY a).cls))
    | .invokestatic k => n == 3 && (c == 99 || (c == 60 && mO M == 4 && k == 168) || (c == 61 && a == 24 && hasM (mO M) k 24 1) || (c == 62 && a == 25 && hasM (mO M) k 25 1) || (c == 63 && a == 62 && hasM (mO M) k 62 1) || (c == 0 && b == npar a && (hasM (mO M) k a 1 || hasM (mO M) k a 5) && plainName (mY a).cls))
    | .invokespecial k => n == 3 && (c == 50 || c == 99 || (decide (0 < c) && decide (c ≤ 15) && b == npar a + 1 && (hasM (mO M) k a 2 || hasM (mO M) k a 3) && plainName (mY a).cls && decide ((mY a).name = "<init>")))
    | .ireturn => n == 1 && a == rcd (mRt M)
    | .lreturn => n == 1 && decide (mRt M = some .long)
    | .areturn => n == 1 && (fcd ((mRt M).getD .int) == 2)
    | .return_ => n == 1 && decide (mRt M = none)
    | _ => true
