/-! One step of the evaluator; Kc: a method called, Kn: the method goes on -/
def aLn (m : Mem) (k j : Nat) : Nat := if k = 99 then mK m 98 else if k = 81 then (nth9 strT j []).length else kLn k
def aGt (m : Mem) (k j i : Nat) : Int32 := if k < 80 then mI m k j i else if k = 99 then mI m 99 0 i else roT k j i
def gf9 (m : Mem) (a b c j : Nat) : AV := if a = 80 then (if b = 0 then vr 81 j else vi 0) else match c with
  | 1 => vl (mJ m a j b)
  | 2 => .inr (.inr (mR m a j b))
  | _ => vi (mI m a j b)
def pf9 (m : Mem) (a b c j : Nat) (v : AV) : Option Mem := if a = 80 then none else match c with
  | 0 => match v with
    | .inl x => some (setI m a j b x)
    | _ => none
  | 1 => match v with
    | .inr (.inl x) => some (setJ m a j b x)
    | _ => none
  | 2 => match v with
    | .inr (.inr x) => some (setR m a j b x)
    | _ => none
  | _ => match v with
    | .inl x => if x = 0 ∨ x = 1 then some (setI m a j b x) else none
    | _ => none
def hnd9 : List (Nat × Nat × Nat × Nat) → Nat → Nat → Option Nat
  | [], _, _ => none
  | q :: r, pc, E => if q.1 ≤ pc ∧ pc < q.2.1 ∧ q.2.2.2 = E then some q.2.2.1 else hnd9 r pc E
def rcv9 (c : Nat) (vs : List AV) : Bool := match c with
  | 0 => true
  | c + 1 => match vs with
    | .inr (.inr (some (some q))) :: _ => q.1 == c
    | _ => false
def okK (k : Nat) : Bool := decide (k < 80) || k == 81 || (decide (90 ≤ k) && decide (k ≤ 93)) || k == 99
section STP
variable {ρ : Type} (F : ρ) (D : Res9 → ρ) (Kc : Nat → Nat → List AV → List AV → Nat → Loc9 → Mem → ρ) (Kn : Nat → Loc9 → List AV → Mem → ρ)
def swK (x : Int32) (d : Nat) (k : Nat → ρ) : List (Int32 × Nat) → ρ
  | [] => k d
  | q :: r => if x = q.1 then k q.2 else swK x d k r
def ib9 (f : Int32 → Int32 → Int32) (pc : Nat) (l : Loc9) (st : List AV) (m : Mem) : ρ := match st with
  | .inl y :: .inl x :: r => Kn pc l (vi (f x y) :: r) m
  | _ => F
def lb9 (f : Int64 → Int64 → Int64) (pc : Nat) (l : Loc9) (st : List AV) (m : Mem) : ρ := match st with
  | .inr (.inl y) :: .inr (.inl x) :: r => Kn pc l (vl (f x y) :: r) m
  | _ => F
def ls9 (f : Int64 → Int32 → Int64) (pc : Nat) (l : Loc9) (st : List AV) (m : Mem) : ρ := match st with
  | .inl y :: .inr (.inl x) :: r => Kn pc l (vl (f x y) :: r) m
  | _ => F
def iu9 (f : Int32 → AV) (pc : Nat) (l : Loc9) (st : List AV) (m : Mem) : ρ := match st with
  | .inl x :: r => Kn pc l (f x :: r) m
  | _ => F
def lu9 (f : Int64 → AV) (pc : Nat) (l : Loc9) (st : List AV) (m : Mem) : ρ := match st with
  | .inr (.inl x) :: r => Kn pc l (f x :: r) m
  | _ => F
def il9 (k pc : Nat) (l : Loc9) (st : List AV) (m : Mem) : ρ := match ldL l k with
  | some (.inl x) => Kn pc l (vi x :: st) m
  | _ => F
def ll9 (k pc : Nat) (l : Loc9) (st : List AV) (m : Mem) : ρ := match ldL l k with
  | some (.inr (.inl x)) => Kn pc l (vl x :: st) m
  | _ => F
def al9 (k pc : Nat) (l : Loc9) (st : List AV) (m : Mem) : ρ := match ldL l k with
  | some (.inr (.inr x)) => Kn pc l (.inr (.inr x) :: st) m
  | _ => F
def is9 (k pc : Nat) (l : Loc9) (st : List AV) (m : Mem) : ρ := match st with
  | .inl x :: r => if k < l.length then Kn pc (stL l k (vi x)) r m else F
  | _ => F
def ls29 (k pc : Nat) (l : Loc9) (st : List AV) (m : Mem) : ρ := match st with
  | .inr (.inl x) :: r => if k + 1 < l.length then Kn pc (stL2 l k (vl x)) r m else F
  | _ => F
def as9 (k pc : Nat) (l : Loc9) (st : List AV) (m : Mem) : ρ := match st with
  | .inr (.inr x) :: r => if k < l.length then Kn pc (stL l k (.inr (.inr x))) r m else F
  | _ => F
def ic9 (C : Int32 → Int32 → Bool) (a pc : Nat) (l : Loc9) (st : List AV) (m : Mem) : ρ := match st with
  | .inl y :: .inl x :: r => if C x y = true then Kn a l r m else Kn pc l r m
  | _ => F
def if9 (C : Int32 → Bool) (a pc : Nat) (l : Loc9) (st : List AV) (m : Mem) : ρ := match st with
  | .inl x :: r => if C x = true then Kn a l r m else Kn pc l r m
  | _ => F
def ald9 (ty : Nat → Bool) (pc : Nat) (l : Loc9) (st : List AV) (m : Mem) : ρ := match st with
  | .inl i :: .inr (.inr (some (some q))) :: r => if ty (aTy q.1) = true ∧ okK q.1 = true then (if inR i (aLn m q.1 q.2) = true then Kn pc l (vi (aGt m q.1 q.2 i.toNatClampNeg) :: r) m else F) else F
  | _ => F
def lald9 (pc : Nat) (l : Loc9) (st : List AV) (m : Mem) : ρ := match st with
  | .inl i :: .inr (.inr (some (some q))) :: r => if q.1 < 80 ∧ aTy q.1 = 3 then (if inR i (kLn q.1) = true then Kn pc l (vl (mJ m q.1 q.2 i.toNatClampNeg) :: r) m else F) else F
  | _ => F
def iast9 (pc : Nat) (l : Loc9) (st : List AV) (m : Mem) : ρ := match st with
  | .inl x :: .inl i :: .inr (.inr (some (some q))) :: r => if q.1 < 80 ∧ aTy q.1 = 0 then (if inR i (kLn q.1) = true then Kn pc l r (setI m q.1 q.2 i.toNatClampNeg x) else F) else F
  | _ => F
def bast9 (pc : Nat) (l : Loc9) (st : List AV) (m : Mem) : ρ := match st with
  | .inl x :: .inl i :: .inr (.inr (some (some q))) :: r => if q.1 < 80 then (if inR i (kLn q.1) = true then (match aTy q.1 with
    | 1 => Kn pc l r (setI m q.1 q.2 i.toNatClampNeg (x.toInt8.toInt32))
    | 2 => Kn pc l r (setI m q.1 q.2 i.toNatClampNeg (x &&& 1))
    | _ => F) else F) else F
  | _ => F
def last9 (pc : Nat) (l : Loc9) (st : List AV) (m : Mem) : ρ := match st with
  | .inr (.inl x) :: .inl i :: .inr (.inr (some (some q))) :: r => if q.1 < 80 ∧ aTy q.1 = 3 then (if inR i (kLn q.1) = true then Kn pc l r (setJ m q.1 q.2 i.toNatClampNeg x) else F) else F
  | _ => F
def gtf9 (a b c pc : Nat) (l : Loc9) (st : List AV) (m : Mem) : ρ := match st with
  | .inr (.inr (some (some q))) :: r => if q.1 = a then Kn pc l (gf9 m a b c q.2 :: r) m else F
  | _ => F
def ptf9 (a b c pc : Nat) (l : Loc9) (st : List AV) (m : Mem) : ρ := match st with
  | v :: .inr (.inr (some (some q))) :: r => if q.1 = a then (match pf9 m a b c q.2 v with
    | some m1 => Kn pc l r m1
    | none => F) else F
  | _ => F
def cp9 (pc : Nat) (l : Loc9) (st : List AV) (m : Mem) : ρ := match st with
  | .inl n :: .inl dp :: .inr (.inr (some (some q))) :: .inl sp :: .inr (.inr (some (some p))) :: r =>
    if q.1 < 80 ∧ p.1 < 80 ∧ aTy q.1 = 0 ∧ aTy p.1 = 0 ∧ 0 ≤ n ∧ 0 ≤ sp ∧ 0 ≤ dp ∧ sp.toNatClampNeg + n.toNatClampNeg ≤ kLn p.1 ∧ dp.toNatClampNeg + n.toNatClampNeg ≤ kLn q.1 ∧ cats r ≤ 8 then
      Kn pc l r (upA m.1 q.1 q.2 (va_cpy (m.1 p.1 p.2) (m.1 q.1 q.2) sp.toNatClampNeg dp.toNatClampNeg n.toNatClampNeg), m.2)
    else F
  | _ => F
def mt9 (c pc : Nat) (l : Loc9) (st : List AV) (m : Mem) : ρ := match c with
  | 61 => (match st with
    | .inl y :: .inl x :: r => if cats r ≤ 8 then Kn pc l (vi (if y < x then y else x) :: r) m else F
    | _ => F)
  | 62 => (match st with
    | .inl y :: .inl x :: r => if cats r ≤ 8 then Kn pc l (vi (if x < y then y else x) :: r) m else F
    | _ => F)
  | _ => (match st with
    | .inl x :: r => if cats r ≤ 8 then Kn pc l (vi (if 0 ≤ x then x else 0 - x) :: r) m else F
    | _ => F)
def inv9 (d a b c pc1 : Nat) (l : Loc9) (st : List AV) (m : Mem) : ρ :=
  if c = 99 then F else if c = 50 then (match st with
    | .inr (.inr (some (some _))) :: r => if cats r ≤ 8 then Kn pc1 l r m else F
    | _ => F) else if c = 60 then cp9 F Kn pc1 l st m else if 61 ≤ c ∧ c ≤ 63 then mt9 F Kn c pc1 l st m else
  match popN b [] st with
  | none => F
  | some (args, rest) => if cats rest ≤ 8 ∧ cats args ≤ mxT a then (if rcv9 c args = true then (match d with
    | 0 => F
    | d + 1 => Kc d a args rest pc1 l m) else F) else F
def irt9 (a : Nat) (st : List AV) (m : Mem) : ρ := match st with
  | [.inl x] => match a with
    | 0 => D (.inl (some (vi x)), m)
    | 1 => if -128 ≤ x ∧ x ≤ 127 then D (.inl (some (vi x)), m) else F
    | 2 => if x = 0 ∨ x = 1 then D (.inl (some (vi x)), m) else F
    | _ => if 0 ≤ x ∧ x ≤ 65535 then D (.inl (some (vi x)), m) else F
  | _ => F
def nwa9 (a n c pc : Nat) (l : Loc9) (st : List AV) (m : Mem) : ρ := match st with
  | .inl x :: r => if x = Int32.ofNat n ∧ aTy a = c ∧ kLn a = n ∧ a < 80 then Kn pc l (vr a (mK m a) :: r) (newM m a n) else F
  | _ => F
def stI (i : Instr) (n a b c : Nat) (L : List (Int32 × Nat)) (d M pc : Nat) (l : Loc9) (st : List AV) (m : Mem) : ρ := match i with
  | .iconst z => Kn (pc + n) l (vi (Int32.ofInt z) :: st) m
  | .bipush z => Kn (pc + n) l (vi ((Int8.ofInt z).toInt32) :: st) m
  | .sipush z => Kn (pc + n) l (vi ((Int16.ofInt z).toInt32) :: st) m
  | .lconst z => Kn (pc + n) l (vl (Int64.ofNat z.val) :: st) m
  | .aconst_null => Kn (pc + n) l (vn :: st) m
  | .ldc _ => if c = 0 then Kn (pc + n) l (vi (cI9 a) :: st) m else Kn (pc + n) l (vr 80 a :: st) m
  | .ldc_w _ => Kn (pc + n) l (vi (cI9 a) :: st) m
  | .ldc2_w _ => Kn (pc + n) l (vl (cJ9 a) :: st) m
  | .iload k => il9 F Kn k (pc + n) l st m
  | .iload_n k => il9 F Kn k.val (pc + n) l st m
  | .lload k => ll9 F Kn k (pc + n) l st m
  | .lload_n k => ll9 F Kn k.val (pc + n) l st m
  | .aload k => al9 F Kn k (pc + n) l st m
  | .aload_n k => al9 F Kn k.val (pc + n) l st m
  | .istore k => is9 F Kn k (pc + n) l st m
  | .istore_n k => is9 F Kn k.val (pc + n) l st m
  | .lstore k => ls29 F Kn k (pc + n) l st m
  | .lstore_n k => ls29 F Kn k.val (pc + n) l st m
  | .astore k => as9 F Kn k (pc + n) l st m
  | .astore_n k => as9 F Kn k.val (pc + n) l st m
  | .iinc k z => (match ldL l k with
    | some (.inl x) => Kn (pc + n) (stL l k (vi (x + Int32.ofInt z))) st m
    | _ => F)
  | .iadd => ib9 F Kn (fun x y => x + y) (pc + n) l st m
  | .isub => ib9 F Kn (fun x y => x - y) (pc + n) l st m
  | .imul => ib9 F Kn (fun x y => x * y) (pc + n) l st m
  | .iand => ib9 F Kn (fun x y => x &&& y) (pc + n) l st m
  | .ior => ib9 F Kn (fun x y => x ||| y) (pc + n) l st m
  | .ixor => ib9 F Kn (fun x y => x ^^^ y) (pc + n) l st m
  | .ishl => ib9 F Kn (fun x y => x <<< (y &&& 31)) (pc + n) l st m
  | .ishr => ib9 F Kn (fun x y => x >>> (y &&& 31)) (pc + n) l st m
  | .iushr => ib9 F Kn (fun x y => (x.toUInt32 >>> (y.toUInt32 &&& Int32.toUInt32 31)).toInt32) (pc + n) l st m
  | .idiv => (match st with
    | .inl y :: .inl x :: r => if y = 0 then F else Kn (pc + n) l (vi (x / y) :: r) m
    | _ => F)
  | .irem => (match st with
    | .inl y :: .inl x :: r => if y = 0 then F else Kn (pc + n) l (vi (x - x / y * y) :: r) m
    | _ => F)
  | .ineg => iu9 F Kn (fun x => vi (-x)) (pc + n) l st m
  | .i2l => iu9 F Kn (fun x => vl x.toInt64) (pc + n) l st m
  | .i2b => iu9 F Kn (fun x => vi x.toInt8.toInt32) (pc + n) l st m
  | .i2c => iu9 F Kn (fun x => vi (x.toUInt32 % 65536).toInt32) (pc + n) l st m
  | .l2i => lu9 F Kn (fun x => vi x.toInt32) (pc + n) l st m
  | .lneg => lu9 F Kn (fun x => vl (-x)) (pc + n) l st m
  | .ladd => lb9 F Kn (fun x y => x + y) (pc + n) l st m
  | .lsub => lb9 F Kn (fun x y => x - y) (pc + n) l st m
  | .lmul => lb9 F Kn (fun x y => x * y) (pc + n) l st m
  | .land => lb9 F Kn (fun x y => x &&& y) (pc + n) l st m
  | .lor => lb9 F Kn (fun x y => x ||| y) (pc + n) l st m
  | .lxor => lb9 F Kn (fun x y => x ^^^ y) (pc + n) l st m
  | .lshl => ls9 F Kn (fun x y => x <<< (y.toInt64 &&& 63)) (pc + n) l st m
  | .lushr => ls9 F Kn (fun x y => (x.toUInt64 >>> (y.toInt64.toUInt64 &&& Int64.toUInt64 63)).toInt64) (pc + n) l st m
  | .lcmp => (match st with
    | .inr (.inl y) :: .inr (.inl x) :: r => Kn (pc + n) l (vi (lg_cmp x y) :: r) m
    | _ => F)
  | .dup => (match st with
    | v :: r => if cat9 v = 1 then Kn (pc + n) l (v :: v :: r) m else F
    | _ => F)
  | .pop => (match st with
    | v :: r => if n = 1 ∧ cat9 v = 1 then Kn (pc + n) l r m else F
    | _ => F)
  | .dup2 => (match st with
    | .inr (.inl x) :: r => Kn (pc + n) l (vl x :: vl x :: r) m
    | v :: w :: r => if cat9 v = 1 ∧ cat9 w = 1 then Kn (pc + n) l (v :: w :: v :: w :: r) m else F
    | _ => F)
  | .goto _ => Kn a l st m
  | .if_icmp .eq _ => ic9 F Kn (fun x y => decide (x = y)) a (pc + n) l st m
  | .if_icmp .ne _ => ic9 F Kn (fun x y => decide (¬ x = y)) a (pc + n) l st m
  | .if_icmp .lt _ => ic9 F Kn (fun x y => decide (x < y)) a (pc + n) l st m
  | .if_icmp .ge _ => ic9 F Kn (fun x y => decide (y ≤ x)) a (pc + n) l st m
  | .if_icmp .gt _ => ic9 F Kn (fun x y => decide (y < x)) a (pc + n) l st m
  | .if_icmp .le _ => ic9 F Kn (fun x y => decide (x ≤ y)) a (pc + n) l st m
  | .ifCond .eq _ => if9 F Kn (fun x => decide (x = 0)) a (pc + n) l st m
  | .ifCond .ne _ => if9 F Kn (fun x => decide (¬ x = 0)) a (pc + n) l st m
  | .ifCond .lt _ => if9 F Kn (fun x => decide (x < 0)) a (pc + n) l st m
  | .ifCond .ge _ => if9 F Kn (fun x => decide (0 ≤ x)) a (pc + n) l st m
  | .ifCond .gt _ => if9 F Kn (fun x => decide (0 < x)) a (pc + n) l st m
  | .ifCond .le _ => if9 F Kn (fun x => decide (x ≤ 0)) a (pc + n) l st m
  | .ifnonnull _ => (match st with
    | .inr (.inr (some (some _))) :: r => Kn a l r m
    | .inr (.inr (some none)) :: r => Kn (pc + n) l r m
    | _ => F)
  | .ifnull _ => (match st with
    | .inr (.inr (some (some _))) :: r => Kn (pc + n) l r m
    | .inr (.inr (some none)) :: r => Kn a l r m
    | _ => F)
  | .tableswitch _ _ _ _ => (match st with
    | .inl x :: r => swK x a (fun t => Kn t l r m) L
    | _ => F)
  | .getfield _ => gtf9 F Kn a b c (pc + n) l st m
  | .putfield _ => ptf9 F Kn a b c (pc + n) l st m
  | .getstatic _ => (match c with
    | 0 => Kn (pc + n) l (vi (Int32.ofNat b) :: st) m
    | 2 => Kn (pc + n) l (vr a 0 :: st) m
    | 3 => Kn (pc + n) l (vu :: st) m
    | _ => F)
  | .iaload => ald9 F Kn (fun t => t == 0) (pc + n) l st m
  | .baload => ald9 F Kn (fun t => t == 1 || t == 2) (pc + n) l st m
  | .laload => lald9 F Kn (pc + n) l st m
  | .iastore => iast9 F Kn (pc + n) l st m
  | .bastore => bast9 F Kn (pc + n) l st m
  | .lastore => last9 F Kn (pc + n) l st m
  | .arraylength => (match st with
    | .inr (.inr (some (some q))) :: r => if aTy q.1 ≤ 3 ∧ okK q.1 = true then Kn (pc + n) l (vi (Int32.ofNat (aLn m q.1 q.2)) :: r) m else F
    | _ => F)
  | .new _ => if c = 77 then (if cats st ≤ 8 then D (.inr (0, vu), newX m b) else F) else Kn (pc + n) l (vr a (mK m a) :: st) (newM m a b)
  | .newarray _ => nwa9 F Kn a b c (pc + n) l st m
  | .invokevirtual _ => inv9 F Kc Kn d a b c (pc + n) l st m
  | .invokespecial _ => inv9 F Kc Kn d a b c (pc + n) l st m
  | .invokestatic _ => inv9 F Kc Kn d a b c (pc + n) l st m
  | .athrow => (match st with
    | .inr (.inr (some (some q))) :: _ => if q.1 = 13 then (match hnd9 (hdT M) pc 1 with
      | none => D (.inr (1, vr q.1 q.2), m)
      | some _ => F) else F
    | _ => F)
  | .ireturn => irt9 F D a st m
  | .lreturn => (match st with
    | [.inr (.inl x)] => D (.inl (some (vl x)), m)
    | _ => F)
  | .areturn => (match st with
    | [.inr (.inr x)] => D (.inl (some (.inr (.inr x))), m)
    | _ => F)
  | .return_ => (match st with
    | [] => D (.inl none, m)
    | _ => F)
  | _ => F
def stp (d M pc : Nat) (l : Loc9) (st : List AV) (m : Mem) : ρ :=
  match (cdT M).lookup pc with
  | none => F
  | some (i, n, a, b, c, L) => stI F D Kc Kn i n a b c L d M pc l st m
end STP
