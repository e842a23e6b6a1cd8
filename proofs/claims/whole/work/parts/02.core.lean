/-! The evaluator: a small machine of ours over typed planes, of which the machine's own runs are shown to be runs (part 05 on). -/
abbrev AV : Type := Int32 ⊕ (Int64 ⊕ Option (Option (Nat × Nat)))
abbrev vi (x : Int32) : AV := .inl x
abbrev vl (x : Int64) : AV := .inr (.inl x)
abbrev vr (k j : Nat) : AV := .inr (.inr (some (some (k, j))))
abbrev vn : AV := .inr (.inr (some none))
abbrev vu : AV := .inr (.inr none)
/-- ints, longs, references by (kind, number, place); how many of a kind; cells and slots made -/
abbrev Mem : Type := (Nat → Nat → Nat → Int32) × (Nat → Nat → Nat → Int64) × (Nat → Nat → Nat → Option (Option (Nat × Nat))) × (Nat → Nat) × Nat × Nat
abbrev Loc9 : Type := List (Option AV)
abbrev Res9 : Type := (Option AV ⊕ (Nat × AV)) × Mem
abbrev Ent9 : Type := Instr × Nat × Nat × Nat × Nat × List (Int32 × Nat)
abbrev Cd9 : Type := List (Nat × Ent9)
def up3 {α : Type} (f : Nat → Nat → Nat → α) (k j i : Nat) (v : α) : Nat → Nat → Nat → α := fun a b c => if a = k then (if b = j then (if c = i then v else f a b c) else f a b c) else f a b c
/-- all places of one thing anew -/
def upA {α : Type} (f : Nat → Nat → Nat → α) (k j : Nat) (v : Nat → α) : Nat → Nat → Nat → α := fun a b c => if a = k then (if b = j then v c else f a b c) else f a b c
def up1 (f : Nat → Nat) (k v : Nat) : Nat → Nat := fun a => if a = k then v else f a
abbrev mI (m : Mem) : Nat → Nat → Nat → Int32 := m.1
abbrev mJ (m : Mem) : Nat → Nat → Nat → Int64 := m.2.1
abbrev mR (m : Mem) : Nat → Nat → Nat → Option (Option (Nat × Nat)) := m.2.2.1
abbrev mK (m : Mem) : Nat → Nat := m.2.2.2.1
abbrev mC (m : Mem) : Nat := m.2.2.2.2.1
abbrev mS (m : Mem) : Nat := m.2.2.2.2.2
abbrev setI (m : Mem) (k j i : Nat) (v : Int32) : Mem := (up3 m.1 k j i v, m.2)
abbrev setJ (m : Mem) (k j i : Nat) (v : Int64) : Mem := (m.1, up3 m.2.1 k j i v, m.2.2)
abbrev setR (m : Mem) (k j i : Nat) (v : Option (Option (Nat × Nat))) : Mem := (m.1, m.2.1, up3 m.2.2.1 k j i v, m.2.2.2)
/-- a thing of kind k comes: n slots -/
def newM (m : Mem) (k n : Nat) : Mem := (upA m.1 k (m.2.2.2.1 k) (fun _ => 0), upA m.2.1 k (m.2.2.2.1 k) (fun _ => 0), upA m.2.2.1 k (m.2.2.2.1 k) (fun _ => some none), up1 m.2.2.2.1 k (m.2.2.2.1 k + 1), m.2.2.2.2.1 + 1, m.2.2.2.2.2 + n)
/-- a cell comes that nobody looks at -/
def newX (m : Mem) (n : Nat) : Mem := (m.1, m.2.1, m.2.2.1, m.2.2.2.1, m.2.2.2.2.1 + 1, m.2.2.2.2.2 + n)
def cat9 : AV → Nat
  | .inr (.inl _) => 2
  | _ => 1
def cats : List AV → Nat
  | [] => 0
  | v :: r => cat9 v + cats r
def ldL (l : Loc9) (k : Nat) : Option AV := match l with
  | [] => none
  | a :: r => match k with
    | 0 => a
    | k + 1 => ldL r k
def setL (l : Loc9) (k : Nat) (v : Option AV) : Loc9 := match l with
  | [] => []
  | a :: r => match k with
    | 0 => v :: r
    | k + 1 => a :: setL r k v
/-- the long ahead of place k is broken -/
def cutL (l : Loc9) (k : Nat) : Loc9 := match k with
  | 0 => l
  | k + 1 => match ldL l k with
    | some (.inr (.inl _)) => setL l k none
    | _ => l
def stL (l : Loc9) (k : Nat) (v : AV) : Loc9 := setL (cutL l k) k (some v)
def stL2 (l : Loc9) (k : Nat) (v : AV) : Loc9 := setL (setL (cutL l k) k (some v)) (k + 1) none
def entL (vs : List AV) (n : Nat) : Loc9 := match n with
  | 0 => []
  | n + 1 => match vs with
    | [] => none :: entL [] n
    | .inr (.inl x) :: r => match n with
      | 0 => [some (.inr (.inl x))]
      | n + 1 => some (.inr (.inl x)) :: none :: entL r n
    | v :: r => some v :: entL r n
def popN : Nat → List AV → List AV → Option (List AV × List AV)
  | 0, acc, st => some (acc, st)
  | n + 1, acc, st => match st with
    | [] => none
    | v :: r => popN n (v :: acc) r
def inR (i : Int32) (n : Nat) : Bool := decide (0 ≤ i) && decide (i.toNatClampNeg < n)
