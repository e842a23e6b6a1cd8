/-! The references behind the law's making (objects that are not made yet keep what they will have: nobody looks at them) -/
abbrev PI : Type := Nat → Nat → Nat → Int32
abbrev PJ : Type := Nat → Nat → Nat → Int64
abbrev OR : Type := Option (Option (Nat × Nat))
/-- the ground's book, the reader's draft, the reference's book, its fresh book, counts, cells, slots -/
abbrev TL : Type := Nat × Nat × OR × OR × (Nat → Nat) × Nat × Nat
def ro (k j : Nat) : OR := some (some (k, j))
def rz : OR := some none
def RLt (g dr : Nat) (mb mf : OR) (j : Nat) : List (List OR) := [
  [ro 5 0, ro 3 0],
  [ro 31 j, ro 21 (5 * j), ro 25 j],
  [ro 5 0, ro 3 0, ro 20 0, ro 29 0, ro 35 0],
  [ro 5 0, ro 28 3, ro 42 1],
  [ro 5 0, ro 3 0, ro 22 0, ro 22 1, ro 22 2, ro 41 0, ro 22 3, ro 26 0, ro 23 0],
  [ro 28 0, ro 28 1, ro 28 2, ro 21 3, ro 21 4, ro 34 0, if j = 0 then ro 1 g else rz],
  [ro 5 0, ro 3 0, ro 0 0, ro 21 6],
  [ro 8 0, ro 42 0, if j = 0 then ro 1 dr else rz, rz, rz, rz, rz, rz, ro 38 0, ro 21 1, ro 21 2, ro 38 1],
  [ro 37 0],
  [ro 5 0, ro 24 0, ro 24 1],
  [ro 5 0, ro 30 0, ro 30 1],
  [ro 37 0, ro 7 0, ro 5 0, ro 3 0, ro 0 0, ro 6 0, ro 4 0, ro 10 0, ro 9 0, ro 2 0],
  [rz, ro 42 (j + 2), ro 33 j, ro 21 (j + 12)],
  [],
  [rz, rz, rz, rz, if j = 0 then mb else rz, if j = 0 then mf else rz, ro 13 0, ro 37 1, rz, rz, rz, rz, rz, rz, rz, rz, ro 21 7, ro 21 8, ro 21 9, ro 38 2, rz, rz, rz, rz, rz, rz, rz, rz, rz, rz, ro 28 4, ro 28 5, ro 28 6, ro 28 7, ro 21 10, ro 21 11, ro 20 1, ro 39 0, ro 27 0, ro 34 1, ro 28 8, ro 39 1, rz, rz, rz, rz, rz, rz, ro 28 9, ro 28 10, rz, ro 32 0, ro 28 11, ro 28 12, ro 36 0]]
def RL (g dr : Nat) (mb mf : OR) (k j i : Nat) : OR := nth9 (nth9 (RLt g dr mb mf j) k []) i rz
abbrev MX (I : PI) (J : PJ) (T : TL) : Mem := (I, J, RL T.1 T.2.1 T.2.2.1 T.2.2.2.1, T.2.2.2.2.1, T.2.2.2.2.2.1, T.2.2.2.2.2.2)
/-- with such a book of the reference -/
abbrev TB (T : TL) (b : Nat) : TL := (T.1, T.2.1, ro 12 b, T.2.2.2)
/-- with no book of the reference -/
abbrev TN (T : TL) : TL := (T.1, T.2.1, rz, T.2.2.2)
/-- with such a fresh book of the reference -/
abbrev TF (T : TL) (b : Nat) : TL := (T.1, T.2.1, T.2.2.1, ro 12 b, T.2.2.2.2)
def ish9 (x y : Int32) : Int32 := x <<< (y &&& 31)
def isr9 (x y : Int32) : Int32 := x >>> (y &&& 31)
def ius9 (x y : Int32) : Int32 := (x.toUInt32 >>> (y.toUInt32 &&& Int32.toUInt32 31)).toInt32
def irm9 (x y : Int32) : Int32 := x - x / y * y
def lsh9 (x : Int64) (y : Int32) : Int64 := x <<< (y.toInt64 &&& 63)
def lus9 (x : Int64) (y : Int32) : Int64 := (x.toUInt64 >>> (y.toInt64.toUInt64 &&& Int64.toUInt64 63)).toInt64
def min9 (x y : Int32) : Int32 := if y < x then y else x
def max9 (x y : Int32) : Int32 := if x < y then y else x
def abs9 (x : Int32) : Int32 := if 0 ≤ x then x else 0 - x
def i2b9 (x : Int32) : Int32 := x.toInt8.toInt32
def i2c9 (x : Int32) : Int32 := (x.toUInt32 % 65536).toInt32
theorem ite_dec {α : Type} {p : Prop} [Decidable p] (a b : α) : (if decide p = true then a else b) = if p then a else b := by
  by_cases h : p <;> simp [h]
