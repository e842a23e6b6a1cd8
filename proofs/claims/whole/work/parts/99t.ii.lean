/-! Small integers as ints -/
abbrev ii (z : Int) : Int32 := Int32.ofInt z
theorem ii_add (a b : Int) : ii a + ii b = ii (a + b) := (Int32.ofInt_add a b).symm
theorem ii_mul (a b : Int) : ii a * ii b = ii (a * b) := (Int32.ofInt_mul a b).symm
theorem ii_sub (a b : Int) : ii a - ii b = ii (a - b) := (Int32.ofInt_sub a b).symm
theorem ii_nat (n : Nat) : ii (n : Int) = nn n := rfl
theorem ii_toInt {z : Int} (h1 : -2147483648 ≤ z) (h2 : z < 2147483648) : (ii z).toInt = z := Int32.toInt_ofInt_of_le h1 h2
theorem ii_lt {a b : Int} (h1 : -2147483648 ≤ a) (h2 : a < 2147483648) (h3 : -2147483648 ≤ b) (h4 : b < 2147483648) : (ii a < ii b) ↔ a < b := by
  rw [Int32.lt_iff_toInt_lt, ii_toInt h1 h2, ii_toInt h3 h4]
theorem ii_le {a b : Int} (h1 : -2147483648 ≤ a) (h2 : a < 2147483648) (h3 : -2147483648 ≤ b) (h4 : b < 2147483648) : (ii a ≤ ii b) ↔ a ≤ b := by
  rw [Int32.le_iff_toInt_le, ii_toInt h1 h2, ii_toInt h3 h4]
theorem ii_inj {a b : Int} (h1 : -2147483648 ≤ a) (h2 : a < 2147483648) (h3 : -2147483648 ≤ b) (h4 : b < 2147483648) : (ii a = ii b) ↔ a = b := by
  constructor
  · intro h
    have := congrArg Int32.toInt h
    rwa [ii_toInt h1 h2, ii_toInt h3 h4] at this
  · intro h; rw [h]
theorem ii_nn {z : Int} (h : 0 ≤ z) : ii z = nn z.toNat := by
  rw [← ii_nat, Int.toNat_of_nonneg h]
