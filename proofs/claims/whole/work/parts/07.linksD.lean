def cwP : List (List (Nat × Nat)) := [[(2, 35), (2, 37)], [(1, 60), (1, 62), (1, 64), (1, 66)], [(2, 205), (2, 207), (2, 209), (2, 211), (2, 213), (2, 215)], [(2, 18), (2, 20), (2, 22), (2, 24)], [(2, 103), (2, 105), (2, 107), (2, 109), (2, 111), (2, 113), (2, 115), (2, 117), (2, 119), (2, 121), (2, 123), (2, 125), (2, 127), (2, 129), (2, 131), (2, 133)], [(1, 207), (1, 209), (1, 211), (1, 213), (1, 215), (1, 217), (1, 219), (1, 221), (1, 223), (1, 225), (1, 227), (1, 229), (1, 231), (1, 233), (1, 235), (1, 237)], [(2, 57), (2, 59), (2, 61), (2, 63), (2, 65), (2, 67), (2, 69), (2, 71), (2, 73), (2, 75), (2, 77)], [(1, 121), (1, 123), (1, 125), (1, 127), (1, 129), (1, 131), (1, 133), (1, 135), (1, 137), (1, 139), (1, 141), (1, 143), (1, 145)], [(1, 89), (1, 91), (1, 93), (1, 95), (1, 97), (1, 99), (1, 101)], [(2, 175), (2, 177), (2, 179), (2, 181), (2, 183), (2, 185), (2, 187), (2, 189)], [(2, 148), (2, 150), (2, 152), (2, 154), (2, 156)], [(3, 8), (3, 10), (3, 12), (3, 14), (3, 16), (3, 18), (3, 20), (3, 22), (3, 24), (3, 26), (3, 28), (3, 30), (3, 32), (3, 34), (3, 36), (3, 38)], [(7, 95), (7, 97), (7, 99), (7, 101)], [(6, 114), (6, 115), (6, 116), (6, 117), (6, 118), (6, 133), (6, 135), (6, 137)], [(6, 194), (6, 196), (6, 198), (6, 200), (6, 202), (6, 204), (6, 206), (6, 208), (6, 210), (6, 212), (6, 214), (6, 216), (6, 218), (6, 220), (6, 222), (6, 224), (6, 226), (6, 228), (6, 230), (6, 232), (6, 234), (6, 236), (6, 238), (7, 0), (7, 2), (7, 4), (7, 6), (7, 8), (7, 10), (7, 12), (7, 14), (7, 16), (7, 18), (7, 20), (7, 22), (7, 24), (7, 26), (7, 28), (7, 30), (7, 32), (7, 34), (7, 36), (7, 38), (7, 40), (7, 42), (7, 44), (7, 46), (7, 48), (7, 50), (7, 52), (7, 54), (7, 56), (7, 58), (7, 60), (7, 62)]]
def cuP : List ((Nat × Nat) × (Nat × Nat)) := [((2, 28), (1, 7)), ((1, 44), (1, 3)), ((2, 193), (1, 12)), ((2, 1), (1, 6)), ((2, 81), (1, 9)), ((1, 149), (1, 5)), ((2, 41), (1, 8)), ((1, 38), (1, 2)), ((1, 73), (1, 4)), ((2, 160), (1, 11)), ((2, 137), (1, 10)), ((1, 30), (1, 1)), ((7, 82), (1, 20)), ((6, 111), (1, 18)), ((6, 105), (1, 14))]
def uB (a : Nat) : Bool := decide ((nth9 cwP a []).map atP = (u_ws (clT a).1 (clT a).2.1 (clT a).2.2).map some) && (u_ws (clT a).1 (clT a).2.1 (clT a).2.2).all goodWord && decide (atP (nth9 cuP a ((0, 0), (0, 0))).1 = some (.instantiable (clT a).1 (clT a).2.2)) && decide (atP (nth9 cuP a ((0, 0), (0, 0))).2 = some (.initialized (clT a).1))
theorem cls_0 : uB 0 = true := by decide +kernel
theorem cln_0 : (∀ a, a < (clT 0).2.2 → ∀ b, b < (clT 0).2.2 → a ≠ b → ((clT 0).2.1 a).2.1 ≠ ((clT 0).2.1 b).2.1) ∧ ∀ k, k < (clT 0).2.2 → parseFieldDescriptor ((clT 0).2.1 k).2.2.1 = some (tyT 0 k) := by decide +kernel
theorem cls_1 : uB 1 = true := by decide +kernel
theorem cln_1 : (∀ a, a < (clT 1).2.2 → ∀ b, b < (clT 1).2.2 → a ≠ b → ((clT 1).2.1 a).2.1 ≠ ((clT 1).2.1 b).2.1) ∧ ∀ k, k < (clT 1).2.2 → parseFieldDescriptor ((clT 1).2.1 k).2.2.1 = some (tyT 1 k) := by decide +kernel
theorem cls_2 : uB 2 = true := by decide +kernel
theorem cln_2 : (∀ a, a < (clT 2).2.2 → ∀ b, b < (clT 2).2.2 → a ≠ b → ((clT 2).2.1 a).2.1 ≠ ((clT 2).2.1 b).2.1) ∧ ∀ k, k < (clT 2).2.2 → parseFieldDescriptor ((clT 2).2.1 k).2.2.1 = some (tyT 2 k) := by decide +kernel
theorem cls_3 : uB 3 = true := by decide +kernel
theorem cln_3 : (∀ a, a < (clT 3).2.2 → ∀ b, b < (clT 3).2.2 → a ≠ b → ((clT 3).2.1 a).2.1 ≠ ((clT 3).2.1 b).2.1) ∧ ∀ k, k < (clT 3).2.2 → parseFieldDescriptor ((clT 3).2.1 k).2.2.1 = some (tyT 3 k) := by decide +kernel
theorem cls_4 : uB 4 = true := by decide +kernel
theorem cln_4 : (∀ a, a < (clT 4).2.2 → ∀ b, b < (clT 4).2.2 → a ≠ b → ((clT 4).2.1 a).2.1 ≠ ((clT 4).2.1 b).2.1) ∧ ∀ k, k < (clT 4).2.2 → parseFieldDescriptor ((clT 4).2.1 k).2.2.1 = some (tyT 4 k) := by decide +kernel
theorem cls_5 : uB 5 = true := by decide +kernel
theorem cln_5 : (∀ a, a < (clT 5).2.2 → ∀ b, b < (clT 5).2.2 → a ≠ b → ((clT 5).2.1 a).2.1 ≠ ((clT 5).2.1 b).2.1) ∧ ∀ k, k < (clT 5).2.2 → parseFieldDescriptor ((clT 5).2.1 k).2.2.1 = some (tyT 5 k) := by decide +kernel
theorem cls_6 : uB 6 = true := by decide +kernel
theorem cln_6 : (∀ a, a < (clT 6).2.2 → ∀ b, b < (clT 6).2.2 → a ≠ b → ((clT 6).2.1 a).2.1 ≠ ((clT 6).2.1 b).2.1) ∧ ∀ k, k < (clT 6).2.2 → parseFieldDescriptor ((clT 6).2.1 k).2.2.1 = some (tyT 6 k) := by decide +kernel
theorem cls_7 : uB 7 = true := by decide +kernel
theorem cln_7 : (∀ a, a < (clT 7).2.2 → ∀ b, b < (clT 7).2.2 → a ≠ b → ((clT 7).2.1 a).2.1 ≠ ((clT 7).2.1 b).2.1) ∧ ∀ k, k < (clT 7).2.2 → parseFieldDescriptor ((clT 7).2.1 k).2.2.1 = some (tyT 7 k) := by decide +kernel
theorem cls_8 : uB 8 = true := by decide +kernel
theorem cln_8 : (∀ a, a < (clT 8).2.2 → ∀ b, b < (clT 8).2.2 → a ≠ b → ((clT 8).2.1 a).2.1 ≠ ((clT 8).2.1 b).2.1) ∧ ∀ k, k < (clT 8).2.2 → parseFieldDescriptor ((clT 8).2.1 k).2.2.1 = some (tyT 8 k) := by decide +kernel
theorem cls_9 : uB 9 = true := by decide +kernel
theorem cln_9 : (∀ a, a < (clT 9).2.2 → ∀ b, b < (clT 9).2.2 → a ≠ b → ((clT 9).2.1 a).2.1 ≠ ((clT 9).2.1 b).2.1) ∧ ∀ k, k < (clT 9).2.2 → parseFieldDescriptor ((clT 9).2.1 k).2.2.1 = some (tyT 9 k) := by decide +kernel
theorem cls_10 : uB 10 = true := by decide +kernel
theorem cln_10 : (∀ a, a < (clT 10).2.2 → ∀ b, b < (clT 10).2.2 → a ≠ b → ((clT 10).2.1 a).2.1 ≠ ((clT 10).2.1 b).2.1) ∧ ∀ k, k < (clT 10).2.2 → parseFieldDescriptor ((clT 10).2.1 k).2.2.1 = some (tyT 10 k) := by decide +kernel
theorem cls_11 : uB 11 = true := by decide +kernel
theorem cln_11 : (∀ a, a < (clT 11).2.2 → ∀ b, b < (clT 11).2.2 → a ≠ b → ((clT 11).2.1 a).2.1 ≠ ((clT 11).2.1 b).2.1) ∧ ∀ k, k < (clT 11).2.2 → parseFieldDescriptor ((clT 11).2.1 k).2.2.1 = some (tyT 11 k) := by decide +kernel
theorem cls_12 : uB 12 = true := by decide +kernel
theorem cln_12 : (∀ a, a < (clT 12).2.2 → ∀ b, b < (clT 12).2.2 → a ≠ b → ((clT 12).2.1 a).2.1 ≠ ((clT 12).2.1 b).2.1) ∧ ∀ k, k < (clT 12).2.2 → parseFieldDescriptor ((clT 12).2.1 k).2.2.1 = some (tyT 12 k) := by decide +kernel
theorem cls_13 : uB 13 = true := by decide +kernel
theorem cln_13 : (∀ a, a < (clT 13).2.2 → ∀ b, b < (clT 13).2.2 → a ≠ b → ((clT 13).2.1 a).2.1 ≠ ((clT 13).2.1 b).2.1) ∧ ∀ k, k < (clT 13).2.2 → parseFieldDescriptor ((clT 13).2.1 k).2.2.1 = some (tyT 13 k) := by decide +kernel
theorem cls_14 : uB 14 = true := by decide +kernel
theorem cln_14 : (∀ a, a < (clT 14).2.2 → ∀ b, b < (clT 14).2.2 → a ≠ b → ((clT 14).2.1 a).2.1 ≠ ((clT 14).2.1 b).2.1) ∧ ∀ k, k < (clT 14).2.2 → parseFieldDescriptor ((clT 14).2.1 k).2.2.1 = some (tyT 14 k) := by decide +kernel
