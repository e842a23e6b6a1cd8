/-! The law's calls 5 and 22: a boolean made of an int (printed by program: wip/gen/gen33.py) -/
def bl9 (x : Int32) : Int32 := if decide (x = 0) = true then 0 else 1
set_option maxRecDepth 100000 in
theorem op5_a (d : Nat) (i : Int32) (x5 x6 : Option AV) (I : Nat → Nat → Nat → Int32) (J : Nat → Nat → Nat → Int64) (R : Nat → Nat → Nat → Option (Option (Nat × Nat))) (K : Nat → Nat) (C S : Nat) (h1 : inR (i + 1) (K 98) = true) (h2 : inR (i + 2) (K 98) = true) (h3 : inR (i + 3) (K 98) = true) (h4 : inR (i + 4) (K 98) = true) : den (d + 1) 0 349 (lawL i x5 x6) [] (I, J, R, K, C, S) = ret9 (den (d + 1) 0) 0 382 385 (lawL i x5 x6) [] (cal d 67 [vr 11 0, vi (scG I i 1), vi (scG I i 2), vi (scG I i 3), vi (bl9 (scG I i 4))] (I, J, R, K, C, S)) := by
  refine ((bx_eq [] (d + 1) 0 26 349 _ _ _).symm.trans (show _ = (if inR (i + 1) (K 98) = true then (if inR (i + 2) (K 98) = true then (if inR (i + 3) (K 98) = true then (if inR (i + 4) (K 98) = true then (if decide (scG I i 4 = 0) = true then (ret9 (den (d + 1) 0) 0 382 385 (lawL i x5 x6) [] (cal d 67 [vr 11 0, vi (scG I i 1), vi (scG I i 2), vi (scG I i 3), vi 0] (I, J, R, K, C, S))) else (ret9 (den (d + 1) 0) 0 382 385 (lawL i x5 x6) [] (cal d 67 [vr 11 0, vi (scG I i 1), vi (scG I i 2), vi (scG I i 3), vi 1] (I, J, R, K, C, S)))) else none) else none) else none) else none) from rfl)).trans ?_
  rw [if_pos h1]
  rw [if_pos h2]
  rw [if_pos h3]
  rw [if_pos h4]
  unfold bl9
  split <;> rfl
set_option maxRecDepth 100000 in
theorem op5_b (d : Nat) (i : Int32) (x5 x6 : Option AV) (I : Nat → Nat → Nat → Int32) (J : Nat → Nat → Nat → Int64) (R : Nat → Nat → Nat → Option (Option (Nat × Nat))) (K : Nat → Nat) (C S : Nat) (a : Int32) (h1 : inR (i + 1) (K 98) = true) (h2 : inR (i + 2) (K 98) = true) (h3 : inR (i + 3) (K 98) = true) (h4 : inR (i + 4) (K 98) = true) : den (d + 1) 0 385 (lawL i x5 x6) [vi a] (I, J, R, K, C, S) = ret9 (den (d + 1) 0) 0 418 421 (lawL i x5 x6) [vi a] (cal d 220 [vr 14 0, vi (scG I i 1), vi (scG I i 2), vi (scG I i 3), vi (bl9 (scG I i 4))] (I, J, R, K, C, S)) := by
  refine ((bx_eq [] (d + 1) 0 26 385 _ _ _).symm.trans (show _ = (if inR (i + 1) (K 98) = true then (if inR (i + 2) (K 98) = true then (if inR (i + 3) (K 98) = true then (if inR (i + 4) (K 98) = true then (if decide (scG I i 4 = 0) = true then (ret9 (den (d + 1) 0) 0 418 421 (lawL i x5 x6) [vi a] (cal d 220 [vr 14 0, vi (scG I i 1), vi (scG I i 2), vi (scG I i 3), vi 0] (I, J, R, K, C, S))) else (ret9 (den (d + 1) 0) 0 418 421 (lawL i x5 x6) [vi a] (cal d 220 [vr 14 0, vi (scG I i 1), vi (scG I i 2), vi (scG I i 3), vi 1] (I, J, R, K, C, S)))) else none) else none) else none) else none) from rfl)).trans ?_
  rw [if_pos h1]
  rw [if_pos h2]
  rw [if_pos h3]
  rw [if_pos h4]
  unfold bl9
  split <;> rfl
set_option maxRecDepth 100000 in
theorem op5_c (d : Nat) (i a : Int32) (x5 x6 : Option AV) (m : Mem) : den d 0 421 (lawL i x5 x6) [vi a, vi a] m = den d 0 1172 (lawL i x5 x6) [] m := by
  refine ((bx_eq [1172, 424] d 0 2 421 _ _ _).symm.trans (show _ = (if decide (a = a) = true then den d 0 1172 (lawL i x5 x6) [] m else den d 0 424 (lawL i x5 x6) [] m) from rfl)).trans ?_
  rw [if_pos (decide_eq_true rfl)]
set_option maxRecDepth 100000 in
theorem op22_a (d : Nat) (i : Int32) (x5 x6 : Option AV) (I : Nat → Nat → Nat → Int32) (J : Nat → Nat → Nat → Int64) (R : Nat → Nat → Nat → Option (Option (Nat × Nat))) (K : Nat → Nat) (C S : Nat) (h1 : inR (i + 1) (K 98) = true) : den (d + 1) 0 862 (lawL i x5 x6) [] (I, J, R, K, C, S) = ret9 (den (d + 1) 0) 0 877 880 (lawL i x5 x6) [] (cal d 133 [vr 11 0, vi (bl9 (scG I i 1))] (I, J, R, K, C, S)) := by
  refine ((bx_eq [] (d + 1) 0 11 862 _ _ _).symm.trans (show _ = (if inR (i + 1) (K 98) = true then (if decide (scG I i 1 = 0) = true then (ret9 (den (d + 1) 0) 0 877 880 (lawL i x5 x6) [] (cal d 133 [vr 11 0, vi 0] (I, J, R, K, C, S))) else (ret9 (den (d + 1) 0) 0 877 880 (lawL i x5 x6) [] (cal d 133 [vr 11 0, vi 1] (I, J, R, K, C, S)))) else none) from rfl)).trans ?_
  rw [if_pos h1]
  unfold bl9
  split <;> rfl
set_option maxRecDepth 100000 in
theorem op22_b (d : Nat) (i : Int32) (x5 x6 : Option AV) (I : Nat → Nat → Nat → Int32) (J : Nat → Nat → Nat → Int64) (R : Nat → Nat → Nat → Option (Option (Nat × Nat))) (K : Nat → Nat) (C S : Nat) (a : Int32) (h1 : inR (i + 1) (K 98) = true) : den (d + 1) 0 880 (lawL i x5 x6) [vi a] (I, J, R, K, C, S) = ret9 (den (d + 1) 0) 0 895 898 (lawL i x5 x6) [vi a] (cal d 264 [vr 14 0, vi (bl9 (scG I i 1))] (I, J, R, K, C, S)) := by
  refine ((bx_eq [] (d + 1) 0 11 880 _ _ _).symm.trans (show _ = (if inR (i + 1) (K 98) = true then (if decide (scG I i 1 = 0) = true then (ret9 (den (d + 1) 0) 0 895 898 (lawL i x5 x6) [vi a] (cal d 264 [vr 14 0, vi 0] (I, J, R, K, C, S))) else (ret9 (den (d + 1) 0) 0 895 898 (lawL i x5 x6) [vi a] (cal d 264 [vr 14 0, vi 1] (I, J, R, K, C, S)))) else none) from rfl)).trans ?_
  rw [if_pos h1]
  unfold bl9
  split <;> rfl
set_option maxRecDepth 100000 in
theorem op22_c (d : Nat) (i a : Int32) (x5 x6 : Option AV) (m : Mem) : den d 0 898 (lawL i x5 x6) [vi a, vi a] m = den d 0 1172 (lawL i x5 x6) [] m := by
  refine ((bx_eq [1172, 901] d 0 2 898 _ _ _).symm.trans (show _ = (if decide (a = a) = true then den d 0 1172 (lawL i x5 x6) [] m else den d 0 901 (lawL i x5 x6) [] m) from rfl)).trans ?_
  rw [if_pos (decide_eq_true rfl)]
