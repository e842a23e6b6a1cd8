/-! The law's switch and its calls (printed by program: wip/gen/gen32.py) -/
def lawSw : List (Int32 × Nat) := [(0, 188), (1, 261), (2, 286), (3, 299), (4, 312), (5, 349), (6, 426), (7, 463), (8, 500), (9, 537), (10, 574), (11, 611), (12, 648), (13, 673), (14, 698), (15, 723), (16, 736), (17, 749), (18, 786), (19, 811), (20, 824), (21, 849), (22, 862), (23, 903), (24, 928), (25, 996), (26, 1021), (27, 1070), (28, 1083), (29, 1108), (30, 1121), (31, 1134), (32, 1159)]
def scG (I : Nat → Nat → Nat → Int32) (i : Int32) (k : Int32) : Int32 := I 99 0 (i + k).toNatClampNeg
set_option maxRecDepth 100000 in
theorem law_33 (d : Nat) (i : Int32) (x5 x6 : Option AV) (I : Nat → Nat → Nat → Int32) (J : Nat → Nat → Nat → Int64) (R : Nat → Nat → Nat → Option (Option (Nat × Nat))) (K : Nat → Nat) (C S : Nat) (hi : inR i (K 98) = true) : den d 0 33 (lawL i x5 x6) [] (I, J, R, K, C, S) = swK (I 99 0 i.toNatClampNeg &&& 63) 1172 (fun t => den d 0 t (lawL i x5 x6) [] (I, J, R, K, C, S)) lawSw := by
  refine ((bx_eq [188, 261, 286, 299, 312, 349, 426, 463, 500, 537, 574, 611, 648, 673, 698, 723, 736, 749, 786, 811, 824, 849, 862, 903, 928, 996, 1021, 1070, 1083, 1108, 1121, 1134, 1159, 1172] d 0 8 33 _ [] _).symm.trans (show _ = (if inR i (K 98) = true then swK (I 99 0 i.toNatClampNeg &&& 63) 1172 (fun t => den d 0 t (lawL i x5 x6) [] (I, J, R, K, C, S)) lawSw else none) from rfl)).trans ?_
  rw [if_pos hi]
set_option maxRecDepth 100000 in
theorem op0_a (d : Nat) (i : Int32) (x5 x6 : Option AV) (I : Nat → Nat → Nat → Int32) (J : Nat → Nat → Nat → Int64) (R : Nat → Nat → Nat → Option (Option (Nat × Nat))) (K : Nat → Nat) (C S : Nat) (h1 : inR (i + 1) (K 98) = true) (h2 : inR (i + 2) (K 98) = true) (h3 : inR (i + 3) (K 98) = true) (h4 : inR (i + 4) (K 98) = true) (h5 : inR (i + 5) (K 98) = true) : den (d + 1) 0 188 (lawL i x5 x6) [] (I, J, R, K, C, S) = ret9 (den (d + 1) 0) 0 219 222 (lawL i x5 x6) [] (cal d 17 [vr 11 0, vi (scG I i 1), vi (scG I i 2), vi (scG I i 3), vi (scG I i 4), vi (scG I i 5)] (I, J, R, K, C, S)) := by
  refine ((bx_eq [] (d + 1) 0 28 188 _ _ _).symm.trans (show _ = (if inR (i + 1) (K 98) = true then (if inR (i + 2) (K 98) = true then (if inR (i + 3) (K 98) = true then (if inR (i + 4) (K 98) = true then (if inR (i + 5) (K 98) = true then (ret9 (den (d + 1) 0) 0 219 222 (lawL i x5 x6) [] (cal d 17 [vr 11 0, vi (scG I i 1), vi (scG I i 2), vi (scG I i 3), vi (scG I i 4), vi (scG I i 5)] (I, J, R, K, C, S))) else none) else none) else none) else none) else none) from rfl)).trans ?_
  rw [if_pos h1]
  rw [if_pos h2]
  rw [if_pos h3]
  rw [if_pos h4]
  rw [if_pos h5]
set_option maxRecDepth 100000 in
theorem op0_b (d : Nat) (i : Int32) (x5 x6 : Option AV) (I : Nat → Nat → Nat → Int32) (J : Nat → Nat → Nat → Int64) (R : Nat → Nat → Nat → Option (Option (Nat × Nat))) (K : Nat → Nat) (C S : Nat) (a : Int32) (h1 : inR (i + 1) (K 98) = true) (h2 : inR (i + 2) (K 98) = true) (h3 : inR (i + 3) (K 98) = true) (h4 : inR (i + 4) (K 98) = true) (h5 : inR (i + 5) (K 98) = true) : den (d + 1) 0 222 (lawL i x5 x6) [vi a] (I, J, R, K, C, S) = ret9 (den (d + 1) 0) 0 253 256 (lawL i x5 x6) [vi a] (cal d 185 [vr 14 0, vi (scG I i 1), vi (scG I i 2), vi (scG I i 3), vi (scG I i 4), vi (scG I i 5)] (I, J, R, K, C, S)) := by
  refine ((bx_eq [] (d + 1) 0 28 222 _ _ _).symm.trans (show _ = (if inR (i + 1) (K 98) = true then (if inR (i + 2) (K 98) = true then (if inR (i + 3) (K 98) = true then (if inR (i + 4) (K 98) = true then (if inR (i + 5) (K 98) = true then (ret9 (den (d + 1) 0) 0 253 256 (lawL i x5 x6) [vi a] (cal d 185 [vr 14 0, vi (scG I i 1), vi (scG I i 2), vi (scG I i 3), vi (scG I i 4), vi (scG I i 5)] (I, J, R, K, C, S))) else none) else none) else none) else none) else none) from rfl)).trans ?_
  rw [if_pos h1]
  rw [if_pos h2]
  rw [if_pos h3]
  rw [if_pos h4]
  rw [if_pos h5]
set_option maxRecDepth 100000 in
theorem op0_c (d : Nat) (i a : Int32) (x5 x6 : Option AV) (m : Mem) : den d 0 256 (lawL i x5 x6) [vi a, vi a] m = den d 0 1172 (lawL i x5 x6) [] m := by
  refine ((bx_eq [1172, 259] d 0 2 256 _ _ _).symm.trans (show _ = (if decide (a = a) = true then den d 0 1172 (lawL i x5 x6) [] m else den d 0 259 (lawL i x5 x6) [] m) from rfl)).trans ?_
  rw [if_pos (decide_eq_true rfl)]
set_option maxRecDepth 100000 in
theorem op1_a (d : Nat) (i : Int32) (x5 x6 : Option AV) (I : Nat → Nat → Nat → Int32) (J : Nat → Nat → Nat → Int64) (R : Nat → Nat → Nat → Option (Option (Nat × Nat))) (K : Nat → Nat) (C S : Nat) (h1 : inR (i + 1) (K 98) = true) : den (d + 1) 0 261 (lawL i x5 x6) [] (I, J, R, K, C, S) = ret9 (den (d + 1) 0) 0 268 271 (lawL i x5 x6) [] (cal d 19 [vr 11 0, vi (scG I i 1)] (I, J, R, K, C, S)) := by
  refine ((bx_eq [] (d + 1) 0 8 261 _ _ _).symm.trans (show _ = (if inR (i + 1) (K 98) = true then (ret9 (den (d + 1) 0) 0 268 271 (lawL i x5 x6) [] (cal d 19 [vr 11 0, vi (scG I i 1)] (I, J, R, K, C, S))) else none) from rfl)).trans ?_
  rw [if_pos h1]
set_option maxRecDepth 100000 in
theorem op1_b (d : Nat) (i : Int32) (x5 x6 : Option AV) (I : Nat → Nat → Nat → Int32) (J : Nat → Nat → Nat → Int64) (R : Nat → Nat → Nat → Option (Option (Nat × Nat))) (K : Nat → Nat) (C S : Nat) (a : Int32) (h1 : inR (i + 1) (K 98) = true) : den (d + 1) 0 271 (lawL i x5 x6) [vi a] (I, J, R, K, C, S) = ret9 (den (d + 1) 0) 0 278 281 (lawL i x5 x6) [vi a] (cal d 186 [vr 14 0, vi (scG I i 1)] (I, J, R, K, C, S)) := by
  refine ((bx_eq [] (d + 1) 0 8 271 _ _ _).symm.trans (show _ = (if inR (i + 1) (K 98) = true then (ret9 (den (d + 1) 0) 0 278 281 (lawL i x5 x6) [vi a] (cal d 186 [vr 14 0, vi (scG I i 1)] (I, J, R, K, C, S))) else none) from rfl)).trans ?_
  rw [if_pos h1]
set_option maxRecDepth 100000 in
theorem op1_c (d : Nat) (i a : Int32) (x5 x6 : Option AV) (m : Mem) : den d 0 281 (lawL i x5 x6) [vi a, vi a] m = den d 0 1172 (lawL i x5 x6) [] m := by
  refine ((bx_eq [1172, 284] d 0 2 281 _ _ _).symm.trans (show _ = (if decide (a = a) = true then den d 0 1172 (lawL i x5 x6) [] m else den d 0 284 (lawL i x5 x6) [] m) from rfl)).trans ?_
  rw [if_pos (decide_eq_true rfl)]
set_option maxRecDepth 100000 in
theorem op2_a (d : Nat) (i : Int32) (x5 x6 : Option AV) (I : Nat → Nat → Nat → Int32) (J : Nat → Nat → Nat → Int64) (R : Nat → Nat → Nat → Option (Option (Nat × Nat))) (K : Nat → Nat) (C S : Nat) : den (d + 1) 0 286 (lawL i x5 x6) [] (I, J, R, K, C, S) = ret9 (den (d + 1) 0) 0 287 290 (lawL i x5 x6) [] (cal d 52 [vr 11 0] (I, J, R, K, C, S)) := by
  refine ((bx_eq [] (d + 1) 0 3 286 _ _ _).symm.trans (show _ = (ret9 (den (d + 1) 0) 0 287 290 (lawL i x5 x6) [] (cal d 52 [vr 11 0] (I, J, R, K, C, S))) from rfl)).trans ?_
  rfl
set_option maxRecDepth 100000 in
theorem op2_b (d : Nat) (i : Int32) (x5 x6 : Option AV) (I : Nat → Nat → Nat → Int32) (J : Nat → Nat → Nat → Int64) (R : Nat → Nat → Nat → Option (Option (Nat × Nat))) (K : Nat → Nat) (C S : Nat) (a : Int32) : den (d + 1) 0 290 (lawL i x5 x6) [vi a] (I, J, R, K, C, S) = ret9 (den (d + 1) 0) 0 291 294 (lawL i x5 x6) [vi a] (cal d 216 [vr 14 0] (I, J, R, K, C, S)) := by
  refine ((bx_eq [] (d + 1) 0 3 290 _ _ _).symm.trans (show _ = (ret9 (den (d + 1) 0) 0 291 294 (lawL i x5 x6) [vi a] (cal d 216 [vr 14 0] (I, J, R, K, C, S))) from rfl)).trans ?_
  rfl
set_option maxRecDepth 100000 in
theorem op2_c (d : Nat) (i a : Int32) (x5 x6 : Option AV) (m : Mem) : den d 0 294 (lawL i x5 x6) [vi a, vi a] m = den d 0 1172 (lawL i x5 x6) [] m := by
  refine ((bx_eq [1172, 297] d 0 2 294 _ _ _).symm.trans (show _ = (if decide (a = a) = true then den d 0 1172 (lawL i x5 x6) [] m else den d 0 297 (lawL i x5 x6) [] m) from rfl)).trans ?_
  rw [if_pos (decide_eq_true rfl)]
set_option maxRecDepth 100000 in
theorem op3_a (d : Nat) (i : Int32) (x5 x6 : Option AV) (I : Nat → Nat → Nat → Int32) (J : Nat → Nat → Nat → Int64) (R : Nat → Nat → Nat → Option (Option (Nat × Nat))) (K : Nat → Nat) (C S : Nat) : den (d + 1) 0 299 (lawL i x5 x6) [] (I, J, R, K, C, S) = ret9 (den (d + 1) 0) 0 300 303 (lawL i x5 x6) [] (cal d 53 [vr 11 0] (I, J, R, K, C, S)) := by
  refine ((bx_eq [] (d + 1) 0 3 299 _ _ _).symm.trans (show _ = (ret9 (den (d + 1) 0) 0 300 303 (lawL i x5 x6) [] (cal d 53 [vr 11 0] (I, J, R, K, C, S))) from rfl)).trans ?_
  rfl
set_option maxRecDepth 100000 in
theorem op3_b (d : Nat) (i : Int32) (x5 x6 : Option AV) (I : Nat → Nat → Nat → Int32) (J : Nat → Nat → Nat → Int64) (R : Nat → Nat → Nat → Option (Option (Nat × Nat))) (K : Nat → Nat) (C S : Nat) (a : Int32) : den (d + 1) 0 303 (lawL i x5 x6) [vi a] (I, J, R, K, C, S) = ret9 (den (d + 1) 0) 0 304 307 (lawL i x5 x6) [vi a] (cal d 217 [vr 14 0] (I, J, R, K, C, S)) := by
  refine ((bx_eq [] (d + 1) 0 3 303 _ _ _).symm.trans (show _ = (ret9 (den (d + 1) 0) 0 304 307 (lawL i x5 x6) [vi a] (cal d 217 [vr 14 0] (I, J, R, K, C, S))) from rfl)).trans ?_
  rfl
set_option maxRecDepth 100000 in
theorem op3_c (d : Nat) (i a : Int32) (x5 x6 : Option AV) (m : Mem) : den d 0 307 (lawL i x5 x6) [vi a, vi a] m = den d 0 1172 (lawL i x5 x6) [] m := by
  refine ((bx_eq [1172, 310] d 0 2 307 _ _ _).symm.trans (show _ = (if decide (a = a) = true then den d 0 1172 (lawL i x5 x6) [] m else den d 0 310 (lawL i x5 x6) [] m) from rfl)).trans ?_
  rw [if_pos (decide_eq_true rfl)]
set_option maxRecDepth 100000 in
theorem op4_a (d : Nat) (i : Int32) (x5 x6 : Option AV) (I : Nat → Nat → Nat → Int32) (J : Nat → Nat → Nat → Int64) (R : Nat → Nat → Nat → Option (Option (Nat × Nat))) (K : Nat → Nat) (C S : Nat) (h1 : inR (i + 1) (K 98) = true) (h2 : inR (i + 2) (K 98) = true) : den (d + 1) 0 312 (lawL i x5 x6) [] (I, J, R, K, C, S) = ret9 (den (d + 1) 0) 0 325 328 (lawL i x5 x6) [] (cal d 54 [vr 11 0, vi (scG I i 1), vi (scG I i 2)] (I, J, R, K, C, S)) := by
  refine ((bx_eq [] (d + 1) 0 13 312 _ _ _).symm.trans (show _ = (if inR (i + 1) (K 98) = true then (if inR (i + 2) (K 98) = true then (ret9 (den (d + 1) 0) 0 325 328 (lawL i x5 x6) [] (cal d 54 [vr 11 0, vi (scG I i 1), vi (scG I i 2)] (I, J, R, K, C, S))) else none) else none) from rfl)).trans ?_
  rw [if_pos h1]
  rw [if_pos h2]
set_option maxRecDepth 100000 in
theorem op4_b (d : Nat) (i : Int32) (x5 x6 : Option AV) (I : Nat → Nat → Nat → Int32) (J : Nat → Nat → Nat → Int64) (R : Nat → Nat → Nat → Option (Option (Nat × Nat))) (K : Nat → Nat) (C S : Nat) (a : Int32) (h1 : inR (i + 1) (K 98) = true) (h2 : inR (i + 2) (K 98) = true) : den (d + 1) 0 328 (lawL i x5 x6) [vi a] (I, J, R, K, C, S) = ret9 (den (d + 1) 0) 0 341 344 (lawL i x5 x6) [vi a] (cal d 218 [vr 14 0, vi (scG I i 1), vi (scG I i 2)] (I, J, R, K, C, S)) := by
  refine ((bx_eq [] (d + 1) 0 13 328 _ _ _).symm.trans (show _ = (if inR (i + 1) (K 98) = true then (if inR (i + 2) (K 98) = true then (ret9 (den (d + 1) 0) 0 341 344 (lawL i x5 x6) [vi a] (cal d 218 [vr 14 0, vi (scG I i 1), vi (scG I i 2)] (I, J, R, K, C, S))) else none) else none) from rfl)).trans ?_
  rw [if_pos h1]
  rw [if_pos h2]
set_option maxRecDepth 100000 in
theorem op4_c (d : Nat) (i a : Int32) (x5 x6 : Option AV) (m : Mem) : den d 0 344 (lawL i x5 x6) [vi a, vi a] m = den d 0 1172 (lawL i x5 x6) [] m := by
  refine ((bx_eq [1172, 347] d 0 2 344 _ _ _).symm.trans (show _ = (if decide (a = a) = true then den d 0 1172 (lawL i x5 x6) [] m else den d 0 347 (lawL i x5 x6) [] m) from rfl)).trans ?_
  rw [if_pos (decide_eq_true rfl)]
set_option maxRecDepth 100000 in
theorem op6_a (d : Nat) (i : Int32) (x5 x6 : Option AV) (I : Nat → Nat → Nat → Int32) (J : Nat → Nat → Nat → Int64) (R : Nat → Nat → Nat → Option (Option (Nat × Nat))) (K : Nat → Nat) (C S : Nat) (h1 : inR (i + 1) (K 98) = true) (h2 : inR (i + 2) (K 98) = true) : den (d + 1) 0 426 (lawL i x5 x6) [] (I, J, R, K, C, S) = ret9 (den (d + 1) 0) 0 439 442 (lawL i x5 x6) [] (cal d 72 [vr 11 0, vi (scG I i 1), vi (scG I i 2)] (I, J, R, K, C, S)) := by
  refine ((bx_eq [] (d + 1) 0 13 426 _ _ _).symm.trans (show _ = (if inR (i + 1) (K 98) = true then (if inR (i + 2) (K 98) = true then (ret9 (den (d + 1) 0) 0 439 442 (lawL i x5 x6) [] (cal d 72 [vr 11 0, vi (scG I i 1), vi (scG I i 2)] (I, J, R, K, C, S))) else none) else none) from rfl)).trans ?_
  rw [if_pos h1]
  rw [if_pos h2]
set_option maxRecDepth 100000 in
theorem op6_b (d : Nat) (i : Int32) (x5 x6 : Option AV) (I : Nat → Nat → Nat → Int32) (J : Nat → Nat → Nat → Int64) (R : Nat → Nat → Nat → Option (Option (Nat × Nat))) (K : Nat → Nat) (C S : Nat) (a : Int32) (h1 : inR (i + 1) (K 98) = true) (h2 : inR (i + 2) (K 98) = true) : den (d + 1) 0 442 (lawL i x5 x6) [vi a] (I, J, R, K, C, S) = ret9 (den (d + 1) 0) 0 455 458 (lawL i x5 x6) [vi a] (cal d 224 [vr 14 0, vi (scG I i 1), vi (scG I i 2)] (I, J, R, K, C, S)) := by
  refine ((bx_eq [] (d + 1) 0 13 442 _ _ _).symm.trans (show _ = (if inR (i + 1) (K 98) = true then (if inR (i + 2) (K 98) = true then (ret9 (den (d + 1) 0) 0 455 458 (lawL i x5 x6) [vi a] (cal d 224 [vr 14 0, vi (scG I i 1), vi (scG I i 2)] (I, J, R, K, C, S))) else none) else none) from rfl)).trans ?_
  rw [if_pos h1]
  rw [if_pos h2]
set_option maxRecDepth 100000 in
theorem op6_c (d : Nat) (i a : Int32) (x5 x6 : Option AV) (m : Mem) : den d 0 458 (lawL i x5 x6) [vi a, vi a] m = den d 0 1172 (lawL i x5 x6) [] m := by
  refine ((bx_eq [1172, 461] d 0 2 458 _ _ _).symm.trans (show _ = (if decide (a = a) = true then den d 0 1172 (lawL i x5 x6) [] m else den d 0 461 (lawL i x5 x6) [] m) from rfl)).trans ?_
  rw [if_pos (decide_eq_true rfl)]
set_option maxRecDepth 100000 in
theorem op7_a (d : Nat) (i : Int32) (x5 x6 : Option AV) (I : Nat → Nat → Nat → Int32) (J : Nat → Nat → Nat → Int64) (R : Nat → Nat → Nat → Option (Option (Nat × Nat))) (K : Nat → Nat) (C S : Nat) (h1 : inR (i + 1) (K 98) = true) (h2 : inR (i + 2) (K 98) = true) : den (d + 1) 0 463 (lawL i x5 x6) [] (I, J, R, K, C, S) = ret9 (den (d + 1) 0) 0 476 479 (lawL i x5 x6) [] (cal d 76 [vr 11 0, vi (scG I i 1), vi (scG I i 2)] (I, J, R, K, C, S)) := by
  refine ((bx_eq [] (d + 1) 0 13 463 _ _ _).symm.trans (show _ = (if inR (i + 1) (K 98) = true then (if inR (i + 2) (K 98) = true then (ret9 (den (d + 1) 0) 0 476 479 (lawL i x5 x6) [] (cal d 76 [vr 11 0, vi (scG I i 1), vi (scG I i 2)] (I, J, R, K, C, S))) else none) else none) from rfl)).trans ?_
  rw [if_pos h1]
  rw [if_pos h2]
set_option maxRecDepth 100000 in
theorem op7_b (d : Nat) (i : Int32) (x5 x6 : Option AV) (I : Nat → Nat → Nat → Int32) (J : Nat → Nat → Nat → Int64) (R : Nat → Nat → Nat → Option (Option (Nat × Nat))) (K : Nat → Nat) (C S : Nat) (a : Int32) (h1 : inR (i + 1) (K 98) = true) (h2 : inR (i + 2) (K 98) = true) : den (d + 1) 0 479 (lawL i x5 x6) [vi a] (I, J, R, K, C, S) = ret9 (den (d + 1) 0) 0 492 495 (lawL i x5 x6) [vi a] (cal d 226 [vr 14 0, vi (scG I i 1), vi (scG I i 2)] (I, J, R, K, C, S)) := by
  refine ((bx_eq [] (d + 1) 0 13 479 _ _ _).symm.trans (show _ = (if inR (i + 1) (K 98) = true then (if inR (i + 2) (K 98) = true then (ret9 (den (d + 1) 0) 0 492 495 (lawL i x5 x6) [vi a] (cal d 226 [vr 14 0, vi (scG I i 1), vi (scG I i 2)] (I, J, R, K, C, S))) else none) else none) from rfl)).trans ?_
  rw [if_pos h1]
  rw [if_pos h2]
set_option maxRecDepth 100000 in
theorem op7_c (d : Nat) (i a : Int32) (x5 x6 : Option AV) (m : Mem) : den d 0 495 (lawL i x5 x6) [vi a, vi a] m = den d 0 1172 (lawL i x5 x6) [] m := by
  refine ((bx_eq [1172, 498] d 0 2 495 _ _ _).symm.trans (show _ = (if decide (a = a) = true then den d 0 1172 (lawL i x5 x6) [] m else den d 0 498 (lawL i x5 x6) [] m) from rfl)).trans ?_
  rw [if_pos (decide_eq_true rfl)]
set_option maxRecDepth 100000 in
theorem op8_a (d : Nat) (i : Int32) (x5 x6 : Option AV) (I : Nat → Nat → Nat → Int32) (J : Nat → Nat → Nat → Int64) (R : Nat → Nat → Nat → Option (Option (Nat × Nat))) (K : Nat → Nat) (C S : Nat) (h1 : inR (i + 1) (K 98) = true) (h2 : inR (i + 2) (K 98) = true) : den (d + 1) 0 500 (lawL i x5 x6) [] (I, J, R, K, C, S) = ret9 (den (d + 1) 0) 0 513 516 (lawL i x5 x6) [] (cal d 77 [vr 11 0, vi (scG I i 1), vi (scG I i 2)] (I, J, R, K, C, S)) := by
  refine ((bx_eq [] (d + 1) 0 13 500 _ _ _).symm.trans (show _ = (if inR (i + 1) (K 98) = true then (if inR (i + 2) (K 98) = true then (ret9 (den (d + 1) 0) 0 513 516 (lawL i x5 x6) [] (cal d 77 [vr 11 0, vi (scG I i 1), vi (scG I i 2)] (I, J, R, K, C, S))) else none) else none) from rfl)).trans ?_
  rw [if_pos h1]
  rw [if_pos h2]
set_option maxRecDepth 100000 in
theorem op8_b (d : Nat) (i : Int32) (x5 x6 : Option AV) (I : Nat → Nat → Nat → Int32) (J : Nat → Nat → Nat → Int64) (R : Nat → Nat → Nat → Option (Option (Nat × Nat))) (K : Nat → Nat) (C S : Nat) (a : Int32) (h1 : inR (i + 1) (K 98) = true) (h2 : inR (i + 2) (K 98) = true) : den (d + 1) 0 516 (lawL i x5 x6) [vi a] (I, J, R, K, C, S) = ret9 (den (d + 1) 0) 0 529 532 (lawL i x5 x6) [vi a] (cal d 227 [vr 14 0, vi (scG I i 1), vi (scG I i 2)] (I, J, R, K, C, S)) := by
  refine ((bx_eq [] (d + 1) 0 13 516 _ _ _).symm.trans (show _ = (if inR (i + 1) (K 98) = true then (if inR (i + 2) (K 98) = true then (ret9 (den (d + 1) 0) 0 529 532 (lawL i x5 x6) [vi a] (cal d 227 [vr 14 0, vi (scG I i 1), vi (scG I i 2)] (I, J, R, K, C, S))) else none) else none) from rfl)).trans ?_
  rw [if_pos h1]
  rw [if_pos h2]
set_option maxRecDepth 100000 in
theorem op8_c (d : Nat) (i a : Int32) (x5 x6 : Option AV) (m : Mem) : den d 0 532 (lawL i x5 x6) [vi a, vi a] m = den d 0 1172 (lawL i x5 x6) [] m := by
  refine ((bx_eq [1172, 535] d 0 2 532 _ _ _).symm.trans (show _ = (if decide (a = a) = true then den d 0 1172 (lawL i x5 x6) [] m else den d 0 535 (lawL i x5 x6) [] m) from rfl)).trans ?_
  rw [if_pos (decide_eq_true rfl)]
set_option maxRecDepth 100000 in
theorem op9_a (d : Nat) (i : Int32) (x5 x6 : Option AV) (I : Nat → Nat → Nat → Int32) (J : Nat → Nat → Nat → Int64) (R : Nat → Nat → Nat → Option (Option (Nat × Nat))) (K : Nat → Nat) (C S : Nat) (h1 : inR (i + 1) (K 98) = true) (h2 : inR (i + 2) (K 98) = true) : den (d + 1) 0 537 (lawL i x5 x6) [] (I, J, R, K, C, S) = ret9 (den (d + 1) 0) 0 550 553 (lawL i x5 x6) [] (cal d 78 [vr 11 0, vi (scG I i 1), vi (scG I i 2)] (I, J, R, K, C, S)) := by
  refine ((bx_eq [] (d + 1) 0 13 537 _ _ _).symm.trans (show _ = (if inR (i + 1) (K 98) = true then (if inR (i + 2) (K 98) = true then (ret9 (den (d + 1) 0) 0 550 553 (lawL i x5 x6) [] (cal d 78 [vr 11 0, vi (scG I i 1), vi (scG I i 2)] (I, J, R, K, C, S))) else none) else none) from rfl)).trans ?_
  rw [if_pos h1]
  rw [if_pos h2]
set_option maxRecDepth 100000 in
theorem op9_b (d : Nat) (i : Int32) (x5 x6 : Option AV) (I : Nat → Nat → Nat → Int32) (J : Nat → Nat → Nat → Int64) (R : Nat → Nat → Nat → Option (Option (Nat × Nat))) (K : Nat → Nat) (C S : Nat) (a : Int32) (h1 : inR (i + 1) (K 98) = true) (h2 : inR (i + 2) (K 98) = true) : den (d + 1) 0 553 (lawL i x5 x6) [vi a] (I, J, R, K, C, S) = ret9 (den (d + 1) 0) 0 566 569 (lawL i x5 x6) [vi a] (cal d 228 [vr 14 0, vi (scG I i 1), vi (scG I i 2)] (I, J, R, K, C, S)) := by
  refine ((bx_eq [] (d + 1) 0 13 553 _ _ _).symm.trans (show _ = (if inR (i + 1) (K 98) = true then (if inR (i + 2) (K 98) = true then (ret9 (den (d + 1) 0) 0 566 569 (lawL i x5 x6) [vi a] (cal d 228 [vr 14 0, vi (scG I i 1), vi (scG I i 2)] (I, J, R, K, C, S))) else none) else none) from rfl)).trans ?_
  rw [if_pos h1]
  rw [if_pos h2]
set_option maxRecDepth 100000 in
theorem op9_c (d : Nat) (i a : Int32) (x5 x6 : Option AV) (m : Mem) : den d 0 569 (lawL i x5 x6) [vi a, vi a] m = den d 0 1172 (lawL i x5 x6) [] m := by
  refine ((bx_eq [1172, 572] d 0 2 569 _ _ _).symm.trans (show _ = (if decide (a = a) = true then den d 0 1172 (lawL i x5 x6) [] m else den d 0 572 (lawL i x5 x6) [] m) from rfl)).trans ?_
  rw [if_pos (decide_eq_true rfl)]
set_option maxRecDepth 100000 in
theorem op10_a (d : Nat) (i : Int32) (x5 x6 : Option AV) (I : Nat → Nat → Nat → Int32) (J : Nat → Nat → Nat → Int64) (R : Nat → Nat → Nat → Option (Option (Nat × Nat))) (K : Nat → Nat) (C S : Nat) (h1 : inR (i + 1) (K 98) = true) (h2 : inR (i + 2) (K 98) = true) : den (d + 1) 0 574 (lawL i x5 x6) [] (I, J, R, K, C, S) = ret9 (den (d + 1) 0) 0 587 590 (lawL i x5 x6) [] (cal d 79 [vr 11 0, vi (scG I i 1), vi (scG I i 2)] (I, J, R, K, C, S)) := by
  refine ((bx_eq [] (d + 1) 0 13 574 _ _ _).symm.trans (show _ = (if inR (i + 1) (K 98) = true then (if inR (i + 2) (K 98) = true then (ret9 (den (d + 1) 0) 0 587 590 (lawL i x5 x6) [] (cal d 79 [vr 11 0, vi (scG I i 1), vi (scG I i 2)] (I, J, R, K, C, S))) else none) else none) from rfl)).trans ?_
  rw [if_pos h1]
  rw [if_pos h2]
set_option maxRecDepth 100000 in
theorem op10_b (d : Nat) (i : Int32) (x5 x6 : Option AV) (I : Nat → Nat → Nat → Int32) (J : Nat → Nat → Nat → Int64) (R : Nat → Nat → Nat → Option (Option (Nat × Nat))) (K : Nat → Nat) (C S : Nat) (a : Int32) (h1 : inR (i + 1) (K 98) = true) (h2 : inR (i + 2) (K 98) = true) : den (d + 1) 0 590 (lawL i x5 x6) [vi a] (I, J, R, K, C, S) = ret9 (den (d + 1) 0) 0 603 606 (lawL i x5 x6) [vi a] (cal d 229 [vr 14 0, vi (scG I i 1), vi (scG I i 2)] (I, J, R, K, C, S)) := by
  refine ((bx_eq [] (d + 1) 0 13 590 _ _ _).symm.trans (show _ = (if inR (i + 1) (K 98) = true then (if inR (i + 2) (K 98) = true then (ret9 (den (d + 1) 0) 0 603 606 (lawL i x5 x6) [vi a] (cal d 229 [vr 14 0, vi (scG I i 1), vi (scG I i 2)] (I, J, R, K, C, S))) else none) else none) from rfl)).trans ?_
  rw [if_pos h1]
  rw [if_pos h2]
set_option maxRecDepth 100000 in
theorem op10_c (d : Nat) (i a : Int32) (x5 x6 : Option AV) (m : Mem) : den d 0 606 (lawL i x5 x6) [vi a, vi a] m = den d 0 1172 (lawL i x5 x6) [] m := by
  refine ((bx_eq [1172, 609] d 0 2 606 _ _ _).symm.trans (show _ = (if decide (a = a) = true then den d 0 1172 (lawL i x5 x6) [] m else den d 0 609 (lawL i x5 x6) [] m) from rfl)).trans ?_
  rw [if_pos (decide_eq_true rfl)]
set_option maxRecDepth 100000 in
theorem op11_a (d : Nat) (i : Int32) (x5 x6 : Option AV) (I : Nat → Nat → Nat → Int32) (J : Nat → Nat → Nat → Int64) (R : Nat → Nat → Nat → Option (Option (Nat × Nat))) (K : Nat → Nat) (C S : Nat) (h1 : inR (i + 1) (K 98) = true) (h2 : inR (i + 2) (K 98) = true) : den (d + 1) 0 611 (lawL i x5 x6) [] (I, J, R, K, C, S) = ret9 (den (d + 1) 0) 0 624 627 (lawL i x5 x6) [] (cal d 81 [vr 11 0, vi (scG I i 1), vi (scG I i 2)] (I, J, R, K, C, S)) := by
  refine ((bx_eq [] (d + 1) 0 13 611 _ _ _).symm.trans (show _ = (if inR (i + 1) (K 98) = true then (if inR (i + 2) (K 98) = true then (ret9 (den (d + 1) 0) 0 624 627 (lawL i x5 x6) [] (cal d 81 [vr 11 0, vi (scG I i 1), vi (scG I i 2)] (I, J, R, K, C, S))) else none) else none) from rfl)).trans ?_
  rw [if_pos h1]
  rw [if_pos h2]
set_option maxRecDepth 100000 in
theorem op11_b (d : Nat) (i : Int32) (x5 x6 : Option AV) (I : Nat → Nat → Nat → Int32) (J : Nat → Nat → Nat → Int64) (R : Nat → Nat → Nat → Option (Option (Nat × Nat))) (K : Nat → Nat) (C S : Nat) (a : Int32) (h1 : inR (i + 1) (K 98) = true) (h2 : inR (i + 2) (K 98) = true) : den (d + 1) 0 627 (lawL i x5 x6) [vi a] (I, J, R, K, C, S) = ret9 (den (d + 1) 0) 0 640 643 (lawL i x5 x6) [vi a] (cal d 235 [vr 14 0, vi (scG I i 1), vi (scG I i 2)] (I, J, R, K, C, S)) := by
  refine ((bx_eq [] (d + 1) 0 13 627 _ _ _).symm.trans (show _ = (if inR (i + 1) (K 98) = true then (if inR (i + 2) (K 98) = true then (ret9 (den (d + 1) 0) 0 640 643 (lawL i x5 x6) [vi a] (cal d 235 [vr 14 0, vi (scG I i 1), vi (scG I i 2)] (I, J, R, K, C, S))) else none) else none) from rfl)).trans ?_
  rw [if_pos h1]
  rw [if_pos h2]
set_option maxRecDepth 100000 in
theorem op11_c (d : Nat) (i a : Int32) (x5 x6 : Option AV) (m : Mem) : den d 0 643 (lawL i x5 x6) [vi a, vi a] m = den d 0 1172 (lawL i x5 x6) [] m := by
  refine ((bx_eq [1172, 646] d 0 2 643 _ _ _).symm.trans (show _ = (if decide (a = a) = true then den d 0 1172 (lawL i x5 x6) [] m else den d 0 646 (lawL i x5 x6) [] m) from rfl)).trans ?_
  rw [if_pos (decide_eq_true rfl)]
set_option maxRecDepth 100000 in
theorem op12_a (d : Nat) (i : Int32) (x5 x6 : Option AV) (I : Nat → Nat → Nat → Int32) (J : Nat → Nat → Nat → Int64) (R : Nat → Nat → Nat → Option (Option (Nat × Nat))) (K : Nat → Nat) (C S : Nat) (h1 : inR (i + 1) (K 98) = true) : den (d + 1) 0 648 (lawL i x5 x6) [] (I, J, R, K, C, S) = ret9 (den (d + 1) 0) 0 655 658 (lawL i x5 x6) [] (cal d 83 [vr 11 0, vi (scG I i 1)] (I, J, R, K, C, S)) := by
  refine ((bx_eq [] (d + 1) 0 8 648 _ _ _).symm.trans (show _ = (if inR (i + 1) (K 98) = true then (ret9 (den (d + 1) 0) 0 655 658 (lawL i x5 x6) [] (cal d 83 [vr 11 0, vi (scG I i 1)] (I, J, R, K, C, S))) else none) from rfl)).trans ?_
  rw [if_pos h1]
set_option maxRecDepth 100000 in
theorem op12_b (d : Nat) (i : Int32) (x5 x6 : Option AV) (I : Nat → Nat → Nat → Int32) (J : Nat → Nat → Nat → Int64) (R : Nat → Nat → Nat → Option (Option (Nat × Nat))) (K : Nat → Nat) (C S : Nat) (a : Int32) (h1 : inR (i + 1) (K 98) = true) : den (d + 1) 0 658 (lawL i x5 x6) [vi a] (I, J, R, K, C, S) = ret9 (den (d + 1) 0) 0 665 668 (lawL i x5 x6) [vi a] (cal d 236 [vr 14 0, vi (scG I i 1)] (I, J, R, K, C, S)) := by
  refine ((bx_eq [] (d + 1) 0 8 658 _ _ _).symm.trans (show _ = (if inR (i + 1) (K 98) = true then (ret9 (den (d + 1) 0) 0 665 668 (lawL i x5 x6) [vi a] (cal d 236 [vr 14 0, vi (scG I i 1)] (I, J, R, K, C, S))) else none) from rfl)).trans ?_
  rw [if_pos h1]
set_option maxRecDepth 100000 in
theorem op12_c (d : Nat) (i a : Int32) (x5 x6 : Option AV) (m : Mem) : den d 0 668 (lawL i x5 x6) [vi a, vi a] m = den d 0 1172 (lawL i x5 x6) [] m := by
  refine ((bx_eq [1172, 671] d 0 2 668 _ _ _).symm.trans (show _ = (if decide (a = a) = true then den d 0 1172 (lawL i x5 x6) [] m else den d 0 671 (lawL i x5 x6) [] m) from rfl)).trans ?_
  rw [if_pos (decide_eq_true rfl)]
set_option maxRecDepth 100000 in
theorem op13_a (d : Nat) (i : Int32) (x5 x6 : Option AV) (I : Nat → Nat → Nat → Int32) (J : Nat → Nat → Nat → Int64) (R : Nat → Nat → Nat → Option (Option (Nat × Nat))) (K : Nat → Nat) (C S : Nat) (h1 : inR (i + 1) (K 98) = true) : den (d + 1) 0 673 (lawL i x5 x6) [] (I, J, R, K, C, S) = ret9 (den (d + 1) 0) 0 680 683 (lawL i x5 x6) [] (cal d 84 [vr 11 0, vi (scG I i 1)] (I, J, R, K, C, S)) := by
  refine ((bx_eq [] (d + 1) 0 8 673 _ _ _).symm.trans (show _ = (if inR (i + 1) (K 98) = true then (ret9 (den (d + 1) 0) 0 680 683 (lawL i x5 x6) [] (cal d 84 [vr 11 0, vi (scG I i 1)] (I, J, R, K, C, S))) else none) from rfl)).trans ?_
  rw [if_pos h1]
set_option maxRecDepth 100000 in
theorem op13_b (d : Nat) (i : Int32) (x5 x6 : Option AV) (I : Nat → Nat → Nat → Int32) (J : Nat → Nat → Nat → Int64) (R : Nat → Nat → Nat → Option (Option (Nat × Nat))) (K : Nat → Nat) (C S : Nat) (a : Int32) (h1 : inR (i + 1) (K 98) = true) : den (d + 1) 0 683 (lawL i x5 x6) [vi a] (I, J, R, K, C, S) = ret9 (den (d + 1) 0) 0 690 693 (lawL i x5 x6) [vi a] (cal d 237 [vr 14 0, vi (scG I i 1)] (I, J, R, K, C, S)) := by
  refine ((bx_eq [] (d + 1) 0 8 683 _ _ _).symm.trans (show _ = (if inR (i + 1) (K 98) = true then (ret9 (den (d + 1) 0) 0 690 693 (lawL i x5 x6) [vi a] (cal d 237 [vr 14 0, vi (scG I i 1)] (I, J, R, K, C, S))) else none) from rfl)).trans ?_
  rw [if_pos h1]
set_option maxRecDepth 100000 in
theorem op13_c (d : Nat) (i a : Int32) (x5 x6 : Option AV) (m : Mem) : den d 0 693 (lawL i x5 x6) [vi a, vi a] m = den d 0 1172 (lawL i x5 x6) [] m := by
  refine ((bx_eq [1172, 696] d 0 2 693 _ _ _).symm.trans (show _ = (if decide (a = a) = true then den d 0 1172 (lawL i x5 x6) [] m else den d 0 696 (lawL i x5 x6) [] m) from rfl)).trans ?_
  rw [if_pos (decide_eq_true rfl)]
set_option maxRecDepth 100000 in
theorem op14_a (d : Nat) (i : Int32) (x5 x6 : Option AV) (I : Nat → Nat → Nat → Int32) (J : Nat → Nat → Nat → Int64) (R : Nat → Nat → Nat → Option (Option (Nat × Nat))) (K : Nat → Nat) (C S : Nat) (h1 : inR (i + 1) (K 98) = true) : den (d + 1) 0 698 (lawL i x5 x6) [] (I, J, R, K, C, S) = ret9 (den (d + 1) 0) 0 705 708 (lawL i x5 x6) [] (cal d 87 [vr 11 0, vi (scG I i 1)] (I, J, R, K, C, S)) := by
  refine ((bx_eq [] (d + 1) 0 8 698 _ _ _).symm.trans (show _ = (if inR (i + 1) (K 98) = true then (ret9 (den (d + 1) 0) 0 705 708 (lawL i x5 x6) [] (cal d 87 [vr 11 0, vi (scG I i 1)] (I, J, R, K, C, S))) else none) from rfl)).trans ?_
  rw [if_pos h1]
set_option maxRecDepth 100000 in
theorem op14_b (d : Nat) (i : Int32) (x5 x6 : Option AV) (I : Nat → Nat → Nat → Int32) (J : Nat → Nat → Nat → Int64) (R : Nat → Nat → Nat → Option (Option (Nat × Nat))) (K : Nat → Nat) (C S : Nat) (a : Int32) (h1 : inR (i + 1) (K 98) = true) : den (d + 1) 0 708 (lawL i x5 x6) [vi a] (I, J, R, K, C, S) = ret9 (den (d + 1) 0) 0 715 718 (lawL i x5 x6) [vi a] (cal d 240 [vr 14 0, vi (scG I i 1)] (I, J, R, K, C, S)) := by
  refine ((bx_eq [] (d + 1) 0 8 708 _ _ _).symm.trans (show _ = (if inR (i + 1) (K 98) = true then (ret9 (den (d + 1) 0) 0 715 718 (lawL i x5 x6) [vi a] (cal d 240 [vr 14 0, vi (scG I i 1)] (I, J, R, K, C, S))) else none) from rfl)).trans ?_
  rw [if_pos h1]
set_option maxRecDepth 100000 in
theorem op14_c (d : Nat) (i a : Int32) (x5 x6 : Option AV) (m : Mem) : den d 0 718 (lawL i x5 x6) [vi a, vi a] m = den d 0 1172 (lawL i x5 x6) [] m := by
  refine ((bx_eq [1172, 721] d 0 2 718 _ _ _).symm.trans (show _ = (if decide (a = a) = true then den d 0 1172 (lawL i x5 x6) [] m else den d 0 721 (lawL i x5 x6) [] m) from rfl)).trans ?_
  rw [if_pos (decide_eq_true rfl)]
set_option maxRecDepth 100000 in
theorem op15_a (d : Nat) (i : Int32) (x5 x6 : Option AV) (I : Nat → Nat → Nat → Int32) (J : Nat → Nat → Nat → Int64) (R : Nat → Nat → Nat → Option (Option (Nat × Nat))) (K : Nat → Nat) (C S : Nat) : den (d + 1) 0 723 (lawL i x5 x6) [] (I, J, R, K, C, S) = ret9 (den (d + 1) 0) 0 724 727 (lawL i x5 x6) [] (cal d 104 [vr 11 0] (I, J, R, K, C, S)) := by
  refine ((bx_eq [] (d + 1) 0 3 723 _ _ _).symm.trans (show _ = (ret9 (den (d + 1) 0) 0 724 727 (lawL i x5 x6) [] (cal d 104 [vr 11 0] (I, J, R, K, C, S))) from rfl)).trans ?_
  rfl
set_option maxRecDepth 100000 in
theorem op15_b (d : Nat) (i : Int32) (x5 x6 : Option AV) (I : Nat → Nat → Nat → Int32) (J : Nat → Nat → Nat → Int64) (R : Nat → Nat → Nat → Option (Option (Nat × Nat))) (K : Nat → Nat) (C S : Nat) (a : Int32) : den (d + 1) 0 727 (lawL i x5 x6) [vi a] (I, J, R, K, C, S) = ret9 (den (d + 1) 0) 0 728 731 (lawL i x5 x6) [vi a] (cal d 250 [vr 14 0] (I, J, R, K, C, S)) := by
  refine ((bx_eq [] (d + 1) 0 3 727 _ _ _).symm.trans (show _ = (ret9 (den (d + 1) 0) 0 728 731 (lawL i x5 x6) [vi a] (cal d 250 [vr 14 0] (I, J, R, K, C, S))) from rfl)).trans ?_
  rfl
set_option maxRecDepth 100000 in
theorem op15_c (d : Nat) (i a : Int32) (x5 x6 : Option AV) (m : Mem) : den d 0 731 (lawL i x5 x6) [vi a, vi a] m = den d 0 1172 (lawL i x5 x6) [] m := by
  refine ((bx_eq [1172, 734] d 0 2 731 _ _ _).symm.trans (show _ = (if decide (a = a) = true then den d 0 1172 (lawL i x5 x6) [] m else den d 0 734 (lawL i x5 x6) [] m) from rfl)).trans ?_
  rw [if_pos (decide_eq_true rfl)]
set_option maxRecDepth 100000 in
theorem op16_a (d : Nat) (i : Int32) (x5 x6 : Option AV) (I : Nat → Nat → Nat → Int32) (J : Nat → Nat → Nat → Int64) (R : Nat → Nat → Nat → Option (Option (Nat × Nat))) (K : Nat → Nat) (C S : Nat) : den (d + 1) 0 736 (lawL i x5 x6) [] (I, J, R, K, C, S) = ret9 (den (d + 1) 0) 0 737 740 (lawL i x5 x6) [] (cal d 112 [vr 11 0] (I, J, R, K, C, S)) := by
  refine ((bx_eq [] (d + 1) 0 3 736 _ _ _).symm.trans (show _ = (ret9 (den (d + 1) 0) 0 737 740 (lawL i x5 x6) [] (cal d 112 [vr 11 0] (I, J, R, K, C, S))) from rfl)).trans ?_
  rfl
set_option maxRecDepth 100000 in
theorem op16_b (d : Nat) (i : Int32) (x5 x6 : Option AV) (I : Nat → Nat → Nat → Int32) (J : Nat → Nat → Nat → Int64) (R : Nat → Nat → Nat → Option (Option (Nat × Nat))) (K : Nat → Nat) (C S : Nat) (a : Int32) : den (d + 1) 0 740 (lawL i x5 x6) [vi a] (I, J, R, K, C, S) = ret9 (den (d + 1) 0) 0 741 744 (lawL i x5 x6) [vi a] (cal d 254 [vr 14 0] (I, J, R, K, C, S)) := by
  refine ((bx_eq [] (d + 1) 0 3 740 _ _ _).symm.trans (show _ = (ret9 (den (d + 1) 0) 0 741 744 (lawL i x5 x6) [vi a] (cal d 254 [vr 14 0] (I, J, R, K, C, S))) from rfl)).trans ?_
  rfl
set_option maxRecDepth 100000 in
theorem op16_c (d : Nat) (i a : Int32) (x5 x6 : Option AV) (m : Mem) : den d 0 744 (lawL i x5 x6) [vi a, vi a] m = den d 0 1172 (lawL i x5 x6) [] m := by
  refine ((bx_eq [1172, 747] d 0 2 744 _ _ _).symm.trans (show _ = (if decide (a = a) = true then den d 0 1172 (lawL i x5 x6) [] m else den d 0 747 (lawL i x5 x6) [] m) from rfl)).trans ?_
  rw [if_pos (decide_eq_true rfl)]
set_option maxRecDepth 100000 in
theorem op17_a (d : Nat) (i : Int32) (x5 x6 : Option AV) (I : Nat → Nat → Nat → Int32) (J : Nat → Nat → Nat → Int64) (R : Nat → Nat → Nat → Option (Option (Nat × Nat))) (K : Nat → Nat) (C S : Nat) (h1 : inR (i + 1) (K 98) = true) (h2 : inR (i + 2) (K 98) = true) : den (d + 1) 0 749 (lawL i x5 x6) [] (I, J, R, K, C, S) = ret9 (den (d + 1) 0) 0 762 765 (lawL i x5 x6) [] (cal d 113 [vr 11 0, vi (scG I i 1), vi (scG I i 2)] (I, J, R, K, C, S)) := by
  refine ((bx_eq [] (d + 1) 0 13 749 _ _ _).symm.trans (show _ = (if inR (i + 1) (K 98) = true then (if inR (i + 2) (K 98) = true then (ret9 (den (d + 1) 0) 0 762 765 (lawL i x5 x6) [] (cal d 113 [vr 11 0, vi (scG I i 1), vi (scG I i 2)] (I, J, R, K, C, S))) else none) else none) from rfl)).trans ?_
  rw [if_pos h1]
  rw [if_pos h2]
set_option maxRecDepth 100000 in
theorem op17_b (d : Nat) (i : Int32) (x5 x6 : Option AV) (I : Nat → Nat → Nat → Int32) (J : Nat → Nat → Nat → Int64) (R : Nat → Nat → Nat → Option (Option (Nat × Nat))) (K : Nat → Nat) (C S : Nat) (a : Int32) (h1 : inR (i + 1) (K 98) = true) (h2 : inR (i + 2) (K 98) = true) : den (d + 1) 0 765 (lawL i x5 x6) [vi a] (I, J, R, K, C, S) = ret9 (den (d + 1) 0) 0 778 781 (lawL i x5 x6) [vi a] (cal d 255 [vr 14 0, vi (scG I i 1), vi (scG I i 2)] (I, J, R, K, C, S)) := by
  refine ((bx_eq [] (d + 1) 0 13 765 _ _ _).symm.trans (show _ = (if inR (i + 1) (K 98) = true then (if inR (i + 2) (K 98) = true then (ret9 (den (d + 1) 0) 0 778 781 (lawL i x5 x6) [vi a] (cal d 255 [vr 14 0, vi (scG I i 1), vi (scG I i 2)] (I, J, R, K, C, S))) else none) else none) from rfl)).trans ?_
  rw [if_pos h1]
  rw [if_pos h2]
set_option maxRecDepth 100000 in
theorem op17_c (d : Nat) (i a : Int32) (x5 x6 : Option AV) (m : Mem) : den d 0 781 (lawL i x5 x6) [vi a, vi a] m = den d 0 1172 (lawL i x5 x6) [] m := by
  refine ((bx_eq [1172, 784] d 0 2 781 _ _ _).symm.trans (show _ = (if decide (a = a) = true then den d 0 1172 (lawL i x5 x6) [] m else den d 0 784 (lawL i x5 x6) [] m) from rfl)).trans ?_
  rw [if_pos (decide_eq_true rfl)]
set_option maxRecDepth 100000 in
theorem op18_a (d : Nat) (i : Int32) (x5 x6 : Option AV) (I : Nat → Nat → Nat → Int32) (J : Nat → Nat → Nat → Int64) (R : Nat → Nat → Nat → Option (Option (Nat × Nat))) (K : Nat → Nat) (C S : Nat) (h1 : inR (i + 1) (K 98) = true) : den (d + 1) 0 786 (lawL i x5 x6) [] (I, J, R, K, C, S) = ret9 (den (d + 1) 0) 0 793 796 (lawL i x5 x6) [] (cal d 114 [vr 11 0, vi (scG I i 1)] (I, J, R, K, C, S)) := by
  refine ((bx_eq [] (d + 1) 0 8 786 _ _ _).symm.trans (show _ = (if inR (i + 1) (K 98) = true then (ret9 (den (d + 1) 0) 0 793 796 (lawL i x5 x6) [] (cal d 114 [vr 11 0, vi (scG I i 1)] (I, J, R, K, C, S))) else none) from rfl)).trans ?_
  rw [if_pos h1]
set_option maxRecDepth 100000 in
theorem op18_b (d : Nat) (i : Int32) (x5 x6 : Option AV) (I : Nat → Nat → Nat → Int32) (J : Nat → Nat → Nat → Int64) (R : Nat → Nat → Nat → Option (Option (Nat × Nat))) (K : Nat → Nat) (C S : Nat) (a : Int32) (h1 : inR (i + 1) (K 98) = true) : den (d + 1) 0 796 (lawL i x5 x6) [vi a] (I, J, R, K, C, S) = ret9 (den (d + 1) 0) 0 803 806 (lawL i x5 x6) [vi a] (cal d 256 [vr 14 0, vi (scG I i 1)] (I, J, R, K, C, S)) := by
  refine ((bx_eq [] (d + 1) 0 8 796 _ _ _).symm.trans (show _ = (if inR (i + 1) (K 98) = true then (ret9 (den (d + 1) 0) 0 803 806 (lawL i x5 x6) [vi a] (cal d 256 [vr 14 0, vi (scG I i 1)] (I, J, R, K, C, S))) else none) from rfl)).trans ?_
  rw [if_pos h1]
set_option maxRecDepth 100000 in
theorem op18_c (d : Nat) (i a : Int32) (x5 x6 : Option AV) (m : Mem) : den d 0 806 (lawL i x5 x6) [vi a, vi a] m = den d 0 1172 (lawL i x5 x6) [] m := by
  refine ((bx_eq [1172, 809] d 0 2 806 _ _ _).symm.trans (show _ = (if decide (a = a) = true then den d 0 1172 (lawL i x5 x6) [] m else den d 0 809 (lawL i x5 x6) [] m) from rfl)).trans ?_
  rw [if_pos (decide_eq_true rfl)]
set_option maxRecDepth 100000 in
theorem op19_a (d : Nat) (i : Int32) (x5 x6 : Option AV) (I : Nat → Nat → Nat → Int32) (J : Nat → Nat → Nat → Int64) (R : Nat → Nat → Nat → Option (Option (Nat × Nat))) (K : Nat → Nat) (C S : Nat) : den (d + 1) 0 811 (lawL i x5 x6) [] (I, J, R, K, C, S) = ret9 (den (d + 1) 0) 0 812 815 (lawL i x5 x6) [] (cal d 115 [vr 11 0] (I, J, R, K, C, S)) := by
  refine ((bx_eq [] (d + 1) 0 3 811 _ _ _).symm.trans (show _ = (ret9 (den (d + 1) 0) 0 812 815 (lawL i x5 x6) [] (cal d 115 [vr 11 0] (I, J, R, K, C, S))) from rfl)).trans ?_
  rfl
set_option maxRecDepth 100000 in
theorem op19_b (d : Nat) (i : Int32) (x5 x6 : Option AV) (I : Nat → Nat → Nat → Int32) (J : Nat → Nat → Nat → Int64) (R : Nat → Nat → Nat → Option (Option (Nat × Nat))) (K : Nat → Nat) (C S : Nat) (a : Int32) : den (d + 1) 0 815 (lawL i x5 x6) [vi a] (I, J, R, K, C, S) = ret9 (den (d + 1) 0) 0 816 819 (lawL i x5 x6) [vi a] (cal d 257 [vr 14 0] (I, J, R, K, C, S)) := by
  refine ((bx_eq [] (d + 1) 0 3 815 _ _ _).symm.trans (show _ = (ret9 (den (d + 1) 0) 0 816 819 (lawL i x5 x6) [vi a] (cal d 257 [vr 14 0] (I, J, R, K, C, S))) from rfl)).trans ?_
  rfl
set_option maxRecDepth 100000 in
theorem op19_c (d : Nat) (i a : Int32) (x5 x6 : Option AV) (m : Mem) : den d 0 819 (lawL i x5 x6) [vi a, vi a] m = den d 0 1172 (lawL i x5 x6) [] m := by
  refine ((bx_eq [1172, 822] d 0 2 819 _ _ _).symm.trans (show _ = (if decide (a = a) = true then den d 0 1172 (lawL i x5 x6) [] m else den d 0 822 (lawL i x5 x6) [] m) from rfl)).trans ?_
  rw [if_pos (decide_eq_true rfl)]
set_option maxRecDepth 100000 in
theorem op20_a (d : Nat) (i : Int32) (x5 x6 : Option AV) (I : Nat → Nat → Nat → Int32) (J : Nat → Nat → Nat → Int64) (R : Nat → Nat → Nat → Option (Option (Nat × Nat))) (K : Nat → Nat) (C S : Nat) (h1 : inR (i + 1) (K 98) = true) : den (d + 1) 0 824 (lawL i x5 x6) [] (I, J, R, K, C, S) = ret9 (den (d + 1) 0) 0 831 834 (lawL i x5 x6) [] (cal d 120 [vr 11 0, vi (scG I i 1)] (I, J, R, K, C, S)) := by
  refine ((bx_eq [] (d + 1) 0 8 824 _ _ _).symm.trans (show _ = (if inR (i + 1) (K 98) = true then (ret9 (den (d + 1) 0) 0 831 834 (lawL i x5 x6) [] (cal d 120 [vr 11 0, vi (scG I i 1)] (I, J, R, K, C, S))) else none) from rfl)).trans ?_
  rw [if_pos h1]
set_option maxRecDepth 100000 in
theorem op20_b (d : Nat) (i : Int32) (x5 x6 : Option AV) (I : Nat → Nat → Nat → Int32) (J : Nat → Nat → Nat → Int64) (R : Nat → Nat → Nat → Option (Option (Nat × Nat))) (K : Nat → Nat) (C S : Nat) (a : Int32) (h1 : inR (i + 1) (K 98) = true) : den (d + 1) 0 834 (lawL i x5 x6) [vi a] (I, J, R, K, C, S) = ret9 (den (d + 1) 0) 0 841 844 (lawL i x5 x6) [vi a] (cal d 259 [vr 14 0, vi (scG I i 1)] (I, J, R, K, C, S)) := by
  refine ((bx_eq [] (d + 1) 0 8 834 _ _ _).symm.trans (show _ = (if inR (i + 1) (K 98) = true then (ret9 (den (d + 1) 0) 0 841 844 (lawL i x5 x6) [vi a] (cal d 259 [vr 14 0, vi (scG I i 1)] (I, J, R, K, C, S))) else none) from rfl)).trans ?_
  rw [if_pos h1]
set_option maxRecDepth 100000 in
theorem op20_c (d : Nat) (i a : Int32) (x5 x6 : Option AV) (m : Mem) : den d 0 844 (lawL i x5 x6) [vi a, vi a] m = den d 0 1172 (lawL i x5 x6) [] m := by
  refine ((bx_eq [1172, 847] d 0 2 844 _ _ _).symm.trans (show _ = (if decide (a = a) = true then den d 0 1172 (lawL i x5 x6) [] m else den d 0 847 (lawL i x5 x6) [] m) from rfl)).trans ?_
  rw [if_pos (decide_eq_true rfl)]
set_option maxRecDepth 100000 in
theorem op21_a (d : Nat) (i : Int32) (x5 x6 : Option AV) (I : Nat → Nat → Nat → Int32) (J : Nat → Nat → Nat → Int64) (R : Nat → Nat → Nat → Option (Option (Nat × Nat))) (K : Nat → Nat) (C S : Nat) : den (d + 1) 0 849 (lawL i x5 x6) [] (I, J, R, K, C, S) = ret9 (den (d + 1) 0) 0 850 853 (lawL i x5 x6) [] (cal d 132 [vr 11 0] (I, J, R, K, C, S)) := by
  refine ((bx_eq [] (d + 1) 0 3 849 _ _ _).symm.trans (show _ = (ret9 (den (d + 1) 0) 0 850 853 (lawL i x5 x6) [] (cal d 132 [vr 11 0] (I, J, R, K, C, S))) from rfl)).trans ?_
  rfl
set_option maxRecDepth 100000 in
theorem op21_b (d : Nat) (i : Int32) (x5 x6 : Option AV) (I : Nat → Nat → Nat → Int32) (J : Nat → Nat → Nat → Int64) (R : Nat → Nat → Nat → Option (Option (Nat × Nat))) (K : Nat → Nat) (C S : Nat) (a : Int32) : den (d + 1) 0 853 (lawL i x5 x6) [vi a] (I, J, R, K, C, S) = ret9 (den (d + 1) 0) 0 854 857 (lawL i x5 x6) [vi a] (cal d 263 [vr 14 0] (I, J, R, K, C, S)) := by
  refine ((bx_eq [] (d + 1) 0 3 853 _ _ _).symm.trans (show _ = (ret9 (den (d + 1) 0) 0 854 857 (lawL i x5 x6) [vi a] (cal d 263 [vr 14 0] (I, J, R, K, C, S))) from rfl)).trans ?_
  rfl
set_option maxRecDepth 100000 in
theorem op21_c (d : Nat) (i a : Int32) (x5 x6 : Option AV) (m : Mem) : den d 0 857 (lawL i x5 x6) [vi a, vi a] m = den d 0 1172 (lawL i x5 x6) [] m := by
  refine ((bx_eq [1172, 860] d 0 2 857 _ _ _).symm.trans (show _ = (if decide (a = a) = true then den d 0 1172 (lawL i x5 x6) [] m else den d 0 860 (lawL i x5 x6) [] m) from rfl)).trans ?_
  rw [if_pos (decide_eq_true rfl)]
set_option maxRecDepth 100000 in
theorem op23_a (d : Nat) (i : Int32) (x5 x6 : Option AV) (I : Nat → Nat → Nat → Int32) (J : Nat → Nat → Nat → Int64) (R : Nat → Nat → Nat → Option (Option (Nat × Nat))) (K : Nat → Nat) (C S : Nat) (h1 : inR (i + 1) (K 98) = true) : den (d + 1) 0 903 (lawL i x5 x6) [] (I, J, R, K, C, S) = ret9 (den (d + 1) 0) 0 910 913 (lawL i x5 x6) [] (cal d 146 [vr 11 0, vi (scG I i 1)] (I, J, R, K, C, S)) := by
  refine ((bx_eq [] (d + 1) 0 8 903 _ _ _).symm.trans (show _ = (if inR (i + 1) (K 98) = true then (ret9 (den (d + 1) 0) 0 910 913 (lawL i x5 x6) [] (cal d 146 [vr 11 0, vi (scG I i 1)] (I, J, R, K, C, S))) else none) from rfl)).trans ?_
  rw [if_pos h1]
set_option maxRecDepth 100000 in
theorem op23_b (d : Nat) (i : Int32) (x5 x6 : Option AV) (I : Nat → Nat → Nat → Int32) (J : Nat → Nat → Nat → Int64) (R : Nat → Nat → Nat → Option (Option (Nat × Nat))) (K : Nat → Nat) (C S : Nat) (a : Int32) (h1 : inR (i + 1) (K 98) = true) : den (d + 1) 0 913 (lawL i x5 x6) [vi a] (I, J, R, K, C, S) = ret9 (den (d + 1) 0) 0 920 923 (lawL i x5 x6) [vi a] (cal d 265 [vr 14 0, vi (scG I i 1)] (I, J, R, K, C, S)) := by
  refine ((bx_eq [] (d + 1) 0 8 913 _ _ _).symm.trans (show _ = (if inR (i + 1) (K 98) = true then (ret9 (den (d + 1) 0) 0 920 923 (lawL i x5 x6) [vi a] (cal d 265 [vr 14 0, vi (scG I i 1)] (I, J, R, K, C, S))) else none) from rfl)).trans ?_
  rw [if_pos h1]
set_option maxRecDepth 100000 in
theorem op23_c (d : Nat) (i a : Int32) (x5 x6 : Option AV) (m : Mem) : den d 0 923 (lawL i x5 x6) [vi a, vi a] m = den d 0 1172 (lawL i x5 x6) [] m := by
  refine ((bx_eq [1172, 926] d 0 2 923 _ _ _).symm.trans (show _ = (if decide (a = a) = true then den d 0 1172 (lawL i x5 x6) [] m else den d 0 926 (lawL i x5 x6) [] m) from rfl)).trans ?_
  rw [if_pos (decide_eq_true rfl)]
set_option maxRecDepth 100000 in
theorem op25_a (d : Nat) (i : Int32) (x5 x6 : Option AV) (I : Nat → Nat → Nat → Int32) (J : Nat → Nat → Nat → Int64) (R : Nat → Nat → Nat → Option (Option (Nat × Nat))) (K : Nat → Nat) (C S : Nat) (h1 : inR (i + 1) (K 98) = true) : den (d + 1) 0 996 (lawL i x5 x6) [] (I, J, R, K, C, S) = ret9 (den (d + 1) 0) 0 1003 1006 (lawL i x5 x6) [] (cal d 151 [vr 11 0, vi (scG I i 1)] (I, J, R, K, C, S)) := by
  refine ((bx_eq [] (d + 1) 0 8 996 _ _ _).symm.trans (show _ = (if inR (i + 1) (K 98) = true then (ret9 (den (d + 1) 0) 0 1003 1006 (lawL i x5 x6) [] (cal d 151 [vr 11 0, vi (scG I i 1)] (I, J, R, K, C, S))) else none) from rfl)).trans ?_
  rw [if_pos h1]
set_option maxRecDepth 100000 in
theorem op25_b (d : Nat) (i : Int32) (x5 x6 : Option AV) (I : Nat → Nat → Nat → Int32) (J : Nat → Nat → Nat → Int64) (R : Nat → Nat → Nat → Option (Option (Nat × Nat))) (K : Nat → Nat) (C S : Nat) (a : Int32) (h1 : inR (i + 1) (K 98) = true) : den (d + 1) 0 1006 (lawL i x5 x6) [vi a] (I, J, R, K, C, S) = ret9 (den (d + 1) 0) 0 1013 1016 (lawL i x5 x6) [vi a] (cal d 270 [vr 14 0, vi (scG I i 1)] (I, J, R, K, C, S)) := by
  refine ((bx_eq [] (d + 1) 0 8 1006 _ _ _).symm.trans (show _ = (if inR (i + 1) (K 98) = true then (ret9 (den (d + 1) 0) 0 1013 1016 (lawL i x5 x6) [vi a] (cal d 270 [vr 14 0, vi (scG I i 1)] (I, J, R, K, C, S))) else none) from rfl)).trans ?_
  rw [if_pos h1]
set_option maxRecDepth 100000 in
theorem op25_c (d : Nat) (i a : Int32) (x5 x6 : Option AV) (m : Mem) : den d 0 1016 (lawL i x5 x6) [vi a, vi a] m = den d 0 1172 (lawL i x5 x6) [] m := by
  refine ((bx_eq [1172, 1019] d 0 2 1016 _ _ _).symm.trans (show _ = (if decide (a = a) = true then den d 0 1172 (lawL i x5 x6) [] m else den d 0 1019 (lawL i x5 x6) [] m) from rfl)).trans ?_
  rw [if_pos (decide_eq_true rfl)]
set_option maxRecDepth 100000 in
theorem op26_a (d : Nat) (i : Int32) (x5 x6 : Option AV) (I : Nat → Nat → Nat → Int32) (J : Nat → Nat → Nat → Int64) (R : Nat → Nat → Nat → Option (Option (Nat × Nat))) (K : Nat → Nat) (C S : Nat) (h1 : inR (i + 1) (K 98) = true) (h2 : inR (i + 2) (K 98) = true) (h3 : inR (i + 3) (K 98) = true) : den (d + 1) 0 1021 (lawL i x5 x6) [] (I, J, R, K, C, S) = ret9 (den (d + 1) 0) 0 1040 1043 (lawL i x5 x6) [] (cal d 153 [vr 11 0, vi (scG I i 1), vi (scG I i 2), vi (scG I i 3)] (I, J, R, K, C, S)) := by
  refine ((bx_eq [] (d + 1) 0 18 1021 _ _ _).symm.trans (show _ = (if inR (i + 1) (K 98) = true then (if inR (i + 2) (K 98) = true then (if inR (i + 3) (K 98) = true then (ret9 (den (d + 1) 0) 0 1040 1043 (lawL i x5 x6) [] (cal d 153 [vr 11 0, vi (scG I i 1), vi (scG I i 2), vi (scG I i 3)] (I, J, R, K, C, S))) else none) else none) else none) from rfl)).trans ?_
  rw [if_pos h1]
  rw [if_pos h2]
  rw [if_pos h3]
set_option maxRecDepth 100000 in
theorem op26_b (d : Nat) (i : Int32) (x5 x6 : Option AV) (I : Nat → Nat → Nat → Int32) (J : Nat → Nat → Nat → Int64) (R : Nat → Nat → Nat → Option (Option (Nat × Nat))) (K : Nat → Nat) (C S : Nat) (a : Int32) (h1 : inR (i + 1) (K 98) = true) (h2 : inR (i + 2) (K 98) = true) (h3 : inR (i + 3) (K 98) = true) : den (d + 1) 0 1043 (lawL i x5 x6) [vi a] (I, J, R, K, C, S) = ret9 (den (d + 1) 0) 0 1062 1065 (lawL i x5 x6) [vi a] (cal d 271 [vr 14 0, vi (scG I i 1), vi (scG I i 2), vi (scG I i 3)] (I, J, R, K, C, S)) := by
  refine ((bx_eq [] (d + 1) 0 18 1043 _ _ _).symm.trans (show _ = (if inR (i + 1) (K 98) = true then (if inR (i + 2) (K 98) = true then (if inR (i + 3) (K 98) = true then (ret9 (den (d + 1) 0) 0 1062 1065 (lawL i x5 x6) [vi a] (cal d 271 [vr 14 0, vi (scG I i 1), vi (scG I i 2), vi (scG I i 3)] (I, J, R, K, C, S))) else none) else none) else none) from rfl)).trans ?_
  rw [if_pos h1]
  rw [if_pos h2]
  rw [if_pos h3]
set_option maxRecDepth 100000 in
theorem op26_c (d : Nat) (i a : Int32) (x5 x6 : Option AV) (m : Mem) : den d 0 1065 (lawL i x5 x6) [vi a, vi a] m = den d 0 1172 (lawL i x5 x6) [] m := by
  refine ((bx_eq [1172, 1068] d 0 2 1065 _ _ _).symm.trans (show _ = (if decide (a = a) = true then den d 0 1172 (lawL i x5 x6) [] m else den d 0 1068 (lawL i x5 x6) [] m) from rfl)).trans ?_
  rw [if_pos (decide_eq_true rfl)]
set_option maxRecDepth 100000 in
theorem op27_a (d : Nat) (i : Int32) (x5 x6 : Option AV) (I : Nat → Nat → Nat → Int32) (J : Nat → Nat → Nat → Int64) (R : Nat → Nat → Nat → Option (Option (Nat × Nat))) (K : Nat → Nat) (C S : Nat) : den (d + 1) 0 1070 (lawL i x5 x6) [] (I, J, R, K, C, S) = ret9 (den (d + 1) 0) 0 1071 1074 (lawL i x5 x6) [] (cal d 158 [vr 11 0] (I, J, R, K, C, S)) := by
  refine ((bx_eq [] (d + 1) 0 3 1070 _ _ _).symm.trans (show _ = (ret9 (den (d + 1) 0) 0 1071 1074 (lawL i x5 x6) [] (cal d 158 [vr 11 0] (I, J, R, K, C, S))) from rfl)).trans ?_
  rfl
set_option maxRecDepth 100000 in
theorem op27_b (d : Nat) (i : Int32) (x5 x6 : Option AV) (I : Nat → Nat → Nat → Int32) (J : Nat → Nat → Nat → Int64) (R : Nat → Nat → Nat → Option (Option (Nat × Nat))) (K : Nat → Nat) (C S : Nat) (a : Int32) : den (d + 1) 0 1074 (lawL i x5 x6) [vi a] (I, J, R, K, C, S) = ret9 (den (d + 1) 0) 0 1075 1078 (lawL i x5 x6) [vi a] (cal d 273 [vr 14 0] (I, J, R, K, C, S)) := by
  refine ((bx_eq [] (d + 1) 0 3 1074 _ _ _).symm.trans (show _ = (ret9 (den (d + 1) 0) 0 1075 1078 (lawL i x5 x6) [vi a] (cal d 273 [vr 14 0] (I, J, R, K, C, S))) from rfl)).trans ?_
  rfl
set_option maxRecDepth 100000 in
theorem op27_c (d : Nat) (i a : Int32) (x5 x6 : Option AV) (m : Mem) : den d 0 1078 (lawL i x5 x6) [vi a, vi a] m = den d 0 1172 (lawL i x5 x6) [] m := by
  refine ((bx_eq [1172, 1081] d 0 2 1078 _ _ _).symm.trans (show _ = (if decide (a = a) = true then den d 0 1172 (lawL i x5 x6) [] m else den d 0 1081 (lawL i x5 x6) [] m) from rfl)).trans ?_
  rw [if_pos (decide_eq_true rfl)]
set_option maxRecDepth 100000 in
theorem op28_a (d : Nat) (i : Int32) (x5 x6 : Option AV) (I : Nat → Nat → Nat → Int32) (J : Nat → Nat → Nat → Int64) (R : Nat → Nat → Nat → Option (Option (Nat × Nat))) (K : Nat → Nat) (C S : Nat) (h1 : inR (i + 1) (K 98) = true) : den (d + 1) 0 1083 (lawL i x5 x6) [] (I, J, R, K, C, S) = ret9 (den (d + 1) 0) 0 1090 1093 (lawL i x5 x6) [] (cal d 159 [vr 11 0, vi (scG I i 1)] (I, J, R, K, C, S)) := by
  refine ((bx_eq [] (d + 1) 0 8 1083 _ _ _).symm.trans (show _ = (if inR (i + 1) (K 98) = true then (ret9 (den (d + 1) 0) 0 1090 1093 (lawL i x5 x6) [] (cal d 159 [vr 11 0, vi (scG I i 1)] (I, J, R, K, C, S))) else none) from rfl)).trans ?_
  rw [if_pos h1]
set_option maxRecDepth 100000 in
theorem op28_b (d : Nat) (i : Int32) (x5 x6 : Option AV) (I : Nat → Nat → Nat → Int32) (J : Nat → Nat → Nat → Int64) (R : Nat → Nat → Nat → Option (Option (Nat × Nat))) (K : Nat → Nat) (C S : Nat) (a : Int32) (h1 : inR (i + 1) (K 98) = true) : den (d + 1) 0 1093 (lawL i x5 x6) [vi a] (I, J, R, K, C, S) = ret9 (den (d + 1) 0) 0 1100 1103 (lawL i x5 x6) [vi a] (cal d 274 [vr 14 0, vi (scG I i 1)] (I, J, R, K, C, S)) := by
  refine ((bx_eq [] (d + 1) 0 8 1093 _ _ _).symm.trans (show _ = (if inR (i + 1) (K 98) = true then (ret9 (den (d + 1) 0) 0 1100 1103 (lawL i x5 x6) [vi a] (cal d 274 [vr 14 0, vi (scG I i 1)] (I, J, R, K, C, S))) else none) from rfl)).trans ?_
  rw [if_pos h1]
set_option maxRecDepth 100000 in
theorem op28_c (d : Nat) (i a : Int32) (x5 x6 : Option AV) (m : Mem) : den d 0 1103 (lawL i x5 x6) [vi a, vi a] m = den d 0 1172 (lawL i x5 x6) [] m := by
  refine ((bx_eq [1172, 1106] d 0 2 1103 _ _ _).symm.trans (show _ = (if decide (a = a) = true then den d 0 1172 (lawL i x5 x6) [] m else den d 0 1106 (lawL i x5 x6) [] m) from rfl)).trans ?_
  rw [if_pos (decide_eq_true rfl)]
set_option maxRecDepth 100000 in
theorem op29_a (d : Nat) (i : Int32) (x5 x6 : Option AV) (I : Nat → Nat → Nat → Int32) (J : Nat → Nat → Nat → Int64) (R : Nat → Nat → Nat → Option (Option (Nat × Nat))) (K : Nat → Nat) (C S : Nat) : den (d + 1) 0 1108 (lawL i x5 x6) [] (I, J, R, K, C, S) = ret9 (den (d + 1) 0) 0 1109 1112 (lawL i x5 x6) [] (cal d 164 [vr 11 0] (I, J, R, K, C, S)) := by
  refine ((bx_eq [] (d + 1) 0 3 1108 _ _ _).symm.trans (show _ = (ret9 (den (d + 1) 0) 0 1109 1112 (lawL i x5 x6) [] (cal d 164 [vr 11 0] (I, J, R, K, C, S))) from rfl)).trans ?_
  rfl
set_option maxRecDepth 100000 in
theorem op29_b (d : Nat) (i : Int32) (x5 x6 : Option AV) (I : Nat → Nat → Nat → Int32) (J : Nat → Nat → Nat → Int64) (R : Nat → Nat → Nat → Option (Option (Nat × Nat))) (K : Nat → Nat) (C S : Nat) (a : Int32) : den (d + 1) 0 1112 (lawL i x5 x6) [vi a] (I, J, R, K, C, S) = ret9 (den (d + 1) 0) 0 1113 1116 (lawL i x5 x6) [vi a] (cal d 275 [vr 14 0] (I, J, R, K, C, S)) := by
  refine ((bx_eq [] (d + 1) 0 3 1112 _ _ _).symm.trans (show _ = (ret9 (den (d + 1) 0) 0 1113 1116 (lawL i x5 x6) [vi a] (cal d 275 [vr 14 0] (I, J, R, K, C, S))) from rfl)).trans ?_
  rfl
set_option maxRecDepth 100000 in
theorem op29_c (d : Nat) (i a : Int32) (x5 x6 : Option AV) (m : Mem) : den d 0 1116 (lawL i x5 x6) [vi a, vi a] m = den d 0 1172 (lawL i x5 x6) [] m := by
  refine ((bx_eq [1172, 1119] d 0 2 1116 _ _ _).symm.trans (show _ = (if decide (a = a) = true then den d 0 1172 (lawL i x5 x6) [] m else den d 0 1119 (lawL i x5 x6) [] m) from rfl)).trans ?_
  rw [if_pos (decide_eq_true rfl)]
set_option maxRecDepth 100000 in
theorem op30_a (d : Nat) (i : Int32) (x5 x6 : Option AV) (I : Nat → Nat → Nat → Int32) (J : Nat → Nat → Nat → Int64) (R : Nat → Nat → Nat → Option (Option (Nat × Nat))) (K : Nat → Nat) (C S : Nat) : den (d + 1) 0 1121 (lawL i x5 x6) [] (I, J, R, K, C, S) = ret9 (den (d + 1) 0) 0 1122 1125 (lawL i x5 x6) [] (cal d 165 [vr 11 0] (I, J, R, K, C, S)) := by
  refine ((bx_eq [] (d + 1) 0 3 1121 _ _ _).symm.trans (show _ = (ret9 (den (d + 1) 0) 0 1122 1125 (lawL i x5 x6) [] (cal d 165 [vr 11 0] (I, J, R, K, C, S))) from rfl)).trans ?_
  rfl
set_option maxRecDepth 100000 in
theorem op30_b (d : Nat) (i : Int32) (x5 x6 : Option AV) (I : Nat → Nat → Nat → Int32) (J : Nat → Nat → Nat → Int64) (R : Nat → Nat → Nat → Option (Option (Nat × Nat))) (K : Nat → Nat) (C S : Nat) (a : Int32) : den (d + 1) 0 1125 (lawL i x5 x6) [vi a] (I, J, R, K, C, S) = ret9 (den (d + 1) 0) 0 1126 1129 (lawL i x5 x6) [vi a] (cal d 276 [vr 14 0] (I, J, R, K, C, S)) := by
  refine ((bx_eq [] (d + 1) 0 3 1125 _ _ _).symm.trans (show _ = (ret9 (den (d + 1) 0) 0 1126 1129 (lawL i x5 x6) [vi a] (cal d 276 [vr 14 0] (I, J, R, K, C, S))) from rfl)).trans ?_
  rfl
set_option maxRecDepth 100000 in
theorem op30_c (d : Nat) (i a : Int32) (x5 x6 : Option AV) (m : Mem) : den d 0 1129 (lawL i x5 x6) [vi a, vi a] m = den d 0 1172 (lawL i x5 x6) [] m := by
  refine ((bx_eq [1172, 1132] d 0 2 1129 _ _ _).symm.trans (show _ = (if decide (a = a) = true then den d 0 1172 (lawL i x5 x6) [] m else den d 0 1132 (lawL i x5 x6) [] m) from rfl)).trans ?_
  rw [if_pos (decide_eq_true rfl)]
set_option maxRecDepth 100000 in
theorem op31_a (d : Nat) (i : Int32) (x5 x6 : Option AV) (I : Nat → Nat → Nat → Int32) (J : Nat → Nat → Nat → Int64) (R : Nat → Nat → Nat → Option (Option (Nat × Nat))) (K : Nat → Nat) (C S : Nat) (h1 : inR (i + 1) (K 98) = true) : den (d + 1) 0 1134 (lawL i x5 x6) [] (I, J, R, K, C, S) = ret9 (den (d + 1) 0) 0 1141 1144 (lawL i x5 x6) [] (cal d 173 [vr 11 0, vi (scG I i 1)] (I, J, R, K, C, S)) := by
  refine ((bx_eq [] (d + 1) 0 8 1134 _ _ _).symm.trans (show _ = (if inR (i + 1) (K 98) = true then (ret9 (den (d + 1) 0) 0 1141 1144 (lawL i x5 x6) [] (cal d 173 [vr 11 0, vi (scG I i 1)] (I, J, R, K, C, S))) else none) from rfl)).trans ?_
  rw [if_pos h1]
set_option maxRecDepth 100000 in
theorem op31_b (d : Nat) (i : Int32) (x5 x6 : Option AV) (I : Nat → Nat → Nat → Int32) (J : Nat → Nat → Nat → Int64) (R : Nat → Nat → Nat → Option (Option (Nat × Nat))) (K : Nat → Nat) (C S : Nat) (a : Int32) (h1 : inR (i + 1) (K 98) = true) : den (d + 1) 0 1144 (lawL i x5 x6) [vi a] (I, J, R, K, C, S) = ret9 (den (d + 1) 0) 0 1151 1154 (lawL i x5 x6) [vi a] (cal d 279 [vr 14 0, vi (scG I i 1)] (I, J, R, K, C, S)) := by
  refine ((bx_eq [] (d + 1) 0 8 1144 _ _ _).symm.trans (show _ = (if inR (i + 1) (K 98) = true then (ret9 (den (d + 1) 0) 0 1151 1154 (lawL i x5 x6) [vi a] (cal d 279 [vr 14 0, vi (scG I i 1)] (I, J, R, K, C, S))) else none) from rfl)).trans ?_
  rw [if_pos h1]
set_option maxRecDepth 100000 in
theorem op31_c (d : Nat) (i a : Int32) (x5 x6 : Option AV) (m : Mem) : den d 0 1154 (lawL i x5 x6) [vi a, vi a] m = den d 0 1172 (lawL i x5 x6) [] m := by
  refine ((bx_eq [1172, 1157] d 0 2 1154 _ _ _).symm.trans (show _ = (if decide (a = a) = true then den d 0 1172 (lawL i x5 x6) [] m else den d 0 1157 (lawL i x5 x6) [] m) from rfl)).trans ?_
  rw [if_pos (decide_eq_true rfl)]
set_option maxRecDepth 100000 in
theorem op32_a (d : Nat) (i : Int32) (x5 x6 : Option AV) (I : Nat → Nat → Nat → Int32) (J : Nat → Nat → Nat → Int64) (R : Nat → Nat → Nat → Option (Option (Nat × Nat))) (K : Nat → Nat) (C S : Nat) : den (d + 1) 0 1159 (lawL i x5 x6) [] (I, J, R, K, C, S) = ret9 (den (d + 1) 0) 0 1160 1163 (lawL i x5 x6) [] (cal d 175 [vr 11 0] (I, J, R, K, C, S)) := by
  refine ((bx_eq [] (d + 1) 0 3 1159 _ _ _).symm.trans (show _ = (ret9 (den (d + 1) 0) 0 1160 1163 (lawL i x5 x6) [] (cal d 175 [vr 11 0] (I, J, R, K, C, S))) from rfl)).trans ?_
  rfl
set_option maxRecDepth 100000 in
theorem op32_b (d : Nat) (i : Int32) (x5 x6 : Option AV) (I : Nat → Nat → Nat → Int32) (J : Nat → Nat → Nat → Int64) (R : Nat → Nat → Nat → Option (Option (Nat × Nat))) (K : Nat → Nat) (C S : Nat) (a : Int32) : den (d + 1) 0 1163 (lawL i x5 x6) [vi a] (I, J, R, K, C, S) = ret9 (den (d + 1) 0) 0 1164 1167 (lawL i x5 x6) [vi a] (cal d 280 [vr 14 0] (I, J, R, K, C, S)) := by
  refine ((bx_eq [] (d + 1) 0 3 1163 _ _ _).symm.trans (show _ = (ret9 (den (d + 1) 0) 0 1164 1167 (lawL i x5 x6) [vi a] (cal d 280 [vr 14 0] (I, J, R, K, C, S))) from rfl)).trans ?_
  rfl
set_option maxRecDepth 100000 in
theorem op32_c (d : Nat) (i a : Int32) (x5 x6 : Option AV) (m : Mem) : den d 0 1167 (lawL i x5 x6) [vi a, vi a] m = den d 0 1172 (lawL i x5 x6) [] m := by
  refine ((bx_eq [1172, 1170] d 0 2 1167 _ _ _).symm.trans (show _ = (if decide (a = a) = true then den d 0 1172 (lawL i x5 x6) [] m else den d 0 1170 (lawL i x5 x6) [] m) from rfl)).trans ?_
  rw [if_pos (decide_eq_true rfl)]
