/-! The law's call 24: stake -/
section OP24
variable (d : Nat) (i a b e : Int32) (x5 x6 : Option AV) (I : Nat → Nat → Nat → Int32) (J : Nat → Nat → Nat → Int64) (R : Nat → Nat → Nat → Option (Option (Nat × Nat))) (K : Nat → Nat) (C S : Nat)
set_option maxRecDepth 100000 in
theorem op24_a (h1 : inR (i + 1) (K 98) = true) (h2 : inR (i + 2) (K 98) = true) : den (d + 1) 0 928 (lawL i x5 x6) [] (I, J, R, K, C, S) = ret9 (den (d + 1) 0) 0 942 945 (lawL i x5 x6) [] (cal d 176 [vr 11 0, vi (scG I i 1), vi (scG I i 2), vr 40 0] (I, J, R, K, C, S)) := by
  refine ((bx_eq [] (d + 1) 0 16 928 _ _ _).symm.trans (show _ = (if inR (i + 1) (K 98) = true then (if inR (i + 2) (K 98) = true then (ret9 (den (d + 1) 0) 0 942 945 (lawL i x5 x6) [] (cal d 176 [vr 11 0, vi (scG I i 1), vi (scG I i 2), vr 40 0] (I, J, R, K, C, S))) else none) else none) from rfl)).trans ?_
  rw [if_pos h1]
  rw [if_pos h2]
set_option maxRecDepth 100000 in
theorem op24_b0 (m : Mem) : den d 0 945 (lawL i x5 x6) [vi a] m = den d 0 947 (lawL i (some (vi a)) x6) [] m := (bx_eq [947] d 0 1 945 _ _ _).symm.trans rfl
set_option maxRecDepth 100000 in
theorem op24_b (h1 : inR (i + 1) (K 98) = true) (h2 : inR (i + 2) (K 98) = true) : den (d + 1) 0 947 (lawL i x5 x6) [] (I, J, R, K, C, S) = ret9 (den (d + 1) 0) 0 960 963 (lawL i x5 x6) [] (cal d 269 [vr 14 0, vi (scG I i 1), vi (scG I i 2)] (I, J, R, K, C, S)) := by
  refine ((bx_eq [] (d + 1) 0 13 947 _ _ _).symm.trans (show _ = (if inR (i + 1) (K 98) = true then (if inR (i + 2) (K 98) = true then (ret9 (den (d + 1) 0) 0 960 963 (lawL i x5 x6) [] (cal d 269 [vr 14 0, vi (scG I i 1), vi (scG I i 2)] (I, J, R, K, C, S))) else none) else none) from rfl)).trans ?_
  rw [if_pos h1]
  rw [if_pos h2]
set_option maxRecDepth 100000 in
theorem op24_c : den (d + 1) 0 963 (lawL i (some (vi a)) x6) [vi b] (I, J, R, K, C, S) = ret9 (den (d + 1) 0) 0 966 969 (lawL i (some (vi a)) (some (vi b))) [] (cal d 184 [vr 14 0] (I, J, R, K, C, S)) := (bx_eq [] (d + 1) 0 6 963 _ _ _).symm.trans rfl
set_option maxRecDepth 100000 in
theorem op24_d : den d 0 969 (lawL i (some (vi a)) (some (vi b))) [vi e] (I, J, R, K, C, S) = if decide (e = a) = true then den d 0 976 (lawL i (some (vi a)) (some (vi b))) [] (I, J, R, K, C, S) else den d 0 974 (lawL i (some (vi a)) (some (vi b))) [] (I, J, R, K, C, S) := (bx_eq [974, 976] d 0 4 969 _ _ _).symm.trans rfl
set_option maxRecDepth 100000 in
theorem op24_e : den d 0 976 (lawL i (some (vi a)) (some (vi b))) [] (I, J, R, K, C, S) = if decide (¬ a = 0) = true then den d 0 993 (lawL i (some (vi a)) (some (vi b))) [] (I, J, R, K, C, S) else den d 0 981 (lawL i (some (vi a)) (some (vi b))) [] (I, J, R, K, C, S) := (bx_eq [981, 993] d 0 4 976 _ _ _).symm.trans rfl
set_option maxRecDepth 100000 in
theorem op24_f : den d 0 981 (lawL i (some (vi a)) (some (vi b))) [] (I, J, R, K, C, S) = if decide (lg_cmp (J 40 0 0) b.toInt64 = 0) = true then den d 0 993 (lawL i (some (vi a)) (some (vi b))) [] (I, J, R, K, C, S) else den d 0 991 (lawL i (some (vi a)) (some (vi b))) [] (I, J, R, K, C, S) := (bx_eq [991, 993] d 0 9 981 _ _ _).symm.trans rfl
set_option maxRecDepth 100000 in
theorem op24_g (l : Loc9) (m : Mem) : den d 0 993 l [] m = den d 0 1172 l [] m := (bx_eq [1172] d 0 2 993 _ _ _).symm.trans rfl
end OP24
