/-! Blocks of methods (printed by program: wip/gen/blk.py, mode n) -/
set_option maxRecDepth 100000 in
theorem c225n (d : Nat) (x1 : Int32) (I : PI) (J : PJ) (T : TL) : cal d 225 [vr 14 0, vi x1] (MX I J (TN T)) = (if (I 14 0 24) ≤ 0 then some (.inl (some (vi 0)), MX I J (TN T)) else (if x1 < 0 then some (.inl (some (vi 0)), MX I J (TN T)) else none)) :=
  ((bx_eq [] d 225 9 0 _ _ _).symm.trans rfl : _ = (if decide ((I 14 0 24) ≤ 0) = true then some (.inl (some (vi 0)), MX I J (TN T)) else (if decide (x1 < 0) = true then some (.inl (some (vi 0)), MX I J (TN T)) else none))).trans (by simp only [ite_dec])
