/-! Blocks of methods (printed by program: wip/gen/gen40.py) -/
-- 104 WF_bars
set_option maxRecDepth 100000 in
theorem c104 (d : Nat) (I : PI) (J : PJ) (T : TL) : cal (d + 1) 104 [vr 11 0] (MX I J T) = ret9 (den (d + 1) 104) 104 4 7 [some (vr 11 0), none] [] (cal d 74 [vr 5 0] (MX I J T)) :=
  (bx_eq [] (d + 1) 104 3 0 _ _ _).symm.trans rfl
set_option maxRecDepth 100000 in
theorem b104_7 (d : Nat) (v : Int32) (I : PI) (J : PJ) (T : TL) : den (d + 1) 104 7 [some (vr 11 0), none] [vi v] (MX I J T) = (if ¬ v = 0 then ret9 (den (d + 1) 104) 104 20 23 [some (vr 11 0), none] [] (cal d 105 [vr 3 0] (MX I J T)) else ret9 (den (d + 1) 104) 104 12 15 [some (vr 11 0), none] [] (cal d 20 [vr 11 0, vi 1] (MX I J T))) :=
  ((bx_eq [] (d + 1) 104 4 7 _ _ _).symm.trans rfl : _ = (if decide (¬ v = 0) = true then ret9 (den (d + 1) 104) 104 20 23 [some (vr 11 0), none] [] (cal d 105 [vr 3 0] (MX I J T)) else ret9 (den (d + 1) 104) 104 12 15 [some (vr 11 0), none] [] (cal d 20 [vr 11 0, vi 1] (MX I J T)))).trans (by simp only [ite_dec])
set_option maxRecDepth 100000 in
theorem b104_15 (d : Nat) (v : Int32) (I : PI) (J : PJ) (T : TL) : den d 104 15 [some (vr 11 0), none] [vi v] (MX I J T) = some (.inl (some (vi v)), MX I J T) :=
  (bx_eq [] d 104 1 15 _ _ _).symm.trans rfl
set_option maxRecDepth 100000 in
theorem b104_23 (d : Nat) (v : Int32) (I : PI) (J : PJ) (T : TL) : den (d + 1) 104 23 [some (vr 11 0), none] [vi v] (MX I J T) = ret9 (den (d + 1) 104) 104 37 40 [some (vr 11 0), some (vi v)] [] (cal d 51 [vr 11 0, vi v] (MX (up3 I 11 0 13 (I 3 0 3)) J T)) :=
  (bx_eq [] (d + 1) 104 9 23 _ _ _).symm.trans rfl
set_option maxRecDepth 100000 in
theorem b104_40 (d : Nat) (x1 : Int32) (v : Int32) (I : PI) (J : PJ) (T : TL) : den d 104 40 [some (vr 11 0), some (vi x1)] [vi v] (MX I J T) = some (.inl (some (vi v)), MX I J T) :=
  (bx_eq [] d 104 1 40 _ _ _).symm.trans rfl
-- 105 WF_Drawing_findBar
set_option maxRecDepth 100000 in
theorem c105 (d : Nat) (I : PI) (J : PJ) (T : TL) : cal (d + 1) 105 [vr 3 0] (MX I J T) = ret9 (den (d + 1) 105) 105 1 4 [some (vr 3 0), none, none, none, none] [] (cal d 106 [vr 3 0] (MX I J T)) :=
  (bx_eq [23, 80] (d + 1) 105 2 0 _ _ _).symm.trans rfl
set_option maxRecDepth 100000 in
theorem b105_4 (d : Nat) (v : Int64) (I : PI) (J : PJ) (T : TL) : den (d + 1) 105 4 [some (vr 3 0), none, none, none, none] [vl v] (MX I J T) = (if (lg_cmp v 0) = 0 then den (d + 1) 105 23 [some (vr 3 0), some (vl v), none, some (vi 0), none] [] (MX I J T) else ret9 (den (d + 1) 105) 105 14 17 [some (vr 3 0), some (vl v), none, none, none] [vi 1, vr 3 0] (cal d 107 [vl v] (MX I J T))) :=
  ((bx_eq [23, 80] (d + 1) 105 9 4 _ _ _).symm.trans rfl : _ = (if decide ((lg_cmp v 0) = 0) = true then den (d + 1) 105 23 [some (vr 3 0), some (vl v), none, some (vi 0), none] [] (MX I J T) else ret9 (den (d + 1) 105) 105 14 17 [some (vr 3 0), some (vl v), none, none, none] [vi 1, vr 3 0] (cal d 107 [vl v] (MX I J T)))).trans (by simp only [ite_dec])
set_option maxRecDepth 100000 in
theorem b105_17 (d : Nat) (y1 : Int64) (s1 : Int32) (v : Int32) (I : PI) (J : PJ) (T : TL) : den (d + 1) 105 17 [some (vr 3 0), some (vl y1), none, none, none] [vi v, vi s1, vr 3 0] (MX I J T) = ret9 (den (d + 1) 105) 105 17 20 [some (vr 3 0), some (vl y1), none, none, none] [] (cal d 108 [vr 3 0, vi s1, vi v] (MX I J T)) :=
  (bx_eq [23, 80] (d + 1) 105 1 17 _ _ _).symm.trans rfl
set_option maxRecDepth 100000 in
theorem b105_20 (d : Nat) (y1 : Int64) (v : Int32) (I : PI) (J : PJ) (T : TL) : den d 105 20 [some (vr 3 0), some (vl y1), none, none, none] [vi v] (MX I J T) = some (.inl (some (vi v)), MX I J T) :=
  (bx_eq [23, 80] d 105 1 20 _ _ _).symm.trans rfl
set_option maxRecDepth 100000 in
theorem b105_23 (d : Nat) (y1 : Int64) (x3 : Int32) (I : PI) (J : PJ) (T : TL) : den (d + 1) 105 23 [some (vr 3 0), some (vl y1), none, some (vi x3), none] [] (MX I J T) = (if (I 5 0 9) ≤ x3 then den (d + 1) 105 80 [some (vr 3 0), some (vl y1), none, some (vi 0), none] [] (MX I J T) else (if inR x3 64 = true then (if (I 28 2 (Int32.toNatClampNeg x3)) = (-1) then den (d + 1) 105 23 [some (vr 3 0), some (vl y1), none, some (vi (x3 + 1)), none] [] (MX I J T) else (if inR x3 64 = true then (if inR x3 64 = true then (if (I 28 2 (Int32.toNatClampNeg x3)) = (I 28 3 (Int32.toNatClampNeg x3)) then den (d + 1) 105 23 [some (vr 3 0), some (vl y1), none, some (vi (x3 + 1)), none] [] (MX I J T) else ret9 (den (d + 1) 105) 105 68 71 [some (vr 3 0), some (vl y1), none, some (vi x3), none] [] (cal d 108 [vr 3 0, vi 2, vi x3] (MX I J T))) else none) else none)) else none)) :=
  ((bx_eq [23, 80] (d + 1) 105 26 23 _ _ _).symm.trans rfl : _ = (if decide ((I 5 0 9) ≤ x3) = true then den (d + 1) 105 80 [some (vr 3 0), some (vl y1), none, some (vi 0), none] [] (MX I J T) else (if inR x3 64 = true then (if decide ((I 28 2 (Int32.toNatClampNeg x3)) = (-1)) = true then den (d + 1) 105 23 [some (vr 3 0), some (vl y1), none, some (vi (x3 + 1)), none] [] (MX I J T) else (if inR x3 64 = true then (if inR x3 64 = true then (if decide ((I 28 2 (Int32.toNatClampNeg x3)) = (I 28 3 (Int32.toNatClampNeg x3))) = true then den (d + 1) 105 23 [some (vr 3 0), some (vl y1), none, some (vi (x3 + 1)), none] [] (MX I J T) else ret9 (den (d + 1) 105) 105 68 71 [some (vr 3 0), some (vl y1), none, some (vi x3), none] [] (cal d 108 [vr 3 0, vi 2, vi x3] (MX I J T))) else none) else none)) else none))).trans (by simp only [ite_dec])
set_option maxRecDepth 100000 in
theorem b105_71 (d : Nat) (y1 : Int64) (x3 : Int32) (v : Int32) (I : PI) (J : PJ) (T : TL) : den d 105 71 [some (vr 3 0), some (vl y1), none, some (vi x3), none] [vi v] (MX I J T) = some (.inl (some (vi v)), MX I J T) :=
  (bx_eq [23, 80] d 105 1 71 _ _ _).symm.trans rfl
set_option maxRecDepth 100000 in
theorem b105_80 (d : Nat) (y1 : Int64) (x3 : Int32) (I : PI) (J : PJ) (T : TL) : den (d + 1) 105 80 [some (vr 3 0), some (vl y1), none, some (vi x3), none] [] (MX I J T) = (if 6 ≤ x3 then (if ¬ (I 5 0 10) = 2 then (if (lg_cmp 0 0) = 0 then ret9 (den (d + 1) 105) 105 157 160 [some (vr 3 0), some (vl y1), none, some (vl 0), none] [] (cal d 108 [vr 3 0, vi 0, vi (-2)] (MX I J T)) else ret9 (den (d + 1) 105) 105 144 147 [some (vr 3 0), some (vl y1), none, some (vl 0), none] [vi 4, vr 3 0] (cal d 107 [vl 0] (MX I J T))) else ret9 (den (d + 1) 105) 105 127 130 [some (vr 3 0), some (vl y1), none, some (vi x3), none] [] (cal d 110 [vr 3 0] (MX I J T))) else (if inR x3 6 = true then ret9 (den (d + 1) 105) 105 96 99 [some (vr 3 0), some (vl y1), none, some (vi x3), none] [] (cal d 109 [vr 5 0, vl (J 42 1 (Int32.toNatClampNeg x3))] (MX I J T)) else none)) :=
  ((bx_eq [23, 80] (d + 1) 105 18 80 _ _ _).symm.trans rfl : _ = (if decide (6 ≤ x3) = true then (if decide (¬ (I 5 0 10) = 2) = true then (if decide ((lg_cmp 0 0) = 0) = true then ret9 (den (d + 1) 105) 105 157 160 [some (vr 3 0), some (vl y1), none, some (vl 0), none] [] (cal d 108 [vr 3 0, vi 0, vi (-2)] (MX I J T)) else ret9 (den (d + 1) 105) 105 144 147 [some (vr 3 0), some (vl y1), none, some (vl 0), none] [vi 4, vr 3 0] (cal d 107 [vl 0] (MX I J T))) else ret9 (den (d + 1) 105) 105 127 130 [some (vr 3 0), some (vl y1), none, some (vi x3), none] [] (cal d 110 [vr 3 0] (MX I J T))) else (if inR x3 6 = true then ret9 (den (d + 1) 105) 105 96 99 [some (vr 3 0), some (vl y1), none, some (vi x3), none] [] (cal d 109 [vr 5 0, vl (J 42 1 (Int32.toNatClampNeg x3))] (MX I J T)) else none))).trans (by simp only [ite_dec])
set_option maxRecDepth 100000 in
theorem b105_99 (d : Nat) (y1 : Int64) (x3 : Int32) (v : Int32) (I : PI) (J : PJ) (T : TL) : den (d + 1) 105 99 [some (vr 3 0), some (vl y1), none, some (vi x3), none] [vi v] (MX I J T) = (if ¬ v = 0 then den (d + 1) 105 80 [some (vr 3 0), some (vl y1), none, some (vi (x3 + 1)), none] [] (MX I J T) else ret9 (den (d + 1) 105) 105 105 108 [some (vr 3 0), some (vl y1), none, some (vi x3), none] [] (cal d 108 [vr 3 0, vi 3, vi x3] (MX I J T))) :=
  ((bx_eq [23, 80] (d + 1) 105 5 99 _ _ _).symm.trans rfl : _ = (if decide (¬ v = 0) = true then den (d + 1) 105 80 [some (vr 3 0), some (vl y1), none, some (vi (x3 + 1)), none] [] (MX I J T) else ret9 (den (d + 1) 105) 105 105 108 [some (vr 3 0), some (vl y1), none, some (vi x3), none] [] (cal d 108 [vr 3 0, vi 3, vi x3] (MX I J T)))).trans (by simp only [ite_dec])
set_option maxRecDepth 100000 in
theorem b105_108 (d : Nat) (y1 : Int64) (x3 : Int32) (v : Int32) (I : PI) (J : PJ) (T : TL) : den d 105 108 [some (vr 3 0), some (vl y1), none, some (vi x3), none] [vi v] (MX I J T) = some (.inl (some (vi v)), MX I J T) :=
  (bx_eq [23, 80] d 105 1 108 _ _ _).symm.trans rfl
set_option maxRecDepth 100000 in
theorem b105_130 (d : Nat) (y1 : Int64) (x3 : Int32) (v : Int64) (I : PI) (J : PJ) (T : TL) : den (d + 1) 105 130 [some (vr 3 0), some (vl y1), none, some (vi x3), none] [vl v] (MX I J T) = (if (lg_cmp v 0) = 0 then ret9 (den (d + 1) 105) 105 157 160 [some (vr 3 0), some (vl y1), none, some (vl v), none] [] (cal d 108 [vr 3 0, vi 0, vi (-2)] (MX I J T)) else ret9 (den (d + 1) 105) 105 144 147 [some (vr 3 0), some (vl y1), none, some (vl v), none] [vi 4, vr 3 0] (cal d 107 [vl v] (MX I J T))) :=
  ((bx_eq [23, 80] (d + 1) 105 10 130 _ _ _).symm.trans rfl : _ = (if decide ((lg_cmp v 0) = 0) = true then ret9 (den (d + 1) 105) 105 157 160 [some (vr 3 0), some (vl y1), none, some (vl v), none] [] (cal d 108 [vr 3 0, vi 0, vi (-2)] (MX I J T)) else ret9 (den (d + 1) 105) 105 144 147 [some (vr 3 0), some (vl y1), none, some (vl v), none] [vi 4, vr 3 0] (cal d 107 [vl v] (MX I J T)))).trans (by simp only [ite_dec])
set_option maxRecDepth 100000 in
theorem b105_147 (d : Nat) (y1 : Int64) (y3 : Int64) (s1 : Int32) (v : Int32) (I : PI) (J : PJ) (T : TL) : den (d + 1) 105 147 [some (vr 3 0), some (vl y1), none, some (vl y3), none] [vi v, vi s1, vr 3 0] (MX I J T) = ret9 (den (d + 1) 105) 105 147 150 [some (vr 3 0), some (vl y1), none, some (vl y3), none] [] (cal d 108 [vr 3 0, vi s1, vi v] (MX I J T)) :=
  (bx_eq [23, 80] (d + 1) 105 1 147 _ _ _).symm.trans rfl
set_option maxRecDepth 100000 in
theorem b105_150 (d : Nat) (y1 : Int64) (y3 : Int64) (v : Int32) (I : PI) (J : PJ) (T : TL) : den d 105 150 [some (vr 3 0), some (vl y1), none, some (vl y3), none] [vi v] (MX I J T) = some (.inl (some (vi v)), MX I J T) :=
  (bx_eq [23, 80] d 105 2 150 _ _ _).symm.trans rfl
set_option maxRecDepth 100000 in
theorem b105_160 (d : Nat) (y1 : Int64) (y3 : Int64) (v : Int32) (I : PI) (J : PJ) (T : TL) : den d 105 160 [some (vr 3 0), some (vl y1), none, some (vl y3), none] [vi v] (MX I J T) = some (.inl (some (vi v)), MX I J T) :=
  (bx_eq [23, 80] d 105 1 160 _ _ _).symm.trans rfl
-- 106 WF_Drawing_free
set_option maxRecDepth 100000 in
theorem c106 (d : Nat) (I : PI) (J : PJ) (T : TL) : cal (d + 1) 106 [vr 3 0] (MX I J T) = ret9 (den (d + 1) 106) 106 20 23 [some (vr 3 0)] [vl ((J 5 0 12) &&& ((J 5 0 13) ^^^ (-1)))] (cal d 101 [vr 3 0] (MX I J T)) :=
  (bx_eq [] (d + 1) 106 11 0 _ _ _).symm.trans rfl
set_option maxRecDepth 100000 in
theorem b106_23 (d : Nat) (t0 : Int64) (v : Int64) (I : PI) (J : PJ) (T : TL) : den d 106 23 [some (vr 3 0)] [vl v, vl t0] (MX I J T) = some (.inl (some (vl (t0 &&& (v ^^^ (-1))))), MX I J T) :=
  (bx_eq [] d 106 4 23 _ _ _).symm.trans rfl
-- 107 WF_Ground_least
set_option maxRecDepth 100000 in
theorem c107 (d : Nat) (y0 : Int64) (I : PI) (J : PJ) (T : TL) : cal (d + 1) 107 [vl y0] (MX I J T) = ret9 (den (d + 1) 107) 107 6 9 [some (vl y0), none] [] (cal d 103 [vl ((y0 &&& (-y0)) - 1)] (MX I J T)) :=
  (bx_eq [] (d + 1) 107 7 0 _ _ _).symm.trans rfl
set_option maxRecDepth 100000 in
theorem b107_9 (d : Nat) (y0 : Int64) (v : Int32) (I : PI) (J : PJ) (T : TL) : den d 107 9 [some (vl y0), none] [vi v] (MX I J T) = some (.inl (some (vi v)), MX I J T) :=
  (bx_eq [] d 107 1 9 _ _ _).symm.trans rfl
-- 108 WF_Drawing_barredBy
set_option maxRecDepth 100000 in
theorem c108 (d : Nat) (x1 : Int32) (x2 : Int32) (I : PI) (J : PJ) (T : TL) : cal d 108 [vr 3 0, vi x1, vi x2] (MX I J T) = some (.inl (some (vi x1)), MX (up3 I 3 0 3 x2) J T) :=
  (bx_eq [] d 108 5 0 _ _ _).symm.trans rfl
-- 109 WF_Ground_hangsTogether
set_option maxRecDepth 100000 in
theorem c109 (d : Nat) (y1 : Int64) (I : PI) (J : PJ) (T : TL) : cal d 109 [vr 5 0, vl y1] (MX I J T) = den d 109 9 [some (vr 5 0), some (vl y1), none, some (vl ((J 5 0 14) ^^^ (-1))), none, none, none, none, none, none, none, none] [] (MX I J T) :=
  (bx_eq [9, 19, 25, 28, 37, 74, 82, 85, 89, 92, 95, 102, 106, 107] d 109 5 0 _ _ _).symm.trans rfl
set_option maxRecDepth 100000 in
theorem b109_9 (d : Nat) (y1 : Int64) (y3 : Int64) (I : PI) (J : PJ) (T : TL) : den d 109 9 [some (vr 5 0), some (vl y1), none, some (vl y3), none, none, none, none, none, none, none, none] [] (MX I J T) = den d 109 19 [some (vr 5 0), some (vl y1), none, some (vl y3), none, some (vl ((J 5 0 15) ^^^ (-1))), none, none, none, none, none, none] [] (MX I J T) :=
  (bx_eq [9, 19, 25, 28, 37, 74, 82, 85, 89, 92, 95, 102, 106, 107] d 109 5 9 _ _ _).symm.trans rfl
set_option maxRecDepth 100000 in
theorem b109_19 (d : Nat) (y1 : Int64) (y3 : Int64) (y5 : Int64) (I : PI) (J : PJ) (T : TL) : den d 109 19 [some (vr 5 0), some (vl y1), none, some (vl y3), none, some (vl y5), none, none, none, none, none, none] [] (MX I J T) = den d 109 25 [some (vr 5 0), some (vl y1), none, some (vl y3), none, some (vl y5), none, some (vl (y1 &&& (-y1))), none, none, none, none] [] (MX I J T) :=
  (bx_eq [9, 19, 25, 28, 37, 74, 82, 85, 89, 92, 95, 102, 106, 107] d 109 5 19 _ _ _).symm.trans rfl
set_option maxRecDepth 100000 in
theorem b109_25 (d : Nat) (y1 : Int64) (y3 : Int64) (y5 : Int64) (y7 : Int64) (I : PI) (J : PJ) (T : TL) : den d 109 25 [some (vr 5 0), some (vl y1), none, some (vl y3), none, some (vl y5), none, some (vl y7), none, none, none, none] [] (MX I J T) = den d 109 28 [some (vr 5 0), some (vl y1), none, some (vl y3), none, some (vl y5), none, some (vl y7), none, some (vi 0), none, none] [] (MX I J T) :=
  (bx_eq [9, 19, 25, 28, 37, 74, 82, 85, 89, 92, 95, 102, 106, 107] d 109 2 25 _ _ _).symm.trans rfl
set_option maxRecDepth 100000 in
theorem b109_28 (d : Nat) (y1 : Int64) (y3 : Int64) (y5 : Int64) (y7 : Int64) (x9 : Int32) (o10 : Option AV) (I : PI) (J : PJ) (T : TL) : den d 109 28 [some (vr 5 0), some (vl y1), none, some (vl y3), none, some (vl y5), none, some (vl y7), none, some (vi x9), o10, none] [] (MX I J T) = (if (I 5 0 9) ≤ x9 then den d 109 95 [some (vr 5 0), some (vl y1), none, some (vl y3), none, some (vl y5), none, some (vl y7), none, some (vi x9), o10, none] [] (MX I J T) else den d 109 37 [some (vr 5 0), some (vl y1), none, some (vl y3), none, some (vl y5), none, some (vl y7), none, some (vi x9), o10, none] [] (MX I J T)) :=
  ((bx_eq [9, 19, 25, 28, 37, 74, 82, 85, 89, 92, 95, 102, 106, 107] d 109 4 28 _ _ _).symm.trans rfl : _ = (if decide ((I 5 0 9) ≤ x9) = true then den d 109 95 [some (vr 5 0), some (vl y1), none, some (vl y3), none, some (vl y5), none, some (vl y7), none, some (vi x9), o10, none] [] (MX I J T) else den d 109 37 [some (vr 5 0), some (vl y1), none, some (vl y3), none, some (vl y5), none, some (vl y7), none, some (vi x9), o10, none] [] (MX I J T))).trans (by simp only [ite_dec])
set_option maxRecDepth 100000 in
theorem b109_37 (d : Nat) (y1 : Int64) (y3 : Int64) (y5 : Int64) (y7 : Int64) (x9 : Int32) (o10 : Option AV) (I : PI) (J : PJ) (T : TL) : den d 109 37 [some (vr 5 0), some (vl y1), none, some (vl y3), none, some (vl y5), none, some (vl y7), none, some (vi x9), o10, none] [] (MX I J T) = den d 109 74 [some (vr 5 0), some (vl y1), none, some (vl y3), none, some (vl y5), none, some (vl y7), none, some (vi x9), some (vl (((((y7 ||| (lsh9 (y7 &&& y5) 1)) ||| (lus9 (y7 &&& y3) 1)) ||| (lsh9 y7 (I 5 0 7))) ||| (lus9 y7 (I 5 0 7))) &&& y1)), none] [] (MX I J T) :=
  (bx_eq [9, 19, 25, 28, 37, 74, 82, 85, 89, 92, 95, 102, 106, 107] d 109 26 37 _ _ _).symm.trans rfl
set_option maxRecDepth 100000 in
theorem b109_74 (d : Nat) (y1 : Int64) (y3 : Int64) (y5 : Int64) (y7 : Int64) (x9 : Int32) (y10 : Int64) (I : PI) (J : PJ) (T : TL) : den d 109 74 [some (vr 5 0), some (vl y1), none, some (vl y3), none, some (vl y5), none, some (vl y7), none, some (vi x9), some (vl y10), none] [] (MX I J T) = (if ¬ (lg_cmp y10 y7) = 0 then den d 109 85 [some (vr 5 0), some (vl y1), none, some (vl y3), none, some (vl y5), none, some (vl y7), none, some (vi x9), some (vl y10), none] [] (MX I J T) else den d 109 82 [some (vr 5 0), some (vl y1), none, some (vl y3), none, some (vl y5), none, some (vl y7), none, some (vi x9), some (vl y10), none] [] (MX I J T)) :=
  ((bx_eq [9, 19, 25, 28, 37, 74, 82, 85, 89, 92, 95, 102, 106, 107] d 109 4 74 _ _ _).symm.trans rfl : _ = (if decide (¬ (lg_cmp y10 y7) = 0) = true then den d 109 85 [some (vr 5 0), some (vl y1), none, some (vl y3), none, some (vl y5), none, some (vl y7), none, some (vi x9), some (vl y10), none] [] (MX I J T) else den d 109 82 [some (vr 5 0), some (vl y1), none, some (vl y3), none, some (vl y5), none, some (vl y7), none, some (vi x9), some (vl y10), none] [] (MX I J T))).trans (by simp only [ite_dec])
set_option maxRecDepth 100000 in
theorem b109_82 (d : Nat) (y1 : Int64) (y3 : Int64) (y5 : Int64) (y7 : Int64) (x9 : Int32) (y10 : Int64) (I : PI) (J : PJ) (T : TL) : den d 109 82 [some (vr 5 0), some (vl y1), none, some (vl y3), none, some (vl y5), none, some (vl y7), none, some (vi x9), some (vl y10), none] [] (MX I J T) = den d 109 95 [some (vr 5 0), some (vl y1), none, some (vl y3), none, some (vl y5), none, some (vl y7), none, some (vi x9), some (vl y10), none] [] (MX I J T) :=
  (bx_eq [9, 19, 25, 28, 37, 74, 82, 85, 89, 92, 95, 102, 106, 107] d 109 1 82 _ _ _).symm.trans rfl
set_option maxRecDepth 100000 in
theorem b109_85 (d : Nat) (y1 : Int64) (y3 : Int64) (y5 : Int64) (y7 : Int64) (x9 : Int32) (y10 : Int64) (I : PI) (J : PJ) (T : TL) : den d 109 85 [some (vr 5 0), some (vl y1), none, some (vl y3), none, some (vl y5), none, some (vl y7), none, some (vi x9), some (vl y10), none] [] (MX I J T) = den d 109 89 [some (vr 5 0), some (vl y1), none, some (vl y3), none, some (vl y5), none, some (vl y10), none, some (vi x9), some (vl y10), none] [] (MX I J T) :=
  (bx_eq [9, 19, 25, 28, 37, 74, 82, 85, 89, 92, 95, 102, 106, 107] d 109 2 85 _ _ _).symm.trans rfl
set_option maxRecDepth 100000 in
theorem b109_89 (d : Nat) (y1 : Int64) (y3 : Int64) (y5 : Int64) (y7 : Int64) (x9 : Int32) (y10 : Int64) (I : PI) (J : PJ) (T : TL) : den d 109 89 [some (vr 5 0), some (vl y1), none, some (vl y3), none, some (vl y5), none, some (vl y7), none, some (vi x9), some (vl y10), none] [] (MX I J T) = den d 109 92 [some (vr 5 0), some (vl y1), none, some (vl y3), none, some (vl y5), none, some (vl y7), none, some (vi (x9 + 1)), some (vl y10), none] [] (MX I J T) :=
  (bx_eq [9, 19, 25, 28, 37, 74, 82, 85, 89, 92, 95, 102, 106, 107] d 109 1 89 _ _ _).symm.trans rfl
set_option maxRecDepth 100000 in
theorem b109_92 (d : Nat) (y1 : Int64) (y3 : Int64) (y5 : Int64) (y7 : Int64) (x9 : Int32) (y10 : Int64) (I : PI) (J : PJ) (T : TL) : den d 109 92 [some (vr 5 0), some (vl y1), none, some (vl y3), none, some (vl y5), none, some (vl y7), none, some (vi x9), some (vl y10), none] [] (MX I J T) = den d 109 28 [some (vr 5 0), some (vl y1), none, some (vl y3), none, some (vl y5), none, some (vl y7), none, some (vi x9), some (vl y10), none] [] (MX I J T) :=
  (bx_eq [9, 19, 25, 28, 37, 74, 82, 85, 89, 92, 95, 102, 106, 107] d 109 1 92 _ _ _).symm.trans rfl
set_option maxRecDepth 100000 in
theorem b109_95 (d : Nat) (y1 : Int64) (y3 : Int64) (y5 : Int64) (y7 : Int64) (x9 : Int32) (o10 : Option AV) (I : PI) (J : PJ) (T : TL) : den d 109 95 [some (vr 5 0), some (vl y1), none, some (vl y3), none, some (vl y5), none, some (vl y7), none, some (vi x9), o10, none] [] (MX I J T) = (if ¬ (lg_cmp y7 y1) = 0 then den d 109 106 [some (vr 5 0), some (vl y1), none, some (vl y3), none, some (vl y5), none, some (vl y7), none, some (vi x9), o10, none] [] (MX I J T) else den d 109 102 [some (vr 5 0), some (vl y1), none, some (vl y3), none, some (vl y5), none, some (vl y7), none, some (vi x9), o10, none] [] (MX I J T)) :=
  ((bx_eq [9, 19, 25, 28, 37, 74, 82, 85, 89, 92, 95, 102, 106, 107] d 109 4 95 _ _ _).symm.trans rfl : _ = (if decide (¬ (lg_cmp y7 y1) = 0) = true then den d 109 106 [some (vr 5 0), some (vl y1), none, some (vl y3), none, some (vl y5), none, some (vl y7), none, some (vi x9), o10, none] [] (MX I J T) else den d 109 102 [some (vr 5 0), some (vl y1), none, some (vl y3), none, some (vl y5), none, some (vl y7), none, some (vi x9), o10, none] [] (MX I J T))).trans (by simp only [ite_dec])
set_option maxRecDepth 100000 in
theorem b109_102 (d : Nat) (y1 : Int64) (y3 : Int64) (y5 : Int64) (y7 : Int64) (x9 : Int32) (o10 : Option AV) (I : PI) (J : PJ) (T : TL) : den d 109 102 [some (vr 5 0), some (vl y1), none, some (vl y3), none, some (vl y5), none, some (vl y7), none, some (vi x9), o10, none] [] (MX I J T) = den d 109 107 [some (vr 5 0), some (vl y1), none, some (vl y3), none, some (vl y5), none, some (vl y7), none, some (vi x9), o10, none] [vi 1] (MX I J T) :=
  (bx_eq [9, 19, 25, 28, 37, 74, 82, 85, 89, 92, 95, 102, 106, 107] d 109 2 102 _ _ _).symm.trans rfl
set_option maxRecDepth 100000 in
theorem b109_106 (d : Nat) (y1 : Int64) (y3 : Int64) (y5 : Int64) (y7 : Int64) (x9 : Int32) (o10 : Option AV) (I : PI) (J : PJ) (T : TL) : den d 109 106 [some (vr 5 0), some (vl y1), none, some (vl y3), none, some (vl y5), none, some (vl y7), none, some (vi x9), o10, none] [] (MX I J T) = den d 109 107 [some (vr 5 0), some (vl y1), none, some (vl y3), none, some (vl y5), none, some (vl y7), none, some (vi x9), o10, none] [vi 0] (MX I J T) :=
  (bx_eq [9, 19, 25, 28, 37, 74, 82, 85, 89, 92, 95, 102, 106, 107] d 109 1 106 _ _ _).symm.trans rfl
set_option maxRecDepth 100000 in
theorem b109_107 (d : Nat) (y1 : Int64) (y3 : Int64) (y5 : Int64) (y7 : Int64) (x9 : Int32) (o10 : Option AV) (s0 : Int32) (I : PI) (J : PJ) (T : TL) : den d 109 107 [some (vr 5 0), some (vl y1), none, some (vl y3), none, some (vl y5), none, some (vl y7), none, some (vi x9), o10, none] [vi s0] (MX I J T) = (if s0 = 0 ∨ s0 = 1 then some (.inl (some (vi s0)), MX I J T) else none) :=
  (bx_eq [9, 19, 25, 28, 37, 74, 82, 85, 89, 92, 95, 102, 106, 107] d 109 1 107 _ _ _).symm.trans rfl
-- 110 WF_Drawing_thinOfAll
set_option maxRecDepth 100000 in
theorem c110 (d : Nat) (I : PI) (J : PJ) (T : TL) : cal d 110 [vr 3 0] (MX I J T) = den d 110 4 [some (vr 3 0), some (vl 0), none, some (vi 0)] [] (MX I J T) :=
  (bx_eq [4] d 110 4 0 _ _ _).symm.trans rfl
set_option maxRecDepth 100000 in
theorem b110_4 (d : Nat) (y1 : Int64) (x3 : Int32) (I : PI) (J : PJ) (T : TL) : den (d + 1) 110 4 [some (vr 3 0), some (vl y1), none, some (vi x3)] [] (MX I J T) = (if 6 ≤ x3 then some (.inl (some (vl y1)), MX I J T) else (if inR x3 6 = true then ret9 (den (d + 1) 110) 110 21 24 [some (vr 3 0), some (vl y1), none, some (vi x3)] [vl y1] (cal d 111 [vr 5 0, vl (J 42 1 (Int32.toNatClampNeg x3))] (MX I J T)) else none)) :=
  ((bx_eq [4] (d + 1) 110 11 4 _ _ _).symm.trans rfl : _ = (if decide (6 ≤ x3) = true then some (.inl (some (vl y1)), MX I J T) else (if inR x3 6 = true then ret9 (den (d + 1) 110) 110 21 24 [some (vr 3 0), some (vl y1), none, some (vi x3)] [vl y1] (cal d 111 [vr 5 0, vl (J 42 1 (Int32.toNatClampNeg x3))] (MX I J T)) else none))).trans (by simp only [ite_dec])
set_option maxRecDepth 100000 in
theorem b110_24 (d : Nat) (y1 : Int64) (x3 : Int32) (t0 : Int64) (v : Int64) (I : PI) (J : PJ) (T : TL) : den d 110 24 [some (vr 3 0), some (vl y1), none, some (vi x3)] [vl v, vl t0] (MX I J T) = den d 110 4 [some (vr 3 0), some (vl (t0 ||| v)), none, some (vi (x3 + 1))] [] (MX I J T) :=
  (bx_eq [4] d 110 4 24 _ _ _).symm.trans rfl
-- 111 WF_Ground_thinCells
set_option maxRecDepth 100000 in
theorem c111 (d : Nat) (y1 : Int64) (I : PI) (J : PJ) (T : TL) : cal (d + 1) 111 [vr 5 0, vl y1] (MX I J T) = ret9 (den (d + 1) 111) 111 3 6 [some (vr 5 0), some (vl y1), none, none, none, none, none, none, none] [vl y1] (cal d 60 [vr 5 0, vl y1] (MX I J T)) :=
  (bx_eq [] (d + 1) 111 4 0 _ _ _).symm.trans rfl
set_option maxRecDepth 100000 in
theorem b111_6 (d : Nat) (y1 : Int64) (t0 : Int64) (v : Int64) (I : PI) (J : PJ) (T : TL) : den d 111 6 [some (vr 5 0), some (vl y1), none, none, none, none, none, none, none] [vl v, vl t0] (MX I J T) = some (.inl (some (vl (y1 &&& (((((t0 &&& v) &&& (lus9 (t0 &&& v) (I 5 0 7))) ||| (lsh9 ((t0 &&& v) &&& (lus9 (t0 &&& v) (I 5 0 7))) 1)) ||| (lsh9 (((t0 &&& v) &&& (lus9 (t0 &&& v) (I 5 0 7))) ||| (lsh9 ((t0 &&& v) &&& (lus9 (t0 &&& v) (I 5 0 7))) 1)) (I 5 0 7))) ^^^ (-1))))), MX I J T) :=
  (bx_eq [] d 111 26 6 _ _ _).symm.trans rfl
-- 112 WF_barred
set_option maxRecDepth 100000 in
theorem c112 (d : Nat) (I : PI) (J : PJ) (T : TL) : cal d 112 [vr 11 0] (MX I J T) = some (.inl (some (vi (I 11 0 13))), MX I J T) :=
  (bx_eq [] d 112 3 0 _ _ _).symm.trans rfl
-- 113 WF_envies
set_option maxRecDepth 100000 in
theorem c113 (d : Nat) (x1 : Int32) (x2 : Int32) (I : PI) (J : PJ) (T : TL) : cal (d + 1) 113 [vr 11 0, vi x1, vi x2] (MX I J T) = ret9 (den (d + 1) 113) 113 5 8 [some (vr 11 0), some (vi x1), some (vi x2)] [] (cal d 73 [vr 5 0, vi x1] (MX I J T)) :=
  (bx_eq [] (d + 1) 113 4 0 _ _ _).symm.trans rfl
set_option maxRecDepth 100000 in
theorem b113_8 (d : Nat) (x1 : Int32) (x2 : Int32) (v : Int32) (I : PI) (J : PJ) (T : TL) : den (d + 1) 113 8 [some (vr 11 0), some (vi x1), some (vi x2)] [vi v] (MX I J T) = (if v = 0 then ret9 (den (d + 1) 113) 113 29 32 [some (vr 11 0), some (vi x1), some (vi x2)] [] (cal d 20 [vr 11 0, vi 1] (MX I J T)) else ret9 (den (d + 1) 113) 113 16 19 [some (vr 11 0), some (vi x1), some (vi x2)] [] (cal d 73 [vr 5 0, vi x2] (MX I J T))) :=
  ((bx_eq [] (d + 1) 113 5 8 _ _ _).symm.trans rfl : _ = (if decide (v = 0) = true then ret9 (den (d + 1) 113) 113 29 32 [some (vr 11 0), some (vi x1), some (vi x2)] [] (cal d 20 [vr 11 0, vi 1] (MX I J T)) else ret9 (den (d + 1) 113) 113 16 19 [some (vr 11 0), some (vi x1), some (vi x2)] [] (cal d 73 [vr 5 0, vi x2] (MX I J T)))).trans (by simp only [ite_dec])
set_option maxRecDepth 100000 in
theorem b113_19 (d : Nat) (x1 : Int32) (x2 : Int32) (v : Int32) (I : PI) (J : PJ) (T : TL) : den (d + 1) 113 19 [some (vr 11 0), some (vi x1), some (vi x2)] [vi v] (MX I J T) = (if v = 0 then ret9 (den (d + 1) 113) 113 29 32 [some (vr 11 0), some (vi x1), some (vi x2)] [] (cal d 20 [vr 11 0, vi 1] (MX I J T)) else (if ¬ x1 = x2 then ret9 (den (d + 1) 113) 113 40 43 [some (vr 11 0), some (vi x1), some (vi x2)] [vr 11 0] (cal d 97 [vr 0 0, vi x1, vi x2] (MX I J T)) else ret9 (den (d + 1) 113) 113 29 32 [some (vr 11 0), some (vi x1), some (vi x2)] [] (cal d 20 [vr 11 0, vi 1] (MX I J T)))) :=
  ((bx_eq [] (d + 1) 113 10 19 _ _ _).symm.trans rfl : _ = (if decide (v = 0) = true then ret9 (den (d + 1) 113) 113 29 32 [some (vr 11 0), some (vi x1), some (vi x2)] [] (cal d 20 [vr 11 0, vi 1] (MX I J T)) else (if decide (¬ x1 = x2) = true then ret9 (den (d + 1) 113) 113 40 43 [some (vr 11 0), some (vi x1), some (vi x2)] [vr 11 0] (cal d 97 [vr 0 0, vi x1, vi x2] (MX I J T)) else ret9 (den (d + 1) 113) 113 29 32 [some (vr 11 0), some (vi x1), some (vi x2)] [] (cal d 20 [vr 11 0, vi 1] (MX I J T))))).trans (by simp only [ite_dec])
set_option maxRecDepth 100000 in
theorem b113_32 (d : Nat) (x1 : Int32) (x2 : Int32) (v : Int32) (I : PI) (J : PJ) (T : TL) : den d 113 32 [some (vr 11 0), some (vi x1), some (vi x2)] [vi v] (MX I J T) = some (.inl (some (vi v)), MX I J T) :=
  (bx_eq [] d 113 1 32 _ _ _).symm.trans rfl
set_option maxRecDepth 100000 in
theorem b113_43 (d : Nat) (x1 : Int32) (x2 : Int32) (v : Int32) (I : PI) (J : PJ) (T : TL) : den (d + 1) 113 43 [some (vr 11 0), some (vi x1), some (vi x2)] [vi v, vr 11 0] (MX I J T) = (if v = 0 then ret9 (den (d + 1) 113) 113 51 54 [some (vr 11 0), some (vi x1), some (vi x2)] [] (cal d 51 [vr 11 0, vi 0] (MX I J T)) else ret9 (den (d + 1) 113) 113 51 54 [some (vr 11 0), some (vi x1), some (vi x2)] [] (cal d 51 [vr 11 0, vi 1] (MX I J T))) :=
  ((bx_eq [] (d + 1) 113 4 43 _ _ _).symm.trans rfl : _ = (if decide (v = 0) = true then ret9 (den (d + 1) 113) 113 51 54 [some (vr 11 0), some (vi x1), some (vi x2)] [] (cal d 51 [vr 11 0, vi 0] (MX I J T)) else ret9 (den (d + 1) 113) 113 51 54 [some (vr 11 0), some (vi x1), some (vi x2)] [] (cal d 51 [vr 11 0, vi 1] (MX I J T)))).trans (by simp only [ite_dec])
set_option maxRecDepth 100000 in
theorem b113_54 (d : Nat) (x1 : Int32) (x2 : Int32) (v : Int32) (I : PI) (J : PJ) (T : TL) : den d 113 54 [some (vr 11 0), some (vi x1), some (vi x2)] [vi v] (MX I J T) = some (.inl (some (vi v)), MX I J T) :=
  (bx_eq [] d 113 1 54 _ _ _).symm.trans rfl
-- 114 WF_votes
set_option maxRecDepth 100000 in
theorem c114 (d : Nat) (x1 : Int32) (I : PI) (J : PJ) (T : TL) : cal (d + 1) 114 [vr 11 0, vi x1] (MX I J T) = ret9 (den (d + 1) 114) 114 5 8 [some (vr 11 0), some (vi x1)] [] (cal d 73 [vr 5 0, vi x1] (MX I J T)) :=
  (bx_eq [] (d + 1) 114 4 0 _ _ _).symm.trans rfl
set_option maxRecDepth 100000 in
theorem b114_8 (d : Nat) (x1 : Int32) (v : Int32) (I : PI) (J : PJ) (T : TL) : den (d + 1) 114 8 [some (vr 11 0), some (vi x1)] [vi v] (MX I J T) = (if ¬ v = 0 then ret9 (den (d + 1) 114) 114 23 26 [some (vr 11 0), some (vi x1)] [vr 11 0] (cal d 99 [vr 0 0, vi x1] (MX I J T)) else ret9 (den (d + 1) 114) 114 13 16 [some (vr 11 0), some (vi x1)] [] (cal d 20 [vr 11 0, vi 1] (MX I J T))) :=
  ((bx_eq [] (d + 1) 114 6 8 _ _ _).symm.trans rfl : _ = (if decide (¬ v = 0) = true then ret9 (den (d + 1) 114) 114 23 26 [some (vr 11 0), some (vi x1)] [vr 11 0] (cal d 99 [vr 0 0, vi x1] (MX I J T)) else ret9 (den (d + 1) 114) 114 13 16 [some (vr 11 0), some (vi x1)] [] (cal d 20 [vr 11 0, vi 1] (MX I J T)))).trans (by simp only [ite_dec])
set_option maxRecDepth 100000 in
theorem b114_16 (d : Nat) (x1 : Int32) (v : Int32) (I : PI) (J : PJ) (T : TL) : den d 114 16 [some (vr 11 0), some (vi x1)] [vi v] (MX I J T) = some (.inl (some (vi v)), MX I J T) :=
  (bx_eq [] d 114 1 16 _ _ _).symm.trans rfl
set_option maxRecDepth 100000 in
theorem b114_26 (d : Nat) (x1 : Int32) (v : Int32) (I : PI) (J : PJ) (T : TL) : den (d + 1) 114 26 [some (vr 11 0), some (vi x1)] [vi v, vr 11 0] (MX I J T) = (if v = 0 then ret9 (den (d + 1) 114) 114 34 37 [some (vr 11 0), some (vi x1)] [] (cal d 51 [vr 11 0, vi 0] (MX I J T)) else ret9 (den (d + 1) 114) 114 34 37 [some (vr 11 0), some (vi x1)] [] (cal d 51 [vr 11 0, vi 1] (MX I J T))) :=
  ((bx_eq [] (d + 1) 114 4 26 _ _ _).symm.trans rfl : _ = (if decide (v = 0) = true then ret9 (den (d + 1) 114) 114 34 37 [some (vr 11 0), some (vi x1)] [] (cal d 51 [vr 11 0, vi 0] (MX I J T)) else ret9 (den (d + 1) 114) 114 34 37 [some (vr 11 0), some (vi x1)] [] (cal d 51 [vr 11 0, vi 1] (MX I J T)))).trans (by simp only [ite_dec])
set_option maxRecDepth 100000 in
theorem b114_37 (d : Nat) (x1 : Int32) (v : Int32) (I : PI) (J : PJ) (T : TL) : den d 114 37 [some (vr 11 0), some (vi x1)] [vi v] (MX I J T) = some (.inl (some (vi v)), MX I J T) :=
  (bx_eq [] d 114 1 37 _ _ _).symm.trans rfl
-- 115 WF_grow
set_option maxRecDepth 100000 in
theorem c115 (d : Nat) (I : PI) (J : PJ) (T : TL) : cal (d + 1) 115 [vr 11 0] (MX I J T) = ret9 (den (d + 1) 115) 115 4 7 [some (vr 11 0)] [] (cal d 74 [vr 5 0] (MX I J T)) :=
  (bx_eq [] (d + 1) 115 3 0 _ _ _).symm.trans rfl
set_option maxRecDepth 100000 in
theorem b115_7 (d : Nat) (v : Int32) (I : PI) (J : PJ) (T : TL) : den (d + 1) 115 7 [some (vr 11 0)] [vi v] (MX I J T) = (if ¬ v = 0 then ret9 (den (d + 1) 115) 115 20 23 [some (vr 11 0)] [] (cal d 116 [vr 3 0] (MX I J T)) else ret9 (den (d + 1) 115) 115 12 15 [some (vr 11 0)] [] (cal d 20 [vr 11 0, vi 1] (MX I J T))) :=
  ((bx_eq [] (d + 1) 115 4 7 _ _ _).symm.trans rfl : _ = (if decide (¬ v = 0) = true then ret9 (den (d + 1) 115) 115 20 23 [some (vr 11 0)] [] (cal d 116 [vr 3 0] (MX I J T)) else ret9 (den (d + 1) 115) 115 12 15 [some (vr 11 0)] [] (cal d 20 [vr 11 0, vi 1] (MX I J T)))).trans (by simp only [ite_dec])
set_option maxRecDepth 100000 in
theorem b115_15 (d : Nat) (v : Int32) (I : PI) (J : PJ) (T : TL) : den d 115 15 [some (vr 11 0)] [vi v] (MX I J T) = some (.inl (some (vi v)), MX I J T) :=
  (bx_eq [] d 115 1 15 _ _ _).symm.trans rfl
set_option maxRecDepth 100000 in
theorem b115_23 (d : Nat) (I : PI) (J : PJ) (T : TL) : den (d + 1) 115 23 [some (vr 11 0)] [] (MX I J T) = ret9 (den (d + 1) 115) 115 28 31 [some (vr 11 0)] [vr 11 0] (cal d 106 [vr 3 0] (MX I J T)) :=
  (bx_eq [] (d + 1) 115 4 23 _ _ _).symm.trans rfl
set_option maxRecDepth 100000 in
theorem b115_31 (d : Nat) (v : Int64) (I : PI) (J : PJ) (T : TL) : den (d + 1) 115 31 [some (vr 11 0)] [vl v, vr 11 0] (MX I J T) = ret9 (den (d + 1) 115) 115 31 34 [some (vr 11 0)] [vr 11 0] (cal d 103 [vl v] (MX I J T)) :=
  (bx_eq [] (d + 1) 115 1 31 _ _ _).symm.trans rfl
set_option maxRecDepth 100000 in
theorem b115_34 (d : Nat) (v : Int32) (I : PI) (J : PJ) (T : TL) : den (d + 1) 115 34 [some (vr 11 0)] [vi v, vr 11 0] (MX I J T) = ret9 (den (d + 1) 115) 115 34 37 [some (vr 11 0)] [] (cal d 51 [vr 11 0, vi v] (MX I J T)) :=
  (bx_eq [] (d + 1) 115 1 34 _ _ _).symm.trans rfl
set_option maxRecDepth 100000 in
theorem b115_37 (d : Nat) (v : Int32) (I : PI) (J : PJ) (T : TL) : den d 115 37 [some (vr 11 0)] [vi v] (MX I J T) = some (.inl (some (vi v)), MX I J T) :=
  (bx_eq [] d 115 1 37 _ _ _).symm.trans rfl
-- 116 WF_Drawing_growFromDoors
set_option maxRecDepth 100000 in
theorem c116 (d : Nat) (I : PI) (J : PJ) (T : TL) : cal (d + 1) 116 [vr 3 0] (MX I J T) = ret9 (den (d + 1) 116) 116 1 4 [some (vr 3 0), none, none, none] [] (cal d 14 [vr 3 0] (MX I J T)) :=
  (bx_eq [16, 35] (d + 1) 116 2 0 _ _ _).symm.trans rfl
set_option maxRecDepth 100000 in
theorem b116_4 (d : Nat) (I : PI) (J : PJ) (T : TL) : den (d + 1) 116 4 [some (vr 3 0), none, none, none] [] (MX I J T) = ret9 (den (d + 1) 116) 116 5 8 [some (vr 3 0), none, none, none] [] (cal d 117 [vr 3 0] (MX I J T)) :=
  (bx_eq [16, 35] (d + 1) 116 2 4 _ _ _).symm.trans rfl
set_option maxRecDepth 100000 in
theorem b116_8 (d : Nat) (I : PI) (J : PJ) (T : TL) : den (d + 1) 116 8 [some (vr 3 0), none, none, none] [] (MX I J T) = ret9 (den (d + 1) 116) 116 9 12 [some (vr 3 0), none, none, none] [] (cal d 118 [vr 3 0] (MX I J T)) :=
  (bx_eq [16, 35] (d + 1) 116 2 8 _ _ _).symm.trans rfl
set_option maxRecDepth 100000 in
theorem b116_12 (d : Nat) (I : PI) (J : PJ) (T : TL) : den d 116 12 [some (vr 3 0), none, none, none] [] (MX I J T) = den d 116 16 [some (vr 3 0), some (vi 1), some (vi 0), none] [] (MX I J T) :=
  (bx_eq [16, 35] d 116 4 12 _ _ _).symm.trans rfl
set_option maxRecDepth 100000 in
theorem b116_16 (d : Nat) (x1 : Int32) (x2 : Int32) (o3 : Option AV) (I : PI) (J : PJ) (T : TL) : den d 116 16 [some (vr 3 0), some (vi x1), some (vi x2), o3] [] (MX I J T) = (if (I 5 0 9) < x2 then some (.inl none, MX I J T) else (if x1 = 0 then some (.inl none, MX I J T) else den d 116 35 [some (vr 3 0), some (vi 0), some (vi x2), some (vi 0)] [] (MX I J T))) :=
  ((bx_eq [16, 35] d 116 11 16 _ _ _).symm.trans rfl : _ = (if decide ((I 5 0 9) < x2) = true then some (.inl none, MX I J T) else (if decide (x1 = 0) = true then some (.inl none, MX I J T) else den d 116 35 [some (vr 3 0), some (vi 0), some (vi x2), some (vi 0)] [] (MX I J T)))).trans (by simp only [ite_dec])
set_option maxRecDepth 100000 in
theorem b116_35 (d : Nat) (x1 : Int32) (x2 : Int32) (x3 : Int32) (I : PI) (J : PJ) (T : TL) : den (d + 1) 116 35 [some (vr 3 0), some (vi x1), some (vi x2), some (vi x3)] [] (MX I J T) = (if (I 1 T.1 3) ≤ x3 then den (d + 1) 116 16 [some (vr 3 0), some (vi x1), some (vi (x2 + 1)), some (vi x3)] [] (MX I J T) else ret9 (den (d + 1) 116) 116 52 55 [some (vr 3 0), some (vi x1), some (vi x2), some (vi x3)] [vi x1] (cal d 119 [vr 3 0, vi x3] (MX I J T))) :=
  ((bx_eq [16, 35] (d + 1) 116 10 35 _ _ _).symm.trans rfl : _ = (if decide ((I 1 T.1 3) ≤ x3) = true then den (d + 1) 116 16 [some (vr 3 0), some (vi x1), some (vi (x2 + 1)), some (vi x3)] [] (MX I J T) else ret9 (den (d + 1) 116) 116 52 55 [some (vr 3 0), some (vi x1), some (vi x2), some (vi x3)] [vi x1] (cal d 119 [vr 3 0, vi x3] (MX I J T)))).trans (by simp only [ite_dec])
set_option maxRecDepth 100000 in
theorem b116_55 (d : Nat) (x1 : Int32) (x2 : Int32) (x3 : Int32) (s0 : Int32) (v : Int32) (I : PI) (J : PJ) (T : TL) : den d 116 55 [some (vr 3 0), some (vi x1), some (vi x2), some (vi x3)] [vi v, vi s0] (MX I J T) = den d 116 35 [some (vr 3 0), some (vi (s0 ||| v)), some (vi x2), some (vi (x3 + 1))] [] (MX I J T) :=
  (bx_eq [16, 35] d 116 4 55 _ _ _).symm.trans rfl
-- 117 WF_Drawing_giveKept
set_option maxRecDepth 100000 in
theorem c117 (d : Nat) (I : PI) (J : PJ) (T : TL) : cal d 117 [vr 3 0] (MX I J T) = den d 117 2 [some (vr 3 0), some (vi 0)] [] (MX I J T) :=
  (bx_eq [2] d 117 2 0 _ _ _).symm.trans rfl
set_option maxRecDepth 100000 in
theorem b117_2 (d : Nat) (x1 : Int32) (I : PI) (J : PJ) (T : TL) : den (d + 1) 117 2 [some (vr 3 0), some (vi x1)] [] (MX I J T) = (if (I 5 0 9) ≤ x1 then some (.inl none, MX I J T) else (if inR x1 64 = true then (if (I 28 2 (Int32.toNatClampNeg x1)) = (-1) then den (d + 1) 117 2 [some (vr 3 0), some (vi (x1 + 1))] [] (MX I J T) else (if inR x1 64 = true then ret9 (den (d + 1) 117) 117 37 40 [some (vr 3 0), some (vi x1)] [] (cal d 82 [vr 3 0, vi x1, vi (I 28 2 (Int32.toNatClampNeg x1))] (MX I J T)) else none)) else none)) :=
  ((bx_eq [2] (d + 1) 117 20 2 _ _ _).symm.trans rfl : _ = (if decide ((I 5 0 9) ≤ x1) = true then some (.inl none, MX I J T) else (if inR x1 64 = true then (if decide ((I 28 2 (Int32.toNatClampNeg x1)) = (-1)) = true then den (d + 1) 117 2 [some (vr 3 0), some (vi (x1 + 1))] [] (MX I J T) else (if inR x1 64 = true then ret9 (den (d + 1) 117) 117 37 40 [some (vr 3 0), some (vi x1)] [] (cal d 82 [vr 3 0, vi x1, vi (I 28 2 (Int32.toNatClampNeg x1))] (MX I J T)) else none)) else none))).trans (by simp only [ite_dec])
set_option maxRecDepth 100000 in
theorem b117_40 (d : Nat) (x1 : Int32) (I : PI) (J : PJ) (T : TL) : den d 117 40 [some (vr 3 0), some (vi x1)] [] (MX I J T) = den d 117 2 [some (vr 3 0), some (vi (x1 + 1))] [] (MX I J T) :=
  (bx_eq [2] d 117 2 40 _ _ _).symm.trans rfl
-- 118 WF_Drawing_giveDoors
set_option maxRecDepth 100000 in
theorem c118 (d : Nat) (I : PI) (J : PJ) (T : TL) : cal d 118 [vr 3 0] (MX I J T) = den d 118 2 [some (vr 3 0), some (vi 0), none] [] (MX I J T) :=
  (bx_eq [2] d 118 2 0 _ _ _).symm.trans rfl
set_option maxRecDepth 100000 in
theorem b118_2 (d : Nat) (x1 : Int32) (o2 : Option AV) (I : PI) (J : PJ) (T : TL) : den (d + 1) 118 2 [some (vr 3 0), some (vi x1), o2] [] (MX I J T) = (if (I 1 T.1 3) ≤ x1 then some (.inl none, MX I J T) else (if inR x1 6 = true then ret9 (den (d + 1) 118) 118 31 34 [some (vr 3 0), some (vi x1), some (vi (I 21 3 (Int32.toNatClampNeg x1)))] [] (cal d 94 [vr 5 0, vi (I 21 3 (Int32.toNatClampNeg x1))] (MX I J T)) else none)) :=
  ((bx_eq [2] (d + 1) 118 16 2 _ _ _).symm.trans rfl : _ = (if decide ((I 1 T.1 3) ≤ x1) = true then some (.inl none, MX I J T) else (if inR x1 6 = true then ret9 (den (d + 1) 118) 118 31 34 [some (vr 3 0), some (vi x1), some (vi (I 21 3 (Int32.toNatClampNeg x1)))] [] (cal d 94 [vr 5 0, vi (I 21 3 (Int32.toNatClampNeg x1))] (MX I J T)) else none))).trans (by simp only [ite_dec])
set_option maxRecDepth 100000 in
theorem b118_34 (d : Nat) (x1 : Int32) (x2 : Int32) (v : Int32) (I : PI) (J : PJ) (T : TL) : den (d + 1) 118 34 [some (vr 3 0), some (vi x1), some (vi x2)] [vi v] (MX I J T) = (if ¬ v = 0 then den (d + 1) 118 2 [some (vr 3 0), some (vi (x1 + 1)), some (vi x2)] [] (MX I J T) else (if inR x2 64 = true then (if ¬ (I 28 3 (Int32.toNatClampNeg x2)) = (-1) then den (d + 1) 118 2 [some (vr 3 0), some (vi (x1 + 1)), some (vi x2)] [] (MX I J T) else ret9 (den (d + 1) 118) 118 50 53 [some (vr 3 0), some (vi x1), some (vi x2)] [] (cal d 82 [vr 3 0, vi x2, vi x1] (MX I J T))) else none)) :=
  ((bx_eq [2] (d + 1) 118 11 34 _ _ _).symm.trans rfl : _ = (if decide (¬ v = 0) = true then den (d + 1) 118 2 [some (vr 3 0), some (vi (x1 + 1)), some (vi x2)] [] (MX I J T) else (if inR x2 64 = true then (if decide (¬ (I 28 3 (Int32.toNatClampNeg x2)) = (-1)) = true then den (d + 1) 118 2 [some (vr 3 0), some (vi (x1 + 1)), some (vi x2)] [] (MX I J T) else ret9 (den (d + 1) 118) 118 50 53 [some (vr 3 0), some (vi x1), some (vi x2)] [] (cal d 82 [vr 3 0, vi x2, vi x1] (MX I J T))) else none))).trans (by simp only [ite_dec])
set_option maxRecDepth 100000 in
theorem b118_53 (d : Nat) (x1 : Int32) (x2 : Int32) (I : PI) (J : PJ) (T : TL) : den d 118 53 [some (vr 3 0), some (vi x1), some (vi x2)] [] (MX I J T) = den d 118 2 [some (vr 3 0), some (vi (x1 + 1)), some (vi x2)] [] (MX I J T) :=
  (bx_eq [2] d 118 2 53 _ _ _).symm.trans rfl
-- 119 WF_Drawing_takeOne
set_option maxRecDepth 100000 in
theorem c119 (d : Nat) (x1 : Int32) (I : PI) (J : PJ) (T : TL) : cal (d + 1) 119 [vr 3 0, vi x1] (MX I J T) = (if inR x1 6 = true then ret9 (den (d + 1) 119) 119 10 13 [some (vr 3 0), some (vi x1), none, none, none, none, none] [] (cal d 58 [vr 5 0, vl (J 42 1 (Int32.toNatClampNeg x1))] (MX I J T)) else none) :=
  (bx_eq [28] (d + 1) 119 7 0 _ _ _).symm.trans rfl
set_option maxRecDepth 100000 in
theorem b119_13 (d : Nat) (x1 : Int32) (v : Int64) (I : PI) (J : PJ) (T : TL) : den (d + 1) 119 13 [some (vr 3 0), some (vi x1), none, none, none, none, none] [vl v] (MX I J T) = ret9 (den (d + 1) 119) 119 14 17 [some (vr 3 0), some (vi x1), none, none, none, none, none] [vl v] (cal d 106 [vr 3 0] (MX I J T)) :=
  (bx_eq [28] (d + 1) 119 2 13 _ _ _).symm.trans rfl
set_option maxRecDepth 100000 in
theorem b119_17 (d : Nat) (x1 : Int32) (t0 : Int64) (v : Int64) (I : PI) (J : PJ) (T : TL) : den d 119 17 [some (vr 3 0), some (vi x1), none, none, none, none, none] [vl v, vl t0] (MX I J T) = den d 119 28 [some (vr 3 0), some (vi x1), some (vl (t0 &&& v)), none, some (vi (-1)), some (vi 0), some (vi 0)] [] (MX I J T) :=
  (bx_eq [28] d 119 8 17 _ _ _).symm.trans rfl
set_option maxRecDepth 100000 in
theorem b119_28 (d : Nat) (x1 : Int32) (y2 : Int64) (x4 : Int32) (x5 : Int32) (x6 : Int32) (I : PI) (J : PJ) (T : TL) : den (d + 1) 119 28 [some (vr 3 0), some (vi x1), some (vl y2), none, some (vi x4), some (vi x5), some (vi x6)] [] (MX I J T) = (if (I 5 0 9) ≤ x6 then (if ¬ x4 = (-1) then ret9 (den (d + 1) 119) 119 106 109 [some (vr 3 0), some (vi x1), some (vl y2), none, some (vi x4), some (vi x5), some (vi x6)] [] (cal d 82 [vr 3 0, vi x4, vi x1] (MX I J T)) else some (.inl (some (vi 0)), MX I J T)) else (if (lg_cmp ((lus9 y2 x6) &&& 1) 0) = 0 then den (d + 1) 119 28 [some (vr 3 0), some (vi x1), some (vl y2), none, some (vi x4), some (vi x5), some (vi (x6 + 1))] [] (MX I J T) else (if x4 = (-1) then ret9 (den (d + 1) 119) 119 83 86 [some (vr 3 0), some (vi x1), some (vl y2), none, some (vi x6), some (vi x5), some (vi x6)] [] (cal d 80 [vr 5 0, vi x1, vi x6] (MX I J T)) else ret9 (den (d + 1) 119) 119 64 67 [some (vr 3 0), some (vi x1), some (vl y2), none, some (vi x4), some (vi x5), some (vi x6)] [] (cal d 80 [vr 5 0, vi x1, vi x6] (MX I J T))))) :=
  ((bx_eq [28] (d + 1) 119 23 28 _ _ _).symm.trans rfl : _ = (if decide ((I 5 0 9) ≤ x6) = true then (if decide (¬ x4 = (-1)) = true then ret9 (den (d + 1) 119) 119 106 109 [some (vr 3 0), some (vi x1), some (vl y2), none, some (vi x4), some (vi x5), some (vi x6)] [] (cal d 82 [vr 3 0, vi x4, vi x1] (MX I J T)) else some (.inl (some (vi 0)), MX I J T)) else (if decide ((lg_cmp ((lus9 y2 x6) &&& 1) 0) = 0) = true then den (d + 1) 119 28 [some (vr 3 0), some (vi x1), some (vl y2), none, some (vi x4), some (vi x5), some (vi (x6 + 1))] [] (MX I J T) else (if decide (x4 = (-1)) = true then ret9 (den (d + 1) 119) 119 83 86 [some (vr 3 0), some (vi x1), some (vl y2), none, some (vi x6), some (vi x5), some (vi x6)] [] (cal d 80 [vr 5 0, vi x1, vi x6] (MX I J T)) else ret9 (den (d + 1) 119) 119 64 67 [some (vr 3 0), some (vi x1), some (vl y2), none, some (vi x4), some (vi x5), some (vi x6)] [] (cal d 80 [vr 5 0, vi x1, vi x6] (MX I J T)))))).trans (by simp only [ite_dec])
set_option maxRecDepth 100000 in
theorem b119_67 (d : Nat) (x1 : Int32) (y2 : Int64) (x4 : Int32) (x5 : Int32) (x6 : Int32) (v : Int32) (I : PI) (J : PJ) (T : TL) : den (d + 1) 119 67 [some (vr 3 0), some (vi x1), some (vl y2), none, some (vi x4), some (vi x5), some (vi x6)] [vi v] (MX I J T) = (if v ≤ x5 then den (d + 1) 119 28 [some (vr 3 0), some (vi x1), some (vl y2), none, some (vi x4), some (vi x5), some (vi (x6 + 1))] [] (MX I J T) else ret9 (den (d + 1) 119) 119 83 86 [some (vr 3 0), some (vi x1), some (vl y2), none, some (vi x6), some (vi x5), some (vi x6)] [] (cal d 80 [vr 5 0, vi x1, vi x6] (MX I J T))) :=
  ((bx_eq [28] (d + 1) 119 9 67 _ _ _).symm.trans rfl : _ = (if decide (v ≤ x5) = true then den (d + 1) 119 28 [some (vr 3 0), some (vi x1), some (vl y2), none, some (vi x4), some (vi x5), some (vi (x6 + 1))] [] (MX I J T) else ret9 (den (d + 1) 119) 119 83 86 [some (vr 3 0), some (vi x1), some (vl y2), none, some (vi x6), some (vi x5), some (vi x6)] [] (cal d 80 [vr 5 0, vi x1, vi x6] (MX I J T)))).trans (by simp only [ite_dec])
set_option maxRecDepth 100000 in
theorem b119_86 (d : Nat) (x1 : Int32) (y2 : Int64) (x4 : Int32) (x5 : Int32) (x6 : Int32) (v : Int32) (I : PI) (J : PJ) (T : TL) : den d 119 86 [some (vr 3 0), some (vi x1), some (vl y2), none, some (vi x4), some (vi x5), some (vi x6)] [vi v] (MX I J T) = den d 119 28 [some (vr 3 0), some (vi x1), some (vl y2), none, some (vi x4), some (vi v), some (vi (x6 + 1))] [] (MX I J T) :=
  (bx_eq [28] d 119 3 86 _ _ _).symm.trans rfl
set_option maxRecDepth 100000 in
theorem b119_109 (d : Nat) (x1 : Int32) (y2 : Int64) (x4 : Int32) (x5 : Int32) (x6 : Int32) (I : PI) (J : PJ) (T : TL) : den d 119 109 [some (vr 3 0), some (vi x1), some (vl y2), none, some (vi x4), some (vi x5), some (vi x6)] [] (MX I J T) = some (.inl (some (vi 1)), MX I J T) :=
  (bx_eq [28] d 119 2 109 _ _ _).symm.trans rfl
-- 120 WF_better
set_option maxRecDepth 100000 in
theorem c120 (d : Nat) (x1 : Int32) (I : PI) (J : PJ) (T : TL) : cal (d + 1) 120 [vr 11 0, vi x1] (MX I J T) = ret9 (den (d + 1) 120) 120 4 7 [some (vr 11 0), some (vi x1)] [] (cal d 74 [vr 5 0] (MX I J T)) :=
  (bx_eq [] (d + 1) 120 3 0 _ _ _).symm.trans rfl
set_option maxRecDepth 100000 in
theorem b120_7 (d : Nat) (x1 : Int32) (v : Int32) (I : PI) (J : PJ) (T : TL) : den (d + 1) 120 7 [some (vr 11 0), some (vi x1)] [vi v] (MX I J T) = (if ¬ v = 0 then (if x1 < 1 then ret9 (den (d + 1) 120) 120 29 32 [some (vr 11 0), some (vi x1)] [] (cal d 20 [vr 11 0, vi 2] (MX I J T)) else (if x1 ≤ 100 then ret9 (den (d + 1) 120) 120 37 40 [some (vr 11 0), some (vi x1)] [] (cal d 105 [vr 3 0] (MX I J T)) else ret9 (den (d + 1) 120) 120 29 32 [some (vr 11 0), some (vi x1)] [] (cal d 20 [vr 11 0, vi 2] (MX I J T)))) else ret9 (den (d + 1) 120) 120 12 15 [some (vr 11 0), some (vi x1)] [] (cal d 20 [vr 11 0, vi 1] (MX I J T))) :=
  ((bx_eq [] (d + 1) 120 10 7 _ _ _).symm.trans rfl : _ = (if decide (¬ v = 0) = true then (if decide (x1 < 1) = true then ret9 (den (d + 1) 120) 120 29 32 [some (vr 11 0), some (vi x1)] [] (cal d 20 [vr 11 0, vi 2] (MX I J T)) else (if decide (x1 ≤ 100) = true then ret9 (den (d + 1) 120) 120 37 40 [some (vr 11 0), some (vi x1)] [] (cal d 105 [vr 3 0] (MX I J T)) else ret9 (den (d + 1) 120) 120 29 32 [some (vr 11 0), some (vi x1)] [] (cal d 20 [vr 11 0, vi 2] (MX I J T)))) else ret9 (den (d + 1) 120) 120 12 15 [some (vr 11 0), some (vi x1)] [] (cal d 20 [vr 11 0, vi 1] (MX I J T)))).trans (by simp only [ite_dec])
set_option maxRecDepth 100000 in
theorem b120_15 (d : Nat) (x1 : Int32) (v : Int32) (I : PI) (J : PJ) (T : TL) : den d 120 15 [some (vr 11 0), some (vi x1)] [vi v] (MX I J T) = some (.inl (some (vi v)), MX I J T) :=
  (bx_eq [] d 120 1 15 _ _ _).symm.trans rfl
set_option maxRecDepth 100000 in
theorem b120_32 (d : Nat) (x1 : Int32) (v : Int32) (I : PI) (J : PJ) (T : TL) : den d 120 32 [some (vr 11 0), some (vi x1)] [vi v] (MX I J T) = some (.inl (some (vi v)), MX I J T) :=
  (bx_eq [] d 120 1 32 _ _ _).symm.trans rfl
set_option maxRecDepth 100000 in
theorem b120_40 (d : Nat) (x1 : Int32) (v : Int32) (I : PI) (J : PJ) (T : TL) : den (d + 1) 120 40 [some (vr 11 0), some (vi x1)] [vi v] (MX I J T) = (if v = 0 then ret9 (den (d + 1) 120) 120 55 58 [some (vr 11 0), some (vi x1)] [vr 11 0] (cal d 121 [vr 6 0, vi x1] (MX I J T)) else ret9 (den (d + 1) 120) 120 45 48 [some (vr 11 0), some (vi x1)] [] (cal d 20 [vr 11 0, vi 5] (MX I J T))) :=
  ((bx_eq [] (d + 1) 120 6 40 _ _ _).symm.trans rfl : _ = (if decide (v = 0) = true then ret9 (den (d + 1) 120) 120 55 58 [some (vr 11 0), some (vi x1)] [vr 11 0] (cal d 121 [vr 6 0, vi x1] (MX I J T)) else ret9 (den (d + 1) 120) 120 45 48 [some (vr 11 0), some (vi x1)] [] (cal d 20 [vr 11 0, vi 5] (MX I J T)))).trans (by simp only [ite_dec])
set_option maxRecDepth 100000 in
theorem b120_48 (d : Nat) (x1 : Int32) (v : Int32) (I : PI) (J : PJ) (T : TL) : den d 120 48 [some (vr 11 0), some (vi x1)] [vi v] (MX I J T) = some (.inl (some (vi v)), MX I J T) :=
  (bx_eq [] d 120 1 48 _ _ _).symm.trans rfl
set_option maxRecDepth 100000 in
theorem b120_58 (d : Nat) (x1 : Int32) (v : Int32) (I : PI) (J : PJ) (T : TL) : den (d + 1) 120 58 [some (vr 11 0), some (vi x1)] [vi v, vr 11 0] (MX I J T) = ret9 (den (d + 1) 120) 120 58 61 [some (vr 11 0), some (vi x1)] [] (cal d 51 [vr 11 0, vi v] (MX I J T)) :=
  (bx_eq [] (d + 1) 120 1 58 _ _ _).symm.trans rfl
set_option maxRecDepth 100000 in
theorem b120_61 (d : Nat) (x1 : Int32) (v : Int32) (I : PI) (J : PJ) (T : TL) : den d 120 61 [some (vr 11 0), some (vi x1)] [vi v] (MX I J T) = some (.inl (some (vi v)), MX I J T) :=
  (bx_eq [] d 120 1 61 _ _ _).symm.trans rfl
-- 121 WF_Mover_run
set_option maxRecDepth 100000 in
theorem c121 (d : Nat) (x1 : Int32) (I : PI) (J : PJ) (T : TL) : cal d 121 [vr 6 0, vi x1] (MX I J T) = den d 121 2 [some (vr 6 0), some (vi x1), some (vi 0)] [] (MX I J T) :=
  (bx_eq [2] d 121 2 0 _ _ _).symm.trans rfl
set_option maxRecDepth 100000 in
theorem b121_2 (d : Nat) (x1 : Int32) (x2 : Int32) (I : PI) (J : PJ) (T : TL) : den (d + 1) 121 2 [some (vr 6 0), some (vi x1), some (vi x2)] [] (MX I J T) = (if x1 ≤ x2 then some (.inl (some (vi x1)), MX I J T) else ret9 (den (d + 1) 121) 121 8 11 [some (vr 6 0), some (vi x1), some (vi x2)] [] (cal d 122 [vr 6 0] (MX I J T))) :=
  ((bx_eq [2] (d + 1) 121 5 2 _ _ _).symm.trans rfl : _ = (if decide (x1 ≤ x2) = true then some (.inl (some (vi x1)), MX I J T) else ret9 (den (d + 1) 121) 121 8 11 [some (vr 6 0), some (vi x1), some (vi x2)] [] (cal d 122 [vr 6 0] (MX I J T)))).trans (by simp only [ite_dec])
set_option maxRecDepth 100000 in
theorem b121_11 (d : Nat) (x1 : Int32) (x2 : Int32) (v : Int32) (I : PI) (J : PJ) (T : TL) : den (d + 1) 121 11 [some (vr 6 0), some (vi x1), some (vi x2)] [vi v] (MX I J T) = (if ¬ v = 0 then ret9 (den (d + 1) 121) 121 17 20 [some (vr 6 0), some (vi x1), some (vi x2)] [] (cal d 131 [vr 6 0] (MX I J T)) else some (.inl (some (vi x2)), MX I J T)) :=
  ((bx_eq [2] (d + 1) 121 3 11 _ _ _).symm.trans rfl : _ = (if decide (¬ v = 0) = true then ret9 (den (d + 1) 121) 121 17 20 [some (vr 6 0), some (vi x1), some (vi x2)] [] (cal d 131 [vr 6 0] (MX I J T)) else some (.inl (some (vi x2)), MX I J T))).trans (by simp only [ite_dec])
set_option maxRecDepth 100000 in
theorem b121_20 (d : Nat) (x1 : Int32) (x2 : Int32) (I : PI) (J : PJ) (T : TL) : den d 121 20 [some (vr 6 0), some (vi x1), some (vi x2)] [] (MX I J T) = den d 121 2 [some (vr 6 0), some (vi x1), some (vi (x2 + 1))] [] (MX I J T) :=
  (bx_eq [2] d 121 2 20 _ _ _).symm.trans rfl
-- 122 WF_Mover_seek
set_option maxRecDepth 100000 in
theorem c122 (d : Nat) (I : PI) (J : PJ) (T : TL) : cal d 122 [vr 6 0] (MX I J T) = den d 122 12 [some (vr 6 0), some (vi 0)] [] (MX (up3 (up3 I 6 0 4 0) 6 0 5 0) J T) :=
  (bx_eq [12, 26, 40, 81, 84, 107, 118, 126, 131, 134, 137, 139, 150, 158, 163, 166, 169, 177, 181, 182] d 122 8 0 _ _ _).symm.trans rfl
set_option maxRecDepth 100000 in
theorem b122_12 (d : Nat) (x1 : Int32) (I : PI) (J : PJ) (T : TL) : den d 122 12 [some (vr 6 0), some (vi x1)] [] (MX I J T) = (if (I 1 T.1 3) ≤ x1 then den d 122 84 [some (vr 6 0), some (vi x1)] [] (MX I J T) else den d 122 26 [some (vr 6 0), some (vi x1)] [] (MX I J T)) :=
  ((bx_eq [12, 26, 40, 81, 84, 107, 118, 126, 131, 134, 137, 139, 150, 158, 163, 166, 169, 177, 181, 182] d 122 6 12 _ _ _).symm.trans rfl : _ = (if decide ((I 1 T.1 3) ≤ x1) = true then den d 122 84 [some (vr 6 0), some (vi x1)] [] (MX I J T) else den d 122 26 [some (vr 6 0), some (vi x1)] [] (MX I J T))).trans (by simp only [ite_dec])
set_option maxRecDepth 100000 in
theorem b122_26 (d : Nat) (x1 : Int32) (I : PI) (J : PJ) (T : TL) : den (d + 1) 122 26 [some (vr 6 0), some (vi x1)] [] (MX I J T) = ret9 (den (d + 1) 122) 122 36 39 [some (vr 6 0), some (vi x1)] [vi x1, vr 21 6] (cal d 85 [vr 0 0, vi x1] (MX I J T)) :=
  (bx_eq [12, 26, 40, 81, 84, 107, 118, 126, 131, 134, 137, 139, 150, 158, 163, 166, 169, 177, 181, 182] (d + 1) 122 7 26 _ _ _).symm.trans rfl
set_option maxRecDepth 100000 in
theorem b122_39 (d : Nat) (x1 : Int32) (s1 : Int32) (v : Int32) (I : PI) (J : PJ) (T : TL) : den d 122 39 [some (vr 6 0), some (vi x1)] [vi v, vi s1, vr 21 6] (MX I J T) = (if inR s1 6 = true then den d 122 40 [some (vr 6 0), some (vi x1)] [] (MX (up3 I 21 6 (Int32.toNatClampNeg s1) v) J T) else none) :=
  (bx_eq [12, 26, 40, 81, 84, 107, 118, 126, 131, 134, 137, 139, 150, 158, 163, 166, 169, 177, 181, 182] d 122 1 39 _ _ _).symm.trans rfl
set_option maxRecDepth 100000 in
theorem b122_40 (d : Nat) (x1 : Int32) (I : PI) (J : PJ) (T : TL) : den (d + 1) 122 40 [some (vr 6 0), some (vi x1)] [] (MX I J T) = (if inR x1 6 = true then ret9 (den (d + 1) 122) 122 56 59 [some (vr 6 0), some (vi x1)] [vi (I 6 0 4), vr 6 0] (cal d 92 [vr 0 0, vi x1, vi (I 21 6 (Int32.toNatClampNeg x1))] (MX I J T)) else none) :=
  (bx_eq [12, 26, 40, 81, 84, 107, 118, 126, 131, 134, 137, 139, 150, 158, 163, 166, 169, 177, 181, 182] (d + 1) 122 11 40 _ _ _).symm.trans rfl
set_option maxRecDepth 100000 in
theorem b122_59 (d : Nat) (x1 : Int32) (s1 : Int32) (v : Int32) (I : PI) (J : PJ) (T : TL) : den d 122 59 [some (vr 6 0), some (vi x1)] [vi v, vi s1, vr 6 0] (MX I J T) = (if inR x1 6 = true then den d 122 81 [some (vr 6 0), some (vi (x1 + 1))] [] (MX (up3 (up3 I 6 0 4 (s1 + v)) 6 0 5 ((I 6 0 5) + (I 21 6 (Int32.toNatClampNeg x1)))) J T) else none) :=
  (bx_eq [12, 26, 40, 81, 84, 107, 118, 126, 131, 134, 137, 139, 150, 158, 163, 166, 169, 177, 181, 182] d 122 12 59 _ _ _).symm.trans rfl
set_option maxRecDepth 100000 in
theorem b122_81 (d : Nat) (x1 : Int32) (I : PI) (J : PJ) (T : TL) : den d 122 81 [some (vr 6 0), some (vi x1)] [] (MX I J T) = den d 122 12 [some (vr 6 0), some (vi x1)] [] (MX I J T) :=
  (bx_eq [12, 26, 40, 81, 84, 107, 118, 126, 131, 134, 137, 139, 150, 158, 163, 166, 169, 177, 181, 182] d 122 1 81 _ _ _).symm.trans rfl
set_option maxRecDepth 100000 in
theorem b122_84 (d : Nat) (x1 : Int32) (I : PI) (J : PJ) (T : TL) : den d 122 84 [some (vr 6 0), some (vi x1)] [] (MX I J T) = den d 122 107 [some (vr 6 0), some (vi 0)] [] (MX (up3 (up3 (up3 I 6 0 6 (I 6 0 4)) 6 0 7 (I 6 0 5)) 6 0 8 (-1)) J T) :=
  (bx_eq [12, 26, 40, 81, 84, 107, 118, 126, 131, 134, 137, 139, 150, 158, 163, 166, 169, 177, 181, 182] d 122 13 84 _ _ _).symm.trans rfl
set_option maxRecDepth 100000 in
theorem b122_107 (d : Nat) (x1 : Int32) (I : PI) (J : PJ) (T : TL) : den d 122 107 [some (vr 6 0), some (vi x1)] [] (MX I J T) = (if (I 5 0 9) ≤ x1 then den d 122 137 [some (vr 6 0), some (vi x1)] [] (MX I J T) else den d 122 118 [some (vr 6 0), some (vi x1)] [] (MX I J T)) :=
  ((bx_eq [12, 26, 40, 81, 84, 107, 118, 126, 131, 134, 137, 139, 150, 158, 163, 166, 169, 177, 181, 182] d 122 5 107 _ _ _).symm.trans rfl : _ = (if decide ((I 5 0 9) ≤ x1) = true then den d 122 137 [some (vr 6 0), some (vi x1)] [] (MX I J T) else den d 122 118 [some (vr 6 0), some (vi x1)] [] (MX I J T))).trans (by simp only [ite_dec])
set_option maxRecDepth 100000 in
theorem b122_118 (d : Nat) (x1 : Int32) (I : PI) (J : PJ) (T : TL) : den (d + 1) 122 118 [some (vr 6 0), some (vi x1)] [] (MX I J T) = ret9 (den (d + 1) 122) 122 120 123 [some (vr 6 0), some (vi x1)] [] (cal d 123 [vr 6 0, vi x1] (MX I J T)) :=
  (bx_eq [12, 26, 40, 81, 84, 107, 118, 126, 131, 134, 137, 139, 150, 158, 163, 166, 169, 177, 181, 182] (d + 1) 122 3 118 _ _ _).symm.trans rfl
set_option maxRecDepth 100000 in
theorem b122_123 (d : Nat) (x1 : Int32) (v : Int32) (I : PI) (J : PJ) (T : TL) : den d 122 123 [some (vr 6 0), some (vi x1)] [vi v] (MX I J T) = (if v = 0 then den d 122 131 [some (vr 6 0), some (vi x1)] [] (MX I J T) else den d 122 126 [some (vr 6 0), some (vi x1)] [] (MX I J T)) :=
  ((bx_eq [12, 26, 40, 81, 84, 107, 118, 126, 131, 134, 137, 139, 150, 158, 163, 166, 169, 177, 181, 182] d 122 1 123 _ _ _).symm.trans rfl : _ = (if decide (v = 0) = true then den d 122 131 [some (vr 6 0), some (vi x1)] [] (MX I J T) else den d 122 126 [some (vr 6 0), some (vi x1)] [] (MX I J T))).trans (by simp only [ite_dec])
set_option maxRecDepth 100000 in
theorem b122_126 (d : Nat) (x1 : Int32) (I : PI) (J : PJ) (T : TL) : den (d + 1) 122 126 [some (vr 6 0), some (vi x1)] [] (MX I J T) = ret9 (den (d + 1) 122) 122 128 131 [some (vr 6 0), some (vi x1)] [] (cal d 124 [vr 6 0, vi x1] (MX I J T)) :=
  (bx_eq [12, 26, 40, 81, 84, 107, 118, 126, 131, 134, 137, 139, 150, 158, 163, 166, 169, 177, 181, 182] (d + 1) 122 3 126 _ _ _).symm.trans rfl
set_option maxRecDepth 100000 in
theorem b122_131 (d : Nat) (x1 : Int32) (I : PI) (J : PJ) (T : TL) : den d 122 131 [some (vr 6 0), some (vi x1)] [] (MX I J T) = den d 122 134 [some (vr 6 0), some (vi (x1 + 1))] [] (MX I J T) :=
  (bx_eq [12, 26, 40, 81, 84, 107, 118, 126, 131, 134, 137, 139, 150, 158, 163, 166, 169, 177, 181, 182] d 122 1 131 _ _ _).symm.trans rfl
set_option maxRecDepth 100000 in
theorem b122_134 (d : Nat) (x1 : Int32) (I : PI) (J : PJ) (T : TL) : den d 122 134 [some (vr 6 0), some (vi x1)] [] (MX I J T) = den d 122 107 [some (vr 6 0), some (vi x1)] [] (MX I J T) :=
  (bx_eq [12, 26, 40, 81, 84, 107, 118, 126, 131, 134, 137, 139, 150, 158, 163, 166, 169, 177, 181, 182] d 122 1 134 _ _ _).symm.trans rfl
set_option maxRecDepth 100000 in
theorem b122_137 (d : Nat) (x1 : Int32) (I : PI) (J : PJ) (T : TL) : den d 122 137 [some (vr 6 0), some (vi x1)] [] (MX I J T) = den d 122 139 [some (vr 6 0), some (vi 0)] [] (MX I J T) :=
  (bx_eq [12, 26, 40, 81, 84, 107, 118, 126, 131, 134, 137, 139, 150, 158, 163, 166, 169, 177, 181, 182] d 122 2 137 _ _ _).symm.trans rfl
set_option maxRecDepth 100000 in
theorem b122_139 (d : Nat) (x1 : Int32) (I : PI) (J : PJ) (T : TL) : den d 122 139 [some (vr 6 0), some (vi x1)] [] (MX I J T) = (if (I 5 0 9) ≤ x1 then den d 122 169 [some (vr 6 0), some (vi x1)] [] (MX I J T) else den d 122 150 [some (vr 6 0), some (vi x1)] [] (MX I J T)) :=
  ((bx_eq [12, 26, 40, 81, 84, 107, 118, 126, 131, 134, 137, 139, 150, 158, 163, 166, 169, 177, 181, 182] d 122 5 139 _ _ _).symm.trans rfl : _ = (if decide ((I 5 0 9) ≤ x1) = true then den d 122 169 [some (vr 6 0), some (vi x1)] [] (MX I J T) else den d 122 150 [some (vr 6 0), some (vi x1)] [] (MX I J T))).trans (by simp only [ite_dec])
set_option maxRecDepth 100000 in
theorem b122_150 (d : Nat) (x1 : Int32) (I : PI) (J : PJ) (T : TL) : den (d + 1) 122 150 [some (vr 6 0), some (vi x1)] [] (MX I J T) = ret9 (den (d + 1) 122) 122 152 155 [some (vr 6 0), some (vi x1)] [] (cal d 123 [vr 6 0, vi x1] (MX I J T)) :=
  (bx_eq [12, 26, 40, 81, 84, 107, 118, 126, 131, 134, 137, 139, 150, 158, 163, 166, 169, 177, 181, 182] (d + 1) 122 3 150 _ _ _).symm.trans rfl
set_option maxRecDepth 100000 in
theorem b122_155 (d : Nat) (x1 : Int32) (v : Int32) (I : PI) (J : PJ) (T : TL) : den d 122 155 [some (vr 6 0), some (vi x1)] [vi v] (MX I J T) = (if v = 0 then den d 122 163 [some (vr 6 0), some (vi x1)] [] (MX I J T) else den d 122 158 [some (vr 6 0), some (vi x1)] [] (MX I J T)) :=
  ((bx_eq [12, 26, 40, 81, 84, 107, 118, 126, 131, 134, 137, 139, 150, 158, 163, 166, 169, 177, 181, 182] d 122 1 155 _ _ _).symm.trans rfl : _ = (if decide (v = 0) = true then den d 122 163 [some (vr 6 0), some (vi x1)] [] (MX I J T) else den d 122 158 [some (vr 6 0), some (vi x1)] [] (MX I J T))).trans (by simp only [ite_dec])
set_option maxRecDepth 100000 in
theorem b122_158 (d : Nat) (x1 : Int32) (I : PI) (J : PJ) (T : TL) : den (d + 1) 122 158 [some (vr 6 0), some (vi x1)] [] (MX I J T) = ret9 (den (d + 1) 122) 122 160 163 [some (vr 6 0), some (vi x1)] [] (cal d 130 [vr 6 0, vi x1] (MX I J T)) :=
  (bx_eq [12, 26, 40, 81, 84, 107, 118, 126, 131, 134, 137, 139, 150, 158, 163, 166, 169, 177, 181, 182] (d + 1) 122 3 158 _ _ _).symm.trans rfl
set_option maxRecDepth 100000 in
theorem b122_163 (d : Nat) (x1 : Int32) (I : PI) (J : PJ) (T : TL) : den d 122 163 [some (vr 6 0), some (vi x1)] [] (MX I J T) = den d 122 166 [some (vr 6 0), some (vi (x1 + 1))] [] (MX I J T) :=
  (bx_eq [12, 26, 40, 81, 84, 107, 118, 126, 131, 134, 137, 139, 150, 158, 163, 166, 169, 177, 181, 182] d 122 1 163 _ _ _).symm.trans rfl
set_option maxRecDepth 100000 in
theorem b122_166 (d : Nat) (x1 : Int32) (I : PI) (J : PJ) (T : TL) : den d 122 166 [some (vr 6 0), some (vi x1)] [] (MX I J T) = den d 122 139 [some (vr 6 0), some (vi x1)] [] (MX I J T) :=
  (bx_eq [12, 26, 40, 81, 84, 107, 118, 126, 131, 134, 137, 139, 150, 158, 163, 166, 169, 177, 181, 182] d 122 1 166 _ _ _).symm.trans rfl
set_option maxRecDepth 100000 in
theorem b122_169 (d : Nat) (x1 : Int32) (I : PI) (J : PJ) (T : TL) : den d 122 169 [some (vr 6 0), some (vi x1)] [] (MX I J T) = (if (I 6 0 8) = (-1) then den d 122 181 [some (vr 6 0), some (vi x1)] [] (MX I J T) else den d 122 177 [some (vr 6 0), some (vi x1)] [] (MX I J T)) :=
  ((bx_eq [12, 26, 40, 81, 84, 107, 118, 126, 131, 134, 137, 139, 150, 158, 163, 166, 169, 177, 181, 182] d 122 4 169 _ _ _).symm.trans rfl : _ = (if decide ((I 6 0 8) = (-1)) = true then den d 122 181 [some (vr 6 0), some (vi x1)] [] (MX I J T) else den d 122 177 [some (vr 6 0), some (vi x1)] [] (MX I J T))).trans (by simp only [ite_dec])
set_option maxRecDepth 100000 in
theorem b122_177 (d : Nat) (x1 : Int32) (I : PI) (J : PJ) (T : TL) : den d 122 177 [some (vr 6 0), some (vi x1)] [] (MX I J T) = den d 122 182 [some (vr 6 0), some (vi x1)] [vi 1] (MX I J T) :=
  (bx_eq [12, 26, 40, 81, 84, 107, 118, 126, 131, 134, 137, 139, 150, 158, 163, 166, 169, 177, 181, 182] d 122 2 177 _ _ _).symm.trans rfl
set_option maxRecDepth 100000 in
theorem b122_181 (d : Nat) (x1 : Int32) (I : PI) (J : PJ) (T : TL) : den d 122 181 [some (vr 6 0), some (vi x1)] [] (MX I J T) = den d 122 182 [some (vr 6 0), some (vi x1)] [vi 0] (MX I J T) :=
  (bx_eq [12, 26, 40, 81, 84, 107, 118, 126, 131, 134, 137, 139, 150, 158, 163, 166, 169, 177, 181, 182] d 122 1 181 _ _ _).symm.trans rfl
set_option maxRecDepth 100000 in
theorem b122_182 (d : Nat) (x1 : Int32) (s0 : Int32) (I : PI) (J : PJ) (T : TL) : den d 122 182 [some (vr 6 0), some (vi x1)] [vi s0] (MX I J T) = (if s0 = 0 ∨ s0 = 1 then some (.inl (some (vi s0)), MX I J T) else none) :=
  (bx_eq [12, 26, 40, 81, 84, 107, 118, 126, 131, 134, 137, 139, 150, 158, 163, 166, 169, 177, 181, 182] d 122 1 182 _ _ _).symm.trans rfl
-- 123 WF_Mover_mayMove
set_option maxRecDepth 100000 in
theorem c123 (d : Nat) (x1 : Int32) (I : PI) (J : PJ) (T : TL) : cal (d + 1) 123 [vr 6 0, vi x1] (MX I J T) = ret9 (den (d + 1) 123) 123 5 8 [some (vr 6 0), some (vi x1)] [] (cal d 94 [vr 5 0, vi x1] (MX I J T)) :=
  (bx_eq [] (d + 1) 123 4 0 _ _ _).symm.trans rfl
set_option maxRecDepth 100000 in
theorem b123_8 (d : Nat) (x1 : Int32) (v : Int32) (I : PI) (J : PJ) (T : TL) : den d 123 8 [some (vr 6 0), some (vi x1)] [vi v] (MX I J T) = (if ¬ v = 0 then some (.inl (some (vi 0)), MX I J T) else (if inR x1 64 = true then (if ¬ (I 28 2 (Int32.toNatClampNeg x1)) = (-1) then some (.inl (some (vi 0)), MX I J T) else (if inR x1 64 = true then (if (I 28 3 (Int32.toNatClampNeg x1)) = (-1) then some (.inl (some (vi 0)), MX I J T) else some (.inl (some (vi 1)), MX I J T)) else none)) else none)) :=
  ((bx_eq [] d 123 18 8 _ _ _).symm.trans rfl : _ = (if decide (¬ v = 0) = true then some (.inl (some (vi 0)), MX I J T) else (if inR x1 64 = true then (if decide (¬ (I 28 2 (Int32.toNatClampNeg x1)) = (-1)) = true then some (.inl (some (vi 0)), MX I J T) else (if inR x1 64 = true then (if decide ((I 28 3 (Int32.toNatClampNeg x1)) = (-1)) = true then some (.inl (some (vi 0)), MX I J T) else some (.inl (some (vi 1)), MX I J T)) else none)) else none))).trans (by simp only [ite_dec])
-- 124 WF_Mover_tryOwners
set_option maxRecDepth 100000 in
theorem c124 (d : Nat) (x1 : Int32) (I : PI) (J : PJ) (T : TL) : cal (d + 1) 124 [vr 6 0, vi x1] (MX I J T) = (if inR x1 64 = true then ret9 (den (d + 1) 124) 124 16 19 [some (vr 6 0), some (vi x1), some (vi (I 28 3 (Int32.toNatClampNeg x1))), none, none, none] [] (cal d 80 [vr 5 0, vi (I 28 3 (Int32.toNatClampNeg x1)), vi x1] (MX I J T)) else none) :=
  (bx_eq [23] (d + 1) 124 11 0 _ _ _).symm.trans rfl
set_option maxRecDepth 100000 in
theorem b124_19 (d : Nat) (x1 : Int32) (x2 : Int32) (v : Int32) (I : PI) (J : PJ) (T : TL) : den d 124 19 [some (vr 6 0), some (vi x1), some (vi x2), none, none, none] [vi v] (MX I J T) = den d 124 23 [some (vr 6 0), some (vi x1), some (vi x2), some (vi v), some (vi 0), none] [] (MX I J T) :=
  (bx_eq [23] d 124 3 19 _ _ _).symm.trans rfl
set_option maxRecDepth 100000 in
theorem b124_23 (d : Nat) (x1 : Int32) (x2 : Int32) (x3 : Int32) (x4 : Int32) (o5 : Option AV) (I : PI) (J : PJ) (T : TL) : den (d + 1) 124 23 [some (vr 6 0), some (vi x1), some (vi x2), some (vi x3), some (vi x4), o5] [] (MX I J T) = (if (I 1 T.1 3) ≤ x4 then some (.inl none, MX I J T) else (if x4 = x2 then den (d + 1) 124 23 [some (vr 6 0), some (vi x1), some (vi x2), some (vi x3), some (vi (x4 + 1)), o5] [] (MX I J T) else ret9 (den (d + 1) 124) 124 51 54 [some (vr 6 0), some (vi x1), some (vi x2), some (vi x3), some (vi x4), o5] [] (cal d 80 [vr 5 0, vi x4, vi x1] (MX I J T)))) :=
  ((bx_eq [23] (d + 1) 124 14 23 _ _ _).symm.trans rfl : _ = (if decide ((I 1 T.1 3) ≤ x4) = true then some (.inl none, MX I J T) else (if decide (x4 = x2) = true then den (d + 1) 124 23 [some (vr 6 0), some (vi x1), some (vi x2), some (vi x3), some (vi (x4 + 1)), o5] [] (MX I J T) else ret9 (den (d + 1) 124) 124 51 54 [some (vr 6 0), some (vi x1), some (vi x2), some (vi x3), some (vi x4), o5] [] (cal d 80 [vr 5 0, vi x4, vi x1] (MX I J T))))).trans (by simp only [ite_dec])
set_option maxRecDepth 100000 in
theorem b124_54 (d : Nat) (x1 : Int32) (x2 : Int32) (x3 : Int32) (x4 : Int32) (o5 : Option AV) (v : Int32) (I : PI) (J : PJ) (T : TL) : den (d + 1) 124 54 [some (vr 6 0), some (vi x1), some (vi x2), some (vi x3), some (vi x4), o5] [vi v] (MX I J T) = ret9 (den (d + 1) 124) 124 64 67 [some (vr 6 0), some (vi x1), some (vi x2), some (vi x3), some (vi x4), some (vi v)] [] (cal d 125 [vr 6 0, vi x2, vi (-x3), vi x4, vi v] (MX I J T)) :=
  (bx_eq [23] (d + 1) 124 8 54 _ _ _).symm.trans rfl
set_option maxRecDepth 100000 in
theorem b124_67 (d : Nat) (x1 : Int32) (x2 : Int32) (x3 : Int32) (x4 : Int32) (x5 : Int32) (v : Int32) (I : PI) (J : PJ) (T : TL) : den (d + 1) 124 67 [some (vr 6 0), some (vi x1), some (vi x2), some (vi x3), some (vi x4), some (vi x5)] [vi v] (MX I J T) = (if v = 0 then den (d + 1) 124 23 [some (vr 6 0), some (vi x1), some (vi x2), some (vi x3), some (vi (x4 + 1)), some (vi x5)] [] (MX I J T) else ret9 (den (d + 1) 124) 124 77 80 [some (vr 6 0), some (vi x1), some (vi x2), some (vi x3), some (vi x4), some (vi x5)] [] (cal d 127 [vr 6 0, vi x2, vi x4, vl (lsh9 1 x1)] (MX I J T))) :=
  ((bx_eq [23] (d + 1) 124 8 67 _ _ _).symm.trans rfl : _ = (if decide (v = 0) = true then den (d + 1) 124 23 [some (vr 6 0), some (vi x1), some (vi x2), some (vi x3), some (vi (x4 + 1)), some (vi x5)] [] (MX I J T) else ret9 (den (d + 1) 124) 124 77 80 [some (vr 6 0), some (vi x1), some (vi x2), some (vi x3), some (vi x4), some (vi x5)] [] (cal d 127 [vr 6 0, vi x2, vi x4, vl (lsh9 1 x1)] (MX I J T)))).trans (by simp only [ite_dec])
set_option maxRecDepth 100000 in
theorem b124_80 (d : Nat) (x1 : Int32) (x2 : Int32) (x3 : Int32) (x4 : Int32) (x5 : Int32) (v : Int32) (I : PI) (J : PJ) (T : TL) : den (d + 1) 124 80 [some (vr 6 0), some (vi x1), some (vi x2), some (vi x3), some (vi x4), some (vi x5)] [vi v] (MX I J T) = (if v = 0 then den (d + 1) 124 23 [some (vr 6 0), some (vi x1), some (vi x2), some (vi x3), some (vi (x4 + 1)), some (vi x5)] [] (MX I J T) else ret9 (den (d + 1) 124) 124 91 94 [some (vr 6 0), some (vi x1), some (vi x2), some (vi x3), some (vi x4), some (vi x5)] [] (cal d 129 [vr 6 0, vi x2, vi (-x3), vi x4, vi x5] (MX I J T))) :=
  ((bx_eq [23] (d + 1) 124 8 80 _ _ _).symm.trans rfl : _ = (if decide (v = 0) = true then den (d + 1) 124 23 [some (vr 6 0), some (vi x1), some (vi x2), some (vi x3), some (vi (x4 + 1)), some (vi x5)] [] (MX I J T) else ret9 (den (d + 1) 124) 124 91 94 [some (vr 6 0), some (vi x1), some (vi x2), some (vi x3), some (vi x4), some (vi x5)] [] (cal d 129 [vr 6 0, vi x2, vi (-x3), vi x4, vi x5] (MX I J T)))).trans (by simp only [ite_dec])
set_option maxRecDepth 100000 in
theorem b124_94 (d : Nat) (x1 : Int32) (x2 : Int32) (x3 : Int32) (x4 : Int32) (x5 : Int32) (I : PI) (J : PJ) (T : TL) : den d 124 94 [some (vr 6 0), some (vi x1), some (vi x2), some (vi x3), some (vi x4), some (vi x5)] [] (MX I J T) = den d 124 23 [some (vr 6 0), some (vi x1), some (vi x2), some (vi x3), some (vi (x4 + 1)), some (vi x5)] [] (MX (up3 (up3 (up3 I 6 0 8 x1) 6 0 9 x4) 6 0 10 (-1)) J T) :=
  (bx_eq [23] d 124 11 94 _ _ _).symm.trans rfl
-- 125 WF_Mover_improves
set_option maxRecDepth 100000 in
theorem c125 (d : Nat) (x1 : Int32) (x2 : Int32) (x3 : Int32) (x4 : Int32) (I : PI) (J : PJ) (T : TL) : cal (d + 1) 125 [vr 6 0, vi x1, vi x2, vi x3, vi x4] (MX I J T) = ret9 (den (d + 1) 125) 125 6 9 [some (vr 6 0), some (vi x1), some (vi x2), some (vi x3), some (vi x4), none] [] (cal d 126 [vr 6 0, vi x1, vi x2, vi x3, vi x4] (MX I J T)) :=
  (bx_eq [] (d + 1) 125 6 0 _ _ _).symm.trans rfl
set_option maxRecDepth 100000 in
theorem b125_9 (d : Nat) (x1 : Int32) (x2 : Int32) (x3 : Int32) (x4 : Int32) (v : Int32) (I : PI) (J : PJ) (T : TL) : den d 125 9 [some (vr 6 0), some (vi x1), some (vi x2), some (vi x3), some (vi x4), none] [vi v] (MX I J T) = (if v < (I 6 0 6) then some (.inl (some (vi 1)), MX I J T) else (if ¬ v = (I 6 0 6) then some (.inl (some (vi 0)), MX I J T) else (if (((I 6 0 5) + x2) + x4) ≤ (I 6 0 7) then some (.inl (some (vi 0)), MX I J T) else some (.inl (some (vi 1)), MX I J T)))) :=
  ((bx_eq [] d 125 21 9 _ _ _).symm.trans rfl : _ = (if decide (v < (I 6 0 6)) = true then some (.inl (some (vi 1)), MX I J T) else (if decide (¬ v = (I 6 0 6)) = true then some (.inl (some (vi 0)), MX I J T) else (if decide ((((I 6 0 5) + x2) + x4) ≤ (I 6 0 7)) = true then some (.inl (some (vi 0)), MX I J T) else some (.inl (some (vi 1)), MX I J T))))).trans (by simp only [ite_dec])
-- 126 WF_Mover_shortBehind
set_option maxRecDepth 100000 in
theorem c126 (d : Nat) (x1 : Int32) (x2 : Int32) (x3 : Int32) (x4 : Int32) (I : PI) (J : PJ) (T : TL) : cal (d + 1) 126 [vr 6 0, vi x1, vi x2, vi x3, vi x4] (MX I J T) = (if inR x1 6 = true then ret9 (den (d + 1) 126) 126 15 18 [some (vr 6 0), some (vi x1), some (vi x2), some (vi x3), some (vi x4)] [vi (I 6 0 4)] (cal d 92 [vr 0 0, vi x1, vi (I 21 6 (Int32.toNatClampNeg x1))] (MX I J T)) else none) :=
  (bx_eq [] (d + 1) 126 10 0 _ _ _).symm.trans rfl
set_option maxRecDepth 100000 in
theorem b126_18 (d : Nat) (x1 : Int32) (x2 : Int32) (x3 : Int32) (x4 : Int32) (s0 : Int32) (v : Int32) (I : PI) (J : PJ) (T : TL) : den (d + 1) 126 18 [some (vr 6 0), some (vi x1), some (vi x2), some (vi x3), some (vi x4)] [vi v, vi s0] (MX I J T) = (if inR x3 6 = true then ret9 (den (d + 1) 126) 126 30 33 [some (vr 6 0), some (vi x1), some (vi x2), some (vi x3), some (vi x4)] [vi (s0 - v)] (cal d 92 [vr 0 0, vi x3, vi (I 21 6 (Int32.toNatClampNeg x3))] (MX I J T)) else none) :=
  (bx_eq [] (d + 1) 126 9 18 _ _ _).symm.trans rfl
set_option maxRecDepth 100000 in
theorem b126_33 (d : Nat) (x1 : Int32) (x2 : Int32) (x3 : Int32) (x4 : Int32) (s0 : Int32) (v : Int32) (I : PI) (J : PJ) (T : TL) : den (d + 1) 126 33 [some (vr 6 0), some (vi x1), some (vi x2), some (vi x3), some (vi x4)] [vi v, vi s0] (MX I J T) = (if inR x1 6 = true then ret9 (den (d + 1) 126) 126 47 50 [some (vr 6 0), some (vi x1), some (vi x2), some (vi x3), some (vi x4)] [vi (s0 - v)] (cal d 92 [vr 0 0, vi x1, vi ((I 21 6 (Int32.toNatClampNeg x1)) + x2)] (MX I J T)) else none) :=
  (bx_eq [] (d + 1) 126 11 33 _ _ _).symm.trans rfl
set_option maxRecDepth 100000 in
theorem b126_50 (d : Nat) (x1 : Int32) (x2 : Int32) (x3 : Int32) (x4 : Int32) (s0 : Int32) (v : Int32) (I : PI) (J : PJ) (T : TL) : den (d + 1) 126 50 [some (vr 6 0), some (vi x1), some (vi x2), some (vi x3), some (vi x4)] [vi v, vi s0] (MX I J T) = (if inR x3 6 = true then ret9 (den (d + 1) 126) 126 65 68 [some (vr 6 0), some (vi x1), some (vi x2), some (vi x3), some (vi x4)] [vi (s0 + v)] (cal d 92 [vr 0 0, vi x3, vi ((I 21 6 (Int32.toNatClampNeg x3)) + x4)] (MX I J T)) else none) :=
  (bx_eq [] (d + 1) 126 11 50 _ _ _).symm.trans rfl
set_option maxRecDepth 100000 in
theorem b126_68 (d : Nat) (x1 : Int32) (x2 : Int32) (x3 : Int32) (x4 : Int32) (s0 : Int32) (v : Int32) (I : PI) (J : PJ) (T : TL) : den d 126 68 [some (vr 6 0), some (vi x1), some (vi x2), some (vi x3), some (vi x4)] [vi v, vi s0] (MX I J T) = some (.inl (some (vi (s0 + v))), MX I J T) :=
  (bx_eq [] d 126 2 68 _ _ _).symm.trans rfl
-- 127 WF_Mover_isLawful
set_option maxRecDepth 100000 in
theorem c127 (d : Nat) (x1 : Int32) (x2 : Int32) (y3 : Int64) (I : PI) (J : PJ) (T : TL) : cal (d + 1) 127 [vr 6 0, vi x1, vi x2, vl y3] (MX I J T) = (if inR x1 6 = true then ret9 (den (d + 1) 127) 127 15 18 [some (vr 6 0), some (vi x1), some (vi x2), some (vl y3), none] [] (cal d 128 [vr 5 0, vl ((J 42 1 (Int32.toNatClampNeg x1)) ^^^ y3)] (MX I J T)) else none) :=
  (bx_eq [] (d + 1) 127 10 0 _ _ _).symm.trans rfl
set_option maxRecDepth 100000 in
theorem b127_18 (d : Nat) (x1 : Int32) (x2 : Int32) (y3 : Int64) (v : Int32) (I : PI) (J : PJ) (T : TL) : den (d + 1) 127 18 [some (vr 6 0), some (vi x1), some (vi x2), some (vl y3), none] [vi v] (MX I J T) = (if v = 0 then some (.inl (some (vi 0)), MX I J T) else (if inR x2 6 = true then ret9 (den (d + 1) 127) 127 36 39 [some (vr 6 0), some (vi x1), some (vi x2), some (vl y3), none] [] (cal d 128 [vr 5 0, vl ((J 42 1 (Int32.toNatClampNeg x2)) ^^^ y3)] (MX I J T)) else none)) :=
  ((bx_eq [] (d + 1) 127 11 18 _ _ _).symm.trans rfl : _ = (if decide (v = 0) = true then some (.inl (some (vi 0)), MX I J T) else (if inR x2 6 = true then ret9 (den (d + 1) 127) 127 36 39 [some (vr 6 0), some (vi x1), some (vi x2), some (vl y3), none] [] (cal d 128 [vr 5 0, vl ((J 42 1 (Int32.toNatClampNeg x2)) ^^^ y3)] (MX I J T)) else none))).trans (by simp only [ite_dec])
set_option maxRecDepth 100000 in
theorem b127_39 (d : Nat) (x1 : Int32) (x2 : Int32) (y3 : Int64) (v : Int32) (I : PI) (J : PJ) (T : TL) : den d 127 39 [some (vr 6 0), some (vi x1), some (vi x2), some (vl y3), none] [vi v] (MX I J T) = (if v = 0 then some (.inl (some (vi 0)), MX I J T) else some (.inl (some (vi 1)), MX I J T)) :=
  ((bx_eq [] d 127 4 39 _ _ _).symm.trans rfl : _ = (if decide (v = 0) = true then some (.inl (some (vi 0)), MX I J T) else some (.inl (some (vi 1)), MX I J T))).trans (by simp only [ite_dec])
-- 128 WF_Ground_isFieldLawful
set_option maxRecDepth 100000 in
theorem c128 (d : Nat) (y1 : Int64) (I : PI) (J : PJ) (T : TL) : cal (d + 1) 128 [vr 5 0, vl y1] (MX I J T) = ret9 (den (d + 1) 128) 128 2 5 [some (vr 5 0), some (vl y1), none] [] (cal d 109 [vr 5 0, vl y1] (MX I J T)) :=
  (bx_eq [] (d + 1) 128 3 0 _ _ _).symm.trans rfl
set_option maxRecDepth 100000 in
theorem b128_5 (d : Nat) (y1 : Int64) (v : Int32) (I : PI) (J : PJ) (T : TL) : den (d + 1) 128 5 [some (vr 5 0), some (vl y1), none] [vi v] (MX I J T) = (if v = 0 then some (.inl (some (vi 0)), MX I J T) else (if ¬ (I 5 0 10) = 2 then some (.inl (some (vi 1)), MX I J T) else ret9 (den (d + 1) 128) 128 18 21 [some (vr 5 0), some (vl y1), none] [] (cal d 111 [vr 5 0, vl y1] (MX I J T)))) :=
  ((bx_eq [] (d + 1) 128 8 5 _ _ _).symm.trans rfl : _ = (if decide (v = 0) = true then some (.inl (some (vi 0)), MX I J T) else (if decide (¬ (I 5 0 10) = 2) = true then some (.inl (some (vi 1)), MX I J T) else ret9 (den (d + 1) 128) 128 18 21 [some (vr 5 0), some (vl y1), none] [] (cal d 111 [vr 5 0, vl y1] (MX I J T))))).trans (by simp only [ite_dec])
set_option maxRecDepth 100000 in
theorem b128_21 (d : Nat) (y1 : Int64) (v : Int64) (I : PI) (J : PJ) (T : TL) : den d 128 21 [some (vr 5 0), some (vl y1), none] [vl v] (MX I J T) = (if ¬ (lg_cmp v 0) = 0 then some (.inl (some (vi 0)), MX I J T) else some (.inl (some (vi 1)), MX I J T)) :=
  ((bx_eq [] d 128 6 21 _ _ _).symm.trans rfl : _ = (if decide (¬ (lg_cmp v 0) = 0) = true then some (.inl (some (vi 0)), MX I J T) else some (.inl (some (vi 1)), MX I J T))).trans (by simp only [ite_dec])
-- 129 WF_Mover_hold
set_option maxRecDepth 100000 in
theorem c129 (d : Nat) (x1 : Int32) (x2 : Int32) (x3 : Int32) (x4 : Int32) (I : PI) (J : PJ) (T : TL) : cal (d + 1) 129 [vr 6 0, vi x1, vi x2, vi x3, vi x4] (MX I J T) = ret9 (den (d + 1) 129) 129 7 10 [some (vr 6 0), some (vi x1), some (vi x2), some (vi x3), some (vi x4)] [vr 6 0] (cal d 126 [vr 6 0, vi x1, vi x2, vi x3, vi x4] (MX I J T)) :=
  (bx_eq [] (d + 1) 129 7 0 _ _ _).symm.trans rfl
set_option maxRecDepth 100000 in
theorem b129_10 (d : Nat) (x1 : Int32) (x2 : Int32) (x3 : Int32) (x4 : Int32) (v : Int32) (I : PI) (J : PJ) (T : TL) : den d 129 10 [some (vr 6 0), some (vi x1), some (vi x2), some (vi x3), some (vi x4)] [vi v, vr 6 0] (MX I J T) = some (.inl none, MX (up3 (up3 I 6 0 6 v) 6 0 7 (((I 6 0 5) + x2) + x4)) J T) :=
  (bx_eq [] d 129 10 10 _ _ _).symm.trans rfl
-- 130 WF_Mover_tryCells
set_option maxRecDepth 100000 in
theorem c130 (d : Nat) (x1 : Int32) (I : PI) (J : PJ) (T : TL) : cal (d + 1) 130 [vr 6 0, vi x1] (MX I J T) = (if inR x1 64 = true then ret9 (den (d + 1) 130) 130 16 19 [some (vr 6 0), some (vi x1), some (vi (I 28 3 (Int32.toNatClampNeg x1))), none, none, none, none, none] [] (cal d 80 [vr 5 0, vi (I 28 3 (Int32.toNatClampNeg x1)), vi x1] (MX I J T)) else none) :=
  (bx_eq [25] (d + 1) 130 11 0 _ _ _).symm.trans rfl
set_option maxRecDepth 100000 in
theorem b130_19 (d : Nat) (x1 : Int32) (x2 : Int32) (v : Int32) (I : PI) (J : PJ) (T : TL) : den d 130 19 [some (vr 6 0), some (vi x1), some (vi x2), none, none, none, none, none] [vi v] (MX I J T) = den d 130 25 [some (vr 6 0), some (vi x1), some (vi x2), some (vi v), some (vi (x1 + 1)), none, none, none] [] (MX I J T) :=
  (bx_eq [25] d 130 5 19 _ _ _).symm.trans rfl
set_option maxRecDepth 100000 in
theorem b130_25 (d : Nat) (x1 : Int32) (x2 : Int32) (x3 : Int32) (x4 : Int32) (o5 : Option AV) (o6 : Option AV) (o7 : Option AV) (I : PI) (J : PJ) (T : TL) : den (d + 1) 130 25 [some (vr 6 0), some (vi x1), some (vi x2), some (vi x3), some (vi x4), o5, o6, o7] [] (MX I J T) = (if (I 5 0 9) ≤ x4 then some (.inl none, MX I J T) else (if inR x4 64 = true then (if (I 28 3 (Int32.toNatClampNeg x4)) = x2 then den (d + 1) 130 25 [some (vr 6 0), some (vi x1), some (vi x2), some (vi x3), some (vi (x4 + 1)), some (vi (I 28 3 (Int32.toNatClampNeg x4))), o6, o7] [] (MX I J T) else ret9 (den (d + 1) 130) 130 58 61 [some (vr 6 0), some (vi x1), some (vi x2), some (vi x3), some (vi x4), some (vi (I 28 3 (Int32.toNatClampNeg x4))), o6, o7] [] (cal d 123 [vr 6 0, vi x4] (MX I J T))) else none)) :=
  ((bx_eq [25] (d + 1) 130 17 25 _ _ _).symm.trans rfl : _ = (if decide ((I 5 0 9) ≤ x4) = true then some (.inl none, MX I J T) else (if inR x4 64 = true then (if decide ((I 28 3 (Int32.toNatClampNeg x4)) = x2) = true then den (d + 1) 130 25 [some (vr 6 0), some (vi x1), some (vi x2), some (vi x3), some (vi (x4 + 1)), some (vi (I 28 3 (Int32.toNatClampNeg x4))), o6, o7] [] (MX I J T) else ret9 (den (d + 1) 130) 130 58 61 [some (vr 6 0), some (vi x1), some (vi x2), some (vi x3), some (vi x4), some (vi (I 28 3 (Int32.toNatClampNeg x4))), o6, o7] [] (cal d 123 [vr 6 0, vi x4] (MX I J T))) else none))).trans (by simp only [ite_dec])
set_option maxRecDepth 100000 in
theorem b130_61 (d : Nat) (x1 : Int32) (x2 : Int32) (x3 : Int32) (x4 : Int32) (x5 : Int32) (o6 : Option AV) (o7 : Option AV) (v : Int32) (I : PI) (J : PJ) (T : TL) : den (d + 1) 130 61 [some (vr 6 0), some (vi x1), some (vi x2), some (vi x3), some (vi x4), some (vi x5), o6, o7] [vi v] (MX I J T) = (if v = 0 then den (d + 1) 130 25 [some (vr 6 0), some (vi x1), some (vi x2), some (vi x3), some (vi (x4 + 1)), some (vi x5), o6, o7] [] (MX I J T) else ret9 (den (d + 1) 130) 130 71 74 [some (vr 6 0), some (vi x1), some (vi x2), some (vi x3), some (vi x4), some (vi x5), o6, o7] [] (cal d 80 [vr 5 0, vi x2, vi x4] (MX I J T))) :=
  ((bx_eq [25] (d + 1) 130 6 61 _ _ _).symm.trans rfl : _ = (if decide (v = 0) = true then den (d + 1) 130 25 [some (vr 6 0), some (vi x1), some (vi x2), some (vi x3), some (vi (x4 + 1)), some (vi x5), o6, o7] [] (MX I J T) else ret9 (den (d + 1) 130) 130 71 74 [some (vr 6 0), some (vi x1), some (vi x2), some (vi x3), some (vi x4), some (vi x5), o6, o7] [] (cal d 80 [vr 5 0, vi x2, vi x4] (MX I J T)))).trans (by simp only [ite_dec])
set_option maxRecDepth 100000 in
theorem b130_74 (d : Nat) (x1 : Int32) (x2 : Int32) (x3 : Int32) (x4 : Int32) (x5 : Int32) (o6 : Option AV) (o7 : Option AV) (v : Int32) (I : PI) (J : PJ) (T : TL) : den (d + 1) 130 74 [some (vr 6 0), some (vi x1), some (vi x2), some (vi x3), some (vi x4), some (vi x5), o6, o7] [vi v] (MX I J T) = ret9 (den (d + 1) 130) 130 85 88 [some (vr 6 0), some (vi x1), some (vi x2), some (vi x3), some (vi x4), some (vi x5), some (vi (v - x3)), o7] [] (cal d 80 [vr 5 0, vi x5, vi x1] (MX I J T)) :=
  (bx_eq [25] (d + 1) 130 8 74 _ _ _).symm.trans rfl
set_option maxRecDepth 100000 in
theorem b130_88 (d : Nat) (x1 : Int32) (x2 : Int32) (x3 : Int32) (x4 : Int32) (x5 : Int32) (x6 : Int32) (o7 : Option AV) (v : Int32) (I : PI) (J : PJ) (T : TL) : den (d + 1) 130 88 [some (vr 6 0), some (vi x1), some (vi x2), some (vi x3), some (vi x4), some (vi x5), some (vi x6), o7] [vi v] (MX I J T) = ret9 (den (d + 1) 130) 130 96 99 [some (vr 6 0), some (vi x1), some (vi x2), some (vi x3), some (vi x4), some (vi x5), some (vi x6), o7] [vi v] (cal d 80 [vr 5 0, vi x5, vi x4] (MX I J T)) :=
  (bx_eq [25] (d + 1) 130 5 88 _ _ _).symm.trans rfl
set_option maxRecDepth 100000 in
theorem b130_99 (d : Nat) (x1 : Int32) (x2 : Int32) (x3 : Int32) (x4 : Int32) (x5 : Int32) (x6 : Int32) (o7 : Option AV) (s0 : Int32) (v : Int32) (I : PI) (J : PJ) (T : TL) : den (d + 1) 130 99 [some (vr 6 0), some (vi x1), some (vi x2), some (vi x3), some (vi x4), some (vi x5), some (vi x6), o7] [vi v, vi s0] (MX I J T) = ret9 (den (d + 1) 130) 130 110 113 [some (vr 6 0), some (vi x1), some (vi x2), some (vi x3), some (vi x4), some (vi x5), some (vi x6), some (vi (s0 - v))] [] (cal d 125 [vr 6 0, vi x2, vi x6, vi x5, vi (s0 - v)] (MX I J T)) :=
  (bx_eq [25] (d + 1) 130 8 99 _ _ _).symm.trans rfl
set_option maxRecDepth 100000 in
theorem b130_113 (d : Nat) (x1 : Int32) (x2 : Int32) (x3 : Int32) (x4 : Int32) (x5 : Int32) (x6 : Int32) (x7 : Int32) (v : Int32) (I : PI) (J : PJ) (T : TL) : den (d + 1) 130 113 [some (vr 6 0), some (vi x1), some (vi x2), some (vi x3), some (vi x4), some (vi x5), some (vi x6), some (vi x7)] [vi v] (MX I J T) = (if v = 0 then den (d + 1) 130 25 [some (vr 6 0), some (vi x1), some (vi x2), some (vi x3), some (vi (x4 + 1)), some (vi x5), some (vi x6), some (vi x7)] [] (MX I J T) else ret9 (den (d + 1) 130) 130 128 131 [some (vr 6 0), some (vi x1), some (vi x2), some (vi x3), some (vi x4), some (vi x5), some (vi x6), some (vi x7)] [] (cal d 127 [vr 6 0, vi x2, vi x5, vl ((lsh9 1 x1) ||| (lsh9 1 x4))] (MX I J T))) :=
  ((bx_eq [25] (d + 1) 130 12 113 _ _ _).symm.trans rfl : _ = (if decide (v = 0) = true then den (d + 1) 130 25 [some (vr 6 0), some (vi x1), some (vi x2), some (vi x3), some (vi (x4 + 1)), some (vi x5), some (vi x6), some (vi x7)] [] (MX I J T) else ret9 (den (d + 1) 130) 130 128 131 [some (vr 6 0), some (vi x1), some (vi x2), some (vi x3), some (vi x4), some (vi x5), some (vi x6), some (vi x7)] [] (cal d 127 [vr 6 0, vi x2, vi x5, vl ((lsh9 1 x1) ||| (lsh9 1 x4))] (MX I J T)))).trans (by simp only [ite_dec])
set_option maxRecDepth 100000 in
theorem b130_131 (d : Nat) (x1 : Int32) (x2 : Int32) (x3 : Int32) (x4 : Int32) (x5 : Int32) (x6 : Int32) (x7 : Int32) (v : Int32) (I : PI) (J : PJ) (T : TL) : den (d + 1) 130 131 [some (vr 6 0), some (vi x1), some (vi x2), some (vi x3), some (vi x4), some (vi x5), some (vi x6), some (vi x7)] [vi v] (MX I J T) = (if v = 0 then den (d + 1) 130 25 [some (vr 6 0), some (vi x1), some (vi x2), some (vi x3), some (vi (x4 + 1)), some (vi x5), some (vi x6), some (vi x7)] [] (MX I J T) else ret9 (den (d + 1) 130) 130 142 145 [some (vr 6 0), some (vi x1), some (vi x2), some (vi x3), some (vi x4), some (vi x5), some (vi x6), some (vi x7)] [] (cal d 129 [vr 6 0, vi x2, vi x6, vi x5, vi x7] (MX I J T))) :=
  ((bx_eq [25] (d + 1) 130 7 131 _ _ _).symm.trans rfl : _ = (if decide (v = 0) = true then den (d + 1) 130 25 [some (vr 6 0), some (vi x1), some (vi x2), some (vi x3), some (vi (x4 + 1)), some (vi x5), some (vi x6), some (vi x7)] [] (MX I J T) else ret9 (den (d + 1) 130) 130 142 145 [some (vr 6 0), some (vi x1), some (vi x2), some (vi x3), some (vi x4), some (vi x5), some (vi x6), some (vi x7)] [] (cal d 129 [vr 6 0, vi x2, vi x6, vi x5, vi x7] (MX I J T)))).trans (by simp only [ite_dec])
set_option maxRecDepth 100000 in
theorem b130_145 (d : Nat) (x1 : Int32) (x2 : Int32) (x3 : Int32) (x4 : Int32) (x5 : Int32) (x6 : Int32) (x7 : Int32) (I : PI) (J : PJ) (T : TL) : den d 130 145 [some (vr 6 0), some (vi x1), some (vi x2), some (vi x3), some (vi x4), some (vi x5), some (vi x6), some (vi x7)] [] (MX I J T) = den d 130 25 [some (vr 6 0), some (vi x1), some (vi x2), some (vi x3), some (vi (x4 + 1)), some (vi x5), some (vi x6), some (vi x7)] [] (MX (up3 (up3 (up3 I 6 0 8 x1) 6 0 9 x5) 6 0 10 x4) J T) :=
  (bx_eq [25] d 130 11 145 _ _ _).symm.trans rfl
-- 131 WF_Mover_make
set_option maxRecDepth 100000 in
theorem c131 (d : Nat) (I : PI) (J : PJ) (T : TL) : cal (d + 1) 131 [vr 6 0] (MX I J T) = (if inR (I 6 0 8) 64 = true then ret9 (den (d + 1) 131) 131 25 28 [some (vr 6 0), some (vi (I 28 3 (Int32.toNatClampNeg (I 6 0 8))))] [] (cal d 82 [vr 3 0, vi (I 6 0 8), vi (I 6 0 9)] (MX I J T)) else none) :=
  (bx_eq [] (d + 1) 131 14 0 _ _ _).symm.trans rfl
set_option maxRecDepth 100000 in
theorem b131_28 (d : Nat) (x1 : Int32) (I : PI) (J : PJ) (T : TL) : den (d + 1) 131 28 [some (vr 6 0), some (vi x1)] [] (MX I J T) = (if (I 6 0 10) = (-1) then some (.inl none, MX I J T) else ret9 (den (d + 1) 131) 131 45 48 [some (vr 6 0), some (vi x1)] [] (cal d 82 [vr 3 0, vi (I 6 0 10), vi x1] (MX I J T))) :=
  ((bx_eq [] (d + 1) 131 10 28 _ _ _).symm.trans rfl : _ = (if decide ((I 6 0 10) = (-1)) = true then some (.inl none, MX I J T) else ret9 (den (d + 1) 131) 131 45 48 [some (vr 6 0), some (vi x1)] [] (cal d 82 [vr 3 0, vi (I 6 0 10), vi x1] (MX I J T)))).trans (by simp only [ite_dec])
set_option maxRecDepth 100000 in
theorem b131_48 (d : Nat) (x1 : Int32) (I : PI) (J : PJ) (T : TL) : den d 131 48 [some (vr 6 0), some (vi x1)] [] (MX I J T) = some (.inl none, MX I J T) :=
  (bx_eq [] d 131 1 48 _ _ _).symm.trans rfl
-- 132 WF_can
set_option maxRecDepth 100000 in
theorem c132 (d : Nat) (I : PI) (J : PJ) (T : TL) : cal (d + 1) 132 [vr 11 0] (MX I J T) = ret9 (den (d + 1) 132) 132 4 7 [some (vr 11 0)] [] (cal d 74 [vr 5 0] (MX I J T)) :=
  (bx_eq [] (d + 1) 132 3 0 _ _ _).symm.trans rfl
set_option maxRecDepth 100000 in
theorem b132_7 (d : Nat) (v : Int32) (I : PI) (J : PJ) (T : TL) : den (d + 1) 132 7 [some (vr 11 0)] [vi v] (MX I J T) = (if ¬ v = 0 then ret9 (den (d + 1) 132) 132 20 23 [some (vr 11 0)] [] (cal d 105 [vr 3 0] (MX I J T)) else ret9 (den (d + 1) 132) 132 12 15 [some (vr 11 0)] [] (cal d 20 [vr 11 0, vi 1] (MX I J T))) :=
  ((bx_eq [] (d + 1) 132 4 7 _ _ _).symm.trans rfl : _ = (if decide (¬ v = 0) = true then ret9 (den (d + 1) 132) 132 20 23 [some (vr 11 0)] [] (cal d 105 [vr 3 0] (MX I J T)) else ret9 (den (d + 1) 132) 132 12 15 [some (vr 11 0)] [] (cal d 20 [vr 11 0, vi 1] (MX I J T)))).trans (by simp only [ite_dec])
set_option maxRecDepth 100000 in
theorem b132_15 (d : Nat) (v : Int32) (I : PI) (J : PJ) (T : TL) : den d 132 15 [some (vr 11 0)] [vi v] (MX I J T) = some (.inl (some (vi v)), MX I J T) :=
  (bx_eq [] d 132 1 15 _ _ _).symm.trans rfl
set_option maxRecDepth 100000 in
theorem b132_23 (d : Nat) (v : Int32) (I : PI) (J : PJ) (T : TL) : den (d + 1) 132 23 [some (vr 11 0)] [vi v] (MX I J T) = (if v = 0 then ret9 (den (d + 1) 132) 132 37 40 [some (vr 11 0)] [vr 11 0] (cal d 122 [vr 6 0] (MX I J T)) else ret9 (den (d + 1) 132) 132 28 31 [some (vr 11 0)] [] (cal d 20 [vr 11 0, vi 5] (MX I J T))) :=
  ((bx_eq [] (d + 1) 132 5 23 _ _ _).symm.trans rfl : _ = (if decide (v = 0) = true then ret9 (den (d + 1) 132) 132 37 40 [some (vr 11 0)] [vr 11 0] (cal d 122 [vr 6 0] (MX I J T)) else ret9 (den (d + 1) 132) 132 28 31 [some (vr 11 0)] [] (cal d 20 [vr 11 0, vi 5] (MX I J T)))).trans (by simp only [ite_dec])
set_option maxRecDepth 100000 in
theorem b132_31 (d : Nat) (v : Int32) (I : PI) (J : PJ) (T : TL) : den d 132 31 [some (vr 11 0)] [vi v] (MX I J T) = some (.inl (some (vi v)), MX I J T) :=
  (bx_eq [] d 132 1 31 _ _ _).symm.trans rfl
set_option maxRecDepth 100000 in
theorem b132_40 (d : Nat) (v : Int32) (I : PI) (J : PJ) (T : TL) : den (d + 1) 132 40 [some (vr 11 0)] [vi v, vr 11 0] (MX I J T) = (if v = 0 then ret9 (den (d + 1) 132) 132 48 51 [some (vr 11 0)] [] (cal d 51 [vr 11 0, vi 0] (MX I J T)) else ret9 (den (d + 1) 132) 132 48 51 [some (vr 11 0)] [] (cal d 51 [vr 11 0, vi 1] (MX I J T))) :=
  ((bx_eq [] (d + 1) 132 4 40 _ _ _).symm.trans rfl : _ = (if decide (v = 0) = true then ret9 (den (d + 1) 132) 132 48 51 [some (vr 11 0)] [] (cal d 51 [vr 11 0, vi 0] (MX I J T)) else ret9 (den (d + 1) 132) 132 48 51 [some (vr 11 0)] [] (cal d 51 [vr 11 0, vi 1] (MX I J T)))).trans (by simp only [ite_dec])
set_option maxRecDepth 100000 in
theorem b132_51 (d : Nat) (v : Int32) (I : PI) (J : PJ) (T : TL) : den d 132 51 [some (vr 11 0)] [vi v] (MX I J T) = some (.inl (some (vi v)), MX I J T) :=
  (bx_eq [] d 132 1 51 _ _ _).symm.trans rfl
-- 133 WF_best
set_option maxRecDepth 100000 in
theorem c133 (d : Nat) (x1 : Int32) (I : PI) (J : PJ) (T : TL) : cal (d + 1) 133 [vr 11 0, vi x1] (MX I J T) = ret9 (den (d + 1) 133) 133 4 7 [some (vr 11 0), some (vi x1)] [] (cal d 74 [vr 5 0] (MX I J T)) :=
  (bx_eq [] (d + 1) 133 3 0 _ _ _).symm.trans rfl
set_option maxRecDepth 100000 in
theorem b133_7 (d : Nat) (x1 : Int32) (v : Int32) (I : PI) (J : PJ) (T : TL) : den (d + 1) 133 7 [some (vr 11 0), some (vi x1)] [vi v] (MX I J T) = (if ¬ v = 0 then ret9 (den (d + 1) 133) 133 20 23 [some (vr 11 0), some (vi x1)] [] (cal d 134 [vr 4 0] (MX I J T)) else ret9 (den (d + 1) 133) 133 12 15 [some (vr 11 0), some (vi x1)] [] (cal d 88 [vr 11 0, vi 1] (MX I J T))) :=
  ((bx_eq [] (d + 1) 133 4 7 _ _ _).symm.trans rfl : _ = (if decide (¬ v = 0) = true then ret9 (den (d + 1) 133) 133 20 23 [some (vr 11 0), some (vi x1)] [] (cal d 134 [vr 4 0] (MX I J T)) else ret9 (den (d + 1) 133) 133 12 15 [some (vr 11 0), some (vi x1)] [] (cal d 88 [vr 11 0, vi 1] (MX I J T)))).trans (by simp only [ite_dec])
set_option maxRecDepth 100000 in
theorem b133_15 (d : Nat) (x1 : Int32) (v : Int32) (I : PI) (J : PJ) (T : TL) : den d 133 15 [some (vr 11 0), some (vi x1)] [vi v] (MX I J T) = some (.inl (some (vi v)), MX I J T) :=
  (bx_eq [] d 133 1 15 _ _ _).symm.trans rfl
set_option maxRecDepth 100000 in
theorem b133_23 (d : Nat) (x1 : Int32) (v : Int32) (I : PI) (J : PJ) (T : TL) : den (d + 1) 133 23 [some (vr 11 0), some (vi x1)] [vi v] (MX I J T) = (if ¬ v = 0 then ret9 (den (d + 1) 133) 133 37 40 [some (vr 11 0), some (vi x1)] [] (cal d 135 [vr 4 0, vi x1] (MX I J T)) else ret9 (den (d + 1) 133) 133 28 31 [some (vr 11 0), some (vi x1)] [] (cal d 88 [vr 11 0, vi 5] (MX I J T))) :=
  ((bx_eq [] (d + 1) 133 5 23 _ _ _).symm.trans rfl : _ = (if decide (¬ v = 0) = true then ret9 (den (d + 1) 133) 133 37 40 [some (vr 11 0), some (vi x1)] [] (cal d 135 [vr 4 0, vi x1] (MX I J T)) else ret9 (den (d + 1) 133) 133 28 31 [some (vr 11 0), some (vi x1)] [] (cal d 88 [vr 11 0, vi 5] (MX I J T)))).trans (by simp only [ite_dec])
set_option maxRecDepth 100000 in
theorem b133_31 (d : Nat) (x1 : Int32) (v : Int32) (I : PI) (J : PJ) (T : TL) : den d 133 31 [some (vr 11 0), some (vi x1)] [vi v] (MX I J T) = some (.inl (some (vi v)), MX I J T) :=
  (bx_eq [] d 133 1 31 _ _ _).symm.trans rfl
set_option maxRecDepth 100000 in
theorem b133_40 (d : Nat) (x1 : Int32) (v : Int32) (I : PI) (J : PJ) (T : TL) : den (d + 1) 133 40 [some (vr 11 0), some (vi x1)] [vi v] (MX I J T) = (if ¬ v = 0 then ret9 (den (d + 1) 133) 133 58 61 [some (vr 11 0), some (vi x1)] [] (cal d 51 [vr 11 0, vi (I 4 0 15)] (MX I J T)) else ret9 (den (d + 1) 133) 133 46 49 [some (vr 11 0), some (vi x1)] [] (cal d 88 [vr 11 0, vi 6] (MX I J T))) :=
  ((bx_eq [] (d + 1) 133 6 40 _ _ _).symm.trans rfl : _ = (if decide (¬ v = 0) = true then ret9 (den (d + 1) 133) 133 58 61 [some (vr 11 0), some (vi x1)] [] (cal d 51 [vr 11 0, vi (I 4 0 15)] (MX I J T)) else ret9 (den (d + 1) 133) 133 46 49 [some (vr 11 0), some (vi x1)] [] (cal d 88 [vr 11 0, vi 6] (MX I J T)))).trans (by simp only [ite_dec])
set_option maxRecDepth 100000 in
theorem b133_49 (d : Nat) (x1 : Int32) (v : Int32) (I : PI) (J : PJ) (T : TL) : den d 133 49 [some (vr 11 0), some (vi x1)] [vi v] (MX I J T) = some (.inl (some (vi v)), MX I J T) :=
  (bx_eq [] d 133 1 49 _ _ _).symm.trans rfl
set_option maxRecDepth 100000 in
theorem b133_61 (d : Nat) (x1 : Int32) (v : Int32) (I : PI) (J : PJ) (T : TL) : den d 133 61 [some (vr 11 0), some (vi x1)] [vi v] (MX I J T) = some (.inl (some (vi v)), MX I J T) :=
  (bx_eq [] d 133 1 61 _ _ _).symm.trans rfl
-- 134 WF_Finder_isFew
set_option maxRecDepth 100000 in
theorem c134 (d : Nat) (I : PI) (J : PJ) (T : TL) : cal (d + 1) 134 [vr 4 0] (MX I J T) = ret9 (den (d + 1) 134) 134 19 22 [some (vr 4 0)] [] (cal d 103 [vl ((J 5 0 12) &&& ((J 5 0 13) ^^^ (-1)))] (MX I J T)) :=
  (bx_eq [27, 41, 45, 46] (d + 1) 134 10 0 _ _ _).symm.trans rfl
set_option maxRecDepth 100000 in
theorem b134_22 (d : Nat) (v : Int32) (I : PI) (J : PJ) (T : TL) : den d 134 22 [some (vr 4 0)] [vi v] (MX I J T) = (if 9 < v then den d 134 45 [some (vr 4 0)] [] (MX I J T) else den d 134 27 [some (vr 4 0)] [] (MX I J T)) :=
  ((bx_eq [27, 41, 45, 46] d 134 2 22 _ _ _).symm.trans rfl : _ = (if decide (9 < v) = true then den d 134 45 [some (vr 4 0)] [] (MX I J T) else den d 134 27 [some (vr 4 0)] [] (MX I J T))).trans (by simp only [ite_dec])
set_option maxRecDepth 100000 in
theorem b134_27 (d : Nat) (I : PI) (J : PJ) (T : TL) : den d 134 27 [some (vr 4 0)] [] (MX I J T) = (if 3 < (I 1 T.1 3) then den d 134 45 [some (vr 4 0)] [] (MX I J T) else den d 134 41 [some (vr 4 0)] [] (MX I J T)) :=
  ((bx_eq [27, 41, 45, 46] d 134 6 27 _ _ _).symm.trans rfl : _ = (if decide (3 < (I 1 T.1 3)) = true then den d 134 45 [some (vr 4 0)] [] (MX I J T) else den d 134 41 [some (vr 4 0)] [] (MX I J T))).trans (by simp only [ite_dec])
set_option maxRecDepth 100000 in
theorem b134_41 (d : Nat) (I : PI) (J : PJ) (T : TL) : den d 134 41 [some (vr 4 0)] [] (MX I J T) = den d 134 46 [some (vr 4 0)] [vi 1] (MX I J T) :=
  (bx_eq [27, 41, 45, 46] d 134 2 41 _ _ _).symm.trans rfl
set_option maxRecDepth 100000 in
theorem b134_45 (d : Nat) (I : PI) (J : PJ) (T : TL) : den d 134 45 [some (vr 4 0)] [] (MX I J T) = den d 134 46 [some (vr 4 0)] [vi 0] (MX I J T) :=
  (bx_eq [27, 41, 45, 46] d 134 1 45 _ _ _).symm.trans rfl
set_option maxRecDepth 100000 in
theorem b134_46 (d : Nat) (s0 : Int32) (I : PI) (J : PJ) (T : TL) : den d 134 46 [some (vr 4 0)] [vi s0] (MX I J T) = (if s0 = 0 ∨ s0 = 1 then some (.inl (some (vi s0)), MX I J T) else none) :=
  (bx_eq [27, 41, 45, 46] d 134 1 46 _ _ _).symm.trans rfl
-- 135 WF_Finder_search
set_option maxRecDepth 100000 in
theorem c135z0 (d : Nat) (I : PI) (J : PJ) (T : TL) : cal (d + 1) 135 [vr 4 0, vi 0] (MX I J T) = ret9 (den (d + 1) 135) 135 33 36 [some (vr 4 0), some (vi 0), none] [] (cal d 16 [vr 41 0, vl 0] (MX (up3 (up3 (up3 I 4 0 11 0) 4 0 12 0) 4 0 10 (min9 (I 1 T.1 3) 3)) J T)) :=
  (bx_eq [78] (d + 1) 135 18 0 _ _ _).symm.trans rfl
set_option maxRecDepth 100000 in
theorem c135z1 (d : Nat) (I : PI) (J : PJ) (T : TL) : cal (d + 1) 135 [vr 4 0, vi 1] (MX I J T) = ret9 (den (d + 1) 135) 135 33 36 [some (vr 4 0), some (vi 1), none] [] (cal d 16 [vr 41 0, vl 0] (MX (up3 (up3 (up3 I 4 0 11 1) 4 0 12 0) 4 0 10 (min9 (I 1 T.1 3) 3)) J T)) :=
  (bx_eq [78] (d + 1) 135 18 0 _ _ _).symm.trans rfl
set_option maxRecDepth 100000 in
theorem b135_36 (d : Nat) (x1 : Int32) (I : PI) (J : PJ) (T : TL) : den (d + 1) 135 36 [some (vr 4 0), some (vi x1), none] [] (MX I J T) = ret9 (den (d + 1) 135) 135 41 44 [some (vr 4 0), some (vi x1), none] [] (cal d 15 [vr 22 3, vi 0] (MX I J T)) :=
  (bx_eq [78] (d + 1) 135 4 36 _ _ _).symm.trans rfl
set_option maxRecDepth 100000 in
theorem b135_44 (d : Nat) (x1 : Int32) (I : PI) (J : PJ) (T : TL) : den (d + 1) 135 44 [some (vr 4 0), some (vi x1), none] [] (MX I J T) = ret9 (den (d + 1) 135) 135 45 48 [some (vr 4 0), some (vi x1), none] [] (cal d 136 [vr 4 0] (MX I J T)) :=
  (bx_eq [78] (d + 1) 135 2 44 _ _ _).symm.trans rfl
set_option maxRecDepth 100000 in
theorem b135_48 (d : Nat) (x1 : Int32) (v : Int32) (I : PI) (J : PJ) (T : TL) : den (d + 1) 135 48 [some (vr 4 0), some (vi x1), none] [vi v] (MX I J T) = (if ¬ v = 0 then ret9 (den (d + 1) 135) 135 54 57 [some (vr 4 0), some (vi x1), none] [] (cal d 137 [vr 4 0] (MX I J T)) else some (.inl (some (vi 0)), MX I J T)) :=
  ((bx_eq [78] (d + 1) 135 3 48 _ _ _).symm.trans rfl : _ = (if decide (¬ v = 0) = true then ret9 (den (d + 1) 135) 135 54 57 [some (vr 4 0), some (vi x1), none] [] (cal d 137 [vr 4 0] (MX I J T)) else some (.inl (some (vi 0)), MX I J T))).trans (by simp only [ite_dec])
set_option maxRecDepth 100000 in
theorem b135_57 (d : Nat) (x1 : Int32) (I : PI) (J : PJ) (T : TL) : den (d + 1) 135 57 [some (vr 4 0), some (vi x1), none] [] (MX I J T) = ret9 (den (d + 1) 135) 135 59 62 [some (vr 4 0), some (vi x1), none] [] (cal d 139 [vr 4 0, vi 0] (MX I J T)) :=
  (bx_eq [78] (d + 1) 135 3 57 _ _ _).symm.trans rfl
set_option maxRecDepth 100000 in
theorem b135_62 (d : Nat) (x1 : Int32) (I : PI) (J : PJ) (T : TL) : den (d + 1) 135 62 [some (vr 4 0), some (vi x1), none] [] (MX I J T) = (if (I 4 0 12) = 0 then (if (I 4 0 12) = 0 ∨ (I 4 0 12) = 1 then some (.inl (some (vi (I 4 0 12))), MX I J T) else none) else ret9 (den (d + 1) 135) 135 73 76 [some (vr 4 0), some (vi x1), none] [] (cal d 14 [vr 3 0] (MX I J T))) :=
  ((bx_eq [78] (d + 1) 135 6 62 _ _ _).symm.trans rfl : _ = (if decide ((I 4 0 12) = 0) = true then (if (I 4 0 12) = 0 ∨ (I 4 0 12) = 1 then some (.inl (some (vi (I 4 0 12))), MX I J T) else none) else ret9 (den (d + 1) 135) 135 73 76 [some (vr 4 0), some (vi x1), none] [] (cal d 14 [vr 3 0] (MX I J T)))).trans (by simp only [ite_dec])
set_option maxRecDepth 100000 in
theorem b135_76 (d : Nat) (x1 : Int32) (I : PI) (J : PJ) (T : TL) : den d 135 76 [some (vr 4 0), some (vi x1), none] [] (MX I J T) = den d 135 78 [some (vr 4 0), some (vi x1), some (vi 0)] [] (MX I J T) :=
  (bx_eq [78] d 135 2 76 _ _ _).symm.trans rfl
set_option maxRecDepth 100000 in
theorem b135_78 (d : Nat) (x1 : Int32) (x2 : Int32) (I : PI) (J : PJ) (T : TL) : den (d + 1) 135 78 [some (vr 4 0), some (vi x1), some (vi x2)] [] (MX I J T) = (if (I 4 0 9) ≤ x2 then (if (I 4 0 12) = 0 ∨ (I 4 0 12) = 1 then some (.inl (some (vi (I 4 0 12))), MX I J T) else none) else (if inR x2 9 = true then (if inR x2 9 = true then ret9 (den (d + 1) 135) 135 102 105 [some (vr 4 0), some (vi x1), some (vi x2)] [] (cal d 82 [vr 3 0, vi (I 22 0 (Int32.toNatClampNeg x2)), vi (I 22 2 (Int32.toNatClampNeg x2))] (MX I J T)) else none) else none)) :=
  ((bx_eq [78] (d + 1) 135 15 78 _ _ _).symm.trans rfl : _ = (if decide ((I 4 0 9) ≤ x2) = true then (if (I 4 0 12) = 0 ∨ (I 4 0 12) = 1 then some (.inl (some (vi (I 4 0 12))), MX I J T) else none) else (if inR x2 9 = true then (if inR x2 9 = true then ret9 (den (d + 1) 135) 135 102 105 [some (vr 4 0), some (vi x1), some (vi x2)] [] (cal d 82 [vr 3 0, vi (I 22 0 (Int32.toNatClampNeg x2)), vi (I 22 2 (Int32.toNatClampNeg x2))] (MX I J T)) else none) else none))).trans (by simp only [ite_dec])
set_option maxRecDepth 100000 in
theorem b135_105 (d : Nat) (x1 : Int32) (x2 : Int32) (I : PI) (J : PJ) (T : TL) : den d 135 105 [some (vr 4 0), some (vi x1), some (vi x2)] [] (MX I J T) = den d 135 78 [some (vr 4 0), some (vi x1), some (vi (x2 + 1))] [] (MX I J T) :=
  (bx_eq [78] d 135 2 105 _ _ _).symm.trans rfl
-- 136 WF_Finder_gatherCells
set_option maxRecDepth 100000 in
theorem c136 (d : Nat) (I : PI) (J : PJ) (T : TL) : cal d 136 [vr 4 0] (MX I J T) = den d 136 7 [some (vr 4 0), some (vi 0)] [] (MX (up3 I 4 0 9 0) J T) :=
  (bx_eq [7] d 136 5 0 _ _ _).symm.trans rfl
set_option maxRecDepth 100000 in
theorem b136_7 (d : Nat) (x1 : Int32) (I : PI) (J : PJ) (T : TL) : den (d + 1) 136 7 [some (vr 4 0), some (vi x1)] [] (MX I J T) = (if (I 5 0 9) ≤ x1 then some (.inl (some (vi 1)), MX I J T) else ret9 (den (d + 1) 136) 136 23 26 [some (vr 4 0), some (vi x1)] [] (cal d 94 [vr 5 0, vi x1] (MX I J T))) :=
  ((bx_eq [7] (d + 1) 136 9 7 _ _ _).symm.trans rfl : _ = (if decide ((I 5 0 9) ≤ x1) = true then some (.inl (some (vi 1)), MX I J T) else ret9 (den (d + 1) 136) 136 23 26 [some (vr 4 0), some (vi x1)] [] (cal d 94 [vr 5 0, vi x1] (MX I J T)))).trans (by simp only [ite_dec])
set_option maxRecDepth 100000 in
theorem b136_26 (d : Nat) (x1 : Int32) (v : Int32) (I : PI) (J : PJ) (T : TL) : den d 136 26 [some (vr 4 0), some (vi x1)] [vi v] (MX I J T) = (if ¬ v = 0 then (if inR x1 64 = true then (if (I 28 2 (Int32.toNatClampNeg x1)) = (-1) then den d 136 7 [some (vr 4 0), some (vi (x1 + 1))] [] (MX I J T) else some (.inl (some (vi 0)), MX I J T)) else none) else (if 9 ≤ (I 4 0 9) then den d 136 7 [some (vr 4 0), some (vi (x1 + 1))] [] (MX I J T) else (if inR (I 4 0 9) 9 = true then den d 136 7 [some (vr 4 0), some (vi (x1 + 1))] [] (MX (up3 (up3 I 22 0 (Int32.toNatClampNeg (I 4 0 9)) x1) 4 0 9 ((I 4 0 9) + 1)) J T) else none))) :=
  ((bx_eq [7] d 136 20 26 _ _ _).symm.trans rfl : _ = (if decide (¬ v = 0) = true then (if inR x1 64 = true then (if decide ((I 28 2 (Int32.toNatClampNeg x1)) = (-1)) = true then den d 136 7 [some (vr 4 0), some (vi (x1 + 1))] [] (MX I J T) else some (.inl (some (vi 0)), MX I J T)) else none) else (if decide (9 ≤ (I 4 0 9)) = true then den d 136 7 [some (vr 4 0), some (vi (x1 + 1))] [] (MX I J T) else (if inR (I 4 0 9) 9 = true then den d 136 7 [some (vr 4 0), some (vi (x1 + 1))] [] (MX (up3 (up3 I 22 0 (Int32.toNatClampNeg (I 4 0 9)) x1) 4 0 9 ((I 4 0 9) + 1)) J T) else none)))).trans (by simp only [ite_dec])
-- 137 WF_Finder_gatherHopes
set_option maxRecDepth 100000 in
theorem c137 (d : Nat) (I : PI) (J : PJ) (T : TL) : cal (d + 1) 137 [vr 4 0] (MX I J T) = ret9 (den (d + 1) 137) 137 5 8 [some (vr 4 0), none, none, none, none] [] (cal d 15 [vr 26 0, vi 0] (MX I J T)) :=
  (bx_eq [23, 32] (d + 1) 137 4 0 _ _ _).symm.trans rfl
set_option maxRecDepth 100000 in
theorem b137_8 (d : Nat) (I : PI) (J : PJ) (T : TL) : den (d + 1) 137 8 [some (vr 4 0), none, none, none, none] [] (MX I J T) = ret9 (den (d + 1) 137) 137 13 16 [some (vr 4 0), none, none, none, none] [] (cal d 15 [vr 23 0, vi 0] (MX I J T)) :=
  (bx_eq [23, 32] (d + 1) 137 4 8 _ _ _).symm.trans rfl
set_option maxRecDepth 100000 in
theorem b137_16 (d : Nat) (I : PI) (J : PJ) (T : TL) : den d 137 16 [some (vr 4 0), none, none, none, none] [] (MX I J T) = den d 137 23 [some (vr 4 0), some (vi ((I 4 0 9) - 1)), none, none, none] [] (MX I J T) :=
  (bx_eq [23, 32] d 137 5 16 _ _ _).symm.trans rfl
set_option maxRecDepth 100000 in
theorem b137_23 (d : Nat) (x1 : Int32) (o2 : Option AV) (o3 : Option AV) (o4 : Option AV) (I : PI) (J : PJ) (T : TL) : den d 137 23 [some (vr 4 0), some (vi x1), o2, o3, o4] [] (MX I J T) = (if x1 < 0 then some (.inl none, MX I J T) else den d 137 32 [some (vr 4 0), some (vi x1), some (vi (-2147483648)), some (vi 0), o4] [] (MX I J T)) :=
  ((bx_eq [23, 32] d 137 6 23 _ _ _).symm.trans rfl : _ = (if decide (x1 < 0) = true then some (.inl none, MX I J T) else den d 137 32 [some (vr 4 0), some (vi x1), some (vi (-2147483648)), some (vi 0), o4] [] (MX I J T))).trans (by simp only [ite_dec])
set_option maxRecDepth 100000 in
theorem b137_32 (d : Nat) (x1 : Int32) (x2 : Int32) (x3 : Int32) (o4 : Option AV) (I : PI) (J : PJ) (T : TL) : den (d + 1) 137 32 [some (vr 4 0), some (vi x1), some (vi x2), some (vi x3), o4] [] (MX I J T) = (if (I 4 0 10) ≤ x3 then (if inR (x1 + 1) 10 = true then (if inR x1 10 = true then den (d + 1) 137 23 [some (vr 4 0), some (vi (x1 + (-1))), some (vi x2), some (vi x3), o4] [] (MX (up3 I 23 0 (Int32.toNatClampNeg x1) ((I 23 0 (Int32.toNatClampNeg (x1 + 1))) + x2)) J T) else none) else none) else (if inR x1 9 = true then ret9 (den (d + 1) 137) 137 48 51 [some (vr 4 0), some (vi x1), some (vi x2), some (vi x3), o4] [] (cal d 138 [vr 4 0, vi x3, vi (I 22 0 (Int32.toNatClampNeg x1))] (MX I J T)) else none)) :=
  ((bx_eq [23, 32] (d + 1) 137 18 32 _ _ _).symm.trans rfl : _ = (if decide ((I 4 0 10) ≤ x3) = true then (if inR (x1 + 1) 10 = true then (if inR x1 10 = true then den (d + 1) 137 23 [some (vr 4 0), some (vi (x1 + (-1))), some (vi x2), some (vi x3), o4] [] (MX (up3 I 23 0 (Int32.toNatClampNeg x1) ((I 23 0 (Int32.toNatClampNeg (x1 + 1))) + x2)) J T) else none) else none) else (if inR x1 9 = true then ret9 (den (d + 1) 137) 137 48 51 [some (vr 4 0), some (vi x1), some (vi x2), some (vi x3), o4] [] (cal d 138 [vr 4 0, vi x3, vi (I 22 0 (Int32.toNatClampNeg x1))] (MX I J T)) else none))).trans (by simp only [ite_dec])
set_option maxRecDepth 100000 in
theorem b137_51 (d : Nat) (x1 : Int32) (x2 : Int32) (x3 : Int32) (o4 : Option AV) (v : Int32) (I : PI) (J : PJ) (T : TL) : den (d + 1) 137 51 [some (vr 4 0), some (vi x1), some (vi x2), some (vi x3), o4] [vi v] (MX I J T) = (if v = 0 then (if inR (((x3 * 10) + x1) + 1) 30 = true then (if inR ((x3 * 10) + x1) 30 = true then den (d + 1) 137 32 [some (vr 4 0), some (vi x1), some (vi (max9 x2 (-2147483648))), some (vi (x3 + 1)), some (vi (-2147483648))] [] (MX (up3 I 26 0 (Int32.toNatClampNeg ((x3 * 10) + x1)) ((I 26 0 (Int32.toNatClampNeg (((x3 * 10) + x1) + 1))) + (max9 0 (-2147483648)))) J T) else none) else none) else (if inR x1 9 = true then ret9 (den (d + 1) 137) 137 65 68 [some (vr 4 0), some (vi x1), some (vi x2), some (vi x3), o4] [] (cal d 80 [vr 5 0, vi x3, vi (I 22 0 (Int32.toNatClampNeg x1))] (MX I J T)) else none)) :=
  ((bx_eq [23, 32] (d + 1) 137 31 51 _ _ _).symm.trans rfl : _ = (if decide (v = 0) = true then (if inR (((x3 * 10) + x1) + 1) 30 = true then (if inR ((x3 * 10) + x1) 30 = true then den (d + 1) 137 32 [some (vr 4 0), some (vi x1), some (vi (max9 x2 (-2147483648))), some (vi (x3 + 1)), some (vi (-2147483648))] [] (MX (up3 I 26 0 (Int32.toNatClampNeg ((x3 * 10) + x1)) ((I 26 0 (Int32.toNatClampNeg (((x3 * 10) + x1) + 1))) + (max9 0 (-2147483648)))) J T) else none) else none) else (if inR x1 9 = true then ret9 (den (d + 1) 137) 137 65 68 [some (vr 4 0), some (vi x1), some (vi x2), some (vi x3), o4] [] (cal d 80 [vr 5 0, vi x3, vi (I 22 0 (Int32.toNatClampNeg x1))] (MX I J T)) else none))).trans (by simp only [ite_dec])
set_option maxRecDepth 100000 in
theorem b137_68 (d : Nat) (x1 : Int32) (x2 : Int32) (x3 : Int32) (o4 : Option AV) (v : Int32) (I : PI) (J : PJ) (T : TL) : den d 137 68 [some (vr 4 0), some (vi x1), some (vi x2), some (vi x3), o4] [vi v] (MX I J T) = (if inR (((x3 * 10) + x1) + 1) 30 = true then (if inR ((x3 * 10) + x1) 30 = true then den d 137 32 [some (vr 4 0), some (vi x1), some (vi (max9 x2 v)), some (vi (x3 + 1)), some (vi v)] [] (MX (up3 I 26 0 (Int32.toNatClampNeg ((x3 * 10) + x1)) ((I 26 0 (Int32.toNatClampNeg (((x3 * 10) + x1) + 1))) + (max9 0 v))) J T) else none) else none) :=
  (bx_eq [23, 32] d 137 30 68 _ _ _).symm.trans rfl
-- 138 WF_Finder_mayHave
set_option maxRecDepth 100000 in
theorem c138 (d : Nat) (x1 : Int32) (x2 : Int32) (I : PI) (J : PJ) (T : TL) : cal d 138 [vr 4 0, vi x1, vi x2] (MX I J T) = (if inR x2 64 = true then (if (I 28 2 (Int32.toNatClampNeg x2)) = (-1) then some (.inl (some (vi 1)), MX I J T) else (if inR x2 64 = true then (if ¬ (I 28 2 (Int32.toNatClampNeg x2)) = x1 then some (.inl (some (vi 0)), MX I J T) else some (.inl (some (vi 1)), MX I J T)) else none)) else none) :=
  ((bx_eq [] d 138 17 0 _ _ _).symm.trans rfl : _ = (if inR x2 64 = true then (if decide ((I 28 2 (Int32.toNatClampNeg x2)) = (-1)) = true then some (.inl (some (vi 1)), MX I J T) else (if inR x2 64 = true then (if decide (¬ (I 28 2 (Int32.toNatClampNeg x2)) = x1) = true then some (.inl (some (vi 0)), MX I J T) else some (.inl (some (vi 1)), MX I J T)) else none)) else none)).trans (by simp only [ite_dec])
-- 139 WF_Finder_descend
set_option maxRecDepth 100000 in
theorem c139 (d : Nat) (x1 : Int32) (I : PI) (J : PJ) (T : TL) : cal (d + 1) 139 [vr 4 0, vi x1] (MX I J T) = (if (I 4 0 12) = 0 then (if (I 4 0 9) ≤ x1 then ret9 (den (d + 1) 139) 139 38 41 [some (vr 4 0), some (vi x1), none, none] [] (cal d 141 [vr 4 0] (MX I J T)) else (if x1 < 9 then (if inR x1 9 = true then den (d + 1) 139 51 [some (vr 4 0), some (vi x1), some (vi (I 22 0 (Int32.toNatClampNeg x1))), some (vi 0)] [] (MX I J T) else none) else ret9 (den (d + 1) 139) 139 38 41 [some (vr 4 0), some (vi x1), none, none] [] (cal d 141 [vr 4 0] (MX I J T)))) else (if ¬ (I 4 0 13) = 0 then (if (I 4 0 9) ≤ x1 then ret9 (den (d + 1) 139) 139 38 41 [some (vr 4 0), some (vi x1), none, none] [] (cal d 141 [vr 4 0] (MX I J T)) else (if x1 < 9 then (if inR x1 9 = true then den (d + 1) 139 51 [some (vr 4 0), some (vi x1), some (vi (I 22 0 (Int32.toNatClampNeg x1))), some (vi 0)] [] (MX I J T) else none) else ret9 (den (d + 1) 139) 139 38 41 [some (vr 4 0), some (vi x1), none, none] [] (cal d 141 [vr 4 0] (MX I J T)))) else ret9 (den (d + 1) 139) 139 16 19 [some (vr 4 0), some (vi x1), none, none] [] (cal d 140 [vr 4 0, vi x1] (MX I J T)))) :=
  ((bx_eq [51] (d + 1) 139 20 0 _ _ _).symm.trans rfl : _ = (if decide ((I 4 0 12) = 0) = true then (if decide ((I 4 0 9) ≤ x1) = true then ret9 (den (d + 1) 139) 139 38 41 [some (vr 4 0), some (vi x1), none, none] [] (cal d 141 [vr 4 0] (MX I J T)) else (if decide (x1 < 9) = true then (if inR x1 9 = true then den (d + 1) 139 51 [some (vr 4 0), some (vi x1), some (vi (I 22 0 (Int32.toNatClampNeg x1))), some (vi 0)] [] (MX I J T) else none) else ret9 (den (d + 1) 139) 139 38 41 [some (vr 4 0), some (vi x1), none, none] [] (cal d 141 [vr 4 0] (MX I J T)))) else (if decide (¬ (I 4 0 13) = 0) = true then (if decide ((I 4 0 9) ≤ x1) = true then ret9 (den (d + 1) 139) 139 38 41 [some (vr 4 0), some (vi x1), none, none] [] (cal d 141 [vr 4 0] (MX I J T)) else (if decide (x1 < 9) = true then (if inR x1 9 = true then den (d + 1) 139 51 [some (vr 4 0), some (vi x1), some (vi (I 22 0 (Int32.toNatClampNeg x1))), some (vi 0)] [] (MX I J T) else none) else ret9 (den (d + 1) 139) 139 38 41 [some (vr 4 0), some (vi x1), none, none] [] (cal d 141 [vr 4 0] (MX I J T)))) else ret9 (den (d + 1) 139) 139 16 19 [some (vr 4 0), some (vi x1), none, none] [] (cal d 140 [vr 4 0, vi x1] (MX I J T))))).trans (by simp only [ite_dec])
set_option maxRecDepth 100000 in
theorem b139_19 (d : Nat) (x1 : Int32) (v : Int32) (I : PI) (J : PJ) (T : TL) : den (d + 1) 139 19 [some (vr 4 0), some (vi x1), none, none] [vi v] (MX I J T) = (if ¬ v = 0 then (if (I 4 0 9) ≤ x1 then ret9 (den (d + 1) 139) 139 38 41 [some (vr 4 0), some (vi x1), none, none] [] (cal d 141 [vr 4 0] (MX I J T)) else (if x1 < 9 then (if inR x1 9 = true then den (d + 1) 139 51 [some (vr 4 0), some (vi x1), some (vi (I 22 0 (Int32.toNatClampNeg x1))), some (vi 0)] [] (MX I J T) else none) else ret9 (den (d + 1) 139) 139 38 41 [some (vr 4 0), some (vi x1), none, none] [] (cal d 141 [vr 4 0] (MX I J T)))) else some (.inl none, MX I J T)) :=
  ((bx_eq [51] (d + 1) 139 15 19 _ _ _).symm.trans rfl : _ = (if decide (¬ v = 0) = true then (if decide ((I 4 0 9) ≤ x1) = true then ret9 (den (d + 1) 139) 139 38 41 [some (vr 4 0), some (vi x1), none, none] [] (cal d 141 [vr 4 0] (MX I J T)) else (if decide (x1 < 9) = true then (if inR x1 9 = true then den (d + 1) 139 51 [some (vr 4 0), some (vi x1), some (vi (I 22 0 (Int32.toNatClampNeg x1))), some (vi 0)] [] (MX I J T) else none) else ret9 (den (d + 1) 139) 139 38 41 [some (vr 4 0), some (vi x1), none, none] [] (cal d 141 [vr 4 0] (MX I J T)))) else some (.inl none, MX I J T))).trans (by simp only [ite_dec])
set_option maxRecDepth 100000 in
theorem b139_41 (d : Nat) (x1 : Int32) (I : PI) (J : PJ) (T : TL) : den d 139 41 [some (vr 4 0), some (vi x1), none, none] [] (MX I J T) = some (.inl none, MX I J T) :=
  (bx_eq [51] d 139 1 41 _ _ _).symm.trans rfl
set_option maxRecDepth 100000 in
theorem b139_51 (d : Nat) (x1 : Int32) (x2 : Int32) (x3 : Int32) (I : PI) (J : PJ) (T : TL) : den (d + 1) 139 51 [some (vr 4 0), some (vi x1), some (vi x2), some (vi x3)] [] (MX I J T) = (if (I 4 0 10) ≤ x3 then some (.inl none, MX I J T) else ret9 (den (d + 1) 139) 139 62 65 [some (vr 4 0), some (vi x1), some (vi x2), some (vi x3)] [] (cal d 138 [vr 4 0, vi x3, vi x2] (MX I J T))) :=
  ((bx_eq [51] (d + 1) 139 8 51 _ _ _).symm.trans rfl : _ = (if decide ((I 4 0 10) ≤ x3) = true then some (.inl none, MX I J T) else ret9 (den (d + 1) 139) 139 62 65 [some (vr 4 0), some (vi x1), some (vi x2), some (vi x3)] [] (cal d 138 [vr 4 0, vi x3, vi x2] (MX I J T)))).trans (by simp only [ite_dec])
set_option maxRecDepth 100000 in
theorem b139_65 (d : Nat) (x1 : Int32) (x2 : Int32) (x3 : Int32) (v : Int32) (I : PI) (J : PJ) (T : TL) : den (d + 1) 139 65 [some (vr 4 0), some (vi x1), some (vi x2), some (vi x3)] [vi v] (MX I J T) = (if v = 0 then den (d + 1) 139 51 [some (vr 4 0), some (vi x1), some (vi x2), some (vi (x3 + 1))] [] (MX I J T) else (if inR x1 9 = true then ret9 (den (d + 1) 139) 139 79 82 [some (vr 4 0), some (vi x1), some (vi x2), some (vi x3)] [] (cal d 145 [vr 4 0, vi x2, vi x3, vi 1] (MX (up3 I 22 1 (Int32.toNatClampNeg x1) x3) J T)) else none)) :=
  ((bx_eq [51] (d + 1) 139 11 65 _ _ _).symm.trans rfl : _ = (if decide (v = 0) = true then den (d + 1) 139 51 [some (vr 4 0), some (vi x1), some (vi x2), some (vi (x3 + 1))] [] (MX I J T) else (if inR x1 9 = true then ret9 (den (d + 1) 139) 139 79 82 [some (vr 4 0), some (vi x1), some (vi x2), some (vi x3)] [] (cal d 145 [vr 4 0, vi x2, vi x3, vi 1] (MX (up3 I 22 1 (Int32.toNatClampNeg x1) x3) J T)) else none))).trans (by simp only [ite_dec])
set_option maxRecDepth 100000 in
theorem b139_82 (d : Nat) (x1 : Int32) (x2 : Int32) (x3 : Int32) (I : PI) (J : PJ) (T : TL) : den (d + 1) 139 82 [some (vr 4 0), some (vi x1), some (vi x2), some (vi x3)] [] (MX I J T) = ret9 (den (d + 1) 139) 139 86 89 [some (vr 4 0), some (vi x1), some (vi x2), some (vi x3)] [] (cal d 139 [vr 4 0, vi (x1 + 1)] (MX I J T)) :=
  (bx_eq [51] (d + 1) 139 5 82 _ _ _).symm.trans rfl
set_option maxRecDepth 100000 in
theorem b139_89 (d : Nat) (x1 : Int32) (x2 : Int32) (x3 : Int32) (I : PI) (J : PJ) (T : TL) : den (d + 1) 139 89 [some (vr 4 0), some (vi x1), some (vi x2), some (vi x3)] [] (MX I J T) = ret9 (den (d + 1) 139) 139 93 96 [some (vr 4 0), some (vi x1), some (vi x2), some (vi x3)] [] (cal d 145 [vr 4 0, vi x2, vi x3, vi (-1)] (MX I J T)) :=
  (bx_eq [51] (d + 1) 139 5 89 _ _ _).symm.trans rfl
set_option maxRecDepth 100000 in
theorem b139_96 (d : Nat) (x1 : Int32) (x2 : Int32) (x3 : Int32) (I : PI) (J : PJ) (T : TL) : den d 139 96 [some (vr 4 0), some (vi x1), some (vi x2), some (vi x3)] [] (MX I J T) = den d 139 51 [some (vr 4 0), some (vi x1), some (vi x2), some (vi (x3 + 1))] [] (MX I J T) :=
  (bx_eq [51] d 139 2 96 _ _ _).symm.trans rfl
-- 140 WF_Finder_isHopeful
set_option maxRecDepth 100000 in
theorem c140 (d : Nat) (x1 : Int32) (I : PI) (J : PJ) (T : TL) : cal d 140 [vr 4 0, vi x1] (MX I J T) = (if inR x1 10 = true then den d 140 12 [some (vr 4 0), some (vi x1), some (vi (I 23 0 (Int32.toNatClampNeg x1))), some (vi 0), some (vi 0), none, none] [] (MX I J T) else none) :=
  (bx_eq [12] d 140 9 0 _ _ _).symm.trans rfl
set_option maxRecDepth 100000 in
theorem b140_12 (d : Nat) (x1 : Int32) (x2 : Int32) (x3 : Int32) (x4 : Int32) (o5 : Option AV) (o6 : Option AV) (I : PI) (J : PJ) (T : TL) : den d 140 12 [some (vr 4 0), some (vi x1), some (vi x2), some (vi x3), some (vi x4), o5, o6] [] (MX I J T) = (if (I 4 0 10) ≤ x4 then (if x3 < (I 4 0 14) then some (.inl (some (vi 1)), MX I J T) else (if ¬ x3 = (I 4 0 14) then some (.inl (some (vi 0)), MX I J T) else (if x2 ≤ (I 4 0 15) then some (.inl (some (vi 0)), MX I J T) else some (.inl (some (vi 1)), MX I J T)))) else (if inR ((x4 * 3) + x4) 9 = true then (if inR x4 6 = true then (if inR ((x4 * 10) + x1) 30 = true then (if (((I 21 4 (Int32.toNatClampNeg x4)) - (I 22 3 (Int32.toNatClampNeg ((x4 * 3) + x4)))) - (I 26 0 (Int32.toNatClampNeg ((x4 * 10) + x1)))) ≤ 0 then den d 140 12 [some (vr 4 0), some (vi x1), some (vi (x2 + (I 22 3 (Int32.toNatClampNeg ((x4 * 3) + x4))))), some (vi (x3 + 0)), some (vi (x4 + 1)), some (vi (I 22 3 (Int32.toNatClampNeg ((x4 * 3) + x4)))), some (vi (((I 21 4 (Int32.toNatClampNeg x4)) - (I 22 3 (Int32.toNatClampNeg ((x4 * 3) + x4)))) - (I 26 0 (Int32.toNatClampNeg ((x4 * 10) + x1)))))] [] (MX I J T) else den d 140 12 [some (vr 4 0), some (vi x1), some (vi (x2 + (I 22 3 (Int32.toNatClampNeg ((x4 * 3) + x4))))), some (vi (x3 + (((I 21 4 (Int32.toNatClampNeg x4)) - (I 22 3 (Int32.toNatClampNeg ((x4 * 3) + x4)))) - (I 26 0 (Int32.toNatClampNeg ((x4 * 10) + x1)))))), some (vi (x4 + 1)), some (vi (I 22 3 (Int32.toNatClampNeg ((x4 * 3) + x4)))), some (vi (((I 21 4 (Int32.toNatClampNeg x4)) - (I 22 3 (Int32.toNatClampNeg ((x4 * 3) + x4)))) - (I 26 0 (Int32.toNatClampNeg ((x4 * 10) + x1)))))] [] (MX I J T)) else none) else none) else none)) :=
  ((bx_eq [12] d 140 43 12 _ _ _).symm.trans rfl : _ = (if decide ((I 4 0 10) ≤ x4) = true then (if decide (x3 < (I 4 0 14)) = true then some (.inl (some (vi 1)), MX I J T) else (if decide (¬ x3 = (I 4 0 14)) = true then some (.inl (some (vi 0)), MX I J T) else (if decide (x2 ≤ (I 4 0 15)) = true then some (.inl (some (vi 0)), MX I J T) else some (.inl (some (vi 1)), MX I J T)))) else (if inR ((x4 * 3) + x4) 9 = true then (if inR x4 6 = true then (if inR ((x4 * 10) + x1) 30 = true then (if decide ((((I 21 4 (Int32.toNatClampNeg x4)) - (I 22 3 (Int32.toNatClampNeg ((x4 * 3) + x4)))) - (I 26 0 (Int32.toNatClampNeg ((x4 * 10) + x1)))) ≤ 0) = true then den d 140 12 [some (vr 4 0), some (vi x1), some (vi (x2 + (I 22 3 (Int32.toNatClampNeg ((x4 * 3) + x4))))), some (vi (x3 + 0)), some (vi (x4 + 1)), some (vi (I 22 3 (Int32.toNatClampNeg ((x4 * 3) + x4)))), some (vi (((I 21 4 (Int32.toNatClampNeg x4)) - (I 22 3 (Int32.toNatClampNeg ((x4 * 3) + x4)))) - (I 26 0 (Int32.toNatClampNeg ((x4 * 10) + x1)))))] [] (MX I J T) else den d 140 12 [some (vr 4 0), some (vi x1), some (vi (x2 + (I 22 3 (Int32.toNatClampNeg ((x4 * 3) + x4))))), some (vi (x3 + (((I 21 4 (Int32.toNatClampNeg x4)) - (I 22 3 (Int32.toNatClampNeg ((x4 * 3) + x4)))) - (I 26 0 (Int32.toNatClampNeg ((x4 * 10) + x1)))))), some (vi (x4 + 1)), some (vi (I 22 3 (Int32.toNatClampNeg ((x4 * 3) + x4)))), some (vi (((I 21 4 (Int32.toNatClampNeg x4)) - (I 22 3 (Int32.toNatClampNeg ((x4 * 3) + x4)))) - (I 26 0 (Int32.toNatClampNeg ((x4 * 10) + x1)))))] [] (MX I J T)) else none) else none) else none))).trans (by simp only [ite_dec])
-- 141 WF_Finder_weigh
set_option maxRecDepth 100000 in
theorem c141 (d : Nat) (I : PI) (J : PJ) (T : TL) : cal (d + 1) 141 [vr 4 0] (MX I J T) = (if (I 4 0 11) = 0 then den (d + 1) 141 23 [some (vr 4 0), some (vi 0), some (vi 0), some (vi 0), some (vi 0), none, none] [] (MX I J T) else ret9 (den (d + 1) 141) 141 8 11 [some (vr 4 0), none, none, none, none, none, none] [] (cal d 142 [vr 4 0] (MX I J T))) :=
  ((bx_eq [23] (d + 1) 141 11 0 _ _ _).symm.trans rfl : _ = (if decide ((I 4 0 11) = 0) = true then den (d + 1) 141 23 [some (vr 4 0), some (vi 0), some (vi 0), some (vi 0), some (vi 0), none, none] [] (MX I J T) else ret9 (den (d + 1) 141) 141 8 11 [some (vr 4 0), none, none, none, none, none, none] [] (cal d 142 [vr 4 0] (MX I J T)))).trans (by simp only [ite_dec])
set_option maxRecDepth 100000 in
theorem b141_11 (d : Nat) (v : Int32) (I : PI) (J : PJ) (T : TL) : den d 141 11 [some (vr 4 0), none, none, none, none, none, none] [vi v] (MX I J T) = den d 141 23 [some (vr 4 0), some (vi v), some (vi 0), some (vi 0), some (vi 0), none, none] [] (MX I J T) :=
  (bx_eq [23] d 141 8 11 _ _ _).symm.trans rfl
set_option maxRecDepth 100000 in
theorem b141_23 (d : Nat) (x1 : Int32) (x2 : Int32) (x3 : Int32) (x4 : Int32) (o5 : Option AV) (o6 : Option AV) (I : PI) (J : PJ) (T : TL) : den (d + 1) 141 23 [some (vr 4 0), some (vi x1), some (vi x2), some (vi x3), some (vi x4), o5, o6] [] (MX I J T) = (if (I 4 0 10) ≤ x4 then (if (I 4 0 12) = 0 then ret9 (den (d + 1) 141) 141 104 107 [some (vr 4 0), some (vi x1), some (vi x2), some (vi x3), some (vi x4), o5, o6] [] (cal d 144 [vr 4 0] (MX I J T)) else ret9 (den (d + 1) 141) 141 97 100 [some (vr 4 0), some (vi x1), some (vi x2), some (vi x3), some (vi x4), o5, o6] [] (cal d 143 [vr 4 0, vi x1, vi x2, vi x3] (MX I J T))) else (if inR ((x4 * 3) + x4) 9 = true then (if inR x4 6 = true then (if ((I 21 4 (Int32.toNatClampNeg x4)) - (I 22 3 (Int32.toNatClampNeg ((x4 * 3) + x4)))) ≤ 0 then den (d + 1) 141 23 [some (vr 4 0), some (vi x1), some (vi (x2 + 0)), some (vi (x3 + (I 22 3 (Int32.toNatClampNeg ((x4 * 3) + x4))))), some (vi (x4 + 1)), some (vi (I 22 3 (Int32.toNatClampNeg ((x4 * 3) + x4)))), some (vi ((I 21 4 (Int32.toNatClampNeg x4)) - (I 22 3 (Int32.toNatClampNeg ((x4 * 3) + x4)))))] [] (MX I J T) else den (d + 1) 141 23 [some (vr 4 0), some (vi x1), some (vi (x2 + ((I 21 4 (Int32.toNatClampNeg x4)) - (I 22 3 (Int32.toNatClampNeg ((x4 * 3) + x4)))))), some (vi (x3 + (I 22 3 (Int32.toNatClampNeg ((x4 * 3) + x4))))), some (vi (x4 + 1)), some (vi (I 22 3 (Int32.toNatClampNeg ((x4 * 3) + x4)))), some (vi ((I 21 4 (Int32.toNatClampNeg x4)) - (I 22 3 (Int32.toNatClampNeg ((x4 * 3) + x4)))))] [] (MX I J T)) else none) else none)) :=
  ((bx_eq [23] (d + 1) 141 34 23 _ _ _).symm.trans rfl : _ = (if decide ((I 4 0 10) ≤ x4) = true then (if decide ((I 4 0 12) = 0) = true then ret9 (den (d + 1) 141) 141 104 107 [some (vr 4 0), some (vi x1), some (vi x2), some (vi x3), some (vi x4), o5, o6] [] (cal d 144 [vr 4 0] (MX I J T)) else ret9 (den (d + 1) 141) 141 97 100 [some (vr 4 0), some (vi x1), some (vi x2), some (vi x3), some (vi x4), o5, o6] [] (cal d 143 [vr 4 0, vi x1, vi x2, vi x3] (MX I J T))) else (if inR ((x4 * 3) + x4) 9 = true then (if inR x4 6 = true then (if decide (((I 21 4 (Int32.toNatClampNeg x4)) - (I 22 3 (Int32.toNatClampNeg ((x4 * 3) + x4)))) ≤ 0) = true then den (d + 1) 141 23 [some (vr 4 0), some (vi x1), some (vi (x2 + 0)), some (vi (x3 + (I 22 3 (Int32.toNatClampNeg ((x4 * 3) + x4))))), some (vi (x4 + 1)), some (vi (I 22 3 (Int32.toNatClampNeg ((x4 * 3) + x4)))), some (vi ((I 21 4 (Int32.toNatClampNeg x4)) - (I 22 3 (Int32.toNatClampNeg ((x4 * 3) + x4)))))] [] (MX I J T) else den (d + 1) 141 23 [some (vr 4 0), some (vi x1), some (vi (x2 + ((I 21 4 (Int32.toNatClampNeg x4)) - (I 22 3 (Int32.toNatClampNeg ((x4 * 3) + x4)))))), some (vi (x3 + (I 22 3 (Int32.toNatClampNeg ((x4 * 3) + x4))))), some (vi (x4 + 1)), some (vi (I 22 3 (Int32.toNatClampNeg ((x4 * 3) + x4)))), some (vi ((I 21 4 (Int32.toNatClampNeg x4)) - (I 22 3 (Int32.toNatClampNeg ((x4 * 3) + x4)))))] [] (MX I J T)) else none) else none))).trans (by simp only [ite_dec])
set_option maxRecDepth 100000 in
theorem b141_100 (d : Nat) (x1 : Int32) (x2 : Int32) (x3 : Int32) (x4 : Int32) (o5 : Option AV) (o6 : Option AV) (v : Int32) (I : PI) (J : PJ) (T : TL) : den (d + 1) 141 100 [some (vr 4 0), some (vi x1), some (vi x2), some (vi x3), some (vi x4), o5, o6] [vi v] (MX I J T) = (if v = 0 then some (.inl none, MX I J T) else ret9 (den (d + 1) 141) 141 104 107 [some (vr 4 0), some (vi x1), some (vi x2), some (vi x3), some (vi x4), o5, o6] [] (cal d 144 [vr 4 0] (MX I J T))) :=
  ((bx_eq [23] (d + 1) 141 3 100 _ _ _).symm.trans rfl : _ = (if decide (v = 0) = true then some (.inl none, MX I J T) else ret9 (den (d + 1) 141) 141 104 107 [some (vr 4 0), some (vi x1), some (vi x2), some (vi x3), some (vi x4), o5, o6] [] (cal d 144 [vr 4 0] (MX I J T)))).trans (by simp only [ite_dec])
set_option maxRecDepth 100000 in
theorem b141_107 (d : Nat) (x1 : Int32) (x2 : Int32) (x3 : Int32) (x4 : Int32) (o5 : Option AV) (o6 : Option AV) (v : Int32) (I : PI) (J : PJ) (T : TL) : den d 141 107 [some (vr 4 0), some (vi x1), some (vi x2), some (vi x3), some (vi x4), o5, o6] [vi v] (MX I J T) = (if ¬ v = 0 then some (.inl none, MX (upA (up3 (up3 (up3 (up3 I 4 0 12 1) 4 0 13 x1) 4 0 14 x2) 4 0 15 x3) 22 2 (va_cpy ((up3 (up3 (up3 (up3 I 4 0 12 1) 4 0 13 x1) 4 0 14 x2) 4 0 15 x3) 22 1) ((up3 (up3 (up3 (up3 I 4 0 12 1) 4 0 13 x1) 4 0 14 x2) 4 0 15 x3) 22 2) 0 0 9)) J T) else some (.inl none, MX I J T)) :=
  ((bx_eq [23] d 141 22 107 _ _ _).symm.trans rfl : _ = (if decide (¬ v = 0) = true then some (.inl none, MX (upA (up3 (up3 (up3 (up3 I 4 0 12 1) 4 0 13 x1) 4 0 14 x2) 4 0 15 x3) 22 2 (va_cpy ((up3 (up3 (up3 (up3 I 4 0 12 1) 4 0 13 x1) 4 0 14 x2) 4 0 15 x3) 22 1) ((up3 (up3 (up3 (up3 I 4 0 12 1) 4 0 13 x1) 4 0 14 x2) 4 0 15 x3) 22 2) 0 0 9)) J T) else some (.inl none, MX I J T))).trans (by simp only [ite_dec])
-- 142 WF_Finder_envyPairs
set_option maxRecDepth 100000 in
theorem c142 (d : Nat) (I : PI) (J : PJ) (T : TL) : cal d 142 [vr 4 0] (MX I J T) = den d 142 4 [some (vr 4 0), some (vi 0), some (vi 0), none, none] [] (MX I J T) :=
  (bx_eq [4, 26] d 142 4 0 _ _ _).symm.trans rfl
set_option maxRecDepth 100000 in
theorem b142_4 (d : Nat) (x1 : Int32) (x2 : Int32) (o3 : Option AV) (o4 : Option AV) (I : PI) (J : PJ) (T : TL) : den d 142 4 [some (vr 4 0), some (vi x1), some (vi x2), o3, o4] [] (MX I J T) = (if (I 4 0 10) ≤ x2 then some (.inl (some (vi x1)), MX I J T) else (if inR ((x2 * 3) + x2) 9 = true then den d 142 26 [some (vr 4 0), some (vi x1), some (vi x2), some (vi (I 22 3 (Int32.toNatClampNeg ((x2 * 3) + x2)))), some (vi 0)] [] (MX I J T) else none)) :=
  ((bx_eq [4, 26] d 142 15 4 _ _ _).symm.trans rfl : _ = (if decide ((I 4 0 10) ≤ x2) = true then some (.inl (some (vi x1)), MX I J T) else (if inR ((x2 * 3) + x2) 9 = true then den d 142 26 [some (vr 4 0), some (vi x1), some (vi x2), some (vi (I 22 3 (Int32.toNatClampNeg ((x2 * 3) + x2)))), some (vi 0)] [] (MX I J T) else none))).trans (by simp only [ite_dec])
set_option maxRecDepth 100000 in
theorem b142_26 (d : Nat) (x1 : Int32) (x2 : Int32) (x3 : Int32) (x4 : Int32) (I : PI) (J : PJ) (T : TL) : den d 142 26 [some (vr 4 0), some (vi x1), some (vi x2), some (vi x3), some (vi x4)] [] (MX I J T) = (if (I 4 0 10) ≤ x4 then den d 142 4 [some (vr 4 0), some (vi x1), some (vi (x2 + 1)), some (vi x3), some (vi x4)] [] (MX I J T) else (if inR x4 3 = true then (if (lg_cmp (J 41 0 (Int32.toNatClampNeg x4)) 0) = 0 then den d 142 26 [some (vr 4 0), some (vi x1), some (vi x2), some (vi x3), some (vi (x4 + 1))] [] (MX I J T) else (if inR ((x2 * 3) + x4) 9 = true then (if (I 22 3 (Int32.toNatClampNeg ((x2 * 3) + x4))) ≤ x3 then den d 142 26 [some (vr 4 0), some (vi x1), some (vi x2), some (vi x3), some (vi (x4 + 1))] [] (MX I J T) else den d 142 26 [some (vr 4 0), some (vi (x1 + 1)), some (vi x2), some (vi x3), some (vi (x4 + 1))] [] (MX I J T)) else none)) else none)) :=
  ((bx_eq [4, 26] d 142 24 26 _ _ _).symm.trans rfl : _ = (if decide ((I 4 0 10) ≤ x4) = true then den d 142 4 [some (vr 4 0), some (vi x1), some (vi (x2 + 1)), some (vi x3), some (vi x4)] [] (MX I J T) else (if inR x4 3 = true then (if decide ((lg_cmp (J 41 0 (Int32.toNatClampNeg x4)) 0) = 0) = true then den d 142 26 [some (vr 4 0), some (vi x1), some (vi x2), some (vi x3), some (vi (x4 + 1))] [] (MX I J T) else (if inR ((x2 * 3) + x4) 9 = true then (if decide ((I 22 3 (Int32.toNatClampNeg ((x2 * 3) + x4))) ≤ x3) = true then den d 142 26 [some (vr 4 0), some (vi x1), some (vi x2), some (vi x3), some (vi (x4 + 1))] [] (MX I J T) else den d 142 26 [some (vr 4 0), some (vi (x1 + 1)), some (vi x2), some (vi x3), some (vi (x4 + 1))] [] (MX I J T)) else none)) else none))).trans (by simp only [ite_dec])
-- 143 WF_Finder_isBest
set_option maxRecDepth 100000 in
theorem c143 (d : Nat) (x1 : Int32) (x2 : Int32) (x3 : Int32) (I : PI) (J : PJ) (T : TL) : cal d 143 [vr 4 0, vi x1, vi x2, vi x3] (MX I J T) = (if x1 = (I 4 0 13) then (if x2 < (I 4 0 14) then some (.inl (some (vi 1)), MX I J T) else (if ¬ x2 = (I 4 0 14) then some (.inl (some (vi 0)), MX I J T) else (if x3 ≤ (I 4 0 15) then some (.inl (some (vi 0)), MX I J T) else some (.inl (some (vi 1)), MX I J T)))) else (if (I 4 0 13) ≤ x1 then some (.inl (some (vi 0)), MX I J T) else some (.inl (some (vi 1)), MX I J T))) :=
  ((bx_eq [] d 143 19 0 _ _ _).symm.trans rfl : _ = (if decide (x1 = (I 4 0 13)) = true then (if decide (x2 < (I 4 0 14)) = true then some (.inl (some (vi 1)), MX I J T) else (if decide (¬ x2 = (I 4 0 14)) = true then some (.inl (some (vi 0)), MX I J T) else (if decide (x3 ≤ (I 4 0 15)) = true then some (.inl (some (vi 0)), MX I J T) else some (.inl (some (vi 1)), MX I J T)))) else (if decide ((I 4 0 13) ≤ x1) = true then some (.inl (some (vi 0)), MX I J T) else some (.inl (some (vi 1)), MX I J T)))).trans (by simp only [ite_dec])
-- 144 WF_Finder_areLawful
set_option maxRecDepth 100000 in
theorem c144 (d : Nat) (I : PI) (J : PJ) (T : TL) : cal d 144 [vr 4 0] (MX I J T) = den d 144 2 [some (vr 4 0), some (vi 0)] [] (MX I J T) :=
  (bx_eq [2] d 144 2 0 _ _ _).symm.trans rfl
set_option maxRecDepth 100000 in
theorem b144_2 (d : Nat) (x1 : Int32) (I : PI) (J : PJ) (T : TL) : den (d + 1) 144 2 [some (vr 4 0), some (vi x1)] [] (MX I J T) = (if (I 4 0 10) ≤ x1 then some (.inl (some (vi 1)), MX I J T) else (if inR x1 3 = true then ret9 (den (d + 1) 144) 144 20 23 [some (vr 4 0), some (vi x1)] [] (cal d 128 [vr 5 0, vl (J 41 0 (Int32.toNatClampNeg x1))] (MX I J T)) else none)) :=
  ((bx_eq [2] (d + 1) 144 11 2 _ _ _).symm.trans rfl : _ = (if decide ((I 4 0 10) ≤ x1) = true then some (.inl (some (vi 1)), MX I J T) else (if inR x1 3 = true then ret9 (den (d + 1) 144) 144 20 23 [some (vr 4 0), some (vi x1)] [] (cal d 128 [vr 5 0, vl (J 41 0 (Int32.toNatClampNeg x1))] (MX I J T)) else none))).trans (by simp only [ite_dec])
set_option maxRecDepth 100000 in
theorem b144_23 (d : Nat) (x1 : Int32) (v : Int32) (I : PI) (J : PJ) (T : TL) : den d 144 23 [some (vr 4 0), some (vi x1)] [vi v] (MX I J T) = (if ¬ v = 0 then den d 144 2 [some (vr 4 0), some (vi (x1 + 1))] [] (MX I J T) else some (.inl (some (vi 0)), MX I J T)) :=
  ((bx_eq [2] d 144 3 23 _ _ _).symm.trans rfl : _ = (if decide (¬ v = 0) = true then den d 144 2 [some (vr 4 0), some (vi (x1 + 1))] [] (MX I J T) else some (.inl (some (vi 0)), MX I J T))).trans (by simp only [ite_dec])
-- 145 WF_Finder_turn
set_option maxRecDepth 100000 in
theorem c145 (d : Nat) (x1 : Int32) (x2 : Int32) (x3 : Int32) (I : PI) (J : PJ) (T : TL) : cal d 145 [vr 4 0, vi x1, vi x2, vi x3] (MX I J T) = (if inR x2 3 = true then (if inR x2 3 = true then den d 145 15 [some (vr 4 0), some (vi x1), some (vi x2), some (vi x3), some (vi 0)] [] (MX I (up3 J 41 0 (Int32.toNatClampNeg x2) ((J 41 0 (Int32.toNatClampNeg x2)) ^^^ (lsh9 1 x1))) T) else none) else none) :=
  (bx_eq [15] d 145 12 0 _ _ _).symm.trans rfl
set_option maxRecDepth 100000 in
theorem b145_15 (d : Nat) (x1 : Int32) (x2 : Int32) (x3 : Int32) (x4 : Int32) (I : PI) (J : PJ) (T : TL) : den (d + 1) 145 15 [some (vr 4 0), some (vi x1), some (vi x2), some (vi x3), some (vi x4)] [] (MX I J T) = (if (I 4 0 10) ≤ x4 then some (.inl none, MX I J T) else (if inR ((x4 * 3) + x2) 9 = true then ret9 (den (d + 1) 145) 145 44 47 [some (vr 4 0), some (vi x1), some (vi x2), some (vi x3), some (vi x4)] [vi x3, vi (I 22 3 (Int32.toNatClampNeg ((x4 * 3) + x2))), vi ((x4 * 3) + x2), vr 22 3] (cal d 80 [vr 5 0, vi x4, vi x1] (MX I J T)) else none)) :=
  ((bx_eq [15] (d + 1) 145 19 15 _ _ _).symm.trans rfl : _ = (if decide ((I 4 0 10) ≤ x4) = true then some (.inl none, MX I J T) else (if inR ((x4 * 3) + x2) 9 = true then ret9 (den (d + 1) 145) 145 44 47 [some (vr 4 0), some (vi x1), some (vi x2), some (vi x3), some (vi x4)] [vi x3, vi (I 22 3 (Int32.toNatClampNeg ((x4 * 3) + x2))), vi ((x4 * 3) + x2), vr 22 3] (cal d 80 [vr 5 0, vi x4, vi x1] (MX I J T)) else none))).trans (by simp only [ite_dec])
set_option maxRecDepth 100000 in
theorem b145_47 (d : Nat) (x1 : Int32) (x2 : Int32) (x3 : Int32) (x4 : Int32) (s1 : Int32) (s2 : Int32) (s3 : Int32) (v : Int32) (I : PI) (J : PJ) (T : TL) : den d 145 47 [some (vr 4 0), some (vi x1), some (vi x2), some (vi x3), some (vi x4)] [vi v, vi s3, vi s2, vi s1, vr 22 3] (MX I J T) = (if inR s1 9 = true then den d 145 15 [some (vr 4 0), some (vi x1), some (vi x2), some (vi x3), some (vi (x4 + 1))] [] (MX (up3 I 22 3 (Int32.toNatClampNeg s1) (s2 + (s3 * v))) J T) else none) :=
  (bx_eq [15] d 145 5 47 _ _ _).symm.trans rfl
