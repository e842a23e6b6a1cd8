/-! Blocks of methods (printed by program: wip/gen/gen40.py) -/
-- 50 WF_Ground_leave
set_option maxRecDepth 100000 in
theorem c50 (d : Nat) (I : PI) (J : PJ) (T : TL) : cal (d + 1) 50 [vr 5 0] (MX I J T) = ret9 (den (d + 1) 50) 50 50 53 [some (vr 5 0)] [] (cal d 15 [vr 21 3, vi 0] (MX (up3 (up3 (up3 (up3 (up3 I 5 0 7 0) 5 0 8 0) 5 0 9 0) 5 0 10 0) 5 0 11 0) (up3 (up3 (up3 (up3 J 5 0 12 0) 5 0 13 0) 5 0 14 0) 5 0 15 0) T)) :=
  (bx_eq [] (d + 1) 50 31 0 _ _ _).symm.trans rfl
set_option maxRecDepth 100000 in
theorem b50_53 (d : Nat) (I : PI) (J : PJ) (T : TL) : den (d + 1) 50 53 [some (vr 5 0)] [] (MX I J T) = ret9 (den (d + 1) 50) 50 58 61 [some (vr 5 0)] [] (cal d 15 [vr 21 4, vi 0] (MX I J T)) :=
  (bx_eq [] (d + 1) 50 4 53 _ _ _).symm.trans rfl
set_option maxRecDepth 100000 in
theorem b50_61 (d : Nat) (I : PI) (J : PJ) (T : TL) : den d 50 61 [some (vr 5 0)] [] (MX I J T) = some (.inl none, MX I J T) :=
  (bx_eq [] d 50 1 61 _ _ _).symm.trans rfl
-- 51 WF_pass
set_option maxRecDepth 100000 in
theorem c51 (d : Nat) (x1 : Int32) (I : PI) (J : PJ) (T : TL) : cal d 51 [vr 11 0, vi x1] (MX I J T) = some (.inl (some (vi x1)), MX (up3 I 11 0 15 0) J T) :=
  (bx_eq [] d 51 5 0 _ _ _).symm.trans rfl
-- 52 WF_fault
set_option maxRecDepth 100000 in
theorem c52 (d : Nat) (I : PI) (J : PJ) (T : TL) : cal d 52 [vr 11 0] (MX I J T) = some (.inl (some (vi (I 11 0 11))), MX I J T) :=
  (bx_eq [] d 52 3 0 _ _ _).symm.trans rfl
-- 53 WF_where
set_option maxRecDepth 100000 in
theorem c53 (d : Nat) (I : PI) (J : PJ) (T : TL) : cal d 53 [vr 11 0] (MX I J T) = (if ¬ (I 11 0 15) = 4 then some (.inl (some (vi (-1))), MX I J T) else some (.inl (some (vi (I 11 0 12))), MX I J T)) :=
  ((bx_eq [] d 53 8 0 _ _ _).symm.trans rfl : _ = (if decide (¬ (I 11 0 15) = 4) = true then some (.inl (some (vi (-1))), MX I J T) else some (.inl (some (vi (I 11 0 12))), MX I J T))).trans (by simp only [ite_dec])
-- 54 WF_ground
set_option maxRecDepth 100000 in
theorem c54 (d : Nat) (x1 : Int32) (x2 : Int32) (I : PI) (J : PJ) (T : TL) : cal (d + 1) 54 [vr 11 0, vi x1, vi x2] (MX I J T) = (if ¬ (I 1 T.1 3) = 0 then (if x1 < 1 then ret9 (den (d + 1) 54) 54 43 46 [some (vr 11 0), some (vi x1), some (vi x2)] [] (cal d 20 [vr 11 0, vi 2] (MX I J T)) else (if 8 < x1 then ret9 (den (d + 1) 54) 54 43 46 [some (vr 11 0), some (vi x1), some (vi x2)] [] (cal d 20 [vr 11 0, vi 2] (MX I J T)) else (if x2 < 1 then ret9 (den (d + 1) 54) 54 43 46 [some (vr 11 0), some (vi x1), some (vi x2)] [] (cal d 20 [vr 11 0, vi 2] (MX I J T)) else (if x2 ≤ 8 then ret9 (den (d + 1) 54) 54 53 56 [some (vr 11 0), some (vi x1), some (vi x2)] [] (cal d 55 [vr 5 0, vi x1, vi x2] (MX I J T)) else ret9 (den (d + 1) 54) 54 43 46 [some (vr 11 0), some (vi x1), some (vi x2)] [] (cal d 20 [vr 11 0, vi 2] (MX I J T)))))) else ret9 (den (d + 1) 54) 54 15 18 [some (vr 11 0), some (vi x1), some (vi x2)] [] (cal d 20 [vr 11 0, vi 1] (MX I J T))) :=
  ((bx_eq [] (d + 1) 54 22 0 _ _ _).symm.trans rfl : _ = (if decide (¬ (I 1 T.1 3) = 0) = true then (if decide (x1 < 1) = true then ret9 (den (d + 1) 54) 54 43 46 [some (vr 11 0), some (vi x1), some (vi x2)] [] (cal d 20 [vr 11 0, vi 2] (MX I J T)) else (if decide (8 < x1) = true then ret9 (den (d + 1) 54) 54 43 46 [some (vr 11 0), some (vi x1), some (vi x2)] [] (cal d 20 [vr 11 0, vi 2] (MX I J T)) else (if decide (x2 < 1) = true then ret9 (den (d + 1) 54) 54 43 46 [some (vr 11 0), some (vi x1), some (vi x2)] [] (cal d 20 [vr 11 0, vi 2] (MX I J T)) else (if decide (x2 ≤ 8) = true then ret9 (den (d + 1) 54) 54 53 56 [some (vr 11 0), some (vi x1), some (vi x2)] [] (cal d 55 [vr 5 0, vi x1, vi x2] (MX I J T)) else ret9 (den (d + 1) 54) 54 43 46 [some (vr 11 0), some (vi x1), some (vi x2)] [] (cal d 20 [vr 11 0, vi 2] (MX I J T)))))) else ret9 (den (d + 1) 54) 54 15 18 [some (vr 11 0), some (vi x1), some (vi x2)] [] (cal d 20 [vr 11 0, vi 1] (MX I J T)))).trans (by simp only [ite_dec])
set_option maxRecDepth 100000 in
theorem b54_18 (d : Nat) (x1 : Int32) (x2 : Int32) (v : Int32) (I : PI) (J : PJ) (T : TL) : den d 54 18 [some (vr 11 0), some (vi x1), some (vi x2)] [vi v] (MX I J T) = some (.inl (some (vi v)), MX I J T) :=
  (bx_eq [] d 54 1 18 _ _ _).symm.trans rfl
set_option maxRecDepth 100000 in
theorem b54_46 (d : Nat) (x1 : Int32) (x2 : Int32) (v : Int32) (I : PI) (J : PJ) (T : TL) : den d 54 46 [some (vr 11 0), some (vi x1), some (vi x2)] [vi v] (MX I J T) = some (.inl (some (vi v)), MX I J T) :=
  (bx_eq [] d 54 1 46 _ _ _).symm.trans rfl
set_option maxRecDepth 100000 in
theorem b54_56 (d : Nat) (x1 : Int32) (x2 : Int32) (I : PI) (J : PJ) (T : TL) : den (d + 1) 54 56 [some (vr 11 0), some (vi x1), some (vi x2)] [] (MX I J T) = ret9 (den (d + 1) 54) 54 57 60 [some (vr 11 0), some (vi x1), some (vi x2)] [] (cal d 13 [vr 11 0] (MX I J T)) :=
  (bx_eq [] (d + 1) 54 2 56 _ _ _).symm.trans rfl
set_option maxRecDepth 100000 in
theorem b54_60 (d : Nat) (x1 : Int32) (x2 : Int32) (I : PI) (J : PJ) (T : TL) : den (d + 1) 54 60 [some (vr 11 0), some (vi x1), some (vi x2)] [] (MX I J T) = ret9 (den (d + 1) 54) 54 68 71 [some (vr 11 0), some (vi x1), some (vi x2)] [] (cal d 51 [vr 11 0, vi (I 5 0 9)] (MX I J T)) :=
  (bx_eq [] (d + 1) 54 5 60 _ _ _).symm.trans rfl
set_option maxRecDepth 100000 in
theorem b54_71 (d : Nat) (x1 : Int32) (x2 : Int32) (v : Int32) (I : PI) (J : PJ) (T : TL) : den d 54 71 [some (vr 11 0), some (vi x1), some (vi x2)] [vi v] (MX I J T) = some (.inl (some (vi v)), MX I J T) :=
  (bx_eq [] d 54 1 71 _ _ _).symm.trans rfl
-- 55 WF_Ground_lay
set_option maxRecDepth 100000 in
theorem c55 (d : Nat) (x1 : Int32) (x2 : Int32) (I : PI) (J : PJ) (T : TL) : cal (d + 1) 55 [vr 5 0, vi x1, vi x2] (MX I J T) = ret9 (den (d + 1) 55) 55 1 4 [some (vr 5 0), some (vi x1), some (vi x2), none] [] (cal d 50 [vr 5 0] (MX I J T)) :=
  (bx_eq [49] (d + 1) 55 2 0 _ _ _).symm.trans rfl
set_option maxRecDepth 100000 in
theorem b55_4 (d : Nat) (x1 : Int32) (x2 : Int32) (I : PI) (J : PJ) (T : TL) : den d 55 4 [some (vr 5 0), some (vi x1), some (vi x2), none] [] (MX I J T) = den d 55 49 [some (vr 5 0), some (vi x1), some (vi x2), some (vi 0)] [] (MX (up3 (up3 (up3 (up3 (up3 I 5 0 7 x1) 5 0 8 x2) 5 0 9 (x1 * x2)) 5 0 10 1) 5 0 11 20) (up3 J 5 0 12 (lus9 (-1) (64 - (x1 * x2)))) T) :=
  (bx_eq [49] d 55 27 4 _ _ _).symm.trans rfl
set_option maxRecDepth 100000 in
theorem b55_49 (d : Nat) (x1 : Int32) (x2 : Int32) (x3 : Int32) (I : PI) (J : PJ) (T : TL) : den (d + 1) 55 49 [some (vr 5 0), some (vi x1), some (vi x2), some (vi x3)] [] (MX I J T) = (if (I 5 0 8) ≤ x3 then ret9 (den (d + 1) 55) 55 100 103 [some (vr 5 0), some (vi x1), some (vi x2), some (vi x3)] [] (cal d 15 [vr 28 0, vi 5] (MX I (up3 J 5 0 15 (lsh9 (J 5 0 14) ((I 5 0 7) - 1))) T)) else den (d + 1) 55 49 [some (vr 5 0), some (vi x1), some (vi x2), some (vi (x3 + 1))] [] (MX I (up3 J 5 0 14 ((J 5 0 14) ||| (lsh9 1 (x3 * (I 5 0 7))))) T)) :=
  ((bx_eq [49] (d + 1) 55 17 49 _ _ _).symm.trans rfl : _ = (if decide ((I 5 0 8) ≤ x3) = true then ret9 (den (d + 1) 55) 55 100 103 [some (vr 5 0), some (vi x1), some (vi x2), some (vi x3)] [] (cal d 15 [vr 28 0, vi 5] (MX I (up3 J 5 0 15 (lsh9 (J 5 0 14) ((I 5 0 7) - 1))) T)) else den (d + 1) 55 49 [some (vr 5 0), some (vi x1), some (vi x2), some (vi (x3 + 1))] [] (MX I (up3 J 5 0 14 ((J 5 0 14) ||| (lsh9 1 (x3 * (I 5 0 7))))) T))).trans (by simp only [ite_dec])
set_option maxRecDepth 100000 in
theorem b55_103 (d : Nat) (x1 : Int32) (x2 : Int32) (x3 : Int32) (I : PI) (J : PJ) (T : TL) : den (d + 1) 55 103 [some (vr 5 0), some (vi x1), some (vi x2), some (vi x3)] [] (MX I J T) = ret9 (den (d + 1) 55) 55 108 111 [some (vr 5 0), some (vi x1), some (vi x2), some (vi x3)] [] (cal d 15 [vr 28 1, vi 0] (MX I J T)) :=
  (bx_eq [49] (d + 1) 55 4 103 _ _ _).symm.trans rfl
set_option maxRecDepth 100000 in
theorem b55_111 (d : Nat) (x1 : Int32) (x2 : Int32) (x3 : Int32) (I : PI) (J : PJ) (T : TL) : den (d + 1) 55 111 [some (vr 5 0), some (vi x1), some (vi x2), some (vi x3)] [] (MX I J T) = ret9 (den (d + 1) 55) 55 116 119 [some (vr 5 0), some (vi x1), some (vi x2), some (vi x3)] [] (cal d 15 [vr 28 2, vi (-1)] (MX I J T)) :=
  (bx_eq [49] (d + 1) 55 4 111 _ _ _).symm.trans rfl
set_option maxRecDepth 100000 in
theorem b55_119 (d : Nat) (x1 : Int32) (x2 : Int32) (x3 : Int32) (I : PI) (J : PJ) (T : TL) : den (d + 1) 55 119 [some (vr 5 0), some (vi x1), some (vi x2), some (vi x3)] [] (MX I J T) = ret9 (den (d + 1) 55) 55 124 127 [some (vr 5 0), some (vi x1), some (vi x2), some (vi x3)] [] (cal d 56 [vr 5 0, vl (J 5 0 12)] (MX I J T)) :=
  (bx_eq [49] (d + 1) 55 4 119 _ _ _).symm.trans rfl
set_option maxRecDepth 100000 in
theorem b55_127 (d : Nat) (x1 : Int32) (x2 : Int32) (x3 : Int32) (I : PI) (J : PJ) (T : TL) : den d 55 127 [some (vr 5 0), some (vi x1), some (vi x2), some (vi x3)] [] (MX I J T) = some (.inl none, MX I J T) :=
  (bx_eq [49] d 55 1 127 _ _ _).symm.trans rfl
-- 56 WF_Ground_reckonPrices
set_option maxRecDepth 100000 in
theorem c56 (d : Nat) (y1 : Int64) (I : PI) (J : PJ) (T : TL) : cal d 56 [vr 5 0, vl y1] (MX I J T) = den d 56 2 [some (vr 5 0), some (vl y1), none, some (vi 0)] [] (MX I J T) :=
  (bx_eq [2] d 56 2 0 _ _ _).symm.trans rfl
set_option maxRecDepth 100000 in
theorem b56_2 (d : Nat) (y1 : Int64) (x3 : Int32) (I : PI) (J : PJ) (T : TL) : den (d + 1) 56 2 [some (vr 5 0), some (vl y1), none, some (vi x3)] [] (MX I J T) = (if (I 1 T.1 3) ≤ x3 then some (.inl none, MX I J T) else ret9 (den (d + 1) 56) 56 16 19 [some (vr 5 0), some (vl y1), none, some (vi x3)] [] (cal d 57 [vr 5 0, vi x3, vl y1] (MX I J T))) :=
  ((bx_eq [2] (d + 1) 56 9 2 _ _ _).symm.trans rfl : _ = (if decide ((I 1 T.1 3) ≤ x3) = true then some (.inl none, MX I J T) else ret9 (den (d + 1) 56) 56 16 19 [some (vr 5 0), some (vl y1), none, some (vi x3)] [] (cal d 57 [vr 5 0, vi x3, vl y1] (MX I J T)))).trans (by simp only [ite_dec])
set_option maxRecDepth 100000 in
theorem b56_19 (d : Nat) (y1 : Int64) (x3 : Int32) (I : PI) (J : PJ) (T : TL) : den d 56 19 [some (vr 5 0), some (vl y1), none, some (vi x3)] [] (MX I J T) = den d 56 2 [some (vr 5 0), some (vl y1), none, some (vi (x3 + 1))] [] (MX I J T) :=
  (bx_eq [2] d 56 2 19 _ _ _).symm.trans rfl
-- 57 WF_Ground_reckonPricesTo
set_option maxRecDepth 100000 in
theorem c57 (d : Nat) (x1 : Int32) (y2 : Int64) (I : PI) (J : PJ) (T : TL) : cal d 57 [vr 5 0, vi x1, vl y2] (MX I J T) = den d 57 3 [some (vr 5 0), some (vi x1), some (vl y2), none, some (vi 0), none] [] (MX I J T) :=
  (bx_eq [3] d 57 2 0 _ _ _).symm.trans rfl
set_option maxRecDepth 100000 in
theorem b57_3 (d : Nat) (x1 : Int32) (y2 : Int64) (x4 : Int32) (o5 : Option AV) (I : PI) (J : PJ) (T : TL) : den (d + 1) 57 3 [some (vr 5 0), some (vi x1), some (vl y2), none, some (vi x4), o5] [] (MX I J T) = (if (I 5 0 9) ≤ x4 then some (.inl none, MX I J T) else (if (lg_cmp ((lus9 y2 x4) &&& 1) 0) = 0 then den (d + 1) 57 3 [some (vr 5 0), some (vi x1), some (vl y2), none, some (vi (x4 + 1)), o5] [] (MX I J T) else ret9 (den (d + 1) 57) 57 28 31 [some (vr 5 0), some (vi x1), some (vl y2), none, some (vi x4), o5] [] (cal d 58 [vr 5 0, vl (lsh9 1 x4)] (MX I J T)))) :=
  ((bx_eq [3] (d + 1) 57 17 3 _ _ _).symm.trans rfl : _ = (if decide ((I 5 0 9) ≤ x4) = true then some (.inl none, MX I J T) else (if decide ((lg_cmp ((lus9 y2 x4) &&& 1) 0) = 0) = true then den (d + 1) 57 3 [some (vr 5 0), some (vi x1), some (vl y2), none, some (vi (x4 + 1)), o5] [] (MX I J T) else ret9 (den (d + 1) 57) 57 28 31 [some (vr 5 0), some (vi x1), some (vl y2), none, some (vi x4), o5] [] (cal d 58 [vr 5 0, vl (lsh9 1 x4)] (MX I J T))))).trans (by simp only [ite_dec])
set_option maxRecDepth 100000 in
theorem b57_31 (d : Nat) (x1 : Int32) (y2 : Int64) (x4 : Int32) (o5 : Option AV) (v : Int64) (I : PI) (J : PJ) (T : TL) : den (d + 1) 57 31 [some (vr 5 0), some (vi x1), some (vl y2), none, some (vi x4), o5] [vl v] (MX I J T) = (if (lg_cmp (v &&& (J 5 0 13)) 0) = 0 then (if inR x4 64 = true then (if inR x4 64 = true then ret9 (den (d + 1) 57) 57 82 85 [some (vr 5 0), some (vi x1), some (vl y2), none, some (vi x4), some (vi 0)] [vi (I 28 1 (Int32.toNatClampNeg x4)), vi (I 28 0 (Int32.toNatClampNeg x4)), vi x1, vr 1 T.1, vi ((x1 * 64) + x4), vr 34 0] (cal d 61 [vr 5 0, vi x1, vi x4] (MX I J T)) else none) else none) else (if inR x4 64 = true then (if inR x4 64 = true then ret9 (den (d + 1) 57) 57 82 85 [some (vr 5 0), some (vi x1), some (vl y2), none, some (vi x4), some (vi 1)] [vi (I 28 1 (Int32.toNatClampNeg x4)), vi (I 28 0 (Int32.toNatClampNeg x4)), vi x1, vr 1 T.1, vi ((x1 * 64) + x4), vr 34 0] (cal d 61 [vr 5 0, vi x1, vi x4] (MX I J T)) else none) else none)) :=
  ((bx_eq [3] (d + 1) 57 31 31 _ _ _).symm.trans rfl : _ = (if decide ((lg_cmp (v &&& (J 5 0 13)) 0) = 0) = true then (if inR x4 64 = true then (if inR x4 64 = true then ret9 (den (d + 1) 57) 57 82 85 [some (vr 5 0), some (vi x1), some (vl y2), none, some (vi x4), some (vi 0)] [vi (I 28 1 (Int32.toNatClampNeg x4)), vi (I 28 0 (Int32.toNatClampNeg x4)), vi x1, vr 1 T.1, vi ((x1 * 64) + x4), vr 34 0] (cal d 61 [vr 5 0, vi x1, vi x4] (MX I J T)) else none) else none) else (if inR x4 64 = true then (if inR x4 64 = true then ret9 (den (d + 1) 57) 57 82 85 [some (vr 5 0), some (vi x1), some (vl y2), none, some (vi x4), some (vi 1)] [vi (I 28 1 (Int32.toNatClampNeg x4)), vi (I 28 0 (Int32.toNatClampNeg x4)), vi x1, vr 1 T.1, vi ((x1 * 64) + x4), vr 34 0] (cal d 61 [vr 5 0, vi x1, vi x4] (MX I J T)) else none) else none))).trans (by simp only [ite_dec])
set_option maxRecDepth 100000 in
theorem b57_85 (d : Nat) (x1 : Int32) (y2 : Int64) (x4 : Int32) (x5 : Int32) (s1 : Int32) (s3 : Int32) (s4 : Int32) (s5 : Int32) (v : Int32) (I : PI) (J : PJ) (T : TL) : den (d + 1) 57 85 [some (vr 5 0), some (vi x1), some (vl y2), none, some (vi x4), some (vi x5)] [vi v, vi s5, vi s4, vi s3, vr 1 T.1, vi s1, vr 34 0] (MX I J T) = ret9 (den (d + 1) 57) 57 87 90 [some (vr 5 0), some (vi x1), some (vl y2), none, some (vi x4), some (vi x5)] [vi s1, vr 34 0] (cal d 63 [vr 1 T.1, vi s3, vi s4, vi s5, vi v, vi x5] (MX I J T)) :=
  (bx_eq [3] (d + 1) 57 2 85 _ _ _).symm.trans rfl
set_option maxRecDepth 100000 in
theorem b57_90 (d : Nat) (x1 : Int32) (y2 : Int64) (x4 : Int32) (x5 : Int32) (s1 : Int32) (v : Int32) (I : PI) (J : PJ) (T : TL) : den d 57 90 [some (vr 5 0), some (vi x1), some (vl y2), none, some (vi x4), some (vi x5)] [vi v, vi s1, vr 34 0] (MX I J T) = (if inR s1 384 = true then den d 57 3 [some (vr 5 0), some (vi x1), some (vl y2), none, some (vi (x4 + 1)), some (vi x5)] [] (MX (up3 I 34 0 (Int32.toNatClampNeg s1) v) J T) else none) :=
  (bx_eq [3] d 57 3 90 _ _ _).symm.trans rfl
-- 58 WF_Ground_beside
set_option maxRecDepth 100000 in
theorem c58 (d : Nat) (y1 : Int64) (I : PI) (J : PJ) (T : TL) : cal (d + 1) 58 [vr 5 0, vl y1] (MX I J T) = ret9 (den (d + 1) 58) 58 2 5 [some (vr 5 0), some (vl y1), none] [] (cal d 59 [vr 5 0, vl y1] (MX I J T)) :=
  (bx_eq [] (d + 1) 58 3 0 _ _ _).symm.trans rfl
set_option maxRecDepth 100000 in
theorem b58_5 (d : Nat) (y1 : Int64) (v : Int64) (I : PI) (J : PJ) (T : TL) : den (d + 1) 58 5 [some (vr 5 0), some (vl y1), none] [vl v] (MX I J T) = ret9 (den (d + 1) 58) 58 7 10 [some (vr 5 0), some (vl y1), none] [vl v] (cal d 60 [vr 5 0, vl y1] (MX I J T)) :=
  (bx_eq [] (d + 1) 58 3 5 _ _ _).symm.trans rfl
set_option maxRecDepth 100000 in
theorem b58_10 (d : Nat) (y1 : Int64) (t0 : Int64) (v : Int64) (I : PI) (J : PJ) (T : TL) : den d 58 10 [some (vr 5 0), some (vl y1), none] [vl v, vl t0] (MX I J T) = some (.inl (some (vl ((((t0 ||| v) ||| (lsh9 y1 (I 5 0 7))) ||| (lus9 y1 (I 5 0 7))) &&& (J 5 0 12)))), MX I J T) :=
  (bx_eq [] d 58 15 10 _ _ _).symm.trans rfl
-- 59 WF_Ground_eastOf
set_option maxRecDepth 100000 in
theorem c59 (d : Nat) (y1 : Int64) (I : PI) (J : PJ) (T : TL) : cal d 59 [vr 5 0, vl y1] (MX I J T) = some (.inl (some (vl (lsh9 (y1 &&& ((J 5 0 15) ^^^ (-1))) 1))), MX I J T) :=
  (bx_eq [] d 59 9 0 _ _ _).symm.trans rfl
-- 60 WF_Ground_westOf
set_option maxRecDepth 100000 in
theorem c60 (d : Nat) (y1 : Int64) (I : PI) (J : PJ) (T : TL) : cal d 60 [vr 5 0, vl y1] (MX I J T) = some (.inl (some (vl (lus9 (y1 &&& ((J 5 0 14) ^^^ (-1))) 1))), MX I J T) :=
  (bx_eq [] d 60 9 0 _ _ _).symm.trans rfl
-- 61 WF_Ground_steps
set_option maxRecDepth 100000 in
theorem c61 (d : Nat) (x1 : Int32) (x2 : Int32) (I : PI) (J : PJ) (T : TL) : cal d 61 [vr 5 0, vi x1, vi x2] (MX I J T) = (if 0 < (I 5 0 7) then (if inR x1 6 = true then (if I 5 0 7 = 0 then none else (if I 5 0 7 = 0 then none else (if I 5 0 7 = 0 then none else (if I 5 0 7 = 0 then none else some (.inl (some (vi ((abs9 ((irm9 x2 (I 5 0 7)) - (irm9 (I 21 3 (Int32.toNatClampNeg x1)) (I 5 0 7)))) + (abs9 ((x2 / (I 5 0 7)) - ((I 21 3 (Int32.toNatClampNeg x1)) / (I 5 0 7))))))), MX I J T))))) else none) else some (.inl (some (vi 0)), MX I J T)) :=
  ((bx_eq [] d 61 30 0 _ _ _).symm.trans rfl : _ = (if decide (0 < (I 5 0 7)) = true then (if inR x1 6 = true then (if I 5 0 7 = 0 then none else (if I 5 0 7 = 0 then none else (if I 5 0 7 = 0 then none else (if I 5 0 7 = 0 then none else some (.inl (some (vi ((abs9 ((irm9 x2 (I 5 0 7)) - (irm9 (I 21 3 (Int32.toNatClampNeg x1)) (I 5 0 7)))) + (abs9 ((x2 / (I 5 0 7)) - ((I 21 3 (Int32.toNatClampNeg x1)) / (I 5 0 7))))))), MX I J T))))) else none) else some (.inl (some (vi 0)), MX I J T))).trans (by simp only [ite_dec])
-- 63 WF_Book_reckon
set_option maxRecDepth 100000 in
theorem c63 (d : Nat) (b : Nat) (x1 : Int32) (x2 : Int32) (x3 : Int32) (x4 : Int32) (x5 : Int32) (I : PI) (J : PJ) (T : TL) : cal d 63 [vr 1 b, vi x1, vi x2, vi x3, vi x4, vi x5] (MX I J T) = (if x1 < 0 then den d 63 12 [some (vr 1 b), some (vi x1), some (vi x2), some (vi x3), some (vi x4), some (vi x5), none, none, none, none, none] [] (MX I J T) else (if x1 < (I 1 b 3) then (if inR x1 6 = true then den d 63 38 [some (vr 1 b), some (vi x1), some (vi x2), some (vi x3), some (vi x4), some (vi x5), some (vi 0), some (vi (x1 * 40)), some (vi ((x1 * 40) + (I 21 (5 * b) (Int32.toNatClampNeg x1)))), some (vi (x1 * 40)), none] [] (MX I J T) else none) else den d 63 12 [some (vr 1 b), some (vi x1), some (vi x2), some (vi x3), some (vi x4), some (vi x5), none, none, none, none, none] [] (MX I J T))) :=
  ((bx_eq [12, 38, 45, 54, 61, 70, 103, 131] d 63 21 0 _ _ _).symm.trans rfl : _ = (if decide (x1 < 0) = true then den d 63 12 [some (vr 1 b), some (vi x1), some (vi x2), some (vi x3), some (vi x4), some (vi x5), none, none, none, none, none] [] (MX I J T) else (if decide (x1 < (I 1 b 3)) = true then (if inR x1 6 = true then den d 63 38 [some (vr 1 b), some (vi x1), some (vi x2), some (vi x3), some (vi x4), some (vi x5), some (vi 0), some (vi (x1 * 40)), some (vi ((x1 * 40) + (I 21 (5 * b) (Int32.toNatClampNeg x1)))), some (vi (x1 * 40)), none] [] (MX I J T) else none) else den d 63 12 [some (vr 1 b), some (vi x1), some (vi x2), some (vi x3), some (vi x4), some (vi x5), none, none, none, none, none] [] (MX I J T)))).trans (by simp only [ite_dec])
set_option maxRecDepth 100000 in
theorem b63_12 (d : Nat) (b : Nat) (x1 : Int32) (x2 : Int32) (x3 : Int32) (x4 : Int32) (x5 : Int32) (I : PI) (J : PJ) (T : TL) : den d 63 12 [some (vr 1 b), some (vi x1), some (vi x2), some (vi x3), some (vi x4), some (vi x5), none, none, none, none, none] [] (MX I J T) = some (.inl (some (vi 0)), MX I J T) :=
  (bx_eq [12, 38, 45, 54, 61, 70, 103, 131] d 63 2 12 _ _ _).symm.trans rfl
set_option maxRecDepth 100000 in
theorem b63_38 (d : Nat) (b : Nat) (x1 : Int32) (x2 : Int32) (x3 : Int32) (x4 : Int32) (x5 : Int32) (x6 : Int32) (x7 : Int32) (x8 : Int32) (x9 : Int32) (o10 : Option AV) (I : PI) (J : PJ) (T : TL) : den d 63 38 [some (vr 1 b), some (vi x1), some (vi x2), some (vi x3), some (vi x4), some (vi x5), some (vi x6), some (vi x7), some (vi x8), some (vi x9), o10] [] (MX I J T) = (if x8 ≤ x9 then some (.inl (some (vi (I 25 b 0))), MX I J T) else den d 63 45 [some (vr 1 b), some (vi x1), some (vi x2), some (vi x3), some (vi x4), some (vi x5), some (vi x6), some (vi x7), some (vi x8), some (vi x9), o10] [] (MX I J T)) :=
  ((bx_eq [12, 38, 45, 54, 61, 70, 103, 131] d 63 8 38 _ _ _).symm.trans rfl : _ = (if decide (x8 ≤ x9) = true then some (.inl (some (vi (I 25 b 0))), MX I J T) else den d 63 45 [some (vr 1 b), some (vi x1), some (vi x2), some (vi x3), some (vi x4), some (vi x5), some (vi x6), some (vi x7), some (vi x8), some (vi x9), o10] [] (MX I J T))).trans (by simp only [ite_dec])
set_option maxRecDepth 100000 in
theorem b63_45 (d : Nat) (b : Nat) (x1 : Int32) (x2 : Int32) (x3 : Int32) (x4 : Int32) (x5 : Int32) (x6 : Int32) (x7 : Int32) (x8 : Int32) (x9 : Int32) (o10 : Option AV) (I : PI) (J : PJ) (T : TL) : den d 63 45 [some (vr 1 b), some (vi x1), some (vi x2), some (vi x3), some (vi x4), some (vi x5), some (vi x6), some (vi x7), some (vi x8), some (vi x9), o10] [] (MX I J T) = (if inR x9 240 = true then den d 63 54 [some (vr 1 b), some (vi x1), some (vi x2), some (vi x3), some (vi x4), some (vi x5), some (vi x6), some (vi x7), some (vi x8), some (vi x9), some (vi (I 31 b (Int32.toNatClampNeg x9)))] [] (MX I J T) else none) :=
  (bx_eq [12, 38, 45, 54, 61, 70, 103, 131] d 63 5 45 _ _ _).symm.trans rfl
set_option maxRecDepth 100000 in
theorem b63_54 (d : Nat) (b : Nat) (x1 : Int32) (x2 : Int32) (x3 : Int32) (x4 : Int32) (x5 : Int32) (x6 : Int32) (x7 : Int32) (x8 : Int32) (x9 : Int32) (x10 : Int32) (I : PI) (J : PJ) (T : TL) : den d 63 54 [some (vr 1 b), some (vi x1), some (vi x2), some (vi x3), some (vi x4), some (vi x5), some (vi x6), some (vi x7), some (vi x8), some (vi x9), some (vi x10)] [] (MX I J T) = (if x10 < 104 then den d 63 103 [some (vr 1 b), some (vi x1), some (vi x2), some (vi x3), some (vi x4), some (vi x5), some (vi x6), some (vi x7), some (vi x8), some (vi x9), some (vi x10)] [] (MX I J T) else den d 63 61 [some (vr 1 b), some (vi x1), some (vi x2), some (vi x3), some (vi x4), some (vi x5), some (vi x6), some (vi x7), some (vi x8), some (vi x9), some (vi x10)] [] (MX I J T)) :=
  ((bx_eq [12, 38, 45, 54, 61, 70, 103, 131] d 63 3 54 _ _ _).symm.trans rfl : _ = (if decide (x10 < 104) = true then den d 63 103 [some (vr 1 b), some (vi x1), some (vi x2), some (vi x3), some (vi x4), some (vi x5), some (vi x6), some (vi x7), some (vi x8), some (vi x9), some (vi x10)] [] (MX I J T) else den d 63 61 [some (vr 1 b), some (vi x1), some (vi x2), some (vi x3), some (vi x4), some (vi x5), some (vi x6), some (vi x7), some (vi x8), some (vi x9), some (vi x10)] [] (MX I J T))).trans (by simp only [ite_dec])
set_option maxRecDepth 100000 in
theorem b63_61 (d : Nat) (b : Nat) (x1 : Int32) (x2 : Int32) (x3 : Int32) (x4 : Int32) (x5 : Int32) (x6 : Int32) (x7 : Int32) (x8 : Int32) (x9 : Int32) (x10 : Int32) (I : PI) (J : PJ) (T : TL) : den d 63 61 [some (vr 1 b), some (vi x1), some (vi x2), some (vi x3), some (vi x4), some (vi x5), some (vi x6), some (vi x7), some (vi x8), some (vi x9), some (vi x10)] [] (MX I J T) = (if x6 < 2 then den d 63 131 [some (vr 1 b), some (vi x1), some (vi x2), some (vi x3), some (vi x4), some (vi x5), some (vi x6), some (vi x7), some (vi x8), some (vi x9), some (vi x10)] [] (MX I J T) else den d 63 70 [some (vr 1 b), some (vi x1), some (vi x2), some (vi x3), some (vi x4), some (vi x5), some (vi (x6 + (-1))), some (vi x7), some (vi x8), some (vi x9), some (vi x10)] [] (MX I J T)) :=
  ((bx_eq [12, 38, 45, 54, 61, 70, 103, 131] d 63 4 61 _ _ _).symm.trans rfl : _ = (if decide (x6 < 2) = true then den d 63 131 [some (vr 1 b), some (vi x1), some (vi x2), some (vi x3), some (vi x4), some (vi x5), some (vi x6), some (vi x7), some (vi x8), some (vi x9), some (vi x10)] [] (MX I J T) else den d 63 70 [some (vr 1 b), some (vi x1), some (vi x2), some (vi x3), some (vi x4), some (vi x5), some (vi (x6 + (-1))), some (vi x7), some (vi x8), some (vi x9), some (vi x10)] [] (MX I J T))).trans (by simp only [ite_dec])
set_option maxRecDepth 100000 in
theorem b63_70 (d : Nat) (b : Nat) (x1 : Int32) (x2 : Int32) (x3 : Int32) (x4 : Int32) (x5 : Int32) (x6 : Int32) (x7 : Int32) (x8 : Int32) (x9 : Int32) (x10 : Int32) (I : PI) (J : PJ) (T : TL) : den (d + 1) 63 70 [some (vr 1 b), some (vi x1), some (vi x2), some (vi x3), some (vi x4), some (vi x5), some (vi x6), some (vi x7), some (vi x8), some (vi x9), some (vi x10)] [] (MX I J T) = (if inR (x6 - 1) 20 = true then (if inR x6 20 = true then ret9 (den (d + 1) 63) 63 96 99 [some (vr 1 b), some (vi x1), some (vi x2), some (vi x3), some (vi x4), some (vi x5), some (vi x6), some (vi x7), some (vi x8), some (vi x9), some (vi x10)] [vi (x6 - 1), vr 25 b] (cal d 64 [vi x10, vi (I 25 b (Int32.toNatClampNeg (x6 - 1))), vi (I 25 b (Int32.toNatClampNeg x6))] (MX I J T)) else none) else none) :=
  (bx_eq [12, 38, 45, 54, 61, 70, 103, 131] (d + 1) 63 17 70 _ _ _).symm.trans rfl
set_option maxRecDepth 100000 in
theorem b63_99 (d : Nat) (b : Nat) (x1 : Int32) (x2 : Int32) (x3 : Int32) (x4 : Int32) (x5 : Int32) (x6 : Int32) (x7 : Int32) (x8 : Int32) (x9 : Int32) (x10 : Int32) (s1 : Int32) (v : Int32) (I : PI) (J : PJ) (T : TL) : den d 63 99 [some (vr 1 b), some (vi x1), some (vi x2), some (vi x3), some (vi x4), some (vi x5), some (vi x6), some (vi x7), some (vi x8), some (vi x9), some (vi x10)] [vi v, vi s1, vr 25 b] (MX I J T) = (if inR s1 20 = true then den d 63 131 [some (vr 1 b), some (vi x1), some (vi x2), some (vi x3), some (vi x4), some (vi x5), some (vi x6), some (vi x7), some (vi x8), some (vi x9), some (vi x10)] [] (MX (up3 I 25 b (Int32.toNatClampNeg s1) v) J T) else none) :=
  (bx_eq [12, 38, 45, 54, 61, 70, 103, 131] d 63 2 99 _ _ _).symm.trans rfl
set_option maxRecDepth 100000 in
theorem b63_103 (d : Nat) (b : Nat) (x1 : Int32) (x2 : Int32) (x3 : Int32) (x4 : Int32) (x5 : Int32) (x6 : Int32) (x7 : Int32) (x8 : Int32) (x9 : Int32) (x10 : Int32) (I : PI) (J : PJ) (T : TL) : den (d + 1) 63 103 [some (vr 1 b), some (vi x1), some (vi x2), some (vi x3), some (vi x4), some (vi x5), some (vi x6), some (vi x7), some (vi x8), some (vi x9), some (vi x10)] [] (MX I J T) = (if 20 ≤ x6 then den (d + 1) 63 131 [some (vr 1 b), some (vi x1), some (vi x2), some (vi x3), some (vi x4), some (vi x5), some (vi x6), some (vi x7), some (vi x8), some (vi x9), some (vi x10)] [] (MX I J T) else ret9 (den (d + 1) 63) 63 124 127 [some (vr 1 b), some (vi x1), some (vi x2), some (vi x3), some (vi x4), some (vi x5), some (vi x6), some (vi x7), some (vi x8), some (vi x9), some (vi x10)] [vi x6, vr 25 b] (cal d 66 [vi x10, vi x2, vi x3, vi x4, vi x5] (MX I J T))) :=
  ((bx_eq [12, 38, 45, 54, 61, 70, 103, 131] (d + 1) 63 12 103 _ _ _).symm.trans rfl : _ = (if decide (20 ≤ x6) = true then den (d + 1) 63 131 [some (vr 1 b), some (vi x1), some (vi x2), some (vi x3), some (vi x4), some (vi x5), some (vi x6), some (vi x7), some (vi x8), some (vi x9), some (vi x10)] [] (MX I J T) else ret9 (den (d + 1) 63) 63 124 127 [some (vr 1 b), some (vi x1), some (vi x2), some (vi x3), some (vi x4), some (vi x5), some (vi x6), some (vi x7), some (vi x8), some (vi x9), some (vi x10)] [vi x6, vr 25 b] (cal d 66 [vi x10, vi x2, vi x3, vi x4, vi x5] (MX I J T)))).trans (by simp only [ite_dec])
set_option maxRecDepth 100000 in
theorem b63_127 (d : Nat) (b : Nat) (x1 : Int32) (x2 : Int32) (x3 : Int32) (x4 : Int32) (x5 : Int32) (x6 : Int32) (x7 : Int32) (x8 : Int32) (x9 : Int32) (x10 : Int32) (s1 : Int32) (v : Int32) (I : PI) (J : PJ) (T : TL) : den d 63 127 [some (vr 1 b), some (vi x1), some (vi x2), some (vi x3), some (vi x4), some (vi x5), some (vi x6), some (vi x7), some (vi x8), some (vi x9), some (vi x10)] [vi v, vi s1, vr 25 b] (MX I J T) = (if inR s1 20 = true then den d 63 131 [some (vr 1 b), some (vi x1), some (vi x2), some (vi x3), some (vi x4), some (vi x5), some (vi (x6 + 1)), some (vi x7), some (vi x8), some (vi x9), some (vi x10)] [] (MX (up3 I 25 b (Int32.toNatClampNeg s1) v) J T) else none) :=
  (bx_eq [12, 38, 45, 54, 61, 70, 103, 131] d 63 2 127 _ _ _).symm.trans rfl
set_option maxRecDepth 100000 in
theorem b63_131 (d : Nat) (b : Nat) (x1 : Int32) (x2 : Int32) (x3 : Int32) (x4 : Int32) (x5 : Int32) (x6 : Int32) (x7 : Int32) (x8 : Int32) (x9 : Int32) (x10 : Int32) (I : PI) (J : PJ) (T : TL) : den d 63 131 [some (vr 1 b), some (vi x1), some (vi x2), some (vi x3), some (vi x4), some (vi x5), some (vi x6), some (vi x7), some (vi x8), some (vi x9), some (vi x10)] [] (MX I J T) = den d 63 38 [some (vr 1 b), some (vi x1), some (vi x2), some (vi x3), some (vi x4), some (vi x5), some (vi x6), some (vi x7), some (vi x8), some (vi (x9 + 1)), some (vi x10)] [] (MX I J T) :=
  (bx_eq [12, 38, 45, 54, 61, 70, 103, 131] d 63 2 131 _ _ _).symm.trans rfl
-- 64 WF_Book_join
set_option maxRecDepth 100000 in
theorem c64 (d : Nat) (x0 : Int32) (x1 : Int32) (x2 : Int32) (I : PI) (J : PJ) (T : TL) : cal (d + 1) 64 [vi x0, vi x1, vi x2] (MX I J T) = (if x0 = 104 then ret9 (den (d + 1) 64) 64 35 38 [some (vi x0), some (vi x1), some (vi x2)] [] (cal d 65 [vi (x1 + x2)] (MX I J T)) else (if x0 = 105 then ret9 (den (d + 1) 64) 64 42 45 [some (vi x0), some (vi x1), some (vi x2)] [] (cal d 65 [vi (x1 - x2)] (MX I J T)) else (if x0 = 106 then ret9 (den (d + 1) 64) 64 49 52 [some (vi x0), some (vi x1), some (vi x2)] [] (cal d 65 [vi (x1 * x2)] (MX I J T)) else (if x0 = 107 then some (.inl (some (vi (min9 x1 x2))), MX I J T) else some (.inl (some (vi (max9 x1 x2))), MX I J T))))) :=
  (bx_eq [] (d + 1) 64 6 0 _ _ _).symm.trans rfl
set_option maxRecDepth 100000 in
theorem b64_38 (d : Nat) (x0 : Int32) (x1 : Int32) (x2 : Int32) (v : Int32) (I : PI) (J : PJ) (T : TL) : den d 64 38 [some (vi x0), some (vi x1), some (vi x2)] [vi v] (MX I J T) = some (.inl (some (vi v)), MX I J T) :=
  (bx_eq [] d 64 1 38 _ _ _).symm.trans rfl
set_option maxRecDepth 100000 in
theorem b64_45 (d : Nat) (x0 : Int32) (x1 : Int32) (x2 : Int32) (v : Int32) (I : PI) (J : PJ) (T : TL) : den d 64 45 [some (vi x0), some (vi x1), some (vi x2)] [vi v] (MX I J T) = some (.inl (some (vi v)), MX I J T) :=
  (bx_eq [] d 64 1 45 _ _ _).symm.trans rfl
set_option maxRecDepth 100000 in
theorem b64_52 (d : Nat) (x0 : Int32) (x1 : Int32) (x2 : Int32) (v : Int32) (I : PI) (J : PJ) (T : TL) : den d 64 52 [some (vi x0), some (vi x1), some (vi x2)] [vi v] (MX I J T) = some (.inl (some (vi v)), MX I J T) :=
  (bx_eq [] d 64 1 52 _ _ _).symm.trans rfl
-- 65 WF_Book_cut
set_option maxRecDepth 100000 in
theorem c65 (d : Nat) (x0 : Int32) (I : PI) (J : PJ) (T : TL) : cal d 65 [vi x0] (MX I J T) = some (.inl (some (vi (max9 (-10000) (min9 10000 x0)))), MX I J T) :=
  (bx_eq [] d 65 6 0 _ _ _).symm.trans rfl
-- 66 WF_Book_single
set_option maxRecDepth 100000 in
theorem c66 (d : Nat) (x0 : Int32) (x1 : Int32) (x2 : Int32) (x3 : Int32) (x4 : Int32) (I : PI) (J : PJ) (T : TL) : cal d 66 [vi x0, vi x1, vi x2, vi x3, vi x4] (MX I J T) = (if x0 = 100 then some (.inl (some (vi x1)), MX I J T) else (if x0 = 101 then some (.inl (some (vi x2)), MX I J T) else (if x0 = 102 then some (.inl (some (vi x3)), MX I J T) else (if x0 = 103 then some (.inl (some (vi x4)), MX I J T) else some (.inl (some (vi x0)), MX I J T))))) :=
  (bx_eq [] d 66 4 0 _ _ _).symm.trans rfl
-- 67 WF_cell
set_option maxRecDepth 100000 in
theorem c67 (d : Nat) (x1 : Int32) (x2 : Int32) (x3 : Int32) (x4 : Int32) (I : PI) (J : PJ) (T : TL) : cal (d + 1) 67 [vr 11 0, vi x1, vi x2, vi x3, vi x4] (MX I J T) = ret9 (den (d + 1) 67) 67 5 8 [some (vr 11 0), some (vi x1), some (vi x2), some (vi x3), some (vi x4)] [] (cal d 68 [vr 5 0, vi x1] (MX I J T)) :=
  (bx_eq [] (d + 1) 67 4 0 _ _ _).symm.trans rfl
set_option maxRecDepth 100000 in
theorem b67_8 (d : Nat) (x1 : Int32) (x2 : Int32) (x3 : Int32) (x4 : Int32) (v : Int32) (I : PI) (J : PJ) (T : TL) : den (d + 1) 67 8 [some (vr 11 0), some (vi x1), some (vi x2), some (vi x3), some (vi x4)] [vi v] (MX I J T) = (if ¬ v = 0 then (if x2 < 0 then ret9 (den (d + 1) 67) 67 39 42 [some (vr 11 0), some (vi x1), some (vi x2), some (vi x3), some (vi x4)] [] (cal d 69 [vr 11 0, vi 2] (MX I J T)) else (if 9 < x2 then ret9 (den (d + 1) 67) 67 39 42 [some (vr 11 0), some (vi x1), some (vi x2), some (vi x3), some (vi x4)] [] (cal d 69 [vr 11 0, vi 2] (MX I J T)) else (if x3 < 0 then ret9 (den (d + 1) 67) 67 39 42 [some (vr 11 0), some (vi x1), some (vi x2), some (vi x3), some (vi x4)] [] (cal d 69 [vr 11 0, vi 2] (MX I J T)) else (if x3 ≤ 9 then ret9 (den (d + 1) 67) 67 52 55 [some (vr 11 0), some (vi x1), some (vi x2), some (vi x3), some (vi x4)] [] (cal d 70 [vr 5 0, vi x1, vi x2, vi x3, vi x4] (MX I J T)) else ret9 (den (d + 1) 67) 67 39 42 [some (vr 11 0), some (vi x1), some (vi x2), some (vi x3), some (vi x4)] [] (cal d 69 [vr 11 0, vi 2] (MX I J T)))))) else ret9 (den (d + 1) 67) 67 13 16 [some (vr 11 0), some (vi x1), some (vi x2), some (vi x3), some (vi x4)] [] (cal d 69 [vr 11 0, vi 1] (MX I J T))) :=
  ((bx_eq [] (d + 1) 67 18 8 _ _ _).symm.trans rfl : _ = (if decide (¬ v = 0) = true then (if decide (x2 < 0) = true then ret9 (den (d + 1) 67) 67 39 42 [some (vr 11 0), some (vi x1), some (vi x2), some (vi x3), some (vi x4)] [] (cal d 69 [vr 11 0, vi 2] (MX I J T)) else (if decide (9 < x2) = true then ret9 (den (d + 1) 67) 67 39 42 [some (vr 11 0), some (vi x1), some (vi x2), some (vi x3), some (vi x4)] [] (cal d 69 [vr 11 0, vi 2] (MX I J T)) else (if decide (x3 < 0) = true then ret9 (den (d + 1) 67) 67 39 42 [some (vr 11 0), some (vi x1), some (vi x2), some (vi x3), some (vi x4)] [] (cal d 69 [vr 11 0, vi 2] (MX I J T)) else (if decide (x3 ≤ 9) = true then ret9 (den (d + 1) 67) 67 52 55 [some (vr 11 0), some (vi x1), some (vi x2), some (vi x3), some (vi x4)] [] (cal d 70 [vr 5 0, vi x1, vi x2, vi x3, vi x4] (MX I J T)) else ret9 (den (d + 1) 67) 67 39 42 [some (vr 11 0), some (vi x1), some (vi x2), some (vi x3), some (vi x4)] [] (cal d 69 [vr 11 0, vi 2] (MX I J T)))))) else ret9 (den (d + 1) 67) 67 13 16 [some (vr 11 0), some (vi x1), some (vi x2), some (vi x3), some (vi x4)] [] (cal d 69 [vr 11 0, vi 1] (MX I J T)))).trans (by simp only [ite_dec])
set_option maxRecDepth 100000 in
theorem b67_16 (d : Nat) (x1 : Int32) (x2 : Int32) (x3 : Int32) (x4 : Int32) (v : Int32) (I : PI) (J : PJ) (T : TL) : den d 67 16 [some (vr 11 0), some (vi x1), some (vi x2), some (vi x3), some (vi x4)] [vi v] (MX I J T) = (if v = 0 ∨ v = 1 then some (.inl (some (vi v)), MX I J T) else none) :=
  (bx_eq [] d 67 1 16 _ _ _).symm.trans rfl
set_option maxRecDepth 100000 in
theorem b67_42 (d : Nat) (x1 : Int32) (x2 : Int32) (x3 : Int32) (x4 : Int32) (v : Int32) (I : PI) (J : PJ) (T : TL) : den d 67 42 [some (vr 11 0), some (vi x1), some (vi x2), some (vi x3), some (vi x4)] [vi v] (MX I J T) = (if v = 0 ∨ v = 1 then some (.inl (some (vi v)), MX I J T) else none) :=
  (bx_eq [] d 67 1 42 _ _ _).symm.trans rfl
set_option maxRecDepth 100000 in
theorem b67_55 (d : Nat) (x1 : Int32) (x2 : Int32) (x3 : Int32) (x4 : Int32) (I : PI) (J : PJ) (T : TL) : den (d + 1) 67 55 [some (vr 11 0), some (vi x1), some (vi x2), some (vi x3), some (vi x4)] [] (MX I J T) = ret9 (den (d + 1) 67) 67 56 59 [some (vr 11 0), some (vi x1), some (vi x2), some (vi x3), some (vi x4)] [] (cal d 71 [vr 11 0] (MX I J T)) :=
  (bx_eq [] (d + 1) 67 2 55 _ _ _).symm.trans rfl
set_option maxRecDepth 100000 in
theorem b67_59 (d : Nat) (x1 : Int32) (x2 : Int32) (x3 : Int32) (x4 : Int32) (v : Int32) (I : PI) (J : PJ) (T : TL) : den d 67 59 [some (vr 11 0), some (vi x1), some (vi x2), some (vi x3), some (vi x4)] [vi v] (MX I J T) = (if v = 0 ∨ v = 1 then some (.inl (some (vi v)), MX I J T) else none) :=
  (bx_eq [] d 67 1 59 _ _ _).symm.trans rfl
-- 68 WF_Ground_isCell
set_option maxRecDepth 100000 in
theorem c68 (d : Nat) (x1 : Int32) (I : PI) (J : PJ) (T : TL) : cal d 68 [vr 5 0, vi x1] (MX I J T) = (if x1 < 0 then some (.inl (some (vi 0)), MX I J T) else (if (I 5 0 9) ≤ x1 then some (.inl (some (vi 0)), MX I J T) else some (.inl (some (vi 1)), MX I J T))) :=
  ((bx_eq [] d 68 9 0 _ _ _).symm.trans rfl : _ = (if decide (x1 < 0) = true then some (.inl (some (vi 0)), MX I J T) else (if decide ((I 5 0 9) ≤ x1) = true then some (.inl (some (vi 0)), MX I J T) else some (.inl (some (vi 1)), MX I J T)))).trans (by simp only [ite_dec])
-- 69 WF_deny
set_option maxRecDepth 100000 in
theorem c69 (d : Nat) (x1 : Int32) (I : PI) (J : PJ) (T : TL) : cal d 69 [vr 11 0, vi x1] (MX I J T) = some (.inl (some (vi 0)), MX (up3 I 11 0 15 x1) J T) :=
  (bx_eq [] d 69 5 0 _ _ _).symm.trans rfl
-- 70 WF_Ground_change
set_option maxRecDepth 100000 in
theorem c70 (d : Nat) (x1 : Int32) (x2 : Int32) (x3 : Int32) (x4 : Int32) (I : PI) (J : PJ) (T : TL) : cal (d + 1) 70 [vr 5 0, vi x1, vi x2, vi x3, vi x4] (MX I J T) = (if inR x1 64 = true then (if inR x1 64 = true then (if x4 = 0 then ret9 (den (d + 1) 70) 70 54 57 [some (vr 5 0), some (vi x1), some (vi x2), some (vi x3), some (vi x4)] [vl (lsh9 1 x1), vr 5 0] (cal d 58 [vr 5 0, vl (lsh9 1 x1)] (MX (up3 (up3 I 28 0 (Int32.toNatClampNeg x1) x2) 28 1 (Int32.toNatClampNeg x1) x3) (up3 J 5 0 13 ((J 5 0 13) &&& ((lsh9 1 x1) ^^^ (-1)))) T)) else ret9 (den (d + 1) 70) 70 54 57 [some (vr 5 0), some (vi x1), some (vi x2), some (vi x3), some (vi x4)] [vl (lsh9 1 x1), vr 5 0] (cal d 58 [vr 5 0, vl (lsh9 1 x1)] (MX (up3 (up3 I 28 0 (Int32.toNatClampNeg x1) x2) 28 1 (Int32.toNatClampNeg x1) x3) (up3 J 5 0 13 ((J 5 0 13) ||| (lsh9 1 x1))) T))) else none) else none) :=
  ((bx_eq [] (d + 1) 70 31 0 _ _ _).symm.trans rfl : _ = (if inR x1 64 = true then (if inR x1 64 = true then (if decide (x4 = 0) = true then ret9 (den (d + 1) 70) 70 54 57 [some (vr 5 0), some (vi x1), some (vi x2), some (vi x3), some (vi x4)] [vl (lsh9 1 x1), vr 5 0] (cal d 58 [vr 5 0, vl (lsh9 1 x1)] (MX (up3 (up3 I 28 0 (Int32.toNatClampNeg x1) x2) 28 1 (Int32.toNatClampNeg x1) x3) (up3 J 5 0 13 ((J 5 0 13) &&& ((lsh9 1 x1) ^^^ (-1)))) T)) else ret9 (den (d + 1) 70) 70 54 57 [some (vr 5 0), some (vi x1), some (vi x2), some (vi x3), some (vi x4)] [vl (lsh9 1 x1), vr 5 0] (cal d 58 [vr 5 0, vl (lsh9 1 x1)] (MX (up3 (up3 I 28 0 (Int32.toNatClampNeg x1) x2) 28 1 (Int32.toNatClampNeg x1) x3) (up3 J 5 0 13 ((J 5 0 13) ||| (lsh9 1 x1))) T))) else none) else none)).trans (by simp only [ite_dec])
set_option maxRecDepth 100000 in
theorem b70_57 (d : Nat) (x1 : Int32) (x2 : Int32) (x3 : Int32) (x4 : Int32) (t1 : Int64) (v : Int64) (I : PI) (J : PJ) (T : TL) : den (d + 1) 70 57 [some (vr 5 0), some (vi x1), some (vi x2), some (vi x3), some (vi x4)] [vl v, vl t1, vr 5 0] (MX I J T) = ret9 (den (d + 1) 70) 70 58 61 [some (vr 5 0), some (vi x1), some (vi x2), some (vi x3), some (vi x4)] [] (cal d 56 [vr 5 0, vl (t1 ||| v)] (MX I J T)) :=
  (bx_eq [] (d + 1) 70 2 57 _ _ _).symm.trans rfl
set_option maxRecDepth 100000 in
theorem b70_61 (d : Nat) (x1 : Int32) (x2 : Int32) (x3 : Int32) (x4 : Int32) (I : PI) (J : PJ) (T : TL) : den d 70 61 [some (vr 5 0), some (vi x1), some (vi x2), some (vi x3), some (vi x4)] [] (MX I J T) = some (.inl none, MX I J T) :=
  (bx_eq [] d 70 1 61 _ _ _).symm.trans rfl
-- 71 WF_allow
set_option maxRecDepth 100000 in
theorem c71 (d : Nat) (I : PI) (J : PJ) (T : TL) : cal d 71 [vr 11 0] (MX I J T) = some (.inl (some (vi 1)), MX (up3 I 11 0 15 0) J T) :=
  (bx_eq [] d 71 5 0 _ _ _).symm.trans rfl
-- 72 WF_door
set_option maxRecDepth 100000 in
theorem c72 (d : Nat) (x1 : Int32) (x2 : Int32) (I : PI) (J : PJ) (T : TL) : cal (d + 1) 72 [vr 11 0, vi x1, vi x2] (MX I J T) = ret9 (den (d + 1) 72) 72 5 8 [some (vr 11 0), some (vi x1), some (vi x2)] [] (cal d 73 [vr 5 0, vi x1] (MX I J T)) :=
  (bx_eq [] (d + 1) 72 4 0 _ _ _).symm.trans rfl
set_option maxRecDepth 100000 in
theorem b72_8 (d : Nat) (x1 : Int32) (x2 : Int32) (v : Int32) (I : PI) (J : PJ) (T : TL) : den (d + 1) 72 8 [some (vr 11 0), some (vi x1), some (vi x2)] [vi v] (MX I J T) = (if v = 0 then ret9 (den (d + 1) 72) 72 24 27 [some (vr 11 0), some (vi x1), some (vi x2)] [] (cal d 69 [vr 11 0, vi 1] (MX I J T)) else ret9 (den (d + 1) 72) 72 16 19 [some (vr 11 0), some (vi x1), some (vi x2)] [] (cal d 68 [vr 5 0, vi x2] (MX I J T))) :=
  ((bx_eq [] (d + 1) 72 5 8 _ _ _).symm.trans rfl : _ = (if decide (v = 0) = true then ret9 (den (d + 1) 72) 72 24 27 [some (vr 11 0), some (vi x1), some (vi x2)] [] (cal d 69 [vr 11 0, vi 1] (MX I J T)) else ret9 (den (d + 1) 72) 72 16 19 [some (vr 11 0), some (vi x1), some (vi x2)] [] (cal d 68 [vr 5 0, vi x2] (MX I J T)))).trans (by simp only [ite_dec])
set_option maxRecDepth 100000 in
theorem b72_19 (d : Nat) (x1 : Int32) (x2 : Int32) (v : Int32) (I : PI) (J : PJ) (T : TL) : den (d + 1) 72 19 [some (vr 11 0), some (vi x1), some (vi x2)] [vi v] (MX I J T) = (if ¬ v = 0 then ret9 (den (d + 1) 72) 72 34 37 [some (vr 11 0), some (vi x1), some (vi x2)] [] (cal d 75 [vr 5 0, vi x1, vi x2] (MX I J T)) else ret9 (den (d + 1) 72) 72 24 27 [some (vr 11 0), some (vi x1), some (vi x2)] [] (cal d 69 [vr 11 0, vi 1] (MX I J T))) :=
  ((bx_eq [] (d + 1) 72 6 19 _ _ _).symm.trans rfl : _ = (if decide (¬ v = 0) = true then ret9 (den (d + 1) 72) 72 34 37 [some (vr 11 0), some (vi x1), some (vi x2)] [] (cal d 75 [vr 5 0, vi x1, vi x2] (MX I J T)) else ret9 (den (d + 1) 72) 72 24 27 [some (vr 11 0), some (vi x1), some (vi x2)] [] (cal d 69 [vr 11 0, vi 1] (MX I J T)))).trans (by simp only [ite_dec])
set_option maxRecDepth 100000 in
theorem b72_27 (d : Nat) (x1 : Int32) (x2 : Int32) (v : Int32) (I : PI) (J : PJ) (T : TL) : den d 72 27 [some (vr 11 0), some (vi x1), some (vi x2)] [vi v] (MX I J T) = (if v = 0 ∨ v = 1 then some (.inl (some (vi v)), MX I J T) else none) :=
  (bx_eq [] d 72 1 27 _ _ _).symm.trans rfl
set_option maxRecDepth 100000 in
theorem b72_37 (d : Nat) (x1 : Int32) (x2 : Int32) (I : PI) (J : PJ) (T : TL) : den (d + 1) 72 37 [some (vr 11 0), some (vi x1), some (vi x2)] [] (MX I J T) = ret9 (den (d + 1) 72) 72 38 41 [some (vr 11 0), some (vi x1), some (vi x2)] [] (cal d 71 [vr 11 0] (MX I J T)) :=
  (bx_eq [] (d + 1) 72 2 37 _ _ _).symm.trans rfl
set_option maxRecDepth 100000 in
theorem b72_41 (d : Nat) (x1 : Int32) (x2 : Int32) (v : Int32) (I : PI) (J : PJ) (T : TL) : den d 72 41 [some (vr 11 0), some (vi x1), some (vi x2)] [vi v] (MX I J T) = (if v = 0 ∨ v = 1 then some (.inl (some (vi v)), MX I J T) else none) :=
  (bx_eq [] d 72 1 41 _ _ _).symm.trans rfl
-- 73 WF_Ground_isOwner
set_option maxRecDepth 100000 in
theorem c73 (d : Nat) (x1 : Int32) (I : PI) (J : PJ) (T : TL) : cal (d + 1) 73 [vr 5 0, vi x1] (MX I J T) = ret9 (den (d + 1) 73) 73 1 4 [some (vr 5 0), some (vi x1)] [] (cal d 74 [vr 5 0] (MX I J T)) :=
  (bx_eq [] (d + 1) 73 2 0 _ _ _).symm.trans rfl
set_option maxRecDepth 100000 in
theorem b73_4 (d : Nat) (x1 : Int32) (v : Int32) (I : PI) (J : PJ) (T : TL) : den d 73 4 [some (vr 5 0), some (vi x1)] [vi v] (MX I J T) = (if v = 0 then some (.inl (some (vi 0)), MX I J T) else (if x1 < 0 then some (.inl (some (vi 0)), MX I J T) else (if (I 1 T.1 3) ≤ x1 then some (.inl (some (vi 0)), MX I J T) else some (.inl (some (vi 1)), MX I J T)))) :=
  ((bx_eq [] d 73 11 4 _ _ _).symm.trans rfl : _ = (if decide (v = 0) = true then some (.inl (some (vi 0)), MX I J T) else (if decide (x1 < 0) = true then some (.inl (some (vi 0)), MX I J T) else (if decide ((I 1 T.1 3) ≤ x1) = true then some (.inl (some (vi 0)), MX I J T) else some (.inl (some (vi 1)), MX I J T))))).trans (by simp only [ite_dec])
-- 74 WF_Ground_stands
set_option maxRecDepth 100000 in
theorem c74 (d : Nat) (I : PI) (J : PJ) (T : TL) : cal d 74 [vr 5 0] (MX I J T) = (if (I 5 0 9) ≤ 0 then some (.inl (some (vi 0)), MX I J T) else some (.inl (some (vi 1)), MX I J T)) :=
  ((bx_eq [] d 74 6 0 _ _ _).symm.trans rfl : _ = (if decide ((I 5 0 9) ≤ 0) = true then some (.inl (some (vi 0)), MX I J T) else some (.inl (some (vi 1)), MX I J T))).trans (by simp only [ite_dec])
-- 75 WF_Ground_moveDoor
set_option maxRecDepth 100000 in
theorem c75 (d : Nat) (x1 : Int32) (x2 : Int32) (I : PI) (J : PJ) (T : TL) : cal (d + 1) 75 [vr 5 0, vi x1, vi x2] (MX I J T) = (if inR x1 6 = true then ret9 (den (d + 1) 75) 75 13 16 [some (vr 5 0), some (vi x1), some (vi x2)] [] (cal d 57 [vr 5 0, vi x1, vl (J 5 0 12)] (MX (up3 I 21 3 (Int32.toNatClampNeg x1) x2) J T)) else none) :=
  (bx_eq [] (d + 1) 75 10 0 _ _ _).symm.trans rfl
set_option maxRecDepth 100000 in
theorem b75_16 (d : Nat) (x1 : Int32) (x2 : Int32) (I : PI) (J : PJ) (T : TL) : den d 75 16 [some (vr 5 0), some (vi x1), some (vi x2)] [] (MX I J T) = some (.inl none, MX I J T) :=
  (bx_eq [] d 75 1 16 _ _ _).symm.trans rfl
-- 76 WF_keep
set_option maxRecDepth 100000 in
theorem c76 (d : Nat) (x1 : Int32) (x2 : Int32) (I : PI) (J : PJ) (T : TL) : cal (d + 1) 76 [vr 11 0, vi x1, vi x2] (MX I J T) = ret9 (den (d + 1) 76) 76 5 8 [some (vr 11 0), some (vi x1), some (vi x2)] [] (cal d 68 [vr 5 0, vi x1] (MX I J T)) :=
  (bx_eq [] (d + 1) 76 4 0 _ _ _).symm.trans rfl
set_option maxRecDepth 100000 in
theorem b76_8 (d : Nat) (x1 : Int32) (x2 : Int32) (v : Int32) (I : PI) (J : PJ) (T : TL) : den (d + 1) 76 8 [some (vr 11 0), some (vi x1), some (vi x2)] [vi v] (MX I J T) = (if v = 0 then ret9 (den (d + 1) 76) 76 29 32 [some (vr 11 0), some (vi x1), some (vi x2)] [] (cal d 69 [vr 11 0, vi 1] (MX I J T)) else (if x2 = (-1) then (if inR x1 64 = true then ret9 (den (d + 1) 76) 76 44 47 [some (vr 11 0), some (vi x1), some (vi x2)] [] (cal d 71 [vr 11 0] (MX (up3 I 28 2 (Int32.toNatClampNeg x1) x2) J T)) else none) else ret9 (den (d + 1) 76) 76 21 24 [some (vr 11 0), some (vi x1), some (vi x2)] [] (cal d 73 [vr 5 0, vi x2] (MX I J T)))) :=
  ((bx_eq [] (d + 1) 76 12 8 _ _ _).symm.trans rfl : _ = (if decide (v = 0) = true then ret9 (den (d + 1) 76) 76 29 32 [some (vr 11 0), some (vi x1), some (vi x2)] [] (cal d 69 [vr 11 0, vi 1] (MX I J T)) else (if decide (x2 = (-1)) = true then (if inR x1 64 = true then ret9 (den (d + 1) 76) 76 44 47 [some (vr 11 0), some (vi x1), some (vi x2)] [] (cal d 71 [vr 11 0] (MX (up3 I 28 2 (Int32.toNatClampNeg x1) x2) J T)) else none) else ret9 (den (d + 1) 76) 76 21 24 [some (vr 11 0), some (vi x1), some (vi x2)] [] (cal d 73 [vr 5 0, vi x2] (MX I J T))))).trans (by simp only [ite_dec])
set_option maxRecDepth 100000 in
theorem b76_24 (d : Nat) (x1 : Int32) (x2 : Int32) (v : Int32) (I : PI) (J : PJ) (T : TL) : den (d + 1) 76 24 [some (vr 11 0), some (vi x1), some (vi x2)] [vi v] (MX I J T) = (if ¬ v = 0 then (if inR x1 64 = true then ret9 (den (d + 1) 76) 76 44 47 [some (vr 11 0), some (vi x1), some (vi x2)] [] (cal d 71 [vr 11 0] (MX (up3 I 28 2 (Int32.toNatClampNeg x1) x2) J T)) else none) else ret9 (den (d + 1) 76) 76 29 32 [some (vr 11 0), some (vi x1), some (vi x2)] [] (cal d 69 [vr 11 0, vi 1] (MX I J T))) :=
  ((bx_eq [] (d + 1) 76 9 24 _ _ _).symm.trans rfl : _ = (if decide (¬ v = 0) = true then (if inR x1 64 = true then ret9 (den (d + 1) 76) 76 44 47 [some (vr 11 0), some (vi x1), some (vi x2)] [] (cal d 71 [vr 11 0] (MX (up3 I 28 2 (Int32.toNatClampNeg x1) x2) J T)) else none) else ret9 (den (d + 1) 76) 76 29 32 [some (vr 11 0), some (vi x1), some (vi x2)] [] (cal d 69 [vr 11 0, vi 1] (MX I J T)))).trans (by simp only [ite_dec])
set_option maxRecDepth 100000 in
theorem b76_32 (d : Nat) (x1 : Int32) (x2 : Int32) (v : Int32) (I : PI) (J : PJ) (T : TL) : den d 76 32 [some (vr 11 0), some (vi x1), some (vi x2)] [vi v] (MX I J T) = (if v = 0 ∨ v = 1 then some (.inl (some (vi v)), MX I J T) else none) :=
  (bx_eq [] d 76 1 32 _ _ _).symm.trans rfl
set_option maxRecDepth 100000 in
theorem b76_47 (d : Nat) (x1 : Int32) (x2 : Int32) (v : Int32) (I : PI) (J : PJ) (T : TL) : den d 76 47 [some (vr 11 0), some (vi x1), some (vi x2)] [vi v] (MX I J T) = (if v = 0 ∨ v = 1 then some (.inl (some (vi v)), MX I J T) else none) :=
  (bx_eq [] d 76 1 47 _ _ _).symm.trans rfl
-- 77 WF_had
set_option maxRecDepth 100000 in
theorem c77 (d : Nat) (x1 : Int32) (x2 : Int32) (I : PI) (J : PJ) (T : TL) : cal (d + 1) 77 [vr 11 0, vi x1, vi x2] (MX I J T) = ret9 (den (d + 1) 77) 77 5 8 [some (vr 11 0), some (vi x1), some (vi x2)] [] (cal d 73 [vr 5 0, vi x1] (MX I J T)) :=
  (bx_eq [] (d + 1) 77 4 0 _ _ _).symm.trans rfl
set_option maxRecDepth 100000 in
theorem b77_8 (d : Nat) (x1 : Int32) (x2 : Int32) (v : Int32) (I : PI) (J : PJ) (T : TL) : den (d + 1) 77 8 [some (vr 11 0), some (vi x1), some (vi x2)] [vi v] (MX I J T) = (if ¬ v = 0 then (if x2 < 0 then ret9 (den (d + 1) 77) 77 29 32 [some (vr 11 0), some (vi x1), some (vi x2)] [] (cal d 69 [vr 11 0, vi 2] (MX I J T)) else (if x2 ≤ 1000000 then (if inR x1 6 = true then ret9 (den (d + 1) 77) 77 44 47 [some (vr 11 0), some (vi x1), some (vi x2)] [] (cal d 71 [vr 11 0] (MX (up3 I 21 4 (Int32.toNatClampNeg x1) x2) J T)) else none) else ret9 (den (d + 1) 77) 77 29 32 [some (vr 11 0), some (vi x1), some (vi x2)] [] (cal d 69 [vr 11 0, vi 2] (MX I J T)))) else ret9 (den (d + 1) 77) 77 13 16 [some (vr 11 0), some (vi x1), some (vi x2)] [] (cal d 69 [vr 11 0, vi 1] (MX I J T))) :=
  ((bx_eq [] (d + 1) 77 14 8 _ _ _).symm.trans rfl : _ = (if decide (¬ v = 0) = true then (if decide (x2 < 0) = true then ret9 (den (d + 1) 77) 77 29 32 [some (vr 11 0), some (vi x1), some (vi x2)] [] (cal d 69 [vr 11 0, vi 2] (MX I J T)) else (if decide (x2 ≤ 1000000) = true then (if inR x1 6 = true then ret9 (den (d + 1) 77) 77 44 47 [some (vr 11 0), some (vi x1), some (vi x2)] [] (cal d 71 [vr 11 0] (MX (up3 I 21 4 (Int32.toNatClampNeg x1) x2) J T)) else none) else ret9 (den (d + 1) 77) 77 29 32 [some (vr 11 0), some (vi x1), some (vi x2)] [] (cal d 69 [vr 11 0, vi 2] (MX I J T)))) else ret9 (den (d + 1) 77) 77 13 16 [some (vr 11 0), some (vi x1), some (vi x2)] [] (cal d 69 [vr 11 0, vi 1] (MX I J T)))).trans (by simp only [ite_dec])
set_option maxRecDepth 100000 in
theorem b77_16 (d : Nat) (x1 : Int32) (x2 : Int32) (v : Int32) (I : PI) (J : PJ) (T : TL) : den d 77 16 [some (vr 11 0), some (vi x1), some (vi x2)] [vi v] (MX I J T) = (if v = 0 ∨ v = 1 then some (.inl (some (vi v)), MX I J T) else none) :=
  (bx_eq [] d 77 1 16 _ _ _).symm.trans rfl
set_option maxRecDepth 100000 in
theorem b77_32 (d : Nat) (x1 : Int32) (x2 : Int32) (v : Int32) (I : PI) (J : PJ) (T : TL) : den d 77 32 [some (vr 11 0), some (vi x1), some (vi x2)] [vi v] (MX I J T) = (if v = 0 ∨ v = 1 then some (.inl (some (vi v)), MX I J T) else none) :=
  (bx_eq [] d 77 1 32 _ _ _).symm.trans rfl
set_option maxRecDepth 100000 in
theorem b77_47 (d : Nat) (x1 : Int32) (x2 : Int32) (v : Int32) (I : PI) (J : PJ) (T : TL) : den d 77 47 [some (vr 11 0), some (vi x1), some (vi x2)] [vi v] (MX I J T) = (if v = 0 ∨ v = 1 then some (.inl (some (vi v)), MX I J T) else none) :=
  (bx_eq [] d 77 1 47 _ _ _).symm.trans rfl
-- 78 WF_set
set_option maxRecDepth 100000 in
theorem c78 (d : Nat) (x1 : Int32) (x2 : Int32) (I : PI) (J : PJ) (T : TL) : cal (d + 1) 78 [vr 11 0, vi x1, vi x2] (MX I J T) = ret9 (den (d + 1) 78) 78 4 7 [some (vr 11 0), some (vi x1), some (vi x2)] [] (cal d 74 [vr 5 0] (MX I J T)) :=
  (bx_eq [] (d + 1) 78 3 0 _ _ _).symm.trans rfl
set_option maxRecDepth 100000 in
theorem b78_7 (d : Nat) (x1 : Int32) (x2 : Int32) (v : Int32) (I : PI) (J : PJ) (T : TL) : den (d + 1) 78 7 [some (vr 11 0), some (vi x1), some (vi x2)] [vi v] (MX I J T) = (if v = 0 then ret9 (den (d + 1) 78) 78 21 24 [some (vr 11 0), some (vi x1), some (vi x2)] [] (cal d 69 [vr 11 0, vi 1] (MX I J T)) else (if x1 < 0 then ret9 (den (d + 1) 78) 78 21 24 [some (vr 11 0), some (vi x1), some (vi x2)] [] (cal d 69 [vr 11 0, vi 1] (MX I J T)) else (if x1 ≤ 1 then (if ¬ x1 = 0 then (if x2 < 0 then ret9 (den (d + 1) 78) 78 68 71 [some (vr 11 0), some (vi x1), some (vi x2)] [] (cal d 69 [vr 11 0, vi 2] (MX I J T)) else (if x2 ≤ 20 then ret9 (den (d + 1) 78) 78 81 84 [some (vr 11 0), some (vi x1), some (vi x2)] [] (cal d 71 [vr 11 0] (MX (up3 I 5 0 11 x2) J T)) else ret9 (den (d + 1) 78) 78 68 71 [some (vr 11 0), some (vi x1), some (vi x2)] [] (cal d 69 [vr 11 0, vi 2] (MX I J T)))) else (if x2 < 1 then ret9 (den (d + 1) 78) 78 41 44 [some (vr 11 0), some (vi x1), some (vi x2)] [] (cal d 69 [vr 11 0, vi 2] (MX I J T)) else (if x2 ≤ 2 then ret9 (den (d + 1) 78) 78 81 84 [some (vr 11 0), some (vi x1), some (vi x2)] [] (cal d 71 [vr 11 0] (MX (up3 I 5 0 10 x2) J T)) else ret9 (den (d + 1) 78) 78 41 44 [some (vr 11 0), some (vi x1), some (vi x2)] [] (cal d 69 [vr 11 0, vi 2] (MX I J T))))) else ret9 (den (d + 1) 78) 78 21 24 [some (vr 11 0), some (vi x1), some (vi x2)] [] (cal d 69 [vr 11 0, vi 1] (MX I J T))))) :=
  ((bx_eq [] (d + 1) 78 21 7 _ _ _).symm.trans rfl : _ = (if decide (v = 0) = true then ret9 (den (d + 1) 78) 78 21 24 [some (vr 11 0), some (vi x1), some (vi x2)] [] (cal d 69 [vr 11 0, vi 1] (MX I J T)) else (if decide (x1 < 0) = true then ret9 (den (d + 1) 78) 78 21 24 [some (vr 11 0), some (vi x1), some (vi x2)] [] (cal d 69 [vr 11 0, vi 1] (MX I J T)) else (if decide (x1 ≤ 1) = true then (if decide (¬ x1 = 0) = true then (if decide (x2 < 0) = true then ret9 (den (d + 1) 78) 78 68 71 [some (vr 11 0), some (vi x1), some (vi x2)] [] (cal d 69 [vr 11 0, vi 2] (MX I J T)) else (if decide (x2 ≤ 20) = true then ret9 (den (d + 1) 78) 78 81 84 [some (vr 11 0), some (vi x1), some (vi x2)] [] (cal d 71 [vr 11 0] (MX (up3 I 5 0 11 x2) J T)) else ret9 (den (d + 1) 78) 78 68 71 [some (vr 11 0), some (vi x1), some (vi x2)] [] (cal d 69 [vr 11 0, vi 2] (MX I J T)))) else (if decide (x2 < 1) = true then ret9 (den (d + 1) 78) 78 41 44 [some (vr 11 0), some (vi x1), some (vi x2)] [] (cal d 69 [vr 11 0, vi 2] (MX I J T)) else (if decide (x2 ≤ 2) = true then ret9 (den (d + 1) 78) 78 81 84 [some (vr 11 0), some (vi x1), some (vi x2)] [] (cal d 71 [vr 11 0] (MX (up3 I 5 0 10 x2) J T)) else ret9 (den (d + 1) 78) 78 41 44 [some (vr 11 0), some (vi x1), some (vi x2)] [] (cal d 69 [vr 11 0, vi 2] (MX I J T))))) else ret9 (den (d + 1) 78) 78 21 24 [some (vr 11 0), some (vi x1), some (vi x2)] [] (cal d 69 [vr 11 0, vi 1] (MX I J T)))))).trans (by simp only [ite_dec])
set_option maxRecDepth 100000 in
theorem b78_24 (d : Nat) (x1 : Int32) (x2 : Int32) (v : Int32) (I : PI) (J : PJ) (T : TL) : den d 78 24 [some (vr 11 0), some (vi x1), some (vi x2)] [vi v] (MX I J T) = (if v = 0 ∨ v = 1 then some (.inl (some (vi v)), MX I J T) else none) :=
  (bx_eq [] d 78 1 24 _ _ _).symm.trans rfl
set_option maxRecDepth 100000 in
theorem b78_44 (d : Nat) (x1 : Int32) (x2 : Int32) (v : Int32) (I : PI) (J : PJ) (T : TL) : den d 78 44 [some (vr 11 0), some (vi x1), some (vi x2)] [vi v] (MX I J T) = (if v = 0 ∨ v = 1 then some (.inl (some (vi v)), MX I J T) else none) :=
  (bx_eq [] d 78 1 44 _ _ _).symm.trans rfl
set_option maxRecDepth 100000 in
theorem b78_71 (d : Nat) (x1 : Int32) (x2 : Int32) (v : Int32) (I : PI) (J : PJ) (T : TL) : den d 78 71 [some (vr 11 0), some (vi x1), some (vi x2)] [vi v] (MX I J T) = (if v = 0 ∨ v = 1 then some (.inl (some (vi v)), MX I J T) else none) :=
  (bx_eq [] d 78 1 71 _ _ _).symm.trans rfl
set_option maxRecDepth 100000 in
theorem b78_84 (d : Nat) (x1 : Int32) (x2 : Int32) (v : Int32) (I : PI) (J : PJ) (T : TL) : den d 78 84 [some (vr 11 0), some (vi x1), some (vi x2)] [vi v] (MX I J T) = (if v = 0 ∨ v = 1 then some (.inl (some (vi v)), MX I J T) else none) :=
  (bx_eq [] d 78 1 84 _ _ _).symm.trans rfl
-- 79 WF_value
set_option maxRecDepth 100000 in
theorem c79 (d : Nat) (x1 : Int32) (x2 : Int32) (I : PI) (J : PJ) (T : TL) : cal (d + 1) 79 [vr 11 0, vi x1, vi x2] (MX I J T) = ret9 (den (d + 1) 79) 79 5 8 [some (vr 11 0), some (vi x1), some (vi x2)] [] (cal d 73 [vr 5 0, vi x1] (MX I J T)) :=
  (bx_eq [] (d + 1) 79 4 0 _ _ _).symm.trans rfl
set_option maxRecDepth 100000 in
theorem b79_8 (d : Nat) (x1 : Int32) (x2 : Int32) (v : Int32) (I : PI) (J : PJ) (T : TL) : den (d + 1) 79 8 [some (vr 11 0), some (vi x1), some (vi x2)] [vi v] (MX I J T) = (if v = 0 then some (.inl (some (vi (-2147483648))), MX I J T) else ret9 (den (d + 1) 79) 79 16 19 [some (vr 11 0), some (vi x1), some (vi x2)] [] (cal d 68 [vr 5 0, vi x2] (MX I J T))) :=
  ((bx_eq [] (d + 1) 79 5 8 _ _ _).symm.trans rfl : _ = (if decide (v = 0) = true then some (.inl (some (vi (-2147483648))), MX I J T) else ret9 (den (d + 1) 79) 79 16 19 [some (vr 11 0), some (vi x1), some (vi x2)] [] (cal d 68 [vr 5 0, vi x2] (MX I J T)))).trans (by simp only [ite_dec])
set_option maxRecDepth 100000 in
theorem b79_19 (d : Nat) (x1 : Int32) (x2 : Int32) (v : Int32) (I : PI) (J : PJ) (T : TL) : den (d + 1) 79 19 [some (vr 11 0), some (vi x1), some (vi x2)] [vi v] (MX I J T) = (if ¬ v = 0 then ret9 (den (d + 1) 79) 79 31 34 [some (vr 11 0), some (vi x1), some (vi x2)] [] (cal d 80 [vr 5 0, vi x1, vi x2] (MX I J T)) else some (.inl (some (vi (-2147483648))), MX I J T)) :=
  ((bx_eq [] (d + 1) 79 6 19 _ _ _).symm.trans rfl : _ = (if decide (¬ v = 0) = true then ret9 (den (d + 1) 79) 79 31 34 [some (vr 11 0), some (vi x1), some (vi x2)] [] (cal d 80 [vr 5 0, vi x1, vi x2] (MX I J T)) else some (.inl (some (vi (-2147483648))), MX I J T))).trans (by simp only [ite_dec])
set_option maxRecDepth 100000 in
theorem b79_34 (d : Nat) (x1 : Int32) (x2 : Int32) (v : Int32) (I : PI) (J : PJ) (T : TL) : den d 79 34 [some (vr 11 0), some (vi x1), some (vi x2)] [vi v] (MX I J T) = some (.inl (some (vi v)), MX I J T) :=
  (bx_eq [] d 79 1 34 _ _ _).symm.trans rfl
-- 80 WF_Ground_price
set_option maxRecDepth 100000 in
theorem c80 (d : Nat) (x1 : Int32) (x2 : Int32) (I : PI) (J : PJ) (T : TL) : cal d 80 [vr 5 0, vi x1, vi x2] (MX I J T) = (if inR ((x1 * 64) + x2) 384 = true then some (.inl (some (vi (I 34 0 (Int32.toNatClampNeg ((x1 * 64) + x2))))), MX I J T) else none) :=
  (bx_eq [] d 80 9 0 _ _ _).symm.trans rfl
-- 81 WF_draw
set_option maxRecDepth 100000 in
theorem c81 (d : Nat) (x1 : Int32) (x2 : Int32) (I : PI) (J : PJ) (T : TL) : cal (d + 1) 81 [vr 11 0, vi x1, vi x2] (MX I J T) = ret9 (den (d + 1) 81) 81 5 8 [some (vr 11 0), some (vi x1), some (vi x2)] [] (cal d 68 [vr 5 0, vi x1] (MX I J T)) :=
  (bx_eq [] (d + 1) 81 4 0 _ _ _).symm.trans rfl
set_option maxRecDepth 100000 in
theorem b81_8 (d : Nat) (x1 : Int32) (x2 : Int32) (v : Int32) (I : PI) (J : PJ) (T : TL) : den (d + 1) 81 8 [some (vr 11 0), some (vi x1), some (vi x2)] [vi v] (MX I J T) = (if v = 0 then ret9 (den (d + 1) 81) 81 29 32 [some (vr 11 0), some (vi x1), some (vi x2)] [] (cal d 69 [vr 11 0, vi 1] (MX I J T)) else (if x2 = (-1) then (if inR x1 64 = true then (if ¬ (I 28 3 (Int32.toNatClampNeg x1)) = x2 then ret9 (den (d + 1) 81) 81 58 61 [some (vr 11 0), some (vi x1), some (vi x2)] [] (cal d 82 [vr 3 0, vi x1, vi x2] (MX I J T)) else ret9 (den (d + 1) 81) 81 48 51 [some (vr 11 0), some (vi x1), some (vi x2)] [] (cal d 69 [vr 11 0, vi 5] (MX I J T))) else none) else ret9 (den (d + 1) 81) 81 21 24 [some (vr 11 0), some (vi x1), some (vi x2)] [] (cal d 73 [vr 5 0, vi x2] (MX I J T)))) :=
  ((bx_eq [] (d + 1) 81 16 8 _ _ _).symm.trans rfl : _ = (if decide (v = 0) = true then ret9 (den (d + 1) 81) 81 29 32 [some (vr 11 0), some (vi x1), some (vi x2)] [] (cal d 69 [vr 11 0, vi 1] (MX I J T)) else (if decide (x2 = (-1)) = true then (if inR x1 64 = true then (if decide (¬ (I 28 3 (Int32.toNatClampNeg x1)) = x2) = true then ret9 (den (d + 1) 81) 81 58 61 [some (vr 11 0), some (vi x1), some (vi x2)] [] (cal d 82 [vr 3 0, vi x1, vi x2] (MX I J T)) else ret9 (den (d + 1) 81) 81 48 51 [some (vr 11 0), some (vi x1), some (vi x2)] [] (cal d 69 [vr 11 0, vi 5] (MX I J T))) else none) else ret9 (den (d + 1) 81) 81 21 24 [some (vr 11 0), some (vi x1), some (vi x2)] [] (cal d 73 [vr 5 0, vi x2] (MX I J T))))).trans (by simp only [ite_dec])
set_option maxRecDepth 100000 in
theorem b81_24 (d : Nat) (x1 : Int32) (x2 : Int32) (v : Int32) (I : PI) (J : PJ) (T : TL) : den (d + 1) 81 24 [some (vr 11 0), some (vi x1), some (vi x2)] [vi v] (MX I J T) = (if ¬ v = 0 then (if inR x1 64 = true then (if ¬ (I 28 3 (Int32.toNatClampNeg x1)) = x2 then ret9 (den (d + 1) 81) 81 58 61 [some (vr 11 0), some (vi x1), some (vi x2)] [] (cal d 82 [vr 3 0, vi x1, vi x2] (MX I J T)) else ret9 (den (d + 1) 81) 81 48 51 [some (vr 11 0), some (vi x1), some (vi x2)] [] (cal d 69 [vr 11 0, vi 5] (MX I J T))) else none) else ret9 (den (d + 1) 81) 81 29 32 [some (vr 11 0), some (vi x1), some (vi x2)] [] (cal d 69 [vr 11 0, vi 1] (MX I J T))) :=
  ((bx_eq [] (d + 1) 81 13 24 _ _ _).symm.trans rfl : _ = (if decide (¬ v = 0) = true then (if inR x1 64 = true then (if decide (¬ (I 28 3 (Int32.toNatClampNeg x1)) = x2) = true then ret9 (den (d + 1) 81) 81 58 61 [some (vr 11 0), some (vi x1), some (vi x2)] [] (cal d 82 [vr 3 0, vi x1, vi x2] (MX I J T)) else ret9 (den (d + 1) 81) 81 48 51 [some (vr 11 0), some (vi x1), some (vi x2)] [] (cal d 69 [vr 11 0, vi 5] (MX I J T))) else none) else ret9 (den (d + 1) 81) 81 29 32 [some (vr 11 0), some (vi x1), some (vi x2)] [] (cal d 69 [vr 11 0, vi 1] (MX I J T)))).trans (by simp only [ite_dec])
set_option maxRecDepth 100000 in
theorem b81_32 (d : Nat) (x1 : Int32) (x2 : Int32) (v : Int32) (I : PI) (J : PJ) (T : TL) : den d 81 32 [some (vr 11 0), some (vi x1), some (vi x2)] [vi v] (MX I J T) = (if v = 0 ∨ v = 1 then some (.inl (some (vi v)), MX I J T) else none) :=
  (bx_eq [] d 81 1 32 _ _ _).symm.trans rfl
set_option maxRecDepth 100000 in
theorem b81_51 (d : Nat) (x1 : Int32) (x2 : Int32) (v : Int32) (I : PI) (J : PJ) (T : TL) : den d 81 51 [some (vr 11 0), some (vi x1), some (vi x2)] [vi v] (MX I J T) = (if v = 0 ∨ v = 1 then some (.inl (some (vi v)), MX I J T) else none) :=
  (bx_eq [] d 81 1 51 _ _ _).symm.trans rfl
set_option maxRecDepth 100000 in
theorem b81_61 (d : Nat) (x1 : Int32) (x2 : Int32) (I : PI) (J : PJ) (T : TL) : den (d + 1) 81 61 [some (vr 11 0), some (vi x1), some (vi x2)] [] (MX I J T) = ret9 (den (d + 1) 81) 81 62 65 [some (vr 11 0), some (vi x1), some (vi x2)] [] (cal d 71 [vr 11 0] (MX I J T)) :=
  (bx_eq [] (d + 1) 81 2 61 _ _ _).symm.trans rfl
set_option maxRecDepth 100000 in
theorem b81_65 (d : Nat) (x1 : Int32) (x2 : Int32) (v : Int32) (I : PI) (J : PJ) (T : TL) : den d 81 65 [some (vr 11 0), some (vi x1), some (vi x2)] [vi v] (MX I J T) = (if v = 0 ∨ v = 1 then some (.inl (some (vi v)), MX I J T) else none) :=
  (bx_eq [] d 81 1 65 _ _ _).symm.trans rfl
-- 82 WF_Drawing_give
set_option maxRecDepth 100000 in
theorem c82 (d : Nat) (x1 : Int32) (x2 : Int32) (I : PI) (J : PJ) (T : TL) : cal d 82 [vr 3 0, vi x1, vi x2] (MX I J T) = (if inR x1 64 = true then (if (I 28 3 (Int32.toNatClampNeg x1)) < 0 then (if x2 < 0 then (if inR x1 64 = true then some (.inl none, MX (up3 I 28 3 (Int32.toNatClampNeg x1) x2) J T) else none) else (if 6 ≤ x2 then (if inR x1 64 = true then some (.inl none, MX (up3 I 28 3 (Int32.toNatClampNeg x1) x2) J T) else none) else (if inR x2 6 = true then (if inR x2 6 = true then (if inR x1 64 = true then some (.inl none, MX (up3 I 28 3 (Int32.toNatClampNeg x1) x2) (up3 J 42 1 (Int32.toNatClampNeg x2) ((J 42 1 (Int32.toNatClampNeg x2)) ||| (lsh9 1 x1))) T) else none) else none) else none))) else (if 6 ≤ (I 28 3 (Int32.toNatClampNeg x1)) then (if x2 < 0 then (if inR x1 64 = true then some (.inl none, MX (up3 I 28 3 (Int32.toNatClampNeg x1) x2) J T) else none) else (if 6 ≤ x2 then (if inR x1 64 = true then some (.inl none, MX (up3 I 28 3 (Int32.toNatClampNeg x1) x2) J T) else none) else (if inR x2 6 = true then (if inR x2 6 = true then (if inR x1 64 = true then some (.inl none, MX (up3 I 28 3 (Int32.toNatClampNeg x1) x2) (up3 J 42 1 (Int32.toNatClampNeg x2) ((J 42 1 (Int32.toNatClampNeg x2)) ||| (lsh9 1 x1))) T) else none) else none) else none))) else (if inR (I 28 3 (Int32.toNatClampNeg x1)) 6 = true then (if inR (I 28 3 (Int32.toNatClampNeg x1)) 6 = true then (if x2 < 0 then (if inR x1 64 = true then some (.inl none, MX (up3 I 28 3 (Int32.toNatClampNeg x1) x2) (up3 J 42 1 (Int32.toNatClampNeg (I 28 3 (Int32.toNatClampNeg x1))) ((J 42 1 (Int32.toNatClampNeg (I 28 3 (Int32.toNatClampNeg x1)))) &&& ((lsh9 1 x1) ^^^ (-1)))) T) else none) else (if 6 ≤ x2 then (if inR x1 64 = true then some (.inl none, MX (up3 I 28 3 (Int32.toNatClampNeg x1) x2) (up3 J 42 1 (Int32.toNatClampNeg (I 28 3 (Int32.toNatClampNeg x1))) ((J 42 1 (Int32.toNatClampNeg (I 28 3 (Int32.toNatClampNeg x1)))) &&& ((lsh9 1 x1) ^^^ (-1)))) T) else none) else (if inR x2 6 = true then (if inR x2 6 = true then (if inR x1 64 = true then some (.inl none, MX (up3 I 28 3 (Int32.toNatClampNeg x1) x2) (up3 (up3 J 42 1 (Int32.toNatClampNeg (I 28 3 (Int32.toNatClampNeg x1))) ((J 42 1 (Int32.toNatClampNeg (I 28 3 (Int32.toNatClampNeg x1)))) &&& ((lsh9 1 x1) ^^^ (-1)))) 42 1 (Int32.toNatClampNeg x2) (((up3 J 42 1 (Int32.toNatClampNeg (I 28 3 (Int32.toNatClampNeg x1))) ((J 42 1 (Int32.toNatClampNeg (I 28 3 (Int32.toNatClampNeg x1)))) &&& ((lsh9 1 x1) ^^^ (-1)))) 42 1 (Int32.toNatClampNeg x2)) ||| (lsh9 1 x1))) T) else none) else none) else none))) else none) else none))) else none) :=
  ((bx_eq [] d 82 43 0 _ _ _).symm.trans rfl : _ = (if inR x1 64 = true then (if decide ((I 28 3 (Int32.toNatClampNeg x1)) < 0) = true then (if decide (x2 < 0) = true then (if inR x1 64 = true then some (.inl none, MX (up3 I 28 3 (Int32.toNatClampNeg x1) x2) J T) else none) else (if decide (6 ≤ x2) = true then (if inR x1 64 = true then some (.inl none, MX (up3 I 28 3 (Int32.toNatClampNeg x1) x2) J T) else none) else (if inR x2 6 = true then (if inR x2 6 = true then (if inR x1 64 = true then some (.inl none, MX (up3 I 28 3 (Int32.toNatClampNeg x1) x2) (up3 J 42 1 (Int32.toNatClampNeg x2) ((J 42 1 (Int32.toNatClampNeg x2)) ||| (lsh9 1 x1))) T) else none) else none) else none))) else (if decide (6 ≤ (I 28 3 (Int32.toNatClampNeg x1))) = true then (if decide (x2 < 0) = true then (if inR x1 64 = true then some (.inl none, MX (up3 I 28 3 (Int32.toNatClampNeg x1) x2) J T) else none) else (if decide (6 ≤ x2) = true then (if inR x1 64 = true then some (.inl none, MX (up3 I 28 3 (Int32.toNatClampNeg x1) x2) J T) else none) else (if inR x2 6 = true then (if inR x2 6 = true then (if inR x1 64 = true then some (.inl none, MX (up3 I 28 3 (Int32.toNatClampNeg x1) x2) (up3 J 42 1 (Int32.toNatClampNeg x2) ((J 42 1 (Int32.toNatClampNeg x2)) ||| (lsh9 1 x1))) T) else none) else none) else none))) else (if inR (I 28 3 (Int32.toNatClampNeg x1)) 6 = true then (if inR (I 28 3 (Int32.toNatClampNeg x1)) 6 = true then (if decide (x2 < 0) = true then (if inR x1 64 = true then some (.inl none, MX (up3 I 28 3 (Int32.toNatClampNeg x1) x2) (up3 J 42 1 (Int32.toNatClampNeg (I 28 3 (Int32.toNatClampNeg x1))) ((J 42 1 (Int32.toNatClampNeg (I 28 3 (Int32.toNatClampNeg x1)))) &&& ((lsh9 1 x1) ^^^ (-1)))) T) else none) else (if decide (6 ≤ x2) = true then (if inR x1 64 = true then some (.inl none, MX (up3 I 28 3 (Int32.toNatClampNeg x1) x2) (up3 J 42 1 (Int32.toNatClampNeg (I 28 3 (Int32.toNatClampNeg x1))) ((J 42 1 (Int32.toNatClampNeg (I 28 3 (Int32.toNatClampNeg x1)))) &&& ((lsh9 1 x1) ^^^ (-1)))) T) else none) else (if inR x2 6 = true then (if inR x2 6 = true then (if inR x1 64 = true then some (.inl none, MX (up3 I 28 3 (Int32.toNatClampNeg x1) x2) (up3 (up3 J 42 1 (Int32.toNatClampNeg (I 28 3 (Int32.toNatClampNeg x1))) ((J 42 1 (Int32.toNatClampNeg (I 28 3 (Int32.toNatClampNeg x1)))) &&& ((lsh9 1 x1) ^^^ (-1)))) 42 1 (Int32.toNatClampNeg x2) (((up3 J 42 1 (Int32.toNatClampNeg (I 28 3 (Int32.toNatClampNeg x1))) ((J 42 1 (Int32.toNatClampNeg (I 28 3 (Int32.toNatClampNeg x1)))) &&& ((lsh9 1 x1) ^^^ (-1)))) 42 1 (Int32.toNatClampNeg x2)) ||| (lsh9 1 x1))) T) else none) else none) else none))) else none) else none))) else none)).trans (by simp only [ite_dec])
-- 83 WF_whose
set_option maxRecDepth 100000 in
theorem c83 (d : Nat) (x1 : Int32) (I : PI) (J : PJ) (T : TL) : cal (d + 1) 83 [vr 11 0, vi x1] (MX I J T) = ret9 (den (d + 1) 83) 83 5 8 [some (vr 11 0), some (vi x1), none] [] (cal d 68 [vr 5 0, vi x1] (MX I J T)) :=
  (bx_eq [] (d + 1) 83 4 0 _ _ _).symm.trans rfl
set_option maxRecDepth 100000 in
theorem b83_8 (d : Nat) (x1 : Int32) (v : Int32) (I : PI) (J : PJ) (T : TL) : den d 83 8 [some (vr 11 0), some (vi x1), none] [vi v] (MX I J T) = (if ¬ v = 0 then (if inR x1 64 = true then (if ¬ (I 28 3 (Int32.toNatClampNeg x1)) = (-1) then some (.inl (some (vi (I 28 3 (Int32.toNatClampNeg x1)))), MX I J T) else some (.inl (some (vi (-2))), MX I J T)) else none) else some (.inl (some (vi (-1))), MX I J T)) :=
  ((bx_eq [] d 83 13 8 _ _ _).symm.trans rfl : _ = (if decide (¬ v = 0) = true then (if inR x1 64 = true then (if decide (¬ (I 28 3 (Int32.toNatClampNeg x1)) = (-1)) = true then some (.inl (some (vi (I 28 3 (Int32.toNatClampNeg x1)))), MX I J T) else some (.inl (some (vi (-2))), MX I J T)) else none) else some (.inl (some (vi (-1))), MX I J T))).trans (by simp only [ite_dec])
-- 84 WF_sum
set_option maxRecDepth 100000 in
theorem c84 (d : Nat) (x1 : Int32) (I : PI) (J : PJ) (T : TL) : cal (d + 1) 84 [vr 11 0, vi x1] (MX I J T) = ret9 (den (d + 1) 84) 84 5 8 [some (vr 11 0), some (vi x1)] [] (cal d 73 [vr 5 0, vi x1] (MX I J T)) :=
  (bx_eq [] (d + 1) 84 4 0 _ _ _).symm.trans rfl
set_option maxRecDepth 100000 in
theorem b84_8 (d : Nat) (x1 : Int32) (v : Int32) (I : PI) (J : PJ) (T : TL) : den (d + 1) 84 8 [some (vr 11 0), some (vi x1)] [vi v] (MX I J T) = (if v = 0 then some (.inl (some (vi (-2147483648))), MX I J T) else ret9 (den (d + 1) 84) 84 16 19 [some (vr 11 0), some (vi x1)] [] (cal d 85 [vr 0 0, vi x1] (MX I J T))) :=
  ((bx_eq [] (d + 1) 84 5 8 _ _ _).symm.trans rfl : _ = (if decide (v = 0) = true then some (.inl (some (vi (-2147483648))), MX I J T) else ret9 (den (d + 1) 84) 84 16 19 [some (vr 11 0), some (vi x1)] [] (cal d 85 [vr 0 0, vi x1] (MX I J T)))).trans (by simp only [ite_dec])
set_option maxRecDepth 100000 in
theorem b84_19 (d : Nat) (x1 : Int32) (v : Int32) (I : PI) (J : PJ) (T : TL) : den d 84 19 [some (vr 11 0), some (vi x1)] [vi v] (MX I J T) = some (.inl (some (vi v)), MX I J T) :=
  (bx_eq [] d 84 2 19 _ _ _).symm.trans rfl
-- 85 WF_Accounts_sumOf
set_option maxRecDepth 100000 in
theorem c85 (d : Nat) (x1 : Int32) (I : PI) (J : PJ) (T : TL) : cal (d + 1) 85 [vr 0 0, vi x1] (MX I J T) = (if inR x1 6 = true then ret9 (den (d + 1) 85) 85 11 14 [some (vr 0 0), some (vi x1)] [] (cal d 86 [vr 0 0, vi x1, vl (J 42 1 (Int32.toNatClampNeg x1))] (MX I J T)) else none) :=
  (bx_eq [] (d + 1) 85 8 0 _ _ _).symm.trans rfl
set_option maxRecDepth 100000 in
theorem b85_14 (d : Nat) (x1 : Int32) (v : Int32) (I : PI) (J : PJ) (T : TL) : den d 85 14 [some (vr 0 0), some (vi x1)] [vi v] (MX I J T) = some (.inl (some (vi v)), MX I J T) :=
  (bx_eq [] d 85 1 14 _ _ _).symm.trans rfl
-- 86 WF_Accounts_fieldSum
set_option maxRecDepth 100000 in
theorem c86 (d : Nat) (x1 : Int32) (y2 : Int64) (I : PI) (J : PJ) (T : TL) : cal d 86 [vr 0 0, vi x1, vl y2] (MX I J T) = den d 86 6 [some (vr 0 0), some (vi x1), some (vl y2), none, some (vi 0), some (vi 0)] [] (MX I J T) :=
  (bx_eq [6] d 86 4 0 _ _ _).symm.trans rfl
set_option maxRecDepth 100000 in
theorem b86_6 (d : Nat) (x1 : Int32) (y2 : Int64) (x4 : Int32) (x5 : Int32) (I : PI) (J : PJ) (T : TL) : den (d + 1) 86 6 [some (vr 0 0), some (vi x1), some (vl y2), none, some (vi x4), some (vi x5)] [] (MX I J T) = (if (I 5 0 9) ≤ x5 then some (.inl (some (vi x4)), MX I J T) else (if (lg_cmp ((lus9 y2 x5) &&& 1) 0) = 0 then den (d + 1) 86 6 [some (vr 0 0), some (vi x1), some (vl y2), none, some (vi x4), some (vi (x5 + 1))] [] (MX I J T) else ret9 (den (d + 1) 86) 86 38 41 [some (vr 0 0), some (vi x1), some (vl y2), none, some (vi x4), some (vi x5)] [vi x4] (cal d 80 [vr 5 0, vi x1, vi x5] (MX I J T)))) :=
  ((bx_eq [6] (d + 1) 86 19 6 _ _ _).symm.trans rfl : _ = (if decide ((I 5 0 9) ≤ x5) = true then some (.inl (some (vi x4)), MX I J T) else (if decide ((lg_cmp ((lus9 y2 x5) &&& 1) 0) = 0) = true then den (d + 1) 86 6 [some (vr 0 0), some (vi x1), some (vl y2), none, some (vi x4), some (vi (x5 + 1))] [] (MX I J T) else ret9 (den (d + 1) 86) 86 38 41 [some (vr 0 0), some (vi x1), some (vl y2), none, some (vi x4), some (vi x5)] [vi x4] (cal d 80 [vr 5 0, vi x1, vi x5] (MX I J T))))).trans (by simp only [ite_dec])
set_option maxRecDepth 100000 in
theorem b86_41 (d : Nat) (x1 : Int32) (y2 : Int64) (x4 : Int32) (x5 : Int32) (s0 : Int32) (v : Int32) (I : PI) (J : PJ) (T : TL) : den d 86 41 [some (vr 0 0), some (vi x1), some (vl y2), none, some (vi x4), some (vi x5)] [vi v, vi s0] (MX I J T) = den d 86 6 [some (vr 0 0), some (vi x1), some (vl y2), none, some (vi (s0 + v)), some (vi (x5 + 1))] [] (MX I J T) :=
  (bx_eq [6] d 86 4 41 _ _ _).symm.trans rfl
-- 87 WF_total
set_option maxRecDepth 100000 in
theorem c87 (d : Nat) (x1 : Int32) (I : PI) (J : PJ) (T : TL) : cal (d + 1) 87 [vr 11 0, vi x1] (MX I J T) = ret9 (den (d + 1) 87) 87 4 7 [some (vr 11 0), some (vi x1)] [] (cal d 74 [vr 5 0] (MX I J T)) :=
  (bx_eq [] (d + 1) 87 3 0 _ _ _).symm.trans rfl
set_option maxRecDepth 100000 in
theorem b87_7 (d : Nat) (x1 : Int32) (v : Int32) (I : PI) (J : PJ) (T : TL) : den (d + 1) 87 7 [some (vr 11 0), some (vi x1)] [vi v] (MX I J T) = (if v = 0 then ret9 (den (d + 1) 87) 87 22 25 [some (vr 11 0), some (vi x1)] [] (cal d 88 [vr 11 0, vi 1] (MX I J T)) else (if x1 < 0 then ret9 (den (d + 1) 87) 87 22 25 [some (vr 11 0), some (vi x1)] [] (cal d 88 [vr 11 0, vi 1] (MX I J T)) else (if x1 ≤ 6 then ret9 (den (d + 1) 87) 87 32 35 [some (vr 11 0), some (vi x1)] [vr 11 0] (cal d 89 [vr 0 0, vi x1] (MX I J T)) else ret9 (den (d + 1) 87) 87 22 25 [some (vr 11 0), some (vi x1)] [] (cal d 88 [vr 11 0, vi 1] (MX I J T))))) :=
  ((bx_eq [] (d + 1) 87 11 7 _ _ _).symm.trans rfl : _ = (if decide (v = 0) = true then ret9 (den (d + 1) 87) 87 22 25 [some (vr 11 0), some (vi x1)] [] (cal d 88 [vr 11 0, vi 1] (MX I J T)) else (if decide (x1 < 0) = true then ret9 (den (d + 1) 87) 87 22 25 [some (vr 11 0), some (vi x1)] [] (cal d 88 [vr 11 0, vi 1] (MX I J T)) else (if decide (x1 ≤ 6) = true then ret9 (den (d + 1) 87) 87 32 35 [some (vr 11 0), some (vi x1)] [vr 11 0] (cal d 89 [vr 0 0, vi x1] (MX I J T)) else ret9 (den (d + 1) 87) 87 22 25 [some (vr 11 0), some (vi x1)] [] (cal d 88 [vr 11 0, vi 1] (MX I J T)))))).trans (by simp only [ite_dec])
set_option maxRecDepth 100000 in
theorem b87_25 (d : Nat) (x1 : Int32) (v : Int32) (I : PI) (J : PJ) (T : TL) : den d 87 25 [some (vr 11 0), some (vi x1)] [vi v] (MX I J T) = some (.inl (some (vi v)), MX I J T) :=
  (bx_eq [] d 87 1 25 _ _ _).symm.trans rfl
set_option maxRecDepth 100000 in
theorem b87_35 (d : Nat) (x1 : Int32) (v : Int32) (I : PI) (J : PJ) (T : TL) : den (d + 1) 87 35 [some (vr 11 0), some (vi x1)] [vi v, vr 11 0] (MX I J T) = ret9 (den (d + 1) 87) 87 35 38 [some (vr 11 0), some (vi x1)] [] (cal d 51 [vr 11 0, vi v] (MX I J T)) :=
  (bx_eq [] (d + 1) 87 1 35 _ _ _).symm.trans rfl
set_option maxRecDepth 100000 in
theorem b87_38 (d : Nat) (x1 : Int32) (v : Int32) (I : PI) (J : PJ) (T : TL) : den d 87 38 [some (vr 11 0), some (vi x1)] [vi v] (MX I J T) = some (.inl (some (vi v)), MX I J T) :=
  (bx_eq [] d 87 1 38 _ _ _).symm.trans rfl
-- 88 WF_refuseNumber
set_option maxRecDepth 100000 in
theorem c88 (d : Nat) (x1 : Int32) (I : PI) (J : PJ) (T : TL) : cal d 88 [vr 11 0, vi x1] (MX I J T) = some (.inl (some (vi (-2147483648))), MX (up3 I 11 0 15 x1) J T) :=
  (bx_eq [] d 88 5 0 _ _ _).symm.trans rfl
-- 89 WF_Accounts_tell
set_option maxRecDepth 100000 in
theorem c89 (d : Nat) (x1 : Int32) (I : PI) (J : PJ) (T : TL) : cal (d + 1) 89 [vr 0 0, vi x1] (MX I J T) = (if x1 = 0 then ret9 (den (d + 1) 89) 89 41 44 [some (vr 0 0), some (vi x1)] [] (cal d 90 [vr 0 0] (MX I J T)) else (if x1 = 1 then ret9 (den (d + 1) 89) 89 46 49 [some (vr 0 0), some (vi x1)] [] (cal d 91 [vr 0 0] (MX I J T)) else (if x1 = 2 then ret9 (den (d + 1) 89) 89 51 54 [some (vr 0 0), some (vi x1)] [] (cal d 93 [vr 0 0] (MX I J T)) else (if x1 = 3 then ret9 (den (d + 1) 89) 89 56 59 [some (vr 0 0), some (vi x1)] [] (cal d 93 [vr 0 0] (MX I J T)) else (if x1 = 4 then ret9 (den (d + 1) 89) 89 66 69 [some (vr 0 0), some (vi x1)] [] (cal d 96 [vr 0 0] (MX I J T)) else (if x1 = 5 then ret9 (den (d + 1) 89) 89 71 74 [some (vr 0 0), some (vi x1)] [] (cal d 98 [vr 0 0] (MX I J T)) else ret9 (den (d + 1) 89) 89 76 79 [some (vr 0 0), some (vi x1)] [] (cal d 100 [vr 0 0] (MX I J T)))))))) :=
  (bx_eq [] (d + 1) 89 4 0 _ _ _).symm.trans rfl
set_option maxRecDepth 100000 in
theorem b89_44 (d : Nat) (x1 : Int32) (v : Int32) (I : PI) (J : PJ) (T : TL) : den d 89 44 [some (vr 0 0), some (vi x1)] [vi v] (MX I J T) = some (.inl (some (vi v)), MX I J T) :=
  (bx_eq [] d 89 1 44 _ _ _).symm.trans rfl
set_option maxRecDepth 100000 in
theorem b89_49 (d : Nat) (x1 : Int32) (v : Int32) (I : PI) (J : PJ) (T : TL) : den d 89 49 [some (vr 0 0), some (vi x1)] [vi v] (MX I J T) = some (.inl (some (vi v)), MX I J T) :=
  (bx_eq [] d 89 1 49 _ _ _).symm.trans rfl
set_option maxRecDepth 100000 in
theorem b89_54 (d : Nat) (x1 : Int32) (v : Int32) (I : PI) (J : PJ) (T : TL) : den d 89 54 [some (vr 0 0), some (vi x1)] [vi v] (MX I J T) = some (.inl (some (vi v)), MX I J T) :=
  (bx_eq [] d 89 1 54 _ _ _).symm.trans rfl
set_option maxRecDepth 100000 in
theorem b89_59 (d : Nat) (x1 : Int32) (v : Int32) (I : PI) (J : PJ) (T : TL) : den (d + 1) 89 59 [some (vr 0 0), some (vi x1)] [vi v] (MX I J T) = ret9 (den (d + 1) 89) 89 60 63 [some (vr 0 0), some (vi x1)] [vi v] (cal d 90 [vr 0 0] (MX I J T)) :=
  (bx_eq [] (d + 1) 89 2 59 _ _ _).symm.trans rfl
set_option maxRecDepth 100000 in
theorem b89_63 (d : Nat) (x1 : Int32) (s0 : Int32) (v : Int32) (I : PI) (J : PJ) (T : TL) : den d 89 63 [some (vr 0 0), some (vi x1)] [vi v, vi s0] (MX I J T) = some (.inl (some (vi (s0 - v))), MX I J T) :=
  (bx_eq [] d 89 2 63 _ _ _).symm.trans rfl
set_option maxRecDepth 100000 in
theorem b89_69 (d : Nat) (x1 : Int32) (v : Int32) (I : PI) (J : PJ) (T : TL) : den d 89 69 [some (vr 0 0), some (vi x1)] [vi v] (MX I J T) = some (.inl (some (vi v)), MX I J T) :=
  (bx_eq [] d 89 1 69 _ _ _).symm.trans rfl
set_option maxRecDepth 100000 in
theorem b89_74 (d : Nat) (x1 : Int32) (v : Int32) (I : PI) (J : PJ) (T : TL) : den d 89 74 [some (vr 0 0), some (vi x1)] [vi v] (MX I J T) = some (.inl (some (vi v)), MX I J T) :=
  (bx_eq [] d 89 1 74 _ _ _).symm.trans rfl
set_option maxRecDepth 100000 in
theorem b89_79 (d : Nat) (x1 : Int32) (v : Int32) (I : PI) (J : PJ) (T : TL) : den d 89 79 [some (vr 0 0), some (vi x1)] [vi v] (MX I J T) = some (.inl (some (vi v)), MX I J T) :=
  (bx_eq [] d 89 1 79 _ _ _).symm.trans rfl
-- 90 WF_Accounts_totalOfAll
set_option maxRecDepth 100000 in
theorem c90 (d : Nat) (I : PI) (J : PJ) (T : TL) : cal d 90 [vr 0 0] (MX I J T) = den d 90 4 [some (vr 0 0), some (vi 0), some (vi 0)] [] (MX I J T) :=
  (bx_eq [4] d 90 4 0 _ _ _).symm.trans rfl
set_option maxRecDepth 100000 in
theorem b90_4 (d : Nat) (x1 : Int32) (x2 : Int32) (I : PI) (J : PJ) (T : TL) : den (d + 1) 90 4 [some (vr 0 0), some (vi x1), some (vi x2)] [] (MX I J T) = (if (I 1 T.1 3) ≤ x2 then some (.inl (some (vi x1)), MX I J T) else ret9 (den (d + 1) 90) 90 21 24 [some (vr 0 0), some (vi x1), some (vi x2)] [vi x1] (cal d 85 [vr 0 0, vi x2] (MX I J T))) :=
  ((bx_eq [4] (d + 1) 90 10 4 _ _ _).symm.trans rfl : _ = (if decide ((I 1 T.1 3) ≤ x2) = true then some (.inl (some (vi x1)), MX I J T) else ret9 (den (d + 1) 90) 90 21 24 [some (vr 0 0), some (vi x1), some (vi x2)] [vi x1] (cal d 85 [vr 0 0, vi x2] (MX I J T)))).trans (by simp only [ite_dec])
set_option maxRecDepth 100000 in
theorem b90_24 (d : Nat) (x1 : Int32) (x2 : Int32) (s0 : Int32) (v : Int32) (I : PI) (J : PJ) (T : TL) : den d 90 24 [some (vr 0 0), some (vi x1), some (vi x2)] [vi v, vi s0] (MX I J T) = den d 90 4 [some (vr 0 0), some (vi (s0 + v)), some (vi (x2 + 1))] [] (MX I J T) :=
  (bx_eq [4] d 90 4 24 _ _ _).symm.trans rfl
-- 91 WF_Accounts_shortOfAll
set_option maxRecDepth 100000 in
theorem c91 (d : Nat) (I : PI) (J : PJ) (T : TL) : cal d 91 [vr 0 0] (MX I J T) = den d 91 4 [some (vr 0 0), some (vi 0), some (vi 0)] [] (MX I J T) :=
  (bx_eq [4] d 91 4 0 _ _ _).symm.trans rfl
set_option maxRecDepth 100000 in
theorem b91_4 (d : Nat) (x1 : Int32) (x2 : Int32) (I : PI) (J : PJ) (T : TL) : den (d + 1) 91 4 [some (vr 0 0), some (vi x1), some (vi x2)] [] (MX I J T) = (if (I 1 T.1 3) ≤ x2 then some (.inl (some (vi x1)), MX I J T) else ret9 (den (d + 1) 91) 91 23 26 [some (vr 0 0), some (vi x1), some (vi x2)] [vi x2, vr 0 0, vi x1] (cal d 85 [vr 0 0, vi x2] (MX I J T))) :=
  ((bx_eq [4] (d + 1) 91 12 4 _ _ _).symm.trans rfl : _ = (if decide ((I 1 T.1 3) ≤ x2) = true then some (.inl (some (vi x1)), MX I J T) else ret9 (den (d + 1) 91) 91 23 26 [some (vr 0 0), some (vi x1), some (vi x2)] [vi x2, vr 0 0, vi x1] (cal d 85 [vr 0 0, vi x2] (MX I J T)))).trans (by simp only [ite_dec])
set_option maxRecDepth 100000 in
theorem b91_26 (d : Nat) (x1 : Int32) (x2 : Int32) (s0 : Int32) (s2 : Int32) (v : Int32) (I : PI) (J : PJ) (T : TL) : den (d + 1) 91 26 [some (vr 0 0), some (vi x1), some (vi x2)] [vi v, vi s2, vr 0 0, vi s0] (MX I J T) = ret9 (den (d + 1) 91) 91 26 29 [some (vr 0 0), some (vi x1), some (vi x2)] [vi s0] (cal d 92 [vr 0 0, vi s2, vi v] (MX I J T)) :=
  (bx_eq [4] (d + 1) 91 1 26 _ _ _).symm.trans rfl
set_option maxRecDepth 100000 in
theorem b91_29 (d : Nat) (x1 : Int32) (x2 : Int32) (s0 : Int32) (v : Int32) (I : PI) (J : PJ) (T : TL) : den d 91 29 [some (vr 0 0), some (vi x1), some (vi x2)] [vi v, vi s0] (MX I J T) = den d 91 4 [some (vr 0 0), some (vi (s0 + v)), some (vi (x2 + 1))] [] (MX I J T) :=
  (bx_eq [4] d 91 4 29 _ _ _).symm.trans rfl
-- 92 WF_Accounts_shortBy
set_option maxRecDepth 100000 in
theorem c92 (d : Nat) (x1 : Int32) (x2 : Int32) (I : PI) (J : PJ) (T : TL) : cal d 92 [vr 0 0, vi x1, vi x2] (MX I J T) = (if inR x1 6 = true then (if ((I 21 4 (Int32.toNatClampNeg x1)) - x2) ≤ 0 then some (.inl (some (vi 0)), MX I J T) else some (.inl (some (vi ((I 21 4 (Int32.toNatClampNeg x1)) - x2))), MX I J T)) else none) :=
  ((bx_eq [] d 92 13 0 _ _ _).symm.trans rfl : _ = (if inR x1 6 = true then (if decide (((I 21 4 (Int32.toNatClampNeg x1)) - x2) ≤ 0) = true then some (.inl (some (vi 0)), MX I J T) else some (.inl (some (vi ((I 21 4 (Int32.toNatClampNeg x1)) - x2))), MX I J T)) else none)).trans (by simp only [ite_dec])
-- 93 WF_Accounts_bound
set_option maxRecDepth 100000 in
theorem c93 (d : Nat) (I : PI) (J : PJ) (T : TL) : cal d 93 [vr 0 0] (MX I J T) = den d 93 4 [some (vr 0 0), some (vi 0), some (vi 0), none] [] (MX I J T) :=
  (bx_eq [4] d 93 4 0 _ _ _).symm.trans rfl
set_option maxRecDepth 100000 in
theorem b93_4 (d : Nat) (x1 : Int32) (x2 : Int32) (o3 : Option AV) (I : PI) (J : PJ) (T : TL) : den (d + 1) 93 4 [some (vr 0 0), some (vi x1), some (vi x2), o3] [] (MX I J T) = (if (I 5 0 9) ≤ x2 then some (.inl (some (vi x1)), MX I J T) else ret9 (den (d + 1) 93) 93 20 23 [some (vr 0 0), some (vi x1), some (vi x2), o3] [] (cal d 94 [vr 5 0, vi x2] (MX I J T))) :=
  ((bx_eq [4] (d + 1) 93 9 4 _ _ _).symm.trans rfl : _ = (if decide ((I 5 0 9) ≤ x2) = true then some (.inl (some (vi x1)), MX I J T) else ret9 (den (d + 1) 93) 93 20 23 [some (vr 0 0), some (vi x1), some (vi x2), o3] [] (cal d 94 [vr 5 0, vi x2] (MX I J T)))).trans (by simp only [ite_dec])
set_option maxRecDepth 100000 in
theorem b93_23 (d : Nat) (x1 : Int32) (x2 : Int32) (o3 : Option AV) (v : Int32) (I : PI) (J : PJ) (T : TL) : den (d + 1) 93 23 [some (vr 0 0), some (vi x1), some (vi x2), o3] [vi v] (MX I J T) = (if ¬ v = 0 then den (d + 1) 93 4 [some (vr 0 0), some (vi x1), some (vi (x2 + 1)), o3] [] (MX I J T) else (if inR x2 64 = true then (if (I 28 2 (Int32.toNatClampNeg x2)) = (-1) then ret9 (den (d + 1) 93) 93 56 59 [some (vr 0 0), some (vi x1), some (vi x2), some (vi (I 28 2 (Int32.toNatClampNeg x2)))] [vi x1] (cal d 95 [vr 0 0, vi x2] (MX I J T)) else ret9 (den (d + 1) 93) 93 48 51 [some (vr 0 0), some (vi x1), some (vi x2), some (vi (I 28 2 (Int32.toNatClampNeg x2)))] [vi x1] (cal d 80 [vr 5 0, vi (I 28 2 (Int32.toNatClampNeg x2)), vi x2] (MX I J T))) else none)) :=
  ((bx_eq [4] (d + 1) 93 16 23 _ _ _).symm.trans rfl : _ = (if decide (¬ v = 0) = true then den (d + 1) 93 4 [some (vr 0 0), some (vi x1), some (vi (x2 + 1)), o3] [] (MX I J T) else (if inR x2 64 = true then (if decide ((I 28 2 (Int32.toNatClampNeg x2)) = (-1)) = true then ret9 (den (d + 1) 93) 93 56 59 [some (vr 0 0), some (vi x1), some (vi x2), some (vi (I 28 2 (Int32.toNatClampNeg x2)))] [vi x1] (cal d 95 [vr 0 0, vi x2] (MX I J T)) else ret9 (den (d + 1) 93) 93 48 51 [some (vr 0 0), some (vi x1), some (vi x2), some (vi (I 28 2 (Int32.toNatClampNeg x2)))] [vi x1] (cal d 80 [vr 5 0, vi (I 28 2 (Int32.toNatClampNeg x2)), vi x2] (MX I J T))) else none))).trans (by simp only [ite_dec])
set_option maxRecDepth 100000 in
theorem b93_51 (d : Nat) (x1 : Int32) (x2 : Int32) (x3 : Int32) (s0 : Int32) (v : Int32) (I : PI) (J : PJ) (T : TL) : den d 93 51 [some (vr 0 0), some (vi x1), some (vi x2), some (vi x3)] [vi v, vi s0] (MX I J T) = den d 93 4 [some (vr 0 0), some (vi (s0 + v)), some (vi (x2 + 1)), some (vi x3)] [] (MX I J T) :=
  (bx_eq [4] d 93 5 51 _ _ _).symm.trans rfl
set_option maxRecDepth 100000 in
theorem b93_59 (d : Nat) (x1 : Int32) (x2 : Int32) (x3 : Int32) (s0 : Int32) (v : Int32) (I : PI) (J : PJ) (T : TL) : den d 93 59 [some (vr 0 0), some (vi x1), some (vi x2), some (vi x3)] [vi v, vi s0] (MX I J T) = den d 93 4 [some (vr 0 0), some (vi (s0 + v)), some (vi (x2 + 1)), some (vi x3)] [] (MX I J T) :=
  (bx_eq [4] d 93 4 59 _ _ _).symm.trans rfl
-- 94 WF_Ground_isWater
set_option maxRecDepth 100000 in
theorem c94 (d : Nat) (x1 : Int32) (I : PI) (J : PJ) (T : TL) : cal d 94 [vr 5 0, vi x1] (MX I J T) = (if (lg_cmp ((lus9 (J 5 0 13) x1) &&& 1) 0) = 0 then some (.inl (some (vi 0)), MX I J T) else some (.inl (some (vi 1)), MX I J T)) :=
  ((bx_eq [] d 94 12 0 _ _ _).symm.trans rfl : _ = (if decide ((lg_cmp ((lus9 (J 5 0 13) x1) &&& 1) 0) = 0) = true then some (.inl (some (vi 0)), MX I J T) else some (.inl (some (vi 1)), MX I J T))).trans (by simp only [ite_dec])
-- 95 WF_Accounts_greatestPrice
set_option maxRecDepth 100000 in
theorem c95 (d : Nat) (x1 : Int32) (I : PI) (J : PJ) (T : TL) : cal (d + 1) 95 [vr 0 0, vi x1] (MX I J T) = ret9 (den (d + 1) 95) 95 6 9 [some (vr 0 0), some (vi x1), none, none] [] (cal d 80 [vr 5 0, vi 0, vi x1] (MX I J T)) :=
  (bx_eq [12] (d + 1) 95 5 0 _ _ _).symm.trans rfl
set_option maxRecDepth 100000 in
theorem b95_9 (d : Nat) (x1 : Int32) (v : Int32) (I : PI) (J : PJ) (T : TL) : den d 95 9 [some (vr 0 0), some (vi x1), none, none] [vi v] (MX I J T) = den d 95 12 [some (vr 0 0), some (vi x1), some (vi v), some (vi 1)] [] (MX I J T) :=
  (bx_eq [12] d 95 3 9 _ _ _).symm.trans rfl
set_option maxRecDepth 100000 in
theorem b95_12 (d : Nat) (x1 : Int32) (x2 : Int32) (x3 : Int32) (I : PI) (J : PJ) (T : TL) : den (d + 1) 95 12 [some (vr 0 0), some (vi x1), some (vi x2), some (vi x3)] [] (MX I J T) = (if (I 1 T.1 3) ≤ x3 then some (.inl (some (vi x2)), MX I J T) else ret9 (den (d + 1) 95) 95 33 36 [some (vr 0 0), some (vi x1), some (vi x2), some (vi x3)] [vi x2] (cal d 80 [vr 5 0, vi x3, vi x1] (MX I J T))) :=
  ((bx_eq [12] (d + 1) 95 12 12 _ _ _).symm.trans rfl : _ = (if decide ((I 1 T.1 3) ≤ x3) = true then some (.inl (some (vi x2)), MX I J T) else ret9 (den (d + 1) 95) 95 33 36 [some (vr 0 0), some (vi x1), some (vi x2), some (vi x3)] [vi x2] (cal d 80 [vr 5 0, vi x3, vi x1] (MX I J T)))).trans (by simp only [ite_dec])
set_option maxRecDepth 100000 in
theorem b95_36 (d : Nat) (x1 : Int32) (x2 : Int32) (x3 : Int32) (s0 : Int32) (v : Int32) (I : PI) (J : PJ) (T : TL) : den d 95 36 [some (vr 0 0), some (vi x1), some (vi x2), some (vi x3)] [vi v, vi s0] (MX I J T) = den d 95 12 [some (vr 0 0), some (vi x1), some (vi (max9 s0 v)), some (vi (x3 + 1))] [] (MX I J T) :=
  (bx_eq [12] d 95 4 36 _ _ _).symm.trans rfl
-- 96 WF_Accounts_envyPairs
set_option maxRecDepth 100000 in
theorem c96 (d : Nat) (I : PI) (J : PJ) (T : TL) : cal d 96 [vr 0 0] (MX I J T) = den d 96 4 [some (vr 0 0), some (vi 0), some (vi 0), none] [] (MX I J T) :=
  (bx_eq [4, 20] d 96 4 0 _ _ _).symm.trans rfl
set_option maxRecDepth 100000 in
theorem b96_4 (d : Nat) (x1 : Int32) (x2 : Int32) (o3 : Option AV) (I : PI) (J : PJ) (T : TL) : den d 96 4 [some (vr 0 0), some (vi x1), some (vi x2), o3] [] (MX I J T) = (if (I 1 T.1 3) ≤ x2 then some (.inl (some (vi x1)), MX I J T) else den d 96 20 [some (vr 0 0), some (vi x1), some (vi x2), some (vi 0)] [] (MX I J T)) :=
  ((bx_eq [4, 20] d 96 8 4 _ _ _).symm.trans rfl : _ = (if decide ((I 1 T.1 3) ≤ x2) = true then some (.inl (some (vi x1)), MX I J T) else den d 96 20 [some (vr 0 0), some (vi x1), some (vi x2), some (vi 0)] [] (MX I J T))).trans (by simp only [ite_dec])
set_option maxRecDepth 100000 in
theorem b96_20 (d : Nat) (x1 : Int32) (x2 : Int32) (x3 : Int32) (I : PI) (J : PJ) (T : TL) : den (d + 1) 96 20 [some (vr 0 0), some (vi x1), some (vi x2), some (vi x3)] [] (MX I J T) = (if (I 1 T.1 3) ≤ x3 then den (d + 1) 96 4 [some (vr 0 0), some (vi x1), some (vi (x2 + 1)), some (vi x3)] [] (MX I J T) else (if x2 = x3 then den (d + 1) 96 20 [some (vr 0 0), some (vi x1), some (vi x2), some (vi (x3 + 1))] [] (MX I J T) else ret9 (den (d + 1) 96) 96 42 45 [some (vr 0 0), some (vi x1), some (vi x2), some (vi x3)] [] (cal d 97 [vr 0 0, vi x2, vi x3] (MX I J T)))) :=
  ((bx_eq [4, 20] (d + 1) 96 13 20 _ _ _).symm.trans rfl : _ = (if decide ((I 1 T.1 3) ≤ x3) = true then den (d + 1) 96 4 [some (vr 0 0), some (vi x1), some (vi (x2 + 1)), some (vi x3)] [] (MX I J T) else (if decide (x2 = x3) = true then den (d + 1) 96 20 [some (vr 0 0), some (vi x1), some (vi x2), some (vi (x3 + 1))] [] (MX I J T) else ret9 (den (d + 1) 96) 96 42 45 [some (vr 0 0), some (vi x1), some (vi x2), some (vi x3)] [] (cal d 97 [vr 0 0, vi x2, vi x3] (MX I J T))))).trans (by simp only [ite_dec])
set_option maxRecDepth 100000 in
theorem b96_45 (d : Nat) (x1 : Int32) (x2 : Int32) (x3 : Int32) (v : Int32) (I : PI) (J : PJ) (T : TL) : den d 96 45 [some (vr 0 0), some (vi x1), some (vi x2), some (vi x3)] [vi v] (MX I J T) = (if v = 0 then den d 96 20 [some (vr 0 0), some (vi x1), some (vi x2), some (vi (x3 + 1))] [] (MX I J T) else den d 96 20 [some (vr 0 0), some (vi (x1 + 1)), some (vi x2), some (vi (x3 + 1))] [] (MX I J T)) :=
  ((bx_eq [4, 20] d 96 4 45 _ _ _).symm.trans rfl : _ = (if decide (v = 0) = true then den d 96 20 [some (vr 0 0), some (vi x1), some (vi x2), some (vi (x3 + 1))] [] (MX I J T) else den d 96 20 [some (vr 0 0), some (vi (x1 + 1)), some (vi x2), some (vi (x3 + 1))] [] (MX I J T))).trans (by simp only [ite_dec])
-- 97 WF_Accounts_feelsEnvy
set_option maxRecDepth 100000 in
theorem c97 (d : Nat) (x1 : Int32) (x2 : Int32) (I : PI) (J : PJ) (T : TL) : cal (d + 1) 97 [vr 0 0, vi x1, vi x2] (MX I J T) = (if inR x2 6 = true then (if (lg_cmp (J 42 1 (Int32.toNatClampNeg x2)) 0) = 0 then some (.inl (some (vi 0)), MX I J T) else ret9 (den (d + 1) 97) 97 19 22 [some (vr 0 0), some (vi x1), some (vi x2), some (vl (J 42 1 (Int32.toNatClampNeg x2))), none] [] (cal d 86 [vr 0 0, vi x1, vl (J 42 1 (Int32.toNatClampNeg x2))] (MX I J T))) else none) :=
  ((bx_eq [] (d + 1) 97 14 0 _ _ _).symm.trans rfl : _ = (if inR x2 6 = true then (if decide ((lg_cmp (J 42 1 (Int32.toNatClampNeg x2)) 0) = 0) = true then some (.inl (some (vi 0)), MX I J T) else ret9 (den (d + 1) 97) 97 19 22 [some (vr 0 0), some (vi x1), some (vi x2), some (vl (J 42 1 (Int32.toNatClampNeg x2))), none] [] (cal d 86 [vr 0 0, vi x1, vl (J 42 1 (Int32.toNatClampNeg x2))] (MX I J T))) else none)).trans (by simp only [ite_dec])
set_option maxRecDepth 100000 in
theorem b97_22 (d : Nat) (x1 : Int32) (x2 : Int32) (y3 : Int64) (v : Int32) (I : PI) (J : PJ) (T : TL) : den (d + 1) 97 22 [some (vr 0 0), some (vi x1), some (vi x2), some (vl y3), none] [vi v] (MX I J T) = ret9 (den (d + 1) 97) 97 24 27 [some (vr 0 0), some (vi x1), some (vi x2), some (vl y3), none] [vi v] (cal d 85 [vr 0 0, vi x1] (MX I J T)) :=
  (bx_eq [] (d + 1) 97 3 22 _ _ _).symm.trans rfl
set_option maxRecDepth 100000 in
theorem b97_27 (d : Nat) (x1 : Int32) (x2 : Int32) (y3 : Int64) (s0 : Int32) (v : Int32) (I : PI) (J : PJ) (T : TL) : den d 97 27 [some (vr 0 0), some (vi x1), some (vi x2), some (vl y3), none] [vi v, vi s0] (MX I J T) = (if s0 ≤ v then some (.inl (some (vi 0)), MX I J T) else some (.inl (some (vi 1)), MX I J T)) :=
  ((bx_eq [] d 97 4 27 _ _ _).symm.trans rfl : _ = (if decide (s0 ≤ v) = true then some (.inl (some (vi 0)), MX I J T) else some (.inl (some (vi 1)), MX I J T))).trans (by simp only [ite_dec])
-- 98 WF_Accounts_yesVotes
set_option maxRecDepth 100000 in
theorem c98 (d : Nat) (I : PI) (J : PJ) (T : TL) : cal d 98 [vr 0 0] (MX I J T) = den d 98 4 [some (vr 0 0), some (vi 0), some (vi 0)] [] (MX I J T) :=
  (bx_eq [4] d 98 4 0 _ _ _).symm.trans rfl
set_option maxRecDepth 100000 in
theorem b98_4 (d : Nat) (x1 : Int32) (x2 : Int32) (I : PI) (J : PJ) (T : TL) : den (d + 1) 98 4 [some (vr 0 0), some (vi x1), some (vi x2)] [] (MX I J T) = (if (I 1 T.1 3) ≤ x2 then some (.inl (some (vi x1)), MX I J T) else ret9 (den (d + 1) 98) 98 20 23 [some (vr 0 0), some (vi x1), some (vi x2)] [] (cal d 99 [vr 0 0, vi x2] (MX I J T))) :=
  ((bx_eq [4] (d + 1) 98 9 4 _ _ _).symm.trans rfl : _ = (if decide ((I 1 T.1 3) ≤ x2) = true then some (.inl (some (vi x1)), MX I J T) else ret9 (den (d + 1) 98) 98 20 23 [some (vr 0 0), some (vi x1), some (vi x2)] [] (cal d 99 [vr 0 0, vi x2] (MX I J T)))).trans (by simp only [ite_dec])
set_option maxRecDepth 100000 in
theorem b98_23 (d : Nat) (x1 : Int32) (x2 : Int32) (v : Int32) (I : PI) (J : PJ) (T : TL) : den d 98 23 [some (vr 0 0), some (vi x1), some (vi x2)] [vi v] (MX I J T) = (if v = 0 then den d 98 4 [some (vr 0 0), some (vi x1), some (vi (x2 + 1))] [] (MX I J T) else den d 98 4 [some (vr 0 0), some (vi (x1 + 1)), some (vi (x2 + 1))] [] (MX I J T)) :=
  ((bx_eq [4] d 98 4 23 _ _ _).symm.trans rfl : _ = (if decide (v = 0) = true then den d 98 4 [some (vr 0 0), some (vi x1), some (vi (x2 + 1))] [] (MX I J T) else den d 98 4 [some (vr 0 0), some (vi (x1 + 1)), some (vi (x2 + 1))] [] (MX I J T))).trans (by simp only [ite_dec])
-- 99 WF_Accounts_saysYes
set_option maxRecDepth 100000 in
theorem c99 (d : Nat) (x1 : Int32) (I : PI) (J : PJ) (T : TL) : cal d 99 [vr 0 0, vi x1] (MX I J T) = den d 99 2 [some (vr 0 0), some (vi x1), some (vi 0)] [] (MX I J T) :=
  (bx_eq [2] d 99 2 0 _ _ _).symm.trans rfl
set_option maxRecDepth 100000 in
theorem b99_2 (d : Nat) (x1 : Int32) (x2 : Int32) (I : PI) (J : PJ) (T : TL) : den (d + 1) 99 2 [some (vr 0 0), some (vi x1), some (vi x2)] [] (MX I J T) = (if (I 5 0 9) ≤ x2 then ret9 (den (d + 1) 99) 99 55 58 [some (vr 0 0), some (vi x1), some (vi x2)] [] (cal d 85 [vr 0 0, vi x1] (MX I J T)) else (if inR x2 64 = true then (if ¬ (I 28 3 (Int32.toNatClampNeg x2)) = x1 then den (d + 1) 99 2 [some (vr 0 0), some (vi x1), some (vi (x2 + 1))] [] (MX I J T) else ret9 (den (d + 1) 99) 99 32 35 [some (vr 0 0), some (vi x1), some (vi x2)] [] (cal d 61 [vr 5 0, vi x1, vi x2] (MX I J T))) else none)) :=
  ((bx_eq [2] (d + 1) 99 17 2 _ _ _).symm.trans rfl : _ = (if decide ((I 5 0 9) ≤ x2) = true then ret9 (den (d + 1) 99) 99 55 58 [some (vr 0 0), some (vi x1), some (vi x2)] [] (cal d 85 [vr 0 0, vi x1] (MX I J T)) else (if inR x2 64 = true then (if decide (¬ (I 28 3 (Int32.toNatClampNeg x2)) = x1) = true then den (d + 1) 99 2 [some (vr 0 0), some (vi x1), some (vi (x2 + 1))] [] (MX I J T) else ret9 (den (d + 1) 99) 99 32 35 [some (vr 0 0), some (vi x1), some (vi x2)] [] (cal d 61 [vr 5 0, vi x1, vi x2] (MX I J T))) else none))).trans (by simp only [ite_dec])
set_option maxRecDepth 100000 in
theorem b99_35 (d : Nat) (x1 : Int32) (x2 : Int32) (v : Int32) (I : PI) (J : PJ) (T : TL) : den d 99 35 [some (vr 0 0), some (vi x1), some (vi x2)] [vi v] (MX I J T) = (if v ≤ (I 5 0 11) then den d 99 2 [some (vr 0 0), some (vi x1), some (vi (x2 + 1))] [] (MX I J T) else some (.inl (some (vi 0)), MX I J T)) :=
  ((bx_eq [2] d 99 6 35 _ _ _).symm.trans rfl : _ = (if decide (v ≤ (I 5 0 11)) = true then den d 99 2 [some (vr 0 0), some (vi x1), some (vi (x2 + 1))] [] (MX I J T) else some (.inl (some (vi 0)), MX I J T))).trans (by simp only [ite_dec])
set_option maxRecDepth 100000 in
theorem b99_58 (d : Nat) (x1 : Int32) (x2 : Int32) (v : Int32) (I : PI) (J : PJ) (T : TL) : den d 99 58 [some (vr 0 0), some (vi x1), some (vi x2)] [vi v] (MX I J T) = (if inR x1 6 = true then (if v < (I 21 4 (Int32.toNatClampNeg x1)) then some (.inl (some (vi 0)), MX I J T) else some (.inl (some (vi 1)), MX I J T)) else none) :=
  ((bx_eq [2] d 99 9 58 _ _ _).symm.trans rfl : _ = (if inR x1 6 = true then (if decide (v < (I 21 4 (Int32.toNatClampNeg x1))) = true then some (.inl (some (vi 0)), MX I J T) else some (.inl (some (vi 1)), MX I J T)) else none)).trans (by simp only [ite_dec])
-- 100 WF_Accounts_borderLength
set_option maxRecDepth 100000 in
theorem c100 (d : Nat) (I : PI) (J : PJ) (T : TL) : cal (d + 1) 100 [vr 0 0] (MX I J T) = ret9 (den (d + 1) 100) 100 4 7 [some (vr 0 0), none, none, none, none, none, none, none, none, none] [] (cal d 101 [vr 3 0] (MX I J T)) :=
  (bx_eq [31] (d + 1) 100 3 0 _ _ _).symm.trans rfl
set_option maxRecDepth 100000 in
theorem b100_7 (d : Nat) (v : Int64) (I : PI) (J : PJ) (T : TL) : den d 100 7 [some (vr 0 0), none, none, none, none, none, none, none, none, none] [vl v] (MX I J T) = den d 100 31 [some (vr 0 0), some (vl v), none, some (vl ((J 5 0 12) &&& (v ^^^ (-1)))), none, some (vi 0), some (vi 0), some (vi 0), none, none] [] (MX I J T) :=
  (bx_eq [31] d 100 15 7 _ _ _).symm.trans rfl
set_option maxRecDepth 100000 in
theorem b100_31 (d : Nat) (y1 : Int64) (y3 : Int64) (x5 : Int32) (x6 : Int32) (x7 : Int32) (o8 : Option AV) (I : PI) (J : PJ) (T : TL) : den (d + 1) 100 31 [some (vr 0 0), some (vl y1), none, some (vl y3), none, some (vi x5), some (vi x6), some (vi x7), o8, none] [] (MX I J T) = (if (I 1 T.1 3) ≤ x7 then some (.inl (some (vi ((x5 / 2) + x6))), MX I J T) else (if inR x7 6 = true then ret9 (den (d + 1) 100) 100 74 77 [some (vr 0 0), some (vl y1), none, some (vl y3), none, some (vi x5), some (vi x6), some (vi x7), some (vl (J 42 1 (Int32.toNatClampNeg x7))), none] [vi x5] (cal d 102 [vr 5 0, vl (J 42 1 (Int32.toNatClampNeg x7)), vl (y1 &&& ((J 42 1 (Int32.toNatClampNeg x7)) ^^^ (-1)))] (MX I J T)) else none)) :=
  ((bx_eq [31] (d + 1) 100 22 31 _ _ _).symm.trans rfl : _ = (if decide ((I 1 T.1 3) ≤ x7) = true then some (.inl (some (vi ((x5 / 2) + x6))), MX I J T) else (if inR x7 6 = true then ret9 (den (d + 1) 100) 100 74 77 [some (vr 0 0), some (vl y1), none, some (vl y3), none, some (vi x5), some (vi x6), some (vi x7), some (vl (J 42 1 (Int32.toNatClampNeg x7))), none] [vi x5] (cal d 102 [vr 5 0, vl (J 42 1 (Int32.toNatClampNeg x7)), vl (y1 &&& ((J 42 1 (Int32.toNatClampNeg x7)) ^^^ (-1)))] (MX I J T)) else none))).trans (by simp only [ite_dec])
set_option maxRecDepth 100000 in
theorem b100_77 (d : Nat) (y1 : Int64) (y3 : Int64) (x5 : Int32) (x6 : Int32) (x7 : Int32) (y8 : Int64) (s0 : Int32) (v : Int32) (I : PI) (J : PJ) (T : TL) : den (d + 1) 100 77 [some (vr 0 0), some (vl y1), none, some (vl y3), none, some (vi x5), some (vi x6), some (vi x7), some (vl y8), none] [vi v, vi s0] (MX I J T) = ret9 (den (d + 1) 100) 100 89 92 [some (vr 0 0), some (vl y1), none, some (vl y3), none, some (vi (s0 + v)), some (vi x6), some (vi x7), some (vl y8), none] [vi x6] (cal d 102 [vr 5 0, vl y8, vl y3] (MX I J T)) :=
  (bx_eq [31] (d + 1) 100 8 77 _ _ _).symm.trans rfl
set_option maxRecDepth 100000 in
theorem b100_92 (d : Nat) (y1 : Int64) (y3 : Int64) (x5 : Int32) (x6 : Int32) (x7 : Int32) (y8 : Int64) (s0 : Int32) (v : Int32) (I : PI) (J : PJ) (T : TL) : den d 100 92 [some (vr 0 0), some (vl y1), none, some (vl y3), none, some (vi x5), some (vi x6), some (vi x7), some (vl y8), none] [vi v, vi s0] (MX I J T) = den d 100 31 [some (vr 0 0), some (vl y1), none, some (vl y3), none, some (vi x5), some (vi (s0 + v)), some (vi (x7 + 1)), some (vl y8), none] [] (MX I J T) :=
  (bx_eq [31] d 100 4 92 _ _ _).symm.trans rfl
-- 101 WF_Drawing_owned
set_option maxRecDepth 100000 in
theorem c101 (d : Nat) (I : PI) (J : PJ) (T : TL) : cal d 101 [vr 3 0] (MX I J T) = den d 101 4 [some (vr 3 0), some (vl 0), none, some (vi 0)] [] (MX I J T) :=
  (bx_eq [4] d 101 4 0 _ _ _).symm.trans rfl
set_option maxRecDepth 100000 in
theorem b101_4 (d : Nat) (y1 : Int64) (x3 : Int32) (I : PI) (J : PJ) (T : TL) : den d 101 4 [some (vr 3 0), some (vl y1), none, some (vi x3)] [] (MX I J T) = (if 6 ≤ x3 then some (.inl (some (vl y1)), MX I J T) else (if inR x3 6 = true then den d 101 4 [some (vr 3 0), some (vl (y1 ||| (J 42 1 (Int32.toNatClampNeg x3)))), none, some (vi (x3 + 1))] [] (MX I J T) else none)) :=
  ((bx_eq [4] d 101 12 4 _ _ _).symm.trans rfl : _ = (if decide (6 ≤ x3) = true then some (.inl (some (vl y1)), MX I J T) else (if inR x3 6 = true then den d 101 4 [some (vr 3 0), some (vl (y1 ||| (J 42 1 (Int32.toNatClampNeg x3)))), none, some (vi (x3 + 1))] [] (MX I J T) else none))).trans (by simp only [ite_dec])
-- 102 WF_Ground_sidesBetween
set_option maxRecDepth 100000 in
theorem c102 (d : Nat) (y1 : Int64) (y3 : Int64) (I : PI) (J : PJ) (T : TL) : cal (d + 1) 102 [vr 5 0, vl y1, vl y3] (MX I J T) = ret9 (den (d + 1) 102) 102 2 5 [some (vr 5 0), some (vl y1), none, some (vl y3), none] [] (cal d 59 [vr 5 0, vl y1] (MX I J T)) :=
  (bx_eq [] (d + 1) 102 3 0 _ _ _).symm.trans rfl
set_option maxRecDepth 100000 in
theorem b102_5 (d : Nat) (y1 : Int64) (y3 : Int64) (v : Int64) (I : PI) (J : PJ) (T : TL) : den (d + 1) 102 5 [some (vr 5 0), some (vl y1), none, some (vl y3), none] [vl v] (MX I J T) = ret9 (den (d + 1) 102) 102 7 10 [some (vr 5 0), some (vl y1), none, some (vl y3), none] [] (cal d 103 [vl (v &&& y3)] (MX I J T)) :=
  (bx_eq [] (d + 1) 102 3 5 _ _ _).symm.trans rfl
set_option maxRecDepth 100000 in
theorem b102_10 (d : Nat) (y1 : Int64) (y3 : Int64) (v : Int32) (I : PI) (J : PJ) (T : TL) : den (d + 1) 102 10 [some (vr 5 0), some (vl y1), none, some (vl y3), none] [vi v] (MX I J T) = ret9 (den (d + 1) 102) 102 12 15 [some (vr 5 0), some (vl y1), none, some (vl y3), none] [vi v] (cal d 60 [vr 5 0, vl y1] (MX I J T)) :=
  (bx_eq [] (d + 1) 102 3 10 _ _ _).symm.trans rfl
set_option maxRecDepth 100000 in
theorem b102_15 (d : Nat) (y1 : Int64) (y3 : Int64) (s0 : Int32) (v : Int64) (I : PI) (J : PJ) (T : TL) : den (d + 1) 102 15 [some (vr 5 0), some (vl y1), none, some (vl y3), none] [vl v, vi s0] (MX I J T) = ret9 (den (d + 1) 102) 102 17 20 [some (vr 5 0), some (vl y1), none, some (vl y3), none] [vi s0] (cal d 103 [vl (v &&& y3)] (MX I J T)) :=
  (bx_eq [] (d + 1) 102 3 15 _ _ _).symm.trans rfl
set_option maxRecDepth 100000 in
theorem b102_20 (d : Nat) (y1 : Int64) (y3 : Int64) (s0 : Int32) (v : Int32) (I : PI) (J : PJ) (T : TL) : den (d + 1) 102 20 [some (vr 5 0), some (vl y1), none, some (vl y3), none] [vi v, vi s0] (MX I J T) = ret9 (den (d + 1) 102) 102 29 32 [some (vr 5 0), some (vl y1), none, some (vl y3), none] [vi (s0 + v)] (cal d 103 [vl ((lsh9 y1 (I 5 0 7)) &&& y3)] (MX I J T)) :=
  (bx_eq [] (d + 1) 102 8 20 _ _ _).symm.trans rfl
set_option maxRecDepth 100000 in
theorem b102_32 (d : Nat) (y1 : Int64) (y3 : Int64) (s0 : Int32) (v : Int32) (I : PI) (J : PJ) (T : TL) : den (d + 1) 102 32 [some (vr 5 0), some (vl y1), none, some (vl y3), none] [vi v, vi s0] (MX I J T) = ret9 (den (d + 1) 102) 102 41 44 [some (vr 5 0), some (vl y1), none, some (vl y3), none] [vi (s0 + v)] (cal d 103 [vl ((lus9 y1 (I 5 0 7)) &&& y3)] (MX I J T)) :=
  (bx_eq [] (d + 1) 102 8 32 _ _ _).symm.trans rfl
set_option maxRecDepth 100000 in
theorem b102_44 (d : Nat) (y1 : Int64) (y3 : Int64) (s0 : Int32) (v : Int32) (I : PI) (J : PJ) (T : TL) : den d 102 44 [some (vr 5 0), some (vl y1), none, some (vl y3), none] [vi v, vi s0] (MX I J T) = some (.inl (some (vi (s0 + v))), MX I J T) :=
  (bx_eq [] d 102 2 44 _ _ _).symm.trans rfl
-- 103 Long_bitCount
set_option maxRecDepth 100000 in
theorem c103 (d : Nat) (y0 : Int64) (I : PI) (J : PJ) (T : TL) : cal d 103 [vl y0] (MX I J T) = some (.inl (some (vi ((Int64.toInt32 ((((((((y0 - ((lus9 y0 1) &&& 6148914691236517205)) &&& 3689348814741910323) + ((lus9 (y0 - ((lus9 y0 1) &&& 6148914691236517205)) 2) &&& 3689348814741910323)) + (lus9 (((y0 - ((lus9 y0 1) &&& 6148914691236517205)) &&& 3689348814741910323) + ((lus9 (y0 - ((lus9 y0 1) &&& 6148914691236517205)) 2) &&& 3689348814741910323)) 4)) &&& 1085102592571150095) + (lus9 (((((y0 - ((lus9 y0 1) &&& 6148914691236517205)) &&& 3689348814741910323) + ((lus9 (y0 - ((lus9 y0 1) &&& 6148914691236517205)) 2) &&& 3689348814741910323)) + (lus9 (((y0 - ((lus9 y0 1) &&& 6148914691236517205)) &&& 3689348814741910323) + ((lus9 (y0 - ((lus9 y0 1) &&& 6148914691236517205)) 2) &&& 3689348814741910323)) 4)) &&& 1085102592571150095) 8)) + (lus9 ((((((y0 - ((lus9 y0 1) &&& 6148914691236517205)) &&& 3689348814741910323) + ((lus9 (y0 - ((lus9 y0 1) &&& 6148914691236517205)) 2) &&& 3689348814741910323)) + (lus9 (((y0 - ((lus9 y0 1) &&& 6148914691236517205)) &&& 3689348814741910323) + ((lus9 (y0 - ((lus9 y0 1) &&& 6148914691236517205)) 2) &&& 3689348814741910323)) 4)) &&& 1085102592571150095) + (lus9 (((((y0 - ((lus9 y0 1) &&& 6148914691236517205)) &&& 3689348814741910323) + ((lus9 (y0 - ((lus9 y0 1) &&& 6148914691236517205)) 2) &&& 3689348814741910323)) + (lus9 (((y0 - ((lus9 y0 1) &&& 6148914691236517205)) &&& 3689348814741910323) + ((lus9 (y0 - ((lus9 y0 1) &&& 6148914691236517205)) 2) &&& 3689348814741910323)) 4)) &&& 1085102592571150095) 8)) 16)) + (lus9 (((((((y0 - ((lus9 y0 1) &&& 6148914691236517205)) &&& 3689348814741910323) + ((lus9 (y0 - ((lus9 y0 1) &&& 6148914691236517205)) 2) &&& 3689348814741910323)) + (lus9 (((y0 - ((lus9 y0 1) &&& 6148914691236517205)) &&& 3689348814741910323) + ((lus9 (y0 - ((lus9 y0 1) &&& 6148914691236517205)) 2) &&& 3689348814741910323)) 4)) &&& 1085102592571150095) + (lus9 (((((y0 - ((lus9 y0 1) &&& 6148914691236517205)) &&& 3689348814741910323) + ((lus9 (y0 - ((lus9 y0 1) &&& 6148914691236517205)) 2) &&& 3689348814741910323)) + (lus9 (((y0 - ((lus9 y0 1) &&& 6148914691236517205)) &&& 3689348814741910323) + ((lus9 (y0 - ((lus9 y0 1) &&& 6148914691236517205)) 2) &&& 3689348814741910323)) 4)) &&& 1085102592571150095) 8)) + (lus9 ((((((y0 - ((lus9 y0 1) &&& 6148914691236517205)) &&& 3689348814741910323) + ((lus9 (y0 - ((lus9 y0 1) &&& 6148914691236517205)) 2) &&& 3689348814741910323)) + (lus9 (((y0 - ((lus9 y0 1) &&& 6148914691236517205)) &&& 3689348814741910323) + ((lus9 (y0 - ((lus9 y0 1) &&& 6148914691236517205)) 2) &&& 3689348814741910323)) 4)) &&& 1085102592571150095) + (lus9 (((((y0 - ((lus9 y0 1) &&& 6148914691236517205)) &&& 3689348814741910323) + ((lus9 (y0 - ((lus9 y0 1) &&& 6148914691236517205)) 2) &&& 3689348814741910323)) + (lus9 (((y0 - ((lus9 y0 1) &&& 6148914691236517205)) &&& 3689348814741910323) + ((lus9 (y0 - ((lus9 y0 1) &&& 6148914691236517205)) 2) &&& 3689348814741910323)) 4)) &&& 1085102592571150095) 8)) 16)) 32))) &&& 127))), MX I J T) :=
  (bx_eq [] d 103 49 0 _ _ _).symm.trans rfl
