/-! Blocks of methods (printed by program: wip/gen/gen40.py) -/
-- 13 WF_forgetGround
set_option maxRecDepth 100000 in
theorem c13 (d : Nat) (I : PI) (J : PJ) (T : TL) : cal (d + 1) 13 [vr 11 0] (MX I J T) = ret9 (den (d + 1) 13) 13 4 7 [some (vr 11 0)] [] (cal d 14 [vr 3 0] (MX I J T)) :=
  (bx_eq [] (d + 1) 13 3 0 _ _ _).symm.trans rfl
set_option maxRecDepth 100000 in
theorem b13_7 (d : Nat) (I : PI) (J : PJ) (T : TL) : den d 13 7 [some (vr 11 0)] [] (MX I J T) = some (.inl none, MX (up3 (up3 (up3 I 2 0 5 0) 11 0 13 (-1)) 11 0 14 (-1)) J T) :=
  (bx_eq [] d 13 11 7 _ _ _).symm.trans rfl
-- 14 WF_Drawing_wipe
set_option maxRecDepth 100000 in
theorem c14 (d : Nat) (I : PI) (J : PJ) (T : TL) : cal (d + 1) 14 [vr 3 0] (MX I J T) = ret9 (den (d + 1) 14) 14 5 8 [some (vr 3 0)] [] (cal d 15 [vr 28 3, vi (-1)] (MX I J T)) :=
  (bx_eq [] (d + 1) 14 4 0 _ _ _).symm.trans rfl
set_option maxRecDepth 100000 in
theorem b14_8 (d : Nat) (I : PI) (J : PJ) (T : TL) : den (d + 1) 14 8 [some (vr 3 0)] [] (MX I J T) = ret9 (den (d + 1) 14) 14 13 16 [some (vr 3 0)] [] (cal d 16 [vr 42 1, vl 0] (MX I J T)) :=
  (bx_eq [] (d + 1) 14 4 8 _ _ _).symm.trans rfl
set_option maxRecDepth 100000 in
theorem b14_16 (d : Nat) (I : PI) (J : PJ) (T : TL) : den d 14 16 [some (vr 3 0)] [] (MX I J T) = some (.inl none, MX I J T) :=
  (bx_eq [] d 14 1 16 _ _ _).symm.trans rfl
-- 17 WF_feed
set_option maxRecDepth 100000 in
theorem c17 (d : Nat) (x1 : Int32) (x2 : Int32) (x3 : Int32) (x4 : Int32) (x5 : Int32) (I : PI) (J : PJ) (T : TL) : cal (d + 1) 17 [vr 11 0, vi x1, vi x2, vi x3, vi x4, vi x5] (MX I J T) = (if ((I 11 0 10) + 20) ≤ 500 then ret9 (den (d + 1) 17) 17 17 20 [some (vr 11 0), some (vi x1), some (vi x2), some (vi x3), some (vi x4), some (vi x5)] [] (cal d 18 [vr 11 0, vi x1] (MX I J T)) else some (.inl (some (vi (-1))), MX I J T)) :=
  ((bx_eq [] (d + 1) 17 9 0 _ _ _).symm.trans rfl : _ = (if decide (((I 11 0 10) + 20) ≤ 500) = true then ret9 (den (d + 1) 17) 17 17 20 [some (vr 11 0), some (vi x1), some (vi x2), some (vi x3), some (vi x4), some (vi x5)] [] (cal d 18 [vr 11 0, vi x1] (MX I J T)) else some (.inl (some (vi (-1))), MX I J T))).trans (by simp only [ite_dec])
set_option maxRecDepth 100000 in
theorem b17_20 (d : Nat) (x1 : Int32) (x2 : Int32) (x3 : Int32) (x4 : Int32) (x5 : Int32) (I : PI) (J : PJ) (T : TL) : den (d + 1) 17 20 [some (vr 11 0), some (vi x1), some (vi x2), some (vi x3), some (vi x4), some (vi x5)] [] (MX I J T) = ret9 (den (d + 1) 17) 17 22 25 [some (vr 11 0), some (vi x1), some (vi x2), some (vi x3), some (vi x4), some (vi x5)] [] (cal d 18 [vr 11 0, vi x2] (MX I J T)) :=
  (bx_eq [] (d + 1) 17 3 20 _ _ _).symm.trans rfl
set_option maxRecDepth 100000 in
theorem b17_25 (d : Nat) (x1 : Int32) (x2 : Int32) (x3 : Int32) (x4 : Int32) (x5 : Int32) (I : PI) (J : PJ) (T : TL) : den (d + 1) 17 25 [some (vr 11 0), some (vi x1), some (vi x2), some (vi x3), some (vi x4), some (vi x5)] [] (MX I J T) = ret9 (den (d + 1) 17) 17 27 30 [some (vr 11 0), some (vi x1), some (vi x2), some (vi x3), some (vi x4), some (vi x5)] [] (cal d 18 [vr 11 0, vi x3] (MX I J T)) :=
  (bx_eq [] (d + 1) 17 3 25 _ _ _).symm.trans rfl
set_option maxRecDepth 100000 in
theorem b17_30 (d : Nat) (x1 : Int32) (x2 : Int32) (x3 : Int32) (x4 : Int32) (x5 : Int32) (I : PI) (J : PJ) (T : TL) : den (d + 1) 17 30 [some (vr 11 0), some (vi x1), some (vi x2), some (vi x3), some (vi x4), some (vi x5)] [] (MX I J T) = ret9 (den (d + 1) 17) 17 33 36 [some (vr 11 0), some (vi x1), some (vi x2), some (vi x3), some (vi x4), some (vi x5)] [] (cal d 18 [vr 11 0, vi x4] (MX I J T)) :=
  (bx_eq [] (d + 1) 17 3 30 _ _ _).symm.trans rfl
set_option maxRecDepth 100000 in
theorem b17_36 (d : Nat) (x1 : Int32) (x2 : Int32) (x3 : Int32) (x4 : Int32) (x5 : Int32) (I : PI) (J : PJ) (T : TL) : den (d + 1) 17 36 [some (vr 11 0), some (vi x1), some (vi x2), some (vi x3), some (vi x4), some (vi x5)] [] (MX I J T) = ret9 (den (d + 1) 17) 17 39 42 [some (vr 11 0), some (vi x1), some (vi x2), some (vi x3), some (vi x4), some (vi x5)] [] (cal d 18 [vr 11 0, vi x5] (MX I J T)) :=
  (bx_eq [] (d + 1) 17 3 36 _ _ _).symm.trans rfl
set_option maxRecDepth 100000 in
theorem b17_42 (d : Nat) (x1 : Int32) (x2 : Int32) (x3 : Int32) (x4 : Int32) (x5 : Int32) (I : PI) (J : PJ) (T : TL) : den d 17 42 [some (vr 11 0), some (vi x1), some (vi x2), some (vi x3), some (vi x4), some (vi x5)] [] (MX I J T) = some (.inl (some (vi (I 11 0 10))), MX I J T) :=
  (bx_eq [] d 17 3 42 _ _ _).symm.trans rfl
-- 18 WF_putFour
set_option maxRecDepth 100000 in
theorem c18 (d : Nat) (x1 : Int32) (I : PI) (J : PJ) (T : TL) : cal d 18 [vr 11 0, vi x1] (MX I J T) = den d 18 3 [some (vr 11 0), some (vi x1), some (vi 24)] [] (MX I J T) :=
  (bx_eq [3] d 18 2 0 _ _ _).symm.trans rfl
set_option maxRecDepth 100000 in
theorem b18_3 (d : Nat) (x1 : Int32) (x2 : Int32) (I : PI) (J : PJ) (T : TL) : den d 18 3 [some (vr 11 0), some (vi x1), some (vi x2)] [] (MX I J T) = (if x2 < 0 then some (.inl none, MX I J T) else (if 500 ≤ (I 11 0 10) then den d 18 3 [some (vr 11 0), some (vi x1), some (vi (x2 + (-8)))] [] (MX I J T) else (if inR (I 11 0 10) 500 = true then den d 18 3 [some (vr 11 0), some (vi x1), some (vi (x2 + (-8)))] [] (MX (up3 (up3 I 37 0 (Int32.toNatClampNeg (I 11 0 10)) (i2b9 (i2b9 (ius9 x1 x2)))) 11 0 10 ((I 11 0 10) + 1)) J T) else none))) :=
  ((bx_eq [3] d 18 23 3 _ _ _).symm.trans rfl : _ = (if decide (x2 < 0) = true then some (.inl none, MX I J T) else (if decide (500 ≤ (I 11 0 10)) = true then den d 18 3 [some (vr 11 0), some (vi x1), some (vi (x2 + (-8)))] [] (MX I J T) else (if inR (I 11 0 10) 500 = true then den d 18 3 [some (vr 11 0), some (vi x1), some (vi (x2 + (-8)))] [] (MX (up3 (up3 I 37 0 (Int32.toNatClampNeg (I 11 0 10)) (i2b9 (i2b9 (ius9 x1 x2)))) 11 0 10 ((I 11 0 10) + 1)) J T) else none)))).trans (by simp only [ite_dec])
-- 20 WF_refuse
set_option maxRecDepth 100000 in
theorem c20 (d : Nat) (x1 : Int32) (I : PI) (J : PJ) (T : TL) : cal d 20 [vr 11 0, vi x1] (MX I J T) = some (.inl (some (vi (-1))), MX (up3 I 11 0 15 x1) J T) :=
  (bx_eq [] d 20 5 0 _ _ _).symm.trans rfl
-- 21 WF_Reader_read
set_option maxRecDepth 100000 in
theorem c21 (d : Nat) (x1 : Int32) (I : PI) (J : PJ) (T : TL) : cal (d + 1) 21 [vr 7 0, vi x1] (MX I J T) = ret9 (den (d + 1) 21) 21 19 22 [some (vr 7 0), some (vi x1), none] [] (cal d 22 [vr 1 T.2.1] (MX (up3 (up3 (up3 I 7 0 3 0) 7 0 4 0) 7 0 5 0) J T)) :=
  (bx_eq [32] (d + 1) 21 12 0 _ _ _).symm.trans rfl
set_option maxRecDepth 100000 in
theorem b21_22 (d : Nat) (x1 : Int32) (I : PI) (J : PJ) (T : TL) : den (d + 1) 21 22 [some (vr 7 0), some (vi x1), none] [] (MX I J T) = ret9 (den (d + 1) 21) 21 27 30 [some (vr 7 0), some (vi x1), none] [] (cal d 23 [vr 8 0, vi x1] (MX I J T)) :=
  (bx_eq [32] (d + 1) 21 4 22 _ _ _).symm.trans rfl
set_option maxRecDepth 100000 in
theorem b21_30 (d : Nat) (x1 : Int32) (I : PI) (J : PJ) (T : TL) : den d 21 30 [some (vr 7 0), some (vi x1), none] [] (MX I J T) = den d 21 32 [some (vr 7 0), some (vi x1), some (vi 0)] [] (MX I J T) :=
  (bx_eq [32] d 21 2 30 _ _ _).symm.trans rfl
set_option maxRecDepth 100000 in
theorem b21_32 (d : Nat) (x1 : Int32) (x2 : Int32) (I : PI) (J : PJ) (T : TL) : den (d + 1) 21 32 [some (vr 7 0), some (vi x1), some (vi x2)] [] (MX I J T) = (if 500 < x2 then (if ¬ (I 7 0 3) = 0 then some (.inl (some (vi 0)), MX I J T) else some (.inl (some (vi 1)), MX I J T)) else (if ¬ (I 7 0 3) = 0 then (if ¬ (I 7 0 3) = 0 then some (.inl (some (vi 0)), MX I J T) else some (.inl (some (vi 1)), MX I J T)) else (if (I 7 0 5) = 6 then (if ¬ (I 7 0 3) = 0 then some (.inl (some (vi 0)), MX I J T) else some (.inl (some (vi 1)), MX I J T)) else ret9 (den (d + 1) 21) 21 59 62 [some (vr 7 0), some (vi x1), some (vi x2)] [] (cal d 26 [vr 8 0] (MX I J T))))) :=
  ((bx_eq [32] (d + 1) 21 16 32 _ _ _).symm.trans rfl : _ = (if decide (500 < x2) = true then (if decide (¬ (I 7 0 3) = 0) = true then some (.inl (some (vi 0)), MX I J T) else some (.inl (some (vi 1)), MX I J T)) else (if decide (¬ (I 7 0 3) = 0) = true then (if decide (¬ (I 7 0 3) = 0) = true then some (.inl (some (vi 0)), MX I J T) else some (.inl (some (vi 1)), MX I J T)) else (if decide ((I 7 0 5) = 6) = true then (if decide (¬ (I 7 0 3) = 0) = true then some (.inl (some (vi 0)), MX I J T) else some (.inl (some (vi 1)), MX I J T)) else ret9 (den (d + 1) 21) 21 59 62 [some (vr 7 0), some (vi x1), some (vi x2)] [] (cal d 26 [vr 8 0] (MX I J T)))))).trans (by simp only [ite_dec])
set_option maxRecDepth 100000 in
theorem b21_62 (d : Nat) (x1 : Int32) (x2 : Int32) (I : PI) (J : PJ) (T : TL) : den (d + 1) 21 62 [some (vr 7 0), some (vi x1), some (vi x2)] [] (MX I J T) = ret9 (den (d + 1) 21) 21 63 66 [some (vr 7 0), some (vi x1), some (vi x2)] [] (cal d 32 [vr 7 0] (MX I J T)) :=
  (bx_eq [32] (d + 1) 21 2 62 _ _ _).symm.trans rfl
set_option maxRecDepth 100000 in
theorem b21_66 (d : Nat) (x1 : Int32) (x2 : Int32) (I : PI) (J : PJ) (T : TL) : den d 21 66 [some (vr 7 0), some (vi x1), some (vi x2)] [] (MX I J T) = den d 21 32 [some (vr 7 0), some (vi x1), some (vi (x2 + 1))] [] (MX I J T) :=
  (bx_eq [32] d 21 2 66 _ _ _).symm.trans rfl
-- 22 WF_Book_begin
set_option maxRecDepth 100000 in
theorem c22 (d : Nat) (b : Nat) (I : PI) (J : PJ) (T : TL) : cal d 22 [vr 1 b] (MX I J T) = some (.inl none, MX (up3 I 1 b 3 0) J T) :=
  (bx_eq [] d 22 4 0 _ _ _).symm.trans rfl
-- 23 WF_Scanner_begin
set_option maxRecDepth 100000 in
theorem c23 (d : Nat) (x1 : Int32) (I : PI) (J : PJ) (T : TL) : cal d 23 [vr 8 0, vi x1] (MX I J T) = some (.inl none, MX (up3 (up3 I 8 0 1 (max9 0 (min9 x1 500))) 8 0 2 0) J T) :=
  (bx_eq [] d 23 11 0 _ _ _).symm.trans rfl
-- 26 WF_Scanner_advance
set_option maxRecDepth 100000 in
theorem c26 (d : Nat) (I : PI) (J : PJ) (T : TL) : cal d 26 [vr 8 0] (MX I J T) = den d 26 15 [some (vr 8 0), none] [] (MX (up3 (up3 I 8 0 5 (-1)) 8 0 6 0) (up3 J 8 0 4 0) T) :=
  (bx_eq [15] d 26 9 0 _ _ _).symm.trans rfl
set_option maxRecDepth 100000 in
theorem b26_15 (d : Nat) (I : PI) (J : PJ) (T : TL) : den (d + 1) 26 15 [some (vr 8 0), none] [] (MX I J T) = (if (I 8 0 1) ≤ (I 8 0 2) then (if (I 8 0 2) < (I 8 0 1) then (if inR (I 8 0 2) 500 = true then ret9 (den (d + 1) 26) 26 84 87 [some (vr 8 0), some (vi (I 37 0 (Int32.toNatClampNeg (I 8 0 2))))] [] (cal d 27 [vi (I 37 0 (Int32.toNatClampNeg (I 8 0 2)))] (MX (up3 I 8 0 3 (I 8 0 2)) J T)) else none) else some (.inl none, MX (up3 I 8 0 3 (I 8 0 2)) J T)) else (if inR (I 8 0 2) 500 = true then (if ¬ (I 37 0 (Int32.toNatClampNeg (I 8 0 2))) = 32 then (if (I 8 0 2) < (I 8 0 1) then (if inR (I 8 0 2) 500 = true then ret9 (den (d + 1) 26) 26 84 87 [some (vr 8 0), some (vi (I 37 0 (Int32.toNatClampNeg (I 8 0 2))))] [] (cal d 27 [vi (I 37 0 (Int32.toNatClampNeg (I 8 0 2)))] (MX (up3 I 8 0 3 (I 8 0 2)) J T)) else none) else some (.inl none, MX (up3 I 8 0 3 (I 8 0 2)) J T)) else den (d + 1) 26 15 [some (vr 8 0), none] [] (MX (up3 I 8 0 2 ((I 8 0 2) + 1)) J T)) else none)) :=
  ((bx_eq [15] (d + 1) 26 29 15 _ _ _).symm.trans rfl : _ = (if decide ((I 8 0 1) ≤ (I 8 0 2)) = true then (if decide ((I 8 0 2) < (I 8 0 1)) = true then (if inR (I 8 0 2) 500 = true then ret9 (den (d + 1) 26) 26 84 87 [some (vr 8 0), some (vi (I 37 0 (Int32.toNatClampNeg (I 8 0 2))))] [] (cal d 27 [vi (I 37 0 (Int32.toNatClampNeg (I 8 0 2)))] (MX (up3 I 8 0 3 (I 8 0 2)) J T)) else none) else some (.inl none, MX (up3 I 8 0 3 (I 8 0 2)) J T)) else (if inR (I 8 0 2) 500 = true then (if decide (¬ (I 37 0 (Int32.toNatClampNeg (I 8 0 2))) = 32) = true then (if decide ((I 8 0 2) < (I 8 0 1)) = true then (if inR (I 8 0 2) 500 = true then ret9 (den (d + 1) 26) 26 84 87 [some (vr 8 0), some (vi (I 37 0 (Int32.toNatClampNeg (I 8 0 2))))] [] (cal d 27 [vi (I 37 0 (Int32.toNatClampNeg (I 8 0 2)))] (MX (up3 I 8 0 3 (I 8 0 2)) J T)) else none) else some (.inl none, MX (up3 I 8 0 3 (I 8 0 2)) J T)) else den (d + 1) 26 15 [some (vr 8 0), none] [] (MX (up3 I 8 0 2 ((I 8 0 2) + 1)) J T)) else none))).trans (by simp only [ite_dec])
set_option maxRecDepth 100000 in
theorem b26_87 (d : Nat) (x1 : Int32) (v : Int32) (I : PI) (J : PJ) (T : TL) : den (d + 1) 26 87 [some (vr 8 0), some (vi x1)] [vi v] (MX I J T) = (if v = 0 then ret9 (den (d + 1) 26) 26 98 101 [some (vr 8 0), some (vi x1)] [] (cal d 29 [vi x1] (MX I J T)) else ret9 (den (d + 1) 26) 26 91 94 [some (vr 8 0), some (vi x1)] [] (cal d 28 [vr 8 0] (MX I J T))) :=
  ((bx_eq [15] (d + 1) 26 3 87 _ _ _).symm.trans rfl : _ = (if decide (v = 0) = true then ret9 (den (d + 1) 26) 26 98 101 [some (vr 8 0), some (vi x1)] [] (cal d 29 [vi x1] (MX I J T)) else ret9 (den (d + 1) 26) 26 91 94 [some (vr 8 0), some (vi x1)] [] (cal d 28 [vr 8 0] (MX I J T)))).trans (by simp only [ite_dec])
set_option maxRecDepth 100000 in
theorem b26_94 (d : Nat) (x1 : Int32) (I : PI) (J : PJ) (T : TL) : den d 26 94 [some (vr 8 0), some (vi x1)] [] (MX I J T) = some (.inl none, MX I J T) :=
  (bx_eq [15] d 26 2 94 _ _ _).symm.trans rfl
set_option maxRecDepth 100000 in
theorem b26_101 (d : Nat) (x1 : Int32) (v : Int32) (I : PI) (J : PJ) (T : TL) : den (d + 1) 26 101 [some (vr 8 0), some (vi x1)] [vi v] (MX I J T) = (if v = 0 then ret9 (den (d + 1) 26) 26 112 115 [some (vr 8 0), some (vi x1)] [] (cal d 31 [vi x1] (MX I J T)) else ret9 (den (d + 1) 26) 26 105 108 [some (vr 8 0), some (vi x1)] [] (cal d 30 [vr 8 0] (MX I J T))) :=
  ((bx_eq [15] (d + 1) 26 3 101 _ _ _).symm.trans rfl : _ = (if decide (v = 0) = true then ret9 (den (d + 1) 26) 26 112 115 [some (vr 8 0), some (vi x1)] [] (cal d 31 [vi x1] (MX I J T)) else ret9 (den (d + 1) 26) 26 105 108 [some (vr 8 0), some (vi x1)] [] (cal d 30 [vr 8 0] (MX I J T)))).trans (by simp only [ite_dec])
set_option maxRecDepth 100000 in
theorem b26_108 (d : Nat) (x1 : Int32) (I : PI) (J : PJ) (T : TL) : den d 26 108 [some (vr 8 0), some (vi x1)] [] (MX I J T) = some (.inl none, MX I J T) :=
  (bx_eq [15] d 26 2 108 _ _ _).symm.trans rfl
set_option maxRecDepth 100000 in
theorem b26_115 (d : Nat) (x1 : Int32) (v : Int32) (I : PI) (J : PJ) (T : TL) : den d 26 115 [some (vr 8 0), some (vi x1)] [vi v] (MX I J T) = (if v = 0 then some (.inl none, MX I J T) else some (.inl none, MX (up3 (up3 I 8 0 6 x1) 8 0 2 ((I 8 0 2) + 1)) J T)) :=
  ((bx_eq [15] d 26 11 115 _ _ _).symm.trans rfl : _ = (if decide (v = 0) = true then some (.inl none, MX I J T) else some (.inl none, MX (up3 (up3 I 8 0 6 x1) 8 0 2 ((I 8 0 2) + 1)) J T))).trans (by simp only [ite_dec])
-- 27 WF_Scanner_isLetter
set_option maxRecDepth 100000 in
theorem c27 (d : Nat) (x0 : Int32) (I : PI) (J : PJ) (T : TL) : cal d 27 [vi x0] (MX I J T) = (if x0 < 97 then some (.inl (some (vi 0)), MX I J T) else (if 122 < x0 then some (.inl (some (vi 0)), MX I J T) else some (.inl (some (vi 1)), MX I J T))) :=
  ((bx_eq [] d 27 9 0 _ _ _).symm.trans rfl : _ = (if decide (x0 < 97) = true then some (.inl (some (vi 0)), MX I J T) else (if decide (122 < x0) = true then some (.inl (some (vi 0)), MX I J T) else some (.inl (some (vi 1)), MX I J T)))).trans (by simp only [ite_dec])
-- 28 WF_Scanner_readWord
set_option maxRecDepth 100000 in
theorem c28 (d : Nat) (I : PI) (J : PJ) (T : TL) : cal d 28 [vr 8 0] (MX I J T) = den d 28 2 [some (vr 8 0), some (vl 0), none] [] (MX I J T) :=
  (bx_eq [2] d 28 2 0 _ _ _).symm.trans rfl
set_option maxRecDepth 100000 in
theorem b28_2 (d : Nat) (y1 : Int64) (I : PI) (J : PJ) (T : TL) : den (d + 1) 28 2 [some (vr 8 0), some (vl y1), none] [] (MX I J T) = (if (I 8 0 1) ≤ (I 8 0 2) then (if 8 < ((I 8 0 2) - (I 8 0 3)) then some (.inl none, MX I (up3 J 8 0 4 0) T) else some (.inl none, MX I (up3 J 8 0 4 y1) T)) else (if inR (I 8 0 2) 500 = true then ret9 (den (d + 1) 28) 28 22 25 [some (vr 8 0), some (vl y1), none] [] (cal d 27 [vi (I 37 0 (Int32.toNatClampNeg (I 8 0 2)))] (MX I J T)) else none)) :=
  ((bx_eq [2] (d + 1) 28 17 2 _ _ _).symm.trans rfl : _ = (if decide ((I 8 0 1) ≤ (I 8 0 2)) = true then (if decide (8 < ((I 8 0 2) - (I 8 0 3))) = true then some (.inl none, MX I (up3 J 8 0 4 0) T) else some (.inl none, MX I (up3 J 8 0 4 y1) T)) else (if inR (I 8 0 2) 500 = true then ret9 (den (d + 1) 28) 28 22 25 [some (vr 8 0), some (vl y1), none] [] (cal d 27 [vi (I 37 0 (Int32.toNatClampNeg (I 8 0 2)))] (MX I J T)) else none))).trans (by simp only [ite_dec])
set_option maxRecDepth 100000 in
theorem b28_25 (d : Nat) (y1 : Int64) (v : Int32) (I : PI) (J : PJ) (T : TL) : den d 28 25 [some (vr 8 0), some (vl y1), none] [vi v] (MX I J T) = (if v = 0 then (if 8 < ((I 8 0 2) - (I 8 0 3)) then some (.inl none, MX I (up3 J 8 0 4 0) T) else some (.inl none, MX I (up3 J 8 0 4 y1) T)) else (if inR (I 8 0 2) 500 = true then den d 28 2 [some (vr 8 0), some (vl ((lsh9 y1 8) ||| (Int32.toInt64 (I 37 0 (Int32.toNatClampNeg (I 8 0 2)))))), none] [] (MX (up3 I 8 0 2 ((I 8 0 2) + 1)) J T) else none)) :=
  ((bx_eq [2] d 28 19 25 _ _ _).symm.trans rfl : _ = (if decide (v = 0) = true then (if decide (8 < ((I 8 0 2) - (I 8 0 3))) = true then some (.inl none, MX I (up3 J 8 0 4 0) T) else some (.inl none, MX I (up3 J 8 0 4 y1) T)) else (if inR (I 8 0 2) 500 = true then den d 28 2 [some (vr 8 0), some (vl ((lsh9 y1 8) ||| (Int32.toInt64 (I 37 0 (Int32.toNatClampNeg (I 8 0 2)))))), none] [] (MX (up3 I 8 0 2 ((I 8 0 2) + 1)) J T) else none))).trans (by simp only [ite_dec])
-- 29 WF_Scanner_isDigit
set_option maxRecDepth 100000 in
theorem c29 (d : Nat) (x0 : Int32) (I : PI) (J : PJ) (T : TL) : cal d 29 [vi x0] (MX I J T) = (if x0 < 48 then some (.inl (some (vi 0)), MX I J T) else (if 57 < x0 then some (.inl (some (vi 0)), MX I J T) else some (.inl (some (vi 1)), MX I J T))) :=
  ((bx_eq [] d 29 9 0 _ _ _).symm.trans rfl : _ = (if decide (x0 < 48) = true then some (.inl (some (vi 0)), MX I J T) else (if decide (57 < x0) = true then some (.inl (some (vi 0)), MX I J T) else some (.inl (some (vi 1)), MX I J T)))).trans (by simp only [ite_dec])
-- 30 WF_Scanner_readWhole
set_option maxRecDepth 100000 in
theorem c30 (d : Nat) (I : PI) (J : PJ) (T : TL) : cal d 30 [vr 8 0] (MX I J T) = den d 30 2 [some (vr 8 0), some (vi 0)] [] (MX I J T) :=
  (bx_eq [2] d 30 2 0 _ _ _).symm.trans rfl
set_option maxRecDepth 100000 in
theorem b30_2 (d : Nat) (x1 : Int32) (I : PI) (J : PJ) (T : TL) : den (d + 1) 30 2 [some (vr 8 0), some (vi x1)] [] (MX I J T) = (if (I 8 0 1) ≤ (I 8 0 2) then (if 3 < ((I 8 0 2) - (I 8 0 3)) then some (.inl none, MX (up3 I 8 0 5 (-1)) J T) else some (.inl none, MX (up3 I 8 0 5 x1) J T)) else (if inR (I 8 0 2) 500 = true then ret9 (den (d + 1) 30) 30 22 25 [some (vr 8 0), some (vi x1)] [] (cal d 29 [vi (I 37 0 (Int32.toNatClampNeg (I 8 0 2)))] (MX I J T)) else none)) :=
  ((bx_eq [2] (d + 1) 30 17 2 _ _ _).symm.trans rfl : _ = (if decide ((I 8 0 1) ≤ (I 8 0 2)) = true then (if decide (3 < ((I 8 0 2) - (I 8 0 3))) = true then some (.inl none, MX (up3 I 8 0 5 (-1)) J T) else some (.inl none, MX (up3 I 8 0 5 x1) J T)) else (if inR (I 8 0 2) 500 = true then ret9 (den (d + 1) 30) 30 22 25 [some (vr 8 0), some (vi x1)] [] (cal d 29 [vi (I 37 0 (Int32.toNatClampNeg (I 8 0 2)))] (MX I J T)) else none))).trans (by simp only [ite_dec])
set_option maxRecDepth 100000 in
theorem b30_25 (d : Nat) (x1 : Int32) (v : Int32) (I : PI) (J : PJ) (T : TL) : den d 30 25 [some (vr 8 0), some (vi x1)] [vi v] (MX I J T) = (if v = 0 then (if 3 < ((I 8 0 2) - (I 8 0 3)) then some (.inl none, MX (up3 I 8 0 5 (-1)) J T) else some (.inl none, MX (up3 I 8 0 5 x1) J T)) else (if inR (I 8 0 2) 500 = true then den d 30 2 [some (vr 8 0), some (vi ((x1 * 10) + ((I 37 0 (Int32.toNatClampNeg (I 8 0 2))) - 48)))] [] (MX (up3 I 8 0 2 ((I 8 0 2) + 1)) J T) else none)) :=
  ((bx_eq [2] d 30 20 25 _ _ _).symm.trans rfl : _ = (if decide (v = 0) = true then (if decide (3 < ((I 8 0 2) - (I 8 0 3))) = true then some (.inl none, MX (up3 I 8 0 5 (-1)) J T) else some (.inl none, MX (up3 I 8 0 5 x1) J T)) else (if inR (I 8 0 2) 500 = true then den d 30 2 [some (vr 8 0), some (vi ((x1 * 10) + ((I 37 0 (Int32.toNatClampNeg (I 8 0 2))) - 48)))] [] (MX (up3 I 8 0 2 ((I 8 0 2) + 1)) J T) else none))).trans (by simp only [ite_dec])
-- 31 WF_Scanner_isSign
set_option maxRecDepth 100000 in
theorem c31 (d : Nat) (x0 : Int32) (I : PI) (J : PJ) (T : TL) : cal d 31 [vi x0] (MX I J T) = (if x0 = 59 then some (.inl (some (vi 1)), MX I J T) else (if x0 = 44 then some (.inl (some (vi 1)), MX I J T) else (if x0 = 43 then some (.inl (some (vi 1)), MX I J T) else (if x0 = 45 then some (.inl (some (vi 1)), MX I J T) else (if x0 = 42 then some (.inl (some (vi 1)), MX I J T) else (if x0 = 40 then some (.inl (some (vi 1)), MX I J T) else (if ¬ x0 = 41 then some (.inl (some (vi 0)), MX I J T) else some (.inl (some (vi 1)), MX I J T)))))))) :=
  ((bx_eq [] d 31 24 0 _ _ _).symm.trans rfl : _ = (if decide (x0 = 59) = true then some (.inl (some (vi 1)), MX I J T) else (if decide (x0 = 44) = true then some (.inl (some (vi 1)), MX I J T) else (if decide (x0 = 43) = true then some (.inl (some (vi 1)), MX I J T) else (if decide (x0 = 45) = true then some (.inl (some (vi 1)), MX I J T) else (if decide (x0 = 42) = true then some (.inl (some (vi 1)), MX I J T) else (if decide (x0 = 40) = true then some (.inl (some (vi 1)), MX I J T) else (if decide (¬ x0 = 41) = true then some (.inl (some (vi 0)), MX I J T) else some (.inl (some (vi 1)), MX I J T))))))))).trans (by simp only [ite_dec])
-- 32 WF_Reader_takeToken
set_option maxRecDepth 100000 in
theorem c32 (d : Nat) (I : PI) (J : PJ) (T : TL) : cal (d + 1) 32 [vr 7 0] (MX I J T) = (if (I 7 0 5) = 0 then (if ¬ (lg_cmp (J 8 0 4) 478745093490) = 0 then ret9 (den (d + 1) 32) 32 61 64 [some (vr 7 0)] [] (cal d 33 [vr 7 0, vi 0, vi 1] (MX I J T)) else ret9 (den (d + 1) 32) 32 61 64 [some (vr 7 0)] [] (cal d 33 [vr 7 0, vi 1, vi 1] (MX I J T))) else (if (I 7 0 5) = 1 then ret9 (den (d + 1) 32) 32 68 71 [some (vr 7 0)] [] (cal d 35 [vr 7 0] (MX I J T)) else (if (I 7 0 5) = 2 then (if ¬ (lg_cmp (J 8 0 4) 512970880104) = 0 then ret9 (den (d + 1) 32) 32 95 98 [some (vr 7 0)] [] (cal d 33 [vr 7 0, vi 0, vi 3] (MX I J T)) else ret9 (den (d + 1) 32) 32 95 98 [some (vr 7 0)] [] (cal d 33 [vr 7 0, vi 1, vi 3] (MX I J T))) else (if (I 7 0 5) = 3 then ret9 (den (d + 1) 32) 32 102 105 [some (vr 7 0)] [] (cal d 40 [vr 7 0] (MX I J T)) else (if (I 7 0 5) = 4 then ret9 (den (d + 1) 32) 32 109 112 [some (vr 7 0)] [] (cal d 44 [vr 7 0] (MX I J T)) else ret9 (den (d + 1) 32) 32 116 119 [some (vr 7 0)] [] (cal d 45 [vr 7 0] (MX I J T))))))) :=
  ((bx_eq [] (d + 1) 32 14 0 _ _ _).symm.trans rfl : _ = (if (I 7 0 5) = 0 then (if decide (¬ (lg_cmp (J 8 0 4) 478745093490) = 0) = true then ret9 (den (d + 1) 32) 32 61 64 [some (vr 7 0)] [] (cal d 33 [vr 7 0, vi 0, vi 1] (MX I J T)) else ret9 (den (d + 1) 32) 32 61 64 [some (vr 7 0)] [] (cal d 33 [vr 7 0, vi 1, vi 1] (MX I J T))) else (if (I 7 0 5) = 1 then ret9 (den (d + 1) 32) 32 68 71 [some (vr 7 0)] [] (cal d 35 [vr 7 0] (MX I J T)) else (if (I 7 0 5) = 2 then (if decide (¬ (lg_cmp (J 8 0 4) 512970880104) = 0) = true then ret9 (den (d + 1) 32) 32 95 98 [some (vr 7 0)] [] (cal d 33 [vr 7 0, vi 0, vi 3] (MX I J T)) else ret9 (den (d + 1) 32) 32 95 98 [some (vr 7 0)] [] (cal d 33 [vr 7 0, vi 1, vi 3] (MX I J T))) else (if (I 7 0 5) = 3 then ret9 (den (d + 1) 32) 32 102 105 [some (vr 7 0)] [] (cal d 40 [vr 7 0] (MX I J T)) else (if (I 7 0 5) = 4 then ret9 (den (d + 1) 32) 32 109 112 [some (vr 7 0)] [] (cal d 44 [vr 7 0] (MX I J T)) else ret9 (den (d + 1) 32) 32 116 119 [some (vr 7 0)] [] (cal d 45 [vr 7 0] (MX I J T)))))))).trans (by simp only [ite_dec])
set_option maxRecDepth 100000 in
theorem b32_64 (d : Nat) (I : PI) (J : PJ) (T : TL) : den d 32 64 [some (vr 7 0)] [] (MX I J T) = some (.inl none, MX I J T) :=
  (bx_eq [] d 32 2 64 _ _ _).symm.trans rfl
set_option maxRecDepth 100000 in
theorem b32_71 (d : Nat) (I : PI) (J : PJ) (T : TL) : den d 32 71 [some (vr 7 0)] [] (MX I J T) = some (.inl none, MX I J T) :=
  (bx_eq [] d 32 2 71 _ _ _).symm.trans rfl
set_option maxRecDepth 100000 in
theorem b32_98 (d : Nat) (I : PI) (J : PJ) (T : TL) : den d 32 98 [some (vr 7 0)] [] (MX I J T) = some (.inl none, MX I J T) :=
  (bx_eq [] d 32 2 98 _ _ _).symm.trans rfl
set_option maxRecDepth 100000 in
theorem b32_105 (d : Nat) (I : PI) (J : PJ) (T : TL) : den d 32 105 [some (vr 7 0)] [] (MX I J T) = some (.inl none, MX I J T) :=
  (bx_eq [] d 32 2 105 _ _ _).symm.trans rfl
set_option maxRecDepth 100000 in
theorem b32_112 (d : Nat) (I : PI) (J : PJ) (T : TL) : den d 32 112 [some (vr 7 0)] [] (MX I J T) = some (.inl none, MX I J T) :=
  (bx_eq [] d 32 2 112 _ _ _).symm.trans rfl
set_option maxRecDepth 100000 in
theorem b32_119 (d : Nat) (I : PI) (J : PJ) (T : TL) : den d 32 119 [some (vr 7 0)] [] (MX I J T) = some (.inl none, MX I J T) :=
  (bx_eq [] d 32 1 119 _ _ _).symm.trans rfl
-- 33 WF_Reader_goOn
set_option maxRecDepth 100000 in
theorem c33 (d : Nat) (x1 : Int32) (x2 : Int32) (I : PI) (J : PJ) (T : TL) : cal (d + 1) 33 [vr 7 0, vi x1, vi x2] (MX I J T) = (if x1 = 0 then ret9 (den (d + 1) 33) 33 14 17 [some (vr 7 0), some (vi x1), some (vi x2)] [] (cal d 34 [vr 7 0, vi 1] (MX I J T)) else some (.inl none, MX (up3 I 7 0 5 x2) J T)) :=
  ((bx_eq [] (d + 1) 33 7 0 _ _ _).symm.trans rfl : _ = (if decide (x1 = 0) = true then ret9 (den (d + 1) 33) 33 14 17 [some (vr 7 0), some (vi x1), some (vi x2)] [] (cal d 34 [vr 7 0, vi 1] (MX I J T)) else some (.inl none, MX (up3 I 7 0 5 x2) J T))).trans (by simp only [ite_dec])
set_option maxRecDepth 100000 in
theorem b33_17 (d : Nat) (x1 : Int32) (x2 : Int32) (I : PI) (J : PJ) (T : TL) : den d 33 17 [some (vr 7 0), some (vi x1), some (vi x2)] [] (MX I J T) = some (.inl none, MX I J T) :=
  (bx_eq [] d 33 1 17 _ _ _).symm.trans rfl
-- 34 WF_Reader_fail
set_option maxRecDepth 100000 in
theorem c34 (d : Nat) (x1 : Int32) (I : PI) (J : PJ) (T : TL) : cal d 34 [vr 7 0, vi x1] (MX I J T) = some (.inl none, MX (up3 (up3 I 7 0 3 x1) 7 0 4 (I 8 0 3)) J T) :=
  (bx_eq [] d 34 9 0 _ _ _).symm.trans rfl
-- 35 WF_Reader_takeName
set_option maxRecDepth 100000 in
theorem c35 (d : Nat) (I : PI) (J : PJ) (T : TL) : cal d 35 [vr 7 0] (MX I J T) = den d 35 8 [some (vr 7 0), some (vl (J 8 0 4)), none] [] (MX I J T) :=
  (bx_eq [8, 14, 22, 30, 38, 123] d 35 4 0 _ _ _).symm.trans rfl
set_option maxRecDepth 100000 in
theorem b35_8 (d : Nat) (y1 : Int64) (I : PI) (J : PJ) (T : TL) : den d 35 8 [some (vr 7 0), some (vl y1), none] [] (MX I J T) = (if (lg_cmp y1 0) = 0 then den d 35 38 [some (vr 7 0), some (vl y1), none] [] (MX I J T) else den d 35 14 [some (vr 7 0), some (vl y1), none] [] (MX I J T)) :=
  ((bx_eq [8, 14, 22, 30, 38, 123] d 35 4 8 _ _ _).symm.trans rfl : _ = (if decide ((lg_cmp y1 0) = 0) = true then den d 35 38 [some (vr 7 0), some (vl y1), none] [] (MX I J T) else den d 35 14 [some (vr 7 0), some (vl y1), none] [] (MX I J T))).trans (by simp only [ite_dec])
set_option maxRecDepth 100000 in
theorem b35_14 (d : Nat) (y1 : Int64) (I : PI) (J : PJ) (T : TL) : den d 35 14 [some (vr 7 0), some (vl y1), none] [] (MX I J T) = (if (lg_cmp y1 478745093490) = 0 then den d 35 38 [some (vr 7 0), some (vl y1), none] [] (MX I J T) else den d 35 22 [some (vr 7 0), some (vl y1), none] [] (MX I J T)) :=
  ((bx_eq [8, 14, 22, 30, 38, 123] d 35 4 14 _ _ _).symm.trans rfl : _ = (if decide ((lg_cmp y1 478745093490) = 0) = true then den d 35 38 [some (vr 7 0), some (vl y1), none] [] (MX I J T) else den d 35 22 [some (vr 7 0), some (vl y1), none] [] (MX I J T))).trans (by simp only [ite_dec])
set_option maxRecDepth 100000 in
theorem b35_22 (d : Nat) (y1 : Int64) (I : PI) (J : PJ) (T : TL) : den d 35 22 [some (vr 7 0), some (vl y1), none] [] (MX I J T) = (if (lg_cmp y1 512970880104) = 0 then den d 35 38 [some (vr 7 0), some (vl y1), none] [] (MX I J T) else den d 35 30 [some (vr 7 0), some (vl y1), none] [] (MX I J T)) :=
  ((bx_eq [8, 14, 22, 30, 38, 123] d 35 4 22 _ _ _).symm.trans rfl : _ = (if decide ((lg_cmp y1 512970880104) = 0) = true then den d 35 38 [some (vr 7 0), some (vl y1), none] [] (MX I J T) else den d 35 30 [some (vr 7 0), some (vl y1), none] [] (MX I J T))).trans (by simp only [ite_dec])
set_option maxRecDepth 100000 in
theorem b35_30 (d : Nat) (y1 : Int64) (I : PI) (J : PJ) (T : TL) : den (d + 1) 35 30 [some (vr 7 0), some (vl y1), none] [] (MX I J T) = ret9 (den (d + 1) 35) 35 31 34 [some (vr 7 0), some (vl y1), none] [] (cal d 36 [vl y1] (MX I J T)) :=
  (bx_eq [8, 14, 22, 30, 38, 123] (d + 1) 35 2 30 _ _ _).symm.trans rfl
set_option maxRecDepth 100000 in
theorem b35_34 (d : Nat) (y1 : Int64) (v : Int32) (I : PI) (J : PJ) (T : TL) : den (d + 1) 35 34 [some (vr 7 0), some (vl y1), none] [vi v] (MX I J T) = (if v = (-1) then ret9 (den (d + 1) 35) 35 48 51 [some (vr 7 0), some (vl y1), none] [] (cal d 37 [vr 7 0, vl y1] (MX I J T)) else den (d + 1) 35 38 [some (vr 7 0), some (vl y1), none] [] (MX I J T)) :=
  ((bx_eq [8, 14, 22, 30, 38, 123] (d + 1) 35 5 34 _ _ _).symm.trans rfl : _ = (if decide (v = (-1)) = true then ret9 (den (d + 1) 35) 35 48 51 [some (vr 7 0), some (vl y1), none] [] (cal d 37 [vr 7 0, vl y1] (MX I J T)) else den (d + 1) 35 38 [some (vr 7 0), some (vl y1), none] [] (MX I J T))).trans (by simp only [ite_dec])
set_option maxRecDepth 100000 in
theorem b35_38 (d : Nat) (y1 : Int64) (I : PI) (J : PJ) (T : TL) : den (d + 1) 35 38 [some (vr 7 0), some (vl y1), none] [] (MX I J T) = ret9 (den (d + 1) 35) 35 40 43 [some (vr 7 0), some (vl y1), none] [] (cal d 34 [vr 7 0, vi 1] (MX I J T)) :=
  (bx_eq [8, 14, 22, 30, 38, 123] (d + 1) 35 3 38 _ _ _).symm.trans rfl
set_option maxRecDepth 100000 in
theorem b35_43 (d : Nat) (y1 : Int64) (I : PI) (J : PJ) (T : TL) : den d 35 43 [some (vr 7 0), some (vl y1), none] [] (MX I J T) = den d 35 123 [some (vr 7 0), some (vl y1), none] [] (MX I J T) :=
  (bx_eq [8, 14, 22, 30, 38, 123] d 35 1 43 _ _ _).symm.trans rfl
set_option maxRecDepth 100000 in
theorem b35_51 (d : Nat) (y1 : Int64) (v : Int32) (I : PI) (J : PJ) (T : TL) : den (d + 1) 35 51 [some (vr 7 0), some (vl y1), none] [vi v] (MX I J T) = (if v = 0 then (if (I 1 T.2.1 3) < 6 then (if inR (I 1 T.2.1 3) 6 = true then ret9 (den (d + 1) 35) 35 99 102 [some (vr 7 0), some (vl y1), none] [] (cal d 38 [vr 1 T.2.1] (MX I (up3 J 42 0 (Int32.toNatClampNeg (I 1 T.2.1 3)) y1) T)) else none) else ret9 (den (d + 1) 35) 35 76 79 [some (vr 7 0), some (vl y1), none] [] (cal d 34 [vr 7 0, vi 5] (MX I J T))) else ret9 (den (d + 1) 35) 35 56 59 [some (vr 7 0), some (vl y1), none] [] (cal d 34 [vr 7 0, vi 3] (MX I J T))) :=
  ((bx_eq [8, 14, 22, 30, 38, 123] (d + 1) 35 16 51 _ _ _).symm.trans rfl : _ = (if decide (v = 0) = true then (if decide ((I 1 T.2.1 3) < 6) = true then (if inR (I 1 T.2.1 3) 6 = true then ret9 (den (d + 1) 35) 35 99 102 [some (vr 7 0), some (vl y1), none] [] (cal d 38 [vr 1 T.2.1] (MX I (up3 J 42 0 (Int32.toNatClampNeg (I 1 T.2.1 3)) y1) T)) else none) else ret9 (den (d + 1) 35) 35 76 79 [some (vr 7 0), some (vl y1), none] [] (cal d 34 [vr 7 0, vi 5] (MX I J T))) else ret9 (den (d + 1) 35) 35 56 59 [some (vr 7 0), some (vl y1), none] [] (cal d 34 [vr 7 0, vi 3] (MX I J T)))).trans (by simp only [ite_dec])
set_option maxRecDepth 100000 in
theorem b35_59 (d : Nat) (y1 : Int64) (I : PI) (J : PJ) (T : TL) : den d 35 59 [some (vr 7 0), some (vl y1), none] [] (MX I J T) = den d 35 123 [some (vr 7 0), some (vl y1), none] [] (MX I J T) :=
  (bx_eq [8, 14, 22, 30, 38, 123] d 35 1 59 _ _ _).symm.trans rfl
set_option maxRecDepth 100000 in
theorem b35_79 (d : Nat) (y1 : Int64) (I : PI) (J : PJ) (T : TL) : den d 35 79 [some (vr 7 0), some (vl y1), none] [] (MX I J T) = den d 35 123 [some (vr 7 0), some (vl y1), none] [] (MX I J T) :=
  (bx_eq [8, 14, 22, 30, 38, 123] d 35 1 79 _ _ _).symm.trans rfl
set_option maxRecDepth 100000 in
theorem b35_102 (d : Nat) (y1 : Int64) (I : PI) (J : PJ) (T : TL) : den (d + 1) 35 102 [some (vr 7 0), some (vl y1), none] [] (MX I J T) = ret9 (den (d + 1) 35) 35 115 118 [some (vr 7 0), some (vl y1), none] [] (cal d 39 [vr 7 0, vi (-1), vi 0] (MX (up3 (up3 I 7 0 6 0) 7 0 12 0) J T)) :=
  (bx_eq [8, 14, 22, 30, 38, 123] (d + 1) 35 10 102 _ _ _).symm.trans rfl
set_option maxRecDepth 100000 in
theorem b35_118 (d : Nat) (y1 : Int64) (I : PI) (J : PJ) (T : TL) : den d 35 118 [some (vr 7 0), some (vl y1), none] [] (MX I J T) = den d 35 123 [some (vr 7 0), some (vl y1), none] [] (MX (up3 I 7 0 5 2) J T) :=
  (bx_eq [8, 14, 22, 30, 38, 123] d 35 3 118 _ _ _).symm.trans rfl
set_option maxRecDepth 100000 in
theorem b35_123 (d : Nat) (y1 : Int64) (I : PI) (J : PJ) (T : TL) : den d 35 123 [some (vr 7 0), some (vl y1), none] [] (MX I J T) = some (.inl none, MX I J T) :=
  (bx_eq [8, 14, 22, 30, 38, 123] d 35 1 123 _ _ _).symm.trans rfl
-- 36 WF_Reader_stepOf
set_option maxRecDepth 100000 in
theorem c36 (d : Nat) (y0 : Int64) (I : PI) (J : PJ) (T : TL) : cal d 36 [vl y0] (MX I J T) = (if ¬ (lg_cmp y0 1936681324) = 0 then (if ¬ (lg_cmp y0 7824756) = 0 then (if ¬ (lg_cmp y0 6709618) = 0 then (if ¬ (lg_cmp y0 512736126322) = 0 then (if ¬ (lg_cmp y0 465557353332) = 0 then (if ¬ (lg_cmp y0 1836020596) = 0 then some (.inl (some (vi (-1))), MX I J T) else some (.inl (some (vi 108)), MX I J T)) else some (.inl (some (vi 107)), MX I J T)) else some (.inl (some (vi 103)), MX I J T)) else some (.inl (some (vi 102)), MX I J T)) else some (.inl (some (vi 101)), MX I J T)) else some (.inl (some (vi 100)), MX I J T)) :=
  ((bx_eq [] d 36 27 0 _ _ _).symm.trans rfl : _ = (if decide (¬ (lg_cmp y0 1936681324) = 0) = true then (if decide (¬ (lg_cmp y0 7824756) = 0) = true then (if decide (¬ (lg_cmp y0 6709618) = 0) = true then (if decide (¬ (lg_cmp y0 512736126322) = 0) = true then (if decide (¬ (lg_cmp y0 465557353332) = 0) = true then (if decide (¬ (lg_cmp y0 1836020596) = 0) = true then some (.inl (some (vi (-1))), MX I J T) else some (.inl (some (vi 108)), MX I J T)) else some (.inl (some (vi 107)), MX I J T)) else some (.inl (some (vi 103)), MX I J T)) else some (.inl (some (vi 102)), MX I J T)) else some (.inl (some (vi 101)), MX I J T)) else some (.inl (some (vi 100)), MX I J T))).trans (by simp only [ite_dec])
-- 37 WF_Reader_isNameTold
set_option maxRecDepth 100000 in
theorem c37 (d : Nat) (y1 : Int64) (I : PI) (J : PJ) (T : TL) : cal d 37 [vr 7 0, vl y1] (MX I J T) = den d 37 2 [some (vr 7 0), some (vl y1), none, some (vi 0)] [] (MX I J T) :=
  (bx_eq [2] d 37 2 0 _ _ _).symm.trans rfl
set_option maxRecDepth 100000 in
theorem b37_2 (d : Nat) (y1 : Int64) (x3 : Int32) (I : PI) (J : PJ) (T : TL) : den d 37 2 [some (vr 7 0), some (vl y1), none, some (vi x3)] [] (MX I J T) = (if (I 1 T.2.1 3) ≤ x3 then some (.inl (some (vi 0)), MX I J T) else (if 6 ≤ x3 then some (.inl (some (vi 0)), MX I J T) else (if inR x3 6 = true then (if ¬ (lg_cmp (J 42 0 (Int32.toNatClampNeg x3)) y1) = 0 then den d 37 2 [some (vr 7 0), some (vl y1), none, some (vi (x3 + 1))] [] (MX I J T) else some (.inl (some (vi 1)), MX I J T)) else none))) :=
  ((bx_eq [2] d 37 17 2 _ _ _).symm.trans rfl : _ = (if decide ((I 1 T.2.1 3) ≤ x3) = true then some (.inl (some (vi 0)), MX I J T) else (if decide (6 ≤ x3) = true then some (.inl (some (vi 0)), MX I J T) else (if inR x3 6 = true then (if decide (¬ (lg_cmp (J 42 0 (Int32.toNatClampNeg x3)) y1) = 0) = true then den d 37 2 [some (vr 7 0), some (vl y1), none, some (vi (x3 + 1))] [] (MX I J T) else some (.inl (some (vi 1)), MX I J T)) else none)))).trans (by simp only [ite_dec])
-- 38 WF_Book_addOwner
set_option maxRecDepth 100000 in
theorem c38 (d : Nat) (b : Nat) (I : PI) (J : PJ) (T : TL) : cal d 38 [vr 1 b] (MX I J T) = (if 6 ≤ (I 1 b 3) then some (.inl none, MX I J T) else (if inR (I 1 b 3) 6 = true then some (.inl none, MX (up3 (up3 I 21 (5 * b) (Int32.toNatClampNeg (I 1 b 3)) 0) 1 b 3 ((I 1 b 3) + 1)) J T) else none)) :=
  ((bx_eq [] d 38 17 0 _ _ _).symm.trans rfl : _ = (if decide (6 ≤ (I 1 b 3)) = true then some (.inl none, MX I J T) else (if inR (I 1 b 3) 6 = true then some (.inl none, MX (up3 (up3 I 21 (5 * b) (Int32.toNatClampNeg (I 1 b 3)) 0) 1 b 3 ((I 1 b 3) + 1)) J T) else none))).trans (by simp only [ite_dec])
-- 39 WF_Reader_beginWorth
set_option maxRecDepth 100000 in
theorem c39 (d : Nat) (x1 : Int32) (x2 : Int32) (I : PI) (J : PJ) (T : TL) : cal d 39 [vr 7 0, vi x1, vi x2] (MX I J T) = (if inR (I 7 0 12) 6 = true then (if inR (I 7 0 12) 6 = true then (if inR (I 7 0 12) 6 = true then (if inR (I 7 0 12) 6 = true then some (.inl none, MX (up3 (up3 (up3 (up3 I 38 0 (Int32.toNatClampNeg (I 7 0 12)) 0) 21 1 (Int32.toNatClampNeg (I 7 0 12)) (-1)) 21 2 (Int32.toNatClampNeg (I 7 0 12)) x1) 38 1 (Int32.toNatClampNeg (I 7 0 12)) (x2 &&& 1)) J T) else none) else none) else none) else none) :=
  (bx_eq [] d 39 25 0 _ _ _).symm.trans rfl
-- 40 WF_Reader_takeFactor
set_option maxRecDepth 100000 in
theorem c40 (d : Nat) (I : PI) (J : PJ) (T : TL) : cal (d + 1) 40 [vr 7 0] (MX I J T) = (if (I 8 0 5) = (-1) then ret9 (den (d + 1) 40) 40 28 31 [some (vr 7 0), none] [] (cal d 36 [vl (J 8 0 4)] (MX I J T)) else (if ¬ (I 8 0 5) = (-1) then (if (I 8 0 5) ≤ 99 then (if (I 7 0 6) < 20 then ret9 (den (d + 1) 40) 40 106 109 [some (vr 7 0), some (vi (I 8 0 5))] [] (cal d 41 [vr 7 0, vi (I 8 0 5)] (MX (up3 I 7 0 6 ((I 7 0 6) + 1)) J T)) else ret9 (den (d + 1) 40) 40 88 91 [some (vr 7 0), some (vi (I 8 0 5))] [] (cal d 34 [vr 7 0, vi 5] (MX I J T))) else ret9 (den (d + 1) 40) 40 71 74 [some (vr 7 0), some (vi (I 8 0 5))] [] (cal d 34 [vr 7 0, vi 4] (MX I J T))) else (if (I 8 0 6) = 40 then (if (I 8 0 5) ≤ 99 then (if (I 7 0 6) < 20 then ret9 (den (d + 1) 40) 40 106 109 [some (vr 7 0), some (vi (I 8 0 5))] [] (cal d 41 [vr 7 0, vi (I 8 0 5)] (MX (up3 I 7 0 6 ((I 7 0 6) + 1)) J T)) else ret9 (den (d + 1) 40) 40 88 91 [some (vr 7 0), some (vi (I 8 0 5))] [] (cal d 34 [vr 7 0, vi 5] (MX I J T))) else ret9 (den (d + 1) 40) 40 71 74 [some (vr 7 0), some (vi (I 8 0 5))] [] (cal d 34 [vr 7 0, vi 4] (MX I J T))) else ret9 (den (d + 1) 40) 40 51 54 [some (vr 7 0), some (vi (I 8 0 5))] [] (cal d 34 [vr 7 0, vi 1] (MX I J T))))) :=
  ((bx_eq [] (d + 1) 40 36 0 _ _ _).symm.trans rfl : _ = (if decide ((I 8 0 5) = (-1)) = true then ret9 (den (d + 1) 40) 40 28 31 [some (vr 7 0), none] [] (cal d 36 [vl (J 8 0 4)] (MX I J T)) else (if decide (¬ (I 8 0 5) = (-1)) = true then (if decide ((I 8 0 5) ≤ 99) = true then (if decide ((I 7 0 6) < 20) = true then ret9 (den (d + 1) 40) 40 106 109 [some (vr 7 0), some (vi (I 8 0 5))] [] (cal d 41 [vr 7 0, vi (I 8 0 5)] (MX (up3 I 7 0 6 ((I 7 0 6) + 1)) J T)) else ret9 (den (d + 1) 40) 40 88 91 [some (vr 7 0), some (vi (I 8 0 5))] [] (cal d 34 [vr 7 0, vi 5] (MX I J T))) else ret9 (den (d + 1) 40) 40 71 74 [some (vr 7 0), some (vi (I 8 0 5))] [] (cal d 34 [vr 7 0, vi 4] (MX I J T))) else (if decide ((I 8 0 6) = 40) = true then (if decide ((I 8 0 5) ≤ 99) = true then (if decide ((I 7 0 6) < 20) = true then ret9 (den (d + 1) 40) 40 106 109 [some (vr 7 0), some (vi (I 8 0 5))] [] (cal d 41 [vr 7 0, vi (I 8 0 5)] (MX (up3 I 7 0 6 ((I 7 0 6) + 1)) J T)) else ret9 (den (d + 1) 40) 40 88 91 [some (vr 7 0), some (vi (I 8 0 5))] [] (cal d 34 [vr 7 0, vi 5] (MX I J T))) else ret9 (den (d + 1) 40) 40 71 74 [some (vr 7 0), some (vi (I 8 0 5))] [] (cal d 34 [vr 7 0, vi 4] (MX I J T))) else ret9 (den (d + 1) 40) 40 51 54 [some (vr 7 0), some (vi (I 8 0 5))] [] (cal d 34 [vr 7 0, vi 1] (MX I J T)))))).trans (by simp only [ite_dec])
set_option maxRecDepth 100000 in
theorem b40_31 (d : Nat) (v : Int32) (I : PI) (J : PJ) (T : TL) : den (d + 1) 40 31 [some (vr 7 0), none] [vi v] (MX I J T) = (if ¬ v = (-1) then (if (I 8 0 5) ≤ 99 then (if (I 7 0 6) < 20 then ret9 (den (d + 1) 40) 40 106 109 [some (vr 7 0), some (vi v)] [] (cal d 41 [vr 7 0, vi v] (MX (up3 I 7 0 6 ((I 7 0 6) + 1)) J T)) else ret9 (den (d + 1) 40) 40 88 91 [some (vr 7 0), some (vi v)] [] (cal d 34 [vr 7 0, vi 5] (MX I J T))) else ret9 (den (d + 1) 40) 40 71 74 [some (vr 7 0), some (vi v)] [] (cal d 34 [vr 7 0, vi 4] (MX I J T))) else (if (I 8 0 6) = 40 then (if (I 8 0 5) ≤ 99 then (if (I 7 0 6) < 20 then ret9 (den (d + 1) 40) 40 106 109 [some (vr 7 0), some (vi v)] [] (cal d 41 [vr 7 0, vi v] (MX (up3 I 7 0 6 ((I 7 0 6) + 1)) J T)) else ret9 (den (d + 1) 40) 40 88 91 [some (vr 7 0), some (vi v)] [] (cal d 34 [vr 7 0, vi 5] (MX I J T))) else ret9 (den (d + 1) 40) 40 71 74 [some (vr 7 0), some (vi v)] [] (cal d 34 [vr 7 0, vi 4] (MX I J T))) else ret9 (den (d + 1) 40) 40 51 54 [some (vr 7 0), some (vi v)] [] (cal d 34 [vr 7 0, vi 1] (MX I J T)))) :=
  ((bx_eq [] (d + 1) 40 27 31 _ _ _).symm.trans rfl : _ = (if decide (¬ v = (-1)) = true then (if decide ((I 8 0 5) ≤ 99) = true then (if decide ((I 7 0 6) < 20) = true then ret9 (den (d + 1) 40) 40 106 109 [some (vr 7 0), some (vi v)] [] (cal d 41 [vr 7 0, vi v] (MX (up3 I 7 0 6 ((I 7 0 6) + 1)) J T)) else ret9 (den (d + 1) 40) 40 88 91 [some (vr 7 0), some (vi v)] [] (cal d 34 [vr 7 0, vi 5] (MX I J T))) else ret9 (den (d + 1) 40) 40 71 74 [some (vr 7 0), some (vi v)] [] (cal d 34 [vr 7 0, vi 4] (MX I J T))) else (if decide ((I 8 0 6) = 40) = true then (if decide ((I 8 0 5) ≤ 99) = true then (if decide ((I 7 0 6) < 20) = true then ret9 (den (d + 1) 40) 40 106 109 [some (vr 7 0), some (vi v)] [] (cal d 41 [vr 7 0, vi v] (MX (up3 I 7 0 6 ((I 7 0 6) + 1)) J T)) else ret9 (den (d + 1) 40) 40 88 91 [some (vr 7 0), some (vi v)] [] (cal d 34 [vr 7 0, vi 5] (MX I J T))) else ret9 (den (d + 1) 40) 40 71 74 [some (vr 7 0), some (vi v)] [] (cal d 34 [vr 7 0, vi 4] (MX I J T))) else ret9 (den (d + 1) 40) 40 51 54 [some (vr 7 0), some (vi v)] [] (cal d 34 [vr 7 0, vi 1] (MX I J T))))).trans (by simp only [ite_dec])
set_option maxRecDepth 100000 in
theorem b40_54 (d : Nat) (x1 : Int32) (I : PI) (J : PJ) (T : TL) : den d 40 54 [some (vr 7 0), some (vi x1)] [] (MX I J T) = some (.inl none, MX I J T) :=
  (bx_eq [] d 40 2 54 _ _ _).symm.trans rfl
set_option maxRecDepth 100000 in
theorem b40_74 (d : Nat) (x1 : Int32) (I : PI) (J : PJ) (T : TL) : den d 40 74 [some (vr 7 0), some (vi x1)] [] (MX I J T) = some (.inl none, MX I J T) :=
  (bx_eq [] d 40 2 74 _ _ _).symm.trans rfl
set_option maxRecDepth 100000 in
theorem b40_91 (d : Nat) (x1 : Int32) (I : PI) (J : PJ) (T : TL) : den d 40 91 [some (vr 7 0), some (vi x1)] [] (MX I J T) = some (.inl none, MX I J T) :=
  (bx_eq [] d 40 2 91 _ _ _).symm.trans rfl
set_option maxRecDepth 100000 in
theorem b40_109 (d : Nat) (x1 : Int32) (I : PI) (J : PJ) (T : TL) : den d 40 109 [some (vr 7 0), some (vi x1)] [] (MX I J T) = some (.inl none, MX I J T) :=
  (bx_eq [] d 40 1 109 _ _ _).symm.trans rfl
-- 41 WF_Reader_beginFactor
set_option maxRecDepth 100000 in
theorem c41 (d : Nat) (x1 : Int32) (I : PI) (J : PJ) (T : TL) : cal (d + 1) 41 [vr 7 0, vi x1] (MX I J T) = (if ¬ x1 = (-1) then (if x1 = 107 then some (.inl none, MX (up3 (up3 I 7 0 7 x1) 7 0 5 4) J T) else (if ¬ x1 = 108 then ret9 (den (d + 1) 41) 41 43 46 [some (vr 7 0), some (vi x1)] [] (cal d 43 [vr 1 T.2.1, vi x1] (MX I J T)) else some (.inl none, MX (up3 (up3 I 7 0 7 x1) 7 0 5 4) J T))) else ret9 (den (d + 1) 41) 41 7 10 [some (vr 7 0), some (vi x1)] [] (cal d 42 [vr 7 0, vi (-1)] (MX I J T))) :=
  ((bx_eq [] (d + 1) 41 17 0 _ _ _).symm.trans rfl : _ = (if decide (¬ x1 = (-1)) = true then (if decide (x1 = 107) = true then some (.inl none, MX (up3 (up3 I 7 0 7 x1) 7 0 5 4) J T) else (if decide (¬ x1 = 108) = true then ret9 (den (d + 1) 41) 41 43 46 [some (vr 7 0), some (vi x1)] [] (cal d 43 [vr 1 T.2.1, vi x1] (MX I J T)) else some (.inl none, MX (up3 (up3 I 7 0 7 x1) 7 0 5 4) J T))) else ret9 (den (d + 1) 41) 41 7 10 [some (vr 7 0), some (vi x1)] [] (cal d 42 [vr 7 0, vi (-1)] (MX I J T)))).trans (by simp only [ite_dec])
set_option maxRecDepth 100000 in
theorem b41_10 (d : Nat) (x1 : Int32) (I : PI) (J : PJ) (T : TL) : den d 41 10 [some (vr 7 0), some (vi x1)] [] (MX I J T) = some (.inl none, MX I J T) :=
  (bx_eq [] d 41 2 10 _ _ _).symm.trans rfl
set_option maxRecDepth 100000 in
theorem b41_46 (d : Nat) (x1 : Int32) (I : PI) (J : PJ) (T : TL) : den d 41 46 [some (vr 7 0), some (vi x1)] [] (MX I J T) = some (.inl none, MX (up3 I 7 0 5 5) J T) :=
  (bx_eq [] d 41 4 46 _ _ _).symm.trans rfl
-- 42 WF_Reader_openWorth
set_option maxRecDepth 100000 in
theorem c42 (d : Nat) (x1 : Int32) (I : PI) (J : PJ) (T : TL) : cal (d + 1) 42 [vr 7 0, vi x1] (MX I J T) = (if (I 7 0 12) < 5 then (if x1 = (-1) then ret9 (den (d + 1) 42) 42 38 41 [some (vr 7 0), some (vi x1)] [] (cal d 39 [vr 7 0, vi x1, vi 0] (MX (up3 I 7 0 12 ((I 7 0 12) + 1)) J T)) else ret9 (den (d + 1) 42) 42 38 41 [some (vr 7 0), some (vi x1)] [] (cal d 39 [vr 7 0, vi x1, vi 1] (MX (up3 I 7 0 12 ((I 7 0 12) + 1)) J T))) else ret9 (den (d + 1) 42) 42 10 13 [some (vr 7 0), some (vi x1)] [] (cal d 34 [vr 7 0, vi 5] (MX I J T))) :=
  ((bx_eq [] (d + 1) 42 18 0 _ _ _).symm.trans rfl : _ = (if decide ((I 7 0 12) < 5) = true then (if decide (x1 = (-1)) = true then ret9 (den (d + 1) 42) 42 38 41 [some (vr 7 0), some (vi x1)] [] (cal d 39 [vr 7 0, vi x1, vi 0] (MX (up3 I 7 0 12 ((I 7 0 12) + 1)) J T)) else ret9 (den (d + 1) 42) 42 38 41 [some (vr 7 0), some (vi x1)] [] (cal d 39 [vr 7 0, vi x1, vi 1] (MX (up3 I 7 0 12 ((I 7 0 12) + 1)) J T))) else ret9 (den (d + 1) 42) 42 10 13 [some (vr 7 0), some (vi x1)] [] (cal d 34 [vr 7 0, vi 5] (MX I J T)))).trans (by simp only [ite_dec])
set_option maxRecDepth 100000 in
theorem b42_13 (d : Nat) (x1 : Int32) (I : PI) (J : PJ) (T : TL) : den d 42 13 [some (vr 7 0), some (vi x1)] [] (MX I J T) = some (.inl none, MX I J T) :=
  (bx_eq [] d 42 2 13 _ _ _).symm.trans rfl
set_option maxRecDepth 100000 in
theorem b42_41 (d : Nat) (x1 : Int32) (I : PI) (J : PJ) (T : TL) : den d 42 41 [some (vr 7 0), some (vi x1)] [] (MX I J T) = some (.inl none, MX (up3 I 7 0 5 3) J T) :=
  (bx_eq [] d 42 4 41 _ _ _).symm.trans rfl
-- 43 WF_Book_addStep
set_option maxRecDepth 100000 in
theorem c43 (d : Nat) (b : Nat) (x1 : Int32) (I : PI) (J : PJ) (T : TL) : cal d 43 [vr 1 b, vi x1] (MX I J T) = (if ((I 1 b 3) - 1) < 0 then some (.inl none, MX I J T) else (if 6 ≤ ((I 1 b 3) - 1) then some (.inl none, MX I J T) else (if inR ((I 1 b 3) - 1) 6 = true then (if 40 ≤ (I 21 (5 * b) (Int32.toNatClampNeg ((I 1 b 3) - 1))) then some (.inl none, MX I J T) else (if inR ((I 1 b 3) - 1) 6 = true then (if inR ((((I 1 b 3) - 1) * 40) + (I 21 (5 * b) (Int32.toNatClampNeg ((I 1 b 3) - 1)))) 240 = true then (if inR ((I 1 b 3) - 1) 6 = true then (if inR ((I 1 b 3) - 1) 6 = true then some (.inl none, MX (up3 (up3 I 31 b (Int32.toNatClampNeg ((((I 1 b 3) - 1) * 40) + (I 21 (5 * b) (Int32.toNatClampNeg ((I 1 b 3) - 1))))) x1) 21 (5 * b) (Int32.toNatClampNeg ((I 1 b 3) - 1)) ((I 21 (5 * b) (Int32.toNatClampNeg ((I 1 b 3) - 1))) + 1)) J T) else none) else none) else none) else none)) else none))) :=
  ((bx_eq [] d 43 37 0 _ _ _).symm.trans rfl : _ = (if decide (((I 1 b 3) - 1) < 0) = true then some (.inl none, MX I J T) else (if decide (6 ≤ ((I 1 b 3) - 1)) = true then some (.inl none, MX I J T) else (if inR ((I 1 b 3) - 1) 6 = true then (if decide (40 ≤ (I 21 (5 * b) (Int32.toNatClampNeg ((I 1 b 3) - 1)))) = true then some (.inl none, MX I J T) else (if inR ((I 1 b 3) - 1) 6 = true then (if inR ((((I 1 b 3) - 1) * 40) + (I 21 (5 * b) (Int32.toNatClampNeg ((I 1 b 3) - 1)))) 240 = true then (if inR ((I 1 b 3) - 1) 6 = true then (if inR ((I 1 b 3) - 1) 6 = true then some (.inl none, MX (up3 (up3 I 31 b (Int32.toNatClampNeg ((((I 1 b 3) - 1) * 40) + (I 21 (5 * b) (Int32.toNatClampNeg ((I 1 b 3) - 1))))) x1) 21 (5 * b) (Int32.toNatClampNeg ((I 1 b 3) - 1)) ((I 21 (5 * b) (Int32.toNatClampNeg ((I 1 b 3) - 1))) + 1)) J T) else none) else none) else none) else none)) else none)))).trans (by simp only [ite_dec])
-- 44 WF_Reader_takeOpen
set_option maxRecDepth 100000 in
theorem c44 (d : Nat) (I : PI) (J : PJ) (T : TL) : cal (d + 1) 44 [vr 7 0] (MX I J T) = (if ¬ (I 8 0 6) = 40 then ret9 (den (d + 1) 44) 44 25 28 [some (vr 7 0)] [] (cal d 34 [vr 7 0, vi 1] (MX I J T)) else ret9 (den (d + 1) 44) 44 17 20 [some (vr 7 0)] [] (cal d 42 [vr 7 0, vi (I 7 0 7)] (MX I J T))) :=
  ((bx_eq [] (d + 1) 44 9 0 _ _ _).symm.trans rfl : _ = (if decide (¬ (I 8 0 6) = 40) = true then ret9 (den (d + 1) 44) 44 25 28 [some (vr 7 0)] [] (cal d 34 [vr 7 0, vi 1] (MX I J T)) else ret9 (den (d + 1) 44) 44 17 20 [some (vr 7 0)] [] (cal d 42 [vr 7 0, vi (I 7 0 7)] (MX I J T)))).trans (by simp only [ite_dec])
set_option maxRecDepth 100000 in
theorem b44_20 (d : Nat) (I : PI) (J : PJ) (T : TL) : den d 44 20 [some (vr 7 0)] [] (MX I J T) = some (.inl none, MX I J T) :=
  (bx_eq [] d 44 2 20 _ _ _).symm.trans rfl
set_option maxRecDepth 100000 in
theorem b44_28 (d : Nat) (I : PI) (J : PJ) (T : TL) : den d 44 28 [some (vr 7 0)] [] (MX I J T) = some (.inl none, MX I J T) :=
  (bx_eq [] d 44 1 28 _ _ _).symm.trans rfl
-- 45 WF_Reader_takeBehindFactor
set_option maxRecDepth 100000 in
theorem c45 (d : Nat) (I : PI) (J : PJ) (T : TL) : cal (d + 1) 45 [vr 7 0] (MX I J T) = ret9 (den (d + 1) 45) 45 9 12 [some (vr 7 0), some (vi (I 8 0 6))] [] (cal d 46 [vr 7 0] (MX I J T)) :=
  (bx_eq [] (d + 1) 45 6 0 _ _ _).symm.trans rfl
set_option maxRecDepth 100000 in
theorem b45_12 (d : Nat) (x1 : Int32) (I : PI) (J : PJ) (T : TL) : den (d + 1) 45 12 [some (vr 7 0), some (vi x1)] [] (MX I J T) = (if ¬ x1 = 42 then ret9 (den (d + 1) 45) 45 35 38 [some (vr 7 0), some (vi x1)] [] (cal d 47 [vr 7 0] (MX I J T)) else (if inR (I 7 0 12) 6 = true then some (.inl none, MX (up3 (up3 I 38 0 (Int32.toNatClampNeg (I 7 0 12)) 1) 7 0 5 3) J T) else none)) :=
  ((bx_eq [] (d + 1) 45 13 12 _ _ _).symm.trans rfl : _ = (if decide (¬ x1 = 42) = true then ret9 (den (d + 1) 45) 45 35 38 [some (vr 7 0), some (vi x1)] [] (cal d 47 [vr 7 0] (MX I J T)) else (if inR (I 7 0 12) 6 = true then some (.inl none, MX (up3 (up3 I 38 0 (Int32.toNatClampNeg (I 7 0 12)) 1) 7 0 5 3) J T) else none))).trans (by simp only [ite_dec])
set_option maxRecDepth 100000 in
theorem b45_38 (d : Nat) (x1 : Int32) (I : PI) (J : PJ) (T : TL) : den (d + 1) 45 38 [some (vr 7 0), some (vi x1)] [] (MX I J T) = (if x1 = 43 then (if ¬ x1 = 43 then (if inR (I 7 0 12) 6 = true then some (.inl none, MX (up3 (up3 I 21 1 (Int32.toNatClampNeg (I 7 0 12)) 105) 7 0 5 3) J T) else none) else (if inR (I 7 0 12) 6 = true then some (.inl none, MX (up3 (up3 I 21 1 (Int32.toNatClampNeg (I 7 0 12)) 104) 7 0 5 3) J T) else none)) else (if ¬ x1 = 45 then (if ¬ x1 = 44 then (if ¬ x1 = 41 then (if ¬ x1 = 59 then ret9 (den (d + 1) 45) 45 174 177 [some (vr 7 0), some (vi x1)] [vr 7 0] (cal d 49 [vr 8 0] (MX I J T)) else (if ¬ (I 7 0 12) = 0 then ret9 (den (d + 1) 45) 45 174 177 [some (vr 7 0), some (vi x1)] [vr 7 0] (cal d 49 [vr 8 0] (MX I J T)) else some (.inl none, MX (up3 I 7 0 5 0) J T))) else (if (I 7 0 12) ≤ 0 then (if ¬ x1 = 59 then ret9 (den (d + 1) 45) 45 174 177 [some (vr 7 0), some (vi x1)] [vr 7 0] (cal d 49 [vr 8 0] (MX I J T)) else (if ¬ (I 7 0 12) = 0 then ret9 (den (d + 1) 45) 45 174 177 [some (vr 7 0), some (vi x1)] [vr 7 0] (cal d 49 [vr 8 0] (MX I J T)) else some (.inl none, MX (up3 I 7 0 5 0) J T))) else (if inR (I 7 0 12) 6 = true then (if ¬ (I 38 1 (Int32.toNatClampNeg (I 7 0 12))) = 0 then (if ¬ x1 = 59 then ret9 (den (d + 1) 45) 45 174 177 [some (vr 7 0), some (vi x1)] [vr 7 0] (cal d 49 [vr 8 0] (MX I J T)) else (if ¬ (I 7 0 12) = 0 then ret9 (den (d + 1) 45) 45 174 177 [some (vr 7 0), some (vi x1)] [vr 7 0] (cal d 49 [vr 8 0] (MX I J T)) else some (.inl none, MX (up3 I 7 0 5 0) J T))) else ret9 (den (d + 1) 45) 45 142 145 [some (vr 7 0), some (vi x1)] [] (cal d 48 [vr 7 0] (MX I J T))) else none))) else (if inR (I 7 0 12) 6 = true then (if (I 38 1 (Int32.toNatClampNeg (I 7 0 12))) = 0 then (if ¬ x1 = 41 then (if ¬ x1 = 59 then ret9 (den (d + 1) 45) 45 174 177 [some (vr 7 0), some (vi x1)] [vr 7 0] (cal d 49 [vr 8 0] (MX I J T)) else (if ¬ (I 7 0 12) = 0 then ret9 (den (d + 1) 45) 45 174 177 [some (vr 7 0), some (vi x1)] [vr 7 0] (cal d 49 [vr 8 0] (MX I J T)) else some (.inl none, MX (up3 I 7 0 5 0) J T))) else (if (I 7 0 12) ≤ 0 then (if ¬ x1 = 59 then ret9 (den (d + 1) 45) 45 174 177 [some (vr 7 0), some (vi x1)] [vr 7 0] (cal d 49 [vr 8 0] (MX I J T)) else (if ¬ (I 7 0 12) = 0 then ret9 (den (d + 1) 45) 45 174 177 [some (vr 7 0), some (vi x1)] [vr 7 0] (cal d 49 [vr 8 0] (MX I J T)) else some (.inl none, MX (up3 I 7 0 5 0) J T))) else (if inR (I 7 0 12) 6 = true then (if ¬ (I 38 1 (Int32.toNatClampNeg (I 7 0 12))) = 0 then (if ¬ x1 = 59 then ret9 (den (d + 1) 45) 45 174 177 [some (vr 7 0), some (vi x1)] [vr 7 0] (cal d 49 [vr 8 0] (MX I J T)) else (if ¬ (I 7 0 12) = 0 then ret9 (den (d + 1) 45) 45 174 177 [some (vr 7 0), some (vi x1)] [vr 7 0] (cal d 49 [vr 8 0] (MX I J T)) else some (.inl none, MX (up3 I 7 0 5 0) J T))) else ret9 (den (d + 1) 45) 45 142 145 [some (vr 7 0), some (vi x1)] [] (cal d 48 [vr 7 0] (MX I J T))) else none))) else (if inR (I 7 0 12) 6 = true then some (.inl none, MX (up3 (up3 I 38 1 (Int32.toNatClampNeg (I 7 0 12)) 0) 7 0 5 3) J T) else none)) else none)) else (if ¬ x1 = 43 then (if inR (I 7 0 12) 6 = true then some (.inl none, MX (up3 (up3 I 21 1 (Int32.toNatClampNeg (I 7 0 12)) 105) 7 0 5 3) J T) else none) else (if inR (I 7 0 12) 6 = true then some (.inl none, MX (up3 (up3 I 21 1 (Int32.toNatClampNeg (I 7 0 12)) 104) 7 0 5 3) J T) else none)))) :=
  ((bx_eq [] (d + 1) 45 38 38 _ _ _).symm.trans rfl : _ = (if decide (x1 = 43) = true then (if decide (¬ x1 = 43) = true then (if inR (I 7 0 12) 6 = true then some (.inl none, MX (up3 (up3 I 21 1 (Int32.toNatClampNeg (I 7 0 12)) 105) 7 0 5 3) J T) else none) else (if inR (I 7 0 12) 6 = true then some (.inl none, MX (up3 (up3 I 21 1 (Int32.toNatClampNeg (I 7 0 12)) 104) 7 0 5 3) J T) else none)) else (if decide (¬ x1 = 45) = true then (if decide (¬ x1 = 44) = true then (if decide (¬ x1 = 41) = true then (if decide (¬ x1 = 59) = true then ret9 (den (d + 1) 45) 45 174 177 [some (vr 7 0), some (vi x1)] [vr 7 0] (cal d 49 [vr 8 0] (MX I J T)) else (if decide (¬ (I 7 0 12) = 0) = true then ret9 (den (d + 1) 45) 45 174 177 [some (vr 7 0), some (vi x1)] [vr 7 0] (cal d 49 [vr 8 0] (MX I J T)) else some (.inl none, MX (up3 I 7 0 5 0) J T))) else (if decide ((I 7 0 12) ≤ 0) = true then (if decide (¬ x1 = 59) = true then ret9 (den (d + 1) 45) 45 174 177 [some (vr 7 0), some (vi x1)] [vr 7 0] (cal d 49 [vr 8 0] (MX I J T)) else (if decide (¬ (I 7 0 12) = 0) = true then ret9 (den (d + 1) 45) 45 174 177 [some (vr 7 0), some (vi x1)] [vr 7 0] (cal d 49 [vr 8 0] (MX I J T)) else some (.inl none, MX (up3 I 7 0 5 0) J T))) else (if inR (I 7 0 12) 6 = true then (if decide (¬ (I 38 1 (Int32.toNatClampNeg (I 7 0 12))) = 0) = true then (if decide (¬ x1 = 59) = true then ret9 (den (d + 1) 45) 45 174 177 [some (vr 7 0), some (vi x1)] [vr 7 0] (cal d 49 [vr 8 0] (MX I J T)) else (if decide (¬ (I 7 0 12) = 0) = true then ret9 (den (d + 1) 45) 45 174 177 [some (vr 7 0), some (vi x1)] [vr 7 0] (cal d 49 [vr 8 0] (MX I J T)) else some (.inl none, MX (up3 I 7 0 5 0) J T))) else ret9 (den (d + 1) 45) 45 142 145 [some (vr 7 0), some (vi x1)] [] (cal d 48 [vr 7 0] (MX I J T))) else none))) else (if inR (I 7 0 12) 6 = true then (if decide ((I 38 1 (Int32.toNatClampNeg (I 7 0 12))) = 0) = true then (if decide (¬ x1 = 41) = true then (if decide (¬ x1 = 59) = true then ret9 (den (d + 1) 45) 45 174 177 [some (vr 7 0), some (vi x1)] [vr 7 0] (cal d 49 [vr 8 0] (MX I J T)) else (if decide (¬ (I 7 0 12) = 0) = true then ret9 (den (d + 1) 45) 45 174 177 [some (vr 7 0), some (vi x1)] [vr 7 0] (cal d 49 [vr 8 0] (MX I J T)) else some (.inl none, MX (up3 I 7 0 5 0) J T))) else (if decide ((I 7 0 12) ≤ 0) = true then (if decide (¬ x1 = 59) = true then ret9 (den (d + 1) 45) 45 174 177 [some (vr 7 0), some (vi x1)] [vr 7 0] (cal d 49 [vr 8 0] (MX I J T)) else (if decide (¬ (I 7 0 12) = 0) = true then ret9 (den (d + 1) 45) 45 174 177 [some (vr 7 0), some (vi x1)] [vr 7 0] (cal d 49 [vr 8 0] (MX I J T)) else some (.inl none, MX (up3 I 7 0 5 0) J T))) else (if inR (I 7 0 12) 6 = true then (if decide (¬ (I 38 1 (Int32.toNatClampNeg (I 7 0 12))) = 0) = true then (if decide (¬ x1 = 59) = true then ret9 (den (d + 1) 45) 45 174 177 [some (vr 7 0), some (vi x1)] [vr 7 0] (cal d 49 [vr 8 0] (MX I J T)) else (if decide (¬ (I 7 0 12) = 0) = true then ret9 (den (d + 1) 45) 45 174 177 [some (vr 7 0), some (vi x1)] [vr 7 0] (cal d 49 [vr 8 0] (MX I J T)) else some (.inl none, MX (up3 I 7 0 5 0) J T))) else ret9 (den (d + 1) 45) 45 142 145 [some (vr 7 0), some (vi x1)] [] (cal d 48 [vr 7 0] (MX I J T))) else none))) else (if inR (I 7 0 12) 6 = true then some (.inl none, MX (up3 (up3 I 38 1 (Int32.toNatClampNeg (I 7 0 12)) 0) 7 0 5 3) J T) else none)) else none)) else (if decide (¬ x1 = 43) = true then (if inR (I 7 0 12) 6 = true then some (.inl none, MX (up3 (up3 I 21 1 (Int32.toNatClampNeg (I 7 0 12)) 105) 7 0 5 3) J T) else none) else (if inR (I 7 0 12) 6 = true then some (.inl none, MX (up3 (up3 I 21 1 (Int32.toNatClampNeg (I 7 0 12)) 104) 7 0 5 3) J T) else none))))).trans (by simp only [ite_dec])
set_option maxRecDepth 100000 in
theorem b45_145 (d : Nat) (x1 : Int32) (I : PI) (J : PJ) (T : TL) : den d 45 145 [some (vr 7 0), some (vi x1)] [] (MX I J T) = some (.inl none, MX I J T) :=
  (bx_eq [] d 45 2 145 _ _ _).symm.trans rfl
set_option maxRecDepth 100000 in
theorem b45_177 (d : Nat) (x1 : Int32) (v : Int32) (I : PI) (J : PJ) (T : TL) : den (d + 1) 45 177 [some (vr 7 0), some (vi x1)] [vi v, vr 7 0] (MX I J T) = (if v = 0 then ret9 (den (d + 1) 45) 45 194 197 [some (vr 7 0), some (vi x1)] [] (cal d 33 [vr 7 0, vi 0, vi 6] (MX I J T)) else (if ¬ (I 7 0 12) = 0 then ret9 (den (d + 1) 45) 45 194 197 [some (vr 7 0), some (vi x1)] [] (cal d 33 [vr 7 0, vi 0, vi 6] (MX I J T)) else ret9 (den (d + 1) 45) 45 194 197 [some (vr 7 0), some (vi x1)] [] (cal d 33 [vr 7 0, vi 1, vi 6] (MX I J T)))) :=
  ((bx_eq [] (d + 1) 45 8 177 _ _ _).symm.trans rfl : _ = (if decide (v = 0) = true then ret9 (den (d + 1) 45) 45 194 197 [some (vr 7 0), some (vi x1)] [] (cal d 33 [vr 7 0, vi 0, vi 6] (MX I J T)) else (if decide (¬ (I 7 0 12) = 0) = true then ret9 (den (d + 1) 45) 45 194 197 [some (vr 7 0), some (vi x1)] [] (cal d 33 [vr 7 0, vi 0, vi 6] (MX I J T)) else ret9 (den (d + 1) 45) 45 194 197 [some (vr 7 0), some (vi x1)] [] (cal d 33 [vr 7 0, vi 1, vi 6] (MX I J T))))).trans (by simp only [ite_dec])
set_option maxRecDepth 100000 in
theorem b45_197 (d : Nat) (x1 : Int32) (I : PI) (J : PJ) (T : TL) : den d 45 197 [some (vr 7 0), some (vi x1)] [] (MX I J T) = some (.inl none, MX I J T) :=
  (bx_eq [] d 45 1 197 _ _ _).symm.trans rfl
-- 46 WF_Reader_endFactor
set_option maxRecDepth 100000 in
theorem c46 (d : Nat) (I : PI) (J : PJ) (T : TL) : cal (d + 1) 46 [vr 7 0] (MX I J T) = (if inR (I 7 0 12) 6 = true then (if (I 38 0 (Int32.toNatClampNeg (I 7 0 12))) = 0 then some (.inl none, MX I J T) else ret9 (den (d + 1) 46) 46 18 21 [some (vr 7 0)] [] (cal d 43 [vr 1 T.2.1, vi 106] (MX I J T))) else none) :=
  ((bx_eq [] (d + 1) 46 10 0 _ _ _).symm.trans rfl : _ = (if inR (I 7 0 12) 6 = true then (if decide ((I 38 0 (Int32.toNatClampNeg (I 7 0 12))) = 0) = true then some (.inl none, MX I J T) else ret9 (den (d + 1) 46) 46 18 21 [some (vr 7 0)] [] (cal d 43 [vr 1 T.2.1, vi 106] (MX I J T))) else none)).trans (by simp only [ite_dec])
set_option maxRecDepth 100000 in
theorem b46_21 (d : Nat) (I : PI) (J : PJ) (T : TL) : den d 46 21 [some (vr 7 0)] [] (MX I J T) = (if inR (I 7 0 12) 6 = true then some (.inl none, MX (up3 I 38 0 (Int32.toNatClampNeg (I 7 0 12)) 0) J T) else none) :=
  (bx_eq [] d 46 7 21 _ _ _).symm.trans rfl
-- 47 WF_Reader_endTerm
set_option maxRecDepth 100000 in
theorem c47 (d : Nat) (I : PI) (J : PJ) (T : TL) : cal (d + 1) 47 [vr 7 0] (MX I J T) = (if inR (I 7 0 12) 6 = true then (if (I 21 1 (Int32.toNatClampNeg (I 7 0 12))) = (-1) then some (.inl none, MX I J T) else (if inR (I 7 0 12) 6 = true then ret9 (den (d + 1) 47) 47 26 29 [some (vr 7 0)] [] (cal d 43 [vr 1 T.2.1, vi (I 21 1 (Int32.toNatClampNeg (I 7 0 12)))] (MX I J T)) else none)) else none) :=
  ((bx_eq [] (d + 1) 47 15 0 _ _ _).symm.trans rfl : _ = (if inR (I 7 0 12) 6 = true then (if decide ((I 21 1 (Int32.toNatClampNeg (I 7 0 12))) = (-1)) = true then some (.inl none, MX I J T) else (if inR (I 7 0 12) 6 = true then ret9 (den (d + 1) 47) 47 26 29 [some (vr 7 0)] [] (cal d 43 [vr 1 T.2.1, vi (I 21 1 (Int32.toNatClampNeg (I 7 0 12)))] (MX I J T)) else none)) else none)).trans (by simp only [ite_dec])
set_option maxRecDepth 100000 in
theorem b47_29 (d : Nat) (I : PI) (J : PJ) (T : TL) : den d 47 29 [some (vr 7 0)] [] (MX I J T) = (if inR (I 7 0 12) 6 = true then some (.inl none, MX (up3 I 21 1 (Int32.toNatClampNeg (I 7 0 12)) (-1)) J T) else none) :=
  (bx_eq [] d 47 7 29 _ _ _).symm.trans rfl
-- 48 WF_Reader_closeWorth
set_option maxRecDepth 100000 in
theorem c48 (d : Nat) (I : PI) (J : PJ) (T : TL) : cal (d + 1) 48 [vr 7 0] (MX I J T) = (if inR (I 7 0 12) 6 = true then (if (I 21 2 (Int32.toNatClampNeg (I 7 0 12))) = (-1) then some (.inl none, MX (up3 I 7 0 12 ((I 7 0 12) - 1)) J T) else (if inR (I 7 0 12) 6 = true then ret9 (den (d + 1) 48) 48 26 29 [some (vr 7 0)] [] (cal d 43 [vr 1 T.2.1, vi (I 21 2 (Int32.toNatClampNeg (I 7 0 12)))] (MX I J T)) else none)) else none) :=
  ((bx_eq [] (d + 1) 48 15 0 _ _ _).symm.trans rfl : _ = (if inR (I 7 0 12) 6 = true then (if decide ((I 21 2 (Int32.toNatClampNeg (I 7 0 12))) = (-1)) = true then some (.inl none, MX (up3 I 7 0 12 ((I 7 0 12) - 1)) J T) else (if inR (I 7 0 12) 6 = true then ret9 (den (d + 1) 48) 48 26 29 [some (vr 7 0)] [] (cal d 43 [vr 1 T.2.1, vi (I 21 2 (Int32.toNatClampNeg (I 7 0 12)))] (MX I J T)) else none)) else none)).trans (by simp only [ite_dec])
set_option maxRecDepth 100000 in
theorem b48_29 (d : Nat) (I : PI) (J : PJ) (T : TL) : den d 48 29 [some (vr 7 0)] [] (MX I J T) = some (.inl none, MX (up3 I 7 0 12 ((I 7 0 12) - 1)) J T) :=
  (bx_eq [] d 48 7 29 _ _ _).symm.trans rfl
-- 49 WF_Scanner_isAtEnd
set_option maxRecDepth 100000 in
theorem c49 (d : Nat) (I : PI) (J : PJ) (T : TL) : cal d 49 [vr 8 0] (MX I J T) = (if (I 8 0 3) < (I 8 0 1) then some (.inl (some (vi 0)), MX I J T) else some (.inl (some (vi 1)), MX I J T)) :=
  ((bx_eq [] d 49 8 0 _ _ _).symm.trans rfl : _ = (if decide ((I 8 0 3) < (I 8 0 1)) = true then some (.inl (some (vi 0)), MX I J T) else some (.inl (some (vi 1)), MX I J T))).trans (by simp only [ite_dec])
