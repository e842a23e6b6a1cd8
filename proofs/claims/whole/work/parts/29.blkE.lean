/-! Blocks of methods (printed by program: wip/gen/gen40.py) -/
-- 184 WFModel_thrown
set_option maxRecDepth 100000 in
theorem c184 (d : Nat) (I : PI) (J : PJ) (T : TL) : cal d 184 [vr 14 0] (MX I J T) = some (.inl (some (vi (I 14 0 0))), MX I J T) :=
  (bx_eq [] d 184 3 0 _ _ _).symm.trans rfl
-- 185 WFModel_feed
set_option maxRecDepth 100000 in
theorem c185 (d : Nat) (x1 : Int32) (x2 : Int32) (x3 : Int32) (x4 : Int32) (x5 : Int32) (I : PI) (J : PJ) (T : TL) : cal d 185 [vr 14 0, vi x1, vi x2, vi x3, vi x4, vi x5] (MX I J T) = (if ((I 14 0 8) + 20) ≤ 500 then den d 185 20 [some (vr 14 0), some (vi x1), some (vi x2), some (vi x3), some (vi x4), some (vi x5), none, none] [] (MX (up3 I 14 0 0 0) J T) else den d 185 18 [some (vr 14 0), some (vi x1), some (vi x2), some (vi x3), some (vi x4), some (vi x5), none, none] [] (MX (up3 I 14 0 0 0) J T)) :=
  ((bx_eq [18, 20, 23, 30, 36, 40, 47, 51, 58, 62, 69, 74, 76, 78, 101, 114, 117] d 185 9 0 _ _ _).symm.trans rfl : _ = (if decide (((I 14 0 8) + 20) ≤ 500) = true then den d 185 20 [some (vr 14 0), some (vi x1), some (vi x2), some (vi x3), some (vi x4), some (vi x5), none, none] [] (MX (up3 I 14 0 0 0) J T) else den d 185 18 [some (vr 14 0), some (vi x1), some (vi x2), some (vi x3), some (vi x4), some (vi x5), none, none] [] (MX (up3 I 14 0 0 0) J T))).trans (by simp only [ite_dec])
set_option maxRecDepth 100000 in
theorem b185_18 (d : Nat) (x1 : Int32) (x2 : Int32) (x3 : Int32) (x4 : Int32) (x5 : Int32) (I : PI) (J : PJ) (T : TL) : den d 185 18 [some (vr 14 0), some (vi x1), some (vi x2), some (vi x3), some (vi x4), some (vi x5), none, none] [] (MX I J T) = some (.inl (some (vi (-1))), MX I J T) :=
  (bx_eq [18, 20, 23, 30, 36, 40, 47, 51, 58, 62, 69, 74, 76, 78, 101, 114, 117] d 185 2 18 _ _ _).symm.trans rfl
set_option maxRecDepth 100000 in
theorem b185_20 (d : Nat) (x1 : Int32) (x2 : Int32) (x3 : Int32) (x4 : Int32) (x5 : Int32) (I : PI) (J : PJ) (T : TL) : den d 185 20 [some (vr 14 0), some (vi x1), some (vi x2), some (vi x3), some (vi x4), some (vi x5), none, none] [] (MX I J T) = den d 185 23 [some (vr 14 0), some (vi x1), some (vi x2), some (vi x3), some (vi x4), some (vi x5), some (vi 0), none] [] (MX I J T) :=
  (bx_eq [18, 20, 23, 30, 36, 40, 47, 51, 58, 62, 69, 74, 76, 78, 101, 114, 117] d 185 2 20 _ _ _).symm.trans rfl
set_option maxRecDepth 100000 in
theorem b185_23 (d : Nat) (x1 : Int32) (x2 : Int32) (x3 : Int32) (x4 : Int32) (x5 : Int32) (x6 : Int32) (o7 : Option AV) (I : PI) (J : PJ) (T : TL) : den d 185 23 [some (vr 14 0), some (vi x1), some (vi x2), some (vi x3), some (vi x4), some (vi x5), some (vi x6), o7] [] (MX I J T) = (if 20 ≤ x6 then den d 185 117 [some (vr 14 0), some (vi x1), some (vi x2), some (vi x3), some (vi x4), some (vi x5), some (vi x6), o7] [] (MX I J T) else den d 185 30 [some (vr 14 0), some (vi x1), some (vi x2), some (vi x3), some (vi x4), some (vi x5), some (vi x6), o7] [] (MX I J T)) :=
  ((bx_eq [18, 20, 23, 30, 36, 40, 47, 51, 58, 62, 69, 74, 76, 78, 101, 114, 117] d 185 3 23 _ _ _).symm.trans rfl : _ = (if decide (20 ≤ x6) = true then den d 185 117 [some (vr 14 0), some (vi x1), some (vi x2), some (vi x3), some (vi x4), some (vi x5), some (vi x6), o7] [] (MX I J T) else den d 185 30 [some (vr 14 0), some (vi x1), some (vi x2), some (vi x3), some (vi x4), some (vi x5), some (vi x6), o7] [] (MX I J T))).trans (by simp only [ite_dec])
set_option maxRecDepth 100000 in
theorem b185_30 (d : Nat) (x1 : Int32) (x2 : Int32) (x3 : Int32) (x4 : Int32) (x5 : Int32) (x6 : Int32) (o7 : Option AV) (I : PI) (J : PJ) (T : TL) : den d 185 30 [some (vr 14 0), some (vi x1), some (vi x2), some (vi x3), some (vi x4), some (vi x5), some (vi x6), o7] [] (MX I J T) = (if 4 ≤ x6 then den d 185 40 [some (vr 14 0), some (vi x1), some (vi x2), some (vi x3), some (vi x4), some (vi x5), some (vi x6), o7] [] (MX I J T) else den d 185 36 [some (vr 14 0), some (vi x1), some (vi x2), some (vi x3), some (vi x4), some (vi x5), some (vi x6), o7] [] (MX I J T)) :=
  ((bx_eq [18, 20, 23, 30, 36, 40, 47, 51, 58, 62, 69, 74, 76, 78, 101, 114, 117] d 185 3 30 _ _ _).symm.trans rfl : _ = (if decide (4 ≤ x6) = true then den d 185 40 [some (vr 14 0), some (vi x1), some (vi x2), some (vi x3), some (vi x4), some (vi x5), some (vi x6), o7] [] (MX I J T) else den d 185 36 [some (vr 14 0), some (vi x1), some (vi x2), some (vi x3), some (vi x4), some (vi x5), some (vi x6), o7] [] (MX I J T))).trans (by simp only [ite_dec])
set_option maxRecDepth 100000 in
theorem b185_36 (d : Nat) (x1 : Int32) (x2 : Int32) (x3 : Int32) (x4 : Int32) (x5 : Int32) (x6 : Int32) (o7 : Option AV) (I : PI) (J : PJ) (T : TL) : den d 185 36 [some (vr 14 0), some (vi x1), some (vi x2), some (vi x3), some (vi x4), some (vi x5), some (vi x6), o7] [] (MX I J T) = den d 185 76 [some (vr 14 0), some (vi x1), some (vi x2), some (vi x3), some (vi x4), some (vi x5), some (vi x6), o7] [vi x1] (MX I J T) :=
  (bx_eq [18, 20, 23, 30, 36, 40, 47, 51, 58, 62, 69, 74, 76, 78, 101, 114, 117] d 185 2 36 _ _ _).symm.trans rfl
set_option maxRecDepth 100000 in
theorem b185_40 (d : Nat) (x1 : Int32) (x2 : Int32) (x3 : Int32) (x4 : Int32) (x5 : Int32) (x6 : Int32) (o7 : Option AV) (I : PI) (J : PJ) (T : TL) : den d 185 40 [some (vr 14 0), some (vi x1), some (vi x2), some (vi x3), some (vi x4), some (vi x5), some (vi x6), o7] [] (MX I J T) = (if 8 ≤ x6 then den d 185 51 [some (vr 14 0), some (vi x1), some (vi x2), some (vi x3), some (vi x4), some (vi x5), some (vi x6), o7] [] (MX I J T) else den d 185 47 [some (vr 14 0), some (vi x1), some (vi x2), some (vi x3), some (vi x4), some (vi x5), some (vi x6), o7] [] (MX I J T)) :=
  ((bx_eq [18, 20, 23, 30, 36, 40, 47, 51, 58, 62, 69, 74, 76, 78, 101, 114, 117] d 185 3 40 _ _ _).symm.trans rfl : _ = (if decide (8 ≤ x6) = true then den d 185 51 [some (vr 14 0), some (vi x1), some (vi x2), some (vi x3), some (vi x4), some (vi x5), some (vi x6), o7] [] (MX I J T) else den d 185 47 [some (vr 14 0), some (vi x1), some (vi x2), some (vi x3), some (vi x4), some (vi x5), some (vi x6), o7] [] (MX I J T))).trans (by simp only [ite_dec])
set_option maxRecDepth 100000 in
theorem b185_47 (d : Nat) (x1 : Int32) (x2 : Int32) (x3 : Int32) (x4 : Int32) (x5 : Int32) (x6 : Int32) (o7 : Option AV) (I : PI) (J : PJ) (T : TL) : den d 185 47 [some (vr 14 0), some (vi x1), some (vi x2), some (vi x3), some (vi x4), some (vi x5), some (vi x6), o7] [] (MX I J T) = den d 185 76 [some (vr 14 0), some (vi x1), some (vi x2), some (vi x3), some (vi x4), some (vi x5), some (vi x6), o7] [vi x2] (MX I J T) :=
  (bx_eq [18, 20, 23, 30, 36, 40, 47, 51, 58, 62, 69, 74, 76, 78, 101, 114, 117] d 185 2 47 _ _ _).symm.trans rfl
set_option maxRecDepth 100000 in
theorem b185_51 (d : Nat) (x1 : Int32) (x2 : Int32) (x3 : Int32) (x4 : Int32) (x5 : Int32) (x6 : Int32) (o7 : Option AV) (I : PI) (J : PJ) (T : TL) : den d 185 51 [some (vr 14 0), some (vi x1), some (vi x2), some (vi x3), some (vi x4), some (vi x5), some (vi x6), o7] [] (MX I J T) = (if 12 ≤ x6 then den d 185 62 [some (vr 14 0), some (vi x1), some (vi x2), some (vi x3), some (vi x4), some (vi x5), some (vi x6), o7] [] (MX I J T) else den d 185 58 [some (vr 14 0), some (vi x1), some (vi x2), some (vi x3), some (vi x4), some (vi x5), some (vi x6), o7] [] (MX I J T)) :=
  ((bx_eq [18, 20, 23, 30, 36, 40, 47, 51, 58, 62, 69, 74, 76, 78, 101, 114, 117] d 185 3 51 _ _ _).symm.trans rfl : _ = (if decide (12 ≤ x6) = true then den d 185 62 [some (vr 14 0), some (vi x1), some (vi x2), some (vi x3), some (vi x4), some (vi x5), some (vi x6), o7] [] (MX I J T) else den d 185 58 [some (vr 14 0), some (vi x1), some (vi x2), some (vi x3), some (vi x4), some (vi x5), some (vi x6), o7] [] (MX I J T))).trans (by simp only [ite_dec])
set_option maxRecDepth 100000 in
theorem b185_58 (d : Nat) (x1 : Int32) (x2 : Int32) (x3 : Int32) (x4 : Int32) (x5 : Int32) (x6 : Int32) (o7 : Option AV) (I : PI) (J : PJ) (T : TL) : den d 185 58 [some (vr 14 0), some (vi x1), some (vi x2), some (vi x3), some (vi x4), some (vi x5), some (vi x6), o7] [] (MX I J T) = den d 185 76 [some (vr 14 0), some (vi x1), some (vi x2), some (vi x3), some (vi x4), some (vi x5), some (vi x6), o7] [vi x3] (MX I J T) :=
  (bx_eq [18, 20, 23, 30, 36, 40, 47, 51, 58, 62, 69, 74, 76, 78, 101, 114, 117] d 185 2 58 _ _ _).symm.trans rfl
set_option maxRecDepth 100000 in
theorem b185_62 (d : Nat) (x1 : Int32) (x2 : Int32) (x3 : Int32) (x4 : Int32) (x5 : Int32) (x6 : Int32) (o7 : Option AV) (I : PI) (J : PJ) (T : TL) : den d 185 62 [some (vr 14 0), some (vi x1), some (vi x2), some (vi x3), some (vi x4), some (vi x5), some (vi x6), o7] [] (MX I J T) = (if 16 ≤ x6 then den d 185 74 [some (vr 14 0), some (vi x1), some (vi x2), some (vi x3), some (vi x4), some (vi x5), some (vi x6), o7] [] (MX I J T) else den d 185 69 [some (vr 14 0), some (vi x1), some (vi x2), some (vi x3), some (vi x4), some (vi x5), some (vi x6), o7] [] (MX I J T)) :=
  ((bx_eq [18, 20, 23, 30, 36, 40, 47, 51, 58, 62, 69, 74, 76, 78, 101, 114, 117] d 185 3 62 _ _ _).symm.trans rfl : _ = (if decide (16 ≤ x6) = true then den d 185 74 [some (vr 14 0), some (vi x1), some (vi x2), some (vi x3), some (vi x4), some (vi x5), some (vi x6), o7] [] (MX I J T) else den d 185 69 [some (vr 14 0), some (vi x1), some (vi x2), some (vi x3), some (vi x4), some (vi x5), some (vi x6), o7] [] (MX I J T))).trans (by simp only [ite_dec])
set_option maxRecDepth 100000 in
theorem b185_69 (d : Nat) (x1 : Int32) (x2 : Int32) (x3 : Int32) (x4 : Int32) (x5 : Int32) (x6 : Int32) (o7 : Option AV) (I : PI) (J : PJ) (T : TL) : den d 185 69 [some (vr 14 0), some (vi x1), some (vi x2), some (vi x3), some (vi x4), some (vi x5), some (vi x6), o7] [] (MX I J T) = den d 185 76 [some (vr 14 0), some (vi x1), some (vi x2), some (vi x3), some (vi x4), some (vi x5), some (vi x6), o7] [vi x4] (MX I J T) :=
  (bx_eq [18, 20, 23, 30, 36, 40, 47, 51, 58, 62, 69, 74, 76, 78, 101, 114, 117] d 185 2 69 _ _ _).symm.trans rfl
set_option maxRecDepth 100000 in
theorem b185_74 (d : Nat) (x1 : Int32) (x2 : Int32) (x3 : Int32) (x4 : Int32) (x5 : Int32) (x6 : Int32) (o7 : Option AV) (I : PI) (J : PJ) (T : TL) : den d 185 74 [some (vr 14 0), some (vi x1), some (vi x2), some (vi x3), some (vi x4), some (vi x5), some (vi x6), o7] [] (MX I J T) = den d 185 76 [some (vr 14 0), some (vi x1), some (vi x2), some (vi x3), some (vi x4), some (vi x5), some (vi x6), o7] [vi x5] (MX I J T) :=
  (bx_eq [18, 20, 23, 30, 36, 40, 47, 51, 58, 62, 69, 74, 76, 78, 101, 114, 117] d 185 1 74 _ _ _).symm.trans rfl
set_option maxRecDepth 100000 in
theorem b185_76 (d : Nat) (x1 : Int32) (x2 : Int32) (x3 : Int32) (x4 : Int32) (x5 : Int32) (x6 : Int32) (o7 : Option AV) (s0 : Int32) (I : PI) (J : PJ) (T : TL) : den d 185 76 [some (vr 14 0), some (vi x1), some (vi x2), some (vi x3), some (vi x4), some (vi x5), some (vi x6), o7] [vi s0] (MX I J T) = den d 185 78 [some (vr 14 0), some (vi x1), some (vi x2), some (vi x3), some (vi x4), some (vi x5), some (vi x6), some (vi s0)] [] (MX I J T) :=
  (bx_eq [18, 20, 23, 30, 36, 40, 47, 51, 58, 62, 69, 74, 76, 78, 101, 114, 117] d 185 1 76 _ _ _).symm.trans rfl
set_option maxRecDepth 100000 in
theorem b185_78 (d : Nat) (x1 : Int32) (x2 : Int32) (x3 : Int32) (x4 : Int32) (x5 : Int32) (x6 : Int32) (x7 : Int32) (I : PI) (J : PJ) (T : TL) : den d 185 78 [some (vr 14 0), some (vi x1), some (vi x2), some (vi x3), some (vi x4), some (vi x5), some (vi x6), some (vi x7)] [] (MX I J T) = (if inR (I 14 0 8) 500 = true then den d 185 101 [some (vr 14 0), some (vi x1), some (vi x2), some (vi x3), some (vi x4), some (vi x5), some (vi x6), some (vi x7)] [] (MX (up3 I 37 1 (Int32.toNatClampNeg (I 14 0 8)) (i2b9 (i2b9 (isr9 x7 (24 - (8 * (irm9 x6 4))))))) J T) else none) :=
  (bx_eq [18, 20, 23, 30, 36, 40, 47, 51, 58, 62, 69, 74, 76, 78, 101, 114, 117] d 185 15 78 _ _ _).symm.trans rfl
set_option maxRecDepth 100000 in
theorem b185_101 (d : Nat) (x1 : Int32) (x2 : Int32) (x3 : Int32) (x4 : Int32) (x5 : Int32) (x6 : Int32) (x7 : Int32) (I : PI) (J : PJ) (T : TL) : den d 185 101 [some (vr 14 0), some (vi x1), some (vi x2), some (vi x3), some (vi x4), some (vi x5), some (vi x6), some (vi x7)] [] (MX I J T) = den d 185 114 [some (vr 14 0), some (vi x1), some (vi x2), some (vi x3), some (vi x4), some (vi x5), some (vi (x6 + 1)), some (vi x7)] [] (MX (up3 I 14 0 8 ((I 14 0 8) + 1)) J T) :=
  (bx_eq [18, 20, 23, 30, 36, 40, 47, 51, 58, 62, 69, 74, 76, 78, 101, 114, 117] d 185 7 101 _ _ _).symm.trans rfl
set_option maxRecDepth 100000 in
theorem b185_114 (d : Nat) (x1 : Int32) (x2 : Int32) (x3 : Int32) (x4 : Int32) (x5 : Int32) (x6 : Int32) (x7 : Int32) (I : PI) (J : PJ) (T : TL) : den d 185 114 [some (vr 14 0), some (vi x1), some (vi x2), some (vi x3), some (vi x4), some (vi x5), some (vi x6), some (vi x7)] [] (MX I J T) = den d 185 23 [some (vr 14 0), some (vi x1), some (vi x2), some (vi x3), some (vi x4), some (vi x5), some (vi x6), some (vi x7)] [] (MX I J T) :=
  (bx_eq [18, 20, 23, 30, 36, 40, 47, 51, 58, 62, 69, 74, 76, 78, 101, 114, 117] d 185 1 114 _ _ _).symm.trans rfl
set_option maxRecDepth 100000 in
theorem b185_117 (d : Nat) (x1 : Int32) (x2 : Int32) (x3 : Int32) (x4 : Int32) (x5 : Int32) (x6 : Int32) (o7 : Option AV) (I : PI) (J : PJ) (T : TL) : den d 185 117 [some (vr 14 0), some (vi x1), some (vi x2), some (vi x3), some (vi x4), some (vi x5), some (vi x6), o7] [] (MX I J T) = some (.inl (some (vi (I 14 0 8))), MX I J T) :=
  (bx_eq [18, 20, 23, 30, 36, 40, 47, 51, 58, 62, 69, 74, 76, 78, 101, 114, 117] d 185 3 117 _ _ _).symm.trans rfl
-- 187 WFModel_refused
set_option maxRecDepth 100000 in
theorem c187 (d : Nat) (x1 : Int32) (I : PI) (J : PJ) (T : TL) : cal d 187 [vr 14 0, vi x1] (MX I J T) = some (.inl (some (vi (-1))), MX (up3 (up3 I 14 0 1 x1) 14 0 2 (-1)) J T) :=
  (bx_eq [] d 187 8 0 _ _ _).symm.trans rfl
-- 189 WFModel_next
set_option maxRecDepth 100000 in
theorem c189 (d : Nat) (I : PI) (J : PJ) (T : TL) : cal (d + 1) 189 [vr 14 0] (MX I J T) = ret9 (den (d + 1) 189) 189 5 8 [some (vr 14 0), none, none] [] (cal d 190 [vr 14 0, vi (I 14 0 10)] (MX I J T)) :=
  (bx_eq [0, 80, 169] (d + 1) 189 4 0 _ _ _).symm.trans rfl
set_option maxRecDepth 100000 in
theorem b189_0 (d : Nat) (I : PI) (J : PJ) (T : TL) : den (d + 1) 189 0 [some (vr 14 0), none, none] [] (MX I J T) = ret9 (den (d + 1) 189) 189 5 8 [some (vr 14 0), none, none] [] (cal d 190 [vr 14 0, vi (I 14 0 10)] (MX I J T)) :=
  (bx_eq [0, 80, 169] (d + 1) 189 4 0 _ _ _).symm.trans rfl
set_option maxRecDepth 100000 in
theorem b189_8 (d : Nat) (v : Int32) (I : PI) (J : PJ) (T : TL) : den (d + 1) 189 8 [some (vr 14 0), none, none] [vi v] (MX I J T) = (if ¬ v = 32 then ret9 (den (d + 1) 189) 189 49 52 [some (vr 14 0), none, none] [] (cal d 190 [vr 14 0, vi (I 14 0 10)] (MX (up3 (up3 (up3 I 14 0 12 (I 14 0 10)) 14 0 11 0) 14 0 13 0) J T)) else den (d + 1) 189 0 [some (vr 14 0), none, none] [] (MX (up3 I 14 0 10 ((I 14 0 10) + 1)) J T)) :=
  ((bx_eq [0, 80, 169] (d + 1) 189 16 8 _ _ _).symm.trans rfl : _ = (if decide (¬ v = 32) = true then ret9 (den (d + 1) 189) 189 49 52 [some (vr 14 0), none, none] [] (cal d 190 [vr 14 0, vi (I 14 0 10)] (MX (up3 (up3 (up3 I 14 0 12 (I 14 0 10)) 14 0 11 0) 14 0 13 0) J T)) else den (d + 1) 189 0 [some (vr 14 0), none, none] [] (MX (up3 I 14 0 10 ((I 14 0 10) + 1)) J T))).trans (by simp only [ite_dec])
set_option maxRecDepth 100000 in
theorem b189_52 (d : Nat) (v : Int32) (I : PI) (J : PJ) (T : TL) : den (d + 1) 189 52 [some (vr 14 0), none, none] [vi v] (MX I J T) = (if ¬ v = (-1) then ret9 (den (d + 1) 189) 189 69 72 [some (vr 14 0), some (vi v), some (vi 0)] [] (cal d 191 [vi v] (MX I J T)) else some (.inl none, MX (up3 I 14 0 11 1) J T)) :=
  ((bx_eq [0, 80, 169] (d + 1) 189 11 52 _ _ _).symm.trans rfl : _ = (if decide (¬ v = (-1)) = true then ret9 (den (d + 1) 189) 189 69 72 [some (vr 14 0), some (vi v), some (vi 0)] [] (cal d 191 [vi v] (MX I J T)) else some (.inl none, MX (up3 I 14 0 11 1) J T))).trans (by simp only [ite_dec])
set_option maxRecDepth 100000 in
theorem b189_72 (d : Nat) (x1 : Int32) (x2 : Int32) (v : Int32) (I : PI) (J : PJ) (T : TL) : den (d + 1) 189 72 [some (vr 14 0), some (vi x1), some (vi x2)] [vi v] (MX I J T) = (if v = 0 then ret9 (den (d + 1) 189) 189 158 161 [some (vr 14 0), some (vi x1), some (vi x2)] [] (cal d 192 [vi x1] (MX I J T)) else den (d + 1) 189 80 [some (vr 14 0), some (vi x1), some (vi x2)] [] (MX I (up3 J 14 0 15 0) T)) :=
  ((bx_eq [0, 80, 169] (d + 1) 189 4 72 _ _ _).symm.trans rfl : _ = (if decide (v = 0) = true then ret9 (den (d + 1) 189) 189 158 161 [some (vr 14 0), some (vi x1), some (vi x2)] [] (cal d 192 [vi x1] (MX I J T)) else den (d + 1) 189 80 [some (vr 14 0), some (vi x1), some (vi x2)] [] (MX I (up3 J 14 0 15 0) T))).trans (by simp only [ite_dec])
set_option maxRecDepth 100000 in
theorem b189_80 (d : Nat) (x1 : Int32) (x2 : Int32) (I : PI) (J : PJ) (T : TL) : den (d + 1) 189 80 [some (vr 14 0), some (vi x1), some (vi x2)] [] (MX I J T) = ret9 (den (d + 1) 189) 189 85 88 [some (vr 14 0), some (vi x1), some (vi x2)] [] (cal d 190 [vr 14 0, vi (I 14 0 10)] (MX I J T)) :=
  (bx_eq [0, 80, 169] (d + 1) 189 4 80 _ _ _).symm.trans rfl
set_option maxRecDepth 100000 in
theorem b189_88 (d : Nat) (x1 : Int32) (x2 : Int32) (v : Int32) (I : PI) (J : PJ) (T : TL) : den (d + 1) 189 88 [some (vr 14 0), some (vi x1), some (vi x2)] [vi v] (MX I J T) = ret9 (den (d + 1) 189) 189 88 91 [some (vr 14 0), some (vi x1), some (vi x2)] [] (cal d 191 [vi v] (MX I J T)) :=
  (bx_eq [0, 80, 169] (d + 1) 189 1 88 _ _ _).symm.trans rfl
set_option maxRecDepth 100000 in
theorem b189_91 (d : Nat) (x1 : Int32) (x2 : Int32) (v : Int32) (I : PI) (J : PJ) (T : TL) : den (d + 1) 189 91 [some (vr 14 0), some (vi x1), some (vi x2)] [vi v] (MX I J T) = (if v = 0 then (if 8 < x2 then some (.inl none, MX I J T) else some (.inl none, MX (up3 I 14 0 11 2) J T)) else (if 8 ≤ x2 then den (d + 1) 189 80 [some (vr 14 0), some (vi x1), some (vi (x2 + 1))] [] (MX (up3 I 14 0 10 ((I 14 0 10) + 1)) J T) else ret9 (den (d + 1) 189) 189 114 117 [some (vr 14 0), some (vi x1), some (vi x2)] [vl (32 * (J 14 0 15)), vr 14 0] (cal d 190 [vr 14 0, vi (I 14 0 10)] (MX I J T)))) :=
  ((bx_eq [0, 80, 169] (d + 1) 189 13 91 _ _ _).symm.trans rfl : _ = (if decide (v = 0) = true then (if decide (8 < x2) = true then some (.inl none, MX I J T) else some (.inl none, MX (up3 I 14 0 11 2) J T)) else (if decide (8 ≤ x2) = true then den (d + 1) 189 80 [some (vr 14 0), some (vi x1), some (vi (x2 + 1))] [] (MX (up3 I 14 0 10 ((I 14 0 10) + 1)) J T) else ret9 (den (d + 1) 189) 189 114 117 [some (vr 14 0), some (vi x1), some (vi x2)] [vl (32 * (J 14 0 15)), vr 14 0] (cal d 190 [vr 14 0, vi (I 14 0 10)] (MX I J T))))).trans (by simp only [ite_dec])
set_option maxRecDepth 100000 in
theorem b189_117 (d : Nat) (x1 : Int32) (x2 : Int32) (t1 : Int64) (v : Int32) (I : PI) (J : PJ) (T : TL) : den d 189 117 [some (vr 14 0), some (vi x1), some (vi x2)] [vi v, vl t1, vr 14 0] (MX I J T) = den d 189 80 [some (vr 14 0), some (vi x1), some (vi (x2 + 1))] [] (MX (up3 I 14 0 10 ((I 14 0 10) + 1)) (up3 J 14 0 15 (t1 + (Int32.toInt64 ((v - 97) + 1)))) T) :=
  (bx_eq [0, 80, 169] d 189 15 117 _ _ _).symm.trans rfl
set_option maxRecDepth 100000 in
theorem b189_161 (d : Nat) (x1 : Int32) (x2 : Int32) (v : Int32) (I : PI) (J : PJ) (T : TL) : den d 189 161 [some (vr 14 0), some (vi x1), some (vi x2)] [vi v] (MX I J T) = (if v = 0 then (if x1 = 59 then some (.inl none, MX (up3 (up3 (up3 I 14 0 11 4) 14 0 13 x1) 14 0 10 ((I 14 0 10) + 1)) J T) else (if x1 = 44 then some (.inl none, MX (up3 (up3 (up3 I 14 0 11 4) 14 0 13 x1) 14 0 10 ((I 14 0 10) + 1)) J T) else (if x1 = 43 then some (.inl none, MX (up3 (up3 (up3 I 14 0 11 4) 14 0 13 x1) 14 0 10 ((I 14 0 10) + 1)) J T) else (if x1 = 45 then some (.inl none, MX (up3 (up3 (up3 I 14 0 11 4) 14 0 13 x1) 14 0 10 ((I 14 0 10) + 1)) J T) else (if x1 = 42 then some (.inl none, MX (up3 (up3 (up3 I 14 0 11 4) 14 0 13 x1) 14 0 10 ((I 14 0 10) + 1)) J T) else (if x1 = 40 then some (.inl none, MX (up3 (up3 (up3 I 14 0 11 4) 14 0 13 x1) 14 0 10 ((I 14 0 10) + 1)) J T) else (if ¬ x1 = 41 then some (.inl none, MX I J T) else some (.inl none, MX (up3 (up3 (up3 I 14 0 11 4) 14 0 13 x1) 14 0 10 ((I 14 0 10) + 1)) J T)))))))) else den d 189 169 [some (vr 14 0), some (vi x1), some (vi x2)] [] (MX (up3 I 14 0 14 0) J T)) :=
  ((bx_eq [0, 80, 169] d 189 35 161 _ _ _).symm.trans rfl : _ = (if decide (v = 0) = true then (if decide (x1 = 59) = true then some (.inl none, MX (up3 (up3 (up3 I 14 0 11 4) 14 0 13 x1) 14 0 10 ((I 14 0 10) + 1)) J T) else (if decide (x1 = 44) = true then some (.inl none, MX (up3 (up3 (up3 I 14 0 11 4) 14 0 13 x1) 14 0 10 ((I 14 0 10) + 1)) J T) else (if decide (x1 = 43) = true then some (.inl none, MX (up3 (up3 (up3 I 14 0 11 4) 14 0 13 x1) 14 0 10 ((I 14 0 10) + 1)) J T) else (if decide (x1 = 45) = true then some (.inl none, MX (up3 (up3 (up3 I 14 0 11 4) 14 0 13 x1) 14 0 10 ((I 14 0 10) + 1)) J T) else (if decide (x1 = 42) = true then some (.inl none, MX (up3 (up3 (up3 I 14 0 11 4) 14 0 13 x1) 14 0 10 ((I 14 0 10) + 1)) J T) else (if decide (x1 = 40) = true then some (.inl none, MX (up3 (up3 (up3 I 14 0 11 4) 14 0 13 x1) 14 0 10 ((I 14 0 10) + 1)) J T) else (if decide (¬ x1 = 41) = true then some (.inl none, MX I J T) else some (.inl none, MX (up3 (up3 (up3 I 14 0 11 4) 14 0 13 x1) 14 0 10 ((I 14 0 10) + 1)) J T)))))))) else den d 189 169 [some (vr 14 0), some (vi x1), some (vi x2)] [] (MX (up3 I 14 0 14 0) J T))).trans (by simp only [ite_dec])
set_option maxRecDepth 100000 in
theorem b189_169 (d : Nat) (x1 : Int32) (x2 : Int32) (I : PI) (J : PJ) (T : TL) : den (d + 1) 189 169 [some (vr 14 0), some (vi x1), some (vi x2)] [] (MX I J T) = ret9 (den (d + 1) 189) 189 174 177 [some (vr 14 0), some (vi x1), some (vi x2)] [] (cal d 190 [vr 14 0, vi (I 14 0 10)] (MX I J T)) :=
  (bx_eq [0, 80, 169] (d + 1) 189 4 169 _ _ _).symm.trans rfl
set_option maxRecDepth 100000 in
theorem b189_177 (d : Nat) (x1 : Int32) (x2 : Int32) (v : Int32) (I : PI) (J : PJ) (T : TL) : den (d + 1) 189 177 [some (vr 14 0), some (vi x1), some (vi x2)] [vi v] (MX I J T) = ret9 (den (d + 1) 189) 189 177 180 [some (vr 14 0), some (vi x1), some (vi x2)] [] (cal d 192 [vi v] (MX I J T)) :=
  (bx_eq [0, 80, 169] (d + 1) 189 1 177 _ _ _).symm.trans rfl
set_option maxRecDepth 100000 in
theorem b189_180 (d : Nat) (x1 : Int32) (x2 : Int32) (v : Int32) (I : PI) (J : PJ) (T : TL) : den (d + 1) 189 180 [some (vr 14 0), some (vi x1), some (vi x2)] [vi v] (MX I J T) = (if v = 0 then (if 4 ≤ x2 then some (.inl none, MX I J T) else some (.inl none, MX (up3 I 14 0 11 3) J T)) else (if 3 ≤ x2 then den (d + 1) 189 169 [some (vr 14 0), some (vi x1), some (vi (x2 + 1))] [] (MX (up3 I 14 0 10 ((I 14 0 10) + 1)) J T) else ret9 (den (d + 1) 189) 189 201 204 [some (vr 14 0), some (vi x1), some (vi x2)] [vi (10 * (I 14 0 14)), vr 14 0] (cal d 190 [vr 14 0, vi (I 14 0 10)] (MX I J T)))) :=
  ((bx_eq [0, 80, 169] (d + 1) 189 13 180 _ _ _).symm.trans rfl : _ = (if decide (v = 0) = true then (if decide (4 ≤ x2) = true then some (.inl none, MX I J T) else some (.inl none, MX (up3 I 14 0 11 3) J T)) else (if decide (3 ≤ x2) = true then den (d + 1) 189 169 [some (vr 14 0), some (vi x1), some (vi (x2 + 1))] [] (MX (up3 I 14 0 10 ((I 14 0 10) + 1)) J T) else ret9 (den (d + 1) 189) 189 201 204 [some (vr 14 0), some (vi x1), some (vi x2)] [vi (10 * (I 14 0 14)), vr 14 0] (cal d 190 [vr 14 0, vi (I 14 0 10)] (MX I J T))))).trans (by simp only [ite_dec])
set_option maxRecDepth 100000 in
theorem b189_204 (d : Nat) (x1 : Int32) (x2 : Int32) (s1 : Int32) (v : Int32) (I : PI) (J : PJ) (T : TL) : den d 189 204 [some (vr 14 0), some (vi x1), some (vi x2)] [vi v, vi s1, vr 14 0] (MX I J T) = den d 189 169 [some (vr 14 0), some (vi x1), some (vi (x2 + 1))] [] (MX (up3 (up3 I 14 0 14 ((s1 + v) - 48)) 14 0 10 ((I 14 0 10) + 1)) J T) :=
  (bx_eq [0, 80, 169] d 189 12 204 _ _ _).symm.trans rfl
-- 190 WFModel_byteAt
set_option maxRecDepth 100000 in
theorem c190 (d : Nat) (x1 : Int32) (I : PI) (J : PJ) (T : TL) : cal d 190 [vr 14 0, vi x1] (MX I J T) = (if (I 14 0 9) ≤ x1 then some (.inl (some (vi (-1))), MX I J T) else (if inR x1 500 = true then some (.inl (some (vi ((I 37 1 (Int32.toNatClampNeg x1)) &&& 255))), MX I J T) else none)) :=
  ((bx_eq [] d 190 12 0 _ _ _).symm.trans rfl : _ = (if decide ((I 14 0 9) ≤ x1) = true then some (.inl (some (vi (-1))), MX I J T) else (if inR x1 500 = true then some (.inl (some (vi ((I 37 1 (Int32.toNatClampNeg x1)) &&& 255))), MX I J T) else none))).trans (by simp only [ite_dec])
-- 191 WFModel_isLetter
set_option maxRecDepth 100000 in
theorem c191 (d : Nat) (x0 : Int32) (I : PI) (J : PJ) (T : TL) : cal d 191 [vi x0] (MX I J T) = (if x0 < 97 then some (.inl (some (vi 0)), MX I J T) else (if 122 < x0 then some (.inl (some (vi 0)), MX I J T) else some (.inl (some (vi 1)), MX I J T))) :=
  ((bx_eq [] d 191 9 0 _ _ _).symm.trans rfl : _ = (if decide (x0 < 97) = true then some (.inl (some (vi 0)), MX I J T) else (if decide (122 < x0) = true then some (.inl (some (vi 0)), MX I J T) else some (.inl (some (vi 1)), MX I J T)))).trans (by simp only [ite_dec])
-- 192 WFModel_isDigit
set_option maxRecDepth 100000 in
theorem c192 (d : Nat) (x0 : Int32) (I : PI) (J : PJ) (T : TL) : cal d 192 [vi x0] (MX I J T) = (if x0 < 48 then some (.inl (some (vi 0)), MX I J T) else (if 57 < x0 then some (.inl (some (vi 0)), MX I J T) else some (.inl (some (vi 1)), MX I J T))) :=
  ((bx_eq [] d 192 9 0 _ _ _).symm.trans rfl : _ = (if decide (x0 < 48) = true then some (.inl (some (vi 0)), MX I J T) else (if decide (57 < x0) = true then some (.inl (some (vi 0)), MX I J T) else some (.inl (some (vi 1)), MX I J T)))).trans (by simp only [ite_dec])
-- 193 WFModel_readBook
set_option maxRecDepth 100000 in
theorem c193 (d : Nat) (b : Nat) (I : PI) (J : PJ) (T : TL) : cal d 193 [vr 14 0] (MX I J (TF T b)) = den d 193 2 [some (vr 14 0), some (vi 1)] [] (MX I J (TF T b)) :=
  (bx_eq [2] d 193 2 0 _ _ _).symm.trans rfl
set_option maxRecDepth 100000 in
theorem b193_2 (d : Nat) (x1 : Int32) (b : Nat) (I : PI) (J : PJ) (T : TL) : den (d + 1) 193 2 [some (vr 14 0), some (vi x1)] [] (MX I J (TF T b)) = (if x1 = 0 then (if (I 14 0 11) = 1 then some (.inl none, MX I J (TF T b)) else ret9 (den (d + 1) 193) 193 163 166 [some (vr 14 0), some (vi x1)] [] (cal d 203 [vr 14 0, vi 1] (MX I J (TF T b)))) else ret9 (den (d + 1) 193) 193 9 12 [some (vr 14 0), some (vi x1)] [] (cal d 194 [vr 14 0, vr 80 1] (MX I J (TF T b)))) :=
  ((bx_eq [2] (d + 1) 193 9 2 _ _ _).symm.trans rfl : _ = (if decide (x1 = 0) = true then (if decide ((I 14 0 11) = 1) = true then some (.inl none, MX I J (TF T b)) else ret9 (den (d + 1) 193) 193 163 166 [some (vr 14 0), some (vi x1)] [] (cal d 203 [vr 14 0, vi 1] (MX I J (TF T b)))) else ret9 (den (d + 1) 193) 193 9 12 [some (vr 14 0), some (vi x1)] [] (cal d 194 [vr 14 0, vr 80 1] (MX I J (TF T b))))).trans (by simp only [ite_dec])
set_option maxRecDepth 100000 in
theorem b193_12 (d : Nat) (x1 : Int32) (v : Int32) (b : Nat) (I : PI) (J : PJ) (T : TL) : den (d + 1) 193 12 [some (vr 14 0), some (vi x1)] [vi v] (MX I J (TF T b)) = (if ¬ v = 0 then ret9 (den (d + 1) 193) 193 22 25 [some (vr 14 0), some (vi x1)] [] (cal d 189 [vr 14 0] (MX I J (TF T b))) else ret9 (den (d + 1) 193) 193 17 20 [some (vr 14 0), some (vi x1)] [] (cal d 203 [vr 14 0, vi 1] (MX I J (TF T b)))) :=
  ((bx_eq [2] (d + 1) 193 4 12 _ _ _).symm.trans rfl : _ = (if decide (¬ v = 0) = true then ret9 (den (d + 1) 193) 193 22 25 [some (vr 14 0), some (vi x1)] [] (cal d 189 [vr 14 0] (MX I J (TF T b))) else ret9 (den (d + 1) 193) 193 17 20 [some (vr 14 0), some (vi x1)] [] (cal d 203 [vr 14 0, vi 1] (MX I J (TF T b))))).trans (by simp only [ite_dec])
set_option maxRecDepth 100000 in
theorem b193_20 (d : Nat) (x1 : Int32) (b : Nat) (I : PI) (J : PJ) (T : TL) : den d 193 20 [some (vr 14 0), some (vi x1)] [vr 13 0] (MX I J (TF T b)) = some (.inr (1, vr 13 0), MX I J (TF T b)) :=
  (bx_eq [2] d 193 1 20 _ _ _).symm.trans rfl
set_option maxRecDepth 100000 in
theorem b193_25 (d : Nat) (x1 : Int32) (b : Nat) (I : PI) (J : PJ) (T : TL) : den (d + 1) 193 25 [some (vr 14 0), some (vi x1)] [] (MX I J (TF T b)) = ret9 (den (d + 1) 193) 193 26 29 [some (vr 14 0), some (vi x1)] [] (cal d 204 [vr 14 0] (MX I J (TF T b))) :=
  (bx_eq [2] (d + 1) 193 2 25 _ _ _).symm.trans rfl
set_option maxRecDepth 100000 in
theorem b193_29 (d : Nat) (x1 : Int32) (v : Int32) (b : Nat) (I : PI) (J : PJ) (T : TL) : den (d + 1) 193 29 [some (vr 14 0), some (vi x1)] [vi v] (MX I J (TF T b)) = (if ¬ v = 0 then ret9 (den (d + 1) 193) 193 46 49 [some (vr 14 0), some (vi x1)] [] (cal d 206 [vr 12 b, vl (J 14 0 15)] (MX I J (TF T b))) else ret9 (den (d + 1) 193) 193 34 37 [some (vr 14 0), some (vi x1)] [] (cal d 203 [vr 14 0, vi 1] (MX I J (TF T b)))) :=
  ((bx_eq [2] (d + 1) 193 6 29 _ _ _).symm.trans rfl : _ = (if decide (¬ v = 0) = true then ret9 (den (d + 1) 193) 193 46 49 [some (vr 14 0), some (vi x1)] [] (cal d 206 [vr 12 b, vl (J 14 0 15)] (MX I J (TF T b))) else ret9 (den (d + 1) 193) 193 34 37 [some (vr 14 0), some (vi x1)] [] (cal d 203 [vr 14 0, vi 1] (MX I J (TF T b))))).trans (by simp only [ite_dec])
set_option maxRecDepth 100000 in
theorem b193_37 (d : Nat) (x1 : Int32) (b : Nat) (I : PI) (J : PJ) (T : TL) : den d 193 37 [some (vr 14 0), some (vi x1)] [vr 13 0] (MX I J (TF T b)) = some (.inr (1, vr 13 0), MX I J (TF T b)) :=
  (bx_eq [2] d 193 1 37 _ _ _).symm.trans rfl
set_option maxRecDepth 100000 in
theorem b193_49 (d : Nat) (x1 : Int32) (v : Int32) (b : Nat) (I : PI) (J : PJ) (T : TL) : den (d + 1) 193 49 [some (vr 14 0), some (vi x1)] [vi v] (MX I J (TF T b)) = (if v = 0 then (if ¬ (I 12 b 0) = 6 then (if inR (I 12 b 0) 6 = true then ret9 (den (d + 1) 193) 193 96 99 [some (vr 14 0), some (vi x1)] [] (cal d 189 [vr 14 0] (MX I (up3 J 42 (b + 2) (Int32.toNatClampNeg (I 12 b 0)) (J 14 0 15)) (TF T b))) else none) else ret9 (den (d + 1) 193) 193 72 75 [some (vr 14 0), some (vi x1)] [] (cal d 203 [vr 14 0, vi 5] (MX I J (TF T b)))) else ret9 (den (d + 1) 193) 193 54 57 [some (vr 14 0), some (vi x1)] [] (cal d 203 [vr 14 0, vi 3] (MX I J (TF T b)))) :=
  ((bx_eq [2] (d + 1) 193 17 49 _ _ _).symm.trans rfl : _ = (if decide (v = 0) = true then (if decide (¬ (I 12 b 0) = 6) = true then (if inR (I 12 b 0) 6 = true then ret9 (den (d + 1) 193) 193 96 99 [some (vr 14 0), some (vi x1)] [] (cal d 189 [vr 14 0] (MX I (up3 J 42 (b + 2) (Int32.toNatClampNeg (I 12 b 0)) (J 14 0 15)) (TF T b))) else none) else ret9 (den (d + 1) 193) 193 72 75 [some (vr 14 0), some (vi x1)] [] (cal d 203 [vr 14 0, vi 5] (MX I J (TF T b)))) else ret9 (den (d + 1) 193) 193 54 57 [some (vr 14 0), some (vi x1)] [] (cal d 203 [vr 14 0, vi 3] (MX I J (TF T b))))).trans (by simp only [ite_dec])
set_option maxRecDepth 100000 in
theorem b193_57 (d : Nat) (x1 : Int32) (b : Nat) (I : PI) (J : PJ) (T : TL) : den d 193 57 [some (vr 14 0), some (vi x1)] [vr 13 0] (MX I J (TF T b)) = some (.inr (1, vr 13 0), MX I J (TF T b)) :=
  (bx_eq [2] d 193 1 57 _ _ _).symm.trans rfl
set_option maxRecDepth 100000 in
theorem b193_75 (d : Nat) (x1 : Int32) (b : Nat) (I : PI) (J : PJ) (T : TL) : den d 193 75 [some (vr 14 0), some (vi x1)] [vr 13 0] (MX I J (TF T b)) = some (.inr (1, vr 13 0), MX I J (TF T b)) :=
  (bx_eq [2] d 193 1 75 _ _ _).symm.trans rfl
set_option maxRecDepth 100000 in
theorem b193_99 (d : Nat) (x1 : Int32) (b : Nat) (I : PI) (J : PJ) (T : TL) : den (d + 1) 193 99 [some (vr 14 0), some (vi x1)] [] (MX I J (TF T b)) = ret9 (den (d + 1) 193) 193 102 105 [some (vr 14 0), some (vi x1)] [] (cal d 194 [vr 14 0, vr 80 2] (MX I J (TF T b))) :=
  (bx_eq [2] (d + 1) 193 3 99 _ _ _).symm.trans rfl
set_option maxRecDepth 100000 in
theorem b193_105 (d : Nat) (x1 : Int32) (v : Int32) (b : Nat) (I : PI) (J : PJ) (T : TL) : den (d + 1) 193 105 [some (vr 14 0), some (vi x1)] [vi v] (MX I J (TF T b)) = (if ¬ v = 0 then ret9 (den (d + 1) 193) 193 115 118 [some (vr 14 0), some (vi x1)] [] (cal d 189 [vr 14 0] (MX I J (TF T b))) else ret9 (den (d + 1) 193) 193 110 113 [some (vr 14 0), some (vi x1)] [] (cal d 203 [vr 14 0, vi 1] (MX I J (TF T b)))) :=
  ((bx_eq [2] (d + 1) 193 4 105 _ _ _).symm.trans rfl : _ = (if decide (¬ v = 0) = true then ret9 (den (d + 1) 193) 193 115 118 [some (vr 14 0), some (vi x1)] [] (cal d 189 [vr 14 0] (MX I J (TF T b))) else ret9 (den (d + 1) 193) 193 110 113 [some (vr 14 0), some (vi x1)] [] (cal d 203 [vr 14 0, vi 1] (MX I J (TF T b))))).trans (by simp only [ite_dec])
set_option maxRecDepth 100000 in
theorem b193_113 (d : Nat) (x1 : Int32) (b : Nat) (I : PI) (J : PJ) (T : TL) : den d 193 113 [some (vr 14 0), some (vi x1)] [vr 13 0] (MX I J (TF T b)) = some (.inr (1, vr 13 0), MX I J (TF T b)) :=
  (bx_eq [2] d 193 1 113 _ _ _).symm.trans rfl
set_option maxRecDepth 100000 in
theorem b193_118 (d : Nat) (x1 : Int32) (b : Nat) (I : PI) (J : PJ) (T : TL) : den (d + 1) 193 118 [some (vr 14 0), some (vi x1)] [] (MX I J (TF T b)) = ret9 (den (d + 1) 193) 193 119 122 [some (vr 14 0), some (vi x1)] [] (cal d 207 [vr 14 0] (MX I J (TF T b))) :=
  (bx_eq [2] (d + 1) 193 2 118 _ _ _).symm.trans rfl
set_option maxRecDepth 100000 in
theorem b193_122 (d : Nat) (x1 : Int32) (b : Nat) (I : PI) (J : PJ) (T : TL) : den (d + 1) 193 122 [some (vr 14 0), some (vi x1)] [] (MX I J (TF T b)) = ret9 (den (d + 1) 193) 193 138 141 [some (vr 14 0), some (vi x1)] [] (cal d 210 [vr 14 0, vi 59] (MX (up3 I 12 b 0 ((I 12 b 0) + 1)) J (TF T b))) :=
  (bx_eq [2] (d + 1) 193 10 122 _ _ _).symm.trans rfl
set_option maxRecDepth 100000 in
theorem b193_141 (d : Nat) (x1 : Int32) (v : Int32) (b : Nat) (I : PI) (J : PJ) (T : TL) : den (d + 1) 193 141 [some (vr 14 0), some (vi x1)] [vi v] (MX I J (TF T b)) = (if v = 0 then den (d + 1) 193 2 [some (vr 14 0), some (vi v)] [] (MX I J (TF T b)) else ret9 (den (d + 1) 193) 193 147 150 [some (vr 14 0), some (vi v)] [] (cal d 189 [vr 14 0] (MX I J (TF T b)))) :=
  ((bx_eq [2] (d + 1) 193 5 141 _ _ _).symm.trans rfl : _ = (if decide (v = 0) = true then den (d + 1) 193 2 [some (vr 14 0), some (vi v)] [] (MX I J (TF T b)) else ret9 (den (d + 1) 193) 193 147 150 [some (vr 14 0), some (vi v)] [] (cal d 189 [vr 14 0] (MX I J (TF T b))))).trans (by simp only [ite_dec])
set_option maxRecDepth 100000 in
theorem b193_150 (d : Nat) (x1 : Int32) (b : Nat) (I : PI) (J : PJ) (T : TL) : den d 193 150 [some (vr 14 0), some (vi x1)] [] (MX I J (TF T b)) = den d 193 2 [some (vr 14 0), some (vi x1)] [] (MX I J (TF T b)) :=
  (bx_eq [2] d 193 1 150 _ _ _).symm.trans rfl
set_option maxRecDepth 100000 in
theorem b193_166 (d : Nat) (x1 : Int32) (b : Nat) (I : PI) (J : PJ) (T : TL) : den d 193 166 [some (vr 14 0), some (vi x1)] [vr 13 0] (MX I J (TF T b)) = some (.inr (1, vr 13 0), MX I J (TF T b)) :=
  (bx_eq [2] d 193 1 166 _ _ _).symm.trans rfl
-- 194 WFModel_isWord
set_option maxRecDepth 100000 in
theorem c194 (d : Nat) (w : Nat) (I : PI) (J : PJ) (T : TL) : cal (d + 1) 194 [vr 14 0, vr 80 w] (MX I J T) = (if ¬ (I 14 0 11) = 2 then some (.inl (some (vi 0)), MX I J T) else ret9 (den (d + 1) 194) 194 13 16 [some (vr 14 0), some (vr 80 w)] [vl (J 14 0 15)] (cal d 195 [vr 80 w] (MX I J T))) :=
  ((bx_eq [] (d + 1) 194 8 0 _ _ _).symm.trans rfl : _ = (if decide (¬ (I 14 0 11) = 2) = true then some (.inl (some (vi 0)), MX I J T) else ret9 (den (d + 1) 194) 194 13 16 [some (vr 14 0), some (vr 80 w)] [vl (J 14 0 15)] (cal d 195 [vr 80 w] (MX I J T)))).trans (by simp only [ite_dec])
set_option maxRecDepth 100000 in
theorem b194_16 (d : Nat) (w : Nat) (t0 : Int64) (v : Int64) (I : PI) (J : PJ) (T : TL) : den d 194 16 [some (vr 14 0), some (vr 80 w)] [vl v, vl t0] (MX I J T) = (if ¬ (lg_cmp t0 v) = 0 then some (.inl (some (vi 0)), MX I J T) else some (.inl (some (vi 1)), MX I J T)) :=
  ((bx_eq [] d 194 5 16 _ _ _).symm.trans rfl : _ = (if decide (¬ (lg_cmp t0 v) = 0) = true then some (.inl (some (vi 0)), MX I J T) else some (.inl (some (vi 1)), MX I J T))).trans (by simp only [ite_dec])
-- 195 WFModel_wordOf
set_option maxRecDepth 100000 in
theorem c195 (d : Nat) (w : Nat) (I : PI) (J : PJ) (T : TL) : cal d 195 [vr 80 w] (MX I J T) = den d 195 4 [some (vr 80 w), some (vl 0), none, some (vi 0)] [] (MX I J T) :=
  (bx_eq [4] d 195 4 0 _ _ _).symm.trans rfl
set_option maxRecDepth 100000 in
theorem b195_4 (d : Nat) (w : Nat) (y1 : Int64) (x3 : Int32) (I : PI) (J : PJ) (T : TL) : den (d + 1) 195 4 [some (vr 80 w), some (vl y1), none, some (vi x3)] [] (MX I J T) = ret9 (den (d + 1) 195) 195 6 9 [some (vr 80 w), some (vl y1), none, some (vi x3)] [vi x3] (cal d 196 [vr 80 w] (MX I J T)) :=
  (bx_eq [4] (d + 1) 195 3 4 _ _ _).symm.trans rfl
set_option maxRecDepth 100000 in
theorem b195_9 (d : Nat) (w : Nat) (y1 : Int64) (x3 : Int32) (s0 : Int32) (v : Int32) (I : PI) (J : PJ) (T : TL) : den (d + 1) 195 9 [some (vr 80 w), some (vl y1), none, some (vi x3)] [vi v, vi s0] (MX I J T) = (if v ≤ s0 then some (.inl (some (vl y1)), MX I J T) else ret9 (den (d + 1) 195) 195 19 22 [some (vr 80 w), some (vl y1), none, some (vi x3)] [vl (32 * y1)] (cal d 198 [vr 80 w, vi x3] (MX I J T))) :=
  ((bx_eq [4] (d + 1) 195 7 9 _ _ _).symm.trans rfl : _ = (if decide (v ≤ s0) = true then some (.inl (some (vl y1)), MX I J T) else ret9 (den (d + 1) 195) 195 19 22 [some (vr 80 w), some (vl y1), none, some (vi x3)] [vl (32 * y1)] (cal d 198 [vr 80 w, vi x3] (MX I J T)))).trans (by simp only [ite_dec])
set_option maxRecDepth 100000 in
theorem b195_22 (d : Nat) (w : Nat) (y1 : Int64) (x3 : Int32) (t0 : Int64) (v : Int32) (I : PI) (J : PJ) (T : TL) : den d 195 22 [some (vr 80 w), some (vl y1), none, some (vi x3)] [vi v, vl t0] (MX I J T) = den d 195 4 [some (vr 80 w), some (vl (t0 + (Int32.toInt64 ((v - 97) + 1)))), none, some (vi (x3 + 1))] [] (MX I J T) :=
  (bx_eq [4] d 195 9 22 _ _ _).symm.trans rfl
-- 196 String_length
set_option maxRecDepth 100000 in
theorem c196 (d : Nat) (w : Nat) (I : PI) (J : PJ) (T : TL) : cal (d + 1) 196 [vr 80 w] (MX I J T) = ret9 (den (d + 1) 196) 196 6 9 [some (vr 80 w)] [vi (Int32.ofNat ((nth9 strT w []).length))] (cal d 197 [vr 80 w] (MX I J T)) :=
  (bx_eq [] (d + 1) 196 5 0 _ _ _).symm.trans rfl
set_option maxRecDepth 100000 in
theorem b196_9 (d : Nat) (w : Nat) (s0 : Int32) (v : Int32) (I : PI) (J : PJ) (T : TL) : den d 196 9 [some (vr 80 w)] [vi v, vi s0] (MX I J T) = some (.inl (some (vi (isr9 s0 v))), MX I J T) :=
  (bx_eq [] d 196 2 9 _ _ _).symm.trans rfl
-- 197 String_coder
set_option maxRecDepth 100000 in
theorem c197 (d : Nat) (w : Nat) (I : PI) (J : PJ) (T : TL) : cal d 197 [vr 80 w] (MX I J T) = (if -128 ≤ 0 ∧ 0 ≤ 127 then some (.inl (some (vi 0)), MX I J T) else none) :=
  (bx_eq [] d 197 6 0 _ _ _).symm.trans rfl
-- 198 String_charAt
set_option maxRecDepth 100000 in
theorem c198 (d : Nat) (w : Nat) (x1 : Int32) (I : PI) (J : PJ) (T : TL) : cal (d + 1) 198 [vr 80 w, vi x1] (MX I J T) = ret9 (den (d + 1) 198) 198 1 4 [some (vr 80 w), some (vi x1)] [] (cal d 199 [vr 80 w] (MX I J T)) :=
  (bx_eq [] (d + 1) 198 2 0 _ _ _).symm.trans rfl
set_option maxRecDepth 100000 in
theorem b198_4 (d : Nat) (w : Nat) (x1 : Int32) (v : Int32) (I : PI) (J : PJ) (T : TL) : den (d + 1) 198 4 [some (vr 80 w), some (vi x1)] [vi v] (MX I J T) = (if v = 0 then none else ret9 (den (d + 1) 198) 198 12 15 [some (vr 80 w), some (vi x1)] [] (cal d 200 [vr 81 w, vi x1] (MX I J T))) :=
  ((bx_eq [] (d + 1) 198 5 4 _ _ _).symm.trans rfl : _ = (if decide (v = 0) = true then none else ret9 (den (d + 1) 198) 198 12 15 [some (vr 80 w), some (vi x1)] [] (cal d 200 [vr 81 w, vi x1] (MX I J T)))).trans (by simp only [ite_dec])
set_option maxRecDepth 100000 in
theorem b198_15 (d : Nat) (w : Nat) (x1 : Int32) (v : Int32) (I : PI) (J : PJ) (T : TL) : den d 198 15 [some (vr 80 w), some (vi x1)] [vi v] (MX I J T) = (if 0 ≤ v ∧ v ≤ 65535 then some (.inl (some (vi v)), MX I J T) else none) :=
  (bx_eq [] d 198 1 15 _ _ _).symm.trans rfl
-- 199 String_isLatin1
set_option maxRecDepth 100000 in
theorem c199 (d : Nat) (w : Nat) (I : PI) (J : PJ) (T : TL) : cal d 199 [vr 80 w] (MX I J T) = some (.inl (some (vi 1)), MX I J T) :=
  (bx_eq [] d 199 8 0 _ _ _).symm.trans rfl
-- 200 StringLatin1_charAt
set_option maxRecDepth 100000 in
theorem c200 (d : Nat) (w : Nat) (x1 : Int32) (I : PI) (J : PJ) (T : TL) : cal (d + 1) 200 [vr 81 w, vi x1] (MX I J T) = ret9 (den (d + 1) 200) 200 3 6 [some (vr 81 w), some (vi x1)] [] (cal d 201 [vi x1, vi (Int32.ofNat ((nth9 strT w []).length))] (MX I J T)) :=
  (bx_eq [] (d + 1) 200 4 0 _ _ _).symm.trans rfl
set_option maxRecDepth 100000 in
theorem b200_6 (d : Nat) (w : Nat) (x1 : Int32) (I : PI) (J : PJ) (T : TL) : den d 200 6 [some (vr 81 w), some (vi x1)] [] (MX I J T) = (if inR x1 ((nth9 strT w []).length) = true then (if 0 ≤ (i2c9 ((roT 81 w (Int32.toNatClampNeg x1)) &&& 255)) ∧ (i2c9 ((roT 81 w (Int32.toNatClampNeg x1)) &&& 255)) ≤ 65535 then some (.inl (some (vi (i2c9 ((roT 81 w (Int32.toNatClampNeg x1)) &&& 255)))), MX I J T) else none) else none) :=
  (bx_eq [] d 200 7 6 _ _ _).symm.trans rfl
-- 201 String_checkIndex
set_option maxRecDepth 100000 in
theorem c201 (d : Nat) (x0 : Int32) (x1 : Int32) (I : PI) (J : PJ) (T : TL) : cal (d + 1) 201 [vi x0, vi x1] (MX I J T) = ret9 (den (d + 1) 201) 201 5 8 [some (vi x0), some (vi x1)] [] (cal d 202 [vi x0, vi x1, vu] (MX I J T)) :=
  (bx_eq [] (d + 1) 201 4 0 _ _ _).symm.trans rfl
set_option maxRecDepth 100000 in
theorem b201_8 (d : Nat) (x0 : Int32) (x1 : Int32) (v : Int32) (I : PI) (J : PJ) (T : TL) : den d 201 8 [some (vi x0), some (vi x1)] [vi v] (MX I J T) = some (.inl none, MX I J T) :=
  (bx_eq [] d 201 2 8 _ _ _).symm.trans rfl
-- 202 Preconditions_checkIndex
set_option maxRecDepth 100000 in
theorem c202 (d : Nat) (x0 : Int32) (x1 : Int32) (I : PI) (J : PJ) (T : TL) : cal d 202 [vi x0, vi x1, vu] (MX I J T) = (if x0 < 0 then none else (if x0 < x1 then some (.inl (some (vi x0)), MX I J T) else none)) :=
  ((bx_eq [] d 202 9 0 _ _ _).symm.trans rfl : _ = (if decide (x0 < 0) = true then none else (if decide (x0 < x1) = true then some (.inl (some (vi x0)), MX I J T) else none))).trans (by simp only [ite_dec])
-- 203 WFModel_stop
set_option maxRecDepth 100000 in
theorem c203 (d : Nat) (x1 : Int32) (I : PI) (J : PJ) (T : TL) : cal d 203 [vr 14 0, vi x1] (MX I J T) = some (.inl (some (vr 13 0)), MX (up3 (up3 I 13 0 5 x1) 13 0 6 (I 14 0 12)) J T) :=
  (bx_eq [] d 203 12 0 _ _ _).symm.trans rfl
-- 204 WFModel_isName
set_option maxRecDepth 100000 in
theorem c204 (d : Nat) (I : PI) (J : PJ) (T : TL) : cal (d + 1) 204 [vr 14 0] (MX I J T) = (if ¬ (I 14 0 11) = 2 then some (.inl (some (vi 0)), MX I J T) else ret9 (den (d + 1) 204) 204 11 14 [some (vr 14 0)] [] (cal d 194 [vr 14 0, vr 80 1] (MX I J T))) :=
  ((bx_eq [] (d + 1) 204 7 0 _ _ _).symm.trans rfl : _ = (if decide (¬ (I 14 0 11) = 2) = true then some (.inl (some (vi 0)), MX I J T) else ret9 (den (d + 1) 204) 204 11 14 [some (vr 14 0)] [] (cal d 194 [vr 14 0, vr 80 1] (MX I J T)))).trans (by simp only [ite_dec])
set_option maxRecDepth 100000 in
theorem b204_14 (d : Nat) (v : Int32) (I : PI) (J : PJ) (T : TL) : den (d + 1) 204 14 [some (vr 14 0)] [vi v] (MX I J T) = (if ¬ v = 0 then some (.inl (some (vi 0)), MX I J T) else ret9 (den (d + 1) 204) 204 20 23 [some (vr 14 0)] [] (cal d 194 [vr 14 0, vr 80 2] (MX I J T))) :=
  ((bx_eq [] (d + 1) 204 4 14 _ _ _).symm.trans rfl : _ = (if decide (¬ v = 0) = true then some (.inl (some (vi 0)), MX I J T) else ret9 (den (d + 1) 204) 204 20 23 [some (vr 14 0)] [] (cal d 194 [vr 14 0, vr 80 2] (MX I J T)))).trans (by simp only [ite_dec])
set_option maxRecDepth 100000 in
theorem b204_23 (d : Nat) (v : Int32) (I : PI) (J : PJ) (T : TL) : den (d + 1) 204 23 [some (vr 14 0)] [vi v] (MX I J T) = (if ¬ v = 0 then some (.inl (some (vi 0)), MX I J T) else ret9 (den (d + 1) 204) 204 27 30 [some (vr 14 0)] [] (cal d 205 [vr 14 0] (MX I J T))) :=
  ((bx_eq [] (d + 1) 204 3 23 _ _ _).symm.trans rfl : _ = (if decide (¬ v = 0) = true then some (.inl (some (vi 0)), MX I J T) else ret9 (den (d + 1) 204) 204 27 30 [some (vr 14 0)] [] (cal d 205 [vr 14 0] (MX I J T)))).trans (by simp only [ite_dec])
set_option maxRecDepth 100000 in
theorem b204_30 (d : Nat) (v : Int32) (I : PI) (J : PJ) (T : TL) : den (d + 1) 204 30 [some (vr 14 0)] [vi v] (MX I J T) = (if ¬ v = (-1) then some (.inl (some (vi 0)), MX I J T) else ret9 (den (d + 1) 204) 204 37 40 [some (vr 14 0)] [] (cal d 194 [vr 14 0, vr 80 7] (MX I J T))) :=
  ((bx_eq [] (d + 1) 204 5 30 _ _ _).symm.trans rfl : _ = (if decide (¬ v = (-1)) = true then some (.inl (some (vi 0)), MX I J T) else ret9 (den (d + 1) 204) 204 37 40 [some (vr 14 0)] [] (cal d 194 [vr 14 0, vr 80 7] (MX I J T)))).trans (by simp only [ite_dec])
set_option maxRecDepth 100000 in
theorem b204_40 (d : Nat) (v : Int32) (I : PI) (J : PJ) (T : TL) : den (d + 1) 204 40 [some (vr 14 0)] [vi v] (MX I J T) = (if ¬ v = 0 then some (.inl (some (vi 0)), MX I J T) else ret9 (den (d + 1) 204) 204 46 49 [some (vr 14 0)] [] (cal d 194 [vr 14 0, vr 80 8] (MX I J T))) :=
  ((bx_eq [] (d + 1) 204 4 40 _ _ _).symm.trans rfl : _ = (if decide (¬ v = 0) = true then some (.inl (some (vi 0)), MX I J T) else ret9 (den (d + 1) 204) 204 46 49 [some (vr 14 0)] [] (cal d 194 [vr 14 0, vr 80 8] (MX I J T)))).trans (by simp only [ite_dec])
set_option maxRecDepth 100000 in
theorem b204_49 (d : Nat) (v : Int32) (I : PI) (J : PJ) (T : TL) : den d 204 49 [some (vr 14 0)] [vi v] (MX I J T) = (if ¬ v = 0 then some (.inl (some (vi 0)), MX I J T) else some (.inl (some (vi 1)), MX I J T)) :=
  ((bx_eq [] d 204 4 49 _ _ _).symm.trans rfl : _ = (if decide (¬ v = 0) = true then some (.inl (some (vi 0)), MX I J T) else some (.inl (some (vi 1)), MX I J T))).trans (by simp only [ite_dec])
-- 205 WFModel_thing
set_option maxRecDepth 100000 in
theorem c205 (d : Nat) (I : PI) (J : PJ) (T : TL) : cal (d + 1) 205 [vr 14 0] (MX I J T) = ret9 (den (d + 1) 205) 205 3 6 [some (vr 14 0)] [] (cal d 194 [vr 14 0, vr 80 3] (MX I J T)) :=
  (bx_eq [] (d + 1) 205 3 0 _ _ _).symm.trans rfl
set_option maxRecDepth 100000 in
theorem b205_6 (d : Nat) (v : Int32) (I : PI) (J : PJ) (T : TL) : den (d + 1) 205 6 [some (vr 14 0)] [vi v] (MX I J T) = (if v = 0 then ret9 (den (d + 1) 205) 205 17 20 [some (vr 14 0)] [] (cal d 194 [vr 14 0, vr 80 4] (MX I J T)) else some (.inl (some (vi 100)), MX I J T)) :=
  ((bx_eq [] (d + 1) 205 4 6 _ _ _).symm.trans rfl : _ = (if decide (v = 0) = true then ret9 (den (d + 1) 205) 205 17 20 [some (vr 14 0)] [] (cal d 194 [vr 14 0, vr 80 4] (MX I J T)) else some (.inl (some (vi 100)), MX I J T))).trans (by simp only [ite_dec])
set_option maxRecDepth 100000 in
theorem b205_20 (d : Nat) (v : Int32) (I : PI) (J : PJ) (T : TL) : den (d + 1) 205 20 [some (vr 14 0)] [vi v] (MX I J T) = (if v = 0 then ret9 (den (d + 1) 205) 205 31 34 [some (vr 14 0)] [] (cal d 194 [vr 14 0, vr 80 5] (MX I J T)) else some (.inl (some (vi 101)), MX I J T)) :=
  ((bx_eq [] (d + 1) 205 4 20 _ _ _).symm.trans rfl : _ = (if decide (v = 0) = true then ret9 (den (d + 1) 205) 205 31 34 [some (vr 14 0)] [] (cal d 194 [vr 14 0, vr 80 5] (MX I J T)) else some (.inl (some (vi 101)), MX I J T))).trans (by simp only [ite_dec])
set_option maxRecDepth 100000 in
theorem b205_34 (d : Nat) (v : Int32) (I : PI) (J : PJ) (T : TL) : den (d + 1) 205 34 [some (vr 14 0)] [vi v] (MX I J T) = (if v = 0 then ret9 (den (d + 1) 205) 205 45 48 [some (vr 14 0)] [] (cal d 194 [vr 14 0, vr 80 6] (MX I J T)) else some (.inl (some (vi 102)), MX I J T)) :=
  ((bx_eq [] (d + 1) 205 4 34 _ _ _).symm.trans rfl : _ = (if decide (v = 0) = true then ret9 (den (d + 1) 205) 205 45 48 [some (vr 14 0)] [] (cal d 194 [vr 14 0, vr 80 6] (MX I J T)) else some (.inl (some (vi 102)), MX I J T))).trans (by simp only [ite_dec])
set_option maxRecDepth 100000 in
theorem b205_48 (d : Nat) (v : Int32) (I : PI) (J : PJ) (T : TL) : den d 205 48 [some (vr 14 0)] [vi v] (MX I J T) = (if v = 0 then some (.inl (some (vi (-1))), MX I J T) else some (.inl (some (vi 103)), MX I J T)) :=
  ((bx_eq [] d 205 4 48 _ _ _).symm.trans rfl : _ = (if decide (v = 0) = true then some (.inl (some (vi (-1))), MX I J T) else some (.inl (some (vi 103)), MX I J T))).trans (by simp only [ite_dec])
-- 206 WFModel_Book_has
set_option maxRecDepth 100000 in
theorem c206 (d : Nat) (b : Nat) (y1 : Int64) (I : PI) (J : PJ) (T : TL) : cal d 206 [vr 12 b, vl y1] (MX I J T) = den d 206 2 [some (vr 12 b), some (vl y1), none, some (vi 0)] [] (MX I J T) :=
  (bx_eq [2] d 206 2 0 _ _ _).symm.trans rfl
set_option maxRecDepth 100000 in
theorem b206_2 (d : Nat) (b : Nat) (y1 : Int64) (x3 : Int32) (I : PI) (J : PJ) (T : TL) : den d 206 2 [some (vr 12 b), some (vl y1), none, some (vi x3)] [] (MX I J T) = (if (I 12 b 0) ≤ x3 then some (.inl (some (vi 0)), MX I J T) else (if inR x3 6 = true then (if ¬ (lg_cmp (J 42 (b + 2) (Int32.toNatClampNeg x3)) y1) = 0 then den d 206 2 [some (vr 12 b), some (vl y1), none, some (vi (x3 + 1))] [] (MX I J T) else some (.inl (some (vi 1)), MX I J T)) else none)) :=
  ((bx_eq [2] d 206 13 2 _ _ _).symm.trans rfl : _ = (if decide ((I 12 b 0) ≤ x3) = true then some (.inl (some (vi 0)), MX I J T) else (if inR x3 6 = true then (if decide (¬ (lg_cmp (J 42 (b + 2) (Int32.toNatClampNeg x3)) y1) = 0) = true then den d 206 2 [some (vr 12 b), some (vl y1), none, some (vi (x3 + 1))] [] (MX I J T) else some (.inl (some (vi 1)), MX I J T)) else none))).trans (by simp only [ite_dec])
-- 207 WFModel_readWorth
set_option maxRecDepth 100000 in
theorem c207 (d : Nat) (I : PI) (J : PJ) (T : TL) : cal (d + 1) 207 [vr 14 0] (MX I J T) = ret9 (den (d + 1) 207) 207 12 15 [some (vr 14 0), none] [] (cal d 208 [vr 14 0, vi 0] (MX (up3 (up3 I 14 0 20 0) 14 0 21 0) J T)) :=
  (bx_eq [17] (d + 1) 207 9 0 _ _ _).symm.trans rfl
set_option maxRecDepth 100000 in
theorem b207_15 (d : Nat) (I : PI) (J : PJ) (T : TL) : den d 207 15 [some (vr 14 0), none] [] (MX I J T) = den d 207 17 [some (vr 14 0), some (vi 1)] [] (MX I J T) :=
  (bx_eq [17] d 207 2 15 _ _ _).symm.trans rfl
set_option maxRecDepth 100000 in
theorem b207_17 (d : Nat) (x1 : Int32) (I : PI) (J : PJ) (T : TL) : den (d + 1) 207 17 [some (vr 14 0), some (vi x1)] [] (MX I J T) = (if x1 = 0 then some (.inl none, MX I J T) else ret9 (den (d + 1) 207) 207 22 25 [some (vr 14 0), some (vi x1)] [] (cal d 209 [vr 14 0] (MX I J T))) :=
  ((bx_eq [17] (d + 1) 207 4 17 _ _ _).symm.trans rfl : _ = (if decide (x1 = 0) = true then some (.inl none, MX I J T) else ret9 (den (d + 1) 207) 207 22 25 [some (vr 14 0), some (vi x1)] [] (cal d 209 [vr 14 0] (MX I J T)))).trans (by simp only [ite_dec])
set_option maxRecDepth 100000 in
theorem b207_25 (d : Nat) (x1 : Int32) (v : Int32) (I : PI) (J : PJ) (T : TL) : den (d + 1) 207 25 [some (vr 14 0), some (vi x1)] [vi v] (MX I J T) = (if ¬ v = 0 then ret9 (den (d + 1) 207) 207 32 35 [some (vr 14 0), some (vi x1)] [] (cal d 213 [vr 14 0] (MX I J T)) else den (d + 1) 207 17 [some (vr 14 0), some (vi x1)] [] (MX I J T)) :=
  ((bx_eq [17] (d + 1) 207 3 25 _ _ _).symm.trans rfl : _ = (if decide (¬ v = 0) = true then ret9 (den (d + 1) 207) 207 32 35 [some (vr 14 0), some (vi x1)] [] (cal d 213 [vr 14 0] (MX I J T)) else den (d + 1) 207 17 [some (vr 14 0), some (vi x1)] [] (MX I J T))).trans (by simp only [ite_dec])
set_option maxRecDepth 100000 in
theorem b207_35 (d : Nat) (x1 : Int32) (v : Int32) (I : PI) (J : PJ) (T : TL) : den d 207 35 [some (vr 14 0), some (vi x1)] [vi v] (MX I J T) = (if ¬ v = 0 then den d 207 17 [some (vr 14 0), some (vi 0)] [] (MX I J T) else den d 207 17 [some (vr 14 0), some (vi 1)] [] (MX I J T)) :=
  ((bx_eq [17] d 207 5 35 _ _ _).symm.trans rfl : _ = (if decide (¬ v = 0) = true then den d 207 17 [some (vr 14 0), some (vi 0)] [] (MX I J T) else den d 207 17 [some (vr 14 0), some (vi 1)] [] (MX I J T))).trans (by simp only [ite_dec])
-- 208 WFModel_begins
set_option maxRecDepth 100000 in
theorem c208 (d : Nat) (x1 : Int32) (I : PI) (J : PJ) (T : TL) : cal d 208 [vr 14 0, vi x1] (MX I J T) = (if inR (I 14 0 20) 6 = true then (if inR (I 14 0 20) 6 = true then (if inR (I 14 0 20) 6 = true then (if inR (I 14 0 20) 6 = true then some (.inl none, MX (up3 (up3 (up3 (up3 I 21 7 (Int32.toNatClampNeg (I 14 0 20)) x1) 21 8 (Int32.toNatClampNeg (I 14 0 20)) 0) 21 9 (Int32.toNatClampNeg (I 14 0 20)) 0) 38 2 (Int32.toNatClampNeg (I 14 0 20)) 0) J T) else none) else none) else none) else none) :=
  (bx_eq [] d 208 25 0 _ _ _).symm.trans rfl
-- 209 WFModel_readFactor
set_option maxRecDepth 100000 in
theorem c209 (d : Nat) (b : Nat) (I : PI) (J : PJ) (T : TL) : cal (d + 1) 209 [vr 14 0] (MX I J (TF T b)) = ret9 (den (d + 1) 209) 209 3 6 [some (vr 14 0), none, none] [] (cal d 194 [vr 14 0, vr 80 7] (MX I J (TF T b))) :=
  (bx_eq [9, 18, 22, 23, 24, 32, 40, 44, 53, 59, 67, 76, 82, 91, 97, 111, 120, 125, 127, 128, 139, 148, 155, 167, 174, 178] (d + 1) 209 3 0 _ _ _).symm.trans rfl
set_option maxRecDepth 100000 in
theorem b209_6 (d : Nat) (v : Int32) (b : Nat) (I : PI) (J : PJ) (T : TL) : den d 209 6 [some (vr 14 0), none, none] [vi v] (MX I J (TF T b)) = (if ¬ v = 0 then den d 209 18 [some (vr 14 0), none, none] [] (MX I J (TF T b)) else den d 209 9 [some (vr 14 0), none, none] [] (MX I J (TF T b))) :=
  ((bx_eq [9, 18, 22, 23, 24, 32, 40, 44, 53, 59, 67, 76, 82, 91, 97, 111, 120, 125, 127, 128, 139, 148, 155, 167, 174, 178] d 209 1 6 _ _ _).symm.trans rfl : _ = (if decide (¬ v = 0) = true then den d 209 18 [some (vr 14 0), none, none] [] (MX I J (TF T b)) else den d 209 9 [some (vr 14 0), none, none] [] (MX I J (TF T b)))).trans (by simp only [ite_dec])
set_option maxRecDepth 100000 in
theorem b209_9 (d : Nat) (b : Nat) (I : PI) (J : PJ) (T : TL) : den (d + 1) 209 9 [some (vr 14 0), none, none] [] (MX I J (TF T b)) = ret9 (den (d + 1) 209) 209 12 15 [some (vr 14 0), none, none] [] (cal d 194 [vr 14 0, vr 80 8] (MX I J (TF T b))) :=
  (bx_eq [9, 18, 22, 23, 24, 32, 40, 44, 53, 59, 67, 76, 82, 91, 97, 111, 120, 125, 127, 128, 139, 148, 155, 167, 174, 178] (d + 1) 209 3 9 _ _ _).symm.trans rfl
set_option maxRecDepth 100000 in
theorem b209_15 (d : Nat) (v : Int32) (b : Nat) (I : PI) (J : PJ) (T : TL) : den d 209 15 [some (vr 14 0), none, none] [vi v] (MX I J (TF T b)) = (if v = 0 then den d 209 22 [some (vr 14 0), none, none] [] (MX I J (TF T b)) else den d 209 18 [some (vr 14 0), none, none] [] (MX I J (TF T b))) :=
  ((bx_eq [9, 18, 22, 23, 24, 32, 40, 44, 53, 59, 67, 76, 82, 91, 97, 111, 120, 125, 127, 128, 139, 148, 155, 167, 174, 178] d 209 1 15 _ _ _).symm.trans rfl : _ = (if decide (v = 0) = true then den d 209 22 [some (vr 14 0), none, none] [] (MX I J (TF T b)) else den d 209 18 [some (vr 14 0), none, none] [] (MX I J (TF T b)))).trans (by simp only [ite_dec])
set_option maxRecDepth 100000 in
theorem b209_18 (d : Nat) (b : Nat) (I : PI) (J : PJ) (T : TL) : den d 209 18 [some (vr 14 0), none, none] [] (MX I J (TF T b)) = den d 209 23 [some (vr 14 0), none, none] [vi 1] (MX I J (TF T b)) :=
  (bx_eq [9, 18, 22, 23, 24, 32, 40, 44, 53, 59, 67, 76, 82, 91, 97, 111, 120, 125, 127, 128, 139, 148, 155, 167, 174, 178] d 209 2 18 _ _ _).symm.trans rfl
set_option maxRecDepth 100000 in
theorem b209_22 (d : Nat) (b : Nat) (I : PI) (J : PJ) (T : TL) : den d 209 22 [some (vr 14 0), none, none] [] (MX I J (TF T b)) = den d 209 23 [some (vr 14 0), none, none] [vi 0] (MX I J (TF T b)) :=
  (bx_eq [9, 18, 22, 23, 24, 32, 40, 44, 53, 59, 67, 76, 82, 91, 97, 111, 120, 125, 127, 128, 139, 148, 155, 167, 174, 178] d 209 1 22 _ _ _).symm.trans rfl
set_option maxRecDepth 100000 in
theorem b209_23 (d : Nat) (s0 : Int32) (b : Nat) (I : PI) (J : PJ) (T : TL) : den d 209 23 [some (vr 14 0), none, none] [vi s0] (MX I J (TF T b)) = den d 209 24 [some (vr 14 0), some (vi s0), none] [] (MX I J (TF T b)) :=
  (bx_eq [9, 18, 22, 23, 24, 32, 40, 44, 53, 59, 67, 76, 82, 91, 97, 111, 120, 125, 127, 128, 139, 148, 155, 167, 174, 178] d 209 1 23 _ _ _).symm.trans rfl
set_option maxRecDepth 100000 in
theorem b209_24 (d : Nat) (x1 : Int32) (b : Nat) (I : PI) (J : PJ) (T : TL) : den d 209 24 [some (vr 14 0), some (vi x1), none] [] (MX I J (TF T b)) = (if (I 14 0 11) = 3 then den d 209 59 [some (vr 14 0), some (vi x1), none] [] (MX I J (TF T b)) else den d 209 32 [some (vr 14 0), some (vi x1), none] [] (MX I J (TF T b))) :=
  ((bx_eq [9, 18, 22, 23, 24, 32, 40, 44, 53, 59, 67, 76, 82, 91, 97, 111, 120, 125, 127, 128, 139, 148, 155, 167, 174, 178] d 209 4 24 _ _ _).symm.trans rfl : _ = (if decide ((I 14 0 11) = 3) = true then den d 209 59 [some (vr 14 0), some (vi x1), none] [] (MX I J (TF T b)) else den d 209 32 [some (vr 14 0), some (vi x1), none] [] (MX I J (TF T b)))).trans (by simp only [ite_dec])
set_option maxRecDepth 100000 in
theorem b209_32 (d : Nat) (x1 : Int32) (b : Nat) (I : PI) (J : PJ) (T : TL) : den (d + 1) 209 32 [some (vr 14 0), some (vi x1), none] [] (MX I J (TF T b)) = ret9 (den (d + 1) 209) 209 33 36 [some (vr 14 0), some (vi x1), none] [] (cal d 205 [vr 14 0] (MX I J (TF T b))) :=
  (bx_eq [9, 18, 22, 23, 24, 32, 40, 44, 53, 59, 67, 76, 82, 91, 97, 111, 120, 125, 127, 128, 139, 148, 155, 167, 174, 178] (d + 1) 209 2 32 _ _ _).symm.trans rfl
set_option maxRecDepth 100000 in
theorem b209_36 (d : Nat) (x1 : Int32) (v : Int32) (b : Nat) (I : PI) (J : PJ) (T : TL) : den d 209 36 [some (vr 14 0), some (vi x1), none] [vi v] (MX I J (TF T b)) = (if ¬ v = (-1) then den d 209 59 [some (vr 14 0), some (vi x1), none] [] (MX I J (TF T b)) else den d 209 40 [some (vr 14 0), some (vi x1), none] [] (MX I J (TF T b))) :=
  ((bx_eq [9, 18, 22, 23, 24, 32, 40, 44, 53, 59, 67, 76, 82, 91, 97, 111, 120, 125, 127, 128, 139, 148, 155, 167, 174, 178] d 209 2 36 _ _ _).symm.trans rfl : _ = (if decide (¬ v = (-1)) = true then den d 209 59 [some (vr 14 0), some (vi x1), none] [] (MX I J (TF T b)) else den d 209 40 [some (vr 14 0), some (vi x1), none] [] (MX I J (TF T b)))).trans (by simp only [ite_dec])
set_option maxRecDepth 100000 in
theorem b209_40 (d : Nat) (x1 : Int32) (b : Nat) (I : PI) (J : PJ) (T : TL) : den d 209 40 [some (vr 14 0), some (vi x1), none] [] (MX I J (TF T b)) = (if ¬ x1 = 0 then den d 209 59 [some (vr 14 0), some (vi x1), none] [] (MX I J (TF T b)) else den d 209 44 [some (vr 14 0), some (vi x1), none] [] (MX I J (TF T b))) :=
  ((bx_eq [9, 18, 22, 23, 24, 32, 40, 44, 53, 59, 67, 76, 82, 91, 97, 111, 120, 125, 127, 128, 139, 148, 155, 167, 174, 178] d 209 2 40 _ _ _).symm.trans rfl : _ = (if decide (¬ x1 = 0) = true then den d 209 59 [some (vr 14 0), some (vi x1), none] [] (MX I J (TF T b)) else den d 209 44 [some (vr 14 0), some (vi x1), none] [] (MX I J (TF T b)))).trans (by simp only [ite_dec])
set_option maxRecDepth 100000 in
theorem b209_44 (d : Nat) (x1 : Int32) (b : Nat) (I : PI) (J : PJ) (T : TL) : den (d + 1) 209 44 [some (vr 14 0), some (vi x1), none] [] (MX I J (TF T b)) = ret9 (den (d + 1) 209) 209 47 50 [some (vr 14 0), some (vi x1), none] [] (cal d 210 [vr 14 0, vi 40] (MX I J (TF T b))) :=
  (bx_eq [9, 18, 22, 23, 24, 32, 40, 44, 53, 59, 67, 76, 82, 91, 97, 111, 120, 125, 127, 128, 139, 148, 155, 167, 174, 178] (d + 1) 209 3 44 _ _ _).symm.trans rfl
set_option maxRecDepth 100000 in
theorem b209_50 (d : Nat) (x1 : Int32) (v : Int32) (b : Nat) (I : PI) (J : PJ) (T : TL) : den d 209 50 [some (vr 14 0), some (vi x1), none] [vi v] (MX I J (TF T b)) = (if ¬ v = 0 then den d 209 59 [some (vr 14 0), some (vi x1), none] [] (MX I J (TF T b)) else den d 209 53 [some (vr 14 0), some (vi x1), none] [] (MX I J (TF T b))) :=
  ((bx_eq [9, 18, 22, 23, 24, 32, 40, 44, 53, 59, 67, 76, 82, 91, 97, 111, 120, 125, 127, 128, 139, 148, 155, 167, 174, 178] d 209 1 50 _ _ _).symm.trans rfl : _ = (if decide (¬ v = 0) = true then den d 209 59 [some (vr 14 0), some (vi x1), none] [] (MX I J (TF T b)) else den d 209 53 [some (vr 14 0), some (vi x1), none] [] (MX I J (TF T b)))).trans (by simp only [ite_dec])
set_option maxRecDepth 100000 in
theorem b209_53 (d : Nat) (x1 : Int32) (b : Nat) (I : PI) (J : PJ) (T : TL) : den (d + 1) 209 53 [some (vr 14 0), some (vi x1), none] [] (MX I J (TF T b)) = ret9 (den (d + 1) 209) 209 55 58 [some (vr 14 0), some (vi x1), none] [] (cal d 203 [vr 14 0, vi 1] (MX I J (TF T b))) :=
  (bx_eq [9, 18, 22, 23, 24, 32, 40, 44, 53, 59, 67, 76, 82, 91, 97, 111, 120, 125, 127, 128, 139, 148, 155, 167, 174, 178] (d + 1) 209 3 53 _ _ _).symm.trans rfl
set_option maxRecDepth 100000 in
theorem b209_58 (d : Nat) (x1 : Int32) (b : Nat) (I : PI) (J : PJ) (T : TL) : den d 209 58 [some (vr 14 0), some (vi x1), none] [vr 13 0] (MX I J (TF T b)) = some (.inr (1, vr 13 0), MX I J (TF T b)) :=
  (bx_eq [9, 18, 22, 23, 24, 32, 40, 44, 53, 59, 67, 76, 82, 91, 97, 111, 120, 125, 127, 128, 139, 148, 155, 167, 174, 178] d 209 1 58 _ _ _).symm.trans rfl
set_option maxRecDepth 100000 in
theorem b209_59 (d : Nat) (x1 : Int32) (b : Nat) (I : PI) (J : PJ) (T : TL) : den d 209 59 [some (vr 14 0), some (vi x1), none] [] (MX I J (TF T b)) = (if ¬ (I 14 0 11) = 3 then den d 209 82 [some (vr 14 0), some (vi x1), none] [] (MX I J (TF T b)) else den d 209 67 [some (vr 14 0), some (vi x1), none] [] (MX I J (TF T b))) :=
  ((bx_eq [9, 18, 22, 23, 24, 32, 40, 44, 53, 59, 67, 76, 82, 91, 97, 111, 120, 125, 127, 128, 139, 148, 155, 167, 174, 178] d 209 4 59 _ _ _).symm.trans rfl : _ = (if decide (¬ (I 14 0 11) = 3) = true then den d 209 82 [some (vr 14 0), some (vi x1), none] [] (MX I J (TF T b)) else den d 209 67 [some (vr 14 0), some (vi x1), none] [] (MX I J (TF T b)))).trans (by simp only [ite_dec])
set_option maxRecDepth 100000 in
theorem b209_67 (d : Nat) (x1 : Int32) (b : Nat) (I : PI) (J : PJ) (T : TL) : den d 209 67 [some (vr 14 0), some (vi x1), none] [] (MX I J (TF T b)) = (if (I 14 0 14) ≤ 99 then den d 209 82 [some (vr 14 0), some (vi x1), none] [] (MX I J (TF T b)) else den d 209 76 [some (vr 14 0), some (vi x1), none] [] (MX I J (TF T b))) :=
  ((bx_eq [9, 18, 22, 23, 24, 32, 40, 44, 53, 59, 67, 76, 82, 91, 97, 111, 120, 125, 127, 128, 139, 148, 155, 167, 174, 178] d 209 4 67 _ _ _).symm.trans rfl : _ = (if decide ((I 14 0 14) ≤ 99) = true then den d 209 82 [some (vr 14 0), some (vi x1), none] [] (MX I J (TF T b)) else den d 209 76 [some (vr 14 0), some (vi x1), none] [] (MX I J (TF T b)))).trans (by simp only [ite_dec])
set_option maxRecDepth 100000 in
theorem b209_76 (d : Nat) (x1 : Int32) (b : Nat) (I : PI) (J : PJ) (T : TL) : den (d + 1) 209 76 [some (vr 14 0), some (vi x1), none] [] (MX I J (TF T b)) = ret9 (den (d + 1) 209) 209 78 81 [some (vr 14 0), some (vi x1), none] [] (cal d 203 [vr 14 0, vi 4] (MX I J (TF T b))) :=
  (bx_eq [9, 18, 22, 23, 24, 32, 40, 44, 53, 59, 67, 76, 82, 91, 97, 111, 120, 125, 127, 128, 139, 148, 155, 167, 174, 178] (d + 1) 209 3 76 _ _ _).symm.trans rfl
set_option maxRecDepth 100000 in
theorem b209_81 (d : Nat) (x1 : Int32) (b : Nat) (I : PI) (J : PJ) (T : TL) : den d 209 81 [some (vr 14 0), some (vi x1), none] [vr 13 0] (MX I J (TF T b)) = some (.inr (1, vr 13 0), MX I J (TF T b)) :=
  (bx_eq [9, 18, 22, 23, 24, 32, 40, 44, 53, 59, 67, 76, 82, 91, 97, 111, 120, 125, 127, 128, 139, 148, 155, 167, 174, 178] d 209 1 81 _ _ _).symm.trans rfl
set_option maxRecDepth 100000 in
theorem b209_82 (d : Nat) (x1 : Int32) (b : Nat) (I : PI) (J : PJ) (T : TL) : den d 209 82 [some (vr 14 0), some (vi x1), none] [] (MX I J (TF T b)) = (if ¬ (I 14 0 21) = 20 then den d 209 97 [some (vr 14 0), some (vi x1), none] [] (MX I J (TF T b)) else den d 209 91 [some (vr 14 0), some (vi x1), none] [] (MX I J (TF T b))) :=
  ((bx_eq [9, 18, 22, 23, 24, 32, 40, 44, 53, 59, 67, 76, 82, 91, 97, 111, 120, 125, 127, 128, 139, 148, 155, 167, 174, 178] d 209 4 82 _ _ _).symm.trans rfl : _ = (if decide (¬ (I 14 0 21) = 20) = true then den d 209 97 [some (vr 14 0), some (vi x1), none] [] (MX I J (TF T b)) else den d 209 91 [some (vr 14 0), some (vi x1), none] [] (MX I J (TF T b)))).trans (by simp only [ite_dec])
set_option maxRecDepth 100000 in
theorem b209_91 (d : Nat) (x1 : Int32) (b : Nat) (I : PI) (J : PJ) (T : TL) : den (d + 1) 209 91 [some (vr 14 0), some (vi x1), none] [] (MX I J (TF T b)) = ret9 (den (d + 1) 209) 209 93 96 [some (vr 14 0), some (vi x1), none] [] (cal d 203 [vr 14 0, vi 5] (MX I J (TF T b))) :=
  (bx_eq [9, 18, 22, 23, 24, 32, 40, 44, 53, 59, 67, 76, 82, 91, 97, 111, 120, 125, 127, 128, 139, 148, 155, 167, 174, 178] (d + 1) 209 3 91 _ _ _).symm.trans rfl
set_option maxRecDepth 100000 in
theorem b209_96 (d : Nat) (x1 : Int32) (b : Nat) (I : PI) (J : PJ) (T : TL) : den d 209 96 [some (vr 14 0), some (vi x1), none] [vr 13 0] (MX I J (TF T b)) = some (.inr (1, vr 13 0), MX I J (TF T b)) :=
  (bx_eq [9, 18, 22, 23, 24, 32, 40, 44, 53, 59, 67, 76, 82, 91, 97, 111, 120, 125, 127, 128, 139, 148, 155, 167, 174, 178] d 209 1 96 _ _ _).symm.trans rfl
set_option maxRecDepth 100000 in
theorem b209_97 (d : Nat) (x1 : Int32) (b : Nat) (I : PI) (J : PJ) (T : TL) : den d 209 97 [some (vr 14 0), some (vi x1), none] [] (MX I J (TF T b)) = (if x1 = 0 then den d 209 139 [some (vr 14 0), some (vi x1), none] [] (MX (up3 I 14 0 21 ((I 14 0 21) + 1)) J (TF T b)) else den d 209 111 [some (vr 14 0), some (vi x1), none] [] (MX (up3 I 14 0 21 ((I 14 0 21) + 1)) J (TF T b))) :=
  ((bx_eq [9, 18, 22, 23, 24, 32, 40, 44, 53, 59, 67, 76, 82, 91, 97, 111, 120, 125, 127, 128, 139, 148, 155, 167, 174, 178] d 209 8 97 _ _ _).symm.trans rfl : _ = (if decide (x1 = 0) = true then den d 209 139 [some (vr 14 0), some (vi x1), none] [] (MX (up3 I 14 0 21 ((I 14 0 21) + 1)) J (TF T b)) else den d 209 111 [some (vr 14 0), some (vi x1), none] [] (MX (up3 I 14 0 21 ((I 14 0 21) + 1)) J (TF T b)))).trans (by simp only [ite_dec])
set_option maxRecDepth 100000 in
theorem b209_111 (d : Nat) (x1 : Int32) (b : Nat) (I : PI) (J : PJ) (T : TL) : den (d + 1) 209 111 [some (vr 14 0), some (vi x1), none] [] (MX I J (TF T b)) = ret9 (den (d + 1) 209) 209 114 117 [some (vr 14 0), some (vi x1), none] [] (cal d 194 [vr 14 0, vr 80 7] (MX I J (TF T b))) :=
  (bx_eq [9, 18, 22, 23, 24, 32, 40, 44, 53, 59, 67, 76, 82, 91, 97, 111, 120, 125, 127, 128, 139, 148, 155, 167, 174, 178] (d + 1) 209 3 111 _ _ _).symm.trans rfl
set_option maxRecDepth 100000 in
theorem b209_117 (d : Nat) (x1 : Int32) (v : Int32) (b : Nat) (I : PI) (J : PJ) (T : TL) : den d 209 117 [some (vr 14 0), some (vi x1), none] [vi v] (MX I J (TF T b)) = (if v = 0 then den d 209 125 [some (vr 14 0), some (vi x1), none] [] (MX I J (TF T b)) else den d 209 120 [some (vr 14 0), some (vi x1), none] [] (MX I J (TF T b))) :=
  ((bx_eq [9, 18, 22, 23, 24, 32, 40, 44, 53, 59, 67, 76, 82, 91, 97, 111, 120, 125, 127, 128, 139, 148, 155, 167, 174, 178] d 209 1 117 _ _ _).symm.trans rfl : _ = (if decide (v = 0) = true then den d 209 125 [some (vr 14 0), some (vi x1), none] [] (MX I J (TF T b)) else den d 209 120 [some (vr 14 0), some (vi x1), none] [] (MX I J (TF T b)))).trans (by simp only [ite_dec])
set_option maxRecDepth 100000 in
theorem b209_120 (d : Nat) (x1 : Int32) (b : Nat) (I : PI) (J : PJ) (T : TL) : den d 209 120 [some (vr 14 0), some (vi x1), none] [] (MX I J (TF T b)) = den d 209 127 [some (vr 14 0), some (vi x1), none] [vi 113] (MX I J (TF T b)) :=
  (bx_eq [9, 18, 22, 23, 24, 32, 40, 44, 53, 59, 67, 76, 82, 91, 97, 111, 120, 125, 127, 128, 139, 148, 155, 167, 174, 178] d 209 2 120 _ _ _).symm.trans rfl
set_option maxRecDepth 100000 in
theorem b209_125 (d : Nat) (x1 : Int32) (b : Nat) (I : PI) (J : PJ) (T : TL) : den d 209 125 [some (vr 14 0), some (vi x1), none] [] (MX I J (TF T b)) = den d 209 127 [some (vr 14 0), some (vi x1), none] [vi 114] (MX I J (TF T b)) :=
  (bx_eq [9, 18, 22, 23, 24, 32, 40, 44, 53, 59, 67, 76, 82, 91, 97, 111, 120, 125, 127, 128, 139, 148, 155, 167, 174, 178] d 209 1 125 _ _ _).symm.trans rfl
set_option maxRecDepth 100000 in
theorem b209_127 (d : Nat) (x1 : Int32) (s0 : Int32) (b : Nat) (I : PI) (J : PJ) (T : TL) : den d 209 127 [some (vr 14 0), some (vi x1), none] [vi s0] (MX I J (TF T b)) = den d 209 128 [some (vr 14 0), some (vi x1), some (vi s0)] [] (MX I J (TF T b)) :=
  (bx_eq [9, 18, 22, 23, 24, 32, 40, 44, 53, 59, 67, 76, 82, 91, 97, 111, 120, 125, 127, 128, 139, 148, 155, 167, 174, 178] d 209 1 127 _ _ _).symm.trans rfl
set_option maxRecDepth 100000 in
theorem b209_128 (d : Nat) (x1 : Int32) (x2 : Int32) (b : Nat) (I : PI) (J : PJ) (T : TL) : den (d + 1) 209 128 [some (vr 14 0), some (vi x1), some (vi x2)] [] (MX I J (TF T b)) = ret9 (den (d + 1) 209) 209 129 132 [some (vr 14 0), some (vi x1), some (vi x2)] [] (cal d 189 [vr 14 0] (MX I J (TF T b))) :=
  (bx_eq [9, 18, 22, 23, 24, 32, 40, 44, 53, 59, 67, 76, 82, 91, 97, 111, 120, 125, 127, 128, 139, 148, 155, 167, 174, 178] (d + 1) 209 2 128 _ _ _).symm.trans rfl
set_option maxRecDepth 100000 in
theorem b209_132 (d : Nat) (x1 : Int32) (x2 : Int32) (b : Nat) (I : PI) (J : PJ) (T : TL) : den (d + 1) 209 132 [some (vr 14 0), some (vi x1), some (vi x2)] [] (MX I J (TF T b)) = ret9 (den (d + 1) 209) 209 134 137 [some (vr 14 0), some (vi x1), some (vi x2)] [] (cal d 211 [vr 14 0, vi x2] (MX I J (TF T b))) :=
  (bx_eq [9, 18, 22, 23, 24, 32, 40, 44, 53, 59, 67, 76, 82, 91, 97, 111, 120, 125, 127, 128, 139, 148, 155, 167, 174, 178] (d + 1) 209 3 132 _ _ _).symm.trans rfl
set_option maxRecDepth 100000 in
theorem b209_137 (d : Nat) (x1 : Int32) (x2 : Int32) (b : Nat) (I : PI) (J : PJ) (T : TL) : den d 209 137 [some (vr 14 0), some (vi x1), some (vi x2)] [] (MX I J (TF T b)) = some (.inl (some (vi 0)), MX I J (TF T b)) :=
  (bx_eq [9, 18, 22, 23, 24, 32, 40, 44, 53, 59, 67, 76, 82, 91, 97, 111, 120, 125, 127, 128, 139, 148, 155, 167, 174, 178] d 209 2 137 _ _ _).symm.trans rfl
set_option maxRecDepth 100000 in
theorem b209_139 (d : Nat) (x1 : Int32) (b : Nat) (I : PI) (J : PJ) (T : TL) : den (d + 1) 209 139 [some (vr 14 0), some (vi x1), none] [] (MX I J (TF T b)) = ret9 (den (d + 1) 209) 209 142 145 [some (vr 14 0), some (vi x1), none] [] (cal d 210 [vr 14 0, vi 40] (MX I J (TF T b))) :=
  (bx_eq [9, 18, 22, 23, 24, 32, 40, 44, 53, 59, 67, 76, 82, 91, 97, 111, 120, 125, 127, 128, 139, 148, 155, 167, 174, 178] (d + 1) 209 3 139 _ _ _).symm.trans rfl
set_option maxRecDepth 100000 in
theorem b209_145 (d : Nat) (x1 : Int32) (v : Int32) (b : Nat) (I : PI) (J : PJ) (T : TL) : den d 209 145 [some (vr 14 0), some (vi x1), none] [vi v] (MX I J (TF T b)) = (if v = 0 then den d 209 155 [some (vr 14 0), some (vi x1), none] [] (MX I J (TF T b)) else den d 209 148 [some (vr 14 0), some (vi x1), none] [] (MX I J (TF T b))) :=
  ((bx_eq [9, 18, 22, 23, 24, 32, 40, 44, 53, 59, 67, 76, 82, 91, 97, 111, 120, 125, 127, 128, 139, 148, 155, 167, 174, 178] d 209 1 145 _ _ _).symm.trans rfl : _ = (if decide (v = 0) = true then den d 209 155 [some (vr 14 0), some (vi x1), none] [] (MX I J (TF T b)) else den d 209 148 [some (vr 14 0), some (vi x1), none] [] (MX I J (TF T b)))).trans (by simp only [ite_dec])
set_option maxRecDepth 100000 in
theorem b209_148 (d : Nat) (x1 : Int32) (b : Nat) (I : PI) (J : PJ) (T : TL) : den (d + 1) 209 148 [some (vr 14 0), some (vi x1), none] [] (MX I J (TF T b)) = ret9 (den (d + 1) 209) 209 150 153 [some (vr 14 0), some (vi x1), none] [] (cal d 211 [vr 14 0, vi 0] (MX I J (TF T b))) :=
  (bx_eq [9, 18, 22, 23, 24, 32, 40, 44, 53, 59, 67, 76, 82, 91, 97, 111, 120, 125, 127, 128, 139, 148, 155, 167, 174, 178] (d + 1) 209 3 148 _ _ _).symm.trans rfl
set_option maxRecDepth 100000 in
theorem b209_153 (d : Nat) (x1 : Int32) (b : Nat) (I : PI) (J : PJ) (T : TL) : den d 209 153 [some (vr 14 0), some (vi x1), none] [] (MX I J (TF T b)) = some (.inl (some (vi 0)), MX I J (TF T b)) :=
  (bx_eq [9, 18, 22, 23, 24, 32, 40, 44, 53, 59, 67, 76, 82, 91, 97, 111, 120, 125, 127, 128, 139, 148, 155, 167, 174, 178] d 209 2 153 _ _ _).symm.trans rfl
set_option maxRecDepth 100000 in
theorem b209_155 (d : Nat) (x1 : Int32) (b : Nat) (I : PI) (J : PJ) (T : TL) : den d 209 155 [some (vr 14 0), some (vi x1), none] [] (MX I J (TF T b)) = (if ¬ (I 14 0 11) = 3 then den d 209 174 [some (vr 14 0), some (vi x1), none] [vr 12 b] (MX I J (TF T b)) else den d 209 167 [some (vr 14 0), some (vi x1), none] [vr 12 b] (MX I J (TF T b))) :=
  ((bx_eq [9, 18, 22, 23, 24, 32, 40, 44, 53, 59, 67, 76, 82, 91, 97, 111, 120, 125, 127, 128, 139, 148, 155, 167, 174, 178] d 209 6 155 _ _ _).symm.trans rfl : _ = (if decide (¬ (I 14 0 11) = 3) = true then den d 209 174 [some (vr 14 0), some (vi x1), none] [vr 12 b] (MX I J (TF T b)) else den d 209 167 [some (vr 14 0), some (vi x1), none] [vr 12 b] (MX I J (TF T b)))).trans (by simp only [ite_dec])
set_option maxRecDepth 100000 in
theorem b209_167 (d : Nat) (x1 : Int32) (b : Nat) (I : PI) (J : PJ) (T : TL) : den d 209 167 [some (vr 14 0), some (vi x1), none] [vr 12 b] (MX I J (TF T b)) = den d 209 178 [some (vr 14 0), some (vi x1), none] [vi (I 14 0 14), vr 12 b] (MX I J (TF T b)) :=
  (bx_eq [9, 18, 22, 23, 24, 32, 40, 44, 53, 59, 67, 76, 82, 91, 97, 111, 120, 125, 127, 128, 139, 148, 155, 167, 174, 178] d 209 3 167 _ _ _).symm.trans rfl
set_option maxRecDepth 100000 in
theorem b209_174 (d : Nat) (x1 : Int32) (b : Nat) (I : PI) (J : PJ) (T : TL) : den (d + 1) 209 174 [some (vr 14 0), some (vi x1), none] [vr 12 b] (MX I J (TF T b)) = ret9 (den (d + 1) 209) 209 175 178 [some (vr 14 0), some (vi x1), none] [vr 12 b] (cal d 205 [vr 14 0] (MX I J (TF T b))) :=
  (bx_eq [9, 18, 22, 23, 24, 32, 40, 44, 53, 59, 67, 76, 82, 91, 97, 111, 120, 125, 127, 128, 139, 148, 155, 167, 174, 178] (d + 1) 209 2 174 _ _ _).symm.trans rfl
set_option maxRecDepth 100000 in
theorem b209_178 (d : Nat) (x1 : Int32) (b : Nat) (s1 : Int32) (I : PI) (J : PJ) (T : TL) : den (d + 1) 209 178 [some (vr 14 0), some (vi x1), none] [vi s1, vr 12 b] (MX I J (TF T b)) = ret9 (den (d + 1) 209) 209 178 181 [some (vr 14 0), some (vi x1), none] [] (cal d 212 [vr 12 b, vi s1] (MX I J (TF T b))) :=
  (bx_eq [9, 18, 22, 23, 24, 32, 40, 44, 53, 59, 67, 76, 82, 91, 97, 111, 120, 125, 127, 128, 139, 148, 155, 167, 174, 178] (d + 1) 209 1 178 _ _ _).symm.trans rfl
set_option maxRecDepth 100000 in
theorem b209_181 (d : Nat) (x1 : Int32) (b : Nat) (I : PI) (J : PJ) (T : TL) : den (d + 1) 209 181 [some (vr 14 0), some (vi x1), none] [] (MX I J (TF T b)) = ret9 (den (d + 1) 209) 209 182 185 [some (vr 14 0), some (vi x1), none] [] (cal d 189 [vr 14 0] (MX I J (TF T b))) :=
  (bx_eq [9, 18, 22, 23, 24, 32, 40, 44, 53, 59, 67, 76, 82, 91, 97, 111, 120, 125, 127, 128, 139, 148, 155, 167, 174, 178] (d + 1) 209 2 181 _ _ _).symm.trans rfl
set_option maxRecDepth 100000 in
theorem b209_185 (d : Nat) (x1 : Int32) (b : Nat) (I : PI) (J : PJ) (T : TL) : den d 209 185 [some (vr 14 0), some (vi x1), none] [] (MX I J (TF T b)) = some (.inl (some (vi 1)), MX I J (TF T b)) :=
  (bx_eq [9, 18, 22, 23, 24, 32, 40, 44, 53, 59, 67, 76, 82, 91, 97, 111, 120, 125, 127, 128, 139, 148, 155, 167, 174, 178] d 209 2 185 _ _ _).symm.trans rfl
-- 210 WFModel_is
set_option maxRecDepth 100000 in
theorem c210 (d : Nat) (x1 : Int32) (I : PI) (J : PJ) (T : TL) : cal d 210 [vr 14 0, vi x1] (MX I J T) = (if ¬ (I 14 0 11) = 4 then some (.inl (some (vi 0)), MX I J T) else (if ¬ (I 14 0 13) = x1 then some (.inl (some (vi 0)), MX I J T) else some (.inl (some (vi 1)), MX I J T))) :=
  ((bx_eq [] d 210 11 0 _ _ _).symm.trans rfl : _ = (if decide (¬ (I 14 0 11) = 4) = true then some (.inl (some (vi 0)), MX I J T) else (if decide (¬ (I 14 0 13) = x1) = true then some (.inl (some (vi 0)), MX I J T) else some (.inl (some (vi 1)), MX I J T)))).trans (by simp only [ite_dec])
-- 211 WFModel_opens
set_option maxRecDepth 100000 in
theorem c211 (d : Nat) (x1 : Int32) (I : PI) (J : PJ) (T : TL) : cal (d + 1) 211 [vr 14 0, vi x1] (MX I J T) = ret9 (den (d + 1) 211) 211 3 6 [some (vr 14 0), some (vi x1)] [] (cal d 210 [vr 14 0, vi 40] (MX I J T)) :=
  (bx_eq [] (d + 1) 211 3 0 _ _ _).symm.trans rfl
set_option maxRecDepth 100000 in
theorem b211_6 (d : Nat) (x1 : Int32) (v : Int32) (I : PI) (J : PJ) (T : TL) : den (d + 1) 211 6 [some (vr 14 0), some (vi x1)] [vi v] (MX I J T) = (if ¬ v = 0 then (if ¬ (I 14 0 20) = 5 then ret9 (den (d + 1) 211) 211 30 33 [some (vr 14 0), some (vi x1)] [] (cal d 189 [vr 14 0] (MX I J T)) else ret9 (den (d + 1) 211) 211 25 28 [some (vr 14 0), some (vi x1)] [] (cal d 203 [vr 14 0, vi 5] (MX I J T))) else ret9 (den (d + 1) 211) 211 11 14 [some (vr 14 0), some (vi x1)] [] (cal d 203 [vr 14 0, vi 1] (MX I J T))) :=
  ((bx_eq [] (d + 1) 211 8 6 _ _ _).symm.trans rfl : _ = (if decide (¬ v = 0) = true then (if decide (¬ (I 14 0 20) = 5) = true then ret9 (den (d + 1) 211) 211 30 33 [some (vr 14 0), some (vi x1)] [] (cal d 189 [vr 14 0] (MX I J T)) else ret9 (den (d + 1) 211) 211 25 28 [some (vr 14 0), some (vi x1)] [] (cal d 203 [vr 14 0, vi 5] (MX I J T))) else ret9 (den (d + 1) 211) 211 11 14 [some (vr 14 0), some (vi x1)] [] (cal d 203 [vr 14 0, vi 1] (MX I J T)))).trans (by simp only [ite_dec])
set_option maxRecDepth 100000 in
theorem b211_14 (d : Nat) (x1 : Int32) (I : PI) (J : PJ) (T : TL) : den d 211 14 [some (vr 14 0), some (vi x1)] [vr 13 0] (MX I J T) = some (.inr (1, vr 13 0), MX I J T) :=
  (bx_eq [] d 211 1 14 _ _ _).symm.trans rfl
set_option maxRecDepth 100000 in
theorem b211_28 (d : Nat) (x1 : Int32) (I : PI) (J : PJ) (T : TL) : den d 211 28 [some (vr 14 0), some (vi x1)] [vr 13 0] (MX I J T) = some (.inr (1, vr 13 0), MX I J T) :=
  (bx_eq [] d 211 1 28 _ _ _).symm.trans rfl
set_option maxRecDepth 100000 in
theorem b211_33 (d : Nat) (x1 : Int32) (I : PI) (J : PJ) (T : TL) : den (d + 1) 211 33 [some (vr 14 0), some (vi x1)] [] (MX I J T) = ret9 (den (d + 1) 211) 211 45 48 [some (vr 14 0), some (vi x1)] [] (cal d 208 [vr 14 0, vi x1] (MX (up3 I 14 0 20 ((I 14 0 20) + 1)) J T)) :=
  (bx_eq [] (d + 1) 211 9 33 _ _ _).symm.trans rfl
set_option maxRecDepth 100000 in
theorem b211_48 (d : Nat) (x1 : Int32) (I : PI) (J : PJ) (T : TL) : den d 211 48 [some (vr 14 0), some (vi x1)] [] (MX I J T) = some (.inl none, MX I J T) :=
  (bx_eq [] d 211 1 48 _ _ _).symm.trans rfl
-- 212 WFModel_Book_adds
set_option maxRecDepth 100000 in
theorem c212 (d : Nat) (b : Nat) (x1 : Int32) (I : PI) (J : PJ) (T : TL) : cal d 212 [vr 12 b, vi x1] (MX I J T) = (if inR (I 12 b 0) 6 = true then (if inR ((48 * (I 12 b 0)) + (I 21 (b + 12) (Int32.toNatClampNeg (I 12 b 0)))) 288 = true then (if inR (I 12 b 0) 6 = true then (if inR (I 12 b 0) 6 = true then some (.inl none, MX (up3 (up3 I 33 b (Int32.toNatClampNeg ((48 * (I 12 b 0)) + (I 21 (b + 12) (Int32.toNatClampNeg (I 12 b 0))))) x1) 21 (b + 12) (Int32.toNatClampNeg (I 12 b 0)) ((I 21 (b + 12) (Int32.toNatClampNeg (I 12 b 0))) + 1)) J T) else none) else none) else none) else none) :=
  (bx_eq [] d 212 24 0 _ _ _).symm.trans rfl
-- 213 WFModel_isOver
set_option maxRecDepth 100000 in
theorem c213 (d : Nat) (b : Nat) (I : PI) (J : PJ) (T : TL) : cal d 213 [vr 14 0] (MX I J (TF T b)) = (if inR (I 14 0 20) 6 = true then (if (I 38 2 (Int32.toNatClampNeg (I 14 0 20))) = 0 then den d 213 21 [some (vr 14 0)] [] (MX I J (TF T b)) else den d 213 12 [some (vr 14 0)] [] (MX I J (TF T b))) else none) :=
  ((bx_eq [0, 12, 21, 36, 48, 54, 66, 82, 99, 104, 113, 118, 119, 120, 132, 138, 145, 147, 159, 171, 180, 186, 200, 202, 211, 217, 233, 249] d 213 6 0 _ _ _).symm.trans rfl : _ = (if inR (I 14 0 20) 6 = true then (if decide ((I 38 2 (Int32.toNatClampNeg (I 14 0 20))) = 0) = true then den d 213 21 [some (vr 14 0)] [] (MX I J (TF T b)) else den d 213 12 [some (vr 14 0)] [] (MX I J (TF T b))) else none)).trans (by simp only [ite_dec])
set_option maxRecDepth 100000 in
theorem b213_0 (d : Nat) (b : Nat) (I : PI) (J : PJ) (T : TL) : den d 213 0 [some (vr 14 0)] [] (MX I J (TF T b)) = (if inR (I 14 0 20) 6 = true then (if (I 38 2 (Int32.toNatClampNeg (I 14 0 20))) = 0 then den d 213 21 [some (vr 14 0)] [] (MX I J (TF T b)) else den d 213 12 [some (vr 14 0)] [] (MX I J (TF T b))) else none) :=
  ((bx_eq [0, 12, 21, 36, 48, 54, 66, 82, 99, 104, 113, 118, 119, 120, 132, 138, 145, 147, 159, 171, 180, 186, 200, 202, 211, 217, 233, 249] d 213 6 0 _ _ _).symm.trans rfl : _ = (if inR (I 14 0 20) 6 = true then (if decide ((I 38 2 (Int32.toNatClampNeg (I 14 0 20))) = 0) = true then den d 213 21 [some (vr 14 0)] [] (MX I J (TF T b)) else den d 213 12 [some (vr 14 0)] [] (MX I J (TF T b))) else none)).trans (by simp only [ite_dec])
set_option maxRecDepth 100000 in
theorem b213_12 (d : Nat) (b : Nat) (I : PI) (J : PJ) (T : TL) : den (d + 1) 213 12 [some (vr 14 0)] [] (MX I J (TF T b)) = ret9 (den (d + 1) 213) 213 18 21 [some (vr 14 0)] [] (cal d 212 [vr 12 b, vi 112] (MX I J (TF T b))) :=
  (bx_eq [0, 12, 21, 36, 48, 54, 66, 82, 99, 104, 113, 118, 119, 120, 132, 138, 145, 147, 159, 171, 180, 186, 200, 202, 211, 217, 233, 249] (d + 1) 213 4 12 _ _ _).symm.trans rfl
set_option maxRecDepth 100000 in
theorem b213_21 (d : Nat) (b : Nat) (I : PI) (J : PJ) (T : TL) : den (d + 1) 213 21 [some (vr 14 0)] [] (MX I J (TF T b)) = ret9 (den (d + 1) 213) 213 32 35 [some (vr 14 0)] [vi (I 14 0 20), vr 38 2] (cal d 210 [vr 14 0, vi 42] (MX I J (TF T b))) :=
  (bx_eq [0, 12, 21, 36, 48, 54, 66, 82, 99, 104, 113, 118, 119, 120, 132, 138, 145, 147, 159, 171, 180, 186, 200, 202, 211, 217, 233, 249] (d + 1) 213 7 21 _ _ _).symm.trans rfl
set_option maxRecDepth 100000 in
theorem b213_35 (d : Nat) (s1 : Int32) (v : Int32) (b : Nat) (I : PI) (J : PJ) (T : TL) : den d 213 35 [some (vr 14 0)] [vi v, vi s1, vr 38 2] (MX I J (TF T b)) = (if inR s1 6 = true then den d 213 36 [some (vr 14 0)] [] (MX (up3 I 38 2 (Int32.toNatClampNeg s1) (v &&& 1)) J (TF T b)) else none) :=
  (bx_eq [0, 12, 21, 36, 48, 54, 66, 82, 99, 104, 113, 118, 119, 120, 132, 138, 145, 147, 159, 171, 180, 186, 200, 202, 211, 217, 233, 249] d 213 1 35 _ _ _).symm.trans rfl
set_option maxRecDepth 100000 in
theorem b213_36 (d : Nat) (b : Nat) (I : PI) (J : PJ) (T : TL) : den d 213 36 [some (vr 14 0)] [] (MX I J (TF T b)) = (if inR (I 14 0 20) 6 = true then (if (I 38 2 (Int32.toNatClampNeg (I 14 0 20))) = 0 then den d 213 54 [some (vr 14 0)] [] (MX I J (TF T b)) else den d 213 48 [some (vr 14 0)] [] (MX I J (TF T b))) else none) :=
  ((bx_eq [0, 12, 21, 36, 48, 54, 66, 82, 99, 104, 113, 118, 119, 120, 132, 138, 145, 147, 159, 171, 180, 186, 200, 202, 211, 217, 233, 249] d 213 6 36 _ _ _).symm.trans rfl : _ = (if inR (I 14 0 20) 6 = true then (if decide ((I 38 2 (Int32.toNatClampNeg (I 14 0 20))) = 0) = true then den d 213 54 [some (vr 14 0)] [] (MX I J (TF T b)) else den d 213 48 [some (vr 14 0)] [] (MX I J (TF T b))) else none)).trans (by simp only [ite_dec])
set_option maxRecDepth 100000 in
theorem b213_48 (d : Nat) (b : Nat) (I : PI) (J : PJ) (T : TL) : den (d + 1) 213 48 [some (vr 14 0)] [] (MX I J (TF T b)) = ret9 (den (d + 1) 213) 213 49 52 [some (vr 14 0)] [] (cal d 189 [vr 14 0] (MX I J (TF T b))) :=
  (bx_eq [0, 12, 21, 36, 48, 54, 66, 82, 99, 104, 113, 118, 119, 120, 132, 138, 145, 147, 159, 171, 180, 186, 200, 202, 211, 217, 233, 249] (d + 1) 213 2 48 _ _ _).symm.trans rfl
set_option maxRecDepth 100000 in
theorem b213_52 (d : Nat) (b : Nat) (I : PI) (J : PJ) (T : TL) : den d 213 52 [some (vr 14 0)] [] (MX I J (TF T b)) = some (.inl (some (vi 0)), MX I J (TF T b)) :=
  (bx_eq [0, 12, 21, 36, 48, 54, 66, 82, 99, 104, 113, 118, 119, 120, 132, 138, 145, 147, 159, 171, 180, 186, 200, 202, 211, 217, 233, 249] d 213 2 52 _ _ _).symm.trans rfl
set_option maxRecDepth 100000 in
theorem b213_54 (d : Nat) (b : Nat) (I : PI) (J : PJ) (T : TL) : den d 213 54 [some (vr 14 0)] [] (MX I J (TF T b)) = (if inR (I 14 0 20) 6 = true then (if (I 21 9 (Int32.toNatClampNeg (I 14 0 20))) = 0 then den d 213 82 [some (vr 14 0)] [] (MX I J (TF T b)) else den d 213 66 [some (vr 14 0)] [] (MX I J (TF T b))) else none) :=
  ((bx_eq [0, 12, 21, 36, 48, 54, 66, 82, 99, 104, 113, 118, 119, 120, 132, 138, 145, 147, 159, 171, 180, 186, 200, 202, 211, 217, 233, 249] d 213 6 54 _ _ _).symm.trans rfl : _ = (if inR (I 14 0 20) 6 = true then (if decide ((I 21 9 (Int32.toNatClampNeg (I 14 0 20))) = 0) = true then den d 213 82 [some (vr 14 0)] [] (MX I J (TF T b)) else den d 213 66 [some (vr 14 0)] [] (MX I J (TF T b))) else none)).trans (by simp only [ite_dec])
set_option maxRecDepth 100000 in
theorem b213_66 (d : Nat) (b : Nat) (I : PI) (J : PJ) (T : TL) : den (d + 1) 213 66 [some (vr 14 0)] [] (MX I J (TF T b)) = (if inR (I 14 0 20) 6 = true then ret9 (den (d + 1) 213) 213 79 82 [some (vr 14 0)] [] (cal d 212 [vr 12 b, vi (I 21 9 (Int32.toNatClampNeg (I 14 0 20)))] (MX I J (TF T b))) else none) :=
  (bx_eq [0, 12, 21, 36, 48, 54, 66, 82, 99, 104, 113, 118, 119, 120, 132, 138, 145, 147, 159, 171, 180, 186, 200, 202, 211, 217, 233, 249] (d + 1) 213 8 66 _ _ _).symm.trans rfl
set_option maxRecDepth 100000 in
theorem b213_82 (d : Nat) (b : Nat) (I : PI) (J : PJ) (T : TL) : den (d + 1) 213 82 [some (vr 14 0)] [] (MX I J (TF T b)) = ret9 (den (d + 1) 213) 213 93 96 [some (vr 14 0)] [vi (I 14 0 20), vr 21 9] (cal d 210 [vr 14 0, vi 43] (MX I J (TF T b))) :=
  (bx_eq [0, 12, 21, 36, 48, 54, 66, 82, 99, 104, 113, 118, 119, 120, 132, 138, 145, 147, 159, 171, 180, 186, 200, 202, 211, 217, 233, 249] (d + 1) 213 7 82 _ _ _).symm.trans rfl
set_option maxRecDepth 100000 in
theorem b213_96 (d : Nat) (s1 : Int32) (v : Int32) (b : Nat) (I : PI) (J : PJ) (T : TL) : den d 213 96 [some (vr 14 0)] [vi v, vi s1, vr 21 9] (MX I J (TF T b)) = (if v = 0 then den d 213 104 [some (vr 14 0)] [vi s1, vr 21 9] (MX I J (TF T b)) else den d 213 99 [some (vr 14 0)] [vi s1, vr 21 9] (MX I J (TF T b))) :=
  ((bx_eq [0, 12, 21, 36, 48, 54, 66, 82, 99, 104, 113, 118, 119, 120, 132, 138, 145, 147, 159, 171, 180, 186, 200, 202, 211, 217, 233, 249] d 213 1 96 _ _ _).symm.trans rfl : _ = (if decide (v = 0) = true then den d 213 104 [some (vr 14 0)] [vi s1, vr 21 9] (MX I J (TF T b)) else den d 213 99 [some (vr 14 0)] [vi s1, vr 21 9] (MX I J (TF T b)))).trans (by simp only [ite_dec])
set_option maxRecDepth 100000 in
theorem b213_99 (d : Nat) (s1 : Int32) (b : Nat) (I : PI) (J : PJ) (T : TL) : den d 213 99 [some (vr 14 0)] [vi s1, vr 21 9] (MX I J (TF T b)) = den d 213 119 [some (vr 14 0)] [vi 110, vi s1, vr 21 9] (MX I J (TF T b)) :=
  (bx_eq [0, 12, 21, 36, 48, 54, 66, 82, 99, 104, 113, 118, 119, 120, 132, 138, 145, 147, 159, 171, 180, 186, 200, 202, 211, 217, 233, 249] d 213 2 99 _ _ _).symm.trans rfl
set_option maxRecDepth 100000 in
theorem b213_104 (d : Nat) (s1 : Int32) (b : Nat) (I : PI) (J : PJ) (T : TL) : den (d + 1) 213 104 [some (vr 14 0)] [vi s1, vr 21 9] (MX I J (TF T b)) = ret9 (den (d + 1) 213) 213 107 110 [some (vr 14 0)] [vi s1, vr 21 9] (cal d 210 [vr 14 0, vi 45] (MX I J (TF T b))) :=
  (bx_eq [0, 12, 21, 36, 48, 54, 66, 82, 99, 104, 113, 118, 119, 120, 132, 138, 145, 147, 159, 171, 180, 186, 200, 202, 211, 217, 233, 249] (d + 1) 213 3 104 _ _ _).symm.trans rfl
set_option maxRecDepth 100000 in
theorem b213_110 (d : Nat) (s1 : Int32) (v : Int32) (b : Nat) (I : PI) (J : PJ) (T : TL) : den d 213 110 [some (vr 14 0)] [vi v, vi s1, vr 21 9] (MX I J (TF T b)) = (if v = 0 then den d 213 118 [some (vr 14 0)] [vi s1, vr 21 9] (MX I J (TF T b)) else den d 213 113 [some (vr 14 0)] [vi s1, vr 21 9] (MX I J (TF T b))) :=
  ((bx_eq [0, 12, 21, 36, 48, 54, 66, 82, 99, 104, 113, 118, 119, 120, 132, 138, 145, 147, 159, 171, 180, 186, 200, 202, 211, 217, 233, 249] d 213 1 110 _ _ _).symm.trans rfl : _ = (if decide (v = 0) = true then den d 213 118 [some (vr 14 0)] [vi s1, vr 21 9] (MX I J (TF T b)) else den d 213 113 [some (vr 14 0)] [vi s1, vr 21 9] (MX I J (TF T b)))).trans (by simp only [ite_dec])
set_option maxRecDepth 100000 in
theorem b213_113 (d : Nat) (s1 : Int32) (b : Nat) (I : PI) (J : PJ) (T : TL) : den d 213 113 [some (vr 14 0)] [vi s1, vr 21 9] (MX I J (TF T b)) = den d 213 119 [some (vr 14 0)] [vi 111, vi s1, vr 21 9] (MX I J (TF T b)) :=
  (bx_eq [0, 12, 21, 36, 48, 54, 66, 82, 99, 104, 113, 118, 119, 120, 132, 138, 145, 147, 159, 171, 180, 186, 200, 202, 211, 217, 233, 249] d 213 2 113 _ _ _).symm.trans rfl
set_option maxRecDepth 100000 in
theorem b213_118 (d : Nat) (s1 : Int32) (b : Nat) (I : PI) (J : PJ) (T : TL) : den d 213 118 [some (vr 14 0)] [vi s1, vr 21 9] (MX I J (TF T b)) = den d 213 119 [some (vr 14 0)] [vi 0, vi s1, vr 21 9] (MX I J (TF T b)) :=
  (bx_eq [0, 12, 21, 36, 48, 54, 66, 82, 99, 104, 113, 118, 119, 120, 132, 138, 145, 147, 159, 171, 180, 186, 200, 202, 211, 217, 233, 249] d 213 1 118 _ _ _).symm.trans rfl
set_option maxRecDepth 100000 in
theorem b213_119 (d : Nat) (s1 : Int32) (s2 : Int32) (b : Nat) (I : PI) (J : PJ) (T : TL) : den d 213 119 [some (vr 14 0)] [vi s2, vi s1, vr 21 9] (MX I J (TF T b)) = (if inR s1 6 = true then den d 213 120 [some (vr 14 0)] [] (MX (up3 I 21 9 (Int32.toNatClampNeg s1) s2) J (TF T b)) else none) :=
  (bx_eq [0, 12, 21, 36, 48, 54, 66, 82, 99, 104, 113, 118, 119, 120, 132, 138, 145, 147, 159, 171, 180, 186, 200, 202, 211, 217, 233, 249] d 213 1 119 _ _ _).symm.trans rfl
set_option maxRecDepth 100000 in
theorem b213_120 (d : Nat) (b : Nat) (I : PI) (J : PJ) (T : TL) : den d 213 120 [some (vr 14 0)] [] (MX I J (TF T b)) = (if inR (I 14 0 20) 6 = true then (if (I 21 9 (Int32.toNatClampNeg (I 14 0 20))) = 0 then den d 213 138 [some (vr 14 0)] [] (MX I J (TF T b)) else den d 213 132 [some (vr 14 0)] [] (MX I J (TF T b))) else none) :=
  ((bx_eq [0, 12, 21, 36, 48, 54, 66, 82, 99, 104, 113, 118, 119, 120, 132, 138, 145, 147, 159, 171, 180, 186, 200, 202, 211, 217, 233, 249] d 213 6 120 _ _ _).symm.trans rfl : _ = (if inR (I 14 0 20) 6 = true then (if decide ((I 21 9 (Int32.toNatClampNeg (I 14 0 20))) = 0) = true then den d 213 138 [some (vr 14 0)] [] (MX I J (TF T b)) else den d 213 132 [some (vr 14 0)] [] (MX I J (TF T b))) else none)).trans (by simp only [ite_dec])
set_option maxRecDepth 100000 in
theorem b213_132 (d : Nat) (b : Nat) (I : PI) (J : PJ) (T : TL) : den (d + 1) 213 132 [some (vr 14 0)] [] (MX I J (TF T b)) = ret9 (den (d + 1) 213) 213 133 136 [some (vr 14 0)] [] (cal d 189 [vr 14 0] (MX I J (TF T b))) :=
  (bx_eq [0, 12, 21, 36, 48, 54, 66, 82, 99, 104, 113, 118, 119, 120, 132, 138, 145, 147, 159, 171, 180, 186, 200, 202, 211, 217, 233, 249] (d + 1) 213 2 132 _ _ _).symm.trans rfl
set_option maxRecDepth 100000 in
theorem b213_136 (d : Nat) (b : Nat) (I : PI) (J : PJ) (T : TL) : den d 213 136 [some (vr 14 0)] [] (MX I J (TF T b)) = some (.inl (some (vi 0)), MX I J (TF T b)) :=
  (bx_eq [0, 12, 21, 36, 48, 54, 66, 82, 99, 104, 113, 118, 119, 120, 132, 138, 145, 147, 159, 171, 180, 186, 200, 202, 211, 217, 233, 249] d 213 2 136 _ _ _).symm.trans rfl
set_option maxRecDepth 100000 in
theorem b213_138 (d : Nat) (b : Nat) (I : PI) (J : PJ) (T : TL) : den d 213 138 [some (vr 14 0)] [] (MX I J (TF T b)) = (if ¬ (I 14 0 20) = 0 then den d 213 147 [some (vr 14 0)] [] (MX I J (TF T b)) else den d 213 145 [some (vr 14 0)] [] (MX I J (TF T b))) :=
  ((bx_eq [0, 12, 21, 36, 48, 54, 66, 82, 99, 104, 113, 118, 119, 120, 132, 138, 145, 147, 159, 171, 180, 186, 200, 202, 211, 217, 233, 249] d 213 3 138 _ _ _).symm.trans rfl : _ = (if decide (¬ (I 14 0 20) = 0) = true then den d 213 147 [some (vr 14 0)] [] (MX I J (TF T b)) else den d 213 145 [some (vr 14 0)] [] (MX I J (TF T b)))).trans (by simp only [ite_dec])
set_option maxRecDepth 100000 in
theorem b213_145 (d : Nat) (b : Nat) (I : PI) (J : PJ) (T : TL) : den d 213 145 [some (vr 14 0)] [] (MX I J (TF T b)) = some (.inl (some (vi 1)), MX I J (TF T b)) :=
  (bx_eq [0, 12, 21, 36, 48, 54, 66, 82, 99, 104, 113, 118, 119, 120, 132, 138, 145, 147, 159, 171, 180, 186, 200, 202, 211, 217, 233, 249] d 213 2 145 _ _ _).symm.trans rfl
set_option maxRecDepth 100000 in
theorem b213_147 (d : Nat) (b : Nat) (I : PI) (J : PJ) (T : TL) : den d 213 147 [some (vr 14 0)] [] (MX I J (TF T b)) = (if inR (I 14 0 20) 6 = true then (if (I 21 7 (Int32.toNatClampNeg (I 14 0 20))) = 0 then den d 213 202 [some (vr 14 0)] [] (MX I J (TF T b)) else den d 213 159 [some (vr 14 0)] [] (MX I J (TF T b))) else none) :=
  ((bx_eq [0, 12, 21, 36, 48, 54, 66, 82, 99, 104, 113, 118, 119, 120, 132, 138, 145, 147, 159, 171, 180, 186, 200, 202, 211, 217, 233, 249] d 213 6 147 _ _ _).symm.trans rfl : _ = (if inR (I 14 0 20) 6 = true then (if decide ((I 21 7 (Int32.toNatClampNeg (I 14 0 20))) = 0) = true then den d 213 202 [some (vr 14 0)] [] (MX I J (TF T b)) else den d 213 159 [some (vr 14 0)] [] (MX I J (TF T b))) else none)).trans (by simp only [ite_dec])
set_option maxRecDepth 100000 in
theorem b213_159 (d : Nat) (b : Nat) (I : PI) (J : PJ) (T : TL) : den d 213 159 [some (vr 14 0)] [] (MX I J (TF T b)) = (if inR (I 14 0 20) 6 = true then (if ¬ (I 21 8 (Int32.toNatClampNeg (I 14 0 20))) = 0 then den d 213 202 [some (vr 14 0)] [] (MX I J (TF T b)) else den d 213 171 [some (vr 14 0)] [] (MX I J (TF T b))) else none) :=
  ((bx_eq [0, 12, 21, 36, 48, 54, 66, 82, 99, 104, 113, 118, 119, 120, 132, 138, 145, 147, 159, 171, 180, 186, 200, 202, 211, 217, 233, 249] d 213 6 159 _ _ _).symm.trans rfl : _ = (if inR (I 14 0 20) 6 = true then (if decide (¬ (I 21 8 (Int32.toNatClampNeg (I 14 0 20))) = 0) = true then den d 213 202 [some (vr 14 0)] [] (MX I J (TF T b)) else den d 213 171 [some (vr 14 0)] [] (MX I J (TF T b))) else none)).trans (by simp only [ite_dec])
set_option maxRecDepth 100000 in
theorem b213_171 (d : Nat) (b : Nat) (I : PI) (J : PJ) (T : TL) : den (d + 1) 213 171 [some (vr 14 0)] [] (MX I J (TF T b)) = ret9 (den (d + 1) 213) 213 174 177 [some (vr 14 0)] [] (cal d 210 [vr 14 0, vi 44] (MX I J (TF T b))) :=
  (bx_eq [0, 12, 21, 36, 48, 54, 66, 82, 99, 104, 113, 118, 119, 120, 132, 138, 145, 147, 159, 171, 180, 186, 200, 202, 211, 217, 233, 249] (d + 1) 213 3 171 _ _ _).symm.trans rfl
set_option maxRecDepth 100000 in
theorem b213_177 (d : Nat) (v : Int32) (b : Nat) (I : PI) (J : PJ) (T : TL) : den d 213 177 [some (vr 14 0)] [vi v] (MX I J (TF T b)) = (if ¬ v = 0 then den d 213 186 [some (vr 14 0)] [] (MX I J (TF T b)) else den d 213 180 [some (vr 14 0)] [] (MX I J (TF T b))) :=
  ((bx_eq [0, 12, 21, 36, 48, 54, 66, 82, 99, 104, 113, 118, 119, 120, 132, 138, 145, 147, 159, 171, 180, 186, 200, 202, 211, 217, 233, 249] d 213 1 177 _ _ _).symm.trans rfl : _ = (if decide (¬ v = 0) = true then den d 213 186 [some (vr 14 0)] [] (MX I J (TF T b)) else den d 213 180 [some (vr 14 0)] [] (MX I J (TF T b)))).trans (by simp only [ite_dec])
set_option maxRecDepth 100000 in
theorem b213_180 (d : Nat) (b : Nat) (I : PI) (J : PJ) (T : TL) : den (d + 1) 213 180 [some (vr 14 0)] [] (MX I J (TF T b)) = ret9 (den (d + 1) 213) 213 182 185 [some (vr 14 0)] [] (cal d 203 [vr 14 0, vi 1] (MX I J (TF T b))) :=
  (bx_eq [0, 12, 21, 36, 48, 54, 66, 82, 99, 104, 113, 118, 119, 120, 132, 138, 145, 147, 159, 171, 180, 186, 200, 202, 211, 217, 233, 249] (d + 1) 213 3 180 _ _ _).symm.trans rfl
set_option maxRecDepth 100000 in
theorem b213_185 (d : Nat) (b : Nat) (I : PI) (J : PJ) (T : TL) : den d 213 185 [some (vr 14 0)] [vr 13 0] (MX I J (TF T b)) = some (.inr (1, vr 13 0), MX I J (TF T b)) :=
  (bx_eq [0, 12, 21, 36, 48, 54, 66, 82, 99, 104, 113, 118, 119, 120, 132, 138, 145, 147, 159, 171, 180, 186, 200, 202, 211, 217, 233, 249] d 213 1 185 _ _ _).symm.trans rfl
set_option maxRecDepth 100000 in
theorem b213_186 (d : Nat) (b : Nat) (I : PI) (J : PJ) (T : TL) : den (d + 1) 213 186 [some (vr 14 0)] [] (MX I J (TF T b)) = ret9 (den (d + 1) 213) 213 187 190 [some (vr 14 0)] [] (cal d 189 [vr 14 0] (MX I J (TF T b))) :=
  (bx_eq [0, 12, 21, 36, 48, 54, 66, 82, 99, 104, 113, 118, 119, 120, 132, 138, 145, 147, 159, 171, 180, 186, 200, 202, 211, 217, 233, 249] (d + 1) 213 2 186 _ _ _).symm.trans rfl
set_option maxRecDepth 100000 in
theorem b213_190 (d : Nat) (b : Nat) (I : PI) (J : PJ) (T : TL) : den d 213 190 [some (vr 14 0)] [] (MX I J (TF T b)) = (if inR (I 14 0 20) 6 = true then den d 213 200 [some (vr 14 0)] [] (MX (up3 I 21 8 (Int32.toNatClampNeg (I 14 0 20)) 1) J (TF T b)) else none) :=
  (bx_eq [0, 12, 21, 36, 48, 54, 66, 82, 99, 104, 113, 118, 119, 120, 132, 138, 145, 147, 159, 171, 180, 186, 200, 202, 211, 217, 233, 249] d 213 6 190 _ _ _).symm.trans rfl
set_option maxRecDepth 100000 in
theorem b213_200 (d : Nat) (b : Nat) (I : PI) (J : PJ) (T : TL) : den d 213 200 [some (vr 14 0)] [] (MX I J (TF T b)) = some (.inl (some (vi 0)), MX I J (TF T b)) :=
  (bx_eq [0, 12, 21, 36, 48, 54, 66, 82, 99, 104, 113, 118, 119, 120, 132, 138, 145, 147, 159, 171, 180, 186, 200, 202, 211, 217, 233, 249] d 213 2 200 _ _ _).symm.trans rfl
set_option maxRecDepth 100000 in
theorem b213_202 (d : Nat) (b : Nat) (I : PI) (J : PJ) (T : TL) : den (d + 1) 213 202 [some (vr 14 0)] [] (MX I J (TF T b)) = ret9 (den (d + 1) 213) 213 205 208 [some (vr 14 0)] [] (cal d 210 [vr 14 0, vi 41] (MX I J (TF T b))) :=
  (bx_eq [0, 12, 21, 36, 48, 54, 66, 82, 99, 104, 113, 118, 119, 120, 132, 138, 145, 147, 159, 171, 180, 186, 200, 202, 211, 217, 233, 249] (d + 1) 213 3 202 _ _ _).symm.trans rfl
set_option maxRecDepth 100000 in
theorem b213_208 (d : Nat) (v : Int32) (b : Nat) (I : PI) (J : PJ) (T : TL) : den d 213 208 [some (vr 14 0)] [vi v] (MX I J (TF T b)) = (if ¬ v = 0 then den d 213 217 [some (vr 14 0)] [] (MX I J (TF T b)) else den d 213 211 [some (vr 14 0)] [] (MX I J (TF T b))) :=
  ((bx_eq [0, 12, 21, 36, 48, 54, 66, 82, 99, 104, 113, 118, 119, 120, 132, 138, 145, 147, 159, 171, 180, 186, 200, 202, 211, 217, 233, 249] d 213 1 208 _ _ _).symm.trans rfl : _ = (if decide (¬ v = 0) = true then den d 213 217 [some (vr 14 0)] [] (MX I J (TF T b)) else den d 213 211 [some (vr 14 0)] [] (MX I J (TF T b)))).trans (by simp only [ite_dec])
set_option maxRecDepth 100000 in
theorem b213_211 (d : Nat) (b : Nat) (I : PI) (J : PJ) (T : TL) : den (d + 1) 213 211 [some (vr 14 0)] [] (MX I J (TF T b)) = ret9 (den (d + 1) 213) 213 213 216 [some (vr 14 0)] [] (cal d 203 [vr 14 0, vi 1] (MX I J (TF T b))) :=
  (bx_eq [0, 12, 21, 36, 48, 54, 66, 82, 99, 104, 113, 118, 119, 120, 132, 138, 145, 147, 159, 171, 180, 186, 200, 202, 211, 217, 233, 249] (d + 1) 213 3 211 _ _ _).symm.trans rfl
set_option maxRecDepth 100000 in
theorem b213_216 (d : Nat) (b : Nat) (I : PI) (J : PJ) (T : TL) : den d 213 216 [some (vr 14 0)] [vr 13 0] (MX I J (TF T b)) = some (.inr (1, vr 13 0), MX I J (TF T b)) :=
  (bx_eq [0, 12, 21, 36, 48, 54, 66, 82, 99, 104, 113, 118, 119, 120, 132, 138, 145, 147, 159, 171, 180, 186, 200, 202, 211, 217, 233, 249] d 213 1 216 _ _ _).symm.trans rfl
set_option maxRecDepth 100000 in
theorem b213_217 (d : Nat) (b : Nat) (I : PI) (J : PJ) (T : TL) : den (d + 1) 213 217 [some (vr 14 0)] [] (MX I J (TF T b)) = ret9 (den (d + 1) 213) 213 218 221 [some (vr 14 0)] [] (cal d 189 [vr 14 0] (MX I J (TF T b))) :=
  (bx_eq [0, 12, 21, 36, 48, 54, 66, 82, 99, 104, 113, 118, 119, 120, 132, 138, 145, 147, 159, 171, 180, 186, 200, 202, 211, 217, 233, 249] (d + 1) 213 2 217 _ _ _).symm.trans rfl
set_option maxRecDepth 100000 in
theorem b213_221 (d : Nat) (b : Nat) (I : PI) (J : PJ) (T : TL) : den d 213 221 [some (vr 14 0)] [] (MX I J (TF T b)) = (if inR (I 14 0 20) 6 = true then (if (I 21 7 (Int32.toNatClampNeg (I 14 0 20))) = 0 then den d 213 249 [some (vr 14 0)] [] (MX I J (TF T b)) else den d 213 233 [some (vr 14 0)] [] (MX I J (TF T b))) else none) :=
  ((bx_eq [0, 12, 21, 36, 48, 54, 66, 82, 99, 104, 113, 118, 119, 120, 132, 138, 145, 147, 159, 171, 180, 186, 200, 202, 211, 217, 233, 249] d 213 6 221 _ _ _).symm.trans rfl : _ = (if inR (I 14 0 20) 6 = true then (if decide ((I 21 7 (Int32.toNatClampNeg (I 14 0 20))) = 0) = true then den d 213 249 [some (vr 14 0)] [] (MX I J (TF T b)) else den d 213 233 [some (vr 14 0)] [] (MX I J (TF T b))) else none)).trans (by simp only [ite_dec])
set_option maxRecDepth 100000 in
theorem b213_233 (d : Nat) (b : Nat) (I : PI) (J : PJ) (T : TL) : den (d + 1) 213 233 [some (vr 14 0)] [] (MX I J (TF T b)) = (if inR (I 14 0 20) 6 = true then ret9 (den (d + 1) 213) 213 246 249 [some (vr 14 0)] [] (cal d 212 [vr 12 b, vi (I 21 7 (Int32.toNatClampNeg (I 14 0 20)))] (MX I J (TF T b))) else none) :=
  (bx_eq [0, 12, 21, 36, 48, 54, 66, 82, 99, 104, 113, 118, 119, 120, 132, 138, 145, 147, 159, 171, 180, 186, 200, 202, 211, 217, 233, 249] (d + 1) 213 8 233 _ _ _).symm.trans rfl
set_option maxRecDepth 100000 in
theorem b213_249 (d : Nat) (b : Nat) (I : PI) (J : PJ) (T : TL) : den d 213 249 [some (vr 14 0)] [] (MX I J (TF T b)) = den d 213 0 [some (vr 14 0)] [] (MX (up3 I 14 0 20 ((I 14 0 20) - 1)) J (TF T b)) :=
  (bx_eq [0, 12, 21, 36, 48, 54, 66, 82, 99, 104, 113, 118, 119, 120, 132, 138, 145, 147, 159, 171, 180, 186, 200, 202, 211, 217, 233, 249] d 213 7 249 _ _ _).symm.trans rfl
-- 214 WFModel_lays
set_option maxRecDepth 100000 in
theorem c214 (d : Nat) (x1 : Int32) (x2 : Int32) (I : PI) (J : PJ) (T : TL) : cal d 214 [vr 14 0, vi x1, vi x2] (MX I J T) = den d 214 19 [some (vr 14 0), some (vi x1), some (vi x2), some (vi 0)] [] (MX (up3 (up3 (up3 I 14 0 22 x1) 14 0 23 x2) 14 0 24 (x1 * x2)) J T) :=
  (bx_eq [19, 68] d 214 13 0 _ _ _).symm.trans rfl
set_option maxRecDepth 100000 in
theorem b214_19 (d : Nat) (x1 : Int32) (x2 : Int32) (x3 : Int32) (I : PI) (J : PJ) (T : TL) : den d 214 19 [some (vr 14 0), some (vi x1), some (vi x2), some (vi x3)] [] (MX I J T) = (if 64 ≤ x3 then den d 214 68 [some (vr 14 0), some (vi x1), some (vi x2), some (vi 0)] [] (MX I J T) else (if inR x3 64 = true then (if inR x3 64 = true then (if inR x3 64 = true then (if inR x3 64 = true then (if inR x3 64 = true then den d 214 19 [some (vr 14 0), some (vi x1), some (vi x2), some (vi (x3 + 1))] [] (MX (up3 (up3 (up3 (up3 (up3 I 28 4 (Int32.toNatClampNeg x3) 5) 28 5 (Int32.toNatClampNeg x3) 0) 39 0 (Int32.toNatClampNeg x3) 0) 28 6 (Int32.toNatClampNeg x3) (-1)) 28 7 (Int32.toNatClampNeg x3) (-1)) J T) else none) else none) else none) else none) else none)) :=
  ((bx_eq [19, 68] d 214 30 19 _ _ _).symm.trans rfl : _ = (if decide (64 ≤ x3) = true then den d 214 68 [some (vr 14 0), some (vi x1), some (vi x2), some (vi 0)] [] (MX I J T) else (if inR x3 64 = true then (if inR x3 64 = true then (if inR x3 64 = true then (if inR x3 64 = true then (if inR x3 64 = true then den d 214 19 [some (vr 14 0), some (vi x1), some (vi x2), some (vi (x3 + 1))] [] (MX (up3 (up3 (up3 (up3 (up3 I 28 4 (Int32.toNatClampNeg x3) 5) 28 5 (Int32.toNatClampNeg x3) 0) 39 0 (Int32.toNatClampNeg x3) 0) 28 6 (Int32.toNatClampNeg x3) (-1)) 28 7 (Int32.toNatClampNeg x3) (-1)) J T) else none) else none) else none) else none) else none))).trans (by simp only [ite_dec])
set_option maxRecDepth 100000 in
theorem b214_68 (d : Nat) (x1 : Int32) (x2 : Int32) (x3 : Int32) (I : PI) (J : PJ) (T : TL) : den d 214 68 [some (vr 14 0), some (vi x1), some (vi x2), some (vi x3)] [] (MX I J T) = (if 6 ≤ x3 then some (.inl none, MX (up3 (up3 (up3 (up3 (up3 I 14 0 25 1) 14 0 26 20) 14 0 27 0) 14 0 28 (-1)) 14 0 29 (-1)) J T) else (if inR x3 6 = true then (if inR x3 6 = true then den d 214 68 [some (vr 14 0), some (vi x1), some (vi x2), some (vi (x3 + 1))] [] (MX (up3 (up3 I 21 10 (Int32.toNatClampNeg x3) 0) 21 11 (Int32.toNatClampNeg x3) 0) J T) else none) else none)) :=
  ((bx_eq [19, 68] d 214 19 68 _ _ _).symm.trans rfl : _ = (if decide (6 ≤ x3) = true then some (.inl none, MX (up3 (up3 (up3 (up3 (up3 I 14 0 25 1) 14 0 26 20) 14 0 27 0) 14 0 28 (-1)) 14 0 29 (-1)) J T) else (if inR x3 6 = true then (if inR x3 6 = true then den d 214 68 [some (vr 14 0), some (vi x1), some (vi x2), some (vi (x3 + 1))] [] (MX (up3 (up3 I 21 10 (Int32.toNatClampNeg x3) 0) 21 11 (Int32.toNatClampNeg x3) 0) J T) else none) else none))).trans (by simp only [ite_dec])
-- 215 WFModel_done
set_option maxRecDepth 100000 in
theorem c215 (d : Nat) (x1 : Int32) (I : PI) (J : PJ) (T : TL) : cal d 215 [vr 14 0, vi x1] (MX I J T) = some (.inl (some (vi x1)), MX (up3 (up3 I 14 0 1 0) 14 0 2 (-1)) J T) :=
  (bx_eq [] d 215 8 0 _ _ _).symm.trans rfl
-- 216 WFModel_fault
set_option maxRecDepth 100000 in
theorem c216 (d : Nat) (I : PI) (J : PJ) (T : TL) : cal d 216 [vr 14 0] (MX I J T) = some (.inl (some (vi (I 14 0 3))), MX (up3 I 14 0 0 0) J T) :=
  (bx_eq [] d 216 6 0 _ _ _).symm.trans rfl
-- 217 WFModel_where
set_option maxRecDepth 100000 in
theorem c217 (d : Nat) (I : PI) (J : PJ) (T : TL) : cal d 217 [vr 14 0] (MX I J T) = some (.inl (some (vi (I 14 0 2))), MX (up3 I 14 0 0 0) J T) :=
  (bx_eq [] d 217 6 0 _ _ _).symm.trans rfl
-- 218 WFModel_ground
set_option maxRecDepth 100000 in
theorem c218b (d : Nat) (x1 : Int32) (x2 : Int32) (b : Nat) (I : PI) (J : PJ) (T : TL) : cal (d + 1) 218 [vr 14 0, vi x1, vi x2] (MX I J (TB T b)) = ret9 (den (d + 1) 218) 218 22 25 [some (vr 14 0), some (vi x1), some (vi x2)] [] (cal d 219 [vi x1, vi 1, vi 8] (MX (up3 I 14 0 0 0) J (TB T b))) :=
  (bx_eq [] (d + 1) 218 10 0 _ _ _).symm.trans rfl
set_option maxRecDepth 100000 in
theorem b218b_25 (d : Nat) (x1 : Int32) (x2 : Int32) (v : Int32) (b : Nat) (I : PI) (J : PJ) (T : TL) : den (d + 1) 218 25 [some (vr 14 0), some (vi x1), some (vi x2)] [vi v] (MX I J (TB T b)) = (if v = 0 then ret9 (den (d + 1) 218) 218 40 43 [some (vr 14 0), some (vi x1), some (vi x2)] [] (cal d 187 [vr 14 0, vi 2] (MX I J (TB T b))) else ret9 (den (d + 1) 218) 218 32 35 [some (vr 14 0), some (vi x1), some (vi x2)] [] (cal d 219 [vi x2, vi 1, vi 8] (MX I J (TB T b)))) :=
  ((bx_eq [] (d + 1) 218 5 25 _ _ _).symm.trans rfl : _ = (if decide (v = 0) = true then ret9 (den (d + 1) 218) 218 40 43 [some (vr 14 0), some (vi x1), some (vi x2)] [] (cal d 187 [vr 14 0, vi 2] (MX I J (TB T b))) else ret9 (den (d + 1) 218) 218 32 35 [some (vr 14 0), some (vi x1), some (vi x2)] [] (cal d 219 [vi x2, vi 1, vi 8] (MX I J (TB T b))))).trans (by simp only [ite_dec])
set_option maxRecDepth 100000 in
theorem b218b_35 (d : Nat) (x1 : Int32) (x2 : Int32) (v : Int32) (b : Nat) (I : PI) (J : PJ) (T : TL) : den (d + 1) 218 35 [some (vr 14 0), some (vi x1), some (vi x2)] [vi v] (MX I J (TB T b)) = (if ¬ v = 0 then ret9 (den (d + 1) 218) 218 47 50 [some (vr 14 0), some (vi x1), some (vi x2)] [] (cal d 214 [vr 14 0, vi x1, vi x2] (MX I J (TB T b))) else ret9 (den (d + 1) 218) 218 40 43 [some (vr 14 0), some (vi x1), some (vi x2)] [] (cal d 187 [vr 14 0, vi 2] (MX I J (TB T b)))) :=
  ((bx_eq [] (d + 1) 218 5 35 _ _ _).symm.trans rfl : _ = (if decide (¬ v = 0) = true then ret9 (den (d + 1) 218) 218 47 50 [some (vr 14 0), some (vi x1), some (vi x2)] [] (cal d 214 [vr 14 0, vi x1, vi x2] (MX I J (TB T b))) else ret9 (den (d + 1) 218) 218 40 43 [some (vr 14 0), some (vi x1), some (vi x2)] [] (cal d 187 [vr 14 0, vi 2] (MX I J (TB T b))))).trans (by simp only [ite_dec])
set_option maxRecDepth 100000 in
theorem b218b_43 (d : Nat) (x1 : Int32) (x2 : Int32) (v : Int32) (b : Nat) (I : PI) (J : PJ) (T : TL) : den d 218 43 [some (vr 14 0), some (vi x1), some (vi x2)] [vi v] (MX I J (TB T b)) = some (.inl (some (vi v)), MX I J (TB T b)) :=
  (bx_eq [] d 218 1 43 _ _ _).symm.trans rfl
set_option maxRecDepth 100000 in
theorem b218b_50 (d : Nat) (x1 : Int32) (x2 : Int32) (b : Nat) (I : PI) (J : PJ) (T : TL) : den (d + 1) 218 50 [some (vr 14 0), some (vi x1), some (vi x2)] [] (MX I J (TB T b)) = ret9 (den (d + 1) 218) 218 55 58 [some (vr 14 0), some (vi x1), some (vi x2)] [] (cal d 215 [vr 14 0, vi (I 14 0 24)] (MX I J (TB T b))) :=
  (bx_eq [] (d + 1) 218 4 50 _ _ _).symm.trans rfl
set_option maxRecDepth 100000 in
theorem b218b_58 (d : Nat) (x1 : Int32) (x2 : Int32) (v : Int32) (b : Nat) (I : PI) (J : PJ) (T : TL) : den d 218 58 [some (vr 14 0), some (vi x1), some (vi x2)] [vi v] (MX I J (TB T b)) = some (.inl (some (vi v)), MX I J (TB T b)) :=
  (bx_eq [] d 218 1 58 _ _ _).symm.trans rfl
set_option maxRecDepth 100000 in
theorem c218n (d : Nat) (x1 : Int32) (x2 : Int32) (I : PI) (J : PJ) (T : TL) : cal (d + 1) 218 [vr 14 0, vi x1, vi x2] (MX I J (TN T)) = ret9 (den (d + 1) 218) 218 14 17 [some (vr 14 0), some (vi x1), some (vi x2)] [] (cal d 187 [vr 14 0, vi 1] (MX (up3 I 14 0 0 0) J (TN T))) :=
  (bx_eq [] (d + 1) 218 9 0 _ _ _).symm.trans rfl
set_option maxRecDepth 100000 in
theorem b218n_17 (d : Nat) (x1 : Int32) (x2 : Int32) (v : Int32) (I : PI) (J : PJ) (T : TL) : den d 218 17 [some (vr 14 0), some (vi x1), some (vi x2)] [vi v] (MX I J (TN T)) = some (.inl (some (vi v)), MX I J (TN T)) :=
  (bx_eq [] d 218 1 17 _ _ _).symm.trans rfl
-- 219 WFModel_in
set_option maxRecDepth 100000 in
theorem c219 (d : Nat) (x0 : Int32) (x1 : Int32) (x2 : Int32) (I : PI) (J : PJ) (T : TL) : cal d 219 [vi x0, vi x1, vi x2] (MX I J T) = (if x0 < x1 then some (.inl (some (vi 0)), MX I J T) else (if x2 < x0 then some (.inl (some (vi 0)), MX I J T) else some (.inl (some (vi 1)), MX I J T))) :=
  ((bx_eq [] d 219 9 0 _ _ _).symm.trans rfl : _ = (if decide (x0 < x1) = true then some (.inl (some (vi 0)), MX I J T) else (if decide (x2 < x0) = true then some (.inl (some (vi 0)), MX I J T) else some (.inl (some (vi 1)), MX I J T)))).trans (by simp only [ite_dec])
-- 220 WFModel_cell
set_option maxRecDepth 100000 in
theorem c220 (d : Nat) (x1 : Int32) (x2 : Int32) (x3 : Int32) (x4 : Int32) (I : PI) (J : PJ) (T : TL) : cal (d + 1) 220 [vr 14 0, vi x1, vi x2, vi x3, vi x4] (MX I J T) = ret9 (den (d + 1) 220) 220 7 10 [some (vr 14 0), some (vi x1), some (vi x2), some (vi x3), some (vi x4)] [] (cal d 221 [vr 14 0, vi x1] (MX (up3 I 14 0 0 0) J T)) :=
  (bx_eq [] (d + 1) 220 6 0 _ _ _).symm.trans rfl
set_option maxRecDepth 100000 in
theorem b220_10 (d : Nat) (x1 : Int32) (x2 : Int32) (x3 : Int32) (x4 : Int32) (v : Int32) (I : PI) (J : PJ) (T : TL) : den (d + 1) 220 10 [some (vr 14 0), some (vi x1), some (vi x2), some (vi x3), some (vi x4)] [vi v] (MX I J T) = (if ¬ v = 0 then ret9 (den (d + 1) 220) 220 23 26 [some (vr 14 0), some (vi x1), some (vi x2), some (vi x3), some (vi x4)] [] (cal d 219 [vi x2, vi 0, vi 9] (MX I J T)) else ret9 (den (d + 1) 220) 220 15 18 [some (vr 14 0), some (vi x1), some (vi x2), some (vi x3), some (vi x4)] [] (cal d 222 [vr 14 0, vi 1] (MX I J T))) :=
  ((bx_eq [] (d + 1) 220 5 10 _ _ _).symm.trans rfl : _ = (if decide (¬ v = 0) = true then ret9 (den (d + 1) 220) 220 23 26 [some (vr 14 0), some (vi x1), some (vi x2), some (vi x3), some (vi x4)] [] (cal d 219 [vi x2, vi 0, vi 9] (MX I J T)) else ret9 (den (d + 1) 220) 220 15 18 [some (vr 14 0), some (vi x1), some (vi x2), some (vi x3), some (vi x4)] [] (cal d 222 [vr 14 0, vi 1] (MX I J T)))).trans (by simp only [ite_dec])
set_option maxRecDepth 100000 in
theorem b220_18 (d : Nat) (x1 : Int32) (x2 : Int32) (x3 : Int32) (x4 : Int32) (v : Int32) (I : PI) (J : PJ) (T : TL) : den d 220 18 [some (vr 14 0), some (vi x1), some (vi x2), some (vi x3), some (vi x4)] [vi v] (MX I J T) = (if v = 0 ∨ v = 1 then some (.inl (some (vi v)), MX I J T) else none) :=
  (bx_eq [] d 220 1 18 _ _ _).symm.trans rfl
set_option maxRecDepth 100000 in
theorem b220_26 (d : Nat) (x1 : Int32) (x2 : Int32) (x3 : Int32) (x4 : Int32) (v : Int32) (I : PI) (J : PJ) (T : TL) : den (d + 1) 220 26 [some (vr 14 0), some (vi x1), some (vi x2), some (vi x3), some (vi x4)] [vi v] (MX I J T) = (if v = 0 then ret9 (den (d + 1) 220) 220 41 44 [some (vr 14 0), some (vi x1), some (vi x2), some (vi x3), some (vi x4)] [] (cal d 222 [vr 14 0, vi 2] (MX I J T)) else ret9 (den (d + 1) 220) 220 33 36 [some (vr 14 0), some (vi x1), some (vi x2), some (vi x3), some (vi x4)] [] (cal d 219 [vi x3, vi 0, vi 9] (MX I J T))) :=
  ((bx_eq [] (d + 1) 220 5 26 _ _ _).symm.trans rfl : _ = (if decide (v = 0) = true then ret9 (den (d + 1) 220) 220 41 44 [some (vr 14 0), some (vi x1), some (vi x2), some (vi x3), some (vi x4)] [] (cal d 222 [vr 14 0, vi 2] (MX I J T)) else ret9 (den (d + 1) 220) 220 33 36 [some (vr 14 0), some (vi x1), some (vi x2), some (vi x3), some (vi x4)] [] (cal d 219 [vi x3, vi 0, vi 9] (MX I J T)))).trans (by simp only [ite_dec])
set_option maxRecDepth 100000 in
theorem b220_36 (d : Nat) (x1 : Int32) (x2 : Int32) (x3 : Int32) (x4 : Int32) (v : Int32) (I : PI) (J : PJ) (T : TL) : den (d + 1) 220 36 [some (vr 14 0), some (vi x1), some (vi x2), some (vi x3), some (vi x4)] [vi v] (MX I J T) = (if ¬ v = 0 then (if inR x1 64 = true then (if inR x1 64 = true then (if inR x1 64 = true then ret9 (den (d + 1) 220) 220 68 71 [some (vr 14 0), some (vi x1), some (vi x2), some (vi x3), some (vi x4)] [] (cal d 223 [vr 14 0] (MX (up3 (up3 (up3 I 28 4 (Int32.toNatClampNeg x1) x2) 28 5 (Int32.toNatClampNeg x1) x3) 39 0 (Int32.toNatClampNeg x1) (x4 &&& 1)) J T)) else none) else none) else none) else ret9 (den (d + 1) 220) 220 41 44 [some (vr 14 0), some (vi x1), some (vi x2), some (vi x3), some (vi x4)] [] (cal d 222 [vr 14 0, vi 2] (MX I J T))) :=
  ((bx_eq [] (d + 1) 220 18 36 _ _ _).symm.trans rfl : _ = (if decide (¬ v = 0) = true then (if inR x1 64 = true then (if inR x1 64 = true then (if inR x1 64 = true then ret9 (den (d + 1) 220) 220 68 71 [some (vr 14 0), some (vi x1), some (vi x2), some (vi x3), some (vi x4)] [] (cal d 223 [vr 14 0] (MX (up3 (up3 (up3 I 28 4 (Int32.toNatClampNeg x1) x2) 28 5 (Int32.toNatClampNeg x1) x3) 39 0 (Int32.toNatClampNeg x1) (x4 &&& 1)) J T)) else none) else none) else none) else ret9 (den (d + 1) 220) 220 41 44 [some (vr 14 0), some (vi x1), some (vi x2), some (vi x3), some (vi x4)] [] (cal d 222 [vr 14 0, vi 2] (MX I J T)))).trans (by simp only [ite_dec])
set_option maxRecDepth 100000 in
theorem b220_44 (d : Nat) (x1 : Int32) (x2 : Int32) (x3 : Int32) (x4 : Int32) (v : Int32) (I : PI) (J : PJ) (T : TL) : den d 220 44 [some (vr 14 0), some (vi x1), some (vi x2), some (vi x3), some (vi x4)] [vi v] (MX I J T) = (if v = 0 ∨ v = 1 then some (.inl (some (vi v)), MX I J T) else none) :=
  (bx_eq [] d 220 1 44 _ _ _).symm.trans rfl
set_option maxRecDepth 100000 in
theorem b220_71 (d : Nat) (x1 : Int32) (x2 : Int32) (x3 : Int32) (x4 : Int32) (v : Int32) (I : PI) (J : PJ) (T : TL) : den d 220 71 [some (vr 14 0), some (vi x1), some (vi x2), some (vi x3), some (vi x4)] [vi v] (MX I J T) = (if v = 0 ∨ v = 1 then some (.inl (some (vi v)), MX I J T) else none) :=
  (bx_eq [] d 220 1 71 _ _ _).symm.trans rfl
-- 221 WFModel_isCell
set_option maxRecDepth 100000 in
theorem c221 (d : Nat) (x1 : Int32) (I : PI) (J : PJ) (T : TL) : cal d 221 [vr 14 0, vi x1] (MX I J T) = (if x1 < 0 then some (.inl (some (vi 0)), MX I J T) else (if (I 14 0 24) ≤ x1 then some (.inl (some (vi 0)), MX I J T) else some (.inl (some (vi 1)), MX I J T))) :=
  ((bx_eq [] d 221 9 0 _ _ _).symm.trans rfl : _ = (if decide (x1 < 0) = true then some (.inl (some (vi 0)), MX I J T) else (if decide ((I 14 0 24) ≤ x1) = true then some (.inl (some (vi 0)), MX I J T) else some (.inl (some (vi 1)), MX I J T)))).trans (by simp only [ite_dec])
-- 222 WFModel_denied
set_option maxRecDepth 100000 in
theorem c222 (d : Nat) (x1 : Int32) (I : PI) (J : PJ) (T : TL) : cal d 222 [vr 14 0, vi x1] (MX I J T) = some (.inl (some (vi 0)), MX (up3 (up3 I 14 0 1 x1) 14 0 2 (-1)) J T) :=
  (bx_eq [] d 222 8 0 _ _ _).symm.trans rfl
-- 223 WFModel_granted
set_option maxRecDepth 100000 in
theorem c223 (d : Nat) (I : PI) (J : PJ) (T : TL) : cal d 223 [vr 14 0] (MX I J T) = some (.inl (some (vi 1)), MX (up3 (up3 I 14 0 1 0) 14 0 2 (-1)) J T) :=
  (bx_eq [] d 223 8 0 _ _ _).symm.trans rfl
-- 224 WFModel_door
set_option maxRecDepth 100000 in
theorem c224 (d : Nat) (x1 : Int32) (x2 : Int32) (I : PI) (J : PJ) (T : TL) : cal (d + 1) 224 [vr 14 0, vi x1, vi x2] (MX I J T) = ret9 (den (d + 1) 224) 224 7 10 [some (vr 14 0), some (vi x1), some (vi x2)] [] (cal d 225 [vr 14 0, vi x1] (MX (up3 I 14 0 0 0) J T)) :=
  (bx_eq [] (d + 1) 224 6 0 _ _ _).symm.trans rfl
set_option maxRecDepth 100000 in
theorem b224_10 (d : Nat) (x1 : Int32) (x2 : Int32) (v : Int32) (I : PI) (J : PJ) (T : TL) : den (d + 1) 224 10 [some (vr 14 0), some (vi x1), some (vi x2)] [vi v] (MX I J T) = (if v = 0 then ret9 (den (d + 1) 224) 224 23 26 [some (vr 14 0), some (vi x1), some (vi x2)] [] (cal d 222 [vr 14 0, vi 1] (MX I J T)) else ret9 (den (d + 1) 224) 224 15 18 [some (vr 14 0), some (vi x1), some (vi x2)] [] (cal d 221 [vr 14 0, vi x2] (MX I J T))) :=
  ((bx_eq [] (d + 1) 224 4 10 _ _ _).symm.trans rfl : _ = (if decide (v = 0) = true then ret9 (den (d + 1) 224) 224 23 26 [some (vr 14 0), some (vi x1), some (vi x2)] [] (cal d 222 [vr 14 0, vi 1] (MX I J T)) else ret9 (den (d + 1) 224) 224 15 18 [some (vr 14 0), some (vi x1), some (vi x2)] [] (cal d 221 [vr 14 0, vi x2] (MX I J T)))).trans (by simp only [ite_dec])
set_option maxRecDepth 100000 in
theorem b224_18 (d : Nat) (x1 : Int32) (x2 : Int32) (v : Int32) (I : PI) (J : PJ) (T : TL) : den (d + 1) 224 18 [some (vr 14 0), some (vi x1), some (vi x2)] [vi v] (MX I J T) = (if ¬ v = 0 then (if inR x1 6 = true then ret9 (den (d + 1) 224) 224 35 38 [some (vr 14 0), some (vi x1), some (vi x2)] [] (cal d 223 [vr 14 0] (MX (up3 I 21 10 (Int32.toNatClampNeg x1) x2) J T)) else none) else ret9 (den (d + 1) 224) 224 23 26 [some (vr 14 0), some (vi x1), some (vi x2)] [] (cal d 222 [vr 14 0, vi 1] (MX I J T))) :=
  ((bx_eq [] (d + 1) 224 8 18 _ _ _).symm.trans rfl : _ = (if decide (¬ v = 0) = true then (if inR x1 6 = true then ret9 (den (d + 1) 224) 224 35 38 [some (vr 14 0), some (vi x1), some (vi x2)] [] (cal d 223 [vr 14 0] (MX (up3 I 21 10 (Int32.toNatClampNeg x1) x2) J T)) else none) else ret9 (den (d + 1) 224) 224 23 26 [some (vr 14 0), some (vi x1), some (vi x2)] [] (cal d 222 [vr 14 0, vi 1] (MX I J T)))).trans (by simp only [ite_dec])
set_option maxRecDepth 100000 in
theorem b224_26 (d : Nat) (x1 : Int32) (x2 : Int32) (v : Int32) (I : PI) (J : PJ) (T : TL) : den d 224 26 [some (vr 14 0), some (vi x1), some (vi x2)] [vi v] (MX I J T) = (if v = 0 ∨ v = 1 then some (.inl (some (vi v)), MX I J T) else none) :=
  (bx_eq [] d 224 1 26 _ _ _).symm.trans rfl
set_option maxRecDepth 100000 in
theorem b224_38 (d : Nat) (x1 : Int32) (x2 : Int32) (v : Int32) (I : PI) (J : PJ) (T : TL) : den d 224 38 [some (vr 14 0), some (vi x1), some (vi x2)] [vi v] (MX I J T) = (if v = 0 ∨ v = 1 then some (.inl (some (vi v)), MX I J T) else none) :=
  (bx_eq [] d 224 1 38 _ _ _).symm.trans rfl
-- 225 WFModel_isOwner
set_option maxRecDepth 100000 in
theorem c225 (d : Nat) (x1 : Int32) (b : Nat) (I : PI) (J : PJ) (T : TL) : cal d 225 [vr 14 0, vi x1] (MX I J (TB T b)) = (if (I 14 0 24) ≤ 0 then some (.inl (some (vi 0)), MX I J (TB T b)) else (if x1 < 0 then some (.inl (some (vi 0)), MX I J (TB T b)) else (if (I 12 b 0) ≤ x1 then some (.inl (some (vi 0)), MX I J (TB T b)) else some (.inl (some (vi 1)), MX I J (TB T b))))) :=
  ((bx_eq [] d 225 13 0 _ _ _).symm.trans rfl : _ = (if decide ((I 14 0 24) ≤ 0) = true then some (.inl (some (vi 0)), MX I J (TB T b)) else (if decide (x1 < 0) = true then some (.inl (some (vi 0)), MX I J (TB T b)) else (if decide ((I 12 b 0) ≤ x1) = true then some (.inl (some (vi 0)), MX I J (TB T b)) else some (.inl (some (vi 1)), MX I J (TB T b)))))).trans (by simp only [ite_dec])
-- 226 WFModel_keep
set_option maxRecDepth 100000 in
theorem c226 (d : Nat) (x1 : Int32) (x2 : Int32) (I : PI) (J : PJ) (T : TL) : cal (d + 1) 226 [vr 14 0, vi x1, vi x2] (MX I J T) = ret9 (den (d + 1) 226) 226 7 10 [some (vr 14 0), some (vi x1), some (vi x2)] [] (cal d 221 [vr 14 0, vi x1] (MX (up3 I 14 0 0 0) J T)) :=
  (bx_eq [] (d + 1) 226 6 0 _ _ _).symm.trans rfl
set_option maxRecDepth 100000 in
theorem b226_10 (d : Nat) (x1 : Int32) (x2 : Int32) (v : Int32) (I : PI) (J : PJ) (T : TL) : den (d + 1) 226 10 [some (vr 14 0), some (vi x1), some (vi x2)] [vi v] (MX I J T) = (if v = 0 then ret9 (den (d + 1) 226) 226 28 31 [some (vr 14 0), some (vi x1), some (vi x2)] [] (cal d 222 [vr 14 0, vi 1] (MX I J T)) else (if x2 = (-1) then (if inR x1 64 = true then ret9 (den (d + 1) 226) 226 40 43 [some (vr 14 0), some (vi x1), some (vi x2)] [] (cal d 223 [vr 14 0] (MX (up3 I 28 6 (Int32.toNatClampNeg x1) x2) J T)) else none) else ret9 (den (d + 1) 226) 226 20 23 [some (vr 14 0), some (vi x1), some (vi x2)] [] (cal d 225 [vr 14 0, vi x2] (MX I J T)))) :=
  ((bx_eq [] (d + 1) 226 11 10 _ _ _).symm.trans rfl : _ = (if decide (v = 0) = true then ret9 (den (d + 1) 226) 226 28 31 [some (vr 14 0), some (vi x1), some (vi x2)] [] (cal d 222 [vr 14 0, vi 1] (MX I J T)) else (if decide (x2 = (-1)) = true then (if inR x1 64 = true then ret9 (den (d + 1) 226) 226 40 43 [some (vr 14 0), some (vi x1), some (vi x2)] [] (cal d 223 [vr 14 0] (MX (up3 I 28 6 (Int32.toNatClampNeg x1) x2) J T)) else none) else ret9 (den (d + 1) 226) 226 20 23 [some (vr 14 0), some (vi x1), some (vi x2)] [] (cal d 225 [vr 14 0, vi x2] (MX I J T))))).trans (by simp only [ite_dec])
set_option maxRecDepth 100000 in
theorem b226_23 (d : Nat) (x1 : Int32) (x2 : Int32) (v : Int32) (I : PI) (J : PJ) (T : TL) : den (d + 1) 226 23 [some (vr 14 0), some (vi x1), some (vi x2)] [vi v] (MX I J T) = (if ¬ v = 0 then (if inR x1 64 = true then ret9 (den (d + 1) 226) 226 40 43 [some (vr 14 0), some (vi x1), some (vi x2)] [] (cal d 223 [vr 14 0] (MX (up3 I 28 6 (Int32.toNatClampNeg x1) x2) J T)) else none) else ret9 (den (d + 1) 226) 226 28 31 [some (vr 14 0), some (vi x1), some (vi x2)] [] (cal d 222 [vr 14 0, vi 1] (MX I J T))) :=
  ((bx_eq [] (d + 1) 226 8 23 _ _ _).symm.trans rfl : _ = (if decide (¬ v = 0) = true then (if inR x1 64 = true then ret9 (den (d + 1) 226) 226 40 43 [some (vr 14 0), some (vi x1), some (vi x2)] [] (cal d 223 [vr 14 0] (MX (up3 I 28 6 (Int32.toNatClampNeg x1) x2) J T)) else none) else ret9 (den (d + 1) 226) 226 28 31 [some (vr 14 0), some (vi x1), some (vi x2)] [] (cal d 222 [vr 14 0, vi 1] (MX I J T)))).trans (by simp only [ite_dec])
set_option maxRecDepth 100000 in
theorem b226_31 (d : Nat) (x1 : Int32) (x2 : Int32) (v : Int32) (I : PI) (J : PJ) (T : TL) : den d 226 31 [some (vr 14 0), some (vi x1), some (vi x2)] [vi v] (MX I J T) = (if v = 0 ∨ v = 1 then some (.inl (some (vi v)), MX I J T) else none) :=
  (bx_eq [] d 226 1 31 _ _ _).symm.trans rfl
set_option maxRecDepth 100000 in
theorem b226_43 (d : Nat) (x1 : Int32) (x2 : Int32) (v : Int32) (I : PI) (J : PJ) (T : TL) : den d 226 43 [some (vr 14 0), some (vi x1), some (vi x2)] [vi v] (MX I J T) = (if v = 0 ∨ v = 1 then some (.inl (some (vi v)), MX I J T) else none) :=
  (bx_eq [] d 226 1 43 _ _ _).symm.trans rfl
-- 227 WFModel_had
set_option maxRecDepth 100000 in
theorem c227 (d : Nat) (x1 : Int32) (x2 : Int32) (I : PI) (J : PJ) (T : TL) : cal (d + 1) 227 [vr 14 0, vi x1, vi x2] (MX I J T) = ret9 (den (d + 1) 227) 227 7 10 [some (vr 14 0), some (vi x1), some (vi x2)] [] (cal d 225 [vr 14 0, vi x1] (MX (up3 I 14 0 0 0) J T)) :=
  (bx_eq [] (d + 1) 227 6 0 _ _ _).symm.trans rfl
set_option maxRecDepth 100000 in
theorem b227_10 (d : Nat) (x1 : Int32) (x2 : Int32) (v : Int32) (I : PI) (J : PJ) (T : TL) : den (d + 1) 227 10 [some (vr 14 0), some (vi x1), some (vi x2)] [vi v] (MX I J T) = (if ¬ v = 0 then ret9 (den (d + 1) 227) 227 24 27 [some (vr 14 0), some (vi x1), some (vi x2)] [] (cal d 219 [vi x2, vi 0, vi 1000000] (MX I J T)) else ret9 (den (d + 1) 227) 227 15 18 [some (vr 14 0), some (vi x1), some (vi x2)] [] (cal d 222 [vr 14 0, vi 1] (MX I J T))) :=
  ((bx_eq [] (d + 1) 227 5 10 _ _ _).symm.trans rfl : _ = (if decide (¬ v = 0) = true then ret9 (den (d + 1) 227) 227 24 27 [some (vr 14 0), some (vi x1), some (vi x2)] [] (cal d 219 [vi x2, vi 0, vi 1000000] (MX I J T)) else ret9 (den (d + 1) 227) 227 15 18 [some (vr 14 0), some (vi x1), some (vi x2)] [] (cal d 222 [vr 14 0, vi 1] (MX I J T)))).trans (by simp only [ite_dec])
set_option maxRecDepth 100000 in
theorem b227_18 (d : Nat) (x1 : Int32) (x2 : Int32) (v : Int32) (I : PI) (J : PJ) (T : TL) : den d 227 18 [some (vr 14 0), some (vi x1), some (vi x2)] [vi v] (MX I J T) = (if v = 0 ∨ v = 1 then some (.inl (some (vi v)), MX I J T) else none) :=
  (bx_eq [] d 227 1 18 _ _ _).symm.trans rfl
set_option maxRecDepth 100000 in
theorem b227_27 (d : Nat) (x1 : Int32) (x2 : Int32) (v : Int32) (I : PI) (J : PJ) (T : TL) : den (d + 1) 227 27 [some (vr 14 0), some (vi x1), some (vi x2)] [vi v] (MX I J T) = (if ¬ v = 0 then (if inR x1 6 = true then ret9 (den (d + 1) 227) 227 44 47 [some (vr 14 0), some (vi x1), some (vi x2)] [] (cal d 223 [vr 14 0] (MX (up3 I 21 11 (Int32.toNatClampNeg x1) x2) J T)) else none) else ret9 (den (d + 1) 227) 227 32 35 [some (vr 14 0), some (vi x1), some (vi x2)] [] (cal d 222 [vr 14 0, vi 2] (MX I J T))) :=
  ((bx_eq [] (d + 1) 227 8 27 _ _ _).symm.trans rfl : _ = (if decide (¬ v = 0) = true then (if inR x1 6 = true then ret9 (den (d + 1) 227) 227 44 47 [some (vr 14 0), some (vi x1), some (vi x2)] [] (cal d 223 [vr 14 0] (MX (up3 I 21 11 (Int32.toNatClampNeg x1) x2) J T)) else none) else ret9 (den (d + 1) 227) 227 32 35 [some (vr 14 0), some (vi x1), some (vi x2)] [] (cal d 222 [vr 14 0, vi 2] (MX I J T)))).trans (by simp only [ite_dec])
set_option maxRecDepth 100000 in
theorem b227_35 (d : Nat) (x1 : Int32) (x2 : Int32) (v : Int32) (I : PI) (J : PJ) (T : TL) : den d 227 35 [some (vr 14 0), some (vi x1), some (vi x2)] [vi v] (MX I J T) = (if v = 0 ∨ v = 1 then some (.inl (some (vi v)), MX I J T) else none) :=
  (bx_eq [] d 227 1 35 _ _ _).symm.trans rfl
set_option maxRecDepth 100000 in
theorem b227_47 (d : Nat) (x1 : Int32) (x2 : Int32) (v : Int32) (I : PI) (J : PJ) (T : TL) : den d 227 47 [some (vr 14 0), some (vi x1), some (vi x2)] [vi v] (MX I J T) = (if v = 0 ∨ v = 1 then some (.inl (some (vi v)), MX I J T) else none) :=
  (bx_eq [] d 227 1 47 _ _ _).symm.trans rfl
-- 228 WFModel_set
set_option maxRecDepth 100000 in
theorem c228 (d : Nat) (x1 : Int32) (x2 : Int32) (I : PI) (J : PJ) (T : TL) : cal (d + 1) 228 [vr 14 0, vi x1, vi x2] (MX I J T) = (if (I 14 0 24) = 0 then ret9 (den (d + 1) 228) 228 23 26 [some (vr 14 0), some (vi x1), some (vi x2)] [] (cal d 222 [vr 14 0, vi 1] (MX (up3 I 14 0 0 0) J T)) else ret9 (den (d + 1) 228) 228 15 18 [some (vr 14 0), some (vi x1), some (vi x2)] [] (cal d 219 [vi x1, vi 0, vi 1] (MX (up3 I 14 0 0 0) J T))) :=
  ((bx_eq [] (d + 1) 228 10 0 _ _ _).symm.trans rfl : _ = (if decide ((I 14 0 24) = 0) = true then ret9 (den (d + 1) 228) 228 23 26 [some (vr 14 0), some (vi x1), some (vi x2)] [] (cal d 222 [vr 14 0, vi 1] (MX (up3 I 14 0 0 0) J T)) else ret9 (den (d + 1) 228) 228 15 18 [some (vr 14 0), some (vi x1), some (vi x2)] [] (cal d 219 [vi x1, vi 0, vi 1] (MX (up3 I 14 0 0 0) J T)))).trans (by simp only [ite_dec])
set_option maxRecDepth 100000 in
theorem b228_18 (d : Nat) (x1 : Int32) (x2 : Int32) (v : Int32) (I : PI) (J : PJ) (T : TL) : den (d + 1) 228 18 [some (vr 14 0), some (vi x1), some (vi x2)] [vi v] (MX I J T) = (if ¬ v = 0 then (if ¬ x1 = 0 then ret9 (den (d + 1) 228) 228 47 50 [some (vr 14 0), some (vi x1), some (vi x2)] [] (cal d 219 [vi x2, vi 0, vi 20] (MX I J T)) else ret9 (den (d + 1) 228) 228 34 37 [some (vr 14 0), some (vi x1), some (vi x2)] [] (cal d 219 [vi x2, vi 1, vi 2] (MX I J T))) else ret9 (den (d + 1) 228) 228 23 26 [some (vr 14 0), some (vi x1), some (vi x2)] [] (cal d 222 [vr 14 0, vi 1] (MX I J T))) :=
  ((bx_eq [] (d + 1) 228 7 18 _ _ _).symm.trans rfl : _ = (if decide (¬ v = 0) = true then (if decide (¬ x1 = 0) = true then ret9 (den (d + 1) 228) 228 47 50 [some (vr 14 0), some (vi x1), some (vi x2)] [] (cal d 219 [vi x2, vi 0, vi 20] (MX I J T)) else ret9 (den (d + 1) 228) 228 34 37 [some (vr 14 0), some (vi x1), some (vi x2)] [] (cal d 219 [vi x2, vi 1, vi 2] (MX I J T))) else ret9 (den (d + 1) 228) 228 23 26 [some (vr 14 0), some (vi x1), some (vi x2)] [] (cal d 222 [vr 14 0, vi 1] (MX I J T)))).trans (by simp only [ite_dec])
set_option maxRecDepth 100000 in
theorem b228_26 (d : Nat) (x1 : Int32) (x2 : Int32) (v : Int32) (I : PI) (J : PJ) (T : TL) : den d 228 26 [some (vr 14 0), some (vi x1), some (vi x2)] [vi v] (MX I J T) = (if v = 0 ∨ v = 1 then some (.inl (some (vi v)), MX I J T) else none) :=
  (bx_eq [] d 228 1 26 _ _ _).symm.trans rfl
set_option maxRecDepth 100000 in
theorem b228_37 (d : Nat) (x1 : Int32) (x2 : Int32) (v : Int32) (I : PI) (J : PJ) (T : TL) : den (d + 1) 228 37 [some (vr 14 0), some (vi x1), some (vi x2)] [vi v] (MX I J T) = (if ¬ v = 0 then (if ¬ x1 = 0 then ret9 (den (d + 1) 228) 228 77 80 [some (vr 14 0), some (vi x1), some (vi x2)] [] (cal d 223 [vr 14 0] (MX (up3 I 14 0 26 x2) J T)) else ret9 (den (d + 1) 228) 228 77 80 [some (vr 14 0), some (vi x1), some (vi x2)] [] (cal d 223 [vr 14 0] (MX (up3 I 14 0 25 x2) J T))) else ret9 (den (d + 1) 228) 228 55 58 [some (vr 14 0), some (vi x1), some (vi x2)] [] (cal d 222 [vr 14 0, vi 2] (MX I J T))) :=
  ((bx_eq [] (d + 1) 228 9 37 _ _ _).symm.trans rfl : _ = (if decide (¬ v = 0) = true then (if decide (¬ x1 = 0) = true then ret9 (den (d + 1) 228) 228 77 80 [some (vr 14 0), some (vi x1), some (vi x2)] [] (cal d 223 [vr 14 0] (MX (up3 I 14 0 26 x2) J T)) else ret9 (den (d + 1) 228) 228 77 80 [some (vr 14 0), some (vi x1), some (vi x2)] [] (cal d 223 [vr 14 0] (MX (up3 I 14 0 25 x2) J T))) else ret9 (den (d + 1) 228) 228 55 58 [some (vr 14 0), some (vi x1), some (vi x2)] [] (cal d 222 [vr 14 0, vi 2] (MX I J T)))).trans (by simp only [ite_dec])
set_option maxRecDepth 100000 in
theorem b228_50 (d : Nat) (x1 : Int32) (x2 : Int32) (v : Int32) (I : PI) (J : PJ) (T : TL) : den (d + 1) 228 50 [some (vr 14 0), some (vi x1), some (vi x2)] [vi v] (MX I J T) = (if ¬ v = 0 then (if ¬ x1 = 0 then ret9 (den (d + 1) 228) 228 77 80 [some (vr 14 0), some (vi x1), some (vi x2)] [] (cal d 223 [vr 14 0] (MX (up3 I 14 0 26 x2) J T)) else ret9 (den (d + 1) 228) 228 77 80 [some (vr 14 0), some (vi x1), some (vi x2)] [] (cal d 223 [vr 14 0] (MX (up3 I 14 0 25 x2) J T))) else ret9 (den (d + 1) 228) 228 55 58 [some (vr 14 0), some (vi x1), some (vi x2)] [] (cal d 222 [vr 14 0, vi 2] (MX I J T))) :=
  ((bx_eq [] (d + 1) 228 9 50 _ _ _).symm.trans rfl : _ = (if decide (¬ v = 0) = true then (if decide (¬ x1 = 0) = true then ret9 (den (d + 1) 228) 228 77 80 [some (vr 14 0), some (vi x1), some (vi x2)] [] (cal d 223 [vr 14 0] (MX (up3 I 14 0 26 x2) J T)) else ret9 (den (d + 1) 228) 228 77 80 [some (vr 14 0), some (vi x1), some (vi x2)] [] (cal d 223 [vr 14 0] (MX (up3 I 14 0 25 x2) J T))) else ret9 (den (d + 1) 228) 228 55 58 [some (vr 14 0), some (vi x1), some (vi x2)] [] (cal d 222 [vr 14 0, vi 2] (MX I J T)))).trans (by simp only [ite_dec])
set_option maxRecDepth 100000 in
theorem b228_58 (d : Nat) (x1 : Int32) (x2 : Int32) (v : Int32) (I : PI) (J : PJ) (T : TL) : den d 228 58 [some (vr 14 0), some (vi x1), some (vi x2)] [vi v] (MX I J T) = (if v = 0 ∨ v = 1 then some (.inl (some (vi v)), MX I J T) else none) :=
  (bx_eq [] d 228 1 58 _ _ _).symm.trans rfl
set_option maxRecDepth 100000 in
theorem b228_80 (d : Nat) (x1 : Int32) (x2 : Int32) (v : Int32) (I : PI) (J : PJ) (T : TL) : den d 228 80 [some (vr 14 0), some (vi x1), some (vi x2)] [vi v] (MX I J T) = (if v = 0 ∨ v = 1 then some (.inl (some (vi v)), MX I J T) else none) :=
  (bx_eq [] d 228 1 80 _ _ _).symm.trans rfl
-- 229 WFModel_value
set_option maxRecDepth 100000 in
theorem c229 (d : Nat) (x1 : Int32) (x2 : Int32) (I : PI) (J : PJ) (T : TL) : cal (d + 1) 229 [vr 14 0, vi x1, vi x2] (MX I J T) = ret9 (den (d + 1) 229) 229 7 10 [some (vr 14 0), some (vi x1), some (vi x2)] [] (cal d 225 [vr 14 0, vi x1] (MX (up3 I 14 0 0 0) J T)) :=
  (bx_eq [] (d + 1) 229 6 0 _ _ _).symm.trans rfl
set_option maxRecDepth 100000 in
theorem b229_10 (d : Nat) (x1 : Int32) (x2 : Int32) (v : Int32) (I : PI) (J : PJ) (T : TL) : den (d + 1) 229 10 [some (vr 14 0), some (vi x1), some (vi x2)] [vi v] (MX I J T) = (if v = 0 then some (.inl (some (vi (-2147483648))), MX I J T) else ret9 (den (d + 1) 229) 229 15 18 [some (vr 14 0), some (vi x1), some (vi x2)] [] (cal d 221 [vr 14 0, vi x2] (MX I J T))) :=
  ((bx_eq [] (d + 1) 229 4 10 _ _ _).symm.trans rfl : _ = (if decide (v = 0) = true then some (.inl (some (vi (-2147483648))), MX I J T) else ret9 (den (d + 1) 229) 229 15 18 [some (vr 14 0), some (vi x1), some (vi x2)] [] (cal d 221 [vr 14 0, vi x2] (MX I J T)))).trans (by simp only [ite_dec])
set_option maxRecDepth 100000 in
theorem b229_18 (d : Nat) (x1 : Int32) (x2 : Int32) (v : Int32) (I : PI) (J : PJ) (T : TL) : den (d + 1) 229 18 [some (vr 14 0), some (vi x1), some (vi x2)] [vi v] (MX I J T) = (if v = 0 then some (.inl (some (vi (-2147483648))), MX I J T) else ret9 (den (d + 1) 229) 229 24 27 [some (vr 14 0), some (vi x1), some (vi x2)] [] (cal d 230 [vr 14 0, vi x1, vi x2] (MX I J T))) :=
  ((bx_eq [] (d + 1) 229 5 18 _ _ _).symm.trans rfl : _ = (if decide (v = 0) = true then some (.inl (some (vi (-2147483648))), MX I J T) else ret9 (den (d + 1) 229) 229 24 27 [some (vr 14 0), some (vi x1), some (vi x2)] [] (cal d 230 [vr 14 0, vi x1, vi x2] (MX I J T)))).trans (by simp only [ite_dec])
set_option maxRecDepth 100000 in
theorem b229_27 (d : Nat) (x1 : Int32) (x2 : Int32) (v : Int32) (I : PI) (J : PJ) (T : TL) : den d 229 27 [some (vr 14 0), some (vi x1), some (vi x2)] [vi v] (MX I J T) = some (.inl (some (vi v)), MX I J T) :=
  (bx_eq [] d 229 2 27 _ _ _).symm.trans rfl
