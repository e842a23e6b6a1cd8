/-! The book: the blocks of both calls -/
section BK19
variable (d : Nat) (x1 v : Int32) (I : PI) (J : PJ) (T : TL)
set_option maxRecDepth 100000 in
theorem c19 : cal (d + 1) 19 [vr 11 0, vi x1] (MX I J T) = (if x1 < 0 then ret9 (den (d + 1) 19) 19 14 17 [some (vr 11 0), some (vi x1), none, none] [] (cal d 20 [vr 11 0, vi 2] (MX I J T)) else (if x1 ≤ I 11 0 10 then ret9 (den (d + 1) 19) 19 28 31 [some (vr 11 0), some (vi x1), none, none] [] (cal d 21 [vr 7 0, vi x1] (MX (up3 I 11 0 10 0) J T)) else ret9 (den (d + 1) 19) 19 14 17 [some (vr 11 0), some (vi x1), none, none] [] (cal d 20 [vr 11 0, vi 2] (MX I J T)))) :=
  ((bx_eq [] (d + 1) 19 14 0 _ _ _).symm.trans rfl : _ = (if decide (x1 < 0) = true then ret9 (den (d + 1) 19) 19 14 17 [some (vr 11 0), some (vi x1), none, none] [] (cal d 20 [vr 11 0, vi 2] (MX I J T)) else (if decide (x1 ≤ I 11 0 10) = true then ret9 (den (d + 1) 19) 19 28 31 [some (vr 11 0), some (vi x1), none, none] [] (cal d 21 [vr 7 0, vi x1] (MX (up3 I 11 0 10 0) J T)) else ret9 (den (d + 1) 19) 19 14 17 [some (vr 11 0), some (vi x1), none, none] [] (cal d 20 [vr 11 0, vi 2] (MX I J T))))).trans (by simp only [ite_dec])
set_option maxRecDepth 100000 in
theorem b19_17 : den d 19 17 [some (vr 11 0), some (vi x1), none, none] [vi v] (MX I J T) = some (.inl (some (vi v)), MX I J T) := (bx_eq [] d 19 2 17 _ _ _).symm.trans rfl
set_option maxRecDepth 100000 in
theorem b19_31 : den (d + 1) 19 31 [some (vr 11 0), some (vi x1), none, none] [vi v] (MX I J T) = (if ¬ v = 0 then ret9 (den (d + 1) 19) 19 98 101 [some (vr 11 0), some (vi x1), some (vi v), some (vr 1 T.1)] [] (cal d 50 [vr 5 0] (up3 (up3 I 11 0 11 (I 7 0 3)) 11 0 12 (I 7 0 4), J, up3 (up3 (RL T.1 T.2.1 T.2.2.1 T.2.2.2.1) 5 0 6 (ro 1 T.2.1)) 7 0 2 (ro 1 T.1), T.2.2.2.2)) else ret9 (den (d + 1) 19) 19 60 63 [some (vr 11 0), some (vi x1), some (vi v), none] [] (cal d 20 [vr 11 0, vi 4] (MX (up3 (up3 I 11 0 11 (I 7 0 3)) 11 0 12 (I 7 0 4)) J T))) :=
  ((bx_eq [] (d + 1) 19 40 31 _ _ _).symm.trans rfl : _ = (if decide (¬ v = 0) = true then ret9 (den (d + 1) 19) 19 98 101 [some (vr 11 0), some (vi x1), some (vi v), some (vr 1 T.1)] [] (cal d 50 [vr 5 0] (up3 (up3 I 11 0 11 (I 7 0 3)) 11 0 12 (I 7 0 4), J, up3 (up3 (RL T.1 T.2.1 T.2.2.1 T.2.2.2.1) 5 0 6 (ro 1 T.2.1)) 7 0 2 (ro 1 T.1), T.2.2.2.2)) else ret9 (den (d + 1) 19) 19 60 63 [some (vr 11 0), some (vi x1), some (vi v), none] [] (cal d 20 [vr 11 0, vi 4] (MX (up3 (up3 I 11 0 11 (I 7 0 3)) 11 0 12 (I 7 0 4)) J T)))).trans (by simp only [ite_dec])
set_option maxRecDepth 100000 in
theorem b19_63 (x2 : Int32) : den d 19 63 [some (vr 11 0), some (vi x1), some (vi x2), none] [vi v] (MX I J T) = some (.inl (some (vi v)), MX I J T) := (bx_eq [] d 19 2 63 _ _ _).symm.trans rfl
set_option maxRecDepth 100000 in
theorem b19_101 (x2 : Int32) (g : Nat) : den (d + 1) 19 101 [some (vr 11 0), some (vi x1), some (vi x2), some (vr 1 g)] [] (MX I J T) = ret9 (den (d + 1) 19) 19 102 105 [some (vr 11 0), some (vi x1), some (vi x2), some (vr 1 g)] [] (cal d 13 [vr 11 0] (MX I J T)) := (bx_eq [] (d + 1) 19 2 101 _ _ _).symm.trans rfl
set_option maxRecDepth 100000 in
theorem b19_105 (x2 : Int32) (g : Nat) : den (d + 1) 19 105 [some (vr 11 0), some (vi x1), some (vi x2), some (vr 1 g)] [] (MX I J T) = ret9 (den (d + 1) 19) 19 116 119 [some (vr 11 0), some (vi x1), some (vi x2), some (vr 1 g)] [] (cal d 51 [vr 11 0, vi (I 1 T.1 3)] (MX I J T)) := (bx_eq [] (d + 1) 19 6 105 _ _ _).symm.trans rfl
set_option maxRecDepth 100000 in
theorem b19_119 (x2 : Int32) (g : Nat) : den d 19 119 [some (vr 11 0), some (vi x1), some (vi x2), some (vr 1 g)] [vi v] (MX I J T) = some (.inl (some (vi v)), MX I J T) := (bx_eq [] d 19 2 119 _ _ _).symm.trans rfl
end BK19
section BK186
variable (d : Nat) (x1 v : Int32) (I : PI) (J : PJ) (T : TL)
set_option maxRecDepth 100000 in
theorem c186 : cal (d + 1) 186 [vr 14 0, vi x1] (MX I J T) = (if x1 < 0 then ret9 (den (d + 1) 186) 186 19 22 [some (vr 14 0), some (vi x1), none] [] (cal d 187 [vr 14 0, vi 2] (MX (up3 I 14 0 0 0) J T)) else (if x1 ≤ I 14 0 8 then ret9 (den (d + 1) 186) 186 48 51 [some (vr 14 0), some (vi x1), none] [vr 12 (T.2.2.2.2.1 12), vr 14 0] (cal d 188 [vr 12 (T.2.2.2.2.1 12)] (newM (MX (up3 (up3 (up3 (up3 (up3 I 14 0 0 0) 14 0 9 x1) 14 0 8 0) 14 0 10 0) 14 0 3 0) J T) 12 4)) else ret9 (den (d + 1) 186) 186 19 22 [some (vr 14 0), some (vi x1), none] [] (cal d 187 [vr 14 0, vi 2] (MX (up3 I 14 0 0 0) J T)))) :=
  ((bx_eq [] (d + 1) 186 40 0 _ _ _).symm.trans rfl : _ = (if decide (x1 < 0) = true then ret9 (den (d + 1) 186) 186 19 22 [some (vr 14 0), some (vi x1), none] [] (cal d 187 [vr 14 0, vi 2] (MX (up3 I 14 0 0 0) J T)) else (if decide (x1 ≤ I 14 0 8) = true then ret9 (den (d + 1) 186) 186 48 51 [some (vr 14 0), some (vi x1), none] [vr 12 (T.2.2.2.2.1 12), vr 14 0] (cal d 188 [vr 12 (T.2.2.2.2.1 12)] (newM (MX (up3 (up3 (up3 (up3 (up3 I 14 0 0 0) 14 0 9 x1) 14 0 8 0) 14 0 10 0) 14 0 3 0) J T) 12 4)) else ret9 (den (d + 1) 186) 186 19 22 [some (vr 14 0), some (vi x1), none] [] (cal d 187 [vr 14 0, vi 2] (MX (up3 I 14 0 0 0) J T))))).trans (by simp only [ite_dec])
set_option maxRecDepth 100000 in
theorem b186_22 : den d 186 22 [some (vr 14 0), some (vi x1), none] [vi v] (MX I J T) = some (.inl (some (vi v)), MX I J T) := (bx_eq [] d 186 2 22 _ _ _).symm.trans rfl
set_option maxRecDepth 100000 in
theorem b186_51 (b : Nat) (m : Mem) : den (d + 1) 186 51 [some (vr 14 0), some (vi x1), none] [vr 12 b, vr 14 0] m = ret9 (den (d + 1) 186) 186 55 58 [some (vr 14 0), some (vi x1), none] [] (cal d 189 [vr 14 0] (setR m 14 0 5 (ro 12 b))) := (bx_eq [] (d + 1) 186 3 51 _ _ _).symm.trans rfl
set_option maxRecDepth 100000 in
theorem b186_58 : den (d + 1) 186 58 [some (vr 14 0), some (vi x1), none] [] (MX I J T) = ret9 (den (d + 1) 186) 186 59 62 [some (vr 14 0), some (vi x1), none] [] (cal d 193 [vr 14 0] (MX I J T)) := (bx_eq [] (d + 1) 186 2 58 _ _ _).symm.trans rfl
set_option maxRecDepth 100000 in
theorem b186_62 (b : Nat) : den (d + 1) 186 62 [some (vr 14 0), some (vi x1), none] [] (MX I J (TF T b)) = ret9 (den (d + 1) 186) 186 100 103 [some (vr 14 0), some (vi x1), none] [] (cal d 214 [vr 14 0, vi 0, vi 0] (I, J, up3 (RL T.1 T.2.1 T.2.2.1 (ro 12 b)) 14 0 4 (ro 12 b), T.2.2.2.2)) := (bx_eq [] (d + 1) 186 10 62 _ _ _).symm.trans rfl
set_option maxRecDepth 100000 in
theorem b186_65 : den d 186 65 [some (vr 14 0), some (vi x1), none] [vr 13 0] (MX I J T) = some (.inl (some (vi (-1))), MX (up3 (up3 (up3 I 14 0 3 (I 13 0 5)) 14 0 1 4) 14 0 2 (I 13 0 6)) J T) := (bx_eq [] d 186 20 65 _ _ _).symm.trans rfl
set_option maxRecDepth 100000 in
theorem b186_103 (b : Nat) : den (d + 1) 186 103 [some (vr 14 0), some (vi x1), none] [] (MX I J (TB T b)) = ret9 (den (d + 1) 186) 186 111 114 [some (vr 14 0), some (vi x1), none] [] (cal d 215 [vr 14 0, vi (I 12 b 0)] (MX I J (TB T b))) := (bx_eq [] (d + 1) 186 6 103 _ _ _).symm.trans rfl
set_option maxRecDepth 100000 in
theorem b186_114 : den d 186 114 [some (vr 14 0), some (vi x1), none] [vi v] (MX I J T) = some (.inl (some (vi v)), MX I J T) := (bx_eq [] d 186 2 114 _ _ _).symm.trans rfl
end BK186
