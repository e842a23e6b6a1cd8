/-! Blocks of methods (printed by program: wip/gen/gen40.py) -/
set_option maxRecDepth 100000 in
theorem c15k28 (d : Nat) (j : Nat) (x1 : Int32) (I : PI) (J : PJ) (T : TL) : cal d 15 [vr 28 j, vi x1] (MX I J T) = den d 15 5 [some (vr 28 j), some (vi x1), some (vi 0), some (vi 64)] [] (MX I J T) :=
  (bx_eq [5] d 15 5 0 _ _ _).symm.trans rfl
set_option maxRecDepth 100000 in
theorem b15k28_5 (d : Nat) (j : Nat) (x1 : Int32) (x2 : Int32) (x3 : Int32) (I : PI) (J : PJ) (T : TL) : den d 15 5 [some (vr 28 j), some (vi x1), some (vi x2), some (vi x3)] [] (MX I J T) = (if x3 ≤ x2 then some (.inl none, MX I J T) else (if inR x2 64 = true then den d 15 5 [some (vr 28 j), some (vi x1), some (vi (x2 + 1)), some (vi x3)] [] (MX (up3 I 28 j (Int32.toNatClampNeg x2) x1) J T) else none)) :=
  ((bx_eq [5] d 15 9 5 _ _ _).symm.trans rfl : _ = (if decide (x3 ≤ x2) = true then some (.inl none, MX I J T) else (if inR x2 64 = true then den d 15 5 [some (vr 28 j), some (vi x1), some (vi (x2 + 1)), some (vi x3)] [] (MX (up3 I 28 j (Int32.toNatClampNeg x2) x1) J T) else none))).trans (by simp only [ite_dec])
set_option maxRecDepth 100000 in
theorem c15k21 (d : Nat) (j : Nat) (x1 : Int32) (I : PI) (J : PJ) (T : TL) : cal d 15 [vr 21 j, vi x1] (MX I J T) = den d 15 5 [some (vr 21 j), some (vi x1), some (vi 0), some (vi 6)] [] (MX I J T) :=
  (bx_eq [5] d 15 5 0 _ _ _).symm.trans rfl
set_option maxRecDepth 100000 in
theorem b15k21_5 (d : Nat) (j : Nat) (x1 : Int32) (x2 : Int32) (x3 : Int32) (I : PI) (J : PJ) (T : TL) : den d 15 5 [some (vr 21 j), some (vi x1), some (vi x2), some (vi x3)] [] (MX I J T) = (if x3 ≤ x2 then some (.inl none, MX I J T) else (if inR x2 6 = true then den d 15 5 [some (vr 21 j), some (vi x1), some (vi (x2 + 1)), some (vi x3)] [] (MX (up3 I 21 j (Int32.toNatClampNeg x2) x1) J T) else none)) :=
  ((bx_eq [5] d 15 9 5 _ _ _).symm.trans rfl : _ = (if decide (x3 ≤ x2) = true then some (.inl none, MX I J T) else (if inR x2 6 = true then den d 15 5 [some (vr 21 j), some (vi x1), some (vi (x2 + 1)), some (vi x3)] [] (MX (up3 I 21 j (Int32.toNatClampNeg x2) x1) J T) else none))).trans (by simp only [ite_dec])
set_option maxRecDepth 100000 in
theorem c15k22 (d : Nat) (j : Nat) (x1 : Int32) (I : PI) (J : PJ) (T : TL) : cal d 15 [vr 22 j, vi x1] (MX I J T) = den d 15 5 [some (vr 22 j), some (vi x1), some (vi 0), some (vi 9)] [] (MX I J T) :=
  (bx_eq [5] d 15 5 0 _ _ _).symm.trans rfl
set_option maxRecDepth 100000 in
theorem b15k22_5 (d : Nat) (j : Nat) (x1 : Int32) (x2 : Int32) (x3 : Int32) (I : PI) (J : PJ) (T : TL) : den d 15 5 [some (vr 22 j), some (vi x1), some (vi x2), some (vi x3)] [] (MX I J T) = (if x3 ≤ x2 then some (.inl none, MX I J T) else (if inR x2 9 = true then den d 15 5 [some (vr 22 j), some (vi x1), some (vi (x2 + 1)), some (vi x3)] [] (MX (up3 I 22 j (Int32.toNatClampNeg x2) x1) J T) else none)) :=
  ((bx_eq [5] d 15 9 5 _ _ _).symm.trans rfl : _ = (if decide (x3 ≤ x2) = true then some (.inl none, MX I J T) else (if inR x2 9 = true then den d 15 5 [some (vr 22 j), some (vi x1), some (vi (x2 + 1)), some (vi x3)] [] (MX (up3 I 22 j (Int32.toNatClampNeg x2) x1) J T) else none))).trans (by simp only [ite_dec])
set_option maxRecDepth 100000 in
theorem c15k26 (d : Nat) (j : Nat) (x1 : Int32) (I : PI) (J : PJ) (T : TL) : cal d 15 [vr 26 j, vi x1] (MX I J T) = den d 15 5 [some (vr 26 j), some (vi x1), some (vi 0), some (vi 30)] [] (MX I J T) :=
  (bx_eq [5] d 15 5 0 _ _ _).symm.trans rfl
set_option maxRecDepth 100000 in
theorem b15k26_5 (d : Nat) (j : Nat) (x1 : Int32) (x2 : Int32) (x3 : Int32) (I : PI) (J : PJ) (T : TL) : den d 15 5 [some (vr 26 j), some (vi x1), some (vi x2), some (vi x3)] [] (MX I J T) = (if x3 ≤ x2 then some (.inl none, MX I J T) else (if inR x2 30 = true then den d 15 5 [some (vr 26 j), some (vi x1), some (vi (x2 + 1)), some (vi x3)] [] (MX (up3 I 26 j (Int32.toNatClampNeg x2) x1) J T) else none)) :=
  ((bx_eq [5] d 15 9 5 _ _ _).symm.trans rfl : _ = (if decide (x3 ≤ x2) = true then some (.inl none, MX I J T) else (if inR x2 30 = true then den d 15 5 [some (vr 26 j), some (vi x1), some (vi (x2 + 1)), some (vi x3)] [] (MX (up3 I 26 j (Int32.toNatClampNeg x2) x1) J T) else none))).trans (by simp only [ite_dec])
set_option maxRecDepth 100000 in
theorem c15k23 (d : Nat) (j : Nat) (x1 : Int32) (I : PI) (J : PJ) (T : TL) : cal d 15 [vr 23 j, vi x1] (MX I J T) = den d 15 5 [some (vr 23 j), some (vi x1), some (vi 0), some (vi 10)] [] (MX I J T) :=
  (bx_eq [5] d 15 5 0 _ _ _).symm.trans rfl
set_option maxRecDepth 100000 in
theorem b15k23_5 (d : Nat) (j : Nat) (x1 : Int32) (x2 : Int32) (x3 : Int32) (I : PI) (J : PJ) (T : TL) : den d 15 5 [some (vr 23 j), some (vi x1), some (vi x2), some (vi x3)] [] (MX I J T) = (if x3 ≤ x2 then some (.inl none, MX I J T) else (if inR x2 10 = true then den d 15 5 [some (vr 23 j), some (vi x1), some (vi (x2 + 1)), some (vi x3)] [] (MX (up3 I 23 j (Int32.toNatClampNeg x2) x1) J T) else none)) :=
  ((bx_eq [5] d 15 9 5 _ _ _).symm.trans rfl : _ = (if decide (x3 ≤ x2) = true then some (.inl none, MX I J T) else (if inR x2 10 = true then den d 15 5 [some (vr 23 j), some (vi x1), some (vi (x2 + 1)), some (vi x3)] [] (MX (up3 I 23 j (Int32.toNatClampNeg x2) x1) J T) else none))).trans (by simp only [ite_dec])
set_option maxRecDepth 100000 in
theorem c16k42 (d : Nat) (j : Nat) (y1 : Int64) (I : PI) (J : PJ) (T : TL) : cal d 16 [vr 42 j, vl y1] (MX I J T) = den d 16 6 [some (vr 42 j), some (vl y1), none, some (vi 0), some (vi 6)] [] (MX I J T) :=
  (bx_eq [6] d 16 5 0 _ _ _).symm.trans rfl
set_option maxRecDepth 100000 in
theorem b16k42_6 (d : Nat) (j : Nat) (y1 : Int64) (x3 : Int32) (x4 : Int32) (I : PI) (J : PJ) (T : TL) : den d 16 6 [some (vr 42 j), some (vl y1), none, some (vi x3), some (vi x4)] [] (MX I J T) = (if x4 ≤ x3 then some (.inl none, MX I J T) else (if inR x3 6 = true then den d 16 6 [some (vr 42 j), some (vl y1), none, some (vi (x3 + 1)), some (vi x4)] [] (MX I (up3 J 42 j (Int32.toNatClampNeg x3) y1) T) else none)) :=
  ((bx_eq [6] d 16 9 6 _ _ _).symm.trans rfl : _ = (if decide (x4 ≤ x3) = true then some (.inl none, MX I J T) else (if inR x3 6 = true then den d 16 6 [some (vr 42 j), some (vl y1), none, some (vi (x3 + 1)), some (vi x4)] [] (MX I (up3 J 42 j (Int32.toNatClampNeg x3) y1) T) else none))).trans (by simp only [ite_dec])
set_option maxRecDepth 100000 in
theorem c16k41 (d : Nat) (j : Nat) (y1 : Int64) (I : PI) (J : PJ) (T : TL) : cal d 16 [vr 41 j, vl y1] (MX I J T) = den d 16 6 [some (vr 41 j), some (vl y1), none, some (vi 0), some (vi 3)] [] (MX I J T) :=
  (bx_eq [6] d 16 5 0 _ _ _).symm.trans rfl
set_option maxRecDepth 100000 in
theorem b16k41_6 (d : Nat) (j : Nat) (y1 : Int64) (x3 : Int32) (x4 : Int32) (I : PI) (J : PJ) (T : TL) : den d 16 6 [some (vr 41 j), some (vl y1), none, some (vi x3), some (vi x4)] [] (MX I J T) = (if x4 ≤ x3 then some (.inl none, MX I J T) else (if inR x3 3 = true then den d 16 6 [some (vr 41 j), some (vl y1), none, some (vi (x3 + 1)), some (vi x4)] [] (MX I (up3 J 41 j (Int32.toNatClampNeg x3) y1) T) else none)) :=
  ((bx_eq [6] d 16 9 6 _ _ _).symm.trans rfl : _ = (if decide (x4 ≤ x3) = true then some (.inl none, MX I J T) else (if inR x3 3 = true then den d 16 6 [some (vr 41 j), some (vl y1), none, some (vi (x3 + 1)), some (vi x4)] [] (MX I (up3 J 41 j (Int32.toNatClampNeg x3) y1) T) else none))).trans (by simp only [ite_dec])
