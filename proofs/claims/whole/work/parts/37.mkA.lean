/-! The law's making, statement by statement (printed by program: wip/gen/gen35.py) -/
def ma0 (L : Nat) (xs : Nat → Int32) : Mem := newM (m00 L xs) 11 16
theorem ma0R (L : Nat) (xs : Nat → Int32) : mR (ma0 L xs) = upA (RL 1 0 rz rz) 11 0 (fun _ => some none) := rfl
def ma1 (L : Nat) (xs : Nat → Int32) : Mem := newM (ma0 L xs) 37 500
theorem ma1R (L : Nat) (xs : Nat → Int32) : mR (ma1 L xs) = upA (mR (ma0 L xs)) 37 0 (fun _ => some none) := rfl
set_option maxRecDepth 100000 in
theorem maz1_0 (L : Nat) (xs : Nat → Int32) : den 1299 1 0 [some (vr 11 0)] [] (ma0 L xs) = den 1299 1 10 [some (vr 11 0)] [vr 37 0, vr 11 0] (ma1 L xs) :=
  (bx_eq [10] 1299 1 5 0 _ _ _).symm.trans rfl
def ma2 (L : Nat) (xs : Nat → Int32) : Mem := setR (ma1 L xs) 11 0 0 (ro 37 0)
theorem ma2R (L : Nat) (xs : Nat → Int32) : mR (ma2 L xs) = up3 (mR (ma1 L xs)) 11 0 0 (ro 37 0) := rfl
set_option maxRecDepth 100000 in
theorem maz1_10 (L : Nat) (xs : Nat → Int32) : den 1299 1 10 [some (vr 11 0)] [vr 37 0, vr 11 0] (ma1 L xs) = den 1299 1 13 [some (vr 11 0)] [] (ma2 L xs) :=
  (bx_eq [13] 1299 1 1 10 _ _ _).symm.trans rfl
def ma3 (L : Nat) (xs : Nat → Int32) : Mem := newM (ma2 L xs) 7 13
theorem ma3R (L : Nat) (xs : Nat → Int32) : mR (ma3 L xs) = upA (mR (ma2 L xs)) 7 0 (fun _ => some none) := rfl
set_option maxRecDepth 100000 in
theorem maz1_13 (L : Nat) (xs : Nat → Int32) : den 1299 1 13 [some (vr 11 0)] [] (ma2 L xs) = den 1299 1 17 [some (vr 11 0)] [vr 7 0, vr 11 0] (ma3 L xs) :=
  (bx_eq [17] 1299 1 2 13 _ _ _).symm.trans rfl
set_option maxRecDepth 100000 in
theorem maz1_17 (L : Nat) (xs : Nat → Int32) : den 1299 1 17 [some (vr 11 0)] [vr 7 0, vr 11 0] (ma3 L xs) = ret9 (den 1299 1) 1 22 25 [some (vr 11 0)] [vr 7 0, vr 11 0] (cal 1298 2 [vr 7 0, vr 37 0] (ma3 L xs)) :=
  (bx_eq [] 1299 1 4 17 _ _ _).symm.trans rfl
def ma4 (L : Nat) (xs : Nat → Int32) : Mem := newM (ma3 L xs) 42 6
theorem ma4R (L : Nat) (xs : Nat → Int32) : mR (ma4 L xs) = upA (mR (ma3 L xs)) 42 0 (fun _ => some none) := rfl
set_option maxRecDepth 100000 in
theorem maz2_0 (L : Nat) (xs : Nat → Int32) : den 1298 2 0 [some (vr 7 0), some (vr 37 0)] [] (ma3 L xs) = den 1298 2 9 [some (vr 7 0), some (vr 37 0)] [vr 42 0, vr 7 0] (ma4 L xs) :=
  (bx_eq [9] 1298 2 5 0 _ _ _).symm.trans rfl
def ma5 (L : Nat) (xs : Nat → Int32) : Mem := setR (ma4 L xs) 7 0 1 (ro 42 0)
theorem ma5R (L : Nat) (xs : Nat → Int32) : mR (ma5 L xs) = up3 (mR (ma4 L xs)) 7 0 1 (ro 42 0) := rfl
set_option maxRecDepth 100000 in
theorem maz2_9 (L : Nat) (xs : Nat → Int32) : den 1298 2 9 [some (vr 7 0), some (vr 37 0)] [vr 42 0, vr 7 0] (ma4 L xs) = den 1298 2 12 [some (vr 7 0), some (vr 37 0)] [] (ma5 L xs) :=
  (bx_eq [12] 1298 2 1 9 _ _ _).symm.trans rfl
def ma6 (L : Nat) (xs : Nat → Int32) : Mem := newM (ma5 L xs) 1 4
theorem ma6R (L : Nat) (xs : Nat → Int32) : mR (ma6 L xs) = upA (mR (ma5 L xs)) 1 0 (fun _ => some none) := rfl
set_option maxRecDepth 100000 in
theorem maz2_12 (L : Nat) (xs : Nat → Int32) : den 1298 2 12 [some (vr 7 0), some (vr 37 0)] [] (ma5 L xs) = den 1298 2 16 [some (vr 7 0), some (vr 37 0)] [vr 1 0, vr 7 0] (ma6 L xs) :=
  (bx_eq [16] 1298 2 2 12 _ _ _).symm.trans rfl
set_option maxRecDepth 100000 in
theorem maz2_16 (L : Nat) (xs : Nat → Int32) : den 1298 2 16 [some (vr 7 0), some (vr 37 0)] [vr 1 0, vr 7 0] (ma6 L xs) = ret9 (den 1298 2) 2 17 20 [some (vr 7 0), some (vr 37 0)] [vr 1 0, vr 7 0] (cal 1297 3 [vr 1 0] (ma6 L xs)) :=
  (bx_eq [] 1298 2 2 16 _ _ _).symm.trans rfl
def ma7 (L : Nat) (xs : Nat → Int32) : Mem := newM (ma6 L xs) 31 240
theorem ma7R (L : Nat) (xs : Nat → Int32) : mR (ma7 L xs) = upA (mR (ma6 L xs)) 31 0 (fun _ => some none) := rfl
set_option maxRecDepth 100000 in
theorem maz3_0 (L : Nat) (xs : Nat → Int32) : den 1297 3 0 [some (vr 1 0)] [] (ma6 L xs) = den 1297 3 10 [some (vr 1 0)] [vr 31 0, vr 1 0] (ma7 L xs) :=
  (bx_eq [10] 1297 3 5 0 _ _ _).symm.trans rfl
def ma8 (L : Nat) (xs : Nat → Int32) : Mem := setR (ma7 L xs) 1 0 0 (ro 31 0)
theorem ma8R (L : Nat) (xs : Nat → Int32) : mR (ma8 L xs) = up3 (mR (ma7 L xs)) 1 0 0 (ro 31 0) := rfl
set_option maxRecDepth 100000 in
theorem maz3_10 (L : Nat) (xs : Nat → Int32) : den 1297 3 10 [some (vr 1 0)] [vr 31 0, vr 1 0] (ma7 L xs) = den 1297 3 13 [some (vr 1 0)] [] (ma8 L xs) :=
  (bx_eq [13] 1297 3 1 10 _ _ _).symm.trans rfl
def ma9 (L : Nat) (xs : Nat → Int32) : Mem := newM (ma8 L xs) 21 6
theorem ma9R (L : Nat) (xs : Nat → Int32) : mR (ma9 L xs) = upA (mR (ma8 L xs)) 21 0 (fun _ => some none) := rfl
set_option maxRecDepth 100000 in
theorem maz3_13 (L : Nat) (xs : Nat → Int32) : den 1297 3 13 [some (vr 1 0)] [] (ma8 L xs) = den 1297 3 18 [some (vr 1 0)] [vr 21 0, vr 1 0] (ma9 L xs) :=
  (bx_eq [18] 1297 3 3 13 _ _ _).symm.trans rfl
def ma10 (L : Nat) (xs : Nat → Int32) : Mem := setR (ma9 L xs) 1 0 1 (ro 21 0)
theorem ma10R (L : Nat) (xs : Nat → Int32) : mR (ma10 L xs) = up3 (mR (ma9 L xs)) 1 0 1 (ro 21 0) := rfl
set_option maxRecDepth 100000 in
theorem maz3_18 (L : Nat) (xs : Nat → Int32) : den 1297 3 18 [some (vr 1 0)] [vr 21 0, vr 1 0] (ma9 L xs) = den 1297 3 21 [some (vr 1 0)] [] (ma10 L xs) :=
  (bx_eq [21] 1297 3 1 18 _ _ _).symm.trans rfl
def ma11 (L : Nat) (xs : Nat → Int32) : Mem := newM (ma10 L xs) 25 20
theorem ma11R (L : Nat) (xs : Nat → Int32) : mR (ma11 L xs) = upA (mR (ma10 L xs)) 25 0 (fun _ => some none) := rfl
set_option maxRecDepth 100000 in
theorem maz3_21 (L : Nat) (xs : Nat → Int32) : den 1297 3 21 [some (vr 1 0)] [] (ma10 L xs) = den 1297 3 26 [some (vr 1 0)] [vr 25 0, vr 1 0] (ma11 L xs) :=
  (bx_eq [26] 1297 3 3 21 _ _ _).symm.trans rfl
def ma12 (L : Nat) (xs : Nat → Int32) : Mem := setR (ma11 L xs) 1 0 2 (ro 25 0)
theorem ma12R (L : Nat) (xs : Nat → Int32) : mR (ma12 L xs) = up3 (mR (ma11 L xs)) 1 0 2 (ro 25 0) := rfl
set_option maxRecDepth 100000 in
theorem maz3_26 (L : Nat) (xs : Nat → Int32) : den 1297 3 26 [some (vr 1 0)] [vr 25 0, vr 1 0] (ma11 L xs) = den 1297 3 29 [some (vr 1 0)] [] (ma12 L xs) :=
  (bx_eq [29] 1297 3 1 26 _ _ _).symm.trans rfl
set_option maxRecDepth 100000 in
theorem maz3_29 (L : Nat) (xs : Nat → Int32) : den 1297 3 29 [some (vr 1 0)] [] (ma12 L xs) = some (.inl none, (ma12 L xs)) :=
  (bx_eq [] 1297 3 1 29 _ _ _).symm.trans rfl
theorem maz3 (L : Nat) (xs : Nat → Int32) : cal 1297 3 [vr 1 0] (ma6 L xs) = some (.inl none, (ma12 L xs)) := by
  show den 1297 3 0 [some (vr 1 0)] [] (ma6 L xs) = _
  rw [maz3_0]
  rw [maz3_10]
  rw [maz3_13]
  rw [maz3_18]
  rw [maz3_21]
  rw [maz3_26]
  rw [maz3_29]
def ma13 (L : Nat) (xs : Nat → Int32) : Mem := setR (ma12 L xs) 7 0 2 (ro 1 0)
theorem ma13R (L : Nat) (xs : Nat → Int32) : mR (ma13 L xs) = up3 (mR (ma12 L xs)) 7 0 2 (ro 1 0) := rfl
set_option maxRecDepth 100000 in
theorem maz2_20 (L : Nat) (xs : Nat → Int32) : den 1298 2 20 [some (vr 7 0), some (vr 37 0)] [vr 1 0, vr 7 0] (ma12 L xs) = den 1298 2 23 [some (vr 7 0), some (vr 37 0)] [] (ma13 L xs) :=
  (bx_eq [23] 1298 2 1 20 _ _ _).symm.trans rfl
def ma14 (L : Nat) (xs : Nat → Int32) : Mem := newM (ma13 L xs) 38 6
theorem ma14R (L : Nat) (xs : Nat → Int32) : mR (ma14 L xs) = upA (mR (ma13 L xs)) 38 0 (fun _ => some none) := rfl
set_option maxRecDepth 100000 in
theorem maz2_23 (L : Nat) (xs : Nat → Int32) : den 1298 2 23 [some (vr 7 0), some (vr 37 0)] [] (ma13 L xs) = den 1298 2 28 [some (vr 7 0), some (vr 37 0)] [vr 38 0, vr 7 0] (ma14 L xs) :=
  (bx_eq [28] 1298 2 3 23 _ _ _).symm.trans rfl
def ma15 (L : Nat) (xs : Nat → Int32) : Mem := setR (ma14 L xs) 7 0 8 (ro 38 0)
theorem ma15R (L : Nat) (xs : Nat → Int32) : mR (ma15 L xs) = up3 (mR (ma14 L xs)) 7 0 8 (ro 38 0) := rfl
set_option maxRecDepth 100000 in
theorem maz2_28 (L : Nat) (xs : Nat → Int32) : den 1298 2 28 [some (vr 7 0), some (vr 37 0)] [vr 38 0, vr 7 0] (ma14 L xs) = den 1298 2 31 [some (vr 7 0), some (vr 37 0)] [] (ma15 L xs) :=
  (bx_eq [31] 1298 2 1 28 _ _ _).symm.trans rfl
def ma16 (L : Nat) (xs : Nat → Int32) : Mem := newM (ma15 L xs) 21 6
theorem ma16R (L : Nat) (xs : Nat → Int32) : mR (ma16 L xs) = upA (mR (ma15 L xs)) 21 1 (fun _ => some none) := rfl
set_option maxRecDepth 100000 in
theorem maz2_31 (L : Nat) (xs : Nat → Int32) : den 1298 2 31 [some (vr 7 0), some (vr 37 0)] [] (ma15 L xs) = den 1298 2 36 [some (vr 7 0), some (vr 37 0)] [vr 21 1, vr 7 0] (ma16 L xs) :=
  (bx_eq [36] 1298 2 3 31 _ _ _).symm.trans rfl
def ma17 (L : Nat) (xs : Nat → Int32) : Mem := setR (ma16 L xs) 7 0 9 (ro 21 1)
theorem ma17R (L : Nat) (xs : Nat → Int32) : mR (ma17 L xs) = up3 (mR (ma16 L xs)) 7 0 9 (ro 21 1) := rfl
set_option maxRecDepth 100000 in
theorem maz2_36 (L : Nat) (xs : Nat → Int32) : den 1298 2 36 [some (vr 7 0), some (vr 37 0)] [vr 21 1, vr 7 0] (ma16 L xs) = den 1298 2 39 [some (vr 7 0), some (vr 37 0)] [] (ma17 L xs) :=
  (bx_eq [39] 1298 2 1 36 _ _ _).symm.trans rfl
def ma18 (L : Nat) (xs : Nat → Int32) : Mem := newM (ma17 L xs) 21 6
theorem ma18R (L : Nat) (xs : Nat → Int32) : mR (ma18 L xs) = upA (mR (ma17 L xs)) 21 2 (fun _ => some none) := rfl
set_option maxRecDepth 100000 in
theorem maz2_39 (L : Nat) (xs : Nat → Int32) : den 1298 2 39 [some (vr 7 0), some (vr 37 0)] [] (ma17 L xs) = den 1298 2 44 [some (vr 7 0), some (vr 37 0)] [vr 21 2, vr 7 0] (ma18 L xs) :=
  (bx_eq [44] 1298 2 3 39 _ _ _).symm.trans rfl
def ma19 (L : Nat) (xs : Nat → Int32) : Mem := setR (ma18 L xs) 7 0 10 (ro 21 2)
theorem ma19R (L : Nat) (xs : Nat → Int32) : mR (ma19 L xs) = up3 (mR (ma18 L xs)) 7 0 10 (ro 21 2) := rfl
set_option maxRecDepth 100000 in
theorem maz2_44 (L : Nat) (xs : Nat → Int32) : den 1298 2 44 [some (vr 7 0), some (vr 37 0)] [vr 21 2, vr 7 0] (ma18 L xs) = den 1298 2 47 [some (vr 7 0), some (vr 37 0)] [] (ma19 L xs) :=
  (bx_eq [47] 1298 2 1 44 _ _ _).symm.trans rfl
def ma20 (L : Nat) (xs : Nat → Int32) : Mem := newM (ma19 L xs) 38 6
theorem ma20R (L : Nat) (xs : Nat → Int32) : mR (ma20 L xs) = upA (mR (ma19 L xs)) 38 1 (fun _ => some none) := rfl
set_option maxRecDepth 100000 in
theorem maz2_47 (L : Nat) (xs : Nat → Int32) : den 1298 2 47 [some (vr 7 0), some (vr 37 0)] [] (ma19 L xs) = den 1298 2 52 [some (vr 7 0), some (vr 37 0)] [vr 38 1, vr 7 0] (ma20 L xs) :=
  (bx_eq [52] 1298 2 3 47 _ _ _).symm.trans rfl
def ma21 (L : Nat) (xs : Nat → Int32) : Mem := setR (ma20 L xs) 7 0 11 (ro 38 1)
theorem ma21R (L : Nat) (xs : Nat → Int32) : mR (ma21 L xs) = up3 (mR (ma20 L xs)) 7 0 11 (ro 38 1) := rfl
set_option maxRecDepth 100000 in
theorem maz2_52 (L : Nat) (xs : Nat → Int32) : den 1298 2 52 [some (vr 7 0), some (vr 37 0)] [vr 38 1, vr 7 0] (ma20 L xs) = den 1298 2 55 [some (vr 7 0), some (vr 37 0)] [] (ma21 L xs) :=
  (bx_eq [55] 1298 2 1 52 _ _ _).symm.trans rfl
def ma22 (L : Nat) (xs : Nat → Int32) : Mem := newM (ma21 L xs) 8 7
theorem ma22R (L : Nat) (xs : Nat → Int32) : mR (ma22 L xs) = upA (mR (ma21 L xs)) 8 0 (fun _ => some none) := rfl
set_option maxRecDepth 100000 in
theorem maz2_55 (L : Nat) (xs : Nat → Int32) : den 1298 2 55 [some (vr 7 0), some (vr 37 0)] [] (ma21 L xs) = den 1298 2 59 [some (vr 7 0), some (vr 37 0)] [vr 8 0, vr 7 0] (ma22 L xs) :=
  (bx_eq [59] 1298 2 2 55 _ _ _).symm.trans rfl
set_option maxRecDepth 100000 in
theorem maz2_59 (L : Nat) (xs : Nat → Int32) : den 1298 2 59 [some (vr 7 0), some (vr 37 0)] [vr 8 0, vr 7 0] (ma22 L xs) = ret9 (den 1298 2) 2 61 64 [some (vr 7 0), some (vr 37 0)] [vr 8 0, vr 7 0] (cal 1297 4 [vr 8 0, vr 37 0] (ma22 L xs)) :=
  (bx_eq [] 1298 2 3 59 _ _ _).symm.trans rfl
def ma23 (L : Nat) (xs : Nat → Int32) : Mem := setR (ma22 L xs) 8 0 0 (ro 37 0)
theorem ma23R (L : Nat) (xs : Nat → Int32) : mR (ma23 L xs) = up3 (mR (ma22 L xs)) 8 0 0 (ro 37 0) := rfl
set_option maxRecDepth 100000 in
theorem maz4_0 (L : Nat) (xs : Nat → Int32) : den 1297 4 0 [some (vr 8 0), some (vr 37 0)] [] (ma22 L xs) = den 1297 4 9 [some (vr 8 0), some (vr 37 0)] [] (ma23 L xs) :=
  (bx_eq [9] 1297 4 5 0 _ _ _).symm.trans rfl
set_option maxRecDepth 100000 in
theorem maz4_9 (L : Nat) (xs : Nat → Int32) : den 1297 4 9 [some (vr 8 0), some (vr 37 0)] [] (ma23 L xs) = some (.inl none, (ma23 L xs)) :=
  (bx_eq [] 1297 4 1 9 _ _ _).symm.trans rfl
theorem maz4 (L : Nat) (xs : Nat → Int32) : cal 1297 4 [vr 8 0, vr 37 0] (ma22 L xs) = some (.inl none, (ma23 L xs)) := by
  show den 1297 4 0 [some (vr 8 0), some (vr 37 0)] [] (ma22 L xs) = _
  rw [maz4_0]
  rw [maz4_9]
def ma24 (L : Nat) (xs : Nat → Int32) : Mem := setR (ma23 L xs) 7 0 0 (ro 8 0)
theorem ma24R (L : Nat) (xs : Nat → Int32) : mR (ma24 L xs) = up3 (mR (ma23 L xs)) 7 0 0 (ro 8 0) := rfl
set_option maxRecDepth 100000 in
theorem maz2_64 (L : Nat) (xs : Nat → Int32) : den 1298 2 64 [some (vr 7 0), some (vr 37 0)] [vr 8 0, vr 7 0] (ma23 L xs) = den 1298 2 67 [some (vr 7 0), some (vr 37 0)] [] (ma24 L xs) :=
  (bx_eq [67] 1298 2 1 64 _ _ _).symm.trans rfl
set_option maxRecDepth 100000 in
theorem maz2_67 (L : Nat) (xs : Nat → Int32) : den 1298 2 67 [some (vr 7 0), some (vr 37 0)] [] (ma24 L xs) = some (.inl none, (ma24 L xs)) :=
  (bx_eq [] 1298 2 1 67 _ _ _).symm.trans rfl
theorem maz2 (L : Nat) (xs : Nat → Int32) : cal 1298 2 [vr 7 0, vr 37 0] (ma3 L xs) = some (.inl none, (ma24 L xs)) := by
  show den 1298 2 0 [some (vr 7 0), some (vr 37 0)] [] (ma3 L xs) = _
  rw [maz2_0]
  rw [maz2_9]
  rw [maz2_12]
  rw [maz2_16]
  rw [maz3]
  show den 1298 2 20 [some (vr 7 0), some (vr 37 0)] [vr 1 0, vr 7 0] (ma12 L xs) = _
  rw [maz2_20]
  rw [maz2_23]
  rw [maz2_28]
  rw [maz2_31]
  rw [maz2_36]
  rw [maz2_39]
  rw [maz2_44]
  rw [maz2_47]
  rw [maz2_52]
  rw [maz2_55]
  rw [maz2_59]
  rw [maz4]
  show den 1298 2 64 [some (vr 7 0), some (vr 37 0)] [vr 8 0, vr 7 0] (ma23 L xs) = _
  rw [maz2_64]
  rw [maz2_67]
def ma25 (L : Nat) (xs : Nat → Int32) : Mem := setR (ma24 L xs) 11 0 1 (ro 7 0)
theorem ma25R (L : Nat) (xs : Nat → Int32) : mR (ma25 L xs) = up3 (mR (ma24 L xs)) 11 0 1 (ro 7 0) := rfl
set_option maxRecDepth 100000 in
theorem maz1_25 (L : Nat) (xs : Nat → Int32) : den 1299 1 25 [some (vr 11 0)] [vr 7 0, vr 11 0] (ma24 L xs) = den 1299 1 28 [some (vr 11 0)] [] (ma25 L xs) :=
  (bx_eq [28] 1299 1 1 25 _ _ _).symm.trans rfl
def ma26 (L : Nat) (xs : Nat → Int32) : Mem := newM (ma25 L xs) 5 16
theorem ma26R (L : Nat) (xs : Nat → Int32) : mR (ma26 L xs) = upA (mR (ma25 L xs)) 5 0 (fun _ => some none) := rfl
set_option maxRecDepth 100000 in
theorem maz1_28 (L : Nat) (xs : Nat → Int32) : den 1299 1 28 [some (vr 11 0)] [] (ma25 L xs) = den 1299 1 32 [some (vr 11 0)] [vr 5 0, vr 11 0] (ma26 L xs) :=
  (bx_eq [32] 1299 1 2 28 _ _ _).symm.trans rfl
set_option maxRecDepth 100000 in
theorem maz1_32 (L : Nat) (xs : Nat → Int32) : den 1299 1 32 [some (vr 11 0)] [vr 5 0, vr 11 0] (ma26 L xs) = ret9 (den 1299 1) 1 33 36 [some (vr 11 0)] [vr 5 0, vr 11 0] (cal 1298 5 [vr 5 0] (ma26 L xs)) :=
  (bx_eq [] 1299 1 2 32 _ _ _).symm.trans rfl
def ma27 (L : Nat) (xs : Nat → Int32) : Mem := newM (ma26 L xs) 28 64
theorem ma27R (L : Nat) (xs : Nat → Int32) : mR (ma27 L xs) = upA (mR (ma26 L xs)) 28 0 (fun _ => some none) := rfl
set_option maxRecDepth 100000 in
theorem maz5_0 (L : Nat) (xs : Nat → Int32) : den 1298 5 0 [some (vr 5 0)] [] (ma26 L xs) = den 1298 5 9 [some (vr 5 0)] [vr 28 0, vr 5 0] (ma27 L xs) :=
  (bx_eq [9] 1298 5 5 0 _ _ _).symm.trans rfl
def ma28 (L : Nat) (xs : Nat → Int32) : Mem := setR (ma27 L xs) 5 0 0 (ro 28 0)
theorem ma28R (L : Nat) (xs : Nat → Int32) : mR (ma28 L xs) = up3 (mR (ma27 L xs)) 5 0 0 (ro 28 0) := rfl
set_option maxRecDepth 100000 in
theorem maz5_9 (L : Nat) (xs : Nat → Int32) : den 1298 5 9 [some (vr 5 0)] [vr 28 0, vr 5 0] (ma27 L xs) = den 1298 5 12 [some (vr 5 0)] [] (ma28 L xs) :=
  (bx_eq [12] 1298 5 1 9 _ _ _).symm.trans rfl
def ma29 (L : Nat) (xs : Nat → Int32) : Mem := newM (ma28 L xs) 28 64
theorem ma29R (L : Nat) (xs : Nat → Int32) : mR (ma29 L xs) = upA (mR (ma28 L xs)) 28 1 (fun _ => some none) := rfl
set_option maxRecDepth 100000 in
theorem maz5_12 (L : Nat) (xs : Nat → Int32) : den 1298 5 12 [some (vr 5 0)] [] (ma28 L xs) = den 1298 5 17 [some (vr 5 0)] [vr 28 1, vr 5 0] (ma29 L xs) :=
  (bx_eq [17] 1298 5 3 12 _ _ _).symm.trans rfl
def ma30 (L : Nat) (xs : Nat → Int32) : Mem := setR (ma29 L xs) 5 0 1 (ro 28 1)
theorem ma30R (L : Nat) (xs : Nat → Int32) : mR (ma30 L xs) = up3 (mR (ma29 L xs)) 5 0 1 (ro 28 1) := rfl
set_option maxRecDepth 100000 in
theorem maz5_17 (L : Nat) (xs : Nat → Int32) : den 1298 5 17 [some (vr 5 0)] [vr 28 1, vr 5 0] (ma29 L xs) = den 1298 5 20 [some (vr 5 0)] [] (ma30 L xs) :=
  (bx_eq [20] 1298 5 1 17 _ _ _).symm.trans rfl
def ma31 (L : Nat) (xs : Nat → Int32) : Mem := newM (ma30 L xs) 28 64
theorem ma31R (L : Nat) (xs : Nat → Int32) : mR (ma31 L xs) = upA (mR (ma30 L xs)) 28 2 (fun _ => some none) := rfl
set_option maxRecDepth 100000 in
theorem maz5_20 (L : Nat) (xs : Nat → Int32) : den 1298 5 20 [some (vr 5 0)] [] (ma30 L xs) = den 1298 5 25 [some (vr 5 0)] [vr 28 2, vr 5 0] (ma31 L xs) :=
  (bx_eq [25] 1298 5 3 20 _ _ _).symm.trans rfl
def ma32 (L : Nat) (xs : Nat → Int32) : Mem := setR (ma31 L xs) 5 0 2 (ro 28 2)
theorem ma32R (L : Nat) (xs : Nat → Int32) : mR (ma32 L xs) = up3 (mR (ma31 L xs)) 5 0 2 (ro 28 2) := rfl
set_option maxRecDepth 100000 in
theorem maz5_25 (L : Nat) (xs : Nat → Int32) : den 1298 5 25 [some (vr 5 0)] [vr 28 2, vr 5 0] (ma31 L xs) = den 1298 5 28 [some (vr 5 0)] [] (ma32 L xs) :=
  (bx_eq [28] 1298 5 1 25 _ _ _).symm.trans rfl
def ma33 (L : Nat) (xs : Nat → Int32) : Mem := newM (ma32 L xs) 21 6
theorem ma33R (L : Nat) (xs : Nat → Int32) : mR (ma33 L xs) = upA (mR (ma32 L xs)) 21 3 (fun _ => some none) := rfl
set_option maxRecDepth 100000 in
theorem maz5_28 (L : Nat) (xs : Nat → Int32) : den 1298 5 28 [some (vr 5 0)] [] (ma32 L xs) = den 1298 5 33 [some (vr 5 0)] [vr 21 3, vr 5 0] (ma33 L xs) :=
  (bx_eq [33] 1298 5 3 28 _ _ _).symm.trans rfl
def ma34 (L : Nat) (xs : Nat → Int32) : Mem := setR (ma33 L xs) 5 0 3 (ro 21 3)
theorem ma34R (L : Nat) (xs : Nat → Int32) : mR (ma34 L xs) = up3 (mR (ma33 L xs)) 5 0 3 (ro 21 3) := rfl
set_option maxRecDepth 100000 in
theorem maz5_33 (L : Nat) (xs : Nat → Int32) : den 1298 5 33 [some (vr 5 0)] [vr 21 3, vr 5 0] (ma33 L xs) = den 1298 5 36 [some (vr 5 0)] [] (ma34 L xs) :=
  (bx_eq [36] 1298 5 1 33 _ _ _).symm.trans rfl
def ma35 (L : Nat) (xs : Nat → Int32) : Mem := newM (ma34 L xs) 21 6
theorem ma35R (L : Nat) (xs : Nat → Int32) : mR (ma35 L xs) = upA (mR (ma34 L xs)) 21 4 (fun _ => some none) := rfl
set_option maxRecDepth 100000 in
theorem maz5_36 (L : Nat) (xs : Nat → Int32) : den 1298 5 36 [some (vr 5 0)] [] (ma34 L xs) = den 1298 5 41 [some (vr 5 0)] [vr 21 4, vr 5 0] (ma35 L xs) :=
  (bx_eq [41] 1298 5 3 36 _ _ _).symm.trans rfl
def ma36 (L : Nat) (xs : Nat → Int32) : Mem := setR (ma35 L xs) 5 0 4 (ro 21 4)
theorem ma36R (L : Nat) (xs : Nat → Int32) : mR (ma36 L xs) = up3 (mR (ma35 L xs)) 5 0 4 (ro 21 4) := rfl
set_option maxRecDepth 100000 in
theorem maz5_41 (L : Nat) (xs : Nat → Int32) : den 1298 5 41 [some (vr 5 0)] [vr 21 4, vr 5 0] (ma35 L xs) = den 1298 5 44 [some (vr 5 0)] [] (ma36 L xs) :=
  (bx_eq [44] 1298 5 1 41 _ _ _).symm.trans rfl
def ma37 (L : Nat) (xs : Nat → Int32) : Mem := newM (ma36 L xs) 34 384
theorem ma37R (L : Nat) (xs : Nat → Int32) : mR (ma37 L xs) = upA (mR (ma36 L xs)) 34 0 (fun _ => some none) := rfl
set_option maxRecDepth 100000 in
theorem maz5_44 (L : Nat) (xs : Nat → Int32) : den 1298 5 44 [some (vr 5 0)] [] (ma36 L xs) = den 1298 5 50 [some (vr 5 0)] [vr 34 0, vr 5 0] (ma37 L xs) :=
  (bx_eq [50] 1298 5 3 44 _ _ _).symm.trans rfl
def ma38 (L : Nat) (xs : Nat → Int32) : Mem := setR (ma37 L xs) 5 0 5 (ro 34 0)
theorem ma38R (L : Nat) (xs : Nat → Int32) : mR (ma38 L xs) = up3 (mR (ma37 L xs)) 5 0 5 (ro 34 0) := rfl
set_option maxRecDepth 100000 in
theorem maz5_50 (L : Nat) (xs : Nat → Int32) : den 1298 5 50 [some (vr 5 0)] [vr 34 0, vr 5 0] (ma37 L xs) = den 1298 5 53 [some (vr 5 0)] [] (ma38 L xs) :=
  (bx_eq [53] 1298 5 1 50 _ _ _).symm.trans rfl
def ma39 (L : Nat) (xs : Nat → Int32) : Mem := newM (ma38 L xs) 1 4
theorem ma39R (L : Nat) (xs : Nat → Int32) : mR (ma39 L xs) = upA (mR (ma38 L xs)) 1 1 (fun _ => some none) := rfl
set_option maxRecDepth 100000 in
theorem maz5_53 (L : Nat) (xs : Nat → Int32) : den 1298 5 53 [some (vr 5 0)] [] (ma38 L xs) = den 1298 5 57 [some (vr 5 0)] [vr 1 1, vr 5 0] (ma39 L xs) :=
  (bx_eq [57] 1298 5 2 53 _ _ _).symm.trans rfl
set_option maxRecDepth 100000 in
theorem maz5_57 (L : Nat) (xs : Nat → Int32) : den 1298 5 57 [some (vr 5 0)] [vr 1 1, vr 5 0] (ma39 L xs) = ret9 (den 1298 5) 5 58 61 [some (vr 5 0)] [vr 1 1, vr 5 0] (cal 1297 3 [vr 1 1] (ma39 L xs)) :=
  (bx_eq [] 1298 5 2 57 _ _ _).symm.trans rfl
def ma40 (L : Nat) (xs : Nat → Int32) : Mem := newM (ma39 L xs) 31 240
theorem ma40R (L : Nat) (xs : Nat → Int32) : mR (ma40 L xs) = upA (mR (ma39 L xs)) 31 1 (fun _ => some none) := rfl
set_option maxRecDepth 100000 in
theorem maz6_0 (L : Nat) (xs : Nat → Int32) : den 1297 3 0 [some (vr 1 1)] [] (ma39 L xs) = den 1297 3 10 [some (vr 1 1)] [vr 31 1, vr 1 1] (ma40 L xs) :=
  (bx_eq [10] 1297 3 5 0 _ _ _).symm.trans rfl
def ma41 (L : Nat) (xs : Nat → Int32) : Mem := setR (ma40 L xs) 1 1 0 (ro 31 1)
theorem ma41R (L : Nat) (xs : Nat → Int32) : mR (ma41 L xs) = up3 (mR (ma40 L xs)) 1 1 0 (ro 31 1) := rfl
set_option maxRecDepth 100000 in
theorem maz6_10 (L : Nat) (xs : Nat → Int32) : den 1297 3 10 [some (vr 1 1)] [vr 31 1, vr 1 1] (ma40 L xs) = den 1297 3 13 [some (vr 1 1)] [] (ma41 L xs) :=
  (bx_eq [13] 1297 3 1 10 _ _ _).symm.trans rfl
def ma42 (L : Nat) (xs : Nat → Int32) : Mem := newM (ma41 L xs) 21 6
theorem ma42R (L : Nat) (xs : Nat → Int32) : mR (ma42 L xs) = upA (mR (ma41 L xs)) 21 5 (fun _ => some none) := rfl
set_option maxRecDepth 100000 in
theorem maz6_13 (L : Nat) (xs : Nat → Int32) : den 1297 3 13 [some (vr 1 1)] [] (ma41 L xs) = den 1297 3 18 [some (vr 1 1)] [vr 21 5, vr 1 1] (ma42 L xs) :=
  (bx_eq [18] 1297 3 3 13 _ _ _).symm.trans rfl
def ma43 (L : Nat) (xs : Nat → Int32) : Mem := setR (ma42 L xs) 1 1 1 (ro 21 5)
theorem ma43R (L : Nat) (xs : Nat → Int32) : mR (ma43 L xs) = up3 (mR (ma42 L xs)) 1 1 1 (ro 21 5) := rfl
set_option maxRecDepth 100000 in
theorem maz6_18 (L : Nat) (xs : Nat → Int32) : den 1297 3 18 [some (vr 1 1)] [vr 21 5, vr 1 1] (ma42 L xs) = den 1297 3 21 [some (vr 1 1)] [] (ma43 L xs) :=
  (bx_eq [21] 1297 3 1 18 _ _ _).symm.trans rfl
def ma44 (L : Nat) (xs : Nat → Int32) : Mem := newM (ma43 L xs) 25 20
theorem ma44R (L : Nat) (xs : Nat → Int32) : mR (ma44 L xs) = upA (mR (ma43 L xs)) 25 1 (fun _ => some none) := rfl
set_option maxRecDepth 100000 in
theorem maz6_21 (L : Nat) (xs : Nat → Int32) : den 1297 3 21 [some (vr 1 1)] [] (ma43 L xs) = den 1297 3 26 [some (vr 1 1)] [vr 25 1, vr 1 1] (ma44 L xs) :=
  (bx_eq [26] 1297 3 3 21 _ _ _).symm.trans rfl
def ma45 (L : Nat) (xs : Nat → Int32) : Mem := setR (ma44 L xs) 1 1 2 (ro 25 1)
theorem ma45R (L : Nat) (xs : Nat → Int32) : mR (ma45 L xs) = up3 (mR (ma44 L xs)) 1 1 2 (ro 25 1) := rfl
set_option maxRecDepth 100000 in
theorem maz6_26 (L : Nat) (xs : Nat → Int32) : den 1297 3 26 [some (vr 1 1)] [vr 25 1, vr 1 1] (ma44 L xs) = den 1297 3 29 [some (vr 1 1)] [] (ma45 L xs) :=
  (bx_eq [29] 1297 3 1 26 _ _ _).symm.trans rfl
set_option maxRecDepth 100000 in
theorem maz6_29 (L : Nat) (xs : Nat → Int32) : den 1297 3 29 [some (vr 1 1)] [] (ma45 L xs) = some (.inl none, (ma45 L xs)) :=
  (bx_eq [] 1297 3 1 29 _ _ _).symm.trans rfl
theorem maz6 (L : Nat) (xs : Nat → Int32) : cal 1297 3 [vr 1 1] (ma39 L xs) = some (.inl none, (ma45 L xs)) := by
  show den 1297 3 0 [some (vr 1 1)] [] (ma39 L xs) = _
  rw [maz6_0]
  rw [maz6_10]
  rw [maz6_13]
  rw [maz6_18]
  rw [maz6_21]
  rw [maz6_26]
  rw [maz6_29]
def ma46 (L : Nat) (xs : Nat → Int32) : Mem := setR (ma45 L xs) 5 0 6 (ro 1 1)
theorem ma46R (L : Nat) (xs : Nat → Int32) : mR (ma46 L xs) = up3 (mR (ma45 L xs)) 5 0 6 (ro 1 1) := rfl
set_option maxRecDepth 100000 in
theorem maz5_61 (L : Nat) (xs : Nat → Int32) : den 1298 5 61 [some (vr 5 0)] [vr 1 1, vr 5 0] (ma45 L xs) = den 1298 5 64 [some (vr 5 0)] [] (ma46 L xs) :=
  (bx_eq [64] 1298 5 1 61 _ _ _).symm.trans rfl
set_option maxRecDepth 100000 in
theorem maz5_64 (L : Nat) (xs : Nat → Int32) : den 1298 5 64 [some (vr 5 0)] [] (ma46 L xs) = some (.inl none, (ma46 L xs)) :=
  (bx_eq [] 1298 5 1 64 _ _ _).symm.trans rfl
theorem maz5 (L : Nat) (xs : Nat → Int32) : cal 1298 5 [vr 5 0] (ma26 L xs) = some (.inl none, (ma46 L xs)) := by
  show den 1298 5 0 [some (vr 5 0)] [] (ma26 L xs) = _
  rw [maz5_0]
  rw [maz5_9]
  rw [maz5_12]
  rw [maz5_17]
  rw [maz5_20]
  rw [maz5_25]
  rw [maz5_28]
  rw [maz5_33]
  rw [maz5_36]
  rw [maz5_41]
  rw [maz5_44]
  rw [maz5_50]
  rw [maz5_53]
  rw [maz5_57]
  rw [maz6]
  show den 1298 5 61 [some (vr 5 0)] [vr 1 1, vr 5 0] (ma45 L xs) = _
  rw [maz5_61]
  rw [maz5_64]
def ma47 (L : Nat) (xs : Nat → Int32) : Mem := setR (ma46 L xs) 11 0 2 (ro 5 0)
theorem ma47R (L : Nat) (xs : Nat → Int32) : mR (ma47 L xs) = up3 (mR (ma46 L xs)) 11 0 2 (ro 5 0) := rfl
set_option maxRecDepth 100000 in
theorem maz1_36 (L : Nat) (xs : Nat → Int32) : den 1299 1 36 [some (vr 11 0)] [vr 5 0, vr 11 0] (ma46 L xs) = den 1299 1 39 [some (vr 11 0)] [] (ma47 L xs) :=
  (bx_eq [39] 1299 1 1 36 _ _ _).symm.trans rfl
def ma48 (L : Nat) (xs : Nat → Int32) : Mem := newM (ma47 L xs) 3 4
theorem ma48R (L : Nat) (xs : Nat → Int32) : mR (ma48 L xs) = upA (mR (ma47 L xs)) 3 0 (fun _ => some none) := rfl
set_option maxRecDepth 100000 in
theorem maz1_39 (L : Nat) (xs : Nat → Int32) : den 1299 1 39 [some (vr 11 0)] [] (ma47 L xs) = den 1299 1 43 [some (vr 11 0)] [vr 3 0, vr 11 0] (ma48 L xs) :=
  (bx_eq [43] 1299 1 2 39 _ _ _).symm.trans rfl
set_option maxRecDepth 100000 in
theorem maz1_43 (L : Nat) (xs : Nat → Int32) : den 1299 1 43 [some (vr 11 0)] [vr 3 0, vr 11 0] (ma48 L xs) = ret9 (den 1299 1) 1 48 51 [some (vr 11 0)] [vr 3 0, vr 11 0] (cal 1298 6 [vr 3 0, vr 5 0] (ma48 L xs)) :=
  (bx_eq [] 1299 1 4 43 _ _ _).symm.trans rfl
def ma49 (L : Nat) (xs : Nat → Int32) : Mem := newM (ma48 L xs) 28 64
theorem ma49R (L : Nat) (xs : Nat → Int32) : mR (ma49 L xs) = upA (mR (ma48 L xs)) 28 3 (fun _ => some none) := rfl
set_option maxRecDepth 100000 in
theorem maz7_0 (L : Nat) (xs : Nat → Int32) : den 1298 6 0 [some (vr 3 0), some (vr 5 0)] [] (ma48 L xs) = den 1298 6 9 [some (vr 3 0), some (vr 5 0)] [vr 28 3, vr 3 0] (ma49 L xs) :=
  (bx_eq [9] 1298 6 5 0 _ _ _).symm.trans rfl
def ma50 (L : Nat) (xs : Nat → Int32) : Mem := setR (ma49 L xs) 3 0 1 (ro 28 3)
theorem ma50R (L : Nat) (xs : Nat → Int32) : mR (ma50 L xs) = up3 (mR (ma49 L xs)) 3 0 1 (ro 28 3) := rfl
set_option maxRecDepth 100000 in
theorem maz7_9 (L : Nat) (xs : Nat → Int32) : den 1298 6 9 [some (vr 3 0), some (vr 5 0)] [vr 28 3, vr 3 0] (ma49 L xs) = den 1298 6 12 [some (vr 3 0), some (vr 5 0)] [] (ma50 L xs) :=
  (bx_eq [12] 1298 6 1 9 _ _ _).symm.trans rfl
def ma51 (L : Nat) (xs : Nat → Int32) : Mem := newM (ma50 L xs) 42 6
theorem ma51R (L : Nat) (xs : Nat → Int32) : mR (ma51 L xs) = upA (mR (ma50 L xs)) 42 1 (fun _ => some none) := rfl
set_option maxRecDepth 100000 in
theorem maz7_12 (L : Nat) (xs : Nat → Int32) : den 1298 6 12 [some (vr 3 0), some (vr 5 0)] [] (ma50 L xs) = den 1298 6 17 [some (vr 3 0), some (vr 5 0)] [vr 42 1, vr 3 0] (ma51 L xs) :=
  (bx_eq [17] 1298 6 3 12 _ _ _).symm.trans rfl
def ma52 (L : Nat) (xs : Nat → Int32) : Mem := setR (ma51 L xs) 3 0 2 (ro 42 1)
theorem ma52R (L : Nat) (xs : Nat → Int32) : mR (ma52 L xs) = up3 (mR (ma51 L xs)) 3 0 2 (ro 42 1) := rfl
set_option maxRecDepth 100000 in
theorem maz7_17 (L : Nat) (xs : Nat → Int32) : den 1298 6 17 [some (vr 3 0), some (vr 5 0)] [vr 42 1, vr 3 0] (ma51 L xs) = den 1298 6 20 [some (vr 3 0), some (vr 5 0)] [] (ma52 L xs) :=
  (bx_eq [20] 1298 6 1 17 _ _ _).symm.trans rfl
def ma53 (L : Nat) (xs : Nat → Int32) : Mem := setR (ma52 L xs) 3 0 0 (ro 5 0)
theorem ma53R (L : Nat) (xs : Nat → Int32) : mR (ma53 L xs) = up3 (mR (ma52 L xs)) 3 0 0 (ro 5 0) := rfl
set_option maxRecDepth 100000 in
theorem maz7_20 (L : Nat) (xs : Nat → Int32) : den 1298 6 20 [some (vr 3 0), some (vr 5 0)] [] (ma52 L xs) = den 1298 6 25 [some (vr 3 0), some (vr 5 0)] [] (ma53 L xs) :=
  (bx_eq [25] 1298 6 3 20 _ _ _).symm.trans rfl
set_option maxRecDepth 100000 in
theorem maz7_25 (L : Nat) (xs : Nat → Int32) : den 1298 6 25 [some (vr 3 0), some (vr 5 0)] [] (ma53 L xs) = some (.inl none, (ma53 L xs)) :=
  (bx_eq [] 1298 6 1 25 _ _ _).symm.trans rfl
theorem maz7 (L : Nat) (xs : Nat → Int32) : cal 1298 6 [vr 3 0, vr 5 0] (ma48 L xs) = some (.inl none, (ma53 L xs)) := by
  show den 1298 6 0 [some (vr 3 0), some (vr 5 0)] [] (ma48 L xs) = _
  rw [maz7_0]
  rw [maz7_9]
  rw [maz7_12]
  rw [maz7_17]
  rw [maz7_20]
  rw [maz7_25]
def ma54 (L : Nat) (xs : Nat → Int32) : Mem := setR (ma53 L xs) 11 0 3 (ro 3 0)
theorem ma54R (L : Nat) (xs : Nat → Int32) : mR (ma54 L xs) = up3 (mR (ma53 L xs)) 11 0 3 (ro 3 0) := rfl
set_option maxRecDepth 100000 in
theorem maz1_51 (L : Nat) (xs : Nat → Int32) : den 1299 1 51 [some (vr 11 0)] [vr 3 0, vr 11 0] (ma53 L xs) = den 1299 1 54 [some (vr 11 0)] [] (ma54 L xs) :=
  (bx_eq [54] 1299 1 1 51 _ _ _).symm.trans rfl
def ma55 (L : Nat) (xs : Nat → Int32) : Mem := newM (ma54 L xs) 0 2
theorem ma55R (L : Nat) (xs : Nat → Int32) : mR (ma55 L xs) = upA (mR (ma54 L xs)) 0 0 (fun _ => some none) := rfl
set_option maxRecDepth 100000 in
theorem maz1_54 (L : Nat) (xs : Nat → Int32) : den 1299 1 54 [some (vr 11 0)] [] (ma54 L xs) = den 1299 1 58 [some (vr 11 0)] [vr 0 0, vr 11 0] (ma55 L xs) :=
  (bx_eq [58] 1299 1 2 54 _ _ _).symm.trans rfl
set_option maxRecDepth 100000 in
theorem maz1_58 (L : Nat) (xs : Nat → Int32) : den 1299 1 58 [some (vr 11 0)] [vr 0 0, vr 11 0] (ma55 L xs) = ret9 (den 1299 1) 1 67 70 [some (vr 11 0)] [vr 0 0, vr 11 0] (cal 1298 7 [vr 0 0, vr 5 0, vr 3 0] (ma55 L xs)) :=
  (bx_eq [] 1299 1 6 58 _ _ _).symm.trans rfl
def ma56 (L : Nat) (xs : Nat → Int32) : Mem := setR (ma55 L xs) 0 0 0 (ro 5 0)
theorem ma56R (L : Nat) (xs : Nat → Int32) : mR (ma56 L xs) = up3 (mR (ma55 L xs)) 0 0 0 (ro 5 0) := rfl
set_option maxRecDepth 100000 in
theorem maz8_0 (L : Nat) (xs : Nat → Int32) : den 1298 7 0 [some (vr 0 0), some (vr 5 0), some (vr 3 0)] [] (ma55 L xs) = den 1298 7 9 [some (vr 0 0), some (vr 5 0), some (vr 3 0)] [] (ma56 L xs) :=
  (bx_eq [9] 1298 7 5 0 _ _ _).symm.trans rfl
def ma57 (L : Nat) (xs : Nat → Int32) : Mem := setR (ma56 L xs) 0 0 1 (ro 3 0)
theorem ma57R (L : Nat) (xs : Nat → Int32) : mR (ma57 L xs) = up3 (mR (ma56 L xs)) 0 0 1 (ro 3 0) := rfl
set_option maxRecDepth 100000 in
theorem maz8_9 (L : Nat) (xs : Nat → Int32) : den 1298 7 9 [some (vr 0 0), some (vr 5 0), some (vr 3 0)] [] (ma56 L xs) = den 1298 7 14 [some (vr 0 0), some (vr 5 0), some (vr 3 0)] [] (ma57 L xs) :=
  (bx_eq [14] 1298 7 3 9 _ _ _).symm.trans rfl
set_option maxRecDepth 100000 in
theorem maz8_14 (L : Nat) (xs : Nat → Int32) : den 1298 7 14 [some (vr 0 0), some (vr 5 0), some (vr 3 0)] [] (ma57 L xs) = some (.inl none, (ma57 L xs)) :=
  (bx_eq [] 1298 7 1 14 _ _ _).symm.trans rfl
theorem maz8 (L : Nat) (xs : Nat → Int32) : cal 1298 7 [vr 0 0, vr 5 0, vr 3 0] (ma55 L xs) = some (.inl none, (ma57 L xs)) := by
  show den 1298 7 0 [some (vr 0 0), some (vr 5 0), some (vr 3 0)] [] (ma55 L xs) = _
  rw [maz8_0]
  rw [maz8_9]
  rw [maz8_14]
def ma58 (L : Nat) (xs : Nat → Int32) : Mem := setR (ma57 L xs) 11 0 4 (ro 0 0)
theorem ma58R (L : Nat) (xs : Nat → Int32) : mR (ma58 L xs) = up3 (mR (ma57 L xs)) 11 0 4 (ro 0 0) := rfl
set_option maxRecDepth 100000 in
theorem maz1_70 (L : Nat) (xs : Nat → Int32) : den 1299 1 70 [some (vr 11 0)] [vr 0 0, vr 11 0] (ma57 L xs) = den 1299 1 73 [some (vr 11 0)] [] (ma58 L xs) :=
  (bx_eq [73] 1299 1 1 70 _ _ _).symm.trans rfl
def ma59 (L : Nat) (xs : Nat → Int32) : Mem := newM (ma58 L xs) 6 11
theorem ma59R (L : Nat) (xs : Nat → Int32) : mR (ma59 L xs) = upA (mR (ma58 L xs)) 6 0 (fun _ => some none) := rfl
set_option maxRecDepth 100000 in
theorem maz1_73 (L : Nat) (xs : Nat → Int32) : den 1299 1 73 [some (vr 11 0)] [] (ma58 L xs) = den 1299 1 77 [some (vr 11 0)] [vr 6 0, vr 11 0] (ma59 L xs) :=
  (bx_eq [77] 1299 1 2 73 _ _ _).symm.trans rfl
set_option maxRecDepth 100000 in
theorem maz1_77 (L : Nat) (xs : Nat → Int32) : den 1299 1 77 [some (vr 11 0)] [vr 6 0, vr 11 0] (ma59 L xs) = ret9 (den 1299 1) 1 90 93 [some (vr 11 0)] [vr 6 0, vr 11 0] (cal 1298 8 [vr 6 0, vr 5 0, vr 3 0, vr 0 0] (ma59 L xs)) :=
  (bx_eq [] 1299 1 8 77 _ _ _).symm.trans rfl
def ma60 (L : Nat) (xs : Nat → Int32) : Mem := newM (ma59 L xs) 21 6
theorem ma60R (L : Nat) (xs : Nat → Int32) : mR (ma60 L xs) = upA (mR (ma59 L xs)) 21 6 (fun _ => some none) := rfl
set_option maxRecDepth 100000 in
theorem maz9_0 (L : Nat) (xs : Nat → Int32) : den 1298 8 0 [some (vr 6 0), some (vr 5 0), some (vr 3 0), some (vr 0 0)] [] (ma59 L xs) = den 1298 8 9 [some (vr 6 0), some (vr 5 0), some (vr 3 0), some (vr 0 0)] [vr 21 6, vr 6 0] (ma60 L xs) :=
  (bx_eq [9] 1298 8 5 0 _ _ _).symm.trans rfl
def ma61 (L : Nat) (xs : Nat → Int32) : Mem := setR (ma60 L xs) 6 0 3 (ro 21 6)
theorem ma61R (L : Nat) (xs : Nat → Int32) : mR (ma61 L xs) = up3 (mR (ma60 L xs)) 6 0 3 (ro 21 6) := rfl
set_option maxRecDepth 100000 in
theorem maz9_9 (L : Nat) (xs : Nat → Int32) : den 1298 8 9 [some (vr 6 0), some (vr 5 0), some (vr 3 0), some (vr 0 0)] [vr 21 6, vr 6 0] (ma60 L xs) = den 1298 8 12 [some (vr 6 0), some (vr 5 0), some (vr 3 0), some (vr 0 0)] [] (ma61 L xs) :=
  (bx_eq [12] 1298 8 1 9 _ _ _).symm.trans rfl
def ma62 (L : Nat) (xs : Nat → Int32) : Mem := setR (ma61 L xs) 6 0 0 (ro 5 0)
theorem ma62R (L : Nat) (xs : Nat → Int32) : mR (ma62 L xs) = up3 (mR (ma61 L xs)) 6 0 0 (ro 5 0) := rfl
set_option maxRecDepth 100000 in
theorem maz9_12 (L : Nat) (xs : Nat → Int32) : den 1298 8 12 [some (vr 6 0), some (vr 5 0), some (vr 3 0), some (vr 0 0)] [] (ma61 L xs) = den 1298 8 17 [some (vr 6 0), some (vr 5 0), some (vr 3 0), some (vr 0 0)] [] (ma62 L xs) :=
  (bx_eq [17] 1298 8 3 12 _ _ _).symm.trans rfl
def ma63 (L : Nat) (xs : Nat → Int32) : Mem := setR (ma62 L xs) 6 0 1 (ro 3 0)
theorem ma63R (L : Nat) (xs : Nat → Int32) : mR (ma63 L xs) = up3 (mR (ma62 L xs)) 6 0 1 (ro 3 0) := rfl
set_option maxRecDepth 100000 in
theorem maz9_17 (L : Nat) (xs : Nat → Int32) : den 1298 8 17 [some (vr 6 0), some (vr 5 0), some (vr 3 0), some (vr 0 0)] [] (ma62 L xs) = den 1298 8 22 [some (vr 6 0), some (vr 5 0), some (vr 3 0), some (vr 0 0)] [] (ma63 L xs) :=
  (bx_eq [22] 1298 8 3 17 _ _ _).symm.trans rfl
def ma64 (L : Nat) (xs : Nat → Int32) : Mem := setR (ma63 L xs) 6 0 2 (ro 0 0)
theorem ma64R (L : Nat) (xs : Nat → Int32) : mR (ma64 L xs) = up3 (mR (ma63 L xs)) 6 0 2 (ro 0 0) := rfl
set_option maxRecDepth 100000 in
theorem maz9_22 (L : Nat) (xs : Nat → Int32) : den 1298 8 22 [some (vr 6 0), some (vr 5 0), some (vr 3 0), some (vr 0 0)] [] (ma63 L xs) = den 1298 8 27 [some (vr 6 0), some (vr 5 0), some (vr 3 0), some (vr 0 0)] [] (ma64 L xs) :=
  (bx_eq [27] 1298 8 3 22 _ _ _).symm.trans rfl
set_option maxRecDepth 100000 in
theorem maz9_27 (L : Nat) (xs : Nat → Int32) : den 1298 8 27 [some (vr 6 0), some (vr 5 0), some (vr 3 0), some (vr 0 0)] [] (ma64 L xs) = some (.inl none, (ma64 L xs)) :=
  (bx_eq [] 1298 8 1 27 _ _ _).symm.trans rfl
theorem maz9 (L : Nat) (xs : Nat → Int32) : cal 1298 8 [vr 6 0, vr 5 0, vr 3 0, vr 0 0] (ma59 L xs) = some (.inl none, (ma64 L xs)) := by
  show den 1298 8 0 [some (vr 6 0), some (vr 5 0), some (vr 3 0), some (vr 0 0)] [] (ma59 L xs) = _
  rw [maz9_0]
  rw [maz9_9]
  rw [maz9_12]
  rw [maz9_17]
  rw [maz9_22]
  rw [maz9_27]
def ma65 (L : Nat) (xs : Nat → Int32) : Mem := setR (ma64 L xs) 11 0 5 (ro 6 0)
theorem ma65R (L : Nat) (xs : Nat → Int32) : mR (ma65 L xs) = up3 (mR (ma64 L xs)) 11 0 5 (ro 6 0) := rfl
set_option maxRecDepth 100000 in
theorem maz1_93 (L : Nat) (xs : Nat → Int32) : den 1299 1 93 [some (vr 11 0)] [vr 6 0, vr 11 0] (ma64 L xs) = den 1299 1 96 [some (vr 11 0)] [] (ma65 L xs) :=
  (bx_eq [96] 1299 1 1 93 _ _ _).symm.trans rfl
def ma66 (L : Nat) (xs : Nat → Int32) : Mem := newM (ma65 L xs) 4 16
theorem ma66R (L : Nat) (xs : Nat → Int32) : mR (ma66 L xs) = upA (mR (ma65 L xs)) 4 0 (fun _ => some none) := rfl
set_option maxRecDepth 100000 in
theorem maz1_96 (L : Nat) (xs : Nat → Int32) : den 1299 1 96 [some (vr 11 0)] [] (ma65 L xs) = den 1299 1 100 [some (vr 11 0)] [vr 4 0, vr 11 0] (ma66 L xs) :=
  (bx_eq [100] 1299 1 2 96 _ _ _).symm.trans rfl
set_option maxRecDepth 100000 in
theorem maz1_100 (L : Nat) (xs : Nat → Int32) : den 1299 1 100 [some (vr 11 0)] [vr 4 0, vr 11 0] (ma66 L xs) = ret9 (den 1299 1) 1 109 112 [some (vr 11 0)] [vr 4 0, vr 11 0] (cal 1298 9 [vr 4 0, vr 5 0, vr 3 0] (ma66 L xs)) :=
  (bx_eq [] 1299 1 6 100 _ _ _).symm.trans rfl
def ma67 (L : Nat) (xs : Nat → Int32) : Mem := newM (ma66 L xs) 22 9
theorem ma67R (L : Nat) (xs : Nat → Int32) : mR (ma67 L xs) = upA (mR (ma66 L xs)) 22 0 (fun _ => some none) := rfl
set_option maxRecDepth 100000 in
theorem maz10_0 (L : Nat) (xs : Nat → Int32) : den 1298 9 0 [some (vr 4 0), some (vr 5 0), some (vr 3 0)] [] (ma66 L xs) = den 1298 9 9 [some (vr 4 0), some (vr 5 0), some (vr 3 0)] [vr 22 0, vr 4 0] (ma67 L xs) :=
  (bx_eq [9] 1298 9 5 0 _ _ _).symm.trans rfl
def ma68 (L : Nat) (xs : Nat → Int32) : Mem := setR (ma67 L xs) 4 0 2 (ro 22 0)
theorem ma68R (L : Nat) (xs : Nat → Int32) : mR (ma68 L xs) = up3 (mR (ma67 L xs)) 4 0 2 (ro 22 0) := rfl
set_option maxRecDepth 100000 in
theorem maz10_9 (L : Nat) (xs : Nat → Int32) : den 1298 9 9 [some (vr 4 0), some (vr 5 0), some (vr 3 0)] [vr 22 0, vr 4 0] (ma67 L xs) = den 1298 9 12 [some (vr 4 0), some (vr 5 0), some (vr 3 0)] [] (ma68 L xs) :=
  (bx_eq [12] 1298 9 1 9 _ _ _).symm.trans rfl
def ma69 (L : Nat) (xs : Nat → Int32) : Mem := newM (ma68 L xs) 22 9
theorem ma69R (L : Nat) (xs : Nat → Int32) : mR (ma69 L xs) = upA (mR (ma68 L xs)) 22 1 (fun _ => some none) := rfl
set_option maxRecDepth 100000 in
theorem maz10_12 (L : Nat) (xs : Nat → Int32) : den 1298 9 12 [some (vr 4 0), some (vr 5 0), some (vr 3 0)] [] (ma68 L xs) = den 1298 9 17 [some (vr 4 0), some (vr 5 0), some (vr 3 0)] [vr 22 1, vr 4 0] (ma69 L xs) :=
  (bx_eq [17] 1298 9 3 12 _ _ _).symm.trans rfl
def ma70 (L : Nat) (xs : Nat → Int32) : Mem := setR (ma69 L xs) 4 0 3 (ro 22 1)
theorem ma70R (L : Nat) (xs : Nat → Int32) : mR (ma70 L xs) = up3 (mR (ma69 L xs)) 4 0 3 (ro 22 1) := rfl
set_option maxRecDepth 100000 in
theorem maz10_17 (L : Nat) (xs : Nat → Int32) : den 1298 9 17 [some (vr 4 0), some (vr 5 0), some (vr 3 0)] [vr 22 1, vr 4 0] (ma69 L xs) = den 1298 9 20 [some (vr 4 0), some (vr 5 0), some (vr 3 0)] [] (ma70 L xs) :=
  (bx_eq [20] 1298 9 1 17 _ _ _).symm.trans rfl
def ma71 (L : Nat) (xs : Nat → Int32) : Mem := newM (ma70 L xs) 22 9
theorem ma71R (L : Nat) (xs : Nat → Int32) : mR (ma71 L xs) = upA (mR (ma70 L xs)) 22 2 (fun _ => some none) := rfl
set_option maxRecDepth 100000 in
theorem maz10_20 (L : Nat) (xs : Nat → Int32) : den 1298 9 20 [some (vr 4 0), some (vr 5 0), some (vr 3 0)] [] (ma70 L xs) = den 1298 9 25 [some (vr 4 0), some (vr 5 0), some (vr 3 0)] [vr 22 2, vr 4 0] (ma71 L xs) :=
  (bx_eq [25] 1298 9 3 20 _ _ _).symm.trans rfl
def ma72 (L : Nat) (xs : Nat → Int32) : Mem := setR (ma71 L xs) 4 0 4 (ro 22 2)
theorem ma72R (L : Nat) (xs : Nat → Int32) : mR (ma72 L xs) = up3 (mR (ma71 L xs)) 4 0 4 (ro 22 2) := rfl
set_option maxRecDepth 100000 in
theorem maz10_25 (L : Nat) (xs : Nat → Int32) : den 1298 9 25 [some (vr 4 0), some (vr 5 0), some (vr 3 0)] [vr 22 2, vr 4 0] (ma71 L xs) = den 1298 9 28 [some (vr 4 0), some (vr 5 0), some (vr 3 0)] [] (ma72 L xs) :=
  (bx_eq [28] 1298 9 1 25 _ _ _).symm.trans rfl
def ma73 (L : Nat) (xs : Nat → Int32) : Mem := newM (ma72 L xs) 41 3
theorem ma73R (L : Nat) (xs : Nat → Int32) : mR (ma73 L xs) = upA (mR (ma72 L xs)) 41 0 (fun _ => some none) := rfl
set_option maxRecDepth 100000 in
theorem maz10_28 (L : Nat) (xs : Nat → Int32) : den 1298 9 28 [some (vr 4 0), some (vr 5 0), some (vr 3 0)] [] (ma72 L xs) = den 1298 9 32 [some (vr 4 0), some (vr 5 0), some (vr 3 0)] [vr 41 0, vr 4 0] (ma73 L xs) :=
  (bx_eq [32] 1298 9 3 28 _ _ _).symm.trans rfl
def ma74 (L : Nat) (xs : Nat → Int32) : Mem := setR (ma73 L xs) 4 0 5 (ro 41 0)
theorem ma74R (L : Nat) (xs : Nat → Int32) : mR (ma74 L xs) = up3 (mR (ma73 L xs)) 4 0 5 (ro 41 0) := rfl
set_option maxRecDepth 100000 in
theorem maz10_32 (L : Nat) (xs : Nat → Int32) : den 1298 9 32 [some (vr 4 0), some (vr 5 0), some (vr 3 0)] [vr 41 0, vr 4 0] (ma73 L xs) = den 1298 9 35 [some (vr 4 0), some (vr 5 0), some (vr 3 0)] [] (ma74 L xs) :=
  (bx_eq [35] 1298 9 1 32 _ _ _).symm.trans rfl
def ma75 (L : Nat) (xs : Nat → Int32) : Mem := newM (ma74 L xs) 22 9
theorem ma75R (L : Nat) (xs : Nat → Int32) : mR (ma75 L xs) = upA (mR (ma74 L xs)) 22 3 (fun _ => some none) := rfl
set_option maxRecDepth 100000 in
theorem maz10_35 (L : Nat) (xs : Nat → Int32) : den 1298 9 35 [some (vr 4 0), some (vr 5 0), some (vr 3 0)] [] (ma74 L xs) = den 1298 9 40 [some (vr 4 0), some (vr 5 0), some (vr 3 0)] [vr 22 3, vr 4 0] (ma75 L xs) :=
  (bx_eq [40] 1298 9 3 35 _ _ _).symm.trans rfl
def ma76 (L : Nat) (xs : Nat → Int32) : Mem := setR (ma75 L xs) 4 0 6 (ro 22 3)
theorem ma76R (L : Nat) (xs : Nat → Int32) : mR (ma76 L xs) = up3 (mR (ma75 L xs)) 4 0 6 (ro 22 3) := rfl
set_option maxRecDepth 100000 in
theorem maz10_40 (L : Nat) (xs : Nat → Int32) : den 1298 9 40 [some (vr 4 0), some (vr 5 0), some (vr 3 0)] [vr 22 3, vr 4 0] (ma75 L xs) = den 1298 9 43 [some (vr 4 0), some (vr 5 0), some (vr 3 0)] [] (ma76 L xs) :=
  (bx_eq [43] 1298 9 1 40 _ _ _).symm.trans rfl
def ma77 (L : Nat) (xs : Nat → Int32) : Mem := newM (ma76 L xs) 26 30
theorem ma77R (L : Nat) (xs : Nat → Int32) : mR (ma77 L xs) = upA (mR (ma76 L xs)) 26 0 (fun _ => some none) := rfl
set_option maxRecDepth 100000 in
theorem maz10_43 (L : Nat) (xs : Nat → Int32) : den 1298 9 43 [some (vr 4 0), some (vr 5 0), some (vr 3 0)] [] (ma76 L xs) = den 1298 9 48 [some (vr 4 0), some (vr 5 0), some (vr 3 0)] [vr 26 0, vr 4 0] (ma77 L xs) :=
  (bx_eq [48] 1298 9 3 43 _ _ _).symm.trans rfl
def ma78 (L : Nat) (xs : Nat → Int32) : Mem := setR (ma77 L xs) 4 0 7 (ro 26 0)
theorem ma78R (L : Nat) (xs : Nat → Int32) : mR (ma78 L xs) = up3 (mR (ma77 L xs)) 4 0 7 (ro 26 0) := rfl
set_option maxRecDepth 100000 in
theorem maz10_48 (L : Nat) (xs : Nat → Int32) : den 1298 9 48 [some (vr 4 0), some (vr 5 0), some (vr 3 0)] [vr 26 0, vr 4 0] (ma77 L xs) = den 1298 9 51 [some (vr 4 0), some (vr 5 0), some (vr 3 0)] [] (ma78 L xs) :=
  (bx_eq [51] 1298 9 1 48 _ _ _).symm.trans rfl
def ma79 (L : Nat) (xs : Nat → Int32) : Mem := newM (ma78 L xs) 23 10
theorem ma79R (L : Nat) (xs : Nat → Int32) : mR (ma79 L xs) = upA (mR (ma78 L xs)) 23 0 (fun _ => some none) := rfl
set_option maxRecDepth 100000 in
theorem maz10_51 (L : Nat) (xs : Nat → Int32) : den 1298 9 51 [some (vr 4 0), some (vr 5 0), some (vr 3 0)] [] (ma78 L xs) = den 1298 9 56 [some (vr 4 0), some (vr 5 0), some (vr 3 0)] [vr 23 0, vr 4 0] (ma79 L xs) :=
  (bx_eq [56] 1298 9 3 51 _ _ _).symm.trans rfl
def ma80 (L : Nat) (xs : Nat → Int32) : Mem := setR (ma79 L xs) 4 0 8 (ro 23 0)
theorem ma80R (L : Nat) (xs : Nat → Int32) : mR (ma80 L xs) = up3 (mR (ma79 L xs)) 4 0 8 (ro 23 0) := rfl
set_option maxRecDepth 100000 in
theorem maz10_56 (L : Nat) (xs : Nat → Int32) : den 1298 9 56 [some (vr 4 0), some (vr 5 0), some (vr 3 0)] [vr 23 0, vr 4 0] (ma79 L xs) = den 1298 9 59 [some (vr 4 0), some (vr 5 0), some (vr 3 0)] [] (ma80 L xs) :=
  (bx_eq [59] 1298 9 1 56 _ _ _).symm.trans rfl
def ma81 (L : Nat) (xs : Nat → Int32) : Mem := setR (ma80 L xs) 4 0 0 (ro 5 0)
theorem ma81R (L : Nat) (xs : Nat → Int32) : mR (ma81 L xs) = up3 (mR (ma80 L xs)) 4 0 0 (ro 5 0) := rfl
set_option maxRecDepth 100000 in
theorem maz10_59 (L : Nat) (xs : Nat → Int32) : den 1298 9 59 [some (vr 4 0), some (vr 5 0), some (vr 3 0)] [] (ma80 L xs) = den 1298 9 64 [some (vr 4 0), some (vr 5 0), some (vr 3 0)] [] (ma81 L xs) :=
  (bx_eq [64] 1298 9 3 59 _ _ _).symm.trans rfl
def ma82 (L : Nat) (xs : Nat → Int32) : Mem := setR (ma81 L xs) 4 0 1 (ro 3 0)
theorem ma82R (L : Nat) (xs : Nat → Int32) : mR (ma82 L xs) = up3 (mR (ma81 L xs)) 4 0 1 (ro 3 0) := rfl
set_option maxRecDepth 100000 in
theorem maz10_64 (L : Nat) (xs : Nat → Int32) : den 1298 9 64 [some (vr 4 0), some (vr 5 0), some (vr 3 0)] [] (ma81 L xs) = den 1298 9 69 [some (vr 4 0), some (vr 5 0), some (vr 3 0)] [] (ma82 L xs) :=
  (bx_eq [69] 1298 9 3 64 _ _ _).symm.trans rfl
set_option maxRecDepth 100000 in
theorem maz10_69 (L : Nat) (xs : Nat → Int32) : den 1298 9 69 [some (vr 4 0), some (vr 5 0), some (vr 3 0)] [] (ma82 L xs) = some (.inl none, (ma82 L xs)) :=
  (bx_eq [] 1298 9 1 69 _ _ _).symm.trans rfl
theorem maz10 (L : Nat) (xs : Nat → Int32) : cal 1298 9 [vr 4 0, vr 5 0, vr 3 0] (ma66 L xs) = some (.inl none, (ma82 L xs)) := by
  show den 1298 9 0 [some (vr 4 0), some (vr 5 0), some (vr 3 0)] [] (ma66 L xs) = _
  rw [maz10_0]
  rw [maz10_9]
  rw [maz10_12]
  rw [maz10_17]
  rw [maz10_20]
  rw [maz10_25]
  rw [maz10_28]
  rw [maz10_32]
  rw [maz10_35]
  rw [maz10_40]
  rw [maz10_43]
  rw [maz10_48]
  rw [maz10_51]
  rw [maz10_56]
  rw [maz10_59]
  rw [maz10_64]
  rw [maz10_69]
def ma83 (L : Nat) (xs : Nat → Int32) : Mem := setR (ma82 L xs) 11 0 6 (ro 4 0)
theorem ma83R (L : Nat) (xs : Nat → Int32) : mR (ma83 L xs) = up3 (mR (ma82 L xs)) 11 0 6 (ro 4 0) := rfl
set_option maxRecDepth 100000 in
theorem maz1_112 (L : Nat) (xs : Nat → Int32) : den 1299 1 112 [some (vr 11 0)] [vr 4 0, vr 11 0] (ma82 L xs) = den 1299 1 115 [some (vr 11 0)] [] (ma83 L xs) :=
  (bx_eq [115] 1299 1 1 112 _ _ _).symm.trans rfl
def ma84 (L : Nat) (xs : Nat → Int32) : Mem := newM (ma83 L xs) 10 5
theorem ma84R (L : Nat) (xs : Nat → Int32) : mR (ma84 L xs) = upA (mR (ma83 L xs)) 10 0 (fun _ => some none) := rfl
set_option maxRecDepth 100000 in
theorem maz1_115 (L : Nat) (xs : Nat → Int32) : den 1299 1 115 [some (vr 11 0)] [] (ma83 L xs) = den 1299 1 119 [some (vr 11 0)] [vr 10 0, vr 11 0] (ma84 L xs) :=
  (bx_eq [119] 1299 1 2 115 _ _ _).symm.trans rfl
set_option maxRecDepth 100000 in
theorem maz1_119 (L : Nat) (xs : Nat → Int32) : den 1299 1 119 [some (vr 11 0)] [vr 10 0, vr 11 0] (ma84 L xs) = ret9 (den 1299 1) 1 124 127 [some (vr 11 0)] [vr 10 0, vr 11 0] (cal 1298 10 [vr 10 0, vr 5 0] (ma84 L xs)) :=
  (bx_eq [] 1299 1 4 119 _ _ _).symm.trans rfl
def ma85 (L : Nat) (xs : Nat → Int32) : Mem := newM (ma84 L xs) 30 144
theorem ma85R (L : Nat) (xs : Nat → Int32) : mR (ma85 L xs) = upA (mR (ma84 L xs)) 30 0 (fun _ => some none) := rfl
set_option maxRecDepth 100000 in
theorem maz11_0 (L : Nat) (xs : Nat → Int32) : den 1298 10 0 [some (vr 10 0), some (vr 5 0)] [] (ma84 L xs) = den 1298 10 10 [some (vr 10 0), some (vr 5 0)] [vr 30 0, vr 10 0] (ma85 L xs) :=
  (bx_eq [10] 1298 10 5 0 _ _ _).symm.trans rfl
def ma86 (L : Nat) (xs : Nat → Int32) : Mem := setR (ma85 L xs) 10 0 1 (ro 30 0)
theorem ma86R (L : Nat) (xs : Nat → Int32) : mR (ma86 L xs) = up3 (mR (ma85 L xs)) 10 0 1 (ro 30 0) := rfl
set_option maxRecDepth 100000 in
theorem maz11_10 (L : Nat) (xs : Nat → Int32) : den 1298 10 10 [some (vr 10 0), some (vr 5 0)] [vr 30 0, vr 10 0] (ma85 L xs) = den 1298 10 13 [some (vr 10 0), some (vr 5 0)] [] (ma86 L xs) :=
  (bx_eq [13] 1298 10 1 10 _ _ _).symm.trans rfl
def ma87 (L : Nat) (xs : Nat → Int32) : Mem := newM (ma86 L xs) 30 144
theorem ma87R (L : Nat) (xs : Nat → Int32) : mR (ma87 L xs) = upA (mR (ma86 L xs)) 30 1 (fun _ => some none) := rfl
set_option maxRecDepth 100000 in
theorem maz11_13 (L : Nat) (xs : Nat → Int32) : den 1298 10 13 [some (vr 10 0), some (vr 5 0)] [] (ma86 L xs) = den 1298 10 19 [some (vr 10 0), some (vr 5 0)] [vr 30 1, vr 10 0] (ma87 L xs) :=
  (bx_eq [19] 1298 10 3 13 _ _ _).symm.trans rfl
def ma88 (L : Nat) (xs : Nat → Int32) : Mem := setR (ma87 L xs) 10 0 2 (ro 30 1)
theorem ma88R (L : Nat) (xs : Nat → Int32) : mR (ma88 L xs) = up3 (mR (ma87 L xs)) 10 0 2 (ro 30 1) := rfl
set_option maxRecDepth 100000 in
theorem maz11_19 (L : Nat) (xs : Nat → Int32) : den 1298 10 19 [some (vr 10 0), some (vr 5 0)] [vr 30 1, vr 10 0] (ma87 L xs) = den 1298 10 22 [some (vr 10 0), some (vr 5 0)] [] (ma88 L xs) :=
  (bx_eq [22] 1298 10 1 19 _ _ _).symm.trans rfl
def ma89 (L : Nat) (xs : Nat → Int32) : Mem := setR (ma88 L xs) 10 0 0 (ro 5 0)
theorem ma89R (L : Nat) (xs : Nat → Int32) : mR (ma89 L xs) = up3 (mR (ma88 L xs)) 10 0 0 (ro 5 0) := rfl
set_option maxRecDepth 100000 in
theorem maz11_22 (L : Nat) (xs : Nat → Int32) : den 1298 10 22 [some (vr 10 0), some (vr 5 0)] [] (ma88 L xs) = den 1298 10 27 [some (vr 10 0), some (vr 5 0)] [] (ma89 L xs) :=
  (bx_eq [27] 1298 10 3 22 _ _ _).symm.trans rfl
set_option maxRecDepth 100000 in
theorem maz11_27 (L : Nat) (xs : Nat → Int32) : den 1298 10 27 [some (vr 10 0), some (vr 5 0)] [] (ma89 L xs) = some (.inl none, (ma89 L xs)) :=
  (bx_eq [] 1298 10 1 27 _ _ _).symm.trans rfl
theorem maz11 (L : Nat) (xs : Nat → Int32) : cal 1298 10 [vr 10 0, vr 5 0] (ma84 L xs) = some (.inl none, (ma89 L xs)) := by
  show den 1298 10 0 [some (vr 10 0), some (vr 5 0)] [] (ma84 L xs) = _
  rw [maz11_0]
  rw [maz11_10]
  rw [maz11_13]
  rw [maz11_19]
  rw [maz11_22]
  rw [maz11_27]
def ma90 (L : Nat) (xs : Nat → Int32) : Mem := setR (ma89 L xs) 11 0 7 (ro 10 0)
theorem ma90R (L : Nat) (xs : Nat → Int32) : mR (ma90 L xs) = up3 (mR (ma89 L xs)) 11 0 7 (ro 10 0) := rfl
set_option maxRecDepth 100000 in
theorem maz1_127 (L : Nat) (xs : Nat → Int32) : den 1299 1 127 [some (vr 11 0)] [vr 10 0, vr 11 0] (ma89 L xs) = den 1299 1 130 [some (vr 11 0)] [] (ma90 L xs) :=
  (bx_eq [130] 1299 1 1 127 _ _ _).symm.trans rfl
def ma91 (L : Nat) (xs : Nat → Int32) : Mem := newM (ma90 L xs) 9 8
theorem ma91R (L : Nat) (xs : Nat → Int32) : mR (ma91 L xs) = upA (mR (ma90 L xs)) 9 0 (fun _ => some none) := rfl
set_option maxRecDepth 100000 in
theorem maz1_130 (L : Nat) (xs : Nat → Int32) : den 1299 1 130 [some (vr 11 0)] [] (ma90 L xs) = den 1299 1 134 [some (vr 11 0)] [vr 9 0, vr 11 0] (ma91 L xs) :=
  (bx_eq [134] 1299 1 2 130 _ _ _).symm.trans rfl
set_option maxRecDepth 100000 in
theorem maz1_134 (L : Nat) (xs : Nat → Int32) : den 1299 1 134 [some (vr 11 0)] [vr 9 0, vr 11 0] (ma91 L xs) = ret9 (den 1299 1) 1 139 142 [some (vr 11 0)] [vr 9 0, vr 11 0] (cal 1298 11 [vr 9 0, vr 5 0] (ma91 L xs)) :=
  (bx_eq [] 1299 1 4 134 _ _ _).symm.trans rfl
def ma92 (L : Nat) (xs : Nat → Int32) : Mem := newM (ma91 L xs) 24 12
theorem ma92R (L : Nat) (xs : Nat → Int32) : mR (ma92 L xs) = upA (mR (ma91 L xs)) 24 0 (fun _ => some none) := rfl
set_option maxRecDepth 100000 in
theorem maz12_0 (L : Nat) (xs : Nat → Int32) : den 1298 11 0 [some (vr 9 0), some (vr 5 0)] [] (ma91 L xs) = den 1298 11 9 [some (vr 9 0), some (vr 5 0)] [vr 24 0, vr 9 0] (ma92 L xs) :=
  (bx_eq [9] 1298 11 5 0 _ _ _).symm.trans rfl
def ma93 (L : Nat) (xs : Nat → Int32) : Mem := setR (ma92 L xs) 9 0 1 (ro 24 0)
theorem ma93R (L : Nat) (xs : Nat → Int32) : mR (ma93 L xs) = up3 (mR (ma92 L xs)) 9 0 1 (ro 24 0) := rfl
set_option maxRecDepth 100000 in
theorem maz12_9 (L : Nat) (xs : Nat → Int32) : den 1298 11 9 [some (vr 9 0), some (vr 5 0)] [vr 24 0, vr 9 0] (ma92 L xs) = den 1298 11 12 [some (vr 9 0), some (vr 5 0)] [] (ma93 L xs) :=
  (bx_eq [12] 1298 11 1 9 _ _ _).symm.trans rfl
def ma94 (L : Nat) (xs : Nat → Int32) : Mem := newM (ma93 L xs) 24 12
theorem ma94R (L : Nat) (xs : Nat → Int32) : mR (ma94 L xs) = upA (mR (ma93 L xs)) 24 1 (fun _ => some none) := rfl
set_option maxRecDepth 100000 in
theorem maz12_12 (L : Nat) (xs : Nat → Int32) : den 1298 11 12 [some (vr 9 0), some (vr 5 0)] [] (ma93 L xs) = den 1298 11 17 [some (vr 9 0), some (vr 5 0)] [vr 24 1, vr 9 0] (ma94 L xs) :=
  (bx_eq [17] 1298 11 3 12 _ _ _).symm.trans rfl
def ma95 (L : Nat) (xs : Nat → Int32) : Mem := setR (ma94 L xs) 9 0 2 (ro 24 1)
theorem ma95R (L : Nat) (xs : Nat → Int32) : mR (ma95 L xs) = up3 (mR (ma94 L xs)) 9 0 2 (ro 24 1) := rfl
set_option maxRecDepth 100000 in
theorem maz12_17 (L : Nat) (xs : Nat → Int32) : den 1298 11 17 [some (vr 9 0), some (vr 5 0)] [vr 24 1, vr 9 0] (ma94 L xs) = den 1298 11 20 [some (vr 9 0), some (vr 5 0)] [] (ma95 L xs) :=
  (bx_eq [20] 1298 11 1 17 _ _ _).symm.trans rfl
def ma96 (L : Nat) (xs : Nat → Int32) : Mem := setR (ma95 L xs) 9 0 0 (ro 5 0)
theorem ma96R (L : Nat) (xs : Nat → Int32) : mR (ma96 L xs) = up3 (mR (ma95 L xs)) 9 0 0 (ro 5 0) := rfl
set_option maxRecDepth 100000 in
theorem maz12_20 (L : Nat) (xs : Nat → Int32) : den 1298 11 20 [some (vr 9 0), some (vr 5 0)] [] (ma95 L xs) = den 1298 11 25 [some (vr 9 0), some (vr 5 0)] [] (ma96 L xs) :=
  (bx_eq [25] 1298 11 3 20 _ _ _).symm.trans rfl
set_option maxRecDepth 100000 in
theorem maz12_25 (L : Nat) (xs : Nat → Int32) : den 1298 11 25 [some (vr 9 0), some (vr 5 0)] [] (ma96 L xs) = some (.inl none, (ma96 L xs)) :=
  (bx_eq [] 1298 11 1 25 _ _ _).symm.trans rfl
theorem maz12 (L : Nat) (xs : Nat → Int32) : cal 1298 11 [vr 9 0, vr 5 0] (ma91 L xs) = some (.inl none, (ma96 L xs)) := by
  show den 1298 11 0 [some (vr 9 0), some (vr 5 0)] [] (ma91 L xs) = _
  rw [maz12_0]
  rw [maz12_9]
  rw [maz12_12]
  rw [maz12_17]
  rw [maz12_20]
  rw [maz12_25]
def ma97 (L : Nat) (xs : Nat → Int32) : Mem := setR (ma96 L xs) 11 0 8 (ro 9 0)
theorem ma97R (L : Nat) (xs : Nat → Int32) : mR (ma97 L xs) = up3 (mR (ma96 L xs)) 11 0 8 (ro 9 0) := rfl
set_option maxRecDepth 100000 in
theorem maz1_142 (L : Nat) (xs : Nat → Int32) : den 1299 1 142 [some (vr 11 0)] [vr 9 0, vr 11 0] (ma96 L xs) = den 1299 1 145 [some (vr 11 0)] [] (ma97 L xs) :=
  (bx_eq [145] 1299 1 1 142 _ _ _).symm.trans rfl
def ma98 (L : Nat) (xs : Nat → Int32) : Mem := newM (ma97 L xs) 2 6
theorem ma98R (L : Nat) (xs : Nat → Int32) : mR (ma98 L xs) = upA (mR (ma97 L xs)) 2 0 (fun _ => some none) := rfl
set_option maxRecDepth 100000 in
theorem maz1_145 (L : Nat) (xs : Nat → Int32) : den 1299 1 145 [some (vr 11 0)] [] (ma97 L xs) = den 1299 1 149 [some (vr 11 0)] [vr 2 0, vr 11 0] (ma98 L xs) :=
  (bx_eq [149] 1299 1 2 145 _ _ _).symm.trans rfl
set_option maxRecDepth 100000 in
theorem maz1_149 (L : Nat) (xs : Nat → Int32) : den 1299 1 149 [some (vr 11 0)] [vr 2 0, vr 11 0] (ma98 L xs) = ret9 (den 1299 1) 1 158 161 [some (vr 11 0)] [vr 2 0, vr 11 0] (cal 1298 12 [vr 2 0, vr 5 0, vr 3 0] (ma98 L xs)) :=
  (bx_eq [] 1299 1 6 149 _ _ _).symm.trans rfl
def ma99 (L : Nat) (xs : Nat → Int32) : Mem := newM (ma98 L xs) 20 4
theorem ma99R (L : Nat) (xs : Nat → Int32) : mR (ma99 L xs) = upA (mR (ma98 L xs)) 20 0 (fun _ => some none) := rfl
set_option maxRecDepth 100000 in
theorem maz13_0 (L : Nat) (xs : Nat → Int32) : den 1298 12 0 [some (vr 2 0), some (vr 5 0), some (vr 3 0)] [] (ma98 L xs) = den 1298 12 8 [some (vr 2 0), some (vr 5 0), some (vr 3 0)] [vr 20 0, vr 2 0] (ma99 L xs) :=
  (bx_eq [8] 1298 12 5 0 _ _ _).symm.trans rfl
def ma100 (L : Nat) (xs : Nat → Int32) : Mem := setR (ma99 L xs) 2 0 2 (ro 20 0)
theorem ma100R (L : Nat) (xs : Nat → Int32) : mR (ma100 L xs) = up3 (mR (ma99 L xs)) 2 0 2 (ro 20 0) := rfl
set_option maxRecDepth 100000 in
theorem maz13_8 (L : Nat) (xs : Nat → Int32) : den 1298 12 8 [some (vr 2 0), some (vr 5 0), some (vr 3 0)] [vr 20 0, vr 2 0] (ma99 L xs) = den 1298 12 11 [some (vr 2 0), some (vr 5 0), some (vr 3 0)] [] (ma100 L xs) :=
  (bx_eq [11] 1298 12 1 8 _ _ _).symm.trans rfl
def ma101 (L : Nat) (xs : Nat → Int32) : Mem := newM (ma100 L xs) 29 81
theorem ma101R (L : Nat) (xs : Nat → Int32) : mR (ma101 L xs) = upA (mR (ma100 L xs)) 29 0 (fun _ => some none) := rfl
set_option maxRecDepth 100000 in
theorem maz13_11 (L : Nat) (xs : Nat → Int32) : den 1298 12 11 [some (vr 2 0), some (vr 5 0), some (vr 3 0)] [] (ma100 L xs) = den 1298 12 16 [some (vr 2 0), some (vr 5 0), some (vr 3 0)] [vr 29 0, vr 2 0] (ma101 L xs) :=
  (bx_eq [16] 1298 12 3 11 _ _ _).symm.trans rfl
def ma102 (L : Nat) (xs : Nat → Int32) : Mem := setR (ma101 L xs) 2 0 3 (ro 29 0)
theorem ma102R (L : Nat) (xs : Nat → Int32) : mR (ma102 L xs) = up3 (mR (ma101 L xs)) 2 0 3 (ro 29 0) := rfl
set_option maxRecDepth 100000 in
theorem maz13_16 (L : Nat) (xs : Nat → Int32) : den 1298 12 16 [some (vr 2 0), some (vr 5 0), some (vr 3 0)] [vr 29 0, vr 2 0] (ma101 L xs) = den 1298 12 19 [some (vr 2 0), some (vr 5 0), some (vr 3 0)] [] (ma102 L xs) :=
  (bx_eq [19] 1298 12 1 16 _ _ _).symm.trans rfl
def ma103 (L : Nat) (xs : Nat → Int32) : Mem := newM (ma102 L xs) 35 648
theorem ma103R (L : Nat) (xs : Nat → Int32) : mR (ma103 L xs) = upA (mR (ma102 L xs)) 35 0 (fun _ => some none) := rfl
set_option maxRecDepth 100000 in
theorem maz13_19 (L : Nat) (xs : Nat → Int32) : den 1298 12 19 [some (vr 2 0), some (vr 5 0), some (vr 3 0)] [] (ma102 L xs) = den 1298 12 25 [some (vr 2 0), some (vr 5 0), some (vr 3 0)] [vr 35 0, vr 2 0] (ma103 L xs) :=
  (bx_eq [25] 1298 12 3 19 _ _ _).symm.trans rfl
def ma104 (L : Nat) (xs : Nat → Int32) : Mem := setR (ma103 L xs) 2 0 4 (ro 35 0)
theorem ma104R (L : Nat) (xs : Nat → Int32) : mR (ma104 L xs) = up3 (mR (ma103 L xs)) 2 0 4 (ro 35 0) := rfl
set_option maxRecDepth 100000 in
theorem maz13_25 (L : Nat) (xs : Nat → Int32) : den 1298 12 25 [some (vr 2 0), some (vr 5 0), some (vr 3 0)] [vr 35 0, vr 2 0] (ma103 L xs) = den 1298 12 28 [some (vr 2 0), some (vr 5 0), some (vr 3 0)] [] (ma104 L xs) :=
  (bx_eq [28] 1298 12 1 25 _ _ _).symm.trans rfl
def ma105 (L : Nat) (xs : Nat → Int32) : Mem := setR (ma104 L xs) 2 0 0 (ro 5 0)
theorem ma105R (L : Nat) (xs : Nat → Int32) : mR (ma105 L xs) = up3 (mR (ma104 L xs)) 2 0 0 (ro 5 0) := rfl
set_option maxRecDepth 100000 in
theorem maz13_28 (L : Nat) (xs : Nat → Int32) : den 1298 12 28 [some (vr 2 0), some (vr 5 0), some (vr 3 0)] [] (ma104 L xs) = den 1298 12 33 [some (vr 2 0), some (vr 5 0), some (vr 3 0)] [] (ma105 L xs) :=
  (bx_eq [33] 1298 12 3 28 _ _ _).symm.trans rfl
def ma106 (L : Nat) (xs : Nat → Int32) : Mem := setR (ma105 L xs) 2 0 1 (ro 3 0)
theorem ma106R (L : Nat) (xs : Nat → Int32) : mR (ma106 L xs) = up3 (mR (ma105 L xs)) 2 0 1 (ro 3 0) := rfl
set_option maxRecDepth 100000 in
theorem maz13_33 (L : Nat) (xs : Nat → Int32) : den 1298 12 33 [some (vr 2 0), some (vr 5 0), some (vr 3 0)] [] (ma105 L xs) = den 1298 12 38 [some (vr 2 0), some (vr 5 0), some (vr 3 0)] [] (ma106 L xs) :=
  (bx_eq [38] 1298 12 3 33 _ _ _).symm.trans rfl
set_option maxRecDepth 100000 in
theorem maz13_38 (L : Nat) (xs : Nat → Int32) : den 1298 12 38 [some (vr 2 0), some (vr 5 0), some (vr 3 0)] [] (ma106 L xs) = some (.inl none, (ma106 L xs)) :=
  (bx_eq [] 1298 12 1 38 _ _ _).symm.trans rfl
theorem maz13 (L : Nat) (xs : Nat → Int32) : cal 1298 12 [vr 2 0, vr 5 0, vr 3 0] (ma98 L xs) = some (.inl none, (ma106 L xs)) := by
  show den 1298 12 0 [some (vr 2 0), some (vr 5 0), some (vr 3 0)] [] (ma98 L xs) = _
  rw [maz13_0]
  rw [maz13_8]
  rw [maz13_11]
  rw [maz13_16]
  rw [maz13_19]
  rw [maz13_25]
  rw [maz13_28]
  rw [maz13_33]
  rw [maz13_38]
def ma107 (L : Nat) (xs : Nat → Int32) : Mem := setR (ma106 L xs) 11 0 9 (ro 2 0)
theorem ma107R (L : Nat) (xs : Nat → Int32) : mR (ma107 L xs) = up3 (mR (ma106 L xs)) 11 0 9 (ro 2 0) := rfl
set_option maxRecDepth 100000 in
theorem maz1_161 (L : Nat) (xs : Nat → Int32) : den 1299 1 161 [some (vr 11 0)] [vr 2 0, vr 11 0] (ma106 L xs) = den 1299 1 164 [some (vr 11 0)] [] (ma107 L xs) :=
  (bx_eq [164] 1299 1 1 161 _ _ _).symm.trans rfl
set_option maxRecDepth 100000 in
theorem maz1_164 (L : Nat) (xs : Nat → Int32) : den 1299 1 164 [some (vr 11 0)] [] (ma107 L xs) = ret9 (den 1299 1) 1 165 168 [some (vr 11 0)] [] (cal 1298 13 [vr 11 0] (ma107 L xs)) :=
  (bx_eq [] 1299 1 2 164 _ _ _).symm.trans rfl
theorem maA : ∀ (L : Nat) (xs : Nat → Int32), cal 1299 1 [vr 11 0] (ma0 L xs) = ret9 (den 1299 1) 1 165 168 [some (vr 11 0)] [] (cal 1298 13 [vr 11 0] (ma107 L xs)) := by
  intro L xs
  show den 1299 1 0 [some (vr 11 0)] [] (ma0 L xs) = _
  rw [maz1_0]
  rw [maz1_10]
  rw [maz1_13]
  rw [maz1_17]
  rw [maz2]
  show den 1299 1 25 [some (vr 11 0)] [vr 7 0, vr 11 0] (ma24 L xs) = _
  rw [maz1_25]
  rw [maz1_28]
  rw [maz1_32]
  rw [maz5]
  show den 1299 1 36 [some (vr 11 0)] [vr 5 0, vr 11 0] (ma46 L xs) = _
  rw [maz1_36]
  rw [maz1_39]
  rw [maz1_43]
  rw [maz7]
  show den 1299 1 51 [some (vr 11 0)] [vr 3 0, vr 11 0] (ma53 L xs) = _
  rw [maz1_51]
  rw [maz1_54]
  rw [maz1_58]
  rw [maz8]
  show den 1299 1 70 [some (vr 11 0)] [vr 0 0, vr 11 0] (ma57 L xs) = _
  rw [maz1_70]
  rw [maz1_73]
  rw [maz1_77]
  rw [maz9]
  show den 1299 1 93 [some (vr 11 0)] [vr 6 0, vr 11 0] (ma64 L xs) = _
  rw [maz1_93]
  rw [maz1_96]
  rw [maz1_100]
  rw [maz10]
  show den 1299 1 112 [some (vr 11 0)] [vr 4 0, vr 11 0] (ma82 L xs) = _
  rw [maz1_112]
  rw [maz1_115]
  rw [maz1_119]
  rw [maz11]
  show den 1299 1 127 [some (vr 11 0)] [vr 10 0, vr 11 0] (ma89 L xs) = _
  rw [maz1_127]
  rw [maz1_130]
  rw [maz1_134]
  rw [maz12]
  show den 1299 1 142 [some (vr 11 0)] [vr 9 0, vr 11 0] (ma96 L xs) = _
  rw [maz1_142]
  rw [maz1_145]
  rw [maz1_149]
  rw [maz13]
  show den 1299 1 161 [some (vr 11 0)] [vr 2 0, vr 11 0] (ma106 L xs) = _
  rw [maz1_161]
  rw [maz1_164]
set_option maxRecDepth 100000 in
theorem maR (L : Nat) (xs : Nat → Int32) : mR (ma107 L xs) = apR opsA (RL 1 0 rz rz) := by
  rw [ma107R, ma106R, ma105R, ma104R, ma103R, ma102R, ma101R, ma100R, ma99R, ma98R, ma97R, ma96R, ma95R, ma94R, ma93R, ma92R, ma91R, ma90R, ma89R, ma88R, ma87R, ma86R, ma85R, ma84R, ma83R, ma82R, ma81R, ma80R, ma79R, ma78R, ma77R, ma76R, ma75R, ma74R, ma73R, ma72R, ma71R, ma70R, ma69R, ma68R, ma67R, ma66R, ma65R, ma64R, ma63R, ma62R, ma61R, ma60R, ma59R, ma58R, ma57R, ma56R, ma55R, ma54R, ma53R, ma52R, ma51R, ma50R, ma49R, ma48R, ma47R, ma46R, ma45R, ma44R, ma43R, ma42R, ma41R, ma40R, ma39R, ma38R, ma37R, ma36R, ma35R, ma34R, ma33R, ma32R, ma31R, ma30R, ma29R, ma28R, ma27R, ma26R, ma25R, ma24R, ma23R, ma22R, ma21R, ma20R, ma19R, ma18R, ma17R, ma16R, ma15R, ma14R, ma13R, ma12R, ma11R, ma10R, ma9R, ma8R, ma7R, ma6R, ma5R, ma4R, ma3R, ma2R, ma1R, ma0R]
  rfl
