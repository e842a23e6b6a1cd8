/-! The reference's making (printed by program: wip/gen/gen35.py) -/
def mb0 (I : PI) (J : PJ) (C S : Nat) (L : Nat) (xs : Nat → Int32) : Mem := newM (I, J, RL 1 0 rz rz, mK (ma107 L xs), C, S) 14 55
theorem mb0R (I : PI) (J : PJ) (C S : Nat) (L : Nat) (xs : Nat → Int32) : mR (mb0 I J C S L xs) = upA (RL 1 0 rz rz) 14 0 (fun _ => some none) := rfl
def mb1 (I : PI) (J : PJ) (C S : Nat) (L : Nat) (xs : Nat → Int32) : Mem := setI (mb0 I J C S L xs) 14 0 2 (-1)
theorem mb1R (I : PI) (J : PJ) (C S : Nat) (L : Nat) (xs : Nat → Int32) : mR (mb1 I J C S L xs) = mR (mb0 I J C S L xs) := rfl
set_option maxRecDepth 100000 in
theorem mbz1_0 (I : PI) (J : PJ) (C S : Nat) (L : Nat) (xs : Nat → Int32) : den 1299 179 0 [some (vr 14 0)] [] (mb0 I J C S L xs) = den 1299 179 9 [some (vr 14 0)] [] (mb1 I J C S L xs) :=
  (bx_eq [9] 1299 179 5 0 _ _ _).symm.trans rfl
def mb2 (I : PI) (J : PJ) (C S : Nat) (L : Nat) (xs : Nat → Int32) : Mem := newM (mb1 I J C S L xs) 13 8
theorem mb2R (I : PI) (J : PJ) (C S : Nat) (L : Nat) (xs : Nat → Int32) : mR (mb2 I J C S L xs) = upA (mR (mb1 I J C S L xs)) 13 0 (fun _ => some none) := rfl
set_option maxRecDepth 100000 in
theorem mbz1_9 (I : PI) (J : PJ) (C S : Nat) (L : Nat) (xs : Nat → Int32) : den 1299 179 9 [some (vr 14 0)] [] (mb1 I J C S L xs) = den 1299 179 13 [some (vr 14 0)] [vr 13 0, vr 14 0] (mb2 I J C S L xs) :=
  (bx_eq [13] 1299 179 2 9 _ _ _).symm.trans rfl
set_option maxRecDepth 100000 in
theorem mbz1_13 (I : PI) (J : PJ) (C S : Nat) (L : Nat) (xs : Nat → Int32) : den 1299 179 13 [some (vr 14 0)] [vr 13 0, vr 14 0] (mb2 I J C S L xs) = ret9 (den 1299 179) 179 14 17 [some (vr 14 0)] [vr 13 0, vr 14 0] (cal 1298 180 [vr 13 0] (mb2 I J C S L xs)) :=
  (bx_eq [] 1299 179 2 13 _ _ _).symm.trans rfl
set_option maxRecDepth 100000 in
theorem mbz2_0 (I : PI) (J : PJ) (C S : Nat) (L : Nat) (xs : Nat → Int32) : den 1298 180 0 [some (vr 13 0)] [] (mb2 I J C S L xs) = ret9 (den 1298 180) 180 5 8 [some (vr 13 0)] [] (cal 1297 181 [vr 13 0, vn, vn, vi 0, vi 0] (mb2 I J C S L xs)) :=
  (bx_eq [] 1298 180 6 0 _ _ _).symm.trans rfl
set_option maxRecDepth 100000 in
theorem mbz3_0 (I : PI) (J : PJ) (C S : Nat) (L : Nat) (xs : Nat → Int32) : den 1297 181 0 [some (vr 13 0), some (vn), some (vn), some (vi 0), some (vi 0)] [] (mb2 I J C S L xs) = ret9 (den 1297 181) 181 6 9 [some (vr 13 0), some (vn), some (vn), some (vi 0), some (vi 0)] [] (cal 1296 182 [vr 13 0, vn, vn, vi 0, vi 0] (mb2 I J C S L xs)) :=
  (bx_eq [] 1297 181 6 0 _ _ _).symm.trans rfl
set_option maxRecDepth 100000 in
theorem mbz4_0 (I : PI) (J : PJ) (C S : Nat) (L : Nat) (xs : Nat → Int32) : den 1296 182 0 [some (vr 13 0), some (vn), some (vn), some (vi 0), some (vi 0)] [] (mb2 I J C S L xs) = ret9 (den 1296 182) 182 6 9 [some (vr 13 0), some (vn), some (vn), some (vi 0), some (vi 0)] [] (cal 1295 183 [vr 13 0, vn, vn, vi 0, vi 0] (mb2 I J C S L xs)) :=
  (bx_eq [] 1296 182 6 0 _ _ _).symm.trans rfl
def mb3 (I : PI) (J : PJ) (C S : Nat) (L : Nat) (xs : Nat → Int32) : Mem := setR (mb2 I J C S L xs) 13 0 0 (ro 13 0)
theorem mb3R (I : PI) (J : PJ) (C S : Nat) (L : Nat) (xs : Nat → Int32) : mR (mb3 I J C S L xs) = up3 (mR (mb2 I J C S L xs)) 13 0 0 (ro 13 0) := rfl
set_option maxRecDepth 100000 in
theorem mbz5_0 (I : PI) (J : PJ) (C S : Nat) (L : Nat) (xs : Nat → Int32) : den 1295 183 0 [some (vr 13 0), some (vn), some (vn), some (vi 0), some (vi 0)] [] (mb2 I J C S L xs) = den 1295 183 9 [some (vr 13 0), some (vn), some (vn), some (vi 0), some (vi 0)] [] (mb3 I J C S L xs) :=
  (bx_eq [9] 1295 183 5 0 _ _ _).symm.trans rfl
def mb4 (I : PI) (J : PJ) (C S : Nat) (L : Nat) (xs : Nat → Int32) : Mem := setR (mb3 I J C S L xs) 13 0 1 (none)
theorem mb4R (I : PI) (J : PJ) (C S : Nat) (L : Nat) (xs : Nat → Int32) : mR (mb4 I J C S L xs) = up3 (mR (mb3 I J C S L xs)) 13 0 1 (none) := rfl
set_option maxRecDepth 100000 in
theorem mbz5_9 (I : PI) (J : PJ) (C S : Nat) (L : Nat) (xs : Nat → Int32) : den 1295 183 9 [some (vr 13 0), some (vn), some (vn), some (vi 0), some (vi 0)] [] (mb3 I J C S L xs) = den 1295 183 16 [some (vr 13 0), some (vn), some (vn), some (vi 0), some (vi 0)] [] (mb4 I J C S L xs) :=
  (bx_eq [16] 1295 183 3 9 _ _ _).symm.trans rfl
def mb5 (I : PI) (J : PJ) (C S : Nat) (L : Nat) (xs : Nat → Int32) : Mem := setR (mb4 I J C S L xs) 13 0 2 (none)
theorem mb5R (I : PI) (J : PJ) (C S : Nat) (L : Nat) (xs : Nat → Int32) : mR (mb5 I J C S L xs) = up3 (mR (mb4 I J C S L xs)) 13 0 2 (none) := rfl
set_option maxRecDepth 100000 in
theorem mbz5_16 (I : PI) (J : PJ) (C S : Nat) (L : Nat) (xs : Nat → Int32) : den 1295 183 16 [some (vr 13 0), some (vn), some (vn), some (vi 0), some (vi 0)] [] (mb4 I J C S L xs) = den 1295 183 23 [some (vr 13 0), some (vn), some (vn), some (vi 0), some (vi 0)] [] (mb5 I J C S L xs) :=
  (bx_eq [23] 1295 183 3 16 _ _ _).symm.trans rfl
def mb6 (I : PI) (J : PJ) (C S : Nat) (L : Nat) (xs : Nat → Int32) : Mem := setR (mb5 I J C S L xs) 13 0 1 (rz)
theorem mb6R (I : PI) (J : PJ) (C S : Nat) (L : Nat) (xs : Nat → Int32) : mR (mb6 I J C S L xs) = up3 (mR (mb5 I J C S L xs)) 13 0 1 (rz) := rfl
set_option maxRecDepth 100000 in
theorem mbz5_23 (I : PI) (J : PJ) (C S : Nat) (L : Nat) (xs : Nat → Int32) : den 1295 183 23 [some (vr 13 0), some (vn), some (vn), some (vi 0), some (vi 0)] [] (mb5 I J C S L xs) = den 1295 183 41 [some (vr 13 0), some (vn), some (vn), some (vi 0), some (vi 0)] [] (mb6 I J C S L xs) :=
  (bx_eq [41] 1295 183 5 23 _ _ _).symm.trans rfl
def mb7 (I : PI) (J : PJ) (C S : Nat) (L : Nat) (xs : Nat → Int32) : Mem := setR (mb6 I J C S L xs) 13 0 3 (rz)
theorem mb7R (I : PI) (J : PJ) (C S : Nat) (L : Nat) (xs : Nat → Int32) : mR (mb7 I J C S L xs) = up3 (mR (mb6 I J C S L xs)) 13 0 3 (rz) := rfl
set_option maxRecDepth 100000 in
theorem mbz5_41 (I : PI) (J : PJ) (C S : Nat) (L : Nat) (xs : Nat → Int32) : den 1295 183 41 [some (vr 13 0), some (vn), some (vn), some (vi 0), some (vi 0)] [] (mb6 I J C S L xs) = den 1295 183 46 [some (vr 13 0), some (vn), some (vn), some (vi 0), some (vi 0)] [] (mb7 I J C S L xs) :=
  (bx_eq [46] 1295 183 3 41 _ _ _).symm.trans rfl
def mb8 (I : PI) (J : PJ) (C S : Nat) (L : Nat) (xs : Nat → Int32) : Mem := setR (mb7 I J C S L xs) 13 0 0 (rz)
theorem mb8R (I : PI) (J : PJ) (C S : Nat) (L : Nat) (xs : Nat → Int32) : mR (mb8 I J C S L xs) = up3 (mR (mb7 I J C S L xs)) 13 0 0 (rz) := rfl
set_option maxRecDepth 100000 in
theorem mbz5_46 (I : PI) (J : PJ) (C S : Nat) (L : Nat) (xs : Nat → Int32) : den 1295 183 46 [some (vr 13 0), some (vn), some (vn), some (vi 0), some (vi 0)] [] (mb7 I J C S L xs) = den 1295 183 51 [some (vr 13 0), some (vn), some (vn), some (vi 0), some (vi 0)] [] (mb8 I J C S L xs) :=
  (bx_eq [51] 1295 183 3 46 _ _ _).symm.trans rfl
def mb9 (I : PI) (J : PJ) (C S : Nat) (L : Nat) (xs : Nat → Int32) : Mem := setR (mb8 I J C S L xs) 13 0 2 (rz)
theorem mb9R (I : PI) (J : PJ) (C S : Nat) (L : Nat) (xs : Nat → Int32) : mR (mb9 I J C S L xs) = up3 (mR (mb8 I J C S L xs)) 13 0 2 (rz) := rfl
set_option maxRecDepth 100000 in
theorem mbz5_51 (I : PI) (J : PJ) (C S : Nat) (L : Nat) (xs : Nat → Int32) : den 1295 183 51 [some (vr 13 0), some (vn), some (vn), some (vi 0), some (vi 0)] [] (mb8 I J C S L xs) = den 1295 183 60 [some (vr 13 0), some (vn), some (vn), some (vi 0), some (vi 0)] [] (mb9 I J C S L xs) :=
  (bx_eq [60] 1295 183 5 51 _ _ _).symm.trans rfl
set_option maxRecDepth 100000 in
theorem mbz5_60 (I : PI) (J : PJ) (C S : Nat) (L : Nat) (xs : Nat → Int32) : den 1295 183 60 [some (vr 13 0), some (vn), some (vn), some (vi 0), some (vi 0)] [] (mb9 I J C S L xs) = some (.inl none, (mb9 I J C S L xs)) :=
  (bx_eq [] 1295 183 1 60 _ _ _).symm.trans rfl
theorem mbz5 (I : PI) (J : PJ) (C S : Nat) (L : Nat) (xs : Nat → Int32) : cal 1295 183 [vr 13 0, vn, vn, vi 0, vi 0] (mb2 I J C S L xs) = some (.inl none, (mb9 I J C S L xs)) := by
  show den 1295 183 0 [some (vr 13 0), some (vn), some (vn), some (vi 0), some (vi 0)] [] (mb2 I J C S L xs) = _
  rw [mbz5_0]
  rw [mbz5_9]
  rw [mbz5_16]
  rw [mbz5_23]
  rw [mbz5_41]
  rw [mbz5_46]
  rw [mbz5_51]
  rw [mbz5_60]
set_option maxRecDepth 100000 in
theorem mbz4_9 (I : PI) (J : PJ) (C S : Nat) (L : Nat) (xs : Nat → Int32) : den 1296 182 9 [some (vr 13 0), some (vn), some (vn), some (vi 0), some (vi 0)] [] (mb9 I J C S L xs) = some (.inl none, (mb9 I J C S L xs)) :=
  (bx_eq [] 1296 182 1 9 _ _ _).symm.trans rfl
theorem mbz4 (I : PI) (J : PJ) (C S : Nat) (L : Nat) (xs : Nat → Int32) : cal 1296 182 [vr 13 0, vn, vn, vi 0, vi 0] (mb2 I J C S L xs) = some (.inl none, (mb9 I J C S L xs)) := by
  show den 1296 182 0 [some (vr 13 0), some (vn), some (vn), some (vi 0), some (vi 0)] [] (mb2 I J C S L xs) = _
  rw [mbz4_0]
  rw [mbz5]
  show den 1296 182 9 [some (vr 13 0), some (vn), some (vn), some (vi 0), some (vi 0)] [] (mb9 I J C S L xs) = _
  rw [mbz4_9]
set_option maxRecDepth 100000 in
theorem mbz3_9 (I : PI) (J : PJ) (C S : Nat) (L : Nat) (xs : Nat → Int32) : den 1297 181 9 [some (vr 13 0), some (vn), some (vn), some (vi 0), some (vi 0)] [] (mb9 I J C S L xs) = some (.inl none, (mb9 I J C S L xs)) :=
  (bx_eq [] 1297 181 1 9 _ _ _).symm.trans rfl
theorem mbz3 (I : PI) (J : PJ) (C S : Nat) (L : Nat) (xs : Nat → Int32) : cal 1297 181 [vr 13 0, vn, vn, vi 0, vi 0] (mb2 I J C S L xs) = some (.inl none, (mb9 I J C S L xs)) := by
  show den 1297 181 0 [some (vr 13 0), some (vn), some (vn), some (vi 0), some (vi 0)] [] (mb2 I J C S L xs) = _
  rw [mbz3_0]
  rw [mbz4]
  show den 1297 181 9 [some (vr 13 0), some (vn), some (vn), some (vi 0), some (vi 0)] [] (mb9 I J C S L xs) = _
  rw [mbz3_9]
set_option maxRecDepth 100000 in
theorem mbz2_8 (I : PI) (J : PJ) (C S : Nat) (L : Nat) (xs : Nat → Int32) : den 1298 180 8 [some (vr 13 0)] [] (mb9 I J C S L xs) = some (.inl none, (mb9 I J C S L xs)) :=
  (bx_eq [] 1298 180 1 8 _ _ _).symm.trans rfl
theorem mbz2 (I : PI) (J : PJ) (C S : Nat) (L : Nat) (xs : Nat → Int32) : cal 1298 180 [vr 13 0] (mb2 I J C S L xs) = some (.inl none, (mb9 I J C S L xs)) := by
  show den 1298 180 0 [some (vr 13 0)] [] (mb2 I J C S L xs) = _
  rw [mbz2_0]
  rw [mbz3]
  show den 1298 180 8 [some (vr 13 0)] [] (mb9 I J C S L xs) = _
  rw [mbz2_8]
def mb10 (I : PI) (J : PJ) (C S : Nat) (L : Nat) (xs : Nat → Int32) : Mem := setR (mb9 I J C S L xs) 14 0 6 (ro 13 0)
theorem mb10R (I : PI) (J : PJ) (C S : Nat) (L : Nat) (xs : Nat → Int32) : mR (mb10 I J C S L xs) = up3 (mR (mb9 I J C S L xs)) 14 0 6 (ro 13 0) := rfl
set_option maxRecDepth 100000 in
theorem mbz1_17 (I : PI) (J : PJ) (C S : Nat) (L : Nat) (xs : Nat → Int32) : den 1299 179 17 [some (vr 14 0)] [vr 13 0, vr 14 0] (mb9 I J C S L xs) = den 1299 179 20 [some (vr 14 0)] [] (mb10 I J C S L xs) :=
  (bx_eq [20] 1299 179 1 17 _ _ _).symm.trans rfl
def mb11 (I : PI) (J : PJ) (C S : Nat) (L : Nat) (xs : Nat → Int32) : Mem := newM (mb10 I J C S L xs) 37 500
theorem mb11R (I : PI) (J : PJ) (C S : Nat) (L : Nat) (xs : Nat → Int32) : mR (mb11 I J C S L xs) = upA (mR (mb10 I J C S L xs)) 37 1 (fun _ => some none) := rfl
set_option maxRecDepth 100000 in
theorem mbz1_20 (I : PI) (J : PJ) (C S : Nat) (L : Nat) (xs : Nat → Int32) : den 1299 179 20 [some (vr 14 0)] [] (mb10 I J C S L xs) = den 1299 179 26 [some (vr 14 0)] [vr 37 1, vr 14 0] (mb11 I J C S L xs) :=
  (bx_eq [26] 1299 179 3 20 _ _ _).symm.trans rfl
def mb12 (I : PI) (J : PJ) (C S : Nat) (L : Nat) (xs : Nat → Int32) : Mem := setR (mb11 I J C S L xs) 14 0 7 (ro 37 1)
theorem mb12R (I : PI) (J : PJ) (C S : Nat) (L : Nat) (xs : Nat → Int32) : mR (mb12 I J C S L xs) = up3 (mR (mb11 I J C S L xs)) 14 0 7 (ro 37 1) := rfl
set_option maxRecDepth 100000 in
theorem mbz1_26 (I : PI) (J : PJ) (C S : Nat) (L : Nat) (xs : Nat → Int32) : den 1299 179 26 [some (vr 14 0)] [vr 37 1, vr 14 0] (mb11 I J C S L xs) = den 1299 179 29 [some (vr 14 0)] [] (mb12 I J C S L xs) :=
  (bx_eq [29] 1299 179 1 26 _ _ _).symm.trans rfl
def mb13 (I : PI) (J : PJ) (C S : Nat) (L : Nat) (xs : Nat → Int32) : Mem := newM (mb12 I J C S L xs) 21 6
theorem mb13R (I : PI) (J : PJ) (C S : Nat) (L : Nat) (xs : Nat → Int32) : mR (mb13 I J C S L xs) = upA (mR (mb12 I J C S L xs)) 21 7 (fun _ => some none) := rfl
set_option maxRecDepth 100000 in
theorem mbz1_29 (I : PI) (J : PJ) (C S : Nat) (L : Nat) (xs : Nat → Int32) : den 1299 179 29 [some (vr 14 0)] [] (mb12 I J C S L xs) = den 1299 179 34 [some (vr 14 0)] [vr 21 7, vr 14 0] (mb13 I J C S L xs) :=
  (bx_eq [34] 1299 179 3 29 _ _ _).symm.trans rfl
def mb14 (I : PI) (J : PJ) (C S : Nat) (L : Nat) (xs : Nat → Int32) : Mem := setR (mb13 I J C S L xs) 14 0 16 (ro 21 7)
theorem mb14R (I : PI) (J : PJ) (C S : Nat) (L : Nat) (xs : Nat → Int32) : mR (mb14 I J C S L xs) = up3 (mR (mb13 I J C S L xs)) 14 0 16 (ro 21 7) := rfl
set_option maxRecDepth 100000 in
theorem mbz1_34 (I : PI) (J : PJ) (C S : Nat) (L : Nat) (xs : Nat → Int32) : den 1299 179 34 [some (vr 14 0)] [vr 21 7, vr 14 0] (mb13 I J C S L xs) = den 1299 179 37 [some (vr 14 0)] [] (mb14 I J C S L xs) :=
  (bx_eq [37] 1299 179 1 34 _ _ _).symm.trans rfl
def mb15 (I : PI) (J : PJ) (C S : Nat) (L : Nat) (xs : Nat → Int32) : Mem := newM (mb14 I J C S L xs) 21 6
theorem mb15R (I : PI) (J : PJ) (C S : Nat) (L : Nat) (xs : Nat → Int32) : mR (mb15 I J C S L xs) = upA (mR (mb14 I J C S L xs)) 21 8 (fun _ => some none) := rfl
set_option maxRecDepth 100000 in
theorem mbz1_37 (I : PI) (J : PJ) (C S : Nat) (L : Nat) (xs : Nat → Int32) : den 1299 179 37 [some (vr 14 0)] [] (mb14 I J C S L xs) = den 1299 179 42 [some (vr 14 0)] [vr 21 8, vr 14 0] (mb15 I J C S L xs) :=
  (bx_eq [42] 1299 179 3 37 _ _ _).symm.trans rfl
def mb16 (I : PI) (J : PJ) (C S : Nat) (L : Nat) (xs : Nat → Int32) : Mem := setR (mb15 I J C S L xs) 14 0 17 (ro 21 8)
theorem mb16R (I : PI) (J : PJ) (C S : Nat) (L : Nat) (xs : Nat → Int32) : mR (mb16 I J C S L xs) = up3 (mR (mb15 I J C S L xs)) 14 0 17 (ro 21 8) := rfl
set_option maxRecDepth 100000 in
theorem mbz1_42 (I : PI) (J : PJ) (C S : Nat) (L : Nat) (xs : Nat → Int32) : den 1299 179 42 [some (vr 14 0)] [vr 21 8, vr 14 0] (mb15 I J C S L xs) = den 1299 179 45 [some (vr 14 0)] [] (mb16 I J C S L xs) :=
  (bx_eq [45] 1299 179 1 42 _ _ _).symm.trans rfl
def mb17 (I : PI) (J : PJ) (C S : Nat) (L : Nat) (xs : Nat → Int32) : Mem := newM (mb16 I J C S L xs) 21 6
theorem mb17R (I : PI) (J : PJ) (C S : Nat) (L : Nat) (xs : Nat → Int32) : mR (mb17 I J C S L xs) = upA (mR (mb16 I J C S L xs)) 21 9 (fun _ => some none) := rfl
set_option maxRecDepth 100000 in
theorem mbz1_45 (I : PI) (J : PJ) (C S : Nat) (L : Nat) (xs : Nat → Int32) : den 1299 179 45 [some (vr 14 0)] [] (mb16 I J C S L xs) = den 1299 179 50 [some (vr 14 0)] [vr 21 9, vr 14 0] (mb17 I J C S L xs) :=
  (bx_eq [50] 1299 179 3 45 _ _ _).symm.trans rfl
def mb18 (I : PI) (J : PJ) (C S : Nat) (L : Nat) (xs : Nat → Int32) : Mem := setR (mb17 I J C S L xs) 14 0 18 (ro 21 9)
theorem mb18R (I : PI) (J : PJ) (C S : Nat) (L : Nat) (xs : Nat → Int32) : mR (mb18 I J C S L xs) = up3 (mR (mb17 I J C S L xs)) 14 0 18 (ro 21 9) := rfl
set_option maxRecDepth 100000 in
theorem mbz1_50 (I : PI) (J : PJ) (C S : Nat) (L : Nat) (xs : Nat → Int32) : den 1299 179 50 [some (vr 14 0)] [vr 21 9, vr 14 0] (mb17 I J C S L xs) = den 1299 179 53 [some (vr 14 0)] [] (mb18 I J C S L xs) :=
  (bx_eq [53] 1299 179 1 50 _ _ _).symm.trans rfl
def mb19 (I : PI) (J : PJ) (C S : Nat) (L : Nat) (xs : Nat → Int32) : Mem := newM (mb18 I J C S L xs) 38 6
theorem mb19R (I : PI) (J : PJ) (C S : Nat) (L : Nat) (xs : Nat → Int32) : mR (mb19 I J C S L xs) = upA (mR (mb18 I J C S L xs)) 38 2 (fun _ => some none) := rfl
set_option maxRecDepth 100000 in
theorem mbz1_53 (I : PI) (J : PJ) (C S : Nat) (L : Nat) (xs : Nat → Int32) : den 1299 179 53 [some (vr 14 0)] [] (mb18 I J C S L xs) = den 1299 179 58 [some (vr 14 0)] [vr 38 2, vr 14 0] (mb19 I J C S L xs) :=
  (bx_eq [58] 1299 179 3 53 _ _ _).symm.trans rfl
def mb20 (I : PI) (J : PJ) (C S : Nat) (L : Nat) (xs : Nat → Int32) : Mem := setR (mb19 I J C S L xs) 14 0 19 (ro 38 2)
theorem mb20R (I : PI) (J : PJ) (C S : Nat) (L : Nat) (xs : Nat → Int32) : mR (mb20 I J C S L xs) = up3 (mR (mb19 I J C S L xs)) 14 0 19 (ro 38 2) := rfl
set_option maxRecDepth 100000 in
theorem mbz1_58 (I : PI) (J : PJ) (C S : Nat) (L : Nat) (xs : Nat → Int32) : den 1299 179 58 [some (vr 14 0)] [vr 38 2, vr 14 0] (mb19 I J C S L xs) = den 1299 179 61 [some (vr 14 0)] [] (mb20 I J C S L xs) :=
  (bx_eq [61] 1299 179 1 58 _ _ _).symm.trans rfl
def mb21 (I : PI) (J : PJ) (C S : Nat) (L : Nat) (xs : Nat → Int32) : Mem := setI (mb20 I J C S L xs) 14 0 25 (1)
theorem mb21R (I : PI) (J : PJ) (C S : Nat) (L : Nat) (xs : Nat → Int32) : mR (mb21 I J C S L xs) = mR (mb20 I J C S L xs) := rfl
set_option maxRecDepth 100000 in
theorem mbz1_61 (I : PI) (J : PJ) (C S : Nat) (L : Nat) (xs : Nat → Int32) : den 1299 179 61 [some (vr 14 0)] [] (mb20 I J C S L xs) = den 1299 179 66 [some (vr 14 0)] [] (mb21 I J C S L xs) :=
  (bx_eq [66] 1299 179 3 61 _ _ _).symm.trans rfl
def mb22 (I : PI) (J : PJ) (C S : Nat) (L : Nat) (xs : Nat → Int32) : Mem := setI (mb21 I J C S L xs) 14 0 26 (20)
theorem mb22R (I : PI) (J : PJ) (C S : Nat) (L : Nat) (xs : Nat → Int32) : mR (mb22 I J C S L xs) = mR (mb21 I J C S L xs) := rfl
set_option maxRecDepth 100000 in
theorem mbz1_66 (I : PI) (J : PJ) (C S : Nat) (L : Nat) (xs : Nat → Int32) : den 1299 179 66 [some (vr 14 0)] [] (mb21 I J C S L xs) = den 1299 179 72 [some (vr 14 0)] [] (mb22 I J C S L xs) :=
  (bx_eq [72] 1299 179 3 66 _ _ _).symm.trans rfl
def mb23 (I : PI) (J : PJ) (C S : Nat) (L : Nat) (xs : Nat → Int32) : Mem := setI (mb22 I J C S L xs) 14 0 28 (-1)
theorem mb23R (I : PI) (J : PJ) (C S : Nat) (L : Nat) (xs : Nat → Int32) : mR (mb23 I J C S L xs) = mR (mb22 I J C S L xs) := rfl
set_option maxRecDepth 100000 in
theorem mbz1_72 (I : PI) (J : PJ) (C S : Nat) (L : Nat) (xs : Nat → Int32) : den 1299 179 72 [some (vr 14 0)] [] (mb22 I J C S L xs) = den 1299 179 77 [some (vr 14 0)] [] (mb23 I J C S L xs) :=
  (bx_eq [77] 1299 179 3 72 _ _ _).symm.trans rfl
def mb24 (I : PI) (J : PJ) (C S : Nat) (L : Nat) (xs : Nat → Int32) : Mem := setI (mb23 I J C S L xs) 14 0 29 (-1)
theorem mb24R (I : PI) (J : PJ) (C S : Nat) (L : Nat) (xs : Nat → Int32) : mR (mb24 I J C S L xs) = mR (mb23 I J C S L xs) := rfl
set_option maxRecDepth 100000 in
theorem mbz1_77 (I : PI) (J : PJ) (C S : Nat) (L : Nat) (xs : Nat → Int32) : den 1299 179 77 [some (vr 14 0)] [] (mb23 I J C S L xs) = den 1299 179 82 [some (vr 14 0)] [] (mb24 I J C S L xs) :=
  (bx_eq [82] 1299 179 3 77 _ _ _).symm.trans rfl
def mb25 (I : PI) (J : PJ) (C S : Nat) (L : Nat) (xs : Nat → Int32) : Mem := newM (mb24 I J C S L xs) 28 64
theorem mb25R (I : PI) (J : PJ) (C S : Nat) (L : Nat) (xs : Nat → Int32) : mR (mb25 I J C S L xs) = upA (mR (mb24 I J C S L xs)) 28 4 (fun _ => some none) := rfl
set_option maxRecDepth 100000 in
theorem mbz1_82 (I : PI) (J : PJ) (C S : Nat) (L : Nat) (xs : Nat → Int32) : den 1299 179 82 [some (vr 14 0)] [] (mb24 I J C S L xs) = den 1299 179 87 [some (vr 14 0)] [vr 28 4, vr 14 0] (mb25 I J C S L xs) :=
  (bx_eq [87] 1299 179 3 82 _ _ _).symm.trans rfl
def mb26 (I : PI) (J : PJ) (C S : Nat) (L : Nat) (xs : Nat → Int32) : Mem := setR (mb25 I J C S L xs) 14 0 30 (ro 28 4)
theorem mb26R (I : PI) (J : PJ) (C S : Nat) (L : Nat) (xs : Nat → Int32) : mR (mb26 I J C S L xs) = up3 (mR (mb25 I J C S L xs)) 14 0 30 (ro 28 4) := rfl
set_option maxRecDepth 100000 in
theorem mbz1_87 (I : PI) (J : PJ) (C S : Nat) (L : Nat) (xs : Nat → Int32) : den 1299 179 87 [some (vr 14 0)] [vr 28 4, vr 14 0] (mb25 I J C S L xs) = den 1299 179 90 [some (vr 14 0)] [] (mb26 I J C S L xs) :=
  (bx_eq [90] 1299 179 1 87 _ _ _).symm.trans rfl
def mb27 (I : PI) (J : PJ) (C S : Nat) (L : Nat) (xs : Nat → Int32) : Mem := newM (mb26 I J C S L xs) 28 64
theorem mb27R (I : PI) (J : PJ) (C S : Nat) (L : Nat) (xs : Nat → Int32) : mR (mb27 I J C S L xs) = upA (mR (mb26 I J C S L xs)) 28 5 (fun _ => some none) := rfl
set_option maxRecDepth 100000 in
theorem mbz1_90 (I : PI) (J : PJ) (C S : Nat) (L : Nat) (xs : Nat → Int32) : den 1299 179 90 [some (vr 14 0)] [] (mb26 I J C S L xs) = den 1299 179 95 [some (vr 14 0)] [vr 28 5, vr 14 0] (mb27 I J C S L xs) :=
  (bx_eq [95] 1299 179 3 90 _ _ _).symm.trans rfl
def mb28 (I : PI) (J : PJ) (C S : Nat) (L : Nat) (xs : Nat → Int32) : Mem := setR (mb27 I J C S L xs) 14 0 31 (ro 28 5)
theorem mb28R (I : PI) (J : PJ) (C S : Nat) (L : Nat) (xs : Nat → Int32) : mR (mb28 I J C S L xs) = up3 (mR (mb27 I J C S L xs)) 14 0 31 (ro 28 5) := rfl
set_option maxRecDepth 100000 in
theorem mbz1_95 (I : PI) (J : PJ) (C S : Nat) (L : Nat) (xs : Nat → Int32) : den 1299 179 95 [some (vr 14 0)] [vr 28 5, vr 14 0] (mb27 I J C S L xs) = den 1299 179 98 [some (vr 14 0)] [] (mb28 I J C S L xs) :=
  (bx_eq [98] 1299 179 1 95 _ _ _).symm.trans rfl
def mb29 (I : PI) (J : PJ) (C S : Nat) (L : Nat) (xs : Nat → Int32) : Mem := newM (mb28 I J C S L xs) 28 64
theorem mb29R (I : PI) (J : PJ) (C S : Nat) (L : Nat) (xs : Nat → Int32) : mR (mb29 I J C S L xs) = upA (mR (mb28 I J C S L xs)) 28 6 (fun _ => some none) := rfl
set_option maxRecDepth 100000 in
theorem mbz1_98 (I : PI) (J : PJ) (C S : Nat) (L : Nat) (xs : Nat → Int32) : den 1299 179 98 [some (vr 14 0)] [] (mb28 I J C S L xs) = den 1299 179 103 [some (vr 14 0)] [vr 28 6, vr 14 0] (mb29 I J C S L xs) :=
  (bx_eq [103] 1299 179 3 98 _ _ _).symm.trans rfl
def mb30 (I : PI) (J : PJ) (C S : Nat) (L : Nat) (xs : Nat → Int32) : Mem := setR (mb29 I J C S L xs) 14 0 32 (ro 28 6)
theorem mb30R (I : PI) (J : PJ) (C S : Nat) (L : Nat) (xs : Nat → Int32) : mR (mb30 I J C S L xs) = up3 (mR (mb29 I J C S L xs)) 14 0 32 (ro 28 6) := rfl
set_option maxRecDepth 100000 in
theorem mbz1_103 (I : PI) (J : PJ) (C S : Nat) (L : Nat) (xs : Nat → Int32) : den 1299 179 103 [some (vr 14 0)] [vr 28 6, vr 14 0] (mb29 I J C S L xs) = den 1299 179 106 [some (vr 14 0)] [] (mb30 I J C S L xs) :=
  (bx_eq [106] 1299 179 1 103 _ _ _).symm.trans rfl
def mb31 (I : PI) (J : PJ) (C S : Nat) (L : Nat) (xs : Nat → Int32) : Mem := newM (mb30 I J C S L xs) 28 64
theorem mb31R (I : PI) (J : PJ) (C S : Nat) (L : Nat) (xs : Nat → Int32) : mR (mb31 I J C S L xs) = upA (mR (mb30 I J C S L xs)) 28 7 (fun _ => some none) := rfl
set_option maxRecDepth 100000 in
theorem mbz1_106 (I : PI) (J : PJ) (C S : Nat) (L : Nat) (xs : Nat → Int32) : den 1299 179 106 [some (vr 14 0)] [] (mb30 I J C S L xs) = den 1299 179 111 [some (vr 14 0)] [vr 28 7, vr 14 0] (mb31 I J C S L xs) :=
  (bx_eq [111] 1299 179 3 106 _ _ _).symm.trans rfl
def mb32 (I : PI) (J : PJ) (C S : Nat) (L : Nat) (xs : Nat → Int32) : Mem := setR (mb31 I J C S L xs) 14 0 33 (ro 28 7)
theorem mb32R (I : PI) (J : PJ) (C S : Nat) (L : Nat) (xs : Nat → Int32) : mR (mb32 I J C S L xs) = up3 (mR (mb31 I J C S L xs)) 14 0 33 (ro 28 7) := rfl
set_option maxRecDepth 100000 in
theorem mbz1_111 (I : PI) (J : PJ) (C S : Nat) (L : Nat) (xs : Nat → Int32) : den 1299 179 111 [some (vr 14 0)] [vr 28 7, vr 14 0] (mb31 I J C S L xs) = den 1299 179 114 [some (vr 14 0)] [] (mb32 I J C S L xs) :=
  (bx_eq [114] 1299 179 1 111 _ _ _).symm.trans rfl
def mb33 (I : PI) (J : PJ) (C S : Nat) (L : Nat) (xs : Nat → Int32) : Mem := newM (mb32 I J C S L xs) 21 6
theorem mb33R (I : PI) (J : PJ) (C S : Nat) (L : Nat) (xs : Nat → Int32) : mR (mb33 I J C S L xs) = upA (mR (mb32 I J C S L xs)) 21 10 (fun _ => some none) := rfl
set_option maxRecDepth 100000 in
theorem mbz1_114 (I : PI) (J : PJ) (C S : Nat) (L : Nat) (xs : Nat → Int32) : den 1299 179 114 [some (vr 14 0)] [] (mb32 I J C S L xs) = den 1299 179 119 [some (vr 14 0)] [vr 21 10, vr 14 0] (mb33 I J C S L xs) :=
  (bx_eq [119] 1299 179 3 114 _ _ _).symm.trans rfl
def mb34 (I : PI) (J : PJ) (C S : Nat) (L : Nat) (xs : Nat → Int32) : Mem := setR (mb33 I J C S L xs) 14 0 34 (ro 21 10)
theorem mb34R (I : PI) (J : PJ) (C S : Nat) (L : Nat) (xs : Nat → Int32) : mR (mb34 I J C S L xs) = up3 (mR (mb33 I J C S L xs)) 14 0 34 (ro 21 10) := rfl
set_option maxRecDepth 100000 in
theorem mbz1_119 (I : PI) (J : PJ) (C S : Nat) (L : Nat) (xs : Nat → Int32) : den 1299 179 119 [some (vr 14 0)] [vr 21 10, vr 14 0] (mb33 I J C S L xs) = den 1299 179 122 [some (vr 14 0)] [] (mb34 I J C S L xs) :=
  (bx_eq [122] 1299 179 1 119 _ _ _).symm.trans rfl
def mb35 (I : PI) (J : PJ) (C S : Nat) (L : Nat) (xs : Nat → Int32) : Mem := newM (mb34 I J C S L xs) 21 6
theorem mb35R (I : PI) (J : PJ) (C S : Nat) (L : Nat) (xs : Nat → Int32) : mR (mb35 I J C S L xs) = upA (mR (mb34 I J C S L xs)) 21 11 (fun _ => some none) := rfl
set_option maxRecDepth 100000 in
theorem mbz1_122 (I : PI) (J : PJ) (C S : Nat) (L : Nat) (xs : Nat → Int32) : den 1299 179 122 [some (vr 14 0)] [] (mb34 I J C S L xs) = den 1299 179 127 [some (vr 14 0)] [vr 21 11, vr 14 0] (mb35 I J C S L xs) :=
  (bx_eq [127] 1299 179 3 122 _ _ _).symm.trans rfl
def mb36 (I : PI) (J : PJ) (C S : Nat) (L : Nat) (xs : Nat → Int32) : Mem := setR (mb35 I J C S L xs) 14 0 35 (ro 21 11)
theorem mb36R (I : PI) (J : PJ) (C S : Nat) (L : Nat) (xs : Nat → Int32) : mR (mb36 I J C S L xs) = up3 (mR (mb35 I J C S L xs)) 14 0 35 (ro 21 11) := rfl
set_option maxRecDepth 100000 in
theorem mbz1_127 (I : PI) (J : PJ) (C S : Nat) (L : Nat) (xs : Nat → Int32) : den 1299 179 127 [some (vr 14 0)] [vr 21 11, vr 14 0] (mb35 I J C S L xs) = den 1299 179 130 [some (vr 14 0)] [] (mb36 I J C S L xs) :=
  (bx_eq [130] 1299 179 1 127 _ _ _).symm.trans rfl
def mb37 (I : PI) (J : PJ) (C S : Nat) (L : Nat) (xs : Nat → Int32) : Mem := newM (mb36 I J C S L xs) 20 4
theorem mb37R (I : PI) (J : PJ) (C S : Nat) (L : Nat) (xs : Nat → Int32) : mR (mb37 I J C S L xs) = upA (mR (mb36 I J C S L xs)) 20 1 (fun _ => some none) := rfl
set_option maxRecDepth 100000 in
theorem mbz1_130 (I : PI) (J : PJ) (C S : Nat) (L : Nat) (xs : Nat → Int32) : den 1299 179 130 [some (vr 14 0)] [] (mb36 I J C S L xs) = den 1299 179 134 [some (vr 14 0)] [vr 20 1, vr 14 0] (mb37 I J C S L xs) :=
  (bx_eq [134] 1299 179 3 130 _ _ _).symm.trans rfl
def mb38 (I : PI) (J : PJ) (C S : Nat) (L : Nat) (xs : Nat → Int32) : Mem := setR (mb37 I J C S L xs) 14 0 36 (ro 20 1)
theorem mb38R (I : PI) (J : PJ) (C S : Nat) (L : Nat) (xs : Nat → Int32) : mR (mb38 I J C S L xs) = up3 (mR (mb37 I J C S L xs)) 14 0 36 (ro 20 1) := rfl
set_option maxRecDepth 100000 in
theorem mbz1_134 (I : PI) (J : PJ) (C S : Nat) (L : Nat) (xs : Nat → Int32) : den 1299 179 134 [some (vr 14 0)] [vr 20 1, vr 14 0] (mb37 I J C S L xs) = den 1299 179 137 [some (vr 14 0)] [] (mb38 I J C S L xs) :=
  (bx_eq [137] 1299 179 1 134 _ _ _).symm.trans rfl
def mb39 (I : PI) (J : PJ) (C S : Nat) (L : Nat) (xs : Nat → Int32) : Mem := newM (mb38 I J C S L xs) 39 64
theorem mb39R (I : PI) (J : PJ) (C S : Nat) (L : Nat) (xs : Nat → Int32) : mR (mb39 I J C S L xs) = upA (mR (mb38 I J C S L xs)) 39 0 (fun _ => some none) := rfl
set_option maxRecDepth 100000 in
theorem mbz1_137 (I : PI) (J : PJ) (C S : Nat) (L : Nat) (xs : Nat → Int32) : den 1299 179 137 [some (vr 14 0)] [] (mb38 I J C S L xs) = den 1299 179 142 [some (vr 14 0)] [vr 39 0, vr 14 0] (mb39 I J C S L xs) :=
  (bx_eq [142] 1299 179 3 137 _ _ _).symm.trans rfl
def mb40 (I : PI) (J : PJ) (C S : Nat) (L : Nat) (xs : Nat → Int32) : Mem := setR (mb39 I J C S L xs) 14 0 37 (ro 39 0)
theorem mb40R (I : PI) (J : PJ) (C S : Nat) (L : Nat) (xs : Nat → Int32) : mR (mb40 I J C S L xs) = up3 (mR (mb39 I J C S L xs)) 14 0 37 (ro 39 0) := rfl
set_option maxRecDepth 100000 in
theorem mbz1_142 (I : PI) (J : PJ) (C S : Nat) (L : Nat) (xs : Nat → Int32) : den 1299 179 142 [some (vr 14 0)] [vr 39 0, vr 14 0] (mb39 I J C S L xs) = den 1299 179 145 [some (vr 14 0)] [] (mb40 I J C S L xs) :=
  (bx_eq [145] 1299 179 1 142 _ _ _).symm.trans rfl
def mb41 (I : PI) (J : PJ) (C S : Nat) (L : Nat) (xs : Nat → Int32) : Mem := newM (mb40 I J C S L xs) 27 48
theorem mb41R (I : PI) (J : PJ) (C S : Nat) (L : Nat) (xs : Nat → Int32) : mR (mb41 I J C S L xs) = upA (mR (mb40 I J C S L xs)) 27 0 (fun _ => some none) := rfl
set_option maxRecDepth 100000 in
theorem mbz1_145 (I : PI) (J : PJ) (C S : Nat) (L : Nat) (xs : Nat → Int32) : den 1299 179 145 [some (vr 14 0)] [] (mb40 I J C S L xs) = den 1299 179 150 [some (vr 14 0)] [vr 27 0, vr 14 0] (mb41 I J C S L xs) :=
  (bx_eq [150] 1299 179 3 145 _ _ _).symm.trans rfl
def mb42 (I : PI) (J : PJ) (C S : Nat) (L : Nat) (xs : Nat → Int32) : Mem := setR (mb41 I J C S L xs) 14 0 38 (ro 27 0)
theorem mb42R (I : PI) (J : PJ) (C S : Nat) (L : Nat) (xs : Nat → Int32) : mR (mb42 I J C S L xs) = up3 (mR (mb41 I J C S L xs)) 14 0 38 (ro 27 0) := rfl
set_option maxRecDepth 100000 in
theorem mbz1_150 (I : PI) (J : PJ) (C S : Nat) (L : Nat) (xs : Nat → Int32) : den 1299 179 150 [some (vr 14 0)] [vr 27 0, vr 14 0] (mb41 I J C S L xs) = den 1299 179 153 [some (vr 14 0)] [] (mb42 I J C S L xs) :=
  (bx_eq [153] 1299 179 1 150 _ _ _).symm.trans rfl
def mb43 (I : PI) (J : PJ) (C S : Nat) (L : Nat) (xs : Nat → Int32) : Mem := newM (mb42 I J C S L xs) 34 384
theorem mb43R (I : PI) (J : PJ) (C S : Nat) (L : Nat) (xs : Nat → Int32) : mR (mb43 I J C S L xs) = upA (mR (mb42 I J C S L xs)) 34 1 (fun _ => some none) := rfl
set_option maxRecDepth 100000 in
theorem mbz1_153 (I : PI) (J : PJ) (C S : Nat) (L : Nat) (xs : Nat → Int32) : den 1299 179 153 [some (vr 14 0)] [] (mb42 I J C S L xs) = den 1299 179 159 [some (vr 14 0)] [vr 34 1, vr 14 0] (mb43 I J C S L xs) :=
  (bx_eq [159] 1299 179 3 153 _ _ _).symm.trans rfl
def mb44 (I : PI) (J : PJ) (C S : Nat) (L : Nat) (xs : Nat → Int32) : Mem := setR (mb43 I J C S L xs) 14 0 39 (ro 34 1)
theorem mb44R (I : PI) (J : PJ) (C S : Nat) (L : Nat) (xs : Nat → Int32) : mR (mb44 I J C S L xs) = up3 (mR (mb43 I J C S L xs)) 14 0 39 (ro 34 1) := rfl
set_option maxRecDepth 100000 in
theorem mbz1_159 (I : PI) (J : PJ) (C S : Nat) (L : Nat) (xs : Nat → Int32) : den 1299 179 159 [some (vr 14 0)] [vr 34 1, vr 14 0] (mb43 I J C S L xs) = den 1299 179 162 [some (vr 14 0)] [] (mb44 I J C S L xs) :=
  (bx_eq [162] 1299 179 1 159 _ _ _).symm.trans rfl
def mb45 (I : PI) (J : PJ) (C S : Nat) (L : Nat) (xs : Nat → Int32) : Mem := newM (mb44 I J C S L xs) 28 64
theorem mb45R (I : PI) (J : PJ) (C S : Nat) (L : Nat) (xs : Nat → Int32) : mR (mb45 I J C S L xs) = upA (mR (mb44 I J C S L xs)) 28 8 (fun _ => some none) := rfl
set_option maxRecDepth 100000 in
theorem mbz1_162 (I : PI) (J : PJ) (C S : Nat) (L : Nat) (xs : Nat → Int32) : den 1299 179 162 [some (vr 14 0)] [] (mb44 I J C S L xs) = den 1299 179 167 [some (vr 14 0)] [vr 28 8, vr 14 0] (mb45 I J C S L xs) :=
  (bx_eq [167] 1299 179 3 162 _ _ _).symm.trans rfl
def mb46 (I : PI) (J : PJ) (C S : Nat) (L : Nat) (xs : Nat → Int32) : Mem := setR (mb45 I J C S L xs) 14 0 40 (ro 28 8)
theorem mb46R (I : PI) (J : PJ) (C S : Nat) (L : Nat) (xs : Nat → Int32) : mR (mb46 I J C S L xs) = up3 (mR (mb45 I J C S L xs)) 14 0 40 (ro 28 8) := rfl
set_option maxRecDepth 100000 in
theorem mbz1_167 (I : PI) (J : PJ) (C S : Nat) (L : Nat) (xs : Nat → Int32) : den 1299 179 167 [some (vr 14 0)] [vr 28 8, vr 14 0] (mb45 I J C S L xs) = den 1299 179 170 [some (vr 14 0)] [] (mb46 I J C S L xs) :=
  (bx_eq [170] 1299 179 1 167 _ _ _).symm.trans rfl
def mb47 (I : PI) (J : PJ) (C S : Nat) (L : Nat) (xs : Nat → Int32) : Mem := newM (mb46 I J C S L xs) 39 64
theorem mb47R (I : PI) (J : PJ) (C S : Nat) (L : Nat) (xs : Nat → Int32) : mR (mb47 I J C S L xs) = upA (mR (mb46 I J C S L xs)) 39 1 (fun _ => some none) := rfl
set_option maxRecDepth 100000 in
theorem mbz1_170 (I : PI) (J : PJ) (C S : Nat) (L : Nat) (xs : Nat → Int32) : den 1299 179 170 [some (vr 14 0)] [] (mb46 I J C S L xs) = den 1299 179 175 [some (vr 14 0)] [vr 39 1, vr 14 0] (mb47 I J C S L xs) :=
  (bx_eq [175] 1299 179 3 170 _ _ _).symm.trans rfl
def mb48 (I : PI) (J : PJ) (C S : Nat) (L : Nat) (xs : Nat → Int32) : Mem := setR (mb47 I J C S L xs) 14 0 41 (ro 39 1)
theorem mb48R (I : PI) (J : PJ) (C S : Nat) (L : Nat) (xs : Nat → Int32) : mR (mb48 I J C S L xs) = up3 (mR (mb47 I J C S L xs)) 14 0 41 (ro 39 1) := rfl
set_option maxRecDepth 100000 in
theorem mbz1_175 (I : PI) (J : PJ) (C S : Nat) (L : Nat) (xs : Nat → Int32) : den 1299 179 175 [some (vr 14 0)] [vr 39 1, vr 14 0] (mb47 I J C S L xs) = den 1299 179 178 [some (vr 14 0)] [] (mb48 I J C S L xs) :=
  (bx_eq [178] 1299 179 1 175 _ _ _).symm.trans rfl
def mb49 (I : PI) (J : PJ) (C S : Nat) (L : Nat) (xs : Nat → Int32) : Mem := newM (mb48 I J C S L xs) 28 64
theorem mb49R (I : PI) (J : PJ) (C S : Nat) (L : Nat) (xs : Nat → Int32) : mR (mb49 I J C S L xs) = upA (mR (mb48 I J C S L xs)) 28 9 (fun _ => some none) := rfl
set_option maxRecDepth 100000 in
theorem mbz1_178 (I : PI) (J : PJ) (C S : Nat) (L : Nat) (xs : Nat → Int32) : den 1299 179 178 [some (vr 14 0)] [] (mb48 I J C S L xs) = den 1299 179 183 [some (vr 14 0)] [vr 28 9, vr 14 0] (mb49 I J C S L xs) :=
  (bx_eq [183] 1299 179 3 178 _ _ _).symm.trans rfl
def mb50 (I : PI) (J : PJ) (C S : Nat) (L : Nat) (xs : Nat → Int32) : Mem := setR (mb49 I J C S L xs) 14 0 48 (ro 28 9)
theorem mb50R (I : PI) (J : PJ) (C S : Nat) (L : Nat) (xs : Nat → Int32) : mR (mb50 I J C S L xs) = up3 (mR (mb49 I J C S L xs)) 14 0 48 (ro 28 9) := rfl
set_option maxRecDepth 100000 in
theorem mbz1_183 (I : PI) (J : PJ) (C S : Nat) (L : Nat) (xs : Nat → Int32) : den 1299 179 183 [some (vr 14 0)] [vr 28 9, vr 14 0] (mb49 I J C S L xs) = den 1299 179 186 [some (vr 14 0)] [] (mb50 I J C S L xs) :=
  (bx_eq [186] 1299 179 1 183 _ _ _).symm.trans rfl
def mb51 (I : PI) (J : PJ) (C S : Nat) (L : Nat) (xs : Nat → Int32) : Mem := newM (mb50 I J C S L xs) 28 64
theorem mb51R (I : PI) (J : PJ) (C S : Nat) (L : Nat) (xs : Nat → Int32) : mR (mb51 I J C S L xs) = upA (mR (mb50 I J C S L xs)) 28 10 (fun _ => some none) := rfl
set_option maxRecDepth 100000 in
theorem mbz1_186 (I : PI) (J : PJ) (C S : Nat) (L : Nat) (xs : Nat → Int32) : den 1299 179 186 [some (vr 14 0)] [] (mb50 I J C S L xs) = den 1299 179 191 [some (vr 14 0)] [vr 28 10, vr 14 0] (mb51 I J C S L xs) :=
  (bx_eq [191] 1299 179 3 186 _ _ _).symm.trans rfl
def mb52 (I : PI) (J : PJ) (C S : Nat) (L : Nat) (xs : Nat → Int32) : Mem := setR (mb51 I J C S L xs) 14 0 49 (ro 28 10)
theorem mb52R (I : PI) (J : PJ) (C S : Nat) (L : Nat) (xs : Nat → Int32) : mR (mb52 I J C S L xs) = up3 (mR (mb51 I J C S L xs)) 14 0 49 (ro 28 10) := rfl
set_option maxRecDepth 100000 in
theorem mbz1_191 (I : PI) (J : PJ) (C S : Nat) (L : Nat) (xs : Nat → Int32) : den 1299 179 191 [some (vr 14 0)] [vr 28 10, vr 14 0] (mb51 I J C S L xs) = den 1299 179 194 [some (vr 14 0)] [] (mb52 I J C S L xs) :=
  (bx_eq [194] 1299 179 1 191 _ _ _).symm.trans rfl
def mb53 (I : PI) (J : PJ) (C S : Nat) (L : Nat) (xs : Nat → Int32) : Mem := newM (mb52 I J C S L xs) 32 256
theorem mb53R (I : PI) (J : PJ) (C S : Nat) (L : Nat) (xs : Nat → Int32) : mR (mb53 I J C S L xs) = upA (mR (mb52 I J C S L xs)) 32 0 (fun _ => some none) := rfl
set_option maxRecDepth 100000 in
theorem mbz1_194 (I : PI) (J : PJ) (C S : Nat) (L : Nat) (xs : Nat → Int32) : den 1299 179 194 [some (vr 14 0)] [] (mb52 I J C S L xs) = den 1299 179 200 [some (vr 14 0)] [vr 32 0, vr 14 0] (mb53 I J C S L xs) :=
  (bx_eq [200] 1299 179 3 194 _ _ _).symm.trans rfl
def mb54 (I : PI) (J : PJ) (C S : Nat) (L : Nat) (xs : Nat → Int32) : Mem := setR (mb53 I J C S L xs) 14 0 51 (ro 32 0)
theorem mb54R (I : PI) (J : PJ) (C S : Nat) (L : Nat) (xs : Nat → Int32) : mR (mb54 I J C S L xs) = up3 (mR (mb53 I J C S L xs)) 14 0 51 (ro 32 0) := rfl
set_option maxRecDepth 100000 in
theorem mbz1_200 (I : PI) (J : PJ) (C S : Nat) (L : Nat) (xs : Nat → Int32) : den 1299 179 200 [some (vr 14 0)] [vr 32 0, vr 14 0] (mb53 I J C S L xs) = den 1299 179 203 [some (vr 14 0)] [] (mb54 I J C S L xs) :=
  (bx_eq [203] 1299 179 1 200 _ _ _).symm.trans rfl
def mb55 (I : PI) (J : PJ) (C S : Nat) (L : Nat) (xs : Nat → Int32) : Mem := newM (mb54 I J C S L xs) 28 64
theorem mb55R (I : PI) (J : PJ) (C S : Nat) (L : Nat) (xs : Nat → Int32) : mR (mb55 I J C S L xs) = upA (mR (mb54 I J C S L xs)) 28 11 (fun _ => some none) := rfl
set_option maxRecDepth 100000 in
theorem mbz1_203 (I : PI) (J : PJ) (C S : Nat) (L : Nat) (xs : Nat → Int32) : den 1299 179 203 [some (vr 14 0)] [] (mb54 I J C S L xs) = den 1299 179 208 [some (vr 14 0)] [vr 28 11, vr 14 0] (mb55 I J C S L xs) :=
  (bx_eq [208] 1299 179 3 203 _ _ _).symm.trans rfl
def mb56 (I : PI) (J : PJ) (C S : Nat) (L : Nat) (xs : Nat → Int32) : Mem := setR (mb55 I J C S L xs) 14 0 52 (ro 28 11)
theorem mb56R (I : PI) (J : PJ) (C S : Nat) (L : Nat) (xs : Nat → Int32) : mR (mb56 I J C S L xs) = up3 (mR (mb55 I J C S L xs)) 14 0 52 (ro 28 11) := rfl
set_option maxRecDepth 100000 in
theorem mbz1_208 (I : PI) (J : PJ) (C S : Nat) (L : Nat) (xs : Nat → Int32) : den 1299 179 208 [some (vr 14 0)] [vr 28 11, vr 14 0] (mb55 I J C S L xs) = den 1299 179 211 [some (vr 14 0)] [] (mb56 I J C S L xs) :=
  (bx_eq [211] 1299 179 1 208 _ _ _).symm.trans rfl
def mb57 (I : PI) (J : PJ) (C S : Nat) (L : Nat) (xs : Nat → Int32) : Mem := newM (mb56 I J C S L xs) 28 64
theorem mb57R (I : PI) (J : PJ) (C S : Nat) (L : Nat) (xs : Nat → Int32) : mR (mb57 I J C S L xs) = upA (mR (mb56 I J C S L xs)) 28 12 (fun _ => some none) := rfl
set_option maxRecDepth 100000 in
theorem mbz1_211 (I : PI) (J : PJ) (C S : Nat) (L : Nat) (xs : Nat → Int32) : den 1299 179 211 [some (vr 14 0)] [] (mb56 I J C S L xs) = den 1299 179 216 [some (vr 14 0)] [vr 28 12, vr 14 0] (mb57 I J C S L xs) :=
  (bx_eq [216] 1299 179 3 211 _ _ _).symm.trans rfl
def mb58 (I : PI) (J : PJ) (C S : Nat) (L : Nat) (xs : Nat → Int32) : Mem := setR (mb57 I J C S L xs) 14 0 53 (ro 28 12)
theorem mb58R (I : PI) (J : PJ) (C S : Nat) (L : Nat) (xs : Nat → Int32) : mR (mb58 I J C S L xs) = up3 (mR (mb57 I J C S L xs)) 14 0 53 (ro 28 12) := rfl
set_option maxRecDepth 100000 in
theorem mbz1_216 (I : PI) (J : PJ) (C S : Nat) (L : Nat) (xs : Nat → Int32) : den 1299 179 216 [some (vr 14 0)] [vr 28 12, vr 14 0] (mb57 I J C S L xs) = den 1299 179 219 [some (vr 14 0)] [] (mb58 I J C S L xs) :=
  (bx_eq [219] 1299 179 1 216 _ _ _).symm.trans rfl
def mb59 (I : PI) (J : PJ) (C S : Nat) (L : Nat) (xs : Nat → Int32) : Mem := newM (mb58 I J C S L xs) 36 1296
theorem mb59R (I : PI) (J : PJ) (C S : Nat) (L : Nat) (xs : Nat → Int32) : mR (mb59 I J C S L xs) = upA (mR (mb58 I J C S L xs)) 36 0 (fun _ => some none) := rfl
set_option maxRecDepth 100000 in
theorem mbz1_219 (I : PI) (J : PJ) (C S : Nat) (L : Nat) (xs : Nat → Int32) : den 1299 179 219 [some (vr 14 0)] [] (mb58 I J C S L xs) = den 1299 179 225 [some (vr 14 0)] [vr 36 0, vr 14 0] (mb59 I J C S L xs) :=
  (bx_eq [225] 1299 179 3 219 _ _ _).symm.trans rfl
def mb60 (I : PI) (J : PJ) (C S : Nat) (L : Nat) (xs : Nat → Int32) : Mem := setR (mb59 I J C S L xs) 14 0 54 (ro 36 0)
theorem mb60R (I : PI) (J : PJ) (C S : Nat) (L : Nat) (xs : Nat → Int32) : mR (mb60 I J C S L xs) = up3 (mR (mb59 I J C S L xs)) 14 0 54 (ro 36 0) := rfl
set_option maxRecDepth 100000 in
theorem mbz1_225 (I : PI) (J : PJ) (C S : Nat) (L : Nat) (xs : Nat → Int32) : den 1299 179 225 [some (vr 14 0)] [vr 36 0, vr 14 0] (mb59 I J C S L xs) = den 1299 179 228 [some (vr 14 0)] [] (mb60 I J C S L xs) :=
  (bx_eq [228] 1299 179 1 225 _ _ _).symm.trans rfl
set_option maxRecDepth 100000 in
theorem mbz1_228 (I : PI) (J : PJ) (C S : Nat) (L : Nat) (xs : Nat → Int32) : den 1299 179 228 [some (vr 14 0)] [] (mb60 I J C S L xs) = some (.inl none, (mb60 I J C S L xs)) :=
  (bx_eq [] 1299 179 1 228 _ _ _).symm.trans rfl
theorem mbz1 (I : PI) (J : PJ) (C S : Nat) (L : Nat) (xs : Nat → Int32) : cal 1299 179 [vr 14 0] (mb0 I J C S L xs) = some (.inl none, (mb60 I J C S L xs)) := by
  show den 1299 179 0 [some (vr 14 0)] [] (mb0 I J C S L xs) = _
  rw [mbz1_0]
  rw [mbz1_9]
  rw [mbz1_13]
  rw [mbz2]
  show den 1299 179 17 [some (vr 14 0)] [vr 13 0, vr 14 0] (mb9 I J C S L xs) = _
  rw [mbz1_17]
  rw [mbz1_20]
  rw [mbz1_26]
  rw [mbz1_29]
  rw [mbz1_34]
  rw [mbz1_37]
  rw [mbz1_42]
  rw [mbz1_45]
  rw [mbz1_50]
  rw [mbz1_53]
  rw [mbz1_58]
  rw [mbz1_61]
  rw [mbz1_66]
  rw [mbz1_72]
  rw [mbz1_77]
  rw [mbz1_82]
  rw [mbz1_87]
  rw [mbz1_90]
  rw [mbz1_95]
  rw [mbz1_98]
  rw [mbz1_103]
  rw [mbz1_106]
  rw [mbz1_111]
  rw [mbz1_114]
  rw [mbz1_119]
  rw [mbz1_122]
  rw [mbz1_127]
  rw [mbz1_130]
  rw [mbz1_134]
  rw [mbz1_137]
  rw [mbz1_142]
  rw [mbz1_145]
  rw [mbz1_150]
  rw [mbz1_153]
  rw [mbz1_159]
  rw [mbz1_162]
  rw [mbz1_167]
  rw [mbz1_170]
  rw [mbz1_175]
  rw [mbz1_178]
  rw [mbz1_183]
  rw [mbz1_186]
  rw [mbz1_191]
  rw [mbz1_194]
  rw [mbz1_200]
  rw [mbz1_203]
  rw [mbz1_208]
  rw [mbz1_211]
  rw [mbz1_216]
  rw [mbz1_219]
  rw [mbz1_225]
  rw [mbz1_228]
set_option maxRecDepth 100000 in
theorem mbR (I : PI) (J : PJ) (C S : Nat) (L : Nat) (xs : Nat → Int32) : mR (mb60 I J C S L xs) = apR opsB (RL 1 0 rz rz) := by
  rw [mb60R, mb59R, mb58R, mb57R, mb56R, mb55R, mb54R, mb53R, mb52R, mb51R, mb50R, mb49R, mb48R, mb47R, mb46R, mb45R, mb44R, mb43R, mb42R, mb41R, mb40R, mb39R, mb38R, mb37R, mb36R, mb35R, mb34R, mb33R, mb32R, mb31R, mb30R, mb29R, mb28R, mb27R, mb26R, mb25R, mb24R, mb23R, mb22R, mb21R, mb20R, mb19R, mb18R, mb17R, mb16R, mb15R, mb14R, mb13R, mb12R, mb11R, mb10R, mb9R, mb8R, mb7R, mb6R, mb5R, mb4R, mb3R, mb2R, mb1R, mb0R]
  rfl
