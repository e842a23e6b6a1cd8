/-! The book: what the class's call does -/
theorem up3_id {α : Type} (f : Nat → Nat → Nat → α) (k j i : Nat) : up3 f k j i (f k j i) = f := by
  funext a b c
  unfold up3
  by_cases h1 : a = k
  · by_cases h2 : b = j
    · by_cases h3 : c = i
      · rw [if_pos h1, if_pos h2, if_pos h3, h1, h2, h3]
      · rw [if_pos h1, if_pos h2, if_neg h3]
    · rw [if_pos h1, if_neg h2]
  · rw [if_neg h1]
/-- the class's rows -/
def rX7 (I : PI) (dr : Nat) : X2 := fun a c => if a = 0 then I 7 0 c else if a = 1 then I 31 dr c else if a = 2 then I 21 (5 * dr) c else if a = 3 then I 21 1 c else if a = 4 then I 21 2 c else if a = 5 then I 38 0 c else if a = 6 then I 38 1 c else I 1 dr c
theorem CI_id (I : PI) (dr : Nat) : CI I dr (rX7 I dr) = I := by
  funext a b c
  unfold CI
  by_cases h7 : a = 7
  · subst h7
    by_cases hb : b = 0
    · subst hb; rfl
    · simp [hb]
  · by_cases h31 : a = 31
    · subst h31
      by_cases hb : b = dr
      · subst hb; simp; rfl
      · simp [hb]
    · by_cases h21 : a = 21
      · subst h21
        by_cases hb : b = 5 * dr
        · subst hb; simp; rfl
        · by_cases hb1 : b = 1
          · subst hb1; simp [hb]; rfl
          · by_cases hb2 : b = 2
            · subst hb2; simp [hb]; rfl
            · simp [hb, hb1, hb2]
      · by_cases h38 : a = 38
        · subst h38
          by_cases hb : b = 0
          · subst hb; simp; rfl
          · by_cases hb1 : b = 1
            · subst hb1; simp; rfl
            · simp [hb, hb1]
        · by_cases h1 : a = 1
          · subst h1
            by_cases hb : b = dr
            · subst hb; simp; rfl
            · simp [hb]
          · simp [h7, h31, h21, h38, h1]
theorem CM_id (I : PI) (dr : Nat) : CM I dr (rX7 I dr) (I 8 0) = I := by
  unfold CM
  rw [CI_id, upA_id]
theorem JC_id (J : PJ) : JC J (J 42 0) (J 8 0 4) = J := by
  unfold JC
  rw [upA_id, up3_id]
theorem CM_8 (I : PI) (dr : Nat) (X : X2) (s8 : Nat → Int32) (i : Nat) (v : Int32) : up3 (CM I dr X s8) 8 0 i v = CM I dr X (wu s8 i v) := upA_up3 _ _ _ _ _ _
theorem CM_21x (I : PI) (dr : Nat) (X : X2) (s8 : Nat → Int32) {j : Nat} (h : ¬ j = 5 * dr ∧ ¬ j = 1 ∧ ¬ j = 2) : (CM I dr X s8) 21 j = I 21 j := by
  funext c
  show (if j = 5 * dr then X 2 c else if j = 1 then X 3 c else if j = 2 then X 4 c else I 21 j c) = _
  rw [if_neg h.1, if_neg h.2.1, if_neg h.2.2]
theorem CM_31x (I : PI) (dr : Nat) (X : X2) (s8 : Nat → Int32) {j : Nat} (h : ¬ j = dr) : (CM I dr X s8) 31 j = I 31 j := by
  funext c
  show (if j = dr then X 1 c else I 31 j c) = _
  rw [if_neg h]
theorem CM_1x (I : PI) (dr : Nat) (X : X2) (s8 : Nat → Int32) {j : Nat} (h : ¬ j = dr) : (CM I dr X s8) 1 j = I 1 j := by
  funext c
  show (if j = dr then X 7 c else I 1 j c) = _
  rw [if_neg h]
/-- where the class's reading begins -/
def X00 (X : X2) : X2 := u2 (u2 (u2 (u2 X 0 3 0) 0 4 0) 0 5 0) 7 3 0
theorem readC (d : Nat) (I : PI) (J : PJ) (T : TL) (X : X2) (nc : Nat → Int64) (s8 : Nat → Int32) (y : Int64) {f : Nat → Int32} {n : Nat} (hn : n ≤ 500) (hf : I 37 0 = f) {Xf : X2} {ncf : Nat → Int64} {rr : Int32} (hr : CRun f n (X00 X) nc 0 0 Xf ncf rr) : ∃ (s8' : Nat → Int32) (y' : Int64), cal (d + 6) 21 [vr 7 0, vi (nn n)] (MX (CM I T.2.1 X s8) (JC J nc y) T) = some (.inl (some (vi rr)), MX (CM I T.2.1 Xf s8') (JC J ncf y') T) := by
  have em : max9 0 (min9 (nn n) 500) = nn n := by
    have e1 : min9 (nn n) 500 = nn n := by
      unfold min9
      by_cases z : (500 : Int32) < nn n
      · have := (nn_lt (a := 500) (by omega) (by omega)).mp z
        omega
      · rw [if_neg z]
    rw [e1]
    unfold max9
    by_cases z : (0 : Int32) < nn n
    · rw [if_pos z]
    · rw [if_neg z]
      have h0 : n = 0 := by
        by_cases q : n = 0
        · exact q
        · exact absurd ((nn_lt (a := 0) (by omega) (by omega)).mpr (by omega)) z
      rw [h0]
      rfl
  obtain ⟨s2, y2, e2⟩ := hr d I J T (wu (wu s8 1 (nn n)) 2 0) y (nn n) 0 hf rfl rfl (Nat.le_refl 0)
  refine ⟨s2, y2, ?_⟩
  rw [c21, CM_7, CM_7, CM_7, c22, CM_1]
  simp only [ret9]
  rw [b21_22, c23, CM_8, CM_8, em]
  simp only [ret9]
  rw [b21_30]
  exact e2
/-- what the class leaves: a fault -/
def ICf (Ic : PI) : PI := up3 (up3 (up3 Ic 11 0 11 (Ic 7 0 3)) 11 0 12 (Ic 7 0 4)) 11 0 15 4
/-- a book -/
def ICg (Ic : PI) : PI := up3 (up3 (up3 (up3 (fl (fl (fl (lvI (up3 (up3 Ic 11 0 11 (Ic 7 0 3)) 11 0 12 (Ic 7 0 4))) 21 3 6 0) 21 4 6 0) 28 3 64 (-1)) 2 0 5 0) 11 0 13 (-1)) 11 0 14 (-1)) 11 0 15 0
abbrev Tsw (T : TL) : TL := (T.2.1, T.1, T.2.2)
theorem book_f (d : Nat) (I : PI) (J : PJ) (T : TL) {t n : Nat} (h10 : I 11 0 10 = nn t) (ht : t ≤ 500) (hnt : n ≤ t) {Ic : PI} {Jc : PJ} (hr : cal (d + 6) 21 [vr 7 0, vi (nn n)] (MX (up3 I 11 0 10 0) J T) = some (.inl (some (vi 0)), MX Ic Jc T)) : cal (d + 7) 19 [vr 11 0, vi (nn n)] (MX I J T) = some (.inl (some (vi (-1))), MX (ICf Ic) Jc T) := by
  rw [c19, if_neg (i32_nlt.mpr (nn_nonneg (by omega))), h10, if_pos ((nn_le (by omega) (by omega)).mpr hnt), hr]
  simp only [ret9]
  rw [b19_31, if_neg (fun q => q rfl), c20]
  simp only [ret9]
  rw [b19_63]
  rfl
theorem book_g (d : Nat) (I : PI) (J : PJ) (T : TL) {t n : Nat} (h10 : I 11 0 10 = nn t) (ht : t ≤ 500) (hnt : n ≤ t) {Ic : PI} {Jc : PJ} (hr : cal (d + 6) 21 [vr 7 0, vi (nn n)] (MX (up3 I 11 0 10 0) J T) = some (.inl (some (vi 1)), MX Ic Jc T)) : cal (d + 7) 19 [vr 11 0, vi (nn n)] (MX I J T) = some (.inl (some (vi ((ICg Ic) 1 T.2.1 3))), MX (ICg Ic) (fl (lvJ Jc) 42 1 6 0) (Tsw T)) := by
  rw [c19, if_neg (i32_nlt.mpr (nn_nonneg (by omega))), h10, if_pos ((nn_le (by omega) (by omega)).mpr hnt), hr]
  simp only [ret9]
  rw [b19_31, if_pos (by decide), RL_swap]
  have e := leaveC (d + 5) (up3 (up3 Ic 11 0 11 (Ic 7 0 3)) 11 0 12 (Ic 7 0 4)) Jc (Tsw T)
  refine (congrArg (ret9 (den (d + 7) 19) 19 98 101 _ _) e).trans ?_
  simp only [ret9]
  rw [b19_101, forgetC]
  simp only [ret9]
  rw [b19_105, c51]
  simp only [ret9]
  rw [b19_119]
  rfl
theorem book_n (d : Nat) (I : PI) (J : PJ) (T : TL) {t : Nat} {x : Int32} (h10 : I 11 0 10 = nn t) (hx : ¬ (0 ≤ x ∧ x ≤ nn t)) : cal (d + 1) 19 [vr 11 0, vi x] (MX I J T) = some (.inl (some (vi (-1))), MX (up3 I 11 0 15 2) J T) := by
  rw [c19, h10]
  by_cases z : x < 0
  · rw [if_pos z, c20]
    simp only [ret9]
    rw [b19_17]
  · rw [if_neg z, if_neg (fun q => hx ⟨i32_nlt.mp z, q⟩), c20]
    simp only [ret9]
    rw [b19_17]
theorem bookM_n (d : Nat) (I : PI) (J : PJ) (T : TL) {t : Nat} {x : Int32} (h8 : I 14 0 8 = nn t) (hx : ¬ (0 ≤ x ∧ x ≤ nn t)) : cal (d + 1) 186 [vr 14 0, vi x] (MX I J T) = some (.inl (some (vi (-1))), MX (up3 (up3 (up3 I 14 0 0 0) 14 0 1 2) 14 0 2 (-1)) J T) := by
  rw [c186, h8]
  by_cases z : x < 0
  · rw [if_pos z, c187]
    simp only [ret9]
    rw [b186_22]
  · rw [if_neg z, if_neg (fun q => hx ⟨i32_nlt.mp z, q⟩), c187]
    simp only [ret9]
    rw [b186_22]
