/-! The book: what both change, laid over the memory -/
abbrev X2 : Type := Nat → Nat → Int32
def u2 (X : X2) (a i : Nat) (v : Int32) : X2 := fun b c => if b = a then (if c = i then v else X b c) else X b c
theorem u2_at (X : X2) (a i : Nat) (v : Int32) : u2 X a i v a i = v := by
  unfold u2; rw [if_pos rfl, if_pos rfl]
theorem u2_i (X : X2) (a i : Nat) (v : Int32) {c : Nat} (h : ¬ c = i) : u2 X a i v a c = X a c := by
  unfold u2; rw [if_pos rfl, if_neg h]
theorem u2_a (X : X2) (a i : Nat) (v : Int32) {b : Nat} (h : ¬ b = a) (c : Nat) : u2 X a i v b c = X b c := by
  unfold u2; rw [if_neg h]
theorem u2_same (X : X2) (a i : Nat) {v : Int32} (h : X a i = v) : u2 X a i v = X := by
  funext b c
  unfold u2
  by_cases h1 : b = a
  · by_cases h2 : c = i
    · rw [if_pos h1, if_pos h2, h1, h2, h]
    · rw [if_pos h1, if_neg h2]
  · rw [if_neg h1]
theorem u2_u2 (X : X2) (a i : Nat) (v w : Int32) : u2 (u2 X a i v) a i w = u2 X a i w := by
  funext b c
  unfold u2
  by_cases h1 : b = a
  · by_cases h2 : c = i
    · rw [if_pos h1, if_pos h2, if_pos h1, if_pos h2]
    · rw [if_pos h1, if_neg h2, if_pos h1, if_neg h2, if_pos h1, if_neg h2]
  · rw [if_neg h1, if_neg h1, if_neg h1]
/-- the class's reader, scanner and draft -/
def CI (I : PI) (dr : Nat) (X : X2) : PI := fun a b c => if a = 7 then (if b = 0 then X 0 c else I a b c) else if a = 31 then (if b = dr then X 1 c else I a b c) else if a = 21 then (if b = 5 * dr then X 2 c else if b = 1 then X 3 c else if b = 2 then X 4 c else I a b c) else if a = 38 then (if b = 0 then X 5 c else if b = 1 then X 6 c else I a b c) else if a = 1 then (if b = dr then X 7 c else I a b c) else I a b c
def CM (I : PI) (dr : Nat) (X : X2) (s8 : Nat → Int32) : PI := upA (CI I dr X) 8 0 s8
def JC (J : PJ) (nc : Nat → Int64) (y : Int64) : PJ := up3 (upA J 42 0 nc) 8 0 4 y
def wl (nc : Nat → Int64) (i : Nat) (v : Int64) : Nat → Int64 := fun c => if c = i then v else nc c
theorem upA_up3x {α : Type} (f : Nat → Nat → Nat → α) {k j k2 j2 i : Nat} (s : Nat → α) (v : α) (h : ¬ k2 = k) : up3 (upA f k j s) k2 j2 i v = upA (up3 f k2 j2 i v) k j s := by
  funext a b c
  unfold up3 upA
  dsimp only
  by_cases h1 : a = k2
  · rw [if_pos h1, if_neg (show ¬ a = k by omega), if_neg (show ¬ a = k by omega), if_pos h1]
  · rw [if_neg h1]
    by_cases h2 : a = k
    · rw [if_pos h2, if_pos h2, if_neg h1]
    · rw [if_neg h2, if_neg h2, if_neg h1]
section CMU
variable (I : PI) (dr : Nat) (X : X2) (s8 : Nat → Int32) (i : Nat) (v : Int32)
theorem CM_7 : up3 (CM I dr X s8) 7 0 i v = CM I dr (u2 X 0 i v) s8 := by
  unfold CM
  rw [upA_up3x _ _ _ (by decide)]
  congr 1
  funext a b c
  unfold CI u2 up3
  by_cases h1 : a = 7
  · subst h1
    by_cases h2 : b = 0
    · subst h2; simp
    · simp [h2]
  · simp [h1]
theorem CM_31 : up3 (CM I dr X s8) 31 dr i v = CM I dr (u2 X 1 i v) s8 := by
  unfold CM
  rw [upA_up3x _ _ _ (by decide)]
  congr 1
  funext a b c
  unfold CI u2 up3
  by_cases h1 : a = 31
  · subst h1
    by_cases h2 : b = dr
    · subst h2; simp
    · simp [h2]
  · simp [h1]
theorem CM_21 : up3 (CM I dr X s8) 21 (5 * dr) i v = CM I dr (u2 X 2 i v) s8 := by
  unfold CM
  rw [upA_up3x _ _ _ (by decide)]
  congr 1
  funext a b c
  unfold CI u2 up3
  by_cases h1 : a = 21
  · subst h1
    by_cases h2 : b = 5 * dr
    · subst h2; simp
    · simp [h2]
  · simp [h1]
theorem CM_21a : up3 (CM I dr X s8) 21 1 i v = CM I dr (u2 X 3 i v) s8 := by
  unfold CM
  rw [upA_up3x _ _ _ (by decide)]
  congr 1
  funext a b c
  unfold CI u2 up3
  by_cases h1 : a = 21
  · subst h1
    by_cases h2 : b = 5 * dr
    · have h3 : ¬ b = 1 := by omega
      rw [if_pos rfl, if_neg h3]
      simp [h2]
    · by_cases h3 : b = 1
      · subst h3; simp [h2]
      · simp [h2, h3]
  · simp [h1]
theorem CM_21c : up3 (CM I dr X s8) 21 2 i v = CM I dr (u2 X 4 i v) s8 := by
  unfold CM
  rw [upA_up3x _ _ _ (by decide)]
  congr 1
  funext a b c
  unfold CI u2 up3
  by_cases h1 : a = 21
  · subst h1
    by_cases h2 : b = 5 * dr
    · have h3 : ¬ b = 2 := by omega
      rw [if_pos rfl, if_neg h3]
      simp [h2]
    · by_cases h3 : b = 2
      · subst h3; simp [h2]
      · simp [h2, h3]
  · simp [h1]
theorem CM_38 : up3 (CM I dr X s8) 38 0 i v = CM I dr (u2 X 5 i v) s8 := by
  unfold CM
  rw [upA_up3x _ _ _ (by decide)]
  congr 1
  funext a b c
  unfold CI u2 up3
  by_cases h1 : a = 38
  · subst h1
    by_cases h2 : b = 0
    · subst h2; simp
    · simp [h2]
  · simp [h1]
theorem CM_38c : up3 (CM I dr X s8) 38 1 i v = CM I dr (u2 X 6 i v) s8 := by
  unfold CM
  rw [upA_up3x _ _ _ (by decide)]
  congr 1
  funext a b c
  unfold CI u2 up3
  by_cases h1 : a = 38
  · subst h1
    by_cases h2 : b = 1
    · subst h2; simp
    · simp [h2]
  · simp [h1]
theorem CM_1 : up3 (CM I dr X s8) 1 dr i v = CM I dr (u2 X 7 i v) s8 := by
  unfold CM
  rw [upA_up3x _ _ _ (by decide)]
  congr 1
  funext a b c
  unfold CI u2 up3
  by_cases h1 : a = 1
  · subst h1
    by_cases h2 : b = dr
    · subst h2; simp
    · simp [h2]
  · simp [h1]
theorem CM_g31 : (CM I dr X s8) 31 dr i = X 1 i := by
  show (if dr = dr then X 1 i else I 31 dr i) = _
  rw [if_pos rfl]
theorem CM_g21 : (CM I dr X s8) 21 (5 * dr) i = X 2 i := by
  show (if 5 * dr = 5 * dr then X 2 i else if 5 * dr = 1 then X 3 i else if 5 * dr = 2 then X 4 i else I 21 (5 * dr) i) = _
  rw [if_pos rfl]
theorem CM_g21a : (CM I dr X s8) 21 1 i = X 3 i := by
  show (if 1 = 5 * dr then X 2 i else if 1 = 1 then X 3 i else if 1 = 2 then X 4 i else I 21 1 i) = _
  rw [if_neg (by omega), if_pos rfl]
theorem CM_g21c : (CM I dr X s8) 21 2 i = X 4 i := by
  show (if 2 = 5 * dr then X 2 i else if 2 = 1 then X 3 i else if 2 = 2 then X 4 i else I 21 2 i) = _
  rw [if_neg (by omega), if_neg (by omega), if_pos rfl]
theorem CM_g1 : (CM I dr X s8) 1 dr i = X 7 i := by
  show (if dr = dr then X 7 i else I 1 dr i) = _
  rw [if_pos rfl]
theorem CM_g7 : (CM I dr X s8) 7 0 i = X 0 i := rfl
theorem CM_g8 : (CM I dr X s8) 8 0 i = s8 i := rfl
theorem CM_g38 : (CM I dr X s8) 38 0 i = X 5 i := rfl
theorem CM_g38c : (CM I dr X s8) 38 1 i = X 6 i := rfl
end CMU
theorem JC_4 (J : PJ) (nc : Nat → Int64) (y : Int64) : (JC J nc y) 8 0 4 = y := rfl
theorem JC_42 (J : PJ) (nc : Nat → Int64) (y : Int64) (i : Nat) : (JC J nc y) 42 0 i = nc i := rfl
theorem JC_u (J : PJ) (nc : Nat → Int64) (y : Int64) (i : Nat) (v : Int64) : up3 (JC J nc y) 42 0 i v = JC J (wl nc i v) y := by
  funext a b c
  unfold JC wl up3 upA
  by_cases h1 : a = 42
  · subst h1
    by_cases h2 : b = 0
    · subst h2; simp
    · simp [h2]
  · simp [h1]
/-- the reference's fresh book, brackets and stop -/
def MI (I : PI) (b : Nat) (Y : X2) : PI := fun a j c => if a = 13 then (if j = 0 then Y 0 c else I a j c) else if a = 12 then (if j = b then Y 1 c else I a j c) else if a = 33 then (if j = b then Y 2 c else I a j c) else if a = 21 then (if j = b + 12 then Y 3 c else if j = 7 then Y 4 c else if j = 8 then Y 5 c else if j = 9 then Y 6 c else I a j c) else if a = 38 then (if j = 2 then Y 7 c else I a j c) else I a j c
def MM (I : PI) (b : Nat) (Y : X2) (s14 : Nat → Int32) : PI := upA (MI I b Y) 14 0 s14
def JM (J : PJ) (b : Nat) (nm : Nat → Int64) (y : Int64) : PJ := up3 (upA J 42 (b + 2) nm) 14 0 15 y
section MMU
variable (I : PI) (b : Nat) (Y : X2) (s14 : Nat → Int32) (i : Nat) (v : Int32)
theorem MM_13 : up3 (MM I b Y s14) 13 0 i v = MM I b (u2 Y 0 i v) s14 := by
  unfold MM
  rw [upA_up3x _ _ _ (by decide)]
  congr 1
  funext a j c
  unfold MI u2 up3
  by_cases h1 : a = 13
  · subst h1
    by_cases h2 : j = 0
    · subst h2; simp
    · simp [h2]
  · simp [h1]
theorem MM_12 : up3 (MM I b Y s14) 12 b i v = MM I b (u2 Y 1 i v) s14 := by
  unfold MM
  rw [upA_up3x _ _ _ (by decide)]
  congr 1
  funext a j c
  unfold MI u2 up3
  by_cases h1 : a = 12
  · subst h1
    by_cases h2 : j = b
    · subst h2; simp
    · simp [h2]
  · simp [h1]
theorem MM_33 : up3 (MM I b Y s14) 33 b i v = MM I b (u2 Y 2 i v) s14 := by
  unfold MM
  rw [upA_up3x _ _ _ (by decide)]
  congr 1
  funext a j c
  unfold MI u2 up3
  by_cases h1 : a = 33
  · subst h1
    by_cases h2 : j = b
    · subst h2; simp
    · simp [h2]
  · simp [h1]
theorem MM_21 : up3 (MM I b Y s14) 21 (b + 12) i v = MM I b (u2 Y 3 i v) s14 := by
  unfold MM
  rw [upA_up3x _ _ _ (by decide)]
  congr 1
  funext a j c
  unfold MI u2 up3
  by_cases h1 : a = 21
  · subst h1
    by_cases h2 : j = b + 12
    · subst h2; simp
    · simp [h2]
  · simp [h1]
theorem MM_21b : up3 (MM I b Y s14) 21 7 i v = MM I b (u2 Y 4 i v) s14 := by
  unfold MM
  rw [upA_up3x _ _ _ (by decide)]
  congr 1
  funext a j c
  unfold MI u2 up3
  by_cases h1 : a = 21
  · subst h1
    by_cases h2 : j = b + 12
    · have h3 : ¬ j = 7 := by omega
      rw [if_pos rfl, if_neg h3]
      simp [h2]
    · by_cases h3 : j = 7
      · subst h3; simp [h2]
      · simp [h2, h3]
  · simp [h1]
theorem MM_21h : up3 (MM I b Y s14) 21 8 i v = MM I b (u2 Y 5 i v) s14 := by
  unfold MM
  rw [upA_up3x _ _ _ (by decide)]
  congr 1
  funext a j c
  unfold MI u2 up3
  by_cases h1 : a = 21
  · subst h1
    by_cases h2 : j = b + 12
    · have h3 : ¬ j = 8 := by omega
      rw [if_pos rfl, if_neg h3]
      simp [h2]
    · by_cases h3 : j = 8
      · subst h3; simp [h2]
      · simp [h2, h3]
  · simp [h1]
theorem MM_21w : up3 (MM I b Y s14) 21 9 i v = MM I b (u2 Y 6 i v) s14 := by
  unfold MM
  rw [upA_up3x _ _ _ (by decide)]
  congr 1
  funext a j c
  unfold MI u2 up3
  by_cases h1 : a = 21
  · subst h1
    by_cases h2 : j = b + 12
    · have h3 : ¬ j = 9 := by omega
      rw [if_pos rfl, if_neg h3]
      simp [h2]
    · by_cases h3 : j = 9
      · subst h3; simp [h2]
      · simp [h2, h3]
  · simp [h1]
theorem MM_38 : up3 (MM I b Y s14) 38 2 i v = MM I b (u2 Y 7 i v) s14 := by
  unfold MM
  rw [upA_up3x _ _ _ (by decide)]
  congr 1
  funext a j c
  unfold MI u2 up3
  by_cases h1 : a = 38
  · subst h1
    by_cases h2 : j = 2
    · subst h2; simp
    · simp [h2]
  · simp [h1]
theorem MM_14 : up3 (MM I b Y s14) 14 0 i v = MM I b Y (wu s14 i v) := upA_up3 _ _ _ _ _ _
theorem MM_g12 : (MM I b Y s14) 12 b i = Y 1 i := by
  show (if b = b then Y 1 i else I 12 b i) = _
  rw [if_pos rfl]
theorem MM_g33 : (MM I b Y s14) 33 b i = Y 2 i := by
  show (if b = b then Y 2 i else I 33 b i) = _
  rw [if_pos rfl]
theorem MM_g21 : (MM I b Y s14) 21 (b + 12) i = Y 3 i := by
  show (if b + 12 = b + 12 then Y 3 i else if b + 12 = 7 then Y 4 i else if b + 12 = 8 then Y 5 i else if b + 12 = 9 then Y 6 i else I 21 (b + 12) i) = _
  rw [if_pos rfl]
theorem MM_g21b : (MM I b Y s14) 21 7 i = Y 4 i := by
  show (if 7 = b + 12 then Y 3 i else if 7 = 7 then Y 4 i else if 7 = 8 then Y 5 i else if 7 = 9 then Y 6 i else I 21 7 i) = _
  rw [if_neg (by omega), if_pos rfl]
theorem MM_g21h : (MM I b Y s14) 21 8 i = Y 5 i := by
  show (if 8 = b + 12 then Y 3 i else if 8 = 7 then Y 4 i else if 8 = 8 then Y 5 i else if 8 = 9 then Y 6 i else I 21 8 i) = _
  rw [if_neg (by omega), if_neg (by omega), if_pos rfl]
theorem MM_g21w : (MM I b Y s14) 21 9 i = Y 6 i := by
  show (if 9 = b + 12 then Y 3 i else if 9 = 7 then Y 4 i else if 9 = 8 then Y 5 i else if 9 = 9 then Y 6 i else I 21 9 i) = _
  rw [if_neg (by omega), if_neg (by omega), if_neg (by omega), if_pos rfl]
theorem MM_g14 : (MM I b Y s14) 14 0 i = s14 i := rfl
theorem MM_g38 : (MM I b Y s14) 38 2 i = Y 7 i := rfl
end MMU
theorem JM_15 (J : PJ) (b : Nat) (nm : Nat → Int64) (y : Int64) : (JM J b nm y) 14 0 15 = y := rfl
theorem JM_42 (J : PJ) (b : Nat) (nm : Nat → Int64) (y : Int64) (i : Nat) : (JM J b nm y) 42 (b + 2) i = nm i := by
  show (if b + 2 = b + 2 then nm i else J 42 (b + 2) i) = _
  rw [if_pos rfl]
theorem JM_u (J : PJ) (b : Nat) (nm : Nat → Int64) (y : Int64) (i : Nat) (v : Int64) : up3 (JM J b nm y) 42 (b + 2) i v = JM J b (wl nm i v) y := by
  funext a j c
  unfold JM wl up3 upA
  by_cases h1 : a = 42
  · subst h1
    by_cases h2 : j = b + 2
    · subst h2; simp
    · simp [h2]
  · simp [h1]
/-! what both have of a worth -/
/-- the height behind so many steps -/
def okT (p : Nat → Int32) : Nat → Nat → Prop
  | 0, t => t = 0
  | k + 1, t => (p k < 110 ∧ 0 ≤ p k ∧ p k ≤ 103 ∧ 1 ≤ t ∧ t - 1 < 20 ∧ okT p k (t - 1)) ∨ (110 ≤ p k ∧ p k ≤ 114 ∧ 1 ≤ t ∧ okT p k (t + 1))
theorem okT_congr {p q : Nat → Int32} : ∀ k t, (∀ i, i < k → p i = q i) → okT p k t → okT q k t
  | 0, _, _, h => h
  | k + 1, t, he, h => by
    have e := he k (by omega)
    rcases h with ⟨h1, h2, h3, h4, h5, h6⟩ | ⟨h1, h2, h3, h4⟩
    · exact .inl ⟨by rw [← e]; exact h1, by rw [← e]; exact h2, by rw [← e]; exact h3, h4, h5, okT_congr k _ (fun i hi => he i (by omega)) h6⟩
    · exact .inr ⟨by rw [← e]; exact h1, by rw [← e]; exact h2, h3, okT_congr k _ (fun i hi => he i (by omega)) h4⟩
theorem okT_okP {p : Nat → Int32} : ∀ k t, okT p k t → ∀ m, okP p m k t → okP p (k + m) 0 0
  | 0, t, h, m, hp => by
    have e : t = 0 := h
    subst e
    rw [Nat.zero_add]
    exact hp
  | k + 1, t, h, m, hp => by
    rw [show k + 1 + m = k + (m + 1) by omega]
    rcases h with ⟨h1, h2, h3, h4, h5, h6⟩ | ⟨h1, h2, h3, h4⟩
    · exact okT_okP k (t - 1) h6 (m + 1) (.inl ⟨h1, h2, h3, h5, by rw [show t - 1 + 1 = t by omega]; exact hp⟩)
    · exact okT_okP k (t + 1) h4 (m + 1) (.inr ⟨h1, h2, by omega, by rw [show t + 1 - 1 = t by omega]; exact hp⟩)
def cad (a : Int32) : Int32 := if a = 0 then -1 else a - 6
noncomputable def cmm (h g : Int32) : Int32 := bi (¬ h = 0 ∧ g = 0)
/-- one bracket -/
def LVL (X Y : X2) (l : Nat) : Prop := (Y 7 l = 0 ∨ Y 7 l = 1) ∧ X 5 l = Y 7 l ∧ (Y 6 l = 0 ∨ Y 6 l = 110 ∨ Y 6 l = 111) ∧ X 3 l = cad (Y 6 l) ∧ (Y 4 l = 0 ∨ Y 4 l = 113 ∨ Y 4 l = 114) ∧ X 4 l = cad (Y 4 l) ∧ (Y 5 l = 0 ∨ Y 5 l = 1) ∧ X 6 l = cmm (Y 4 l) (Y 5 l)
/-- how many steps wait -/
def pnY (Y : X2) (l : Nat) : Nat := (if Y 7 l = 0 then 0 else 1) + (if Y 6 l = 0 then 0 else 1) + (if Y 4 l = 0 then 0 else if Y 5 l = 0 then 0 else 1)
def pSY (Y : X2) : Nat → Nat
  | 0 => pnY Y 0
  | l + 1 => pSY Y l + pnY Y (l + 1)
theorem pSY_congr {Y Z : X2} : ∀ l, (∀ i, i ≤ l → pnY Y i = pnY Z i) → pSY Y l = pSY Z l
  | 0, h => h 0 (Nat.le_refl 0)
  | l + 1, h => by
    show pSY Y l + _ = pSY Z l + _
    rw [pSY_congr l (fun i hi => h i (by omega)), h (l + 1) (Nat.le_refl _)]
def pSl (Y : X2) : Nat → Nat
  | 0 => 0
  | l + 1 => pSY Y l
theorem pSY_l (Y : X2) (l : Nat) : pSY Y l = pSl Y l + pnY Y l := by
  cases l with
  | zero => show pnY Y 0 = 0 + pnY Y 0; omega
  | succ l => rfl
theorem pSl_congr {Y Z : X2} (l : Nat) (h : ∀ i, i < l → pnY Y i = pnY Z i) : pSl Y l = pSl Z l := by
  cases l with
  | zero => rfl
  | succ l => exact pSY_congr l (fun i hi => h i (by omega))
/-- the worth that is read -/
def CUR (X Y : X2) (r fac op len t v : Nat) : Prop := X 2 r = nn len ∧ Y 3 r = nn len ∧ okT (fun i => Y 2 (48 * r + i)) len t ∧ len + t = 2 * v ∧ v ≤ fac ∧ fac ≤ 20 ∧ op ≤ 5 ∧ (∀ i, i < len → X 1 (40 * r + i) = clsS (Y 2 (48 * r + i))) ∧ X 0 6 = nn fac ∧ X 0 12 = nn op ∧ (∀ l, l ≤ op → LVL X Y l) ∧ Y 4 0 = 0
/-- the owners that are read -/
def FIN (X Y : X2) (r : Nat) : Prop := ∀ k, k < r → ∃ len, len ≤ 40 ∧ X 2 k = nn len ∧ Y 3 k = nn len ∧ okP (fun i => Y 2 (48 * k + i)) len 0 0 ∧ ∀ i, i < len → X 1 (40 * k + i) = clsS (Y 2 (48 * k + i))
def NMS (nc nm : Nat → Int64) (o : Nat) : Prop := ∃ w : Nat → WD, ∀ k, k < o → WDok (w k) ∧ nc k = ll (wdC (w k)) ∧ nm k = ll (wdR (w k))
def BAS (X Y : X2) (nc nm : Nat → Int64) (r o : Nat) : Prop := FIN X Y r ∧ (∀ k, r < k → k < 6 → Y 3 k = 0) ∧ Y 1 0 = nn r ∧ X 7 3 = nn o ∧ NMS nc nm o ∧ X 0 3 = 0
/-- a step told -/
def pX (X : X2) (r len : Nat) (x : Int32) : X2 := u2 (u2 X 1 (40 * r + len) x) 2 r (nn (len + 1))
def pY (Y : X2) (r len : Nat) (x : Int32) : X2 := u2 (u2 Y 2 (48 * r + len) x) 3 r (nn (len + 1))
