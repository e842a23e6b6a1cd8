/-! The reference's neighbours, ways and waters -/
def oi : Option Nat → Int32
  | some d => nn d
  | none => -1
theorem nn_m1 (a : Nat) : nn (a + 1) + (-1) = nn a := by
  rw [← nn_add1, Int32.add_assoc, show (1 + (-1) : Int32) = 0 from rfl, Int32.add_zero]
theorem nn_sub1 (a : Nat) : nn (a + 1) - 1 = nn a := nn_sub (a := a + 1) (b := 1) (by omega)
def GW (I : PI) (w h : Nat) : Prop := I 14 0 22 = nn w ∧ I 14 0 23 = nn h ∧ 1 ≤ w ∧ w ≤ 8 ∧ 1 ≤ h ∧ h ≤ 8
section GEO
variable (d : Nat) {w h : Nat} (I : PI) (J : PJ) (T : TL)
theorem bes_in (hg : GW I w h) (x1 x2 : Int32) {a b : Nat} (ha : a < w) (hb : b < h) : den (d + 1) 234 54 [some (vr 14 0), some (vi x1), some (vi x2), some (vi (nn a)), some (vi (nn b))] [] (MX I J T) = some (.inl (some (vi (nn (w * b + a)))), MX I J T) := by
  obtain ⟨hw, hh, hw1, hw8, hh1, hh8⟩ := id hg
  rw [b234_54, inM, hw, show nn w - 1 = nn (w - 1) from nn_sub (b := 1) hw1, bi1 ⟨nn_nonneg (by omega), (nn_le (by omega) (by omega)).mpr (by omega)⟩]
  refine (b234_65 (d + 1) x1 x2 (nn a) (nn b) 1 I J T).trans ?_
  rw [if_neg (by decide), b234_68, inM, hh, show nn h - 1 = nn (h - 1) from nn_sub (b := 1) hh1, bi1 ⟨nn_nonneg (by omega), (nn_le (by omega) (by omega)).mpr (by omega)⟩]
  refine (b234_80 (d + 1) x1 x2 (nn a) (nn b) 1 I J T).trans ?_
  rw [if_neg (by decide), b234_83, b234_96, hw, nn_mul, nn_add]
theorem bes_outx (hg : GW I w h) (x1 x2 x3 x4 : Int32) (h1 : ¬ (0 ≤ x3 ∧ x3 ≤ nn (w - 1))) : den (d + 1) 234 54 [some (vr 14 0), some (vi x1), some (vi x2), some (vi x3), some (vi x4)] [] (MX I J T) = some (.inl (some (vi (-1))), MX I J T) := by
  obtain ⟨hw, hh, hw1, hw8, hh1, hh8⟩ := id hg
  rw [b234_54, inM, hw, show nn w - 1 = nn (w - 1) from nn_sub (b := 1) hw1, bi0 h1]
  refine (b234_65 (d + 1) x1 x2 x3 x4 0 I J T).trans ?_
  rw [if_pos rfl, b234_95, b234_96]
theorem bes_outy (hg : GW I w h) (x1 x2 x4 : Int32) {a : Nat} (ha : a < w) (h1 : ¬ (0 ≤ x4 ∧ x4 ≤ nn (h - 1))) : den (d + 1) 234 54 [some (vr 14 0), some (vi x1), some (vi x2), some (vi (nn a)), some (vi x4)] [] (MX I J T) = some (.inl (some (vi (-1))), MX I J T) := by
  obtain ⟨hw, hh, hw1, hw8, hh1, hh8⟩ := id hg
  rw [b234_54, inM, hw, show nn w - 1 = nn (w - 1) from nn_sub (b := 1) hw1, bi1 ⟨nn_nonneg (by omega), (nn_le (by omega) (by omega)).mpr (by omega)⟩]
  refine (b234_65 (d + 1) x1 x2 (nn a) x4 1 I J T).trans ?_
  rw [if_neg (by decide), b234_68, inM, hh, show nn h - 1 = nn (h - 1) from nn_sub (b := 1) hh1, bi0 h1]
  refine (b234_80 (d + 1) x1 x2 (nn a) x4 0 I J T).trans ?_
  rw [if_pos rfl, b234_95, b234_96]
theorem besM (hg : GW I w h) {c s : Nat} (hc : c < w * h) (hs : s < 4) : cal (d + 1) 234 [vr 14 0, vi (nn c), vi (nn s)] (MX I J T) = some (.inl (some (vi (oi (nb w h c s)))), MX I J T) := by
  obtain ⟨hw, hh, hw1, hw8, hh1, hh8⟩ := id hg
  have h64 : w * h ≤ 64 := Nat.mul_le_mul hw8 hh8
  have hw0 : ¬ I 14 0 22 = 0 := by rw [hw, eq0n (by omega)]; omega
  have hrem : irm9 (nn c) (I 14 0 22) = nn (c % w) := by rw [hw, nn_rem (by omega) (by omega)]
  have hdiv : nn c / I 14 0 22 = nn (c / w) := by rw [hw, nn_div (by omega) (by omega)]
  have m1 : c % w < w := Nat.mod_lt _ (by omega)
  have m2 : c / w < h := Nat.div_lt_of_lt_mul hc
  have m3 : w * (c / w) + c % w = c := Nat.div_add_mod c w
  rw [c234, if_neg hw0, hrem]
  have z00 : (nn 0 : Int32) = 0 := rfl
  have hs4 : s = 0 ∨ s = 1 ∨ s = 2 ∨ s = 3 := by omega
  rcases hs4 with rfl | rfl | rfl | rfl
  · rw [if_neg (by decide), b234_10, b234_24, b234_26, if_neg hw0, if_pos (by decide), hdiv, b234_41, if_pos (by decide), b234_50, b234_51, nn_add1, show nn (c / w) + 0 = nn (c / w) from Int32.add_zero _]
    by_cases h1 : c % w + 1 < w
    · rw [bes_in d I J T hg _ _ h1 m2]
      unfold nb
      simp only []
      rw [if_pos h1]
      show some (Sum.inl (some (vi _)), _) = some (Sum.inl (some (vi (nn (c + 1)))), _)
      rw [show w * (c / w) + (c % w + 1) = c + 1 by omega]
    · rw [bes_outx d I J T hg _ _ _ _ (fun z => by have := (nn_le (by omega) (by omega)).mp z.2; omega)]
      unfold nb
      simp only []
      rw [if_neg h1]
      rfl
  · rw [if_pos (by decide), b234_14, if_neg (by decide), b234_19, b234_24, b234_26, if_neg hw0, if_pos (by decide), hdiv, b234_41, if_pos (by decide), b234_50, b234_51, show nn (c / w) + 0 = nn (c / w) from Int32.add_zero _]
    by_cases h1 : 0 < c % w
    · obtain ⟨q, hq⟩ : ∃ q, c % w = q + 1 := ⟨c % w - 1, by omega⟩
      rw [hq, nn_m1, bes_in d I J T hg _ _ (show q < w by omega) m2]
      unfold nb
      simp only []
      rw [if_pos h1]
      show some (Sum.inl (some (vi _)), _) = some (Sum.inl (some (vi (nn (c - 1)))), _)
      rw [show w * (c / w) + q = c - 1 by omega]
    · rw [show c % w = 0 by omega, show nn 0 + (-1) = -1 from rfl, bes_outx d I J T hg _ _ _ _ (fun z => absurd z.1 (by decide))]
      unfold nb
      simp only []
      rw [if_neg h1]
      rfl
  · rw [if_pos (by decide), b234_14, if_pos (by decide), b234_23, b234_24, b234_26, if_neg hw0, if_pos (by decide), hdiv, b234_41, if_neg (by decide), b234_46, b234_51, show nn (c % w) + 0 = nn (c % w) from Int32.add_zero _]
    by_cases h1 : w ≤ c
    · have h2 : 0 < c / w := Nat.div_pos h1 (by omega)
      obtain ⟨q, hq⟩ : ∃ q, c / w = q + 1 := ⟨c / w - 1, by omega⟩
      rw [hq, nn_m1, bes_in d I J T hg _ _ m1 (show q < h by omega)]
      unfold nb
      simp only []
      rw [if_pos h1]
      show some (Sum.inl (some (vi _)), _) = some (Sum.inl (some (vi (nn (c - w)))), _)
      rw [hq, Nat.mul_add, Nat.mul_one] at m3
      rw [show w * q + c % w = c - w by omega]
    · rw [show c / w = 0 from Nat.div_eq_of_lt (by omega), show nn 0 + (-1) = -1 from rfl, bes_outy d I J T hg _ _ _ m1 (fun z => absurd z.1 (by decide))]
      unfold nb
      simp only []
      rw [if_neg h1]
      rfl
  · rw [if_pos (by decide), b234_14, if_pos (by decide), b234_23, b234_24, b234_26, if_neg hw0, if_neg (by decide), hdiv, b234_37, b234_51, show nn (c % w) + 0 = nn (c % w) from Int32.add_zero _, nn_add1]
    by_cases h1 : c + w < w * h
    · have h2 : c / w + 1 < h := by
        have : (c + w) / w < h := Nat.div_lt_of_lt_mul h1
        rwa [Nat.add_div_right c (by omega)] at this
      rw [bes_in d I J T hg _ _ m1 h2]
      unfold nb
      simp only []
      rw [if_pos h1]
      show some (Sum.inl (some (vi _)), _) = some (Sum.inl (some (vi (nn (c + w)))), _)
      rw [Nat.mul_add, Nat.mul_one, show w * (c / w) + w + c % w = c + w by omega]
    · have h2 : ¬ c / w + 1 < h := by
        intro z
        apply h1
        have : w * (c / w + 2) ≤ w * h := Nat.mul_le_mul_left w (by omega)
        rw [Nat.mul_add] at this
        omega
      rw [bes_outy d I J T hg _ _ _ m1 (fun z => by have := (nn_le (by omega) (by omega)).mp z.2; omega)]
      unfold nb
      simp only []
      rw [if_neg h1]
      rfl
end GEO
theorem nb_lt {w h c s d : Nat} (hw : 1 ≤ w) (hc : c < w * h) (e : nb w h c s = some d) : d < w * h := by
  unfold nb at e
  split at e
  · split at e
    · cases e
      rename_i h1
      have : w * (c / w) + c % w = c := Nat.div_add_mod c w
      have h2 : c / w < h := Nat.div_lt_of_lt_mul hc
      have h3 : w * (c / w + 1) ≤ w * h := Nat.mul_le_mul_left w h2
      rw [Nat.mul_add, Nat.mul_one] at h3
      omega
    · cases e
  · split at e
    · cases e; omega
    · cases e
  · split at e
    · cases e; omega
    · cases e
  · split at e
    · cases e; assumption
    · cases e
