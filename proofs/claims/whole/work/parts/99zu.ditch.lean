/-! Ditches: the class finds ways and levels lengths -/
def eBd (ws : Nat → Int32) (w h c : Nat) : Bool := decide (1 ≤ c / (w + 1) ∧ c / (w + 1) < h ∧ c % (w + 1) < w ∧ ¬ ws (w * (c / (w + 1)) + c % (w + 1)) = ws (w * (c / (w + 1) - 1) + c % (w + 1)))
def sBd (ws : Nat → Int32) (w h c : Nat) : Bool := decide (1 ≤ c % (w + 1) ∧ c % (w + 1) < w ∧ c / (w + 1) < h ∧ ¬ ws (w * (c / (w + 1)) + c % (w + 1)) = ws (w * (c / (w + 1)) + c % (w + 1) - 1))
theorem e_lt {ws : Nat → Int32} {w h c : Nat} (z : eBd ws w h c = true) : c + 1 < (w + 1) * (h + 1) := by
  obtain ⟨z1, z2, z3, -⟩ := of_decide_eq_true z
  have h1 : (w + 1) * (c / (w + 1)) + c % (w + 1) = c := Nat.div_add_mod c (w + 1)
  have h2 : (w + 1) * (c / (w + 1) + 1) ≤ (w + 1) * h := Nat.mul_le_mul_left (w + 1) z2
  rw [Nat.mul_succ] at h2
  rw [Nat.mul_succ]
  omega
theorem s_lt {ws : Nat → Int32} {w h c : Nat} (z : sBd ws w h c = true) : c + (w + 1) < (w + 1) * (h + 1) := by
  obtain ⟨z1, z2, z3, -⟩ := of_decide_eq_true z
  have h1 : (w + 1) * (c / (w + 1)) + c % (w + 1) = c := Nat.div_add_mod c (w + 1)
  have h2 : (w + 1) * (c / (w + 1) + 1) ≤ (w + 1) * h := Nat.mul_le_mul_left (w + 1) z3
  rw [Nat.mul_succ] at h2
  rw [Nat.mul_succ]
  omega
def cdw (e s : Bool) : Int32 := b01 e ||| (if s = true then 2 else 0)
theorem cdw_t : ∀ e s : Bool, (cdw e s &&& 1 = 0 ↔ e = false) ∧ (cdw e s &&& 2 = 0 ↔ s = false) := by decide
theorem b01_or : ∀ a b : Bool, b01 a ||| b01 b = b01 (a || b) := by decide
theorem N81 {w h : Nat} (hw8 : w ≤ 8) (hh8 : h ≤ 8) : (w + 1) * (h + 1) ≤ 81 := Nat.mul_le_mul (show w + 1 ≤ 9 by omega) (show h + 1 ≤ 9 by omega)
section DCC
variable (d : Nat) (I : PI) (J : PJ) (T : TL) {w h : Nat} {ws : Nat → Int32}
theorem brdE (h7 : I 5 0 7 = nn w) (h8 : I 5 0 8 = nn h) (hw8 : w ≤ 8) (hh8 : h ≤ 8) (hws : ∀ c, c < w * h → I 28 3 c = ws c) {x y : Nat} (hx : x ≤ w) (hy : y ≤ h) : cal d 168 [vr 2 0, vi (nn x), vi (nn y - 1), vi (nn x), vi (nn y)] (MX I J T) = some (.inl (some (vi (b01 (eBd ws w h ((w + 1) * y + x))))), MX I J T) := by
  have h64 : w * h ≤ 64 := Nat.mul_le_mul hw8 hh8
  obtain ⟨d1, d2⟩ := dmw (w := w + 1) (q := y) (show x < w + 1 by omega)
  unfold eBd
  rw [d1, d2, c168, if_neg (i32_nlt.mpr (nn_nonneg (by omega)))]
  cases y with
  | zero =>
    rw [b168_4, if_pos (by decide), b168_31, decide_eq_false (by omega)]
    rfl
  | succ y =>
    rw [nn_sub1, b168_4, if_neg (i32_nlt.mpr (nn_nonneg (by omega))), b168_8, h7]
    by_cases z1 : w ≤ x
    · rw [if_pos ((nn_le (by omega) (by omega)).mpr z1), b168_31, decide_eq_false (by omega)]
      rfl
    · rw [if_neg (by rw [nn_le (by omega) (by omega)]; exact z1), b168_19, h8]
      by_cases z2 : y + 1 < h
      · have a1 : w * (y + 1) + x < w * h := by
          have : w * (y + 1 + 1) ≤ w * h := Nat.mul_le_mul_left w (by omega)
          rw [Nat.mul_succ] at this
          omega
        have a2 : w * y + x < w * h := by
          have : w * y ≤ w * (y + 1) := Nat.mul_le_mul_left w (by omega)
          omega
        rw [if_pos ((nn_lt (by omega) (by omega)).mpr z2), b168_33, h7, nn_mul, nn_mul, nn_add, nn_add, Nat.mul_comm y w, Nat.mul_comm (y + 1) w, if_pos (nn_inR (by omega) (by omega)), if_pos (nn_inR (by omega) (by omega)), nn_idx (by omega), nn_idx (by omega), hws _ a1, hws _ a2]
        by_cases z3 : ws (w * y + x) = ws (w * (y + 1) + x)
        · rw [if_pos z3, b168_79, b168_80, if_pos (.inl rfl), decide_eq_false (fun q => q.2.2.2 (by rw [show y + 1 - 1 = y by omega]; exact z3.symm))]
          rfl
        · rw [if_neg z3, b168_75, b168_80, if_pos (.inr rfl), decide_eq_true ⟨by omega, z2, by omega, by rw [show y + 1 - 1 = y by omega]; exact fun q => z3 q.symm⟩]
          rfl
      · rw [if_neg (by rw [nn_lt (by omega) (by omega)]; exact z2), b168_31, decide_eq_false (by omega)]
        rfl
theorem brdS (h7 : I 5 0 7 = nn w) (h8 : I 5 0 8 = nn h) (hw8 : w ≤ 8) (hh8 : h ≤ 8) (hws : ∀ c, c < w * h → I 28 3 c = ws c) {x y : Nat} (hx : x ≤ w) (hy : y ≤ h) : cal d 168 [vr 2 0, vi (nn x - 1), vi (nn y), vi (nn x), vi (nn y)] (MX I J T) = some (.inl (some (vi (b01 (sBd ws w h ((w + 1) * y + x))))), MX I J T) := by
  have h64 : w * h ≤ 64 := Nat.mul_le_mul hw8 hh8
  obtain ⟨d1, d2⟩ := dmw (w := w + 1) (q := y) (show x < w + 1 by omega)
  unfold sBd
  rw [d1, d2, c168]
  cases x with
  | zero =>
    rw [if_pos (by decide), b168_31, decide_eq_false (by omega)]
    rfl
  | succ x =>
    rw [nn_sub1, if_neg (i32_nlt.mpr (nn_nonneg (by omega))), b168_4, if_neg (i32_nlt.mpr (nn_nonneg (by omega))), b168_8, h7]
    by_cases z1 : w ≤ x + 1
    · rw [if_pos ((nn_le (by omega) (by omega)).mpr z1), b168_31, decide_eq_false (by omega)]
      rfl
    · rw [if_neg (by rw [nn_le (by omega) (by omega)]; exact z1), b168_19, h8]
      by_cases z2 : y < h
      · have a1 : w * y + (x + 1) < w * h := by
          have : w * (y + 1) ≤ w * h := Nat.mul_le_mul_left w (by omega)
          rw [Nat.mul_succ] at this
          omega
        rw [if_pos ((nn_lt (by omega) (by omega)).mpr z2), b168_33, h7, nn_mul, nn_add, nn_add, Nat.mul_comm y w, if_pos (nn_inR (by omega) (by omega)), if_pos (nn_inR (by omega) (by omega)), nn_idx (by omega), nn_idx (by omega), hws _ a1, hws _ (show w * y + x < w * h by omega)]
        by_cases z3 : ws (w * y + x) = ws (w * y + (x + 1))
        · rw [if_pos z3, b168_79, b168_80, if_pos (.inl rfl), decide_eq_false (fun q => q.2.2.2 (by rw [show w * y + (x + 1) - 1 = w * y + x by omega]; exact z3.symm))]
          rfl
        · rw [if_neg z3, b168_75, b168_80, if_pos (.inr rfl), decide_eq_true ⟨by omega, by omega, z2, by rw [show w * y + (x + 1) - 1 = w * y + x by omega]; exact fun q => z3 q.symm⟩]
          rfl
      · rw [if_neg (by rw [nn_lt (by omega) (by omega)]; exact z2), b168_31, decide_eq_false (by omega)]
        rfl
theorem waysC (h7 : I 5 0 7 = nn w) (h8 : I 5 0 8 = nn h) (hw8 : w ≤ 8) (hh8 : h ≤ 8) (hws : ∀ c, c < w * h → I 28 3 c = ws c) : ∃ wy : Nat → Int32, cal (d + 1) 167 [vr 2 0] (MX I J T) = some (.inl none, MX (upA I 29 0 wy) J T) ∧ ∀ c, c < (w + 1) * (h + 1) → wy c = cdw (eBd ws w h c) (sBd ws w h c) := by
  have hN := N81 hw8 hh8
  have inner : ∀ m x y (wy : Nat → Int32) (o4 o5 : Option AV), x + m = w + 1 → y ≤ h → (∀ c, c < (w + 1) * y + x → wy c = cdw (eBd ws w h c) (sBd ws w h c)) → ∃ (wy2 : Nat → Int32) (p3 p4 p5 : Option AV), den (d + 1) 167 23 [some (vr 2 0), some (vi (nn w)), some (vi (nn y)), some (vi (nn x)), o4, o5] [] (MX (upA I 29 0 wy) J T) = den (d + 1) 167 10 [some (vr 2 0), some (vi (nn w)), some (vi (nn (y + 1))), p3, p4, p5] [] (MX (upA I 29 0 wy2) J T) ∧ ∀ c, c < (w + 1) * (y + 1) → wy2 c = cdw (eBd ws w h c) (sBd ws w h c) := by
    intro m
    induction m with
    | zero =>
      intro x y wy o4 o5 hx hy hw
      refine ⟨wy, some (vi (nn x)), o4, o5, ?_, fun c hc => hw c (by rw [Nat.mul_succ] at hc; omega)⟩
      rw [b167_23, if_pos ((nn_lt (by omega) (by omega)).mpr (by omega)), nn_add1]
    | succ m ih =>
      intro x y wy o4 o5 hx hy hw
      have hy1 : (w + 1) * (y + 1) ≤ (w + 1) * (h + 1) := Nat.mul_le_mul_left (w + 1) (by omega)
      rw [Nat.mul_succ] at hy1
      have e1 := brdE d (ws := ws) (upA I 29 0 wy) J T h7 h8 hw8 hh8 hws (show x ≤ w by omega) hy
      have e2 := brdS d (ws := ws) (upA I 29 0 wy) J T h7 h8 hw8 hh8 hws (show x ≤ w by omega) hy
      have ei : nn y * (nn w + 1) + nn x = nn ((w + 1) * y + x) := by rw [nn_add1, nn_mul, nn_add, Nat.mul_comm]
      have ri : inR (nn ((w + 1) * y + x)) 81 = true := nn_inR (by omega) (by omega)
      have fin : ∀ (v : Int32) (o4 o5 : Option AV), v = cdw (eBd ws w h ((w + 1) * y + x)) (sBd ws w h ((w + 1) * y + x)) → ∃ (wy2 : Nat → Int32) (p3 p4 p5 : Option AV), den (d + 1) 167 23 [some (vr 2 0), some (vi (nn w)), some (vi (nn y)), some (vi (nn (x + 1))), o4, o5] [] (MX (upA I 29 0 (wu wy ((w + 1) * y + x) v)) J T) = den (d + 1) 167 10 [some (vr 2 0), some (vi (nn w)), some (vi (nn (y + 1))), p3, p4, p5] [] (MX (upA I 29 0 wy2) J T) ∧ ∀ c, c < (w + 1) * (y + 1) → wy2 c = cdw (eBd ws w h c) (sBd ws w h c) := by
        intro v o4 o5 hv
        refine ih (x + 1) y _ o4 o5 (by omega) hy (fun c hc => ?_)
        unfold wu
        by_cases z : c = (w + 1) * y + x
        · rw [if_pos z, z, hv]
        · rw [if_neg z]; exact hw c (by omega)
      rw [b167_23, if_neg (by rw [nn_lt (by omega) (by omega)]; omega), e1]
      simp only [ret9]
      rw [b167_38]
      have c1 : ∀ e : Bool, (if b01 e = 0 then ret9 (den (d + 1) 167) 167 55 58 [some (vr 2 0), some (vi (nn w)), some (vi (nn y)), some (vi (nn x)), some (vi 0), o5] [] (cal d 168 [vr 2 0, vi (nn x - 1), vi (nn y), vi (nn x), vi (nn y)] (MX (upA I 29 0 wy) J T)) else ret9 (den (d + 1) 167) 167 55 58 [some (vr 2 0), some (vi (nn w)), some (vi (nn y)), some (vi (nn x)), some (vi 1), o5] [] (cal d 168 [vr 2 0, vi (nn x - 1), vi (nn y), vi (nn x), vi (nn y)] (MX (upA I 29 0 wy) J T))) = ret9 (den (d + 1) 167) 167 55 58 [some (vr 2 0), some (vi (nn w)), some (vi (nn y)), some (vi (nn x)), some (vi (b01 e)), o5] [] (cal d 168 [vr 2 0, vi (nn x - 1), vi (nn y), vi (nn x), vi (nn y)] (MX (upA I 29 0 wy) J T)) := by
        intro e
        cases e
        · rw [if_pos (show b01 false = 0 from rfl)]; rfl
        · rw [if_neg (by decide)]; rfl
      rw [c1, e2]
      simp only [ret9]
      rw [b167_58, ei, if_pos ri, if_pos ri, nn_idx (by omega), nn_add1, upA_up3, upA_up3]
      cases hsb : sBd ws w h ((w + 1) * y + x) with
      | false =>
        rw [if_pos (show b01 false = 0 from rfl)]
        exact fin _ _ _ (by rw [hsb]; rfl)
      | true =>
        rw [if_neg (by decide)]
        exact fin _ _ _ (by rw [hsb]; rfl)
  have outer : ∀ m y (wy : Nat → Int32) (o3 o4 o5 : Option AV), y + m = h + 1 → (∀ c, c < (w + 1) * y → wy c = cdw (eBd ws w h c) (sBd ws w h c)) → ∃ wy2 : Nat → Int32, den (d + 1) 167 10 [some (vr 2 0), some (vi (nn w)), some (vi (nn y)), o3, o4, o5] [] (MX (upA I 29 0 wy) J T) = some (.inl none, MX (upA I 29 0 wy2) J T) ∧ ∀ c, c < (w + 1) * (h + 1) → wy2 c = cdw (eBd ws w h c) (sBd ws w h c) := by
    intro m
    induction m with
    | zero =>
      intro y wy o3 o4 o5 hy hw
      have e8 : (upA I 29 0 wy) 5 0 8 = nn h := h8
      refine ⟨wy, ?_, by rw [show h + 1 = y by omega]; exact hw⟩
      rw [b167_10, e8, if_pos ((nn_lt (by omega) (by omega)).mpr (by omega))]
    | succ m ih =>
      intro y wy o3 o4 o5 hy hw
      have e8 : (upA I 29 0 wy) 5 0 8 = nn h := h8
      obtain ⟨wy2, p3, p4, p5, e, q⟩ := inner (w + 1) 0 y wy o4 o5 (by omega) (by omega) hw
      obtain ⟨wy3, e3, q3⟩ := ih (y + 1) wy2 p3 p4 p5 (by omega) q
      refine ⟨wy3, ?_, q3⟩
      rw [b167_10, e8, if_neg (by rw [nn_lt (by omega) (by omega)]; omega)]
      exact e.trans e3
  obtain ⟨wy, e, q⟩ := outer (h + 1) 0 (I 29 0) none none none (by omega) (fun c hc => absurd hc (by omega))
  rw [upA_id] at e
  refine ⟨wy, ?_, q⟩
  rw [c167, h7]
  exact e
end DCC
