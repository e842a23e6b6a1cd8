/-! The reference walks a border -/
def WMm (I : PI) (st : Nat → Int32) (v : Int32) : PI := up3 (upA I 32 0 st) 14 0 50 v
theorem wm_32 (I : PI) (st : Nat → Int32) (v : Int32) (i : Nat) (x : Int32) : up3 (WMm I st v) 32 0 i x = WMm I (wu st i x) v := by
  unfold WMm
  funext a b c
  unfold up3 upA wu
  by_cases h1 : a = 32
  · subst h1; simp
    by_cases h2 : b = 0
    · subst h2; simp
    · simp [h2]
  · simp [h1]
theorem wm_50 (I : PI) (st : Nat → Int32) (v x : Int32) : up3 (WMm I st v) 14 0 50 x = WMm I st x := by
  unfold WMm
  funext a b c
  unfold up3
  by_cases h1 : a = 14
  · subst h1; simp
    by_cases h2 : b = 0
    · subst h2; simp
      by_cases h3 : c = 50
      · subst h3; simp
      · simp [h3]
    · simp [h2]
  · simp [h1]
theorem wm_id (I : PI) (v : Int32) : WMm I (I 32 0) v = up3 I 14 0 50 v := by
  unfold WMm
  rw [upA_id]
theorem ii_s1 (x : Int) : ii x - 1 = ii (x - 1) := ii_sub x 1
section WKM
variable (d : Nat) {w h : Nat} (I : PI) (J : PJ) (T : TL) {k : Nat}
theorem isM (hg : GW I w h) {x y : Int} (hx1 : -100 ≤ x) (hx2 : x ≤ 100) (hy1 : -100 ≤ y) (hy2 : y ≤ 100) : cal (d + 1) 268 [vr 14 0, vi (nn k), vi (ii x), vi (ii y)] (MX I J T) = some (.inl (some (vi (b01 (fdB (fun c => decide (I 28 7 c = nn k)) w h x y)))), MX I J T) := by
  obtain ⟨hw, hh, hw1, hw8, hh1, hh8⟩ := id hg
  have h64 : w * h ≤ 64 := Nat.mul_le_mul hw8 hh8
  unfold b01 fdB
  have s1 : nn w - 1 = ii ((w : Int) - 1) := by rw [← ii_nat]; exact ii_sub _ 1
  have s2 : nn h - 1 = ii ((h : Int) - 1) := by rw [← ii_nat]; exact ii_sub _ 1
  have m1 : ((0 : Int32) ≤ ii x) ↔ 0 ≤ x := ii_le (a := 0) (by omega) (by omega) (by omega) (by omega)
  have m2 : (ii x ≤ ii ((w : Int) - 1)) ↔ x ≤ (w : Int) - 1 := ii_le (by omega) (by omega) (by omega) (by omega)
  have m3 : ((0 : Int32) ≤ ii y) ↔ 0 ≤ y := ii_le (a := 0) (by omega) (by omega) (by omega) (by omega)
  have m4 : (ii y ≤ ii ((h : Int) - 1)) ↔ y ≤ (h : Int) - 1 := ii_le (by omega) (by omega) (by omega) (by omega)
  rw [c268, inM, hw, s1]
  simp only [ret9]
  rw [b268_11]
  by_cases zx : 0 ≤ x ∧ x < w
  · rw [bi1 ⟨m1.mpr zx.1, m2.mpr (by omega)⟩, if_neg (by decide), inM, hh, s2]
    simp only [ret9]
    rw [b268_25]
    by_cases zy : 0 ≤ y ∧ y < h
    · obtain ⟨a, rfl⟩ : ∃ a : Nat, x = a := ⟨x.toNat, by omega⟩
      obtain ⟨b, rfl⟩ : ∃ b : Nat, y = b := ⟨y.toNat, by omega⟩
      have hlt : w * b + a < w * h := by
        have h1 : w * (b + 1) ≤ w * h := Nat.mul_le_mul_left w (by omega)
        rw [Nat.mul_succ] at h1
        omega
      rw [bi1 ⟨m3.mpr zy.1, m4.mpr (by omega)⟩, if_neg (by decide), hw, ii_nat, ii_nat, nn_mul, nn_add, if_pos (nn_inR (by omega) (by omega)), nn_idx (by omega), decide_eq_true ⟨zx.1, zx.2, zy.1, zy.2⟩, Bool.true_and, Int.toNat_natCast, Int.toNat_natCast]
      by_cases z : I 28 7 (w * b + a) = nn k
      · rw [if_neg (fun q => q z), if_pos (decide_eq_true z)]
      · rw [if_pos z, if_neg (fun q => z (of_decide_eq_true q))]
    · rw [bi0 (fun q => zy ⟨m3.mp q.1, by have := m4.mp q.2; omega⟩), if_pos rfl, decide_eq_false (fun q => zy q.2.2), Bool.false_and, if_neg (by decide)]
  · rw [bi0 (fun q => zx ⟨m1.mp q.1, by have := m2.mp q.2; omega⟩), if_pos rfl, decide_eq_false (fun q => zx ⟨q.1, q.2.1⟩), Bool.false_and, if_neg (by decide)]

theorem wmA0 {x y : Int} {v x2 : Int32} (hv : ¬ v = 0) (st : Nat → Int32) (o6 o7 o8 o9 o10 o11 o12 o13 : Option AV) : den (d + 1) 267 41 [some (vr 14 0), some (vi (nn k)), some (vi x2), some (vi (ii x)), some (vi (ii y)), some (vi 0), o6, o7, o8, o9, o10, o11, o12, o13] [] (MX (WMm I st v) J T) = ret9 (den (d + 1) 267) 267 218 221 [some (vr 14 0), some (vi (nn k)), some (vi x2), some (vi (ii (x + dX 0))), some (vi (ii (y + dY 0))), some (vi 0), some (vi (ii (dX 0))), some (vi (ii (dY 0))), some (vi (ii (x + dX 0))), some (vi (ii (y + dY 0))), some (vi (ii (x + dX 0))), some (vi (ii ((y + dY 0) - 1))), o12, o13] [] (cal d 268 [vr 14 0, vi (nn k), vi (ii (x + dX 0)), vi (ii (y + dY 0))] (MX (WMm I st v) J T)) := by
  have hv2 : ¬ (WMm I st v) 14 0 50 = 0 := hv
  rw [b267_41, if_neg (by decide), b267_61, if_pos (by decide), if_pos (by decide), b267_84, if_pos hv2, b267_115, if_pos (by decide), b267_138, b267_145, if_pos (by decide), b267_158, b267_167, if_pos (by decide), b267_180, b267_187, if_neg (by decide), if_pos (by decide), b267_210]
  simp only [show (1 : Int32) = ii 1 from rfl, show (0 : Int32) = ii 0 from rfl, ii_add, ii_sub]
  rfl

theorem wmA1 {x y : Int} {v x2 : Int32} (hv : ¬ v = 0) (st : Nat → Int32) (o6 o7 o8 o9 o10 o11 o12 o13 : Option AV) : den (d + 1) 267 41 [some (vr 14 0), some (vi (nn k)), some (vi x2), some (vi (ii x)), some (vi (ii y)), some (vi 1), o6, o7, o8, o9, o10, o11, o12, o13] [] (MX (WMm I st v) J T) = ret9 (den (d + 1) 267) 267 218 221 [some (vr 14 0), some (vi (nn k)), some (vi x2), some (vi (ii (x + dX 1))), some (vi (ii (y + dY 1))), some (vi 1), some (vi (ii (dX 1))), some (vi (ii (dY 1))), some (vi (ii ((x + dX 1) - 1))), some (vi (ii (y + dY 1))), some (vi (ii (x + dX 1))), some (vi (ii (y + dY 1))), o12, o13] [] (cal d 268 [vr 14 0, vi (nn k), vi (ii ((x + dX 1) - 1)), vi (ii (y + dY 1))] (MX (WMm I st v) J T)) := by
  have hv2 : ¬ (WMm I st v) 14 0 50 = 0 := hv
  rw [b267_41, if_pos (by decide), if_pos (by decide), b267_61, if_neg (by decide), b267_84, if_pos hv2, b267_115, if_neg (by decide), if_pos (by decide), b267_145, if_neg (by decide), if_neg (by decide), b267_158, b267_167, if_neg (by decide), if_neg (by decide), b267_180, b267_187, if_pos (by decide), b267_201, b267_210]
  simp only [show (1 : Int32) = ii 1 from rfl, show (0 : Int32) = ii 0 from rfl, ii_add, ii_sub]
  rfl

theorem wmA2 {x y : Int} {v x2 : Int32} (hv : ¬ v = 0) (st : Nat → Int32) (o6 o7 o8 o9 o10 o11 o12 o13 : Option AV) : den (d + 1) 267 41 [some (vr 14 0), some (vi (nn k)), some (vi x2), some (vi (ii x)), some (vi (ii y)), some (vi 2), o6, o7, o8, o9, o10, o11, o12, o13] [] (MX (WMm I st v) J T) = ret9 (den (d + 1) 267) 267 218 221 [some (vr 14 0), some (vi (nn k)), some (vi x2), some (vi (ii (x + dX 2))), some (vi (ii (y + dY 2))), some (vi 2), some (vi (ii (dX 2))), some (vi (ii (dY 2))), some (vi (ii ((x + dX 2) - 1))), some (vi (ii ((y + dY 2) - 1))), some (vi (ii ((x + dX 2) - 1))), some (vi (ii (y + dY 2))), o12, o13] [] (cal d 268 [vr 14 0, vi (nn k), vi (ii ((x + dX 2) - 1)), vi (ii ((y + dY 2) - 1))] (MX (WMm I st v) J T)) := by
  have hv2 : ¬ (WMm I st v) 14 0 50 = 0 := hv
  rw [b267_41, if_pos (by decide), if_neg (by decide), b267_61, if_pos (by decide), if_pos (by decide), b267_84, if_pos hv2, b267_115, if_neg (by decide), if_pos (by decide), b267_145, if_neg (by decide), if_pos (by decide), b267_167, if_neg (by decide), if_pos (by decide), b267_187, if_neg (by decide), if_neg (by decide), b267_201, b267_210]
  rw [show (-1 : Int32) = ii (-1) from rfl]
  simp only [show (1 : Int32) = ii 1 from rfl, show (0 : Int32) = ii 0 from rfl, ii_add, ii_sub]
  rfl

theorem wmA3 {x y : Int} {v x2 : Int32} (hv : ¬ v = 0) (st : Nat → Int32) (o6 o7 o8 o9 o10 o11 o12 o13 : Option AV) : den (d + 1) 267 41 [some (vr 14 0), some (vi (nn k)), some (vi x2), some (vi (ii x)), some (vi (ii y)), some (vi 3), o6, o7, o8, o9, o10, o11, o12, o13] [] (MX (WMm I st v) J T) = ret9 (den (d + 1) 267) 267 218 221 [some (vr 14 0), some (vi (nn k)), some (vi x2), some (vi (ii (x + dX 3))), some (vi (ii (y + dY 3))), some (vi 3), some (vi (ii (dX 3))), some (vi (ii (dY 3))), some (vi (ii (x + dX 3))), some (vi (ii ((y + dY 3) - 1))), some (vi (ii ((x + dX 3) - 1))), some (vi (ii ((y + dY 3) - 1))), o12, o13] [] (cal d 268 [vr 14 0, vi (nn k), vi (ii (x + dX 3)), vi (ii ((y + dY 3) - 1))] (MX (WMm I st v) J T)) := by
  have hv2 : ¬ (WMm I st v) 14 0 50 = 0 := hv
  rw [b267_41, if_pos (by decide), if_pos (by decide), b267_61, if_pos (by decide), if_neg (by decide), b267_84, if_pos hv2, b267_115, if_neg (by decide), if_neg (by decide), b267_138, b267_145, if_neg (by decide), if_pos (by decide), b267_167, if_neg (by decide), if_pos (by decide), b267_187, if_neg (by decide), if_pos (by decide), b267_210]
  rw [show (-1 : Int32) = ii (-1) from rfl]
  simp only [show (1 : Int32) = ii 1 from rfl, show (0 : Int32) = ii 0 from rfl, ii_add, ii_sub]
  rfl

end WKM
