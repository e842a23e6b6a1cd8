/-! The calls stakes, stake, within -/
theorem fdB_congr {P Q : Nat → Bool} {w h : Nat} (e : ∀ c, c < w * h → P c = Q c) : fdB P w h = fdB Q w h := by
  funext x y
  unfold fdB
  by_cases z : 0 ≤ x ∧ x < w ∧ 0 ≤ y ∧ y < h
  · rw [decide_eq_true z, Bool.true_and, Bool.true_and]
    apply e
    obtain ⟨a, rfl⟩ : ∃ a : Nat, x = a := ⟨x.toNat, by omega⟩
    obtain ⟨b, rfl⟩ : ∃ b : Nat, y = b := ⟨y.toNat, by omega⟩
    rw [Int.toNat_natCast, Int.toNat_natCast]
    have h1 : w * (b + 1) ≤ w * h := Nat.mul_le_mul_left w (by omega)
    rw [Nat.mul_succ] at h1
    omega
  · rw [decide_eq_false z, Bool.false_and, Bool.false_and]
theorem WKS_congr {P Q : Nat → Bool} {w h s n : Nat} (hw : 1 ≤ w) (e : ∀ c, c < w * h → P c = Q c) (hK : WKS P w h s n) : WKS Q w h s n ∧ STK Q w h s n = STK P w h s n := by
  obtain ⟨k1, k2, k3, k4, k5⟩ := hK
  unfold WKS STK
  rw [← fdB_congr e]
  exact ⟨⟨k1, by rw [← e s k1]; exact k2, fun j hj => by rw [← e j (by omega)]; exact k3 j hj, (HT_iff hw e).mp k4, k5⟩, rfl⟩
section STS
variable (d : Nat) {w h : Nat} (I : PI) (J : PJ) (T : TL) {k : Nat}
theorem walksM (hg : GW I w h) {s n : Nat} (hK : WKS (fun c => decide (I 28 7 c = nn k)) w h s n) : ∃ st : Nat → Int32, cal (d + 2) 267 [vr 14 0, vi (nn k)] (MX I J T) = some (.inl none, MX (WMm I st (nn (STK (fun c => decide (I 28 7 c = nn k)) w h s n).2.2)) J T) ∧ SMo w st (STK (fun c => decide (I 28 7 c = nn k)) w h s n) := by
  obtain ⟨hw, hh, hw1, hw8, hh1, hh8⟩ := id hg
  have h64 : w * h ≤ 64 := Nat.mul_le_mul hw8 hh8
  obtain ⟨k1, k2, k3, k4, k5⟩ := hK
  have hS := SC_of hw1 k1 k2 k3
  have hw0 : ¬ I 14 0 22 = 0 := by rw [hw, eq0n (by omega)]; omega
  have e1 : ∀ q c, c + q = s → den (d + 2) 267 2 [some (vr 14 0), some (vi (nn k)), some (vi (nn c)), none, none, none, none, none, none, none, none, none, none, none] [] (MX I J T) = den (d + 2) 267 41 [some (vr 14 0), some (vi (nn k)), some (vi (nn s)), some (vi (nn (s % w))), some (vi (nn (s / w))), some (vi 0), none, none, none, none, none, none, none, none] [] (MX (up3 I 14 0 50 0) J T) := by
    intro q
    induction q with
    | zero =>
      intro c hc
      have : c = s := by omega
      subst this
      rw [b267_2, if_pos (nn_inR (by omega) (by omega)), nn_idx (by omega), if_pos (of_decide_eq_true k2), if_neg hw0, if_neg hw0, hw, nn_rem (by omega) (by omega), nn_div (by omega) (by omega)]
    | succ q ih =>
      intro c hc
      rw [b267_2, if_pos (nn_inR (by omega) (by omega)), nn_idx (by omega), if_neg (of_decide_eq_false (k3 c (by omega))), nn_add1, ih (c + 1) (by omega)]
  have e2 : den (d + 2) 267 41 [some (vr 14 0), some (vi (nn k)), some (vi (nn s)), some (vi (nn (s % w))), some (vi (nn (s / w))), some (vi 0), none, none, none, none, none, none, none, none] [] (MX (up3 I 14 0 50 0) J T) = den (d + 2) 267 41 [some (vr 14 0), some (vi (nn k)), some (vi (nn s)), some (vi (nn (s % w))), some (vi (nn (s / w))), some (vi 0), none, none, none, none, none, none, none, none] [] (MX (WMm I (wu (I 32 0) 0 (ii (((w : Int) + 1) * ((s / w : Nat) : Int) + ((s % w : Nat) : Int)))) 1) J T) := by
    have v1 : ∀ (st : Nat → Int32), ¬ (WMm I st 1) 14 0 50 = 0 := fun st => (by decide : ¬ (1 : Int32) = 0)
    have v0 : (up3 I 14 0 50 0) 14 0 50 = 0 := rfl
    have hx : ((((up3 I 14 0 50 0) 14 0 22) + 1) * nn (s / w)) + nn (s % w) = ii (((w : Int) + 1) * ((s / w : Nat) : Int) + ((s % w : Nat) : Int)) := by
      show ((I 14 0 22 + 1) * nn (s / w)) + nn (s % w) = _
      rw [hw, ← ii_nat, ← ii_nat, ← ii_nat, show (1 : Int32) = ii 1 from rfl, ii_add, ii_mul, ii_add]
    rw [b267_41, if_neg (by decide), b267_61, if_pos (by decide), if_pos (by decide), b267_84, if_neg (fun q => q v0), hx]
    rw [b267_41, if_neg (by decide), b267_61, if_pos (by decide), if_pos (by decide), b267_84, if_pos (v1 _)]
    rw [← wm_id I 0, wm_32, wm_50]
  obtain ⟨st, e3, q3⟩ := wmLp d I J T hg rfl k1 hS k5 (n - 1) 0 (wu (I 32 0) 0 (ii (((w : Int) + 1) * ((s / w : Nat) : Int) + ((s % w : Nat) : Int)))) none none none none none none none none (by omega) (fun j hj => by
    have hj0 : j = 0 := by have : j < 1 := hj; omega
    subst hj0
    rfl)
  refine ⟨st, ?_, q3⟩
  rw [c267]
  exact (e1 s 0 (by omega)).trans (e2.trans e3)
def FLD (w h : Nat) (P : Nat → Bool) : Prop := 0 < cn P (w * h) ∧ HT w h P
theorem isFM (hg : GW I w h) (hn : I 14 0 24 = nn (w * h)) : ∃ Q S : Nat → Int32, cal (d + 3) 266 [vr 14 0, vi (nn k)] (MX I J T) = some (.inl (some (vi (bi (FLD w h (fun c => decide (I 28 7 c = nn k)))))), MX (HM I Q S) J T) := by
  obtain ⟨hw, hh, hw1, hw8, hh1, hh8⟩ := id hg
  have h64 : w * h ≤ 64 := Nat.mul_le_mul hw8 hh8
  have hle := cn_le (fun c => decide (I 28 7 c = nn k)) (w * h)
  have my := manyM (d + 2) (nn k) I J T hn h64
  rw [ct_cn] at my
  rw [c266, my]
  simp only [ret9]
  rw [b266_5]
  by_cases z : cn (fun c => decide (I 28 7 c = nn k)) (w * h) = 0
  · refine ⟨I 28 8, I 39 1, ?_⟩
    rw [if_pos (by rw [le0 (by omega)]; exact z), bi0 (fun q => by have := q.1; omega), hm_id]
  · obtain ⟨Q, S, e1⟩ := hangM d (w := w) (h := h) (j := 7) (x := nn k) I J T hg hn (by decide)
    refine ⟨Q, S, ?_⟩
    rw [if_neg (by rw [le0 (by omega)]; exact z), e1]
    simp only [ret9]
    rw [b266_17]
    by_cases y : HT w h (fun c => decide (I 28 7 c = nn k))
    · rw [bi1 y, if_neg (by decide), bi1 ⟨by omega, y⟩]
    · rw [bi0 y, if_pos rfl, bi0 (fun q => y q.2)]
end STS
