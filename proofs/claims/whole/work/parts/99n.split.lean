/-! Splitting a field: the reference's borders, its search -/
theorem sd_1 {w h s : Nat} {F : Nat → Bool} {sd : Nat → Int32} (hS : SDok w h F s sd) {e : Nat} (he : e < w * h) : (sd e = 1 ↔ prtP F s e = true) ∧ (sd e = 0 ↔ rstP F s e = true) := by
  rw [hS e he]
  unfold prtP rstP
  by_cases z : F e = true
  · rw [if_pos z, z]
    by_cases y : s.testBit (cn F e) = true
    · rw [if_pos y, y]; exact ⟨⟨fun _ => rfl, fun _ => rfl⟩, ⟨fun x => absurd x (by decide), fun x => by cases x⟩⟩
    · have y2 : s.testBit (cn F e) = false := by cases q : s.testBit (cn F e) with | false => rfl | true => exact absurd q y
      rw [if_neg y, y2]; exact ⟨⟨fun x => absurd x (by decide), fun x => by cases x⟩, ⟨fun _ => rfl, fun _ => rfl⟩⟩
  · have z2 : F e = false := by cases q : F e with | false => rfl | true => exact absurd q z
    rw [if_neg z, z2]; exact ⟨⟨fun x => absurd x (by decide), fun x => by cases x⟩, ⟨fun x => absurd x (by decide), fun x => by cases x⟩⟩
def tW (w h : Nat) (F : Nat → Bool) (s c wy : Nat) : Nat := if prtP F s c = true ∧ nbI w h (rstP F s) c wy = true then 1 else 0
section SPLN
variable (d : Nat) {w h : Nat} (I : PI) (J : PJ) (T : TL) {k m : Nat} {F : Nat → Bool}
theorem way1 (hg : GW I w h) {rw : Nat → Int32} {s : Nat} {sd : Nat → Int32} (hS : SDok w h F s sd) {c : Nat} (hc : c < w * h) (hrc : rw (cn F c) = nn c) (Q S : Nat → Int32) (x1 lo hi x4 x5 x6 x7 x8 x9 : Int32) {B wy : Nat} (hwy : wy < 4) (o13 : Option AV) : ∃ p13 : Option AV, den (d + 2) 271 251 [some (vr 14 0), some (vi x1), some (vi lo), some (vi hi), some (vi x4), some (vi x5), some (vi x6), some (vi x7), some (vi x8), some (vi x9), some (vi (nn B)), some (vi (nn (cn F c))), some (vi (nn wy)), o13] [] (MX (SMM I sd rw Q S) J T) = den (d + 2) 271 251 [some (vr 14 0), some (vi x1), some (vi lo), some (vi hi), some (vi x4), some (vi x5), some (vi x6), some (vi x7), some (vi x8), some (vi x9), some (vi (nn (B + tW w h F s c wy))), some (vi (nn (cn F c))), some (vi (nn (wy + 1))), p13] [] (MX (SMM I sd rw Q S) J T) := by
  have h64 : w * h ≤ 64 := Nat.mul_le_mul hg.2.2.2.1 hg.2.2.2.2.2
  have hle := cn_le F c
  have hr : inR (nn (cn F c)) 64 = true := nn_inR (by omega) (by omega)
  have hr2 : inR (nn c) 64 = true := nn_inR (by omega) (by omega)
  have eb := besM d (w := w) (h := h) (c := c) (s := wy) (SMM I sd rw Q S) J T hg hc hwy
  refine ⟨some (vi (oi (nb w h c wy))), ?_⟩
  have e0 : den (d + 2) 271 251 [some (vr 14 0), some (vi x1), some (vi lo), some (vi hi), some (vi x4), some (vi x5), some (vi x6), some (vi x7), some (vi x8), some (vi x9), some (vi (nn B)), some (vi (nn (cn F c))), some (vi (nn wy)), o13] [] (MX (SMM I sd rw Q S) J T) = (if ¬ sd c = 1 then den (d + 2) 271 310 [some (vr 14 0), some (vi x1), some (vi lo), some (vi hi), some (vi x4), some (vi x5), some (vi x6), some (vi x7), some (vi x8), some (vi x9), some (vi (nn B)), some (vi (nn (cn F c))), some (vi (nn wy)), some (vi (oi (nb w h c wy)))] [vi (nn B)] (MX (SMM I sd rw Q S) J T) else den (d + 2) 271 290 [some (vr 14 0), some (vi x1), some (vi lo), some (vi hi), some (vi x4), some (vi x5), some (vi x6), some (vi x7), some (vi x8), some (vi x9), some (vi (nn B)), some (vi (nn (cn F c))), some (vi (nn wy)), some (vi (oi (nb w h c wy)))] [vi (nn B)] (MX (SMM I sd rw Q S) J T)) := by
    rw [b271_251, if_neg (by rw [show (4 : Int32) = nn 4 from rfl, nn_le (by omega) (by omega)]; omega), b271_257, if_pos hr, nn_idx (by omega)]
    show ret9 _ _ _ _ _ _ (cal (d + 1) 234 [vr 14 0, vi (rw (cn F c)), vi (nn wy)] _) = _
    rw [hrc, eb]
    simp only [ret9]
    rw [b271_270, b271_272, if_pos hr, nn_idx (by omega)]
    show (if inR (rw (cn F c)) 64 = true then (if ¬ sd (Int32.toNatClampNeg (rw (cn F c))) = 1 then _ else _) else none) = _
    rw [hrc, if_pos hr2, nn_idx (by omega)]
  have fin0 : tW w h F s c wy = 0 → den (d + 2) 271 310 [some (vr 14 0), some (vi x1), some (vi lo), some (vi hi), some (vi x4), some (vi x5), some (vi x6), some (vi x7), some (vi x8), some (vi x9), some (vi (nn B)), some (vi (nn (cn F c))), some (vi (nn wy)), some (vi (oi (nb w h c wy)))] [vi (nn B)] (MX (SMM I sd rw Q S) J T) = den (d + 2) 271 251 [some (vr 14 0), some (vi x1), some (vi lo), some (vi hi), some (vi x4), some (vi x5), some (vi x6), some (vi x7), some (vi x8), some (vi x9), some (vi (nn (B + tW w h F s c wy))), some (vi (nn (cn F c))), some (vi (nn (wy + 1))), some (vi (oi (nb w h c wy)))] [] (MX (SMM I sd rw Q S) J T) := by
    intro z
    rw [z, b271_310, b271_311, b271_314, b271_317, nn_add1, show (0 : Int32) = nn 0 from rfl, nn_add]
  obtain ⟨s1, -⟩ := sd_1 hS hc
  rw [e0]
  by_cases z : sd c = 1
  · rw [if_neg (fun y => y z), b271_290]
    cases hnb : nb w h c wy with
    | none =>
      rw [hnb] at fin0
      rw [if_pos oi_n]
      refine fin0 ?_
      unfold tW
      rw [if_neg (fun y => by obtain ⟨e, h1, _⟩ := nbI_iff.mp y.2; rw [hnb] at h1; cases h1)]
    | some e =>
      have he := nb_lt hg.2.2.1 hc hnb
      obtain ⟨-, s2⟩ := sd_1 hS he
      rw [hnb] at fin0
      rw [if_neg (oi_s (by omega)), oi_e, b271_296, if_pos (nn_inR (by omega) (by omega)), nn_idx (by omega)]
      show (if ¬ sd e = 0 then _ else _) = _
      by_cases y : sd e = 0
      · rw [if_neg (fun x => x y), b271_306, b271_311, b271_314, b271_317, nn_add1, nn_add1]
        unfold tW
        rw [if_pos ⟨s1.mp z, nbI_iff.mpr ⟨e, hnb, s2.mp y⟩⟩]
      · rw [if_pos y]
        refine fin0 ?_
        unfold tW
        rw [if_neg (fun x => by
          obtain ⟨e2, h1, h2⟩ := nbI_iff.mp x.2
          rw [hnb] at h1
          cases h1
          exact y (s2.mpr h2))]
  · rw [if_pos z]
    refine fin0 ?_
    unfold tW
    rw [if_neg (fun y => z (s1.mpr y.1))]
theorem tW4 (w h : Nat) (F : Nat → Bool) (s c : Nat) : tW w h F s c 0 + tW w h F s c 1 + tW w h F s c 2 + tW w h F s c 3 = if prtP F s c = true then nb4 w h (rstP F s) c else 0 := by
  unfold tW nb4
  by_cases z : prtP F s c = true
  · simp only [z, true_and, if_true]
    omega
  · simp [z]
theorem tW_le (w h : Nat) (F : Nat → Bool) (s c wy : Nat) : tW w h F s c wy ≤ 1 := by unfold tW; split <;> omega
theorem bordLp (hg : GW I w h) (hm : cn F (w * h) = m) {rw : Nat → Int32} (hrw : ∀ e, e < w * h → F e = true → rw (cn F e) = nn e) {s : Nat} {sd : Nat → Int32} (hS : SDok w h F s sd) (Q S : Nat → Int32) (x1 lo hi x5 x6 x7 x8 x9 : Int32) : ∀ q c (o12 o13 : Option AV), c + q = w * h → ∃ p12 p13 : Option AV, den (d + 2) 271 241 [some (vr 14 0), some (vi x1), some (vi lo), some (vi hi), some (vi (nn m)), some (vi x5), some (vi x6), some (vi x7), some (vi x8), some (vi x9), some (vi (nn (sQ (fun c => if prtP F s c = true then nb4 w h (rstP F s) c else 0) c))), some (vi (nn (cn F c))), o12, o13] [] (MX (SMM I sd rw Q S) J T) = den (d + 2) 271 326 [some (vr 14 0), some (vi x1), some (vi lo), some (vi hi), some (vi (nn m)), some (vi x5), some (vi x6), some (vi x7), some (vi x8), some (vi x9), some (vi (nn (BDR w h F s))), some (vi (nn m)), p12, p13] [] (MX (SMM I sd rw Q S) J T) := by
  have h64 : w * h ≤ 64 := Nat.mul_le_mul hg.2.2.2.1 hg.2.2.2.2.2
  have hmle := cn_le F (w * h)
  intro q
  induction q with
  | zero =>
    intro c o12 o13 hc
    have : c = w * h := by omega
    subst this
    refine ⟨o12, o13, ?_⟩
    rw [hm, b271_241, if_pos (Int32.le_refl _)]
    unfold BDR
    rw [swapG hg.2.2.1 (rstP F s) (prtP F s)]
  | succ q ih =>
    intro c o12 o13 hc
    have hsu := cn_succ F c
    have hmono := cn_mono2 F (show c + 1 ≤ w * h by omega)
    have hB : sQ (fun c => if prtP F s c = true then nb4 w h (rstP F s) c else 0) (c + 1) = sQ (fun c => if prtP F s c = true then nb4 w h (rstP F s) c else 0) c + (if prtP F s c = true then nb4 w h (rstP F s) c else 0) := rfl
    by_cases z : F c = true
    · rw [if_pos z] at hsu
      have hrc := hrw c (by omega) z
      generalize hBB : sQ (fun c => if prtP F s c = true then nb4 w h (rstP F s) c else 0) c = B at hB
      obtain ⟨p1, e1⟩ := way1 d I J T hg hS (show c < w * h by omega) hrc Q S x1 lo hi (nn m) x5 x6 x7 x8 x9 (B := B) (wy := 0) (by omega) o13
      obtain ⟨p2, e2⟩ := way1 d I J T hg hS (show c < w * h by omega) hrc Q S x1 lo hi (nn m) x5 x6 x7 x8 x9 (B := B + tW w h F s c 0) (wy := 1) (by omega) p1
      obtain ⟨p3, e3⟩ := way1 d I J T hg hS (show c < w * h by omega) hrc Q S x1 lo hi (nn m) x5 x6 x7 x8 x9 (B := B + tW w h F s c 0 + tW w h F s c 1) (wy := 2) (by omega) p2
      obtain ⟨p4, e4⟩ := way1 d I J T hg hS (show c < w * h by omega) hrc Q S x1 lo hi (nn m) x5 x6 x7 x8 x9 (B := B + tW w h F s c 0 + tW w h F s c 1 + tW w h F s c 2) (wy := 3) (by omega) p3
      obtain ⟨p12, p13, e5⟩ := ih (c + 1) (some (vi (nn 4))) p4 (by omega)
      refine ⟨p12, p13, ?_⟩
      rw [b271_241, if_neg (by rw [nn_le (by omega) (by omega)]; omega), b271_248]
      refine (e1.trans (e2.trans (e3.trans e4))).trans ?_
      rw [b271_251, if_pos (by decide), b271_320, b271_323, nn_add1, ← hsu]
      rw [hB, ← tW4, ← Nat.add_assoc, ← Nat.add_assoc, ← Nat.add_assoc] at e5
      exact e5
    · rw [if_neg z, Nat.add_zero] at hsu
      obtain ⟨p12, p13, e5⟩ := ih (c + 1) o12 o13 (by omega)
      refine ⟨p12, p13, ?_⟩
      rw [hB, hsu, if_neg (by unfold prtP; intro y; exact z (Bool.and_eq_true_iff.mp y).1), Nat.add_zero] at e5
      exact e5
end SPLN
