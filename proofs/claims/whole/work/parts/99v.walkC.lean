/-! A walk's start; all of a field that hangs together is walked around -/
theorem dmw {w q r : Nat} (hr : r < w) : (w * q + r) % w = r ∧ (w * q + r) / w = q := by
  constructor
  · rw [Nat.mul_add_mod, Nat.mod_eq_of_lt hr]
  · rw [Nat.mul_add_div (by omega), Nat.div_eq_of_lt hr, Nat.add_zero]
theorem fdB_at {P : Nat → Bool} {w h c : Nat} (hw : 1 ≤ w) (hc : c < w * h) : fdB P w h ((c % w : Nat) : Int) ((c / w : Nat) : Int) = P c := by
  have m1 : c % w < w := Nat.mod_lt _ (by omega)
  have m2 : c / w < h := Nat.div_lt_of_lt_mul hc
  unfold fdB
  rw [decide_eq_true ⟨Int.natCast_nonneg _, Int.ofNat_lt.mpr m1, Int.natCast_nonneg _, Int.ofNat_lt.mpr m2⟩, Bool.true_and, Int.toNat_natCast, Int.toNat_natCast, Nat.div_add_mod]
theorem fdB_in {P : Nat → Bool} {w h : Nat} {x y : Int} (hz : fdB P w h x y = true) : ∃ c, c < w * h ∧ P c = true ∧ x = ((c % w : Nat) : Int) ∧ y = ((c / w : Nat) : Int) := by
  have hb := fdB_FB P w h x y hz
  unfold fdB at hz
  have h2 := (Bool.and_eq_true_iff.mp hz).2
  obtain ⟨a, rfl⟩ : ∃ a : Nat, x = a := ⟨x.toNat, by omega⟩
  obtain ⟨b, rfl⟩ : ∃ b : Nat, y = b := ⟨y.toNat, by omega⟩
  rw [Int.toNat_natCast, Int.toNat_natCast] at h2
  obtain ⟨d1, d2⟩ := dmw (q := b) (show a < w by omega)
  refine ⟨w * b + a, ?_, h2, by rw [d1], by rw [d2]⟩
  have h1 : w * (b + 1) ≤ w * h := Nat.mul_le_mul_left w (by omega)
  rw [Nat.mul_succ] at h1
  omega
theorem fdB_out {P : Nat → Bool} {w h : Nat} {x y : Int} (hP : ∀ c, c < w * h → x = ((c % w : Nat) : Int) → y = ((c / w : Nat) : Int) → P c = false) : fdB P w h x y = false := by
  cases z : fdB P w h x y with
  | false => rfl
  | true =>
    obtain ⟨c, h1, h2, h3, h4⟩ := fdB_in z
    rw [hP c h1 h3 h4] at h2
    cases h2
theorem SC_of {P : Nat → Bool} {w h s : Nat} (hw : 1 ≤ w) (hs : s < w * h) (h1 : P s = true) (h2 : ∀ j, j < s → P j = false) : SCr (fdB P w h) ((s % w : Nat) : Int) ((s / w : Nat) : Int) := by
  have m1 : s % w < w := Nat.mod_lt _ (by omega)
  have m3 : w * (s / w) + s % w = s := Nat.div_add_mod s w
  refine ⟨by rw [fdB_at hw hs]; exact h1, ?_, fun a => ?_⟩
  · apply fdB_out
    intro c hc e1 e2
    have m4 : w * (c / w) + c % w = c := Nat.div_add_mod c w
    have e3 : c / w = s / w := by omega
    rw [e3] at m4
    exact h2 c (by omega)
  · apply fdB_out
    intro c hc e1 e2
    have m4 : w * (c / w) + c % w = c := Nat.div_add_mod c w
    have m5 : c % w < w := Nat.mod_lt _ (by omega)
    have e3 : c / w + 1 = s / w := by omega
    have e4 : w * (c / w + 1) = w * (s / w) := by rw [e3]
    rw [Nat.mul_succ] at e4
    exact h2 c (by omega)
theorem WN_all {P : Nat → Bool} {w h s n : Nat} (hw : 1 ≤ w) (hs : s < w * h) (h1 : P s = true) (h2 : ∀ j, j < s → P j = false) (hn : RET1 (fdB P w h) (((s % w : Nat) : Int), ((s / w : Nat) : Int), 0) n) (hH : HT w h P) : ∀ x y, fdB P w h x y = true → 1 ≤ WN (fdB P w h) (((s % w : Nat) : Int), ((s / w : Nat) : Int), 0) n x y := by
  have hS := SC_of hw hs h1 h2
  have hst := WN_st hS hn
  intro x y hz
  obtain ⟨c, c1, c2, rfl, rfl⟩ := fdB_in hz
  have key := hH s hs h1 h2 (fun c => P c && decide (1 ≤ WN (fdB P w h) (((s % w : Nat) : Int), ((s / w : Nat) : Int), 0) n ((c % w : Nat) : Int) ((c / w : Nat) : Int))) (by
    show (P s && _) = true
    rw [h1, Bool.true_and]
    exact decide_eq_true hst) (fun a e ha hr hae hp => by
    have hr1 : P a = true := (Bool.and_eq_true_iff.mp hr).1
    have hr2 := of_decide_eq_true (Bool.and_eq_true_iff.mp hr).2
    have he := adj_lt hw ha hae
    have f1 := fdB_at (P := P) hw ha
    have f2 := fdB_at (P := P) hw he
    rw [hr1] at f1
    rw [hp] at f2
    show (P e && _) = true
    rw [hp, Bool.true_and]
    apply decide_eq_true
    have m1 : a % w < w := Nat.mod_lt _ (by omega)
    have m3 : w * (a / w) + a % w = a := Nat.div_add_mod a w
    rcases adj_iff.mp hae with ⟨z1, z2⟩ | ⟨z1, z2⟩ | ⟨z1, z2⟩ | ⟨z1, z2⟩
    · have hd := dmw (q := a / w) (show a % w + 1 < w from z1)
      rw [show w * (a / w) + (a % w + 1) = e by omega] at hd
      rw [hd.1, hd.2] at f2 ⊢
      have q := WN_he (n := n) hS (x := ((a % w + 1 : Nat) : Int)) (y := ((a / w : Nat) : Int)) (by
        rw [f2, show ((a % w + 1 : Nat) : Int) - 1 = ((a % w : Nat) : Int) by omega, f1])
      rw [q, show ((a % w + 1 : Nat) : Int) - 1 = ((a % w : Nat) : Int) by omega]
      exact hr2
    · have hd := dmw (q := a / w) (show a % w - 1 < w by omega)
      rw [show w * (a / w) + (a % w - 1) = e by omega] at hd
      rw [hd.1, hd.2] at f2 ⊢
      have q := WN_he (n := n) hS (x := ((a % w : Nat) : Int)) (y := ((a / w : Nat) : Int)) (by
        rw [f1, show ((a % w : Nat) : Int) - 1 = ((a % w - 1 : Nat) : Int) by omega, f2])
      rw [show ((a % w - 1 : Nat) : Int) = ((a % w : Nat) : Int) - 1 by omega, ← q]
      exact hr2
    · have hq : 1 ≤ a / w := (Nat.le_div_iff_mul_le (by omega)).mpr (by omega)
      have hm : w * (a / w) = w * (a / w - 1) + w := by
        rw [← Nat.mul_succ]; congr 1; omega
      have hd := dmw (q := a / w - 1) m1
      rw [show w * (a / w - 1) + a % w = e by omega] at hd
      rw [hd.1, hd.2] at f2 ⊢
      have q := WN_ve hS hn (x := ((a % w : Nat) : Int)) (y := ((a / w : Nat) : Int)) (by
        rw [f1, show ((a / w : Nat) : Int) - 1 = ((a / w - 1 : Nat) : Int) by omega, f2])
      rw [show ((a / w - 1 : Nat) : Int) = ((a / w : Nat) : Int) - 1 by omega, ← q]
      exact hr2
    · have hm : w * (a / w + 1) = w * (a / w) + w := Nat.mul_succ _ _
      have hd := dmw (q := a / w + 1) m1
      rw [show w * (a / w + 1) + a % w = e by omega] at hd
      rw [hd.1, hd.2] at f2 ⊢
      have q := WN_ve hS hn (x := ((a % w : Nat) : Int)) (y := ((a / w + 1 : Nat) : Int)) (by
        rw [f2, show ((a / w + 1 : Nat) : Int) - 1 = ((a / w : Nat) : Int) by omega, f1])
      rw [q, show ((a / w + 1 : Nat) : Int) - 1 = ((a / w : Nat) : Int) by omega]
      exact hr2) c c1 c2
  exact of_decide_eq_true (Bool.and_eq_true_iff.mp key).2
/-- a field that has a border to be walked: its least cell, the steps around -/
def WKS (P : Nat → Bool) (w h s n : Nat) : Prop := s < w * h ∧ P s = true ∧ (∀ j, j < s → P j = false) ∧ HT w h P ∧ RET1 (fdB P w h) (((s % w : Nat) : Int), ((s / w : Nat) : Int), 0) n
/-- its stakes -/
def STK (P : Nat → Bool) (w h s n : Nat) : (Nat → Int) × (Nat → Int) × Nat := mkW (fdB P w h) (((s % w : Nat) : Int), ((s / w : Nat) : Int), 0) (n - 1)
theorem WKS_ex {P : Nat → Bool} {w h : Nat} (hw1 : 1 ≤ w) (hw8 : w ≤ 8) (hh8 : h ≤ 8) (hH : HT w h P) {c : Nat} (hc : c < w * h) (hP : P c = true) : ∃ s n, WKS P w h s n := by
  obtain ⟨s, h1, h2, h3⟩ := least_ex P (w * h) ⟨c, hc, hP⟩
  obtain ⟨n, hn⟩ := ret_ex (fdB_FB P w h) hw8 hh8 (SC_VS (SC_of hw1 h1 h2 h3))
  exact ⟨s, n, h1, h2, h3, hH, hn⟩
theorem STK_c {P : Nat → Bool} {w h s n : Nat} (hK : WKS P w h s n) : 1 ≤ (STK P w h s n).2.2 ∧ (STK P w h s n).2.2 ≤ 144 := by
  have h1 := mkW_c (fdB P w h) (((s % w : Nat) : Int), ((s / w : Nat) : Int), 0) (n - 1)
  have h2 := hK.2.2.2.2.1
  have h3 := hK.2.2.2.2.2.1
  unfold STK
  omega
theorem STK_pos {P : Nat → Bool} {w h s n : Nat} (hw1 : 1 ≤ w) (hK : WKS P w h s n) (j : Nat) : 0 ≤ (STK P w h s n).1 j ∧ (STK P w h s n).1 j ≤ w ∧ 0 ≤ (STK P w h s n).2.1 j ∧ (STK P w h s n).2.1 j ≤ h :=
  mkW_pos (fdB_FB P w h) (SC_VS (SC_of hw1 hK.1 hK.2.1 hK.2.2.1)) (n - 1) j
section WKD
variable (d : Nat) {w h : Nat} (I : PI) (J : PJ) (T : TL) {f : Int64}
theorem walkC0 (hW : RelW I w h) (hp : 0 < w * h) (hM : RelM J w h) (hf : ∀ c, bt f c = true → c < w * h) (hno : ¬ (¬ f = 0 ∧ HT w h (bt f))) : cal (d + 3) 147 [vr 10 0, vl f] (MX I J T) = some (.inl (some (vi 0)), MX (up3 I 10 0 3 0) (up3 J 10 0 4 f) T) := by
  have h64 := relW_le hW
  obtain ⟨-, -, hw1, hw8, hh1, hh8⟩ := relGW hW hp
  have hM2 : RelM (up3 J 10 0 4 f) w h := hM
  have hg1 := hangC (d + 2) (w := w) (h := h) f (up3 I 10 0 3 0) (up3 J 10 0 4 f) T hW.1 hW.2.2.1 hp hM2 hw1 hw8 h64 hf
  rw [c147]
  by_cases z : f = 0
  · rw [if_pos ((lg0 f 0).mpr z)]
  · rw [if_neg (fun q => z ((lg0 f 0).mp q)), if_neg (by rw [hW.1, le0 (by omega)]; omega), hg1]
    simp only [ret9]
    rw [b147_42, bi0 (fun q => hno ⟨z, q⟩), if_neg (fun q => q rfl)]
theorem walkC1 (hW : RelW I w h) (hp : 0 < w * h) (hM : RelM J w h) (hf : ∀ c, bt f c = true → c < w * h) {s n : Nat} (hK : WKS (bt f) w h s n) : ∃ tx ty sf : Nat → Int32, cal (d + 3) 147 [vr 10 0, vl f] (MX I J T) = some (.inl (some (vi 1)), MX (WKm I tx ty sf) (up3 J 10 0 4 f) T) ∧ SKo tx ty sf (STK (bt f) w h s n) := by
  have h64 := relW_le hW
  obtain ⟨-, -, hw1, hw8, hh1, hh8⟩ := relGW hW hp
  obtain ⟨k1, k2, k3, k4, k5⟩ := hK
  have hM2 : RelM (up3 J 10 0 4 f) w h := hM
  have hS := SC_of hw1 k1 k2 k3
  have hg1 := hangC (d + 2) (w := w) (h := h) f (up3 I 10 0 3 0) (up3 J 10 0 4 f) T hW.1 hW.2.2.1 hp hM2 hw1 hw8 h64 hf
  have lc := leastC (d + 1) (f := f) (s := s) (up3 I 10 0 3 0) (up3 J 10 0 4 f) T k2 k3
  have zf : ¬ f = 0 := fun q => by rw [q, bt_zero] at k2; cases k2
  have hw0 : ¬ I 5 0 7 = 0 := by rw [hW.1, eq0n (by omega)]; omega
  obtain ⟨tx3, ty3, sf3, e3, q3⟩ := markC (d + 2) I (up3 J 10 0 4 f) T (X := fun _ => ((s % w : Nat) : Int)) (Y := fun _ => ((s / w : Nat) : Int)) (c := 0) (tx := I 30 0) (ty := I 30 1) (sf := wu (I 10 0) 3 0) (by omega) ⟨rfl, fun j hj => absurd hj (by show ¬ j < 0; omega)⟩ ((s % w : Nat) : Int) ((s / w : Nat) : Int)
  have q3' : SKo tx3 ty3 sf3 (mkW (fdB (bt f) w h) (((s % w : Nat) : Int), ((s / w : Nat) : Int), 0) 0) := by
    refine ⟨q3.1, fun j hj => ?_⟩
    have := q3.2 j hj
    have hj0 : j = 0 := by have : j < 1 := hj; omega
    subst hj0
    exact this
  obtain ⟨tx, ty, sf, e4, q4⟩ := walkLp (d + 1) I (up3 J 10 0 4 f) T hW hw1 hw8 hh8 rfl hS k5 f (nn w) (n - 1) 0 tx3 ty3 sf3 none (by omega) q3'
  refine ⟨tx, ty, sf, ?_, q4⟩
  rw [wk_id] at e3
  rw [c147, if_neg (fun q => zf ((lg0 f 0).mp q)), if_neg (by rw [hW.1, le0 (by omega)]; omega), hg1]
  simp only [ret9]
  rw [b147_42, bi1 k4, if_pos (by decide)]
  show ret9 _ _ _ _ _ _ (cal (d + 2) 107 [vl f] _) = _
  rw [lc]
  simp only [ret9]
  rw [b147_54, if_neg hw0]
  show ret9 _ _ _ _ _ _ (cal (d + 2) 107 [vl f] _) = _
  rw [lc]
  simp only [ret9]
  rw [b147_65, if_neg hw0, hW.1, nn_rem (by omega) (by omega), nn_div (by omega) (by omega), ← ii_nat (s % w), ← ii_nat (s / w), e3]
  simp only [ret9]
  rw [b147_88]
  exact e4
end WKD
