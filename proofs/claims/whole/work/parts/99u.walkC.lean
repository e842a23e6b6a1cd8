/-! The class walks a border -/
def fdB (P : Nat → Bool) (w h : Nat) : FD := fun x y => decide (0 ≤ x ∧ x < w ∧ 0 ≤ y ∧ y < h) && P (w * y.toNat + x.toNat)
theorem fdB_FB (P : Nat → Bool) (w h : Nat) : FB (fdB P w h) w h := by
  intro x y z
  unfold fdB at z
  exact of_decide_eq_true (Bool.and_eq_true_iff.mp z).1
def b01 (b : Bool) : Int32 := if b = true then 1 else 0
theorem an1 {k : Nat} (hk : k < 4) : (nn k + 1) &&& 3 = nn ((k + 1) % 4) := by rcases kq4 hk with rfl | rfl | rfl | rfl <;> decide
theorem an3 {k : Nat} (hk : k < 4) : (nn k + 3) &&& 3 = nn ((k + 3) % 4) := by rcases kq4 hk with rfl | rfl | rfl | rfl <;> decide
theorem r90 {k : Nat} (hk : k < 4) : roT 90 0 k = ii (dX k) := by rcases kq4 hk with rfl | rfl | rfl | rfl <;> decide
theorem r91 {k : Nat} (hk : k < 4) : roT 91 0 k = ii (dY k) := by rcases kq4 hk with rfl | rfl | rfl | rfl <;> decide
theorem r92 {k : Nat} (hk : k < 4) : roT 92 0 k = ii (cX k) := by rcases kq4 hk with rfl | rfl | rfl | rfl <;> decide
theorem r93 {k : Nat} (hk : k < 4) : roT 93 0 k = ii (cY k) := by rcases kq4 hk with rfl | rfl | rfl | rfl <;> decide
theorem cX_b (k : Nat) : -1 ≤ cX k ∧ cX k ≤ 0 := by
  unfold cX; split <;> omega
theorem cY_b (k : Nat) : -1 ≤ cY k ∧ cY k ≤ 0 := by
  unfold cY; split <;> omega
section WKC
variable (d : Nat) {w h : Nat} (I : PI) (J : PJ) (T : TL) {f : Int64}
theorem inC (h7 : I 5 0 7 = nn w) (h8 : I 5 0 8 = nn h) (hw : w ≤ 8) (hh : h ≤ 8) (hf : J 10 0 4 = f) {x y : Int} (hx1 : -100 ≤ x) (hx2 : x ≤ 100) (hy1 : -100 ≤ y) (hy2 : y ≤ 100) : cal d 150 [vr 10 0, vi (ii x), vi (ii y)] (MX I J T) = some (.inl (some (vi (b01 (fdB (bt f) w h x y)))), MX I J T) := by
  have h64 : w * h ≤ 64 := Nat.mul_le_mul hw hh
  rw [c150, h7, h8, hf, ← ii_nat, ← ii_nat]
  unfold b01 fdB
  have m1 : (ii x < 0) ↔ x < 0 := ii_lt (b := 0) (by omega) (by omega) (by omega) (by omega)
  have m2 : (ii (w : Int) ≤ ii x) ↔ (w : Int) ≤ x := ii_le (by omega) (by omega) (by omega) (by omega)
  have m3 : (ii y < 0) ↔ y < 0 := ii_lt (b := 0) (by omega) (by omega) (by omega) (by omega)
  have m4 : (ii (h : Int) ≤ ii y) ↔ (h : Int) ≤ y := ii_le (by omega) (by omega) (by omega) (by omega)
  by_cases z : 0 ≤ x ∧ x < w ∧ 0 ≤ y ∧ y < h
  · rw [if_neg (fun q => by have := m1.mp q; omega), if_neg (fun q => by have := m2.mp q; omega), if_neg (fun q => by have := m3.mp q; omega), if_neg (fun q => by have := m4.mp q; omega), decide_eq_true z, Bool.true_and]
    obtain ⟨a, rfl⟩ : ∃ a : Nat, x = a := ⟨x.toNat, by omega⟩
    obtain ⟨b, rfl⟩ : ∃ b : Nat, y = b := ⟨y.toNat, by omega⟩
    have hlt : w * b + a < w * h := by
      have h1 : w * (b + 1) ≤ w * h := Nat.mul_le_mul_left w (by omega)
      rw [Nat.mul_succ] at h1
      omega
    rw [ii_nat, ii_nat, ii_nat, nn_mul, nn_add, Int.toNat_natCast, Int.toNat_natCast, Nat.mul_comm b w]
    have hb := bit0 f (show w * b + a < 64 by omega)
    cases hc : bt f (w * b + a) with
    | true =>
      rw [if_neg (fun q => by rw [hb.mp q] at hc; cases hc), if_pos rfl]
    | false =>
      rw [if_pos (hb.mpr hc), if_neg (by decide)]
  · rw [decide_eq_false z, Bool.false_and, if_neg (show ¬ false = true by decide)]
    by_cases z1 : x < 0
    · rw [if_pos (m1.mpr z1)]
    · rw [if_neg (fun q => z1 (m1.mp q))]
      by_cases z2 : (w : Int) ≤ x
      · rw [if_pos (m2.mpr z2)]
      · rw [if_neg (fun q => z2 (m2.mp q))]
        by_cases z3 : y < 0
        · rw [if_pos (m3.mpr z3)]
        · rw [if_neg (fun q => z3 (m3.mp q)), if_pos (m4.mpr (by omega))]
theorem turnC (h7 : I 5 0 7 = nn w) (h8 : I 5 0 8 = nn h) (hw : w ≤ 8) (hh : h ≤ 8) (hf : J 10 0 4 = f) {x y : Int} (hx1 : -50 ≤ x) (hx2 : x ≤ 50) (hy1 : -50 ≤ y) (hy2 : y ≤ 50) {k : Nat} (hk : k < 4) : cal (d + 1) 149 [vr 10 0, vi (ii x), vi (ii y), vi (nn k)] (MX I J T) = some (.inl (some (vi (nn (tnW (fdB (bt f) w h) x y k)))), MX I J T) := by
  have hk2 : (k + 1) % 4 < 4 := by omega
  have a1 := cX_b ((k + 1) % 4)
  have a2 := cY_b ((k + 1) % 4)
  have a3 := cX_b k
  have a4 := cY_b k
  have q1 : inR (nn ((k + 1) % 4)) 4 = true := nn_inR hk2 (by omega)
  have q2 : inR (nn k) 4 = true := nn_inR hk (by omega)
  rw [c149, an1 hk, if_pos q1, if_pos q1, nn_idx (by omega), r92 hk2, r93 hk2, ii_add, ii_add, inC d I J T h7 h8 hw hh hf (by omega) (by omega) (by omega) (by omega)]
  simp only [ret9]
  rw [b149_27]
  show (if ¬ b01 (qd (fdB (bt f) w h) x y ((k + 1) % 4)) = 0 then _ else _) = _
  unfold tnW
  cases hr : qd (fdB (bt f) w h) x y ((k + 1) % 4) with
  | false =>
    rw [if_neg (fun q => q rfl)]
    rfl
  | true =>
    rw [if_pos (by decide), if_pos q2, if_pos q2, nn_idx (by omega), r92 hk, r93 hk, ii_add, ii_add, inC d I J T h7 h8 hw hh hf (by omega) (by omega) (by omega) (by omega)]
    simp only [ret9]
    rw [b149_51]
    show (if b01 (qd (fdB (bt f) w h) x y k) = 0 then _ else _) = _
    cases hl : qd (fdB (bt f) w h) x y k with
    | false =>
      rw [if_pos (show b01 false = 0 from rfl)]
      rfl
    | true =>
      rw [if_neg (by decide), an3 hk]
      rfl
/-- the class's memory while it walks -/
def WKm (I : PI) (tx ty sf : Nat → Int32) : PI := upA (upA (upA I 30 0 tx) 30 1 ty) 10 0 sf
theorem wk_0 (I : PI) (tx ty sf : Nat → Int32) (i : Nat) (v : Int32) : up3 (WKm I tx ty sf) 30 0 i v = WKm I (wu tx i v) ty sf := by
  unfold WKm
  funext a b c
  unfold up3 upA wu
  by_cases h1 : a = 30
  · subst h1; simp
    by_cases h2 : b = 0
    · subst h2; simp
    · simp [h2]
  · simp [h1]
theorem wk_1 (I : PI) (tx ty sf : Nat → Int32) (i : Nat) (v : Int32) : up3 (WKm I tx ty sf) 30 1 i v = WKm I tx (wu ty i v) sf := by
  unfold WKm
  funext a b c
  unfold up3 upA wu
  by_cases h1 : a = 30
  · subst h1; simp
    by_cases h2 : b = 1
    · subst h2; simp
    · simp [h2]
  · simp [h1]
theorem wk_10 (I : PI) (tx ty sf : Nat → Int32) (i : Nat) (v : Int32) : up3 (WKm I tx ty sf) 10 0 i v = WKm I tx ty (wu sf i v) := upA_up3 _ _ _ _ _ _
theorem wk_id (I : PI) (v : Int32) : WKm I (I 30 0) (I 30 1) (wu (I 10 0) 3 v) = up3 I 10 0 3 v := by
  rw [← wk_10]
  unfold WKm
  rw [upA_id, upA_id, upA_id]
/-- the arrays hold these stakes -/
def SKo (tx ty sf : Nat → Int32) (m : (Nat → Int) × (Nat → Int) × Nat) : Prop := sf 3 = nn m.2.2 ∧ ∀ j, j < m.2.2 → tx j = ii (m.1 j) ∧ ty j = ii (m.2.1 j)
theorem markC {tx ty sf : Nat → Int32} {X Y : Nat → Int} {c : Nat} (hc : c < 144) (hS : SKo tx ty sf (X, Y, c)) (x y : Int) : ∃ tx2 ty2 sf2 : Nat → Int32, cal d 148 [vr 10 0, vi (ii x), vi (ii y)] (MX (WKm I tx ty sf) J T) = some (.inl none, MX (WKm I tx2 ty2 sf2) J T) ∧ SKo tx2 ty2 sf2 (upZ X c x, upZ Y c y, c + 1) := by
  obtain ⟨h3, hj⟩ := hS
  dsimp only at h3 hj
  have q1 : inR (nn c) 144 = true := nn_inR hc (by omega)
  refine ⟨wu tx c (ii x), wu ty c (ii y), wu sf 3 (nn (c + 1)), ?_, rfl, fun j hj2 => ?_⟩
  · have e3 : (WKm I tx ty sf) 10 0 3 = nn c := h3
    rw [c148, e3, if_neg (by rw [show (144 : Int32) = nn 144 from rfl, nn_le (by omega) (by omega)]; omega), if_pos q1, if_pos q1, nn_idx (by omega), wk_0, wk_1, wk_10, nn_add1]
  · dsimp only at hj2 ⊢
    unfold wu upZ
    by_cases z : j = c
    · rw [if_pos z, if_pos z, if_pos z, if_pos z]; exact ⟨rfl, rfl⟩
    · rw [if_neg z, if_neg z, if_neg z, if_neg z]
      exact hj j (by omega)
theorem walkLp (hW : RelW I w h) (hw1 : 1 ≤ w) (hw8 : w ≤ 8) (hh8 : h ≤ 8) (hf : J 10 0 4 = f) {x0 y0 : Int} (hS : SCr (fdB (bt f) w h) x0 y0) {n : Nat} (hn : RET1 (fdB (bt f) w h) (x0, y0, 0) n) (y1 : Int64) (x3 : Int32) : ∀ q i (tx ty sf : Nat → Int32) (o10 : Option AV), i + q = n - 1 → SKo tx ty sf (mkW (fdB (bt f) w h) (x0, y0, 0) i) → ∃ tx2 ty2 sf2 : Nat → Int32, den (d + 2) 147 91 [some (vr 10 0), some (vl y1), none, some (vi x3), some (vi (ii x0)), some (vi (ii y0)), some (vi (ii (orb (fdB (bt f) w h) (x0, y0, 0) i).1)), some (vi (ii (orb (fdB (bt f) w h) (x0, y0, 0) i).2.1)), some (vi (nn (orb (fdB (bt f) w h) (x0, y0, 0) i).2.2)), some (vi (nn i)), o10] [] (MX (WKm I tx ty sf) J T) = some (.inl (some (vi 1)), MX (WKm I tx2 ty2 sf2) J T) ∧ SKo tx2 ty2 sf2 (mkW (fdB (bt f) w h) (x0, y0, 0) (n - 1)) := by
  have hB := fdB_FB (bt f) w h
  have tC := fun (tx ty sf : Nat → Int32) (x y : Int) (a1 : -50 ≤ x) (a2 : x ≤ 50) (a3 : -50 ≤ y) (a4 : y ≤ 50) (k : Nat) (hk : k < 4) => turnC d (w := w) (h := h) (f := f) (WKm I tx ty sf) J T hW.1 hW.2.1 hw8 hh8 hf a1 a2 a3 a4 hk
  generalize fdB (bt f) w h = F at *
  have hv := SC_VS hS
  intro q
  induction q with
  | zero =>
    intro i tx ty sf o10 hi hk
    have hi2 : i = n - 1 := by omega
    have h1 := hn.1
    have h144 := hn.2.1
    obtain ⟨v1, -, -⟩ := orb_VS hv i
    have hr := hn.2.2.1
    rw [show n = i + 1 by omega] at hr
    have hx : (orb F (x0, y0, 0) i).1 + dX (orb F (x0, y0, 0) i).2.2 = x0 := congrArg (fun s : WS => s.1) hr
    have hy : (orb F (x0, y0, 0) i).2.1 + dY (orb F (x0, y0, 0) i).2.2 = y0 := congrArg (fun s : WS => s.2.1) hr
    refine ⟨tx, ty, sf, ?_, by rw [← hi2]; exact hk⟩
    rw [b147_91, if_neg (by rw [show (144 : Int32) = nn 144 from rfl, nn_le (by omega) (by omega)]; omega), if_pos (nn_inR v1 (by omega)), if_pos (nn_inR v1 (by omega)), nn_idx (by omega), r90 v1, r91 v1, ii_add, ii_add, hx, hy, if_neg (fun q => q rfl), if_neg (fun q => q rfl)]
  | succ q ih =>
    intro i tx ty sf o10 hi hk
    have h144 := hn.2.1
    obtain ⟨v1, -, -⟩ := orb_VS hv i
    have hv2 := orb_VS hv (i + 1)
    have hb := VS_pos hB hv2
    have hb0 := VS_pos hB hv
    dsimp only at hb0
    have hx : (orb F (x0, y0, 0) (i + 1)).1 = (orb F (x0, y0, 0) i).1 + dX (orb F (x0, y0, 0) i).2.2 := rfl
    have hy : (orb F (x0, y0, 0) (i + 1)).2.1 = (orb F (x0, y0, 0) i).2.1 + dY (orb F (x0, y0, 0) i).2.2 := rfl
    have hkk : (orb F (x0, y0, 0) (i + 1)).2.2 = tnW F ((orb F (x0, y0, 0) i).1 + dX (orb F (x0, y0, 0) i).2.2) ((orb F (x0, y0, 0) i).2.1 + dY (orb F (x0, y0, 0) i).2.2) (orb F (x0, y0, 0) i).2.2 := rfl
    have hns : ¬ ((orb F (x0, y0, 0) (i + 1)).1 = x0 ∧ (orb F (x0, y0, 0) (i + 1)).2.1 = y0) := by
      intro ⟨e1, e2⟩
      have hv3 := hv2
      have hne := hn.2.2.2 (i + 1) (by omega) (by omega)
      generalize orb F (x0, y0, 0) (i + 1) = s at *
      obtain ⟨a, b, k⟩ := s
      dsimp only at e1 e2
      subst e1 e2
      exact hne (by rw [SC_one hS hv3])
    have hc := mkW_c F (x0, y0, 0) i
    -- behind the turn
    have ts := tC tx ty sf (orb F (x0, y0, 0) (i + 1)).1 (orb F (x0, y0, 0) (i + 1)).2.1 (by omega) (by omega) (by omega) (by omega) (orb F (x0, y0, 0) i).2.2 v1
    rw [hx, hy, ← hkk, ← hx, ← hy] at ts
    have hk4 := hv2.1
    have e0 : den (d + 2) 147 91 [some (vr 10 0), some (vl y1), none, some (vi x3), some (vi (ii x0)), some (vi (ii y0)), some (vi (ii (orb F (x0, y0, 0) i).1)), some (vi (ii (orb F (x0, y0, 0) i).2.1)), some (vi (nn (orb F (x0, y0, 0) i).2.2)), some (vi (nn i)), o10] [] (MX (WKm I tx ty sf) J T) = den (d + 2) 147 148 [some (vr 10 0), some (vl y1), none, some (vi x3), some (vi (ii x0)), some (vi (ii y0)), some (vi (ii (orb F (x0, y0, 0) (i + 1)).1)), some (vi (ii (orb F (x0, y0, 0) (i + 1)).2.1)), some (vi (nn (orb F (x0, y0, 0) i).2.2)), some (vi (nn i)), o10] [vi (nn (orb F (x0, y0, 0) (i + 1)).2.2)] (MX (WKm I tx ty sf) J T) := by
      rw [b147_91, if_neg (by rw [show (144 : Int32) = nn 144 from rfl, nn_le (by omega) (by omega)]; omega), if_pos (nn_inR v1 (by omega)), if_pos (nn_inR v1 (by omega)), nn_idx (by omega), r90 v1, r91 v1, ii_add, ii_add, ← hx, ← hy, ts]
      simp only [ret9]
      by_cases z1 : (orb F (x0, y0, 0) (i + 1)).1 = x0
      · rw [if_neg (fun y => y (by rw [z1])), if_pos (fun y => hns ⟨z1, (ii_inj (by omega) (by omega) (by omega) (by omega)).mp y⟩)]
      · rw [if_pos (fun y => z1 ((ii_inj (by omega) (by omega) (by omega) (by omega)).mp y))]
    rw [e0, b147_148]
    by_cases ze : (orb F (x0, y0, 0) (i + 1)).2.2 = (orb F (x0, y0, 0) i).2.2
    · obtain ⟨tx2, ty2, sf2, e1, q1⟩ := ih (i + 1) tx ty sf (some (vi (nn (orb F (x0, y0, 0) (i + 1)).2.2))) (by omega) (by rw [mkW_same ze]; exact hk)
      refine ⟨tx2, ty2, sf2, ?_, q1⟩
      rw [if_pos (by rw [ze]), nn_add1, ← ze]
      exact e1
    · obtain ⟨tx3, ty3, sf3, e3, q3⟩ := markC (d + 1) I J T (X := (mkW F (x0, y0, 0) i).1) (Y := (mkW F (x0, y0, 0) i).2.1) (c := (mkW F (x0, y0, 0) i).2.2) (by omega) hk (orb F (x0, y0, 0) (i + 1)).1 (orb F (x0, y0, 0) (i + 1)).2.1
      obtain ⟨tx2, ty2, sf2, e1, q1⟩ := ih (i + 1) tx3 ty3 sf3 (some (vi (nn (orb F (x0, y0, 0) (i + 1)).2.2))) (by omega) (by rw [mkW_turn ze]; exact q3)
      refine ⟨tx2, ty2, sf2, ?_, q1⟩
      rw [if_neg (fun y => ze ((nn_inj (by omega) (by omega)).mp y)), e3]
      simp only [ret9]
      rw [b147_165, nn_add1]
      exact e1
end WKC
