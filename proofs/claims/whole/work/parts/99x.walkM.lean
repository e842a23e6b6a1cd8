/-! The reference walks a border: all of it -/
section WKN
variable (d : Nat) {w h : Nat} (I : PI) (J : PJ) (T : TL) {k : Nat}
theorem wmB (hg : GW I w h) {x y : Int} (hx1 : -50 ≤ x) (hx2 : x ≤ 50) (hy1 : -50 ≤ y) (hy2 : y ≤ 50) {v x2 : Int32} (hv : ¬ v = 0) (st : Nat → Int32) {kk : Nat} (hk : kk < 4) (o6 o7 o8 o9 o10 o11 o12 o13 : Option AV) : ∃ (t : Nat) (p6 p7 p8 p9 p10 p11 : Int32), t % 4 = tnW (fdB (fun c => decide (I 28 7 c = nn k)) w h) (x + dX kk) (y + dY kk) kk ∧ t < 8 ∧ den (d + 2) 267 41 [some (vr 14 0), some (vi (nn k)), some (vi x2), some (vi (ii x)), some (vi (ii y)), some (vi (nn kk)), o6, o7, o8, o9, o10, o11, o12, o13] [] (MX (WMm I st v) J T) = den (d + 2) 267 252 [some (vr 14 0), some (vi (nn k)), some (vi x2), some (vi (ii (x + dX kk))), some (vi (ii (y + dY kk))), some (vi (nn kk)), some (vi p6), some (vi p7), some (vi p8), some (vi p9), some (vi p10), some (vi p11), o12, o13] [vi (nn t)] (MX (WMm I st v) J T) := by
  have gw : GW (WMm I st v) w h := hg
  rcases kq4 hk with rfl | rfl | rfl | rfl
  · have dx : dX 0 = 1 := rfl
    have dy : dY 0 = 0 := rfl
    have eR := isM d (k := k) (WMm I st v) J T gw (x := (x + dX 0)) (y := (y + dY 0)) (by omega) (by omega) (by omega) (by omega)
    have eL := isM d (k := k) (WMm I st v) J T gw (x := (x + dX 0)) (y := ((y + dY 0) - 1)) (by omega) (by omega) (by omega) (by omega)
    have qR : fdB (fun c => decide ((WMm I st v) 28 7 c = nn k)) w h (x + dX 0) (y + dY 0) = qd (fdB (fun c => decide (I 28 7 c = nn k)) w h) (x + dX 0) (y + dY 0) 1 := (qd_1 _ _ _).symm
    have qL : fdB (fun c => decide ((WMm I st v) 28 7 c = nn k)) w h (x + dX 0) ((y + dY 0) - 1) = qd (fdB (fun c => decide (I 28 7 c = nn k)) w h) (x + dX 0) (y + dY 0) 0 := (qd_0 _ _ _).symm
    rw [qR] at eR
    rw [qL] at eL
    unfold tnW
    show ∃ (t : Nat) (p6 p7 p8 p9 p10 p11 : Int32), t % 4 = tnB (qd (fdB (fun c => decide (I 28 7 c = nn k)) w h) (x + dX 0) (y + dY 0) 1) (qd (fdB (fun c => decide (I 28 7 c = nn k)) w h) (x + dX 0) (y + dY 0) 0) 0 ∧ t < 8 ∧ den (d + 2) 267 41 [some (vr 14 0), some (vi (nn k)), some (vi x2), some (vi (ii x)), some (vi (ii y)), some (vi 0), o6, o7, o8, o9, o10, o11, o12, o13] [] _ = den (d + 2) 267 252 [some (vr 14 0), some (vi (nn k)), some (vi x2), some (vi (ii (x + dX 0))), some (vi (ii (y + dY 0))), some (vi 0), some (vi p6), some (vi p7), some (vi p8), some (vi p9), some (vi p10), some (vi p11), o12, o13] [vi (nn t)] _
    rw [wmA0 (d + 1) I J T hv st, eR]
    simp only [ret9]
    rw [b267_221]
    cases qd (fdB (fun c => decide (I 28 7 c = nn k)) w h) (x + dX 0) (y + dY 0) 1 with
    | false =>
      refine ⟨1, ii (dX 0), ii (dY 0), ii (x + dX 0), ii (y + dY 0), ii (x + dX 0), ii ((y + dY 0) - 1), rfl, by decide, ?_⟩
      rw [if_neg (by decide)]
      rfl
    | true =>
      rw [if_pos (by decide), eL]
      simp only [ret9]
      rw [b267_240]
      cases qd (fdB (fun c => decide (I 28 7 c = nn k)) w h) (x + dX 0) (y + dY 0) 0 with
      | false =>
        refine ⟨0, ii (dX 0), ii (dY 0), ii (x + dX 0), ii (y + dY 0), ii (x + dX 0), ii ((y + dY 0) - 1), by decide, by decide, ?_⟩
        rw [if_pos (by decide)]
        rfl
      | true =>
        refine ⟨3, ii (dX 0), ii (dY 0), ii (x + dX 0), ii (y + dY 0), ii (x + dX 0), ii ((y + dY 0) - 1), by decide, by decide, ?_⟩
        rw [if_neg (by decide)]
        rfl
  · have dx : dX 1 = 0 := rfl
    have dy : dY 1 = 1 := rfl
    have eR := isM d (k := k) (WMm I st v) J T gw (x := ((x + dX 1) - 1)) (y := (y + dY 1)) (by omega) (by omega) (by omega) (by omega)
    have eL := isM d (k := k) (WMm I st v) J T gw (x := (x + dX 1)) (y := (y + dY 1)) (by omega) (by omega) (by omega) (by omega)
    have qR : fdB (fun c => decide ((WMm I st v) 28 7 c = nn k)) w h ((x + dX 1) - 1) (y + dY 1) = qd (fdB (fun c => decide (I 28 7 c = nn k)) w h) (x + dX 1) (y + dY 1) 2 := (qd_2 _ _ _).symm
    have qL : fdB (fun c => decide ((WMm I st v) 28 7 c = nn k)) w h (x + dX 1) (y + dY 1) = qd (fdB (fun c => decide (I 28 7 c = nn k)) w h) (x + dX 1) (y + dY 1) 1 := (qd_1 _ _ _).symm
    rw [qR] at eR
    rw [qL] at eL
    unfold tnW
    show ∃ (t : Nat) (p6 p7 p8 p9 p10 p11 : Int32), t % 4 = tnB (qd (fdB (fun c => decide (I 28 7 c = nn k)) w h) (x + dX 1) (y + dY 1) 2) (qd (fdB (fun c => decide (I 28 7 c = nn k)) w h) (x + dX 1) (y + dY 1) 1) 1 ∧ t < 8 ∧ den (d + 2) 267 41 [some (vr 14 0), some (vi (nn k)), some (vi x2), some (vi (ii x)), some (vi (ii y)), some (vi 1), o6, o7, o8, o9, o10, o11, o12, o13] [] _ = den (d + 2) 267 252 [some (vr 14 0), some (vi (nn k)), some (vi x2), some (vi (ii (x + dX 1))), some (vi (ii (y + dY 1))), some (vi 1), some (vi p6), some (vi p7), some (vi p8), some (vi p9), some (vi p10), some (vi p11), o12, o13] [vi (nn t)] _
    rw [wmA1 (d + 1) I J T hv st, eR]
    simp only [ret9]
    rw [b267_221]
    cases qd (fdB (fun c => decide (I 28 7 c = nn k)) w h) (x + dX 1) (y + dY 1) 2 with
    | false =>
      refine ⟨2, ii (dX 1), ii (dY 1), ii ((x + dX 1) - 1), ii (y + dY 1), ii (x + dX 1), ii (y + dY 1), rfl, by decide, ?_⟩
      rw [if_neg (by decide)]
      rfl
    | true =>
      rw [if_pos (by decide), eL]
      simp only [ret9]
      rw [b267_240]
      cases qd (fdB (fun c => decide (I 28 7 c = nn k)) w h) (x + dX 1) (y + dY 1) 1 with
      | false =>
        refine ⟨1, ii (dX 1), ii (dY 1), ii ((x + dX 1) - 1), ii (y + dY 1), ii (x + dX 1), ii (y + dY 1), by decide, by decide, ?_⟩
        rw [if_pos (by decide)]
        rfl
      | true =>
        refine ⟨4, ii (dX 1), ii (dY 1), ii ((x + dX 1) - 1), ii (y + dY 1), ii (x + dX 1), ii (y + dY 1), by decide, by decide, ?_⟩
        rw [if_neg (by decide)]
        rfl
  · have dx : dX 2 = -1 := rfl
    have dy : dY 2 = 0 := rfl
    have eR := isM d (k := k) (WMm I st v) J T gw (x := ((x + dX 2) - 1)) (y := ((y + dY 2) - 1)) (by omega) (by omega) (by omega) (by omega)
    have eL := isM d (k := k) (WMm I st v) J T gw (x := ((x + dX 2) - 1)) (y := (y + dY 2)) (by omega) (by omega) (by omega) (by omega)
    have qR : fdB (fun c => decide ((WMm I st v) 28 7 c = nn k)) w h ((x + dX 2) - 1) ((y + dY 2) - 1) = qd (fdB (fun c => decide (I 28 7 c = nn k)) w h) (x + dX 2) (y + dY 2) 3 := (qd_3 _ _ _).symm
    have qL : fdB (fun c => decide ((WMm I st v) 28 7 c = nn k)) w h ((x + dX 2) - 1) (y + dY 2) = qd (fdB (fun c => decide (I 28 7 c = nn k)) w h) (x + dX 2) (y + dY 2) 2 := (qd_2 _ _ _).symm
    rw [qR] at eR
    rw [qL] at eL
    unfold tnW
    show ∃ (t : Nat) (p6 p7 p8 p9 p10 p11 : Int32), t % 4 = tnB (qd (fdB (fun c => decide (I 28 7 c = nn k)) w h) (x + dX 2) (y + dY 2) 3) (qd (fdB (fun c => decide (I 28 7 c = nn k)) w h) (x + dX 2) (y + dY 2) 2) 2 ∧ t < 8 ∧ den (d + 2) 267 41 [some (vr 14 0), some (vi (nn k)), some (vi x2), some (vi (ii x)), some (vi (ii y)), some (vi 2), o6, o7, o8, o9, o10, o11, o12, o13] [] _ = den (d + 2) 267 252 [some (vr 14 0), some (vi (nn k)), some (vi x2), some (vi (ii (x + dX 2))), some (vi (ii (y + dY 2))), some (vi 2), some (vi p6), some (vi p7), some (vi p8), some (vi p9), some (vi p10), some (vi p11), o12, o13] [vi (nn t)] _
    rw [wmA2 (d + 1) I J T hv st, eR]
    simp only [ret9]
    rw [b267_221]
    cases qd (fdB (fun c => decide (I 28 7 c = nn k)) w h) (x + dX 2) (y + dY 2) 3 with
    | false =>
      refine ⟨3, ii (dX 2), ii (dY 2), ii ((x + dX 2) - 1), ii ((y + dY 2) - 1), ii ((x + dX 2) - 1), ii (y + dY 2), rfl, by decide, ?_⟩
      rw [if_neg (by decide)]
      rfl
    | true =>
      rw [if_pos (by decide), eL]
      simp only [ret9]
      rw [b267_240]
      cases qd (fdB (fun c => decide (I 28 7 c = nn k)) w h) (x + dX 2) (y + dY 2) 2 with
      | false =>
        refine ⟨2, ii (dX 2), ii (dY 2), ii ((x + dX 2) - 1), ii ((y + dY 2) - 1), ii ((x + dX 2) - 1), ii (y + dY 2), by decide, by decide, ?_⟩
        rw [if_pos (by decide)]
        rfl
      | true =>
        refine ⟨5, ii (dX 2), ii (dY 2), ii ((x + dX 2) - 1), ii ((y + dY 2) - 1), ii ((x + dX 2) - 1), ii (y + dY 2), by decide, by decide, ?_⟩
        rw [if_neg (by decide)]
        rfl
  · have dx : dX 3 = 0 := rfl
    have dy : dY 3 = -1 := rfl
    have eR := isM d (k := k) (WMm I st v) J T gw (x := (x + dX 3)) (y := ((y + dY 3) - 1)) (by omega) (by omega) (by omega) (by omega)
    have eL := isM d (k := k) (WMm I st v) J T gw (x := ((x + dX 3) - 1)) (y := ((y + dY 3) - 1)) (by omega) (by omega) (by omega) (by omega)
    have qR : fdB (fun c => decide ((WMm I st v) 28 7 c = nn k)) w h (x + dX 3) ((y + dY 3) - 1) = qd (fdB (fun c => decide (I 28 7 c = nn k)) w h) (x + dX 3) (y + dY 3) 0 := (qd_0 _ _ _).symm
    have qL : fdB (fun c => decide ((WMm I st v) 28 7 c = nn k)) w h ((x + dX 3) - 1) ((y + dY 3) - 1) = qd (fdB (fun c => decide (I 28 7 c = nn k)) w h) (x + dX 3) (y + dY 3) 3 := (qd_3 _ _ _).symm
    rw [qR] at eR
    rw [qL] at eL
    unfold tnW
    show ∃ (t : Nat) (p6 p7 p8 p9 p10 p11 : Int32), t % 4 = tnB (qd (fdB (fun c => decide (I 28 7 c = nn k)) w h) (x + dX 3) (y + dY 3) 0) (qd (fdB (fun c => decide (I 28 7 c = nn k)) w h) (x + dX 3) (y + dY 3) 3) 3 ∧ t < 8 ∧ den (d + 2) 267 41 [some (vr 14 0), some (vi (nn k)), some (vi x2), some (vi (ii x)), some (vi (ii y)), some (vi 3), o6, o7, o8, o9, o10, o11, o12, o13] [] _ = den (d + 2) 267 252 [some (vr 14 0), some (vi (nn k)), some (vi x2), some (vi (ii (x + dX 3))), some (vi (ii (y + dY 3))), some (vi 3), some (vi p6), some (vi p7), some (vi p8), some (vi p9), some (vi p10), some (vi p11), o12, o13] [vi (nn t)] _
    rw [wmA3 (d + 1) I J T hv st, eR]
    simp only [ret9]
    rw [b267_221]
    cases qd (fdB (fun c => decide (I 28 7 c = nn k)) w h) (x + dX 3) (y + dY 3) 0 with
    | false =>
      refine ⟨4, ii (dX 3), ii (dY 3), ii (x + dX 3), ii ((y + dY 3) - 1), ii ((x + dX 3) - 1), ii ((y + dY 3) - 1), rfl, by decide, ?_⟩
      rw [if_neg (by decide)]
      rfl
    | true =>
      rw [if_pos (by decide), eL]
      simp only [ret9]
      rw [b267_240]
      cases qd (fdB (fun c => decide (I 28 7 c = nn k)) w h) (x + dX 3) (y + dY 3) 3 with
      | false =>
        refine ⟨3, ii (dX 3), ii (dY 3), ii (x + dX 3), ii ((y + dY 3) - 1), ii ((x + dX 3) - 1), ii ((y + dY 3) - 1), by decide, by decide, ?_⟩
        rw [if_pos (by decide)]
        rfl
      | true =>
        refine ⟨6, ii (dX 3), ii (dY 3), ii (x + dX 3), ii ((y + dY 3) - 1), ii ((x + dX 3) - 1), ii ((y + dY 3) - 1), by decide, by decide, ?_⟩
        rw [if_neg (by decide)]
        rfl
/-- the reference's array holds these stakes -/
def SMo (w : Nat) (st : Nat → Int32) (m : (Nat → Int) × (Nat → Int) × Nat) : Prop := ∀ j, j < m.2.2 → st j = ii (((w : Int) + 1) * m.2.1 j + m.1 j)
theorem irm4 {t : Nat} (h : t < 8) : irm9 (nn t) 4 = nn (t % 4) := nn_rem (b := 4) (by omega) (by omega)
theorem wmLp (hg : GW I w h) {F : FD} (hF : F = (fdB (fun c => decide (I 28 7 c = nn k)) w h)) {s : Nat} (hs : s < w * h) (hS : SCr F ((s % w : Nat) : Int) ((s / w : Nat) : Int)) {n : Nat} (hn : RET1 F (((s % w : Nat) : Int), ((s / w : Nat) : Int), 0) n) : ∀ q i (st : Nat → Int32) (o6 o7 o8 o9 o10 o11 o12 o13 : Option AV), i + q = n - 1 → SMo w st (mkW F (((s % w : Nat) : Int), ((s / w : Nat) : Int), 0) i) → ∃ st2 : Nat → Int32, den (d + 2) 267 41 [some (vr 14 0), some (vi (nn k)), some (vi (nn s)), some (vi (ii (orb F (((s % w : Nat) : Int), ((s / w : Nat) : Int), 0) i).1)), some (vi (ii (orb F (((s % w : Nat) : Int), ((s / w : Nat) : Int), 0) i).2.1)), some (vi (nn (orb F (((s % w : Nat) : Int), ((s / w : Nat) : Int), 0) i).2.2)), o6, o7, o8, o9, o10, o11, o12, o13] [] (MX (WMm I st (nn (mkW F (((s % w : Nat) : Int), ((s / w : Nat) : Int), 0) i).2.2)) J T) = some (.inl none, MX (WMm I st2 (nn (mkW F (((s % w : Nat) : Int), ((s / w : Nat) : Int), 0) (n - 1)).2.2)) J T) ∧ SMo w st2 (mkW F (((s % w : Nat) : Int), ((s / w : Nat) : Int), 0) (n - 1)) := by
  have hB : FB F w h := by rw [hF]; exact fdB_FB _ w h
  obtain ⟨hw, hh, hw1, hw8, hh1, hh8⟩ := id hg
  have h64 : w * h ≤ 64 := Nat.mul_le_mul hw8 hh8
  have hv := SC_VS hS
  have b0 := VS_pos hB hv
  dsimp only at b0
  have hw0 : ∀ (st : Nat → Int32) (v : Int32), ¬ (WMm I st v) 14 0 22 = 0 := fun st v => by show ¬ I 14 0 22 = 0; rw [hw, eq0n (by omega)]; omega
  have hwd : ∀ (st : Nat → Int32) (v : Int32), nn s / (WMm I st v) 14 0 22 = nn (s / w) := fun st v => by show nn s / I 14 0 22 = _; rw [hw, nn_div (by omega) (by omega)]
  have hwr : ∀ (st : Nat → Int32) (v : Int32), irm9 (nn s) ((WMm I st v) 14 0 22) = nn (s % w) := fun st v => by show irm9 (nn s) (I 14 0 22) = _; rw [hw, nn_rem (by omega) (by omega)]
  have hwx : ∀ (st : Nat → Int32) (v : Int32) (x y : Int), ((WMm I st v) 14 0 22 * ii y) + ii x = ii ((w : Int) * y + x) := fun st v x y => by show (I 14 0 22 * ii y) + ii x = _; rw [hw, ← ii_nat, ii_mul, ii_add]
  have hw1x : ∀ (st : Nat → Int32) (v : Int32) (x y : Int), (((WMm I st v) 14 0 22 + 1) * ii y) + ii x = ii (((w : Int) + 1) * y + x) := fun st v x y => by show ((I 14 0 22 + 1) * ii y) + ii x = _; rw [hw, ← ii_nat, show (1 : Int32) = ii 1 from rfl, ii_add, ii_mul, ii_add]
  have m3 : w * (s / w) + s % w = s := Nat.div_add_mod s w
  have m3i : (w : Int) * ((s / w : Nat) : Int) + ((s % w : Nat) : Int) = (s : Int) := by exact_mod_cast m3
  have mr : s % w < w := Nat.mod_lt _ (by omega)
  have md : s / w ≤ s := Nat.div_le_self _ _
  intro q
  induction q with
  | zero =>
    intro i st o6 o7 o8 o9 o10 o11 o12 o13 hi hk
    have hi2 : i = n - 1 := by omega
    have h1 := hn.1
    obtain ⟨v1, -, -⟩ := orb_VS hv i
    have bi := VS_pos hB (orb_VS hv i)
    have hc := mkW_c F (((s % w : Nat) : Int), ((s / w : Nat) : Int), 0) i
    have hr := hn.2.2.1
    rw [show n = i + 1 by omega] at hr
    have hx : (orb F (((s % w : Nat) : Int), ((s / w : Nat) : Int), 0) i).1 + dX (orb F (((s % w : Nat) : Int), ((s / w : Nat) : Int), 0) i).2.2 = ((s % w : Nat) : Int) := congrArg (fun s : WS => s.1) hr
    have hy : (orb F (((s % w : Nat) : Int), ((s / w : Nat) : Int), 0) i).2.1 + dY (orb F (((s % w : Nat) : Int), ((s / w : Nat) : Int), 0) i).2.2 = ((s / w : Nat) : Int) := congrArg (fun s : WS => s.2.1) hr
    have hkk : tnW F ((orb F (((s % w : Nat) : Int), ((s / w : Nat) : Int), 0) i).1 + dX (orb F (((s % w : Nat) : Int), ((s / w : Nat) : Int), 0) i).2.2) ((orb F (((s % w : Nat) : Int), ((s / w : Nat) : Int), 0) i).2.1 + dY (orb F (((s % w : Nat) : Int), ((s / w : Nat) : Int), 0) i).2.2) (orb F (((s % w : Nat) : Int), ((s / w : Nat) : Int), 0) i).2.2 = 0 := congrArg (fun s : WS => s.2.2) hr
    have h144 := hn.2.1
    obtain ⟨t, p6, p7, p8, p9, p10, p11, t1, t2, e1⟩ := wmB d I J T hg (x := (orb F (((s % w : Nat) : Int), ((s / w : Nat) : Int), 0) i).1) (y := (orb F (((s % w : Nat) : Int), ((s / w : Nat) : Int), 0) i).2.1) (by omega) (by omega) (by omega) (by omega) (v := nn (mkW F (((s % w : Nat) : Int), ((s / w : Nat) : Int), 0) i).2.2) (x2 := nn s) (by rw [eq0n (by omega)]; omega) st v1 o6 o7 o8 o9 o10 o11 o12 o13
    rw [← hF, hkk] at t1
    rw [hx, hy] at e1
    refine ⟨st, ?_, by rw [← hi2]; exact hk⟩
    rw [e1, b267_252, hwx, m3i, ii_nat, if_neg (fun q => q rfl), if_neg (hw0 _ _), hwd, ii_nat, if_neg (fun q => q rfl), if_neg (hw0 _ _), hwr, ii_nat, if_neg (fun q => q rfl), irm4 t2, t1, if_neg (fun q => q rfl), b267_300, irm4 t2, t1]
    have fin : den (d + 2) 267 346 [some (vr 14 0), some (vi (nn k)), some (vi (nn s)), some (vi (nn (s % w))), some (vi (nn (s / w))), some (vi (nn (orb F (((s % w : Nat) : Int), ((s / w : Nat) : Int), 0) i).2.2)), some (vi p6), some (vi p7), some (vi p8), some (vi p9), some (vi p10), some (vi p11), some (vi (nn t)), some (vi 1)] [] (MX (WMm I st (nn (mkW F (((s % w : Nat) : Int), ((s / w : Nat) : Int), 0) i).2.2)) J T) = some (.inl none, MX (WMm I st (nn (mkW F (((s % w : Nat) : Int), ((s / w : Nat) : Int), 0) (n - 1)).2.2)) J T) := by
      rw [b267_346, irm4 t2, t1, if_neg (fun q => q rfl), if_neg (hw0 _ _), hwd, if_neg (fun q => q rfl), if_neg (hw0 _ _), hwr, if_neg (fun q => q rfl), hi2]
    by_cases z : nn 0 = nn (orb F (((s % w : Nat) : Int), ((s / w : Nat) : Int), 0) i).2.2
    · rw [if_pos z, fin]
    · rw [if_neg z, if_pos (by decide), fin]
  | succ q ih =>
    intro i st o6 o7 o8 o9 o10 o11 o12 o13 hi hk
    have h144 := hn.2.1
    obtain ⟨v1, -, -⟩ := orb_VS hv i
    have hv2 := orb_VS hv (i + 1)
    have b1 := VS_pos hB (orb_VS hv i)
    have hb := VS_pos hB hv2
    have hx : (orb F (((s % w : Nat) : Int), ((s / w : Nat) : Int), 0) (i + 1)).1 = (orb F (((s % w : Nat) : Int), ((s / w : Nat) : Int), 0) i).1 + dX (orb F (((s % w : Nat) : Int), ((s / w : Nat) : Int), 0) i).2.2 := rfl
    have hy : (orb F (((s % w : Nat) : Int), ((s / w : Nat) : Int), 0) (i + 1)).2.1 = (orb F (((s % w : Nat) : Int), ((s / w : Nat) : Int), 0) i).2.1 + dY (orb F (((s % w : Nat) : Int), ((s / w : Nat) : Int), 0) i).2.2 := rfl
    have hkk : (orb F (((s % w : Nat) : Int), ((s / w : Nat) : Int), 0) (i + 1)).2.2 = tnW F ((orb F (((s % w : Nat) : Int), ((s / w : Nat) : Int), 0) i).1 + dX (orb F (((s % w : Nat) : Int), ((s / w : Nat) : Int), 0) i).2.2) ((orb F (((s % w : Nat) : Int), ((s / w : Nat) : Int), 0) i).2.1 + dY (orb F (((s % w : Nat) : Int), ((s / w : Nat) : Int), 0) i).2.2) (orb F (((s % w : Nat) : Int), ((s / w : Nat) : Int), 0) i).2.2 := rfl
    have hns : ¬ ((orb F (((s % w : Nat) : Int), ((s / w : Nat) : Int), 0) (i + 1)).1 = ((s % w : Nat) : Int) ∧ (orb F (((s % w : Nat) : Int), ((s / w : Nat) : Int), 0) (i + 1)).2.1 = ((s / w : Nat) : Int)) := by
      intro ⟨e1, e2⟩
      have hne := hn.2.2.2 (i + 1) (by omega) (by omega)
      have hv3 := hv2
      generalize (orb F (((s % w : Nat) : Int), ((s / w : Nat) : Int), 0) (i + 1)) = u at *
      obtain ⟨a, b, k⟩ := u
      dsimp only at e1 e2
      subst e1 e2
      exact hne (by rw [SC_one hS hv3])
    have hc := mkW_c F (((s % w : Nat) : Int), ((s / w : Nat) : Int), 0) i
    have hk4 := hv2.1
    obtain ⟨t, p6, p7, p8, p9, p10, p11, t1, t2, e1⟩ := wmB d I J T hg (x := (orb F (((s % w : Nat) : Int), ((s / w : Nat) : Int), 0) i).1) (y := (orb F (((s % w : Nat) : Int), ((s / w : Nat) : Int), 0) i).2.1) (by omega) (by omega) (by omega) (by omega) (v := nn (mkW F (((s % w : Nat) : Int), ((s / w : Nat) : Int), 0) i).2.2) (x2 := nn s) (by rw [eq0n (by omega)]; omega) st v1 o6 o7 o8 o9 o10 o11 o12 o13
    rw [← hF, ← hkk] at t1
    rw [← hx, ← hy] at e1
    have nb : ∀ (st : Nat → Int32) (v : Int32), den (d + 2) 267 252 [some (vr 14 0), some (vi (nn k)), some (vi (nn s)), some (vi (ii (orb F (((s % w : Nat) : Int), ((s / w : Nat) : Int), 0) (i + 1)).1)), some (vi (ii (orb F (((s % w : Nat) : Int), ((s / w : Nat) : Int), 0) (i + 1)).2.1)), some (vi (nn (orb F (((s % w : Nat) : Int), ((s / w : Nat) : Int), 0) i).2.2)), some (vi p6), some (vi p7), some (vi p8), some (vi p9), some (vi p10), some (vi p11), o12, o13] [vi (nn t)] (MX (WMm I st v) J T) = den (d + 2) 267 300 [some (vr 14 0), some (vi (nn k)), some (vi (nn s)), some (vi (ii (orb F (((s % w : Nat) : Int), ((s / w : Nat) : Int), 0) (i + 1)).1)), some (vi (ii (orb F (((s % w : Nat) : Int), ((s / w : Nat) : Int), 0) (i + 1)).2.1)), some (vi (nn (orb F (((s % w : Nat) : Int), ((s / w : Nat) : Int), 0) i).2.2)), some (vi p6), some (vi p7), some (vi p8), some (vi p9), some (vi p10), some (vi p11), some (vi (nn t)), o13] [vi 0] (MX (WMm I st v) J T) := by
      intro st v
      rw [b267_252, hwx]
      by_cases z1 : ii ((w : Int) * (orb F (((s % w : Nat) : Int), ((s / w : Nat) : Int), 0) (i + 1)).2.1 + (orb F (((s % w : Nat) : Int), ((s / w : Nat) : Int), 0) (i + 1)).1) = nn s
      · rw [if_neg (fun q => q z1), if_neg (hw0 _ _), hwd, if_pos (fun q => hns (by
          rw [← ii_nat, ii_inj (by omega) (by omega) (by omega) (by omega)] at q
          rw [q, ← ii_nat s, ii_inj (by omega) (by omega) (by omega) (by omega)] at z1
          exact ⟨by omega, q⟩)), b267_299]
      · rw [if_pos z1, b267_299]
    have go : ∀ (st : Nat → Int32) (v : Int32), den (d + 2) 267 346 [some (vr 14 0), some (vi (nn k)), some (vi (nn s)), some (vi (ii (orb F (((s % w : Nat) : Int), ((s / w : Nat) : Int), 0) (i + 1)).1)), some (vi (ii (orb F (((s % w : Nat) : Int), ((s / w : Nat) : Int), 0) (i + 1)).2.1)), some (vi (nn (orb F (((s % w : Nat) : Int), ((s / w : Nat) : Int), 0) i).2.2)), some (vi p6), some (vi p7), some (vi p8), some (vi p9), some (vi p10), some (vi p11), some (vi (nn t)), some (vi 0)] [] (MX (WMm I st v) J T) = den (d + 2) 267 41 [some (vr 14 0), some (vi (nn k)), some (vi (nn s)), some (vi (ii (orb F (((s % w : Nat) : Int), ((s / w : Nat) : Int), 0) (i + 1)).1)), some (vi (ii (orb F (((s % w : Nat) : Int), ((s / w : Nat) : Int), 0) (i + 1)).2.1)), some (vi (nn (orb F (((s % w : Nat) : Int), ((s / w : Nat) : Int), 0) (i + 1)).2.2)), some (vi p6), some (vi p7), some (vi p8), some (vi p9), some (vi p10), some (vi p11), some (vi (nn t)), some (vi 0)] [] (MX (WMm I st v) J T) := by
      intro st v
      rw [b267_346, irm4 t2, t1]
      by_cases z1 : (orb F (((s % w : Nat) : Int), ((s / w : Nat) : Int), 0) (i + 1)).2.2 = 0
      · rw [if_neg (fun q => q (by rw [z1]; rfl)), if_neg (hw0 _ _), hwd]
        by_cases z2 : (orb F (((s % w : Nat) : Int), ((s / w : Nat) : Int), 0) (i + 1)).2.1 = ((s / w : Nat) : Int)
        · rw [if_neg (fun q => q (by rw [z2, ii_nat])), if_neg (hw0 _ _), hwr, if_pos (fun q => hns ⟨by
            rw [← ii_nat, ii_inj (by omega) (by omega) (by omega) (by omega)] at q
            exact q, z2⟩)]
        · rw [if_pos (fun q => z2 (by
            rw [← ii_nat, ii_inj (by omega) (by omega) (by omega) (by omega)] at q
            exact q))]
      · rw [if_pos (by rw [eq0n (by omega)]; exact z1)]
    rw [e1, nb, b267_300, irm4 t2, t1]
    by_cases ze : (orb F (((s % w : Nat) : Int), ((s / w : Nat) : Int), 0) (i + 1)).2.2 = (orb F (((s % w : Nat) : Int), ((s / w : Nat) : Int), 0) i).2.2
    · obtain ⟨st2, e2, q2⟩ := ih (i + 1) st (some (vi p6)) (some (vi p7)) (some (vi p8)) (some (vi p9)) (some (vi p10)) (some (vi p11)) (some (vi (nn t))) (some (vi 0)) (by omega) (by rw [mkW_same ze]; exact hk)
      refine ⟨st2, ?_, q2⟩
      rw [if_pos (by rw [ze]), go, ← e2, mkW_same ze]
    · obtain ⟨st2, e2, q2⟩ := ih (i + 1) (wu st (mkW F (((s % w : Nat) : Int), ((s / w : Nat) : Int), 0) i).2.2 (ii (((w : Int) + 1) * (orb F (((s % w : Nat) : Int), ((s / w : Nat) : Int), 0) (i + 1)).2.1 + (orb F (((s % w : Nat) : Int), ((s / w : Nat) : Int), 0) (i + 1)).1))) (some (vi p6)) (some (vi p7)) (some (vi p8)) (some (vi p9)) (some (vi p10)) (some (vi p11)) (some (vi (nn t))) (some (vi 0)) (by omega) (by
        rw [mkW_turn ze]
        intro j hj
        dsimp only at hj ⊢
        unfold wu upZ
        by_cases z : j = (mkW F (((s % w : Nat) : Int), ((s / w : Nat) : Int), 0) i).2.2
        · rw [if_pos z, if_pos z, if_pos z]
        · rw [if_neg z, if_neg z, if_neg z]
          exact hk j (by omega))
      refine ⟨st2, ?_, q2⟩
      have e50 : (WMm I st (nn (mkW F (((s % w : Nat) : Int), ((s / w : Nat) : Int), 0) i).2.2)) 14 0 50 = nn (mkW F (((s % w : Nat) : Int), ((s / w : Nat) : Int), 0) i).2.2 := rfl
      rw [if_neg (fun q => ze ((nn_inj (by omega) (by omega)).mp q)), if_neg (fun q => q rfl), e50, if_pos (nn_inR (by omega) (by omega)), nn_idx (by omega), hw1x, wm_32, wm_50, nn_add1, go, ← e2, mkW_turn ze]
end WKN
