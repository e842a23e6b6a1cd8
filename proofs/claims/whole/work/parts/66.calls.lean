/-! The calls envies and votes -/
theorem relmb {I : PI} {g : Nat} {mb : OR} {o : Nat} (hB : RelB I g mb o) (ho : 0 < o) : ∃ b, mb = ro 12 b := by
  rcases hB with ⟨z1, -⟩ | ⟨b, z1, -⟩
  · omega
  · exact ⟨b, z1⟩
theorem call17 (L d : Nat) : Cl17 (Inv L) (d + 5) 8 400 := by
  intro m x y hm
  obtain ⟨I, J, T, rfl, h⟩ := hm
  obtain ⟨hN, hT, hA, w, h0, o, hwo, hB, hW, hM, hC, hD, hO, hK, hP⟩ := id h
  have hn := relW_le hW
  obtain ⟨ho, ho6⟩ := relB_o hB
  have hno : 0 < w * h0 → 0 < o := fun z => hwo (pos_l z)
  have e1 := ownC (d + 3) x I J T hW.2.2.1 (by omega) ho
  have e2 := ownC (d + 3) y I J T hW.2.2.1 (by omega) ho
  have e3 : ∀ t : Int32, cal (d + 4) 225 [vr 14 0, vi x] (MX (up3 (up3 I 11 0 15 t) 14 0 0 0) J T) = _ := fun t => ownM (d + 4) x (up3 (up3 I 11 0 15 t) 14 0 0 0) J T hW.2.2.2.2.2.1 (by omega) hB hno
  have e4 : ∀ t : Int32, cal (d + 4) 225 [vr 14 0, vi y] (MX (up3 (up3 I 11 0 15 t) 14 0 0 0) J T) = _ := fun t => ownM (d + 4) y (up3 (up3 I 11 0 15 t) 14 0 0 0) J T hW.2.2.2.2.2.1 (by omega) hB hno
  have deny : ∀ t : Int32, ¬ t = 4 → cal (d + 5) 113 [vr 11 0, vi x, vi y] (MX I J T) = some (.inl (some (vi (-1))), MX (up3 I 11 0 15 t) J T) → cal (d + 5) 255 [vr 14 0, vi x, vi y] (MX (up3 I 11 0 15 t) J T) = some (.inl (some (vi (-1))), MX (up3 (up3 (up3 (up3 I 11 0 15 t) 14 0 0 0) 14 0 1 t) 14 0 2 (-1)) J T) → Ok2 (Inv L) (d + 5) 8 400 113 255 [vi x, vi y] (MX I J T) :=
    fun t ht q1 q2 => ⟨-1, MX (up3 I 11 0 15 t) J T, _, q1, fun _ => rfl, rfl, q2, ⟨_, _, _, rfl, rel_tr t ht h⟩, Nat.le_add_right _ _, Nat.le_add_right _ _⟩
  by_cases hx : ol (w * h0) o x
  · by_cases hy : ol (w * h0) o y
    · by_cases hxy : x = y
      · refine deny 1 (by decide) ?_ ?_
        · simp only [c113, e1, bi1 hx, ret9, b113_8, j10, if_false, e2, bi1 hy, b113_19, hxy, not_true_eq_false, c20, b113_32]
        · simp only [c255, e3, bi1 hx, ret9, b255_10, j10, if_false, e4, bi1 hy, b255_18, hxy, not_true_eq_false, c187, b255_31]
      · obtain ⟨k, hk, rfl⟩ := cl_of (by omega) hx.2
        obtain ⟨q, hq, rfl⟩ := cl_of (by omega) hy.2
        obtain ⟨b, hmb⟩ := relmb hB (hno hx.1)
        have hvn : VN (up3 (up3 I 11 0 15 0) 14 0 0 0) w h0 o b := relVN hB hW hO hx.1 hmb
        obtain ⟨W, g, ev, hWv⟩ := valuesM d (up3 (up3 I 11 0 15 0) 14 0 0 0) J T hvn
        rw [TBe hmb] at ev
        have ec := envyC (d + 1) (k := k) (q := q) I J T hW.2.2.1 hn (by omega) (by omega) hD
        have em := envyM (d + 3) (k := k) (q := q) (upA (upA (up3 (up3 I 11 0 15 0) 14 0 0 0) 34 1 W) 27 0 g) J T hW.2.2.2.2.2.1 hn (by omega)
        have eq : bi (EN ((upA (upA (up3 (up3 I 11 0 15 0) 14 0 0 0) 34 1 W) 27 0 g) 28 7) ((upA (upA (up3 (up3 I 11 0 15 0) 14 0 0 0) 34 1 W) 27 0 g) 34 1) (w * h0) k q) = bi (EN (I 28 7) (I 34 0) (w * h0) k q) := by
          apply bi_congr
          exact EN_congr (fun c hc => by
            show W (64 * k + c) = _
            rw [hWv k hk c hc, hP b hmb k hk c hc]
            rfl)
        refine ⟨bi (EN (I 28 7) (I 34 0) (w * h0) k q), MX (up3 I 11 0 15 0) J T, MX (up3 (up3 (upA (upA (up3 (up3 I 11 0 15 0) 14 0 0 0) 34 1 W) 27 0 g) 14 0 1 0) 14 0 2 (-1)) J T, ?_, fun _ => rfl, rfl, ?_, ⟨_, _, _, rfl, rel_tr 0 (by decide) h⟩, Nat.le_add_right _ _, Nat.le_add_right _ _⟩
        · simp only [c113, e1, bi1 hx, ret9, b113_8, j10, if_false, e2, bi1 hy, b113_19, if_pos hxy, ec, b113_43]
          by_cases he : EN (I 28 7) (I 34 0) (w * h0) k q
          · simp only [bi1 he, j10, if_false, c51, b113_54]
          · simp only [bi0 he, j00, if_true, c51, b113_54]
        · simp only [c255, e3, bi1 hx, ret9, b255_10, j10, if_false, e4, bi1 hy, b255_18, if_pos hxy, ev, b255_36, em, eq, b255_43]
          by_cases he : EN (I 28 7) (I 34 0) (w * h0) k q
          · simp only [bi1 he, j10, if_false, c215, b255_54]
          · simp only [bi0 he, j00, if_true, c215, b255_54]
    · refine deny 1 (by decide) ?_ ?_
      · simp only [c113, e1, bi1 hx, ret9, b113_8, j10, if_false, e2, bi0 hy, b113_19, j00, if_true, c20, b113_32]
      · simp only [c255, e3, bi1 hx, ret9, b255_10, j10, if_false, e4, bi0 hy, b255_18, j00, if_true, c187, b255_31]
  · refine deny 1 (by decide) ?_ ?_
    · simp only [c113, e1, bi0 hx, ret9, b113_8, j00, if_true, c20, b113_32]
    · simp only [c255, e3, bi0 hx, ret9, b255_10, j00, if_true, c187, b255_31]
theorem call18 (L d : Nat) : Cl18 (Inv L) (d + 5) 8 400 := by
  intro m x hm
  obtain ⟨I, J, T, rfl, h⟩ := hm
  obtain ⟨hN, hT, hA, w, h0, o, hwo, hB, hW, hM, hC, hD, hO, hK, hP⟩ := id h
  have hn := relW_le hW
  obtain ⟨ho, ho6⟩ := relB_o hB
  have hno : 0 < w * h0 → 0 < o := fun z => hwo (pos_l z)
  have e1 := ownC (d + 3) x I J T hW.2.2.1 (by omega) ho
  have e3 : ∀ t : Int32, cal (d + 4) 225 [vr 14 0, vi x] (MX (up3 (up3 I 11 0 15 t) 14 0 0 0) J T) = _ := fun t => ownM (d + 4) x (up3 (up3 I 11 0 15 t) 14 0 0 0) J T hW.2.2.2.2.2.1 (by omega) hB hno
  by_cases hx : ol (w * h0) o x
  · obtain ⟨k, hk, rfl⟩ := cl_of (by omega) hx.2
    obtain ⟨b, hmb⟩ := relmb hB (hno hx.1)
    have hvn : VN (up3 (up3 I 11 0 15 0) 14 0 0 0) w h0 o b := relVN hB hW hO hx.1 hmb
    obtain ⟨W, g, ev, hWv⟩ := valuesM d (up3 (up3 I 11 0 15 0) 14 0 0 0) J T hvn
    rw [TBe hmb] at ev
    obtain ⟨r1, r2, r3, r4⟩ := hO.1 k hk
    obtain ⟨p0, p1, p2⟩ := r3 hx.1
    obtain ⟨g1, g2, g3, g4, g5, g6⟩ := relGW hW hx.1
    have ec := yesC (d + 1) (k := k) (w := w) (p0 := p0) I J T hW.2.2.1 hn (by omega) hW.1 g3 g4 (by omega) (r1.trans p2) hD
    have em := yesM (d + 2) (k := k) (w := w) (h := h0) (p0 := p0) (upA (upA (up3 (up3 I 11 0 15 0) 14 0 0 0) 34 1 W) 27 0 g) J T hW.2.2.2.2.2.1 hn (by omega) (relGW hW hx.1) (by omega) p2
    have hlim : I 5 0 11 = I 14 0 26 := by
      rcases hO.2 with z | z
      · omega
      · exact z.2.2.2.1
    have eq : bi (YS ((upA (upA (up3 (up3 I 11 0 15 0) 14 0 0 0) 34 1 W) 27 0 g) 28 7) ((upA (upA (up3 (up3 I 11 0 15 0) 14 0 0 0) 34 1 W) 27 0 g) 34 1) (w * h0) w p0 k ((upA (upA (up3 (up3 I 11 0 15 0) 14 0 0 0) 34 1 W) 27 0 g) 14 0 26) ((upA (upA (up3 (up3 I 11 0 15 0) 14 0 0 0) 34 1 W) 27 0 g) 21 11 k) 0) = bi (YS (I 28 7) (I 34 0) (w * h0) w p0 k (I 5 0 11) (I 21 4 k) 0) := by
      rw [hlim, r2]
      apply bi_congr
      exact YS_congr (fun c hc => by
        show W (64 * k + c) = _
        rw [hWv k hk c hc, hP b hmb k hk c hc]
        rfl)
    refine ⟨bi (YS (I 28 7) (I 34 0) (w * h0) w p0 k (I 5 0 11) (I 21 4 k) 0), MX (up3 I 11 0 15 0) J T, MX (up3 (up3 (upA (upA (up3 (up3 I 11 0 15 0) 14 0 0 0) 34 1 W) 27 0 g) 14 0 1 0) 14 0 2 (-1)) J T, ?_, fun _ => rfl, rfl, ?_, ⟨_, _, _, rfl, rel_tr 0 (by decide) h⟩, Nat.le_add_right _ _, Nat.le_add_right _ _⟩
    · simp only [c114, e1, bi1 hx, ret9, b114_8, j10, not_false_eq_true, if_true, ec, b114_26]
      by_cases he : YS (I 28 7) (I 34 0) (w * h0) w p0 k (I 5 0 11) (I 21 4 k) 0
      · simp only [bi1 he, j10, if_false, c51, b114_37]
      · simp only [bi0 he, j00, if_true, c51, b114_37]
    · simp only [c256, e3, bi1 hx, ret9, b256_10, j10, not_false_eq_true, if_true, ev, b256_23, em, eq, b256_29]
      by_cases he : YS (I 28 7) (I 34 0) (w * h0) w p0 k (I 5 0 11) (I 21 4 k) 0
      · simp only [bi1 he, j10, if_false, c215, b256_40]
      · simp only [bi0 he, j00, if_true, c215, b256_40]
  · refine ⟨-1, MX (up3 I 11 0 15 1) J T, MX (up3 (up3 (up3 (up3 I 11 0 15 1) 14 0 0 0) 14 0 1 1) 14 0 2 (-1)) J T, ?_, fun _ => rfl, rfl, ?_, ⟨_, _, _, rfl, rel_tr 1 (by decide) h⟩, Nat.le_add_right _ _, Nat.le_add_right _ _⟩
    · simp only [c114, e1, bi0 hx, ret9, b114_8, j00, not_true_eq_false, if_false, c20, b114_16]
    · simp only [c256, e3, bi0 hx, ret9, b256_10, j00, not_true_eq_false, if_false, c187, b256_18]
