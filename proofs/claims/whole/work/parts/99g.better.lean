/-! The call better -/
theorem cm21 (I : PI) (a su sf : Nat → Int32) {j : Nat} (hj : ¬ j = 6) : (CMm I a su sf) 21 j = I 21 j := by
  funext k
  unfold CMm upA
  simp [hj]
theorem call20 (L d : Nat) : Cl20 (Inv L) (d + 7) 8 400 := by
  intro m x1 hm
  obtain ⟨I, J, T, rfl, h⟩ := hm
  obtain ⟨hN, hT, hA, w, h0, o, hwo, hB, hW, hM, hC, hD, hO, hK, hP⟩ := id h
  have hn := relW_le hW
  obtain ⟨ho, ho6⟩ := relB_o hB
  have hno : 0 < w * h0 → 0 < o := fun z => hwo (pos_l z)
  have n9 : I 5 0 9 = nn (w * h0) := hW.2.2.1
  have n24 : I 14 0 24 = nn (w * h0) := hW.2.2.2.2.2.1
  rcases Nat.eq_zero_or_pos (w * h0) with hz | hp
  · have z9 : I 5 0 9 ≤ 0 := by rw [n9, hz]; decide
    have z24 : (up3 I 11 0 15 1) 14 0 24 = 0 := by show I 14 0 24 = 0; rw [n24, hz]; rfl
    refine ⟨-1, MX (up3 I 11 0 15 1) J T, MX (up3 (up3 (up3 (up3 I 11 0 15 1) 14 0 0 0) 14 0 1 1) 14 0 2 (-1)) J T, ?_, fun _ => rfl, rfl, ?_, ⟨_, _, _, rfl, rel_tr 1 (by decide) h⟩, Nat.le_add_right _ _, Nat.le_add_right _ _⟩
    · simp only [c120, c74, if_pos z9, ret9, b120_7, j00, not_true_eq_false, if_false, c20, b120_15]
    · rw [c259, if_neg (fun z => z z24), c187]
      simp only [ret9, b259_17]
  · have z9 : ¬ I 5 0 9 ≤ 0 := by rw [n9, le0 (by omega)]; omega
    obtain ⟨b, hmb⟩ := relmb hB (hno hp)
    have hg := relGW hW hp
    have hob : I 12 b 0 = nn o := (relVN hB hW hO hp hmb).2.2.2.1
    have hwd := relO_wd hO hp
    by_cases hx1 : 1 ≤ x1 ∧ x1 ≤ 100
    · obtain ⟨M, hM100, rfl⟩ : ∃ M, M ≤ 100 ∧ x1 = nn M := by
        obtain ⟨q1, q2⟩ := nn_of (x := x1) (Int32.le_trans (by decide) hx1.1)
        refine ⟨x1.toNatClampNeg, ?_, q1⟩
        rw [q1] at hx1
        exact (nn_le q2 (by omega)).mp hx1.2
      have hlt : ¬ nn M < 1 := i32_nlt.mpr hx1.1
      obtain ⟨v, a, hv4, hBS⟩ := BS_ex (I 28 7) (I 28 6) (I 39 0) w h0 o (I 5 0 10)
      have hlaw := BS_law hBS
      have ec := barC (d + 2) I J T hW hp hM hC hD ho6 hBS
      generalize hx : (if v = 0 then (-2 : Int32) else nn a) = x at ec
      rw [hwd] at hBS
      by_cases hv : v = 0
      · have hL := hlaw.mp hv
        obtain ⟨r, ws2, a2, su, sf, f2, e2, hR2, kM⟩ := runs d (M := M) (up3 I 3 0 3 x) J T hM100 hW hp hM hC ho ho6 M 0 (I 28 7) (I 28 3) (I 21 6) (I 6 0) (J 42 1) (by omega) hD hL
        have ecm : CMm (up3 I 3 0 3 x) (I 28 3) (I 21 6) (I 6 0) = up3 I 3 0 3 x := cm_id (up3 I 3 0 3 x)
        rw [ecm, upA_id] at e2
        have hB1 : RelB (up3 (up3 (CMm (up3 I 3 0 3 x) a2 su sf) 11 0 15 0) 14 0 0 0) T.1 T.2.2.1 o := relB_congr (I := I) rfl rfl rfl rfl (fun j hj => cm21 (up3 I 3 0 3 x) a2 su sf (by have := relN_g hN; omega)) hB
        obtain ⟨Q, S, y, em, -⟩ := barM (d + 3) (w := w) (h := h0) (o := o) (b := b) (v := v) (a := a) (up3 (up3 (CMm (up3 I 3 0 3 x) a2 su sf) 11 0 15 0) 14 0 0 0) (upA J 42 1 f2) T hg n24 hob ho6 hBS
        have hB2 : RelB (up3 (HM (up3 (up3 (CMm (up3 I 3 0 3 x) a2 su sf) 11 0 15 0) 14 0 0 0) Q S) 14 0 42 y) T.1 T.2.2.1 o := relB_congr (I := I) rfl rfl rfl rfl (fun j hj => cm21 (up3 I 3 0 3 x) a2 su sf (by have := relN_g hN; omega)) hB
        have hvn : VN (up3 (HM (up3 (up3 (CMm (up3 I 3 0 3 x) a2 su sf) 11 0 15 0) 14 0 0 0) Q S) 14 0 42 y) w h0 o b := relVN hB2 hW hO hp hmb
        obtain ⟨W, g, ev, hWv⟩ := valuesM (d + 2) (up3 (HM (up3 (up3 (CMm (up3 I 3 0 3 x) a2 su sf) 11 0 15 0) 14 0 0 0) Q S) 14 0 42 y) (upA J 42 1 f2) T hvn
        have hP2 : RelP (up3 (HM (up3 (up3 (CMm (up3 I 3 0 3 x) a2 su sf) 11 0 15 0) 14 0 0 0) Q S) 14 0 42 y) T.2.2.1 w h0 o := relP_congr (I := I) rfl rfl rfl rfl rfl (fun j hj => cm21 (up3 I 3 0 3 x) a2 su sf (by omega)) rfl hP
        have hpr : ∀ k, k < o → ∀ c, c < w * h0 → W (64 * k + c) = I 34 0 (64 * k + c) := fun k hk c hc => by
          rw [hWv k hk c hc, ← hP2 b hmb k hk c hc]
          rfl
        generalize hI3 : upA (upA (up3 (HM (up3 (up3 (CMm (up3 I 3 0 3 x) a2 su sf) 11 0 15 0) 14 0 0 0) Q S) 14 0 42 y) 34 1 W) 27 0 g = I3 at ev
        have hQ : RQ (up3 I 3 0 3 x) I3 w h0 o b := by
          rw [← hI3]
          exact ⟨⟨hg, n24, hob, ho6⟩, rfl, rfl, hwd.symm, hpr, fun k hk => (hO.1 k hk).2.1.symm⟩
        have i7 : I3 28 7 = I 28 7 := by rw [← hI3]; rfl
        obtain ⟨gf2, Q2, S2, e5, r5⟩ := kM (d + 1) b I3 (upA J 42 1 f2) T (I3 14 0) (I3 28 8) (I3 39 1) hQ (fun i _ => rfl)
        rw [← i7, mm_id] at e5
        refine ⟨nn r, MX (up3 (CMm (up3 I 3 0 3 x) a2 su sf) 11 0 15 0) (upA J 42 1 f2) T, MX (up3 (up3 (MMM I3 ws2 gf2 Q2 S2) 14 0 1 0) 14 0 2 (-1)) (upA J 42 1 f2) T, ?_, fun _ => rfl, rfl, ?_, ⟨_, _, _, rfl, ?_⟩, Nat.le_add_right _ _, Nat.le_add_right _ _⟩
        · simp only [c120, c74, if_neg z9, ret9, b120_7, j10, not_false_eq_true, if_true, if_neg hlt, if_pos hx1.2, ec, b120_40, if_pos (show nn v = 0 by rw [hv]; rfl), c121]
          rw [show (some (vi 0) : Option AV) = some (vi (nn 0)) from rfl, e2]
          simp only [ret9, b120_58, c51, b120_61]
        · have z24 : ¬ (up3 (CMm (up3 I 3 0 3 x) a2 su sf) 11 0 15 0) 14 0 24 = 0 := by show ¬ I 14 0 24 = 0; rw [n24, eq0n (by omega)]; omega
          rw [← TBe hmb, c259, if_pos z24, inM, bi1 hx1]
          simp only [ret9]
          rw [b259_25, if_pos (by decide), em]
          simp only [ret9]
          rw [b259_38, if_pos (show nn v = 0 by rw [hv]; rfl), ev]
          simp only [ret9]
          rw [b259_51, show (some (vi 0) : Option AV) = some (vi (nn 0)) from rfl]
          exact e5
        · have gi : ∀ i, 3 ≤ i → i < 42 → (up3 (up3 (MMM I3 ws2 gf2 Q2 S2) 14 0 1 0) 14 0 2 (-1)) 14 0 i = I 14 0 i := by
            intro i h1 h2
            rw [mm_g, mm_g]
            show wu (wu gf2 1 0) 2 (-1) i = _
            unfold wu
            rw [if_neg (by omega), if_neg (by omega), r5 i (by omega), ← hI3]
            show (if i = 42 then y else (if i = 0 then _ else _)) = _
            rw [if_neg (by omega), if_neg (by omega)]
            rfl
          rw [← hI3] at gi ⊢
          exact rel_gen (I := I) 0 (by decide) hN hT hA hwo hB hW hM hC hO hK hP gi rfl rfl rfl (fun i hi => by
            show (if i = 15 then _ else _) = _
            rw [if_neg (by omega)]
            rfl) rfl rfl rfl rfl rfl (fun j hj => cm21 (up3 I 3 0 3 x) a2 su sf hj) rfl rfl rfl rfl rfl rfl rfl rfl rfl hR2 rfl rfl rfl
      · obtain ⟨Q, S, y, em, -⟩ := barM (d + 3) (w := w) (h := h0) (o := o) (b := b) (v := v) (a := a) (up3 (up3 (up3 I 3 0 3 x) 11 0 15 5) 14 0 0 0) J T hg n24 hob ho6 hBS
        have z24 : ¬ (up3 (up3 I 3 0 3 x) 11 0 15 5) 14 0 24 = 0 := by show ¬ I 14 0 24 = 0; rw [n24, eq0n (by omega)]; omega
        have hvn0 : ¬ nn v = 0 := by rw [eq0n (by omega)]; exact hv
        refine ⟨-1, MX (up3 (up3 I 3 0 3 x) 11 0 15 5) J T, MX (up3 (up3 (up3 (HM (up3 (up3 (up3 I 3 0 3 x) 11 0 15 5) 14 0 0 0) Q S) 14 0 42 y) 14 0 1 5) 14 0 2 (-1)) J T, ?_, fun _ => rfl, rfl, ?_, ⟨_, _, _, rfl, hN, hT, ⟨hA.1, rfl, rfl, hA.2.2.2⟩, w, h0, o, hwo, hB, hW, hM, hC, hD, hO, hK, hP⟩, Nat.le_add_right _ _, Nat.le_add_right _ _⟩
        · simp only [c120, c74, if_neg z9, ret9, b120_7, j10, not_false_eq_true, if_true, if_neg hlt, if_pos hx1.2, ec, b120_40, if_neg hvn0, c20, b120_48]
        · rw [← TBe hmb, c259, if_pos z24, inM, bi1 hx1]
          simp only [ret9]
          rw [b259_25, if_pos (by decide), em]
          simp only [ret9]
          rw [b259_38, if_neg hvn0, c187]
          simp only [ret9, b259_46]
    · have z24 : ¬ (up3 I 11 0 15 2) 14 0 24 = 0 := by show ¬ I 14 0 24 = 0; rw [n24, eq0n (by omega)]; omega
      refine ⟨-1, MX (up3 I 11 0 15 2) J T, MX (up3 (up3 (up3 (up3 I 11 0 15 2) 14 0 0 0) 14 0 1 2) 14 0 2 (-1)) J T, ?_, fun _ => rfl, rfl, ?_, ⟨_, _, _, rfl, rel_tr 2 (by decide) h⟩, Nat.le_add_right _ _, Nat.le_add_right _ _⟩
      · by_cases y1 : x1 < 1
        · simp only [c120, c74, if_neg z9, ret9, b120_7, j10, not_false_eq_true, if_true, if_pos y1, c20, b120_32]
        · have y2 : ¬ x1 ≤ 100 := fun z => hx1 ⟨i32_nlt.mp y1, z⟩
          simp only [c120, c74, if_neg z9, ret9, b120_7, j10, not_false_eq_true, if_true, if_neg y1, if_neg y2, c20, b120_32]
      · rw [c259, if_pos z24, inM, bi0 hx1]
        simp only [ret9]
        rw [b259_25, if_neg (fun z => z rfl), c187]
        simp only [ret9, b259_33]
