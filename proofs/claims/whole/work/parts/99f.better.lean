/-! What Rel reads; the calls can and better -/
theorem rel_gen {L : Nat} {I I' : PI} {J J' : PJ} {T : TL} {w h o : Nat} (t : Int32) (ht : ¬ t = 4) (hN : RelN L T) (hT : RelT I) (hA : RelA I) (hwo : 0 < w → 0 < o) (hB : RelB I T.1 T.2.2.1 o) (hW : RelW I w h) (hM : RelM J w h) (hC : RelC I J (w * h) o) (hO : RelO I (w * h) o) (hK : RelK I w h) (hP : RelP I T.2.2.1 w h o)
    (a1 : ∀ i, 3 ≤ i → i < 42 → I' 14 0 i = I 14 0 i) (a2 : I' 14 0 1 = t) (a3 : I' 14 0 2 = -1) (a4 : I' 11 0 15 = t) (a5 : ∀ i, i < 15 → I' 11 0 i = I 11 0 i) (a6 : I' 37 = I 37) (a7 : I' 1 = I 1) (a8 : I' 12 = I 12) (a9 : I' 31 = I 31) (a10 : I' 33 = I 33) (a11 : ∀ j, ¬ j = 6 → I' 21 j = I 21 j) (a12 : I' 5 = I 5) (a13 : J' 5 = J 5) (a14 : I' 28 0 = I 28 0) (a15 : I' 28 1 = I 28 1) (a16 : I' 28 2 = I 28 2) (a17 : I' 28 4 = I 28 4) (a18 : I' 28 5 = I 28 5) (a19 : I' 28 6 = I 28 6) (a20 : I' 39 0 = I 39 0) (a21 : RelD I' J' (w * h) o) (a22 : I' 2 = I 2) (a23 : I' 20 = I 20) (a24 : I' 34 0 = I 34 0) : Rel L I' J' T := by
  refine ⟨hN, ?_, ?_, w, h, o, hwo, ?_, ?_, ?_, ?_, a21, ?_, ?_, ?_⟩
  · unfold RelT
    rw [a6, a5 10 (by omega), a1 8 (by omega) (by omega)]
    exact hT
  · unfold RelA
    rw [a1 3 (by omega) (by omega), a5 11 (by omega), a2, a4, a3, if_neg ht, a1 28 (by omega) (by omega), a5 13 (by omega), a1 29 (by omega) (by omega), a5 14 (by omega)]
    exact ⟨hA.1, rfl, rfl, hA.2.2.2⟩
  · exact relB_congr a7 a8 a9 a10 (fun j hj => a11 j (by have := relN_g hN; omega)) hB
  · unfold RelW
    rw [a12, a1 22 (by omega) (by omega), a1 23 (by omega) (by omega), a1 24 (by omega) (by omega)]
    exact hW
  · unfold RelM
    rw [a13]
    exact hM
  · unfold RelC
    rw [a13, a14, a15, a16, a17, a18, a19, a20]
    exact hC
  · unfold RelO
    rw [a11 3 (by omega), a11 4 (by omega), a11 10 (by omega), a11 11 (by omega), a12, a1 25 (by omega) (by omega), a1 26 (by omega) (by omega)]
    exact hO
  · unfold RelK
    rw [a22, a23, a1 27 (by omega) (by omega)]
    exact hK
  · exact relP_congr a17 a18 (a11 10 (by omega)) a20 a10 (fun j hj => a11 j (by omega)) a24 hP
/-- what a reference's memory measures, behind bars and values -/
theorem up216 (I : PI) (su sf : Nat → Int32) {j : Nat} (hj : ¬ j = 6) : (upA (upA I 21 6 su) 6 0 sf) 21 j = I 21 j := by
  funext k
  unfold upA
  simp [hj]
theorem call21 (L d : Nat) : Cl21 (Inv L) (d + 6) 8 400 := by
  intro m hm
  obtain ⟨I, J, T, rfl, h⟩ := hm
  obtain ⟨hN, hT, hA, w, h0, o, hwo, hB, hW, hM, hC, hD, hO, hK, hP⟩ := id h
  have hn := relW_le hW
  obtain ⟨ho, ho6⟩ := relB_o hB
  have hno : 0 < w * h0 → 0 < o := fun z => hwo (pos_l z)
  have n9 : I 5 0 9 = nn (w * h0) := hW.2.2.1
  have n24 : I 14 0 24 = nn (w * h0) := hW.2.2.2.2.2.1
  rcases Nat.eq_zero_or_pos (w * h0) with hz | hp
  · have z9 : I 5 0 9 ≤ 0 := by rw [n9, hz]; decide
    have z24 : (up3 I 11 0 15 1) 14 0 24 = 0 := by show I 14 0 24 = 0; rw [n24, hz]; rfl
    refine ⟨-1, MX (up3 I 11 0 15 1) J T, MX (up3 (up3 (up3 (up3 I 11 0 15 1) 14 0 0 0) 14 0 1 1) 14 0 2 (-1)) J T, ?_, fun _ => rfl, rfl, ?_, ⟨_, _, _, rfl, rel_tr 1 (by decide) h⟩, Nat.le_add_right _ _, Nat.le_add_right _ _⟩
    · simp only [c132, c74, if_pos z9, ret9, b132_7, j00, not_true_eq_false, if_false, c20, b132_15]
    · rw [c263, if_neg (fun z => z z24), c187]
      simp only [ret9, b263_17]
  · have z9 : ¬ I 5 0 9 ≤ 0 := by rw [n9, le0 (by omega)]; omega
    obtain ⟨b, hmb⟩ := relmb hB (hno hp)
    have hg := relGW hW hp
    have hob : I 12 b 0 = nn o := (relVN hB hW hO hp hmb).2.2.2.1
    have hwd := relO_wd hO hp
    obtain ⟨v, a, hv4, hBS⟩ := BS_ex (I 28 7) (I 28 6) (I 39 0) w h0 o (I 5 0 10)
    have hlaw := BS_law hBS
    have ec := barC (d + 1) I J T hW hp hM hC hD ho6 hBS
    generalize hx : (if v = 0 then (-2 : Int32) else nn a) = x at ec
    rw [hwd] at hBS
    by_cases hv : v = 0
    · have hL := hlaw.mp hv
      obtain ⟨su, sf, e2, -⟩ := seekC d (ws := I 28 7) (up3 I 3 0 3 x) J T (w := w) (h := h0) (o := o) ⟨hW, hp, hM, hC, hD, ho, ho6, hL⟩
      change cal (d + 5) 122 [vr 6 0] (MX (up3 I 3 0 3 x) J T) = some (.inl (some (vi (fg1 (SK (I 28 7) (I 39 0) (KKf I w h0 o) (SHf I (w * h0) o) (TTf I (w * h0) o) (w * h0) o).2.2.isSome))), MX (upA (upA (up3 I 3 0 3 x) 21 6 su) 6 0 sf) J T) at e2
      -- the reference
      have hB1 : RelB (up3 (up3 (upA (upA (up3 I 3 0 3 x) 21 6 su) 6 0 sf) 11 0 15 0) 14 0 0 0) T.1 T.2.2.1 o := relB_congr (I := I) rfl rfl rfl rfl (fun j hj => up216 (up3 I 3 0 3 x) su sf (by have := relN_g hN; omega)) hB
      obtain ⟨Q, S, y, em, -⟩ := barM (d + 2) (w := w) (h := h0) (o := o) (b := b) (v := v) (a := a) (up3 (up3 (upA (upA (up3 I 3 0 3 x) 21 6 su) 6 0 sf) 11 0 15 0) 14 0 0 0) J T hg n24 hob ho6 hBS
      have hB2 : RelB (up3 (HM (up3 (up3 (upA (upA (up3 I 3 0 3 x) 21 6 su) 6 0 sf) 11 0 15 0) 14 0 0 0) Q S) 14 0 42 y) T.1 T.2.2.1 o := relB_congr (I := I) rfl rfl rfl rfl (fun j hj => up216 (up3 I 3 0 3 x) su sf (by have := relN_g hN; omega)) hB
      have hvn : VN (up3 (HM (up3 (up3 (upA (upA (up3 I 3 0 3 x) 21 6 su) 6 0 sf) 11 0 15 0) 14 0 0 0) Q S) 14 0 42 y) w h0 o b := relVN hB2 hW hO hp hmb
      obtain ⟨W, g, ev, hWv⟩ := valuesM (d + 1) (up3 (HM (up3 (up3 (upA (upA (up3 I 3 0 3 x) 21 6 su) 6 0 sf) 11 0 15 0) 14 0 0 0) Q S) 14 0 42 y) J T hvn
      have hP2 : RelP (up3 (HM (up3 (up3 (upA (upA (up3 I 3 0 3 x) 21 6 su) 6 0 sf) 11 0 15 0) 14 0 0 0) Q S) 14 0 42 y) T.2.2.1 w h0 o := relP_congr (I := I) rfl rfl rfl rfl rfl (fun j hj => up216 (up3 I 3 0 3 x) su sf (by omega)) rfl hP
      have hpr : ∀ k, k < o → ∀ c, c < w * h0 → W (64 * k + c) = I 34 0 (64 * k + c) := fun k hk c hc => by
        rw [hWv k hk c hc, ← hP2 b hmb k hk c hc]
        rfl
      generalize hI3 : upA (upA (up3 (HM (up3 (up3 (upA (upA (up3 I 3 0 3 x) 21 6 su) 6 0 sf) 11 0 15 0) 14 0 0 0) Q S) 14 0 42 y) 34 1 W) 27 0 g = I3 at ev
      have hQ : RQ I I3 w h0 o b := by
        rw [← hI3]
        exact ⟨⟨hg, n24, hob, ho6⟩, rfl, rfl, hwd.symm, hpr, fun k hk => (hO.1 k hk).2.1.symm⟩
      have i7 : I3 28 7 = I 28 7 := by rw [← hI3]; rfl
      obtain ⟨gf2, Q2, S2, e5, -, r5⟩ := moved2 d J T (ws := I 28 7) (gf := I3 14 0) (I3 28 8) (I3 39 1) hQ (fun i _ => rfl) (fun c hc => (hD.1 c hc).2) hL
      rw [← i7, mm_id] at e5
      rw [i7] at e5
      generalize hR : fg1 (SK (I 28 7) (I 39 0) (KKf I w h0 o) (SHf I (w * h0) o) (TTf I (w * h0) o) (w * h0) o).2.2.isSome = R at e2 e5
      have hR01 : R = 0 ∨ R = 1 := by
        rw [← hR]
        cases (SK (I 28 7) (I 39 0) (KKf I w h0 o) (SHf I (w * h0) o) (TTf I (w * h0) o) (w * h0) o).2.2.isSome
        · exact .inl rfl
        · exact .inr rfl
      refine ⟨R, MX (up3 (upA (upA (up3 I 3 0 3 x) 21 6 su) 6 0 sf) 11 0 15 0) J T, MX (up3 (up3 (MMM I3 (I 28 7) gf2 Q2 S2) 14 0 1 0) 14 0 2 (-1)) J T, ?_, fun _ => rfl, rfl, ?_, ⟨_, _, _, rfl, ?_⟩, Nat.le_add_right _ _, Nat.le_add_right _ _⟩
      · simp only [c132, c74, if_neg z9, ret9, b132_7, j10, not_false_eq_true, if_true, ec, b132_23, if_pos (show nn v = 0 by rw [hv]; rfl), e2, b132_40]
        rcases hR01 with rfl | rfl
        · simp only [if_true, c51, ret9, b132_51]
        · simp only [j10, if_false, c51, ret9, b132_51]
      · have z24 : ¬ (up3 (upA (upA (up3 I 3 0 3 x) 21 6 su) 6 0 sf) 11 0 15 0) 14 0 24 = 0 := by show ¬ I 14 0 24 = 0; rw [n24, eq0n (by omega)]; omega
        rw [← TBe hmb, c263, if_pos z24, em]
        simp only [ret9]
        rw [b263_22, if_pos (show nn v = 0 by rw [hv]; rfl), ev]
        simp only [ret9]
        rw [b263_35, e5]
        simp only [ret9]
        rw [b263_40]
        rcases hR01 with rfl | rfl
        · simp only [if_true, c215, ret9, b263_51]
        · simp only [j10, if_false, c215, ret9, b263_51]
      · have gi : ∀ i, 3 ≤ i → i < 42 → (up3 (up3 (MMM I3 (I 28 7) gf2 Q2 S2) 14 0 1 0) 14 0 2 (-1)) 14 0 i = I 14 0 i := by
          intro i h1 h2
          rw [mm_g, mm_g]
          show wu (wu gf2 1 0) 2 (-1) i = _
          unfold wu
          rw [if_neg (by omega), if_neg (by omega), r5 i (by omega), ← hI3]
          show (if i = 42 then y else (if i = 0 then _ else _)) = _
          rw [if_neg (by omega), if_neg (by omega)]
          rfl
        rw [← hI3] at gi ⊢
        exact rel_gen (I := I) 0 (by decide) hN hT hA hwo hB hW hM hC hO hK hP gi rfl rfl rfl (fun i hi => by
          show (if i = 15 then _ else _) = _
          rw [if_neg (by omega)]
          rfl) rfl rfl rfl rfl rfl (fun j hj => up216 (up3 I 3 0 3 x) su sf hj) rfl rfl rfl rfl rfl rfl rfl rfl rfl hD rfl rfl rfl
    · obtain ⟨Q, S, y, em, -⟩ := barM (d + 2) (w := w) (h := h0) (o := o) (b := b) (v := v) (a := a) (up3 (up3 (up3 I 3 0 3 x) 11 0 15 5) 14 0 0 0) J T hg n24 hob ho6 hBS
      have z24 : ¬ (up3 (up3 I 3 0 3 x) 11 0 15 5) 14 0 24 = 0 := by show ¬ I 14 0 24 = 0; rw [n24, eq0n (by omega)]; omega
      have hvn0 : ¬ nn v = 0 := by rw [eq0n (by omega)]; exact hv
      refine ⟨-1, MX (up3 (up3 I 3 0 3 x) 11 0 15 5) J T, MX (up3 (up3 (up3 (HM (up3 (up3 (up3 I 3 0 3 x) 11 0 15 5) 14 0 0 0) Q S) 14 0 42 y) 14 0 1 5) 14 0 2 (-1)) J T, ?_, fun _ => rfl, rfl, ?_, ⟨_, _, _, rfl, hN, hT, ⟨hA.1, rfl, rfl, hA.2.2.2⟩, w, h0, o, hwo, hB, hW, hM, hC, hD, hO, hK, hP⟩, Nat.le_add_right _ _, Nat.le_add_right _ _⟩
      · simp only [c132, c74, if_neg z9, ret9, b132_7, j10, not_false_eq_true, if_true, ec, b132_23, if_neg hvn0, c20, b132_31]
      · rw [← TBe hmb, c263, if_pos z24, em]
        simp only [ret9]
        rw [b263_22, if_neg hvn0, c187]
        simp only [ret9, b263_30]
