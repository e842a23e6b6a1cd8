theorem within_sums {P : Nat → Bool} {w h s n : Nat} (hw1 : 1 ≤ w) (hw8 : w ≤ 8) (hh8 : h ≤ 8) (hK : WKS P w h s n) : ∃ A : Nat, A ≤ 9216 ∧ CA (STK P w h s n).1 (STK P w h s n).2.1 (STK P w h s n).2.2 = (A : Int) ∧ CT (STK P w h s n).1 (STK P w h s n).2.1 (STK P w h s n).2.2 = ((2 * A : Nat) : Int) := by
  have hc := STK_c hK
  have hpos := STK_pos hw1 hK
  obtain ⟨k1, k2, k3, k4, k5⟩ := id hK
  have hS := SC_of hw1 k1 k2 k3
  obtain ⟨m1, m2⟩ := mk_end (w := w) (h := h) hS k5
  have hnn := AR_nn hS k5 (fdB_FB P w h) (WN_all hw1 k1 k2 k3 k5 k4)
  have hbd : CA (STK P w h s n).1 (STK P w h s n).2.1 (STK P w h s n).2.2 ≤ 64 * ((STK P w h s n).2.2 : Int) := sI_bd _ (fun j _ => by
    have a1 := hpos j
    have a2 := hpos (nxS (STK P w h s n).2.2 j)
    exact mul_b a1.1 (by omega) (by omega))
  unfold STK at hbd hc ⊢
  rw [m1] at hbd ⊢
  rw [m2]
  refine ⟨(AR (fdB P w h) (((s % w : Nat) : Int), ((s / w : Nat) : Int), 0) n).toNat, by omega, by omega, by omega⟩
theorem call25 (L d : Nat) : Cl25 (Inv L) (d + 4) 8 400 := by
  intro m x hm
  obtain ⟨I, J, T, rfl, h⟩ := hm
  obtain ⟨hN, hT, hA, w, h0, o, hwo, hB, hW, hM, hC, hD, hO, hK, hP⟩ := id h
  have hn := relW_le hW
  obtain ⟨ho, ho6⟩ := relB_o hB
  have hno : 0 < w * h0 → 0 < o := fun z => hwo (pos_l z)
  have n24 : I 14 0 24 = nn (w * h0) := hW.2.2.2.2.2.1
  have e1 := ownC (d + 2) x I J T hW.2.2.1 (by omega) ho
  by_cases hx : ol (w * h0) o x
  · obtain ⟨k, hk, rfl⟩ := cl_of (by omega) hx.2
    have hk6 : k < 6 := by omega
    have hp := hx.1
    have hg := relGW hW hp
    obtain ⟨-, -, hw1, hw8, hh1, hh8⟩ := id hg
    have hr6 : inR (nn k) 6 = true := nn_inR (by omega) (by omega)
    have hkk : (nn k).toNatClampNeg = k := nn_idx (by omega)
    obtain ⟨hf, hfP⟩ := fieldR hn hD hk6
    generalize hff : J 42 1 k = f at hf hfP
    have hfl := fldR hw1 hn hf hfP
    by_cases hy : ¬ f = 0 ∧ HT w h0 (bt f)
    · obtain ⟨s, n, hKS⟩ := wks_ex hw1 hw8 hh8 hf hy
      obtain ⟨hKS2, hst⟩ := WKS_congr hw1 hfP hKS
      have hc144 := STK_c hKS
      obtain ⟨tx, ty, sf, ec, qc⟩ := walkC1 d I J T hW hp hM hf hKS
      obtain ⟨A, hA9, hCA, hCT⟩ := within_sums hw1 hw8 hh8 hKS
      have ea := areaC (d + 3) I (up3 J 10 0 4 f) T hc144.1 hc144.2 qc (STK (bt f) w h0 s n).2.2 0 none (by omega)
      rw [hCA, ii_nat] at ea
      have o1 := ownM (d + 3) (nn k) (up3 (up3 (WKm I tx ty sf) 11 0 15 0) 14 0 0 0) (up3 J 10 0 4 f) T n24 (by omega) hB hno
      obtain ⟨Q, S, ef⟩ := isFM d (k := k) (up3 (up3 (WKm I tx ty sf) 11 0 15 0) 14 0 0 0) (up3 J 10 0 4 f) T hg n24
      change cal (d + 3) 266 _ _ = some (.inl (some (vi (bi (FLD w h0 (fun c => decide (I 28 7 c = nn k)))))), _) at ef
      rw [bi1 (hfl.mp hy)] at ef
      obtain ⟨st, ew, qw⟩ := walksM (d + 1) (k := k) (HM (up3 (up3 (WKm I tx ty sf) 11 0 15 0) 14 0 0 0) Q S) (up3 J 10 0 4 f) T hg hKS2
      change cal (d + 3) 267 _ _ = some (.inl none, MX (WMm _ st (nn (STK (fun c => decide (I 28 7 c = nn k)) w h0 s n).2.2)) _ T) at ew
      change SMo w st (STK (fun c => decide (I 28 7 c = nn k)) w h0 s n) at qw
      rw [hst] at ew qw
      obtain ⟨p4, p5, et⟩ := twM (d + 3) (HM (up3 (up3 (WKm I tx ty sf) 11 0 15 0) 14 0 0 0) Q S) (up3 J 10 0 4 f) T hg hc144.1 hc144.2 qw (STK_pos hw1 hKS) (nn k) (STK (bt f) w h0 s n).2.2 0 none none (by omega)
      rw [hCT, ii_nat] at et
      refine ⟨nn A, MX (up3 (WKm I tx ty sf) 11 0 15 0) (up3 J 10 0 4 f) T, MX (up3 (up3 (WMm (HM (up3 (up3 (WKm I tx ty sf) 11 0 15 0) 14 0 0 0) Q S) st (nn (STK (bt f) w h0 s n).2.2)) 14 0 1 0) 14 0 2 (-1)) (up3 J 10 0 4 f) T, ?_, fun _ => rfl, rfl, ?_, ⟨_, _, _, rfl, hN, hT, ⟨hA.1, rfl, rfl, hA.2.2.2⟩, w, h0, o, hwo, hB, hW, hM, hC, hD, hO, hK, hP⟩, Nat.le_add_right _ _, Nat.le_add_right _ _⟩
      · rw [c151, e1]
        simp only [ret9]
        rw [b151_8, bi1 hx, if_pos (by decide), if_pos hr6, hkk, hff, ec]
        simp only [ret9]
        rw [b151_33, if_pos (by decide), c152]
        refine (congrArg (ret9 (den (d + 3 + 1) 151) 151 47 50 _ _) ea).trans ?_
        simp only [ret9]
        rw [b151_50, c51]
        simp only [ret9]
        rw [b151_53]
      · rw [c270, o1]
        simp only [ret9]
        rw [b270_10, bi1 hx, if_pos (by decide), ef]
        simp only [ret9]
        rw [b270_24, if_pos (by decide), ew]
        simp only [ret9]
        rw [b270_38]
        refine Eq.trans et ?_
        rw [c232, if_pos (nn_nonneg (by omega))]
        simp only [ret9]
        rw [b270_126, show (2 : Int32) = nn 2 from rfl, nn_div (by omega) (by omega), show 2 * A / 2 = A by omega, c215]
        simp only [ret9]
        rw [b270_131]
    · have ec := walkC0 d I J T hW hp hM hf hy
      have o1 := ownM (d + 3) (nn k) (up3 (up3 (up3 I 10 0 3 0) 11 0 15 5) 14 0 0 0) (up3 J 10 0 4 f) T n24 (by omega) hB hno
      obtain ⟨Q, S, ef⟩ := isFM d (k := k) (up3 (up3 (up3 I 10 0 3 0) 11 0 15 5) 14 0 0 0) (up3 J 10 0 4 f) T hg n24
      change cal (d + 3) 266 _ _ = some (.inl (some (vi (bi (FLD w h0 (fun c => decide (I 28 7 c = nn k)))))), _) at ef
      rw [bi0 (fun q => hy (hfl.mpr q))] at ef
      refine ⟨-1, MX (up3 (up3 I 10 0 3 0) 11 0 15 5) (up3 J 10 0 4 f) T, MX (up3 (up3 (HM (up3 (up3 (up3 I 10 0 3 0) 11 0 15 5) 14 0 0 0) Q S) 14 0 1 5) 14 0 2 (-1)) (up3 J 10 0 4 f) T, ?_, fun _ => rfl, rfl, ?_, ⟨_, _, _, rfl, hN, hT, ⟨hA.1, rfl, rfl, hA.2.2.2⟩, w, h0, o, hwo, hB, hW, hM, hC, hD, hO, hK, hP⟩, Nat.le_add_right _ _, Nat.le_add_right _ _⟩
      · rw [c151, e1]
        simp only [ret9]
        rw [b151_8, bi1 hx, if_pos (by decide), if_pos hr6, hkk, hff, ec]
        simp only [ret9]
        rw [b151_33, if_neg (fun q => q rfl), c20]
        simp only [ret9]
        rw [b151_41]
      · rw [c270, o1]
        simp only [ret9]
        rw [b270_10, bi1 hx, if_pos (by decide), ef]
        simp only [ret9]
        rw [b270_24, if_neg (fun q => q rfl), c187]
        simp only [ret9]
        rw [b270_32]
  · have e3 := ownM (d + 3) x (up3 (up3 I 11 0 15 1) 14 0 0 0) J T n24 (by omega) hB hno
    refine ⟨-1, MX (up3 I 11 0 15 1) J T, MX (up3 (up3 (up3 (up3 I 11 0 15 1) 14 0 0 0) 14 0 1 1) 14 0 2 (-1)) J T, ?_, fun _ => rfl, rfl, ?_, ⟨_, _, _, rfl, rel_tr 1 (by decide) h⟩, Nat.le_add_right _ _, Nat.le_add_right _ _⟩
    · simp only [c151, e1, bi0 hx, ret9, b151_8, j00, not_true_eq_false, if_false, c20, b151_16]
    · simp only [c270, e3, bi0 hx, ret9, b270_10, j00, not_true_eq_false, if_false, c187, b270_18]
