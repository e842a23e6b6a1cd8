/-! The calls stakes, stake -/
set_option maxRecDepth 100000 in
theorem b176_13 (d : Nat) (x1 : Int32) (x2 : Int32) (I : PI) (J : PJ) (T : TL) : den d 176 13 [some (vr 11 0), some (vi x1), some (vi x2), some (vr 40 0), none] [vu] (MX I J T) = some (.inl (some (vi 1)), MX I J T) :=
  (bx_eq [] d 176 5 13 _ _ _).symm.trans rfl
/-- a cell more, with so many slots -/
abbrev TX (T : TL) (n : Nat) : TL := (T.1, T.2.1, T.2.2.1, T.2.2.2.1, T.2.2.2.2.1, T.2.2.2.2.2.1 + 1, T.2.2.2.2.2.2 + n)
theorem newX_MX (I : PI) (J : PJ) (T : TL) (n : Nat) : newX (MX I J T) n = MX I J (TX T n) := rfl
/-- what both sides know of an owner's field -/
theorem fieldR {I : PI} {J : PJ} {w h o k : Nat} (h64 : w * h ≤ 64) (hD : RelD I J (w * h) o) (hk : k < 6) : (∀ c, bt (J 42 1 k) c = true → c < w * h) ∧ (∀ c, c < w * h → bt (J 42 1 k) c = decide (I 28 7 c = nn k)) := by
  constructor
  · intro c hc
    exact ((hD.2 k hk c (bt_64 hc)).mp hc).1
  · intro c hc
    cases z : bt (J 42 1 k) c with
    | true => exact (decide_eq_true ((hD.2 k hk c (by omega)).mp z).2).symm
    | false => exact (decide_eq_false (fun y => by rw [(hD.2 k hk c (by omega)).mpr ⟨hc, y⟩] at z; cases z)).symm
theorem fldR {P : Nat → Bool} {f : Int64} {w h : Nat} (hw1 : 1 ≤ w) (h64 : w * h ≤ 64) (hf : ∀ c, bt f c = true → c < w * h) (hP : ∀ c, c < w * h → bt f c = P c) : (¬ f = 0 ∧ HT w h (bt f)) ↔ FLD w h P := by
  unfold FLD
  rw [← HT_iff hw1 hP, ← cn_congr hP]
  constructor
  · intro ⟨h1, h2⟩
    refine ⟨?_, h2⟩
    obtain ⟨s, s1, s2, -⟩ := ne0_bt h1
    exact cn_pos (hf s s2) s2
  · intro ⟨h1, h2⟩
    refine ⟨fun z => ?_, h2⟩
    rw [cn_zero (fun c _ => by rw [z, bt_zero])] at h1
    omega
theorem wks_ex {f : Int64} {w h : Nat} (hw1 : 1 ≤ w) (hw8 : w ≤ 8) (hh8 : h ≤ 8) (hf : ∀ c, bt f c = true → c < w * h) (z : ¬ f = 0 ∧ HT w h (bt f)) : ∃ s n, WKS (bt f) w h s n := by
  obtain ⟨s, s1, s2, -⟩ := ne0_bt z.1
  exact WKS_ex hw1 hw8 hh8 z.2 (hf s s2) s2
theorem call23 (L d : Nat) : Cl23 (Inv L) (d + 4) 8 400 := by
  intro m x hm
  obtain ⟨I, J, T, rfl, h⟩ := hm
  obtain ⟨hN, hT, hA, w, h0, o, hwo, hB, hW, hM, hC, hD, hO, hK, hP⟩ := id h
  have hn := relW_le hW
  obtain ⟨ho, ho6⟩ := relB_o hB
  have hno : 0 < w * h0 → 0 < o := fun z => hwo (pos_l z)
  have n24 : I 14 0 24 = nn (w * h0) := hW.2.2.2.2.2.1
  have e1 := ownC (d + 2) x I J T hW.2.2.1 (by omega) ho
  by_cases hx : ol (w * h0) o x
  · obtain ⟨k, hk, rfl⟩ := cl_of (by omega) hx.2
    have hk6 : k < 6 := by omega
    have hp := hx.1
    have hg := relGW hW hp
    obtain ⟨-, -, hw1, hw8, hh1, hh8⟩ := id hg
    have hr6 : inR (nn k) 6 = true := nn_inR (by omega) (by omega)
    have hkk : (nn k).toNatClampNeg = k := nn_idx (by omega)
    obtain ⟨hf, hfP⟩ := fieldR hn hD hk6
    generalize hff : J 42 1 k = f at hf hfP
    have hfl := fldR hw1 hn hf hfP
    by_cases hy : ¬ f = 0 ∧ HT w h0 (bt f)
    · obtain ⟨s, n, hKS⟩ := wks_ex hw1 hw8 hh8 hf hy
      obtain ⟨hKS2, hst⟩ := WKS_congr hw1 hfP hKS
      obtain ⟨tx, ty, sf, ec, qc⟩ := walkC1 d I J T hW hp hM hf hKS
      have o1 := ownM (d + 3) (nn k) (up3 (up3 (WKm I tx ty sf) 11 0 15 0) 14 0 0 0) (up3 J 10 0 4 f) T n24 (by omega) hB hno
      obtain ⟨Q, S, ef⟩ := isFM d (k := k) (up3 (up3 (WKm I tx ty sf) 11 0 15 0) 14 0 0 0) (up3 J 10 0 4 f) T hg n24
      change cal (d + 3) 266 _ _ = some (.inl (some (vi (bi (FLD w h0 (fun c => decide (I 28 7 c = nn k)))))), _) at ef
      rw [bi1 (hfl.mp hy)] at ef
      obtain ⟨st, ew, qw⟩ := walksM (d + 1) (k := k) (HM (up3 (up3 (WKm I tx ty sf) 11 0 15 0) 14 0 0 0) Q S) (up3 J 10 0 4 f) T hg hKS2
      change cal (d + 3) 267 _ _ = some (.inl none, MX (WMm _ st (nn (STK (fun c => decide (I 28 7 c = nn k)) w h0 s n).2.2)) _ T) at ew
      rw [hst] at ew
      refine ⟨nn (STK (bt f) w h0 s n).2.2, MX (up3 (WKm I tx ty sf) 11 0 15 0) (up3 J 10 0 4 f) T, MX (up3 (up3 (WMm (HM (up3 (up3 (WKm I tx ty sf) 11 0 15 0) 14 0 0 0) Q S) st (nn (STK (bt f) w h0 s n).2.2)) 14 0 1 0) 14 0 2 (-1)) (up3 J 10 0 4 f) T, ?_, fun _ => rfl, rfl, ?_, ⟨_, _, _, rfl, hN, hT, ⟨hA.1, rfl, rfl, hA.2.2.2⟩, w, h0, o, hwo, hB, hW, hM, hC, hD, hO, hK, hP⟩, Nat.le_add_right _ _, Nat.le_add_right _ _⟩
      · rw [c146, e1]
        simp only [ret9]
        rw [b146_8, bi1 hx, if_pos (by decide), if_pos hr6, hkk, hff, ec]
        simp only [ret9]
        rw [b146_33, if_pos (by decide)]
        show ret9 _ _ _ _ _ _ (cal (d + 3) 51 [vr 11 0, vi (sf 3)] _) = _
        rw [qc.1, c51]
        simp only [ret9]
        rw [b146_53]
      · rw [c265, o1]
        simp only [ret9]
        rw [b265_10, bi1 hx, if_pos (by decide), ef]
        simp only [ret9]
        rw [b265_24, if_pos (by decide), ew]
        simp only [ret9]
        rw [b265_38, c215]
        simp only [ret9]
        rw [b265_46]
        rfl
    · have ec := walkC0 d I J T hW hp hM hf hy
      have o1 := ownM (d + 3) (nn k) (up3 (up3 (up3 I 10 0 3 0) 11 0 15 5) 14 0 0 0) (up3 J 10 0 4 f) T n24 (by omega) hB hno
      obtain ⟨Q, S, ef⟩ := isFM d (k := k) (up3 (up3 (up3 I 10 0 3 0) 11 0 15 5) 14 0 0 0) (up3 J 10 0 4 f) T hg n24
      change cal (d + 3) 266 _ _ = some (.inl (some (vi (bi (FLD w h0 (fun c => decide (I 28 7 c = nn k)))))), _) at ef
      rw [bi0 (fun q => hy (hfl.mpr q))] at ef
      refine ⟨-1, MX (up3 (up3 I 10 0 3 0) 11 0 15 5) (up3 J 10 0 4 f) T, MX (up3 (up3 (HM (up3 (up3 (up3 I 10 0 3 0) 11 0 15 5) 14 0 0 0) Q S) 14 0 1 5) 14 0 2 (-1)) (up3 J 10 0 4 f) T, ?_, fun _ => rfl, rfl, ?_, ⟨_, _, _, rfl, hN, hT, ⟨hA.1, rfl, rfl, hA.2.2.2⟩, w, h0, o, hwo, hB, hW, hM, hC, hD, hO, hK, hP⟩, Nat.le_add_right _ _, Nat.le_add_right _ _⟩
      · rw [c146, e1]
        simp only [ret9]
        rw [b146_8, bi1 hx, if_pos (by decide), if_pos hr6, hkk, hff, ec]
        simp only [ret9]
        rw [b146_33, if_neg (fun q => q rfl), c20]
        simp only [ret9]
        rw [b146_41]
      · rw [c265, o1]
        simp only [ret9]
        rw [b265_10, bi1 hx, if_pos (by decide), ef]
        simp only [ret9]
        rw [b265_24, if_neg (fun q => q rfl), c187]
        simp only [ret9]
        rw [b265_32]
  · have e3 := ownM (d + 3) x (up3 (up3 I 11 0 15 1) 14 0 0 0) J T n24 (by omega) hB hno
    refine ⟨-1, MX (up3 I 11 0 15 1) J T, MX (up3 (up3 (up3 (up3 I 11 0 15 1) 14 0 0 0) 14 0 1 1) 14 0 2 (-1)) J T, ?_, fun _ => rfl, rfl, ?_, ⟨_, _, _, rfl, rel_tr 1 (by decide) h⟩, Nat.le_add_right _ _, Nat.le_add_right _ _⟩
    · simp only [c146, e1, bi0 hx, ret9, b146_8, j00, not_true_eq_false, if_false, c20, b146_16]
    · simp only [c265, e3, bi0 hx, ret9, b265_10, j00, not_true_eq_false, if_false, c187, b265_18]
