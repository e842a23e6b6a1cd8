/-! Small calls: keep, set -/
theorem relC_kept {I : PI} {J : PJ} {n o k : Nat} {v : Int32} (hC : RelC I J n o) (hv : ownr o v) : RelC (up3 (up3 I 28 2 k v) 28 6 k v) J n o := by
  obtain ⟨q1, q2⟩ := hC
  refine ⟨q1, ?_⟩
  intro c hc
  obtain ⟨r1, r2, r3, r4, r5, r6, r7⟩ := q2 c hc
  refine ⟨r1, r2, r3, r4, r5, ?_, ?_⟩
  · show (if c = k then v else I 28 2 c) = (if c = k then v else I 28 6 c)
    rw [r6]
  · show ownr o (if c = k then v else I 28 6 c)
    by_cases hck : c = k
    · rw [if_pos hck]; exact hv
    · rw [if_neg hck]; exact r7
theorem call7 (L d : Nat) : Cl7 (Inv L) (d + 3) 8 400 := by
  intro m x v hm
  obtain ⟨I, J, T, rfl, h⟩ := hm
  obtain ⟨hN, hT, hA, w, h0, o, hwo, hB, hW, hM, hC, hD, hO, hK, hP⟩ := id h
  have hn := relW_le hW
  obtain ⟨ho, ho6⟩ := relB_o hB
  have hno : 0 < w * h0 → 0 < o := fun z => hwo (pos_l z)
  have e1 := cellC (d + 2) x I J T hW.2.2.1
  have e3 := ownC (d + 1) v I J T hW.2.2.1 (by omega) ho
  by_cases hx : cl (w * h0) x
  · obtain ⟨k, hk, rfl⟩ := cl_of (by omega) hx
    have hx6 : inR (nn k) 64 = true := nn_inR (by omega) (by omega)
    have hkk : (nn k).toNatClampNeg = k := nn_idx (by omega)
    have good : ownr o v → Rel L (up3 (up3 (up3 (up3 (up3 (up3 I 28 2 k v) 11 0 15 0) 14 0 0 0) 28 6 k v) 14 0 1 0) 14 0 2 (-1)) J T := by
      intro hv
      have hh : Rel L (up3 (up3 I 28 2 k v) 28 6 k v) J T := ⟨hN, hT, hA, w, h0, o, hwo, hB, hW, hM, relC_kept hC hv, hD, hO, hK, hP⟩
      exact rel_tr 0 (by decide) hh
    have e2 := cellM (d + 2) (nn k) (up3 (up3 (up3 I 28 2 k v) 11 0 15 0) 14 0 0 0) J T hW.2.2.2.2.2.1
    by_cases hv : v = -1
    · refine ⟨1, MX (up3 (up3 I 28 2 k v) 11 0 15 0) J T, MX (up3 (up3 (up3 (up3 (up3 (up3 I 28 2 k v) 11 0 15 0) 14 0 0 0) 28 6 k v) 14 0 1 0) 14 0 2 (-1)) J T, ?_, fun _ => rfl, rfl, ?_, ⟨_, _, _, rfl, good (.inl hv)⟩, Nat.le_add_right _ _, Nat.le_add_right _ _⟩
      · simp only [c76, e1, bi1 hx, ret9, b76_8, j10, if_false, if_pos hv, hx6, hkk, if_true, c71, b76_47, or_true, j11]
      · simp only [c226, e2, bi1 hx, ret9, b226_10, j10, if_false, if_pos hv, hx6, hkk, if_true, c223, b226_43, or_true, j11]
    · by_cases hw : ol (w * h0) o v
      · have hw2 : ownr o v := by
          obtain ⟨q, hq, rfl⟩ := cl_of (by omega) hw.2
          exact .inr ⟨q, hq, rfl⟩
        have e4 := ownM (d + 2) v (up3 (up3 (up3 I 28 2 k v) 11 0 15 0) 14 0 0 0) J T hW.2.2.2.2.2.1 (by omega) hB hno
        refine ⟨1, MX (up3 (up3 I 28 2 k v) 11 0 15 0) J T, MX (up3 (up3 (up3 (up3 (up3 (up3 I 28 2 k v) 11 0 15 0) 14 0 0 0) 28 6 k v) 14 0 1 0) 14 0 2 (-1)) J T, ?_, fun _ => rfl, rfl, ?_, ⟨_, _, _, rfl, good hw2⟩, Nat.le_add_right _ _, Nat.le_add_right _ _⟩
        · simp only [c76, e1, bi1 hx, ret9, b76_8, j10, if_false, if_neg hv, e3, bi1 hw, b76_24, not_false_eq_true, hx6, hkk, if_true, c71, b76_47, or_true, j11]
        · simp only [c226, e2, bi1 hx, ret9, b226_10, j10, if_false, if_neg hv, e4, bi1 hw, b226_23, not_false_eq_true, hx6, hkk, if_true, c223, b226_43, or_true, j11]
      · have e5 := cellM (d + 2) (nn k) (up3 (up3 I 11 0 15 1) 14 0 0 0) J T hW.2.2.2.2.2.1
        have e4 := ownM (d + 2) v (up3 (up3 I 11 0 15 1) 14 0 0 0) J T hW.2.2.2.2.2.1 (by omega) hB hno
        refine ⟨0, MX (up3 I 11 0 15 1) J T, MX (up3 (up3 (up3 (up3 I 11 0 15 1) 14 0 0 0) 14 0 1 1) 14 0 2 (-1)) J T, ?_, fun _ => rfl, rfl, ?_, ⟨_, _, _, rfl, rel_tr 1 (by decide) h⟩, Nat.le_add_right _ _, Nat.le_add_right _ _⟩
        · simp only [c76, e1, bi1 hx, ret9, b76_8, j10, if_false, if_neg hv, e3, bi0 hw, b76_24, not_true_eq_false, c69, b76_32, true_or, if_true, j00]
        · simp only [c226, e5, bi1 hx, ret9, b226_10, j10, if_false, if_neg hv, e4, bi0 hw, b226_23, not_true_eq_false, c222, b226_31, true_or, if_true, j00]
  · have e5 := cellM (d + 2) x (up3 (up3 I 11 0 15 1) 14 0 0 0) J T hW.2.2.2.2.2.1
    refine ⟨0, MX (up3 I 11 0 15 1) J T, MX (up3 (up3 (up3 (up3 I 11 0 15 1) 14 0 0 0) 14 0 1 1) 14 0 2 (-1)) J T, ?_, fun _ => rfl, rfl, ?_, ⟨_, _, _, rfl, rel_tr 1 (by decide) h⟩, Nat.le_add_right _ _, Nat.le_add_right _ _⟩
    · simp only [c76, e1, bi0 hx, ret9, b76_8, if_true, c69, b76_32, true_or, j00]
    · simp only [c226, e5, bi0 hx, ret9, b226_10, if_true, c222, b226_31, true_or, j00]
theorem stC (d : Nat) {n : Nat} (I : PI) (J : PJ) (T : TL) (hn : I 5 0 9 = nn n) (hl : n < 2147483648) : cal d 74 [vr 5 0] (MX I J T) = some (.inl (some (vi (bi (0 < n)))), MX I J T) := by
  rw [c74, hn]
  by_cases h : n = 0
  · rw [if_pos ((le0 hl).mpr h), bi0 (by omega)]
  · rw [if_neg (fun z => h ((le0 hl).mp z)), bi1 (by omega)]
theorem eq0n {n : Nat} (hn : n < 2147483648) : (nn n = 0) ↔ n = 0 := nn_inj (b := 0) hn (by omega)
theorem call9 (L d : Nat) : Cl9 (Inv L) (d + 2) 8 400 := by
  intro m x v hm
  obtain ⟨I, J, T, rfl, h⟩ := hm
  obtain ⟨hN, hT, hA, w, h0, o, hwo, hB, hW, hM, hC, hD, hO, hK, hP⟩ := id h
  have hn := relW_le hW
  have e1 := stC (d + 1) I J T hW.2.2.1 (by omega)
  have deny : ∀ t : Int32, ¬ t = 4 → cal (d + 2) 78 [vr 11 0, vi x, vi v] (MX I J T) = some (.inl (some (vi 0)), MX (up3 I 11 0 15 t) J T) → cal (d + 2) 228 [vr 14 0, vi x, vi v] (MX (up3 I 11 0 15 t) J T) = some (.inl (some (vi 0)), MX (up3 (up3 (up3 (up3 I 11 0 15 t) 14 0 0 0) 14 0 1 t) 14 0 2 (-1)) J T) → Ok2 (Inv L) (d + 2) 8 400 78 228 [vi x, vi v] (MX I J T) :=
    fun t ht q1 q2 => ⟨0, MX (up3 I 11 0 15 t) J T, _, q1, fun _ => rfl, rfl, q2, ⟨_, _, _, rfl, rel_tr t ht h⟩, Nat.le_add_right _ _, Nat.le_add_right _ _⟩
  by_cases hp : 0 < w * h0
  · have hz : ∀ t : Int32, ¬ (up3 I 11 0 15 t) 14 0 24 = 0 := by
      intro t z
      have z2 : I 14 0 24 = 0 := z
      rw [hW.2.2.2.2.2.1, eq0n (by omega)] at z2
      omega
    by_cases h1 : x < 0
    · refine deny 1 (by decide) ?_ ?_
      · simp only [c78, e1, bi1 hp, ret9, b78_7, j10, if_false, if_pos h1, c69, b78_24, true_or, if_true, j00]
      · simp only [c228, if_neg (hz 1), inM, bi0 (fun (z : (0 : Int32) ≤ x ∧ x ≤ 1) => i32_nlt.mpr z.1 h1), ret9, b228_18, j00, not_true_eq_false, if_false, c222, b228_26, true_or, if_true]
    · by_cases h2 : x ≤ 1
      · have hi1 := bi1 (show (0 : Int32) ≤ x ∧ x ≤ 1 from ⟨i32_nlt.mp h1, h2⟩)
        by_cases hx0 : x = 0
        · subst hx0
          by_cases h3 : v < 1
          · refine deny 2 (by decide) ?_ ?_
            · simp only [c78, e1, bi1 hp, ret9, b78_7, j10, if_false, if_neg h1, if_pos h2, j00, not_true_eq_false, if_pos h3, c69, b78_44, true_or, if_true]
            · simp only [c228, if_neg (hz 2), inM, hi1, ret9, b228_18, j10, j00, not_false_eq_true, not_true_eq_false, if_true, if_false, bi0 (fun (z : (1 : Int32) ≤ v ∧ v ≤ 2) => i32_nlt.mpr z.1 h3), b228_37, c222, b228_58, true_or]
          · by_cases h4 : v ≤ 2
            · refine ⟨1, MX (up3 (up3 I 5 0 10 v) 11 0 15 0) J T, MX (up3 (up3 (up3 (up3 (up3 (up3 I 5 0 10 v) 11 0 15 0) 14 0 0 0) 14 0 25 v) 14 0 1 0) 14 0 2 (-1)) J T, ?_, fun _ => rfl, rfl, ?_, ⟨_, _, _, rfl, ?_⟩, Nat.le_add_right _ _, Nat.le_add_right _ _⟩
              · simp only [c78, e1, bi1 hp, ret9, b78_7, j10, if_false, if_neg h1, if_pos h2, j00, not_true_eq_false, if_neg h3, if_pos h4, c71, b78_84, or_true, if_true, j11]
              · have hz2 : ¬ (up3 (up3 I 5 0 10 v) 11 0 15 0) 14 0 24 = 0 := hz 0
                simp only [c228, if_neg hz2, inM, hi1, ret9, b228_18, j10, j00, not_false_eq_true, not_true_eq_false, if_true, if_false, bi1 (show (1 : Int32) ≤ v ∧ v ≤ 2 from ⟨i32_nlt.mp h3, h4⟩), b228_37, c223, b228_80, or_true, j11]
              · have hO' : RelO (up3 (up3 I 5 0 10 v) 14 0 25 v) (w * h0) o := by
                  obtain ⟨q1, q2⟩ := hO
                  refine ⟨q1, .inr ?_⟩
                  rcases q2 with q2 | ⟨q2, q3, q4, q5, q6⟩
                  · omega
                  · refine ⟨q2, rfl, ?_, q5, q6⟩
                    show v = 1 ∨ v = 2
                    obtain ⟨ev, hv⟩ := nn_of (x := v) (Int32.le_trans (show (0 : Int32) ≤ 1 by decide) (i32_nlt.mp h3))
                    rw [ev] at h3 h4 ⊢
                    rw [show (1 : Int32) = nn 1 from rfl, nn_lt hv (by omega)] at h3
                    rw [show (2 : Int32) = nn 2 from rfl, nn_le hv (by omega)] at h4
                    rw [show (1 : Int32) = nn 1 from rfl, show (2 : Int32) = nn 2 from rfl, nn_inj hv (by omega), nn_inj hv (by omega)]
                    omega
                have hh : Rel L (up3 (up3 I 5 0 10 v) 14 0 25 v) J T := ⟨hN, hT, hA, w, h0, o, hwo, hB, hW, hM, hC, hD, hO', hK, hP⟩
                exact rel_tr 0 (by decide) hh
            · refine deny 2 (by decide) ?_ ?_
              · simp only [c78, e1, bi1 hp, ret9, b78_7, j10, if_false, if_neg h1, if_pos h2, j00, not_true_eq_false, if_neg h3, if_neg h4, c69, b78_44, true_or, if_true]
              · simp only [c228, if_neg (hz 2), inM, hi1, ret9, b228_18, j10, j00, not_false_eq_true, not_true_eq_false, if_true, if_false, bi0 (fun (z : (1 : Int32) ≤ v ∧ v ≤ 2) => h4 z.2), b228_37, c222, b228_58, true_or]
        · by_cases h3 : v < 0
          · refine deny 2 (by decide) ?_ ?_
            · simp only [c78, e1, bi1 hp, ret9, b78_7, j10, if_false, if_neg h1, if_pos h2, if_pos hx0, if_pos h3, c69, b78_71, true_or, if_true, j00]
            · simp only [c228, if_neg (hz 2), inM, hi1, ret9, b228_18, j10, not_false_eq_true, if_true, if_pos hx0, bi0 (fun (z : (0 : Int32) ≤ v ∧ v ≤ 20) => i32_nlt.mpr z.1 h3), b228_50, j00, not_true_eq_false, if_false, c222, b228_58, true_or]
          · by_cases h4 : v ≤ 20
            · refine ⟨1, MX (up3 (up3 I 5 0 11 v) 11 0 15 0) J T, MX (up3 (up3 (up3 (up3 (up3 (up3 I 5 0 11 v) 11 0 15 0) 14 0 0 0) 14 0 26 v) 14 0 1 0) 14 0 2 (-1)) J T, ?_, fun _ => rfl, rfl, ?_, ⟨_, _, _, rfl, ?_⟩, Nat.le_add_right _ _, Nat.le_add_right _ _⟩
              · simp only [c78, e1, bi1 hp, ret9, b78_7, j10, if_false, if_neg h1, if_pos h2, if_pos hx0, if_neg h3, if_pos h4, c71, b78_84, or_true, if_true, j11]
              · have hz2 : ¬ (up3 (up3 I 5 0 11 v) 11 0 15 0) 14 0 24 = 0 := hz 0
                simp only [c228, if_neg hz2, inM, hi1, ret9, b228_18, j10, not_false_eq_true, if_true, if_pos hx0, bi1 (show (0 : Int32) ≤ v ∧ v ≤ 20 from ⟨i32_nlt.mp h3, h4⟩), b228_50, c223, b228_80, or_true, j11]
              · have hO' : RelO (up3 (up3 I 5 0 11 v) 14 0 26 v) (w * h0) o := by
                  obtain ⟨q1, q2⟩ := hO
                  refine ⟨q1, .inr ?_⟩
                  rcases q2 with q2 | ⟨q2, q3, q4, q5, q6⟩
                  · omega
                  · refine ⟨q2, q3, q4, rfl, ?_⟩
                    obtain ⟨ev, hv⟩ := nn_of (i32_nlt.mp h3)
                    refine ⟨v.toNatClampNeg, ?_, ev⟩
                    rw [ev, show (20 : Int32) = nn 20 from rfl, nn_le hv (by omega)] at h4
                    exact h4
                have hh : Rel L (up3 (up3 I 5 0 11 v) 14 0 26 v) J T := ⟨hN, hT, hA, w, h0, o, hwo, hB, hW, hM, hC, hD, hO', hK, hP⟩
                exact rel_tr 0 (by decide) hh
            · refine deny 2 (by decide) ?_ ?_
              · simp only [c78, e1, bi1 hp, ret9, b78_7, j10, if_false, if_neg h1, if_pos h2, if_pos hx0, if_neg h3, if_neg h4, c69, b78_71, true_or, if_true, j00]
              · simp only [c228, if_neg (hz 2), inM, hi1, ret9, b228_18, j10, not_false_eq_true, if_true, if_pos hx0, bi0 (fun (z : (0 : Int32) ≤ v ∧ v ≤ 20) => h4 z.2), b228_50, j00, not_true_eq_false, if_false, c222, b228_58, true_or]
      · refine deny 1 (by decide) ?_ ?_
        · simp only [c78, e1, bi1 hp, ret9, b78_7, j10, if_false, if_neg h1, if_neg h2, c69, b78_24, true_or, if_true, j00]
        · simp only [c228, if_neg (hz 1), inM, bi0 (fun (z : (0 : Int32) ≤ x ∧ x ≤ 1) => h2 z.2), ret9, b228_18, j00, not_true_eq_false, if_false, c222, b228_26, true_or, if_true]
  · refine deny 1 (by decide) ?_ ?_
    · simp only [c78, e1, bi0 hp, ret9, b78_7, if_true, c69, b78_24, true_or, j00]
    · have z2 : (up3 I 11 0 15 1) 14 0 24 = 0 := by
        show I 14 0 24 = 0
        rw [hW.2.2.2.2.2.1, eq0n (by omega)]
        omega
      simp only [c228, if_pos z2, c222, ret9, b228_26, true_or, if_true, j00]
