/-! Small calls: had, keep, set, whose -/
theorem relW_le {I : PI} {w h : Nat} (hW : RelW I w h) : w * h ≤ 64 := by
  rcases hW.2.2.2.2.2.2 with ⟨rfl, rfl⟩ | ⟨h1, h2, h3, h4⟩
  · exact Nat.zero_le _
  · exact Nat.mul_le_mul h2 h4
theorem relB_o {I : PI} {g : Nat} {mb : OR} {o : Nat} (hB : RelB I g mb o) : I 1 g 3 = nn o ∧ o ≤ 6 := by
  rcases hB with ⟨rfl, h2, h3⟩ | ⟨b, h1, h2, h3, h4, -⟩
  · exact ⟨h3, Nat.zero_le _⟩
  · exact ⟨h4, h3⟩
theorem pos_l {w h : Nat} (z : 0 < w * h) : 0 < w := by
  rcases Nat.eq_zero_or_pos w with h1 | h1
  · rw [h1, Nat.zero_mul] at z; exact absurd z (Nat.lt_irrefl 0)
  · exact h1
theorem call8 (L d : Nat) : Cl8 (Inv L) (d + 2) 8 400 := by
  intro m x v hm
  obtain ⟨I, J, T, rfl, h⟩ := hm
  obtain ⟨hN, hT, hA, w, h0, o, hwo, hB, hW, hM, hC, hD, hO, hK, hP⟩ := id h
  have hn := relW_le hW
  obtain ⟨ho, ho6⟩ := relB_o hB
  have hno : 0 < w * h0 → 0 < o := fun z => hwo (pos_l z)
  have e1 := ownC d x I J T hW.2.2.1 (by omega) ho
  by_cases hx : ol (w * h0) o x
  · obtain ⟨k, hk, rfl⟩ := cl_of (by omega) hx.2
    by_cases h1 : v < 0
    · refine ⟨0, MX (up3 I 11 0 15 2) J T, MX (up3 (up3 (up3 (up3 I 11 0 15 2) 14 0 0 0) 14 0 1 2) 14 0 2 (-1)) J T, ?_, fun _ => rfl, rfl, ?_, ⟨_, _, _, rfl, rel_tr 2 (by decide) h⟩, Nat.le_add_right _ _, Nat.le_add_right _ _⟩
      · simp only [c77, e1, bi1 hx, ret9, b77_8, j10, not_false_eq_true, if_true, if_pos h1, c69, b77_32, true_or]
      · have e2 := ownM (d + 1) (nn k) (up3 (up3 I 11 0 15 2) 14 0 0 0) J T hW.2.2.2.2.2.1 (by omega) hB hno
        simp only [c227, e2, bi1 hx, ret9, b227_10, j10, not_false_eq_true, if_true, inM, bi0 (fun (z : (0 : Int32) ≤ v ∧ v ≤ 1000000) => i32_nlt.mpr z.1 h1), b227_27, not_true_eq_false, if_false, c222, b227_35, true_or, j00]
    · by_cases h2 : v ≤ 1000000
      · have hx6 : inR (nn k) 6 = true := nn_inR (by omega) (by omega)
        have hkk : (nn k).toNatClampNeg = k := nn_idx (by omega)
        refine ⟨1, MX (up3 (up3 I 21 4 k v) 11 0 15 0) J T, MX (up3 (up3 (up3 (up3 (up3 (up3 I 21 4 k v) 11 0 15 0) 14 0 0 0) 21 11 k v) 14 0 1 0) 14 0 2 (-1)) J T, ?_, fun _ => rfl, rfl, ?_, ⟨_, _, _, rfl, ?_⟩, Nat.le_add_right _ _, Nat.le_add_right _ _⟩
        · simp only [c77, e1, bi1 hx, ret9, b77_8, j10, not_false_eq_true, if_true, if_neg h1, if_pos h2, hx6, hkk, c71, b77_47, or_true, j11]
        · have hB1 : RelB (up3 (up3 (up3 I 21 4 k v) 11 0 15 0) 14 0 0 0) T.1 T.2.2.1 o := relB_21 hN hB 4 k v (by omega)
          have e2 := ownM (d + 1) (nn k) (up3 (up3 (up3 I 21 4 k v) 11 0 15 0) 14 0 0 0) J T hW.2.2.2.2.2.1 (by omega) hB1 hno
          simp only [c227, e2, bi1 hx, ret9, b227_10, j10, not_false_eq_true, if_true, inM, bi1 (show (0 : Int32) ≤ v ∧ v ≤ 1000000 from ⟨i32_nlt.mp h1, h2⟩), b227_27, hx6, hkk, c223, b227_47, or_true, j11]
        · have hO' : RelO (up3 (up3 I 21 4 k v) 21 11 k v) (w * h0) o := by
            obtain ⟨q1, q2⟩ := hO
            refine ⟨?_, q2⟩
            intro i hi
            obtain ⟨r1, r2, r3, r4⟩ := q1 i hi
            refine ⟨r1, ?_, r3, ?_⟩
            · show (if i = k then v else I 21 4 i) = (if i = k then v else I 21 11 i)
              rw [r2]
            · show 0 ≤ (if i = k then v else I 21 11 i) ∧ (if i = k then v else I 21 11 i) ≤ 1000000
              by_cases hik : i = k
              · rw [if_pos hik]; exact ⟨i32_nlt.mp h1, h2⟩
              · rw [if_neg hik]; exact r4
          have hh : Rel L (up3 (up3 I 21 4 k v) 21 11 k v) J T := ⟨hN, hT, hA, w, h0, o, hwo, relB_21 hN (relB_21 hN hB 4 k v (by omega)) 11 k v (by omega), hW, hM, hC, hD, hO', hK, relP_21 (relP_21 hP 4 k v (by omega)) 11 k v (by omega)⟩
          exact rel_tr 0 (by decide) hh
      · refine ⟨0, MX (up3 I 11 0 15 2) J T, MX (up3 (up3 (up3 (up3 I 11 0 15 2) 14 0 0 0) 14 0 1 2) 14 0 2 (-1)) J T, ?_, fun _ => rfl, rfl, ?_, ⟨_, _, _, rfl, rel_tr 2 (by decide) h⟩, Nat.le_add_right _ _, Nat.le_add_right _ _⟩
        · simp only [c77, e1, bi1 hx, ret9, b77_8, j10, not_false_eq_true, if_true, if_neg h1, if_neg h2, c69, b77_32, true_or]
        · have e2 := ownM (d + 1) (nn k) (up3 (up3 I 11 0 15 2) 14 0 0 0) J T hW.2.2.2.2.2.1 (by omega) hB hno
          simp only [c227, e2, bi1 hx, ret9, b227_10, j10, not_false_eq_true, if_true, inM, bi0 (fun (z : (0 : Int32) ≤ v ∧ v ≤ 1000000) => h2 z.2), b227_27, not_true_eq_false, if_false, c222, b227_35, true_or, j00]
  · refine ⟨0, MX (up3 I 11 0 15 1) J T, MX (up3 (up3 (up3 (up3 I 11 0 15 1) 14 0 0 0) 14 0 1 1) 14 0 2 (-1)) J T, ?_, fun _ => rfl, rfl, ?_, ⟨_, _, _, rfl, rel_tr 1 (by decide) h⟩, Nat.le_add_right _ _, Nat.le_add_right _ _⟩
    · simp only [c77, e1, bi0 hx, ret9, b77_8, not_true_eq_false, if_false, c69, b77_16, true_or, if_true, j00]
    · have e2 := ownM (d + 1) x (up3 (up3 I 11 0 15 1) 14 0 0 0) J T hW.2.2.2.2.2.1 (by omega) hB hno
      simp only [c227, e2, bi0 hx, ret9, b227_10, not_true_eq_false, if_false, c222, b227_18, true_or, if_true, j00]
theorem call12 (L d : Nat) : Cl12 (Inv L) (d + 2) 8 400 := by
  intro m x hm
  obtain ⟨I, J, T, rfl, h⟩ := hm
  obtain ⟨hN, hT, hA, w, h0, o, hwo, hB, hW, hM, hC, hD, hO, hK, hP⟩ := id h
  have hn := relW_le hW
  have e1 := cellC (d + 1) x I J T hW.2.2.1
  have e2 := cellM (d + 1) x (up3 I 14 0 0 0) J T hW.2.2.2.2.2.1
  by_cases hx : cl (w * h0) x
  · obtain ⟨k, hk, rfl⟩ := cl_of (by omega) hx
    have hx6 : inR (nn k) 64 = true := nn_inR (by omega) (by omega)
    have hkk : (nn k).toNatClampNeg = k := nn_idx (by omega)
    have hq := (hD.1 k hk).1
    by_cases hm : I 28 7 k = -1
    · have hm2 : I 28 3 k = -1 := hq.trans hm
      have hm3 : (up3 I 14 0 0 0) 28 7 k = -1 := hm
      refine ⟨-2, MX I J T, MX (up3 I 14 0 0 0) J T, ?_, fun _ => rfl, rfl, ?_, ⟨_, _, _, rfl, h⟩, Nat.le_add_right _ _, Nat.le_add_right _ _⟩
      · simp only [c83, e1, bi1 hx, ret9, b83_8, j10, not_false_eq_true, if_true, hx6, hkk, hm2, not_true_eq_false, if_false]
      · simp only [c236, e2, bi1 hx, ret9, b236_10, j10, not_false_eq_true, if_true, hx6, hkk, hm3, not_true_eq_false, if_false]
    · have hm2 : ¬ I 28 3 k = -1 := by rw [hq]; exact hm
      have hm3 : ¬ (up3 I 14 0 0 0) 28 7 k = -1 := hm
      refine ⟨I 28 7 k, MX I J T, MX (up3 I 14 0 0 0) J T, ?_, fun _ => rfl, rfl, ?_, ⟨_, _, _, rfl, h⟩, Nat.le_add_right _ _, Nat.le_add_right _ _⟩
      · simp only [c83, e1, bi1 hx, ret9, b83_8, j10, not_false_eq_true, if_true, hx6, hkk, if_pos hm2]
        rw [hq]
      · simp only [c236, e2, bi1 hx, ret9, b236_10, j10, not_false_eq_true, if_true, hx6, hkk, if_pos hm3]
        rfl
  · refine ⟨-1, MX I J T, MX (up3 I 14 0 0 0) J T, ?_, fun _ => rfl, rfl, ?_, ⟨_, _, _, rfl, h⟩, Nat.le_add_right _ _, Nat.le_add_right _ _⟩
    · simp only [c83, e1, bi0 hx, ret9, b83_8, not_true_eq_false, if_false]
    · simp only [c236, e2, bi0 hx, ret9, b236_10, not_true_eq_false, if_false]
