theorem call22 (L d : Nat) : Cl22 (Inv L) (d + 16) 8 400 := by
  intro m z1 hm
  have hcv := bl9_01 z1
  generalize bl9 z1 = cv at hcv
  obtain ⟨I, J, T, rfl, h⟩ := hm
  obtain ⟨hN, hT, hA, w, h0, o, hwo, hB, hW, hM, hC, hD, hO, hK, hP⟩ := id h
  have hn := relW_le hW
  obtain ⟨ho, ho6⟩ := relB_o hB
  have hno : 0 < w * h0 → 0 < o := fun z => hwo (pos_l z)
  have n9 : I 5 0 9 = nn (w * h0) := hW.2.2.1
  have n24 : I 14 0 24 = nn (w * h0) := hW.2.2.2.2.2.1
  rcases Nat.eq_zero_or_pos (w * h0) with hz | hp
  · have z9 : I 5 0 9 ≤ 0 := by rw [n9, hz]; decide
    have z24 : (up3 I 11 0 15 1) 14 0 24 = 0 := by show I 14 0 24 = 0; rw [n24, hz]; rfl
    refine ⟨-2147483648, MX (up3 I 11 0 15 1) J T, MX (up3 (up3 (up3 (up3 I 11 0 15 1) 14 0 0 0) 14 0 1 1) 14 0 2 (-1)) J T, ?_, fun _ => rfl, rfl, ?_, ⟨_, _, _, rfl, rel_tr 1 (by decide) h⟩, Nat.le_add_right _ _, Nat.le_add_right _ _⟩
    · simp only [c133, c74, if_pos z9, ret9, b133_7, j00, not_true_eq_false, if_false, c88, b133_15]
    · rw [c264g, if_neg (fun z => z z24), b264g_12, c241]
      simp only [ret9]
      rw [b264g_17]
  · have z9 : ¬ I 5 0 9 ≤ 0 := by rw [n9, le0 (by omega)]; omega
    obtain ⟨b, hmb⟩ := relmb hB (hno hp)
    have hg := relGW hW hp
    have ho1 : 1 ≤ o := hno hp
    have hob : I 12 b 0 = nn o := (relVN hB hW hO hp hmb).2.2.2.1
    have hwd := relO_wd hO hp
    have ef := fewF (d + 14) I J T (w := w) (h := h0) (o := o) hM hn hC ho ho6
    by_cases hfew : cn (NWt (I 39 0)) (w * h0) ≤ 9 ∧ o ≤ 3
    · obtain ⟨h9, ho3⟩ := id hfew
      obtain ⟨ce, s1, A, B, pk, fd, wo, sf, ff, sn, ss⟩ := searchB d I J T (cv := cv) hB hW hp hM hC hO hP ho ho1 ho3 h9 hcv
      have hprI : ∀ k, k < o → ∀ c, c < w * h0 → VAL I b w h0 k c = I 34 0 (64 * k + c) := fun k hk c hc => (hP b hmb k hk c hc).symm
      cases hR : RES I w h0 o cv with
      | none =>
        have e1 := sn hR
        obtain ⟨W, g, bf, ws, fd2, y, u4, u5, u6, u7, Q, S, x2, x3, p9, p10, p11, p12, p13, p14, em, qr, qw⟩ := bestM d (up3 (SRm I cv (nn o) ce s1 A B pk fd wo sf) 11 0 15 6) (upA J 41 0 ff) T (w := w) (h := h0) (o := o) (b := b) (cv := cv) hg n24 hp (relVN (I := up3 (SRm I cv (nn o) ce s1 A B pk fd wo sf) 11 0 15 6) hB hW hO hp hmb) ho1 ho3 h9 (I 34 0) (I 21 4) (I 5 0 10) hprI (fun k hk => (hO.1 k hk).2.1.symm) hwd.symm
        change RSt (w * h0) fd2 u4 u5 u6 u7 (RES I w h0 o cv) at qr
        rw [hR] at qr
        have q4 : u4 = 0 := qr
        rw [TBe hmb] at em
        refine ⟨-2147483648, MX (up3 (SRm I cv (nn o) ce s1 A B pk fd wo sf) 11 0 15 6) (upA J 41 0 ff) T, MX (up3 (up3 (RBm (up3 (SRm I cv (nn o) ce s1 A B pk fd wo sf) 11 0 15 6) W g bf ws fd2 y Q S) 14 0 1 6) 14 0 2 (-1)) (upA J 41 0 ff) T, ?_, fun _ => rfl, rfl, ?_, ⟨_, _, _, rfl, hN, hT, ⟨hA.1, rfl, rfl, hA.2.2.2⟩, w, h0, o, hwo, hB, hW, hM, hC, ?_, hO, hK, hP⟩, Nat.le_add_right _ _, Nat.le_add_right _ _⟩
        · rw [c133, c74, if_neg z9]
          simp only [ret9]
          rw [b133_7, if_pos (by decide), ef]
          simp only [ret9]
          rw [b133_23, bi1 hfew, if_pos (by decide), e1]
          simp only [ret9]
          rw [b133_40, if_neg (fun q => q rfl), c88]
          simp only [ret9]
          rw [b133_49]
        · rw [em, ← TBe hmb, b264_421, if_pos q4, b264_435, c241]
          simp only [ret9]
          rw [b264_441, TBe hmb]
        · exact DR_congr (ws := I 28 7) (ws2 := ws) (fun c hc => by rw [qw c hc, if_pos q4]; rfl) hD
      | some q =>
        obtain ⟨a, f, e1, qD, q15⟩ := ss q hR
        obtain ⟨W, g, bf, ws, fd2, y, u4, u5, u6, u7, Q, S, x2, x3, p9, p10, p11, p12, p13, p14, em, qr, qw⟩ := bestM d (up3 (upA (SRm I cv (nn o) ce s1 A B pk fd wo sf) 28 3 a) 11 0 15 0) (upA (upA J 41 0 ff) 42 1 f) T (w := w) (h := h0) (o := o) (b := b) (cv := cv) hg n24 hp (relVN (I := up3 (upA (SRm I cv (nn o) ce s1 A B pk fd wo sf) 28 3 a) 11 0 15 0) hB hW hO hp hmb) ho1 ho3 h9 (I 34 0) (I 21 4) (I 5 0 10) hprI (fun k hk => (hO.1 k hk).2.1.symm) hwd.symm
        change RSt (w * h0) fd2 u4 u5 u6 u7 (RES I w h0 o cv) at qr
        rw [hR] at qr
        obtain ⟨q4, q5, q6, q7, qfd⟩ := qr
        have q40 : ¬ u4 = 0 := by rw [q4]; decide
        rw [TBe hmb] at em
        refine ⟨q.2.2.1, MX (up3 (upA (SRm I cv (nn o) ce s1 A B pk fd wo sf) 28 3 a) 11 0 15 0) (upA (upA J 41 0 ff) 42 1 f) T, MX (up3 (up3 (RBm (up3 (upA (SRm I cv (nn o) ce s1 A B pk fd wo sf) 28 3 a) 11 0 15 0) W g bf ws fd2 y Q S) 14 0 1 0) 14 0 2 (-1)) (upA (upA J 41 0 ff) 42 1 f) T, ?_, fun _ => rfl, rfl, ?_, ⟨_, _, _, rfl, hN, hT, ⟨hA.1, rfl, rfl, hA.2.2.2⟩, w, h0, o, hwo, hB, hW, hM, hC, ?_, hO, hK, hP⟩, Nat.le_add_right _ _, Nat.le_add_right _ _⟩
        · rw [c133, c74, if_neg z9]
          simp only [ret9]
          rw [b133_7, if_pos (by decide), ef]
          simp only [ret9]
          rw [b133_23, bi1 hfew, if_pos (by decide), e1]
          simp only [ret9]
          rw [b133_40, if_pos (by decide)]
          show ret9 _ _ _ _ _ _ (cal (d + 15) 51 [vr 11 0, vi (sf 15)] _) = _
          rw [q15, c51]
          simp only [ret9]
          rw [b133_61]
        · rw [em, ← TBe hmb, b264_421, if_neg q40, b264_426, c215]
          simp only [ret9]
          rw [b264_432, b264_441, q7, TBe hmb]
        · exact DR_congr (ws := q.2.2.2) (ws2 := ws) (fun c hc => by rw [qw c hc, if_neg q40]; exact (qfd c hc).symm) qD
    · have ecnt := countB (d + 16) (up3 (up3 I 11 0 15 5) 14 0 0 0) J T (w := w) (h := h0) (b := b) (cv := cv) n24 hn (w * h0) 0 (by omega)
      have hle := cn_le (NWt (I 39 0)) (w * h0)
      refine ⟨-2147483648, MX (up3 I 11 0 15 5) J T, MX (up3 (up3 (up3 (up3 I 11 0 15 5) 14 0 0 0) 14 0 1 5) 14 0 2 (-1)) J T, ?_, fun _ => rfl, rfl, ?_, ⟨_, _, _, rfl, rel_tr 5 (by decide) h⟩, Nat.le_add_right _ _, Nat.le_add_right _ _⟩
      · rw [c133, c74, if_neg z9]
        simp only [ret9]
        rw [b133_7, if_pos (by decide), ef]
        simp only [ret9]
        rw [b133_23, bi0 hfew, if_neg (fun q => q rfl), c88]
        simp only [ret9]
        rw [b133_31]
      · have z24 : ¬ (up3 I 11 0 15 5) 14 0 24 = 0 := by show ¬ I 14 0 24 = 0; rw [n24, eq0n (by omega)]; omega
        have hob' : (up3 (up3 I 11 0 15 5) 14 0 0 0) 12 b 0 = nn o := hob
        rw [← TBe hmb, c264, if_pos z24, b264_18, b264_20]
        refine Eq.trans ecnt ?_
        rw [b264_53]
        show (if (9 : Int32) < nn (cn (NWt (I 39 0)) (w * h0)) then _ else _) = _
        by_cases y : cn (NWt (I 39 0)) (w * h0) ≤ 9
        · rw [if_neg (by rw [show (9 : Int32) = nn 9 from rfl, nn_lt (by omega) (by omega)]; omega), b264_59, hob', if_neg (show ¬ nn o ≤ 3 by rw [show (3 : Int32) = nn 3 from rfl, nn_le (by omega) (by omega)]; exact fun x => hfew ⟨y, x⟩), b264_70, c241]
          simp only [ret9]
          rw [b264_75]
        · rw [if_pos (show (9 : Int32) < nn (cn (NWt (I 39 0)) (w * h0)) from (nn_lt (a := 9) (by omega) (by omega)).mpr (by omega)), b264_70, c241]
          simp only [ret9]
          rw [b264_75]
