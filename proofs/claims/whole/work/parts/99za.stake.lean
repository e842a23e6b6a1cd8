/-! The call stake -/
theorem ret_thr (K : Nat → Loc9 → List AV → Mem → Option Res9) (l : Loc9) (r : List AV) (m : Mem) : ret9 K 176 5 8 l r (some (.inr (0, vu), m)) = K 13 l [vu] m := rfl
theorem call24 (L d : Nat) : Cl24 (Inv L) (d + 5) 8 400 := by
  intro m x y hm
  obtain ⟨I, J, T, rfl, h⟩ := hm
  obtain ⟨hN, hT, hA, w, h0, o, hwo, hB, hW, hM, hC, hD, hO, hK, hP⟩ := id h
  have hn := relW_le hW
  obtain ⟨ho, ho6⟩ := relB_o hB
  have hno : 0 < w * h0 → 0 < o := fun z => hwo (pos_l z)
  have n24 : I 14 0 24 = nn (w * h0) := hW.2.2.2.2.2.1
  have e1 := ownC (d + 2) x I J T hW.2.2.1 (by omega) ho
  have thr : ∀ (I1 : PI) (J1 : PJ), (∀ i, I1 99 0 i = I 99 0 i) → cal (d + 4) 177 [vr 11 0, vi x, vi y] (MX I J T) = some (.inr (0, vu), newX (MX I1 J1 T) 6) → cal (d + 5) 176 [vr 11 0, vi x, vi y, vr 40 0] (MX I J T) = some (.inl (some (vi 1)), MX I1 J1 (TX T 6)) := by
    intro I1 J1 _ e
    rw [c176, e, ret_thr, newX_MX, b176_13]
  by_cases hx : ol (w * h0) o x
  · obtain ⟨k, hk, rfl⟩ := cl_of (by omega) hx.2
    have hk6 : k < 6 := by omega
    have hp := hx.1
    have hg := relGW hW hp
    obtain ⟨-, -, hw1, hw8, hh1, hh8⟩ := id hg
    have hr6 : inR (nn k) 6 = true := nn_inR (by omega) (by omega)
    have hkk : (nn k).toNatClampNeg = k := nn_idx (by omega)
    obtain ⟨hf, hfP⟩ := fieldR hn hD hk6
    generalize hff : J 42 1 k = f at hf hfP
    have hfl := fldR hw1 hn hf hfP
    by_cases hy : ¬ f = 0 ∧ HT w h0 (bt f)
    · obtain ⟨s, n, hKS⟩ := wks_ex hw1 hw8 hh8 hf hy
      obtain ⟨hKS2, hst⟩ := WKS_congr hw1 hfP hKS
      have hc144 := STK_c hKS
      obtain ⟨tx, ty, sf, ec, qc⟩ := walkC1 d I J T hW hp hM hf hKS
      have e177 : cal (d + 4) 177 [vr 11 0, vi (nn k), vi y] (MX I J T) = (if y < 0 then some (.inr (0, vu), newX (MX (WKm I tx ty sf) (up3 J 10 0 4 f) T) 6) else (if y < nn (STK (bt f) w h0 s n).2.2 then ret9 (den (d + 4) 177) 177 60 63 [some (vr 11 0), some (vi (nn k)), some (vi y)] [] (cal (d + 3) 178 [vr 10 0, vi y] (MX (WKm I tx ty sf) (up3 J 10 0 4 f) T)) else some (.inr (0, vu), newX (MX (WKm I tx ty sf) (up3 J 10 0 4 f) T) 6))) := by
        rw [c177, e1]
        simp only [ret9]
        rw [b177_8, bi1 hx, if_neg (by decide), if_pos hr6, hkk, hff, ec]
        simp only [ret9]
        rw [b177_27, if_neg (by decide)]
        show (if y < 0 then _ else (if y < sf 3 then _ else _)) = _
        rw [qc.1]
        rfl
      -- the reference
      have RM : ∀ (J1 : PJ) (T1 : TL), T1.2.2.1 = T.2.2.1 → ∃ (Q S st : Nat → Int32), cal (d + 5) 269 [vr 14 0, vi (nn k), vi y] (MX (WKm I tx ty sf) J1 T1) = (if y < 0 then some (.inl (some (vi 0)), MX (WMm (HM (up3 (WKm I tx ty sf) 14 0 0 1) Q S) st (nn (STK (bt f) w h0 s n).2.2)) J1 T1) else (if y < nn (STK (bt f) w h0 s n).2.2 then (if inR y 256 = true then some (.inl (some (vi (st y.toNatClampNeg))), MX (up3 (WMm (HM (up3 (WKm I tx ty sf) 14 0 0 1) Q S) st (nn (STK (bt f) w h0 s n).2.2)) 14 0 0 0) J1 T1) else none) else some (.inl (some (vi 0)), MX (WMm (HM (up3 (WKm I tx ty sf) 14 0 0 1) Q S) st (nn (STK (bt f) w h0 s n).2.2)) J1 T1))) ∧ SMo w st (STK (bt f) w h0 s n) := by
        intro J1 T1 hT1
        have hB1 : RelB (up3 (WKm I tx ty sf) 14 0 0 1) T.1 T1.2.2.1 o := by rw [hT1]; exact hB
        have o1 := ownM (g := T.1) (d + 4) (nn k) (up3 (WKm I tx ty sf) 14 0 0 1) J1 T1 n24 (by omega) hB1 hno
        obtain ⟨Q, S, ef⟩ := isFM (d + 1) (k := k) (up3 (WKm I tx ty sf) 14 0 0 1) J1 T1 hg n24
        change cal (d + 4) 266 _ _ = some (.inl (some (vi (bi (FLD w h0 (fun c => decide (I 28 7 c = nn k)))))), _) at ef
        rw [bi1 (hfl.mp hy)] at ef
        obtain ⟨st, ew, qw⟩ := walksM (d + 2) (k := k) (HM (up3 (WKm I tx ty sf) 14 0 0 1) Q S) J1 T1 hg hKS2
        change cal (d + 4) 267 _ _ = some (.inl none, MX (WMm _ st (nn (STK (fun c => decide (I 28 7 c = nn k)) w h0 s n).2.2)) _ _) at ew
        change SMo w st (STK (fun c => decide (I 28 7 c = nn k)) w h0 s n) at qw
        rw [hst] at ew qw
        refine ⟨Q, S, st, ?_, qw⟩
        rw [c269, o1]
        simp only [ret9]
        rw [b269_10, bi1 hx, if_neg (by decide), ef]
        simp only [ret9]
        rw [b269_18, if_pos (by decide), ew]
        simp only [ret9]
        rw [b269_28]
        rfl
      by_cases z : 0 ≤ y ∧ y < nn (STK (bt f) w h0 s n).2.2
      · obtain ⟨z1, z2⟩ := z
        obtain ⟨hj, hjl⟩ := nn_of z1
        generalize y.toNatClampNeg = j at hj hjl
        subst hj
        have hjc : j < (STK (bt f) w h0 s n).2.2 := (nn_lt hjl (by omega)).mp z2
        have n0 : ¬ nn j < 0 := i32_nlt.mpr z1
        obtain ⟨Q, S, st, er, qr⟩ := RM (up3 (up3 J 10 0 4 f) 40 0 0 (Int32.toInt64 (ii (((w : Int) + 1) * (STK (bt f) w h0 s n).2.1 j + (STK (bt f) w h0 s n).1 j)))) T rfl
        have h178 : cal (d + 3) 178 [vr 10 0, vi (nn j)] (MX (WKm I tx ty sf) (up3 J 10 0 4 f) T) = some (.inl (some (vi (ii (((w : Int) + 1) * (STK (bt f) w h0 s n).2.1 j + (STK (bt f) w h0 s n).1 j)))), MX (WKm I tx ty sf) (up3 J 10 0 4 f) T) := by
          have e3 : (WKm I tx ty sf) 10 0 3 = nn (STK (bt f) w h0 s n).2.2 := qc.1
          rw [c178, if_neg n0, e3, if_neg (by rw [nn_le (by omega) hjl]; omega), if_pos (nn_inR (by omega) hjl), if_pos (nn_inR (by omega) hjl), nn_idx hjl]
          show some (Sum.inl (some (vi (((I 5 0 7 + 1) * ty j) + tx j))), _) = _
          rw [(qc.2 j hjc).1, (qc.2 j hjc).2, hW.1, ← ii_nat, show (1 : Int32) = ii 1 from rfl, ii_add, ii_mul, ii_add]
        refine ⟨0, (ii (((w : Int) + 1) * (STK (bt f) w h0 s n).2.1 j + (STK (bt f) w h0 s n).1 j)), MX (WKm I tx ty sf) (up3 (up3 J 10 0 4 f) 40 0 0 (Int32.toInt64 (ii (((w : Int) + 1) * (STK (bt f) w h0 s n).2.1 j + (STK (bt f) w h0 s n).1 j)))) T, MX (up3 (WMm (HM (up3 (WKm I tx ty sf) 14 0 0 1) Q S) st (nn (STK (bt f) w h0 s n).2.2)) 14 0 0 0) (up3 (up3 J 10 0 4 f) 40 0 0 (Int32.toInt64 (ii (((w : Int) + 1) * (STK (bt f) w h0 s n).2.1 j + (STK (bt f) w h0 s n).1 j)))) T, MX (up3 (WMm (HM (up3 (WKm I tx ty sf) 14 0 0 1) Q S) st (nn (STK (bt f) w h0 s n).2.2)) 14 0 0 0) (up3 (up3 J 10 0 4 f) 40 0 0 (Int32.toInt64 (ii (((w : Int) + 1) * (STK (bt f) w h0 s n).2.1 j + (STK (bt f) w h0 s n).1 j)))) T, ?_, fun _ => rfl, rfl, ?_, ?_, fun _ => (lg0 _ _).mpr rfl, ⟨_, _, _, rfl, hN, hT, hA, w, h0, o, hwo, hB, hW, hM, hC, hD, hO, hK, hP⟩, Nat.le_add_right _ _, Nat.le_add_right _ _⟩
        · rw [c176, e177, if_neg n0, if_pos z2, h178]
          simp only [ret9]
          rw [b177_63]
          simp only [ret9]
          rw [b176_8, if_pos (by decide)]
          rfl
        · rw [er, if_neg n0, if_pos z2, if_pos (nn_inR (by omega) hjl), nn_idx hjl, qr j hjc]
        · rw [c184]
          rfl
      · obtain ⟨Q, S, st, er, qr⟩ := RM (up3 J 10 0 4 f) (TX T 6) rfl
        have hth : cal (d + 4) 177 [vr 11 0, vi (nn k), vi y] (MX I J T) = some (.inr (0, vu), newX (MX (WKm I tx ty sf) (up3 J 10 0 4 f) T) 6) := by
          rw [e177]
          by_cases z1 : y < 0
          · rw [if_pos z1]
          · rw [if_neg z1, if_neg (fun q => z ⟨i32_nlt.mp z1, q⟩)]
        refine ⟨1, 0, MX (WKm I tx ty sf) (up3 J 10 0 4 f) (TX T 6), MX (WMm (HM (up3 (WKm I tx ty sf) 14 0 0 1) Q S) st (nn (STK (bt f) w h0 s n).2.2)) (up3 J 10 0 4 f) (TX T 6), MX (WMm (HM (up3 (WKm I tx ty sf) 14 0 0 1) Q S) st (nn (STK (bt f) w h0 s n).2.2)) (up3 J 10 0 4 f) (TX T 6), thr _ _ (fun _ => rfl) hth, fun _ => rfl, rfl, ?_, ?_, fun q => absurd q (by decide), ⟨_, _, _, rfl, hN, hT, hA, w, h0, o, hwo, hB, hW, hM, hC, hD, hO, hK, hP⟩, ?_, ?_⟩
        · rw [er]
          by_cases z1 : y < 0
          · rw [if_pos z1]
          · rw [if_neg z1, if_neg (fun q => z ⟨i32_nlt.mp z1, q⟩)]
        · rw [c184]
          rfl
        · show T.2.2.2.2.2.1 + 1 ≤ T.2.2.2.2.2.1 + 8
          omega
        · show T.2.2.2.2.2.2 + 6 ≤ T.2.2.2.2.2.2 + 400
          omega
    · have ec := walkC0 d I J T hW hp hM hf hy
      have hth : cal (d + 4) 177 [vr 11 0, vi (nn k), vi y] (MX I J T) = some (.inr (0, vu), newX (MX (up3 I 10 0 3 0) (up3 J 10 0 4 f) T) 6) := by
        rw [c177, e1]
        simp only [ret9]
        rw [b177_8, bi1 hx, if_neg (by decide), if_pos hr6, hkk, hff, ec]
        simp only [ret9]
        rw [b177_27, if_pos rfl]
      have o1 := ownM (d + 4) (nn k) (up3 (up3 I 10 0 3 0) 14 0 0 1) (up3 J 10 0 4 f) (TX T 6) n24 (by omega) hB hno
      obtain ⟨Q, S, ef⟩ := isFM (d + 1) (k := k) (up3 (up3 I 10 0 3 0) 14 0 0 1) (up3 J 10 0 4 f) (TX T 6) hg n24
      change cal (d + 4) 266 _ _ = some (.inl (some (vi (bi (FLD w h0 (fun c => decide (I 28 7 c = nn k)))))), _) at ef
      rw [bi0 (fun q => hy (hfl.mpr q))] at ef
      refine ⟨1, 0, MX (up3 I 10 0 3 0) (up3 J 10 0 4 f) (TX T 6), MX (HM (up3 (up3 I 10 0 3 0) 14 0 0 1) Q S) (up3 J 10 0 4 f) (TX T 6), MX (HM (up3 (up3 I 10 0 3 0) 14 0 0 1) Q S) (up3 J 10 0 4 f) (TX T 6), thr _ _ (fun _ => rfl) hth, fun _ => rfl, rfl, ?_, ?_, fun q => absurd q (by decide), ⟨_, _, _, rfl, hN, hT, hA, w, h0, o, hwo, hB, hW, hM, hC, hD, hO, hK, hP⟩, ?_, ?_⟩
      · rw [c269, o1]
        simp only [ret9]
        rw [b269_10, bi1 hx, if_neg (by decide), ef]
        simp only [ret9]
        rw [b269_18, if_neg (fun q => q rfl)]
      · rw [c184]
        rfl
      · show T.2.2.2.2.2.1 + 1 ≤ T.2.2.2.2.2.1 + 8
        omega
      · show T.2.2.2.2.2.2 + 6 ≤ T.2.2.2.2.2.2 + 400
        omega
  · have hth : cal (d + 4) 177 [vr 11 0, vi x, vi y] (MX I J T) = some (.inr (0, vu), newX (MX I J T) 6) := by
      have e2 := ownC (d + 2) x I J T hW.2.2.1 (by omega) ho
      rw [c177, e2]
      simp only [ret9]
      rw [b177_8, bi0 hx, if_pos rfl]
    have o1 := ownM (d + 4) x (up3 I 14 0 0 1) J (TX T 6) n24 (by omega) hB hno
    refine ⟨1, 0, MX I J (TX T 6), MX (up3 I 14 0 0 1) J (TX T 6), MX (up3 I 14 0 0 1) J (TX T 6), thr _ _ (fun _ => rfl) hth, fun _ => rfl, rfl, ?_, ?_, fun q => absurd q (by decide), ⟨_, _, _, rfl, hN, hT, hA, w, h0, o, hwo, hB, hW, hM, hC, hD, hO, hK, hP⟩, ?_, ?_⟩
    · rw [c269, o1]
      simp only [ret9]
      rw [b269_10, bi0 hx, if_pos rfl]
    · rw [c184]
      rfl
    · show T.2.2.2.2.2.1 + 1 ≤ T.2.2.2.2.2.1 + 8
      omega
    · show T.2.2.2.2.2.2 + 6 ≤ T.2.2.2.2.2.2 + 400
      omega
