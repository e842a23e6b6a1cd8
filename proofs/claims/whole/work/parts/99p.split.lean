/-! The call split -/
theorem SV_z (V : Nat → Int32) (m : Nat) : SV V m 0 = 0 := by
  unfold SV
  rw [sm_congr (g := fun _ => 0) m 0 0 (fun i _ _ => by rw [Nat.zero_testBit, if_neg (by decide)]), sm_zero]
theorem smm_id (I : PI) : SMM I (I 28 11) (I 28 12) (I 28 8) (I 39 1) = I := by
  unfold SMM HM
  rw [upA_id, upA_id, upA_id, upA_id]
theorem findC (d : Nat) {w h : Nat} (I : PI) (J : PJ) (T : TL) {f : Int64} (hW : RelW I w h) (hp : 0 < w * h) (hM : RelM J w h) (hf3 : J 9 0 3 = f) (hf : ∀ c, bt f c = true → c < w * h) (lo hi : Int32) {m : Nat} (hm2 : 2 ≤ m) (hm12 : m ≤ 12) (va ah sf : Nat → Int32) (h4 : sf 4 = nn m) (hV : ∀ i, i < m → ah i = sm va i 0 0) : ∃ sf2 : Nat → Int32, cal (d + 3) 155 [vr 9 0, vi lo, vi hi] (MX (TKm I va ah sf) J T) = some (.inl (some (vi (bi (¬ (itn (wgh w h (bt f) (SV va m) lo hi) (2 ^ m - 2) 1 (0, 0)).1 = 0)))), MX (TKm I va ah sf2) J T) ∧ SSC sf2 (itn (wgh w h (bt f) (SV va m) lo hi) (2 ^ m - 2) 1 (0, 0)) := by
  have hpw : 4 ≤ 2 ^ m := by
    have := Nat.pow_le_pow_right (show 0 < 2 by omega) hm2
    exact this
  have ht := ish_tb ⟨m, by omega⟩
  dsimp only at ht
  obtain ⟨sf2, e1, q1⟩ := searchC d (w := w) (h := h) (f := f) (upA (upA I 24 0 va) 24 1 ah) J T hW hp hM hf3 hf lo hi va hm2 hm12 (fun i hi => ⟨rfl, hV i hi⟩) (2 ^ m - 2) 0 0 (wu sf 7 0) (0, 0) none (by omega) (PT_0 f) ⟨rfl, by decide, by decide, fun z => absurd rfl z⟩
  refine ⟨sf2, ?_, q1⟩
  rw [c155, tk_9, b155_14, b155_17, b155_20]
  show den (d + 3) 155 23 [some (vr 9 0), some (vi lo), some (vi hi), some (vi (ish9 1 (sf 4) - 1)), some (vl 0), none, some (vi 0), some (vi 1), none] [] (MX (TKm I va ah (wu sf 7 0)) J T) = _
  rw [h4, ht]
  rw [SV_z] at e1
  exact e1
theorem call26 (L d : Nat) : Cl26 (Inv L) (d + 5) 8 400 := by
  intro m x lo hi hm
  obtain ⟨I, J, T, rfl, h⟩ := hm
  obtain ⟨hN, hT, hA, w, h0, o, hwo, hB, hW, hM, hC, hD, hO, hK, hP⟩ := id h
  have hn := relW_le hW
  obtain ⟨ho, ho6⟩ := relB_o hB
  have hno : 0 < w * h0 → 0 < o := fun z => hwo (pos_l z)
  have n24 : I 14 0 24 = nn (w * h0) := hW.2.2.2.2.2.1
  have e1 := ownC (d + 3) x I J T hW.2.2.1 (by omega) ho
  have e3 : ∀ t : Int32, cal (d + 4) 225 [vr 14 0, vi x] (MX (up3 (up3 I 11 0 15 t) 14 0 0 0) J T) = _ := fun t => ownM (d + 4) x (up3 (up3 I 11 0 15 t) 14 0 0 0) J T n24 (by omega) hB hno
  by_cases hx : ol (w * h0) o x
  · by_cases hlh : lo ≤ hi
    · obtain ⟨k, hk, rfl⟩ := cl_of (by omega) hx.2
      have hk6 : k < 6 := by omega
      have hp := hx.1
      obtain ⟨b, hmb⟩ := relmb hB (hno hp)
      have hg := relGW hW hp
      have hr6 : inR (nn k) 6 = true := nn_inR (by omega) (by omega)
      have hkk : (nn k).toNatClampNeg = k := nn_idx (by omega)
      generalize hff : J 42 1 k = f
      have hfD : ∀ c, c < 64 → (bt f c = true ↔ (c < w * h0 ∧ I 28 7 c = nn k)) := fun c hc => by rw [← hff]; exact hD.2 k hk6 c hc
      have hf : ∀ c, bt f c = true → c < w * h0 := fun c hc => ((hfD c (bt_64 hc)).mp hc).1
      have hF : ∀ c, c < w * h0 → (bt f c = true ↔ I 28 7 c = nn k) := fun c hc => ⟨fun z => ((hfD c (by omega)).mp z).2, fun z => (hfD c (by omega)).mpr ⟨hc, z⟩⟩
      have hFG : ∀ c, c < w * h0 → decide (I 28 7 c = nn k) = bt f c := fun c hc => by
        cases z : bt f c with
        | true => exact decide_eq_true ((hF c hc).mp z)
        | false => exact decide_eq_false (fun y => by rw [(hF c hc).mpr y] at z; cases z)
      have hcn : ct (fun c => decide (I 28 7 c = nn k)) (w * h0) 0 0 = cn (bt f) (w * h0) := by rw [ct_cn]; exact cn_congr hFG
      have hHT : HT w h0 (fun c => decide (I 28 7 c = nn k)) ↔ HT w h0 (bt f) := HT_iff hg.2.2.1 hFG
      obtain ⟨va, ah, sf, et, qt⟩ := takC (d + 2) (w := w) (h := h0) (f := f) I J T hW hp hM hf hk6
      by_cases hy : MAYS w h0 (bt f)
      · obtain ⟨q1, q2, q3⟩ := qt hy
        obtain ⟨sf2, es, qs⟩ := findC (d + 1) (w := w) (h := h0) (f := f) I (up3 J 9 0 3 f) T hW hp hM rfl hf lo hi hy.1 hy.2.1 va ah sf q1 q2
        generalize hR : itn (wgh w h0 (bt f) (SV va (cn (bt f) (w * h0))) lo hi) (2 ^ (cn (bt f) (w * h0)) - 2) 1 (0, 0) = R at es qs
        have hcl := cn_le (bt f) (w * h0)
        have hpw : 4 ≤ 2 ^ (cn (bt f) (w * h0)) := by
          have := Nat.pow_le_pow_right (show 0 < 2 by omega) hy.1
          exact this
        -- the reference, up to its search
        have RM : ∀ (I1 : PI), RelB I1 T.1 T.2.2.1 o → RelW I1 w h0 → RelO I1 (w * h0) o → RelP I1 T.2.2.1 w h0 o → I1 28 7 = I 28 7 → I1 34 0 = I 34 0 → ∃ (W g sd rw Q S : Nat → Int32) (p9 p10 p11 p12 p13 : Option AV), cal (d + 5) 271 [vr 14 0, vi (nn k), vi lo, vi hi] (MX I1 (up3 J 9 0 3 f) T) = den (d + 5) 271 411 [some (vr 14 0), some (vi (nn k)), some (vi lo), some (vi hi), some (vi (nn (cn (bt f) (w * h0)))), some (vi (nn (cn (bt f) (w * h0)))), some (vi (nn R.1)), some (vi (nn R.2)), some (vi (nn (2 ^ (cn (bt f) (w * h0)) - 1))), p9, p10, p11, p12, p13] [] (MX (SMM (upA (upA (up3 I1 14 0 0 0) 34 1 W) 27 0 g) sd rw Q S) (up3 J 9 0 3 f) T) := by
          intro I1 hB1 hW1 hO1 hP1 i7 i34
          have m24 : I1 14 0 24 = nn (w * h0) := hW1.2.2.2.2.2.1
          have o1 := ownM (d + 4) (nn k) (up3 I1 14 0 0 0) (up3 J 9 0 3 f) T m24 (by omega) hB1 hno
          have my := manyM (d + 4) (nn k) (up3 I1 14 0 0 0) (up3 J 9 0 3 f) T m24 hn
          rw [show (fun c => decide ((up3 I1 14 0 0 0) 28 7 c = nn k)) = fun c => decide (I 28 7 c = nn k) from funext (fun c => by show decide (I1 28 7 c = nn k) = _; rw [i7]), hcn] at my
          have hg1 : GW I1 w h0 := relGW hW1 hp
          obtain ⟨Q, S, eh⟩ := hangM (d + 2) (w := w) (h := h0) (j := 7) (x := nn k) (up3 I1 14 0 0 0) (up3 J 9 0 3 f) T hg1 m24 (by decide)
          rw [show (HT w h0 fun c => decide ((up3 I1 14 0 0 0) 28 7 c = nn k)) = HT w h0 (bt f) from (by
            rw [show (fun c => decide ((up3 I1 14 0 0 0) 28 7 c = nn k)) = fun c => decide (I 28 7 c = nn k) from funext (fun c => by show decide (I1 28 7 c = nn k) = _; rw [i7])]
            exact propext hHT)] at eh
          have hvn : VN (HM (up3 I1 14 0 0 0) Q S) w h0 o b := relVN (I := HM (up3 I1 14 0 0 0) Q S) hB1 hW1 hO1 hp hmb
          obtain ⟨W, g, ev, hWv⟩ := valuesM d (HM (up3 I1 14 0 0 0) Q S) (up3 J 9 0 3 f) T hvn
          rw [TBe hmb] at ev
          have hP2 : RelP (HM (up3 I1 14 0 0 0) Q S) T.2.2.1 w h0 o := hP1
          have hV : ∀ e, e < w * h0 → bt f e = true → W (64 * k + e) = va (cn (bt f) e) := fun e he hfe => by
            rw [hWv k hk e he, ← hP2 b hmb k hk e he, q3 e he hfe]
            show I1 34 0 _ = _
            rw [i34]
          have e0 : upA (upA (HM (up3 I1 14 0 0 0) Q S) 34 1 W) 27 0 g = SMM (upA (upA (up3 I1 14 0 0 0) 34 1 W) 27 0 g) (I1 28 11) (I1 28 12) Q S := by
            unfold SMM HM
            funext a b c
            unfold upA up3
            by_cases h1 : a = 28
            · subst h1; simp
              by_cases h2 : b = 12
              · subst h2; simp
              · by_cases h3 : b = 11
                · subst h3; simp
                · simp [h2, h3]
            · by_cases h4 : a = 27
              · subst h4; simp
              · by_cases h5 : a = 34
                · subst h5; simp
                · by_cases h6 : a = 39
                  · subst h6; simp
                  · simp [h1, h4, h5, h6]
          generalize hI5 : upA (upA (up3 I1 14 0 0 0) 34 1 W) 27 0 g = I5 at e0
          have g5 : GW I5 w h0 := by rw [← hI5]; exact hg1
          have n5 : I5 14 0 24 = nn (w * h0) := by rw [← hI5]; exact m24
          have w5 : ∀ i, I5 34 1 i = W i := fun i => by rw [← hI5]; rfl
          have i57 : I5 28 7 = I 28 7 := by rw [← hI5]; exact i7
          obtain ⟨sd2, rw2, er, r1, r2⟩ := rowLp (d + 5) I5 (up3 J 9 0 3 f) T (k := k) (F := bt f) n5 hn (fun c hc => by rw [i57]; exact hF c hc) lo hi (nn (cn (bt f) (w * h0))) (w * h0) 0 (I1 28 11) (I1 28 12) Q S (by omega) (fun e he => absurd he (by omega)) (fun e he => absurd he (by omega))
          obtain ⟨sd3, Q3, S3, p9, p10, p11, p12, p13, em, -⟩ := mainM (d + 2) I5 (up3 J 9 0 3 f) T (k := k) (F := bt f) g5 n5 hk6 rfl hy.2.1 (V := va) r2 (fun e he hfe => by rw [w5]; exact hV e he hfe) lo hi (nn (cn (bt f) (w * h0))) (2 ^ (cn (bt f) (w * h0)) - 2) 1 (0, 0) (by decide) (by decide) sd2 Q S none none none none none (by omega) (fun e he _ => r1 e he)
          refine ⟨W, g, sd3, rw2, Q3, S3, p9, p10, p11, p12, p13, ?_⟩
          rw [hR] at em
          rw [c271, o1]
          simp only [ret9]
          rw [b271_10, bi1 hx, if_pos (by decide), b271_19, if_pos hlh, b271_30, my]
          simp only [ret9]
          rw [b271_35, b271_37, if_neg (by rw [show (12 : Int32) = nn 12 from rfl, nn_lt (by omega) (by omega)]; have := hy.2.1; omega), b271_44, if_neg (by rw [show (2 : Int32) = nn 2 from rfl, nn_lt (by omega) (by omega)]; have := hy.1; omega), b271_50, eh]
          simp only [ret9]
          rw [b271_59, bi1 hy.2.2, if_pos (by decide), b271_68, ev]
          simp only [ret9]
          rw [b271_72, b271_75, e0, hI5]
          exact er.trans em
        obtain ⟨s1, s2, s3, s4⟩ := id qs
        by_cases hz : R.1 = 0
        · obtain ⟨W, g, sd, rw1, Q, S, p9, p10, p11, p12, p13, em⟩ := RM (up3 (TKm I va ah sf2) 11 0 15 6) hB hW hO hP rfl rfl
          refine ⟨-1, MX (up3 (TKm I va ah sf2) 11 0 15 6) (up3 J 9 0 3 f) T, MX (up3 (up3 (SMM (upA (upA (up3 (up3 (TKm I va ah sf2) 11 0 15 6) 14 0 0 0) 34 1 W) 27 0 g) sd rw1 Q S) 14 0 1 6) 14 0 2 (-1)) (up3 J 9 0 3 f) T, ?_, fun _ => rfl, rfl, ?_, ⟨_, _, _, rfl, hN, hT, ⟨hA.1, rfl, rfl, hA.2.2.2⟩, w, h0, o, hwo, hB, hW, hM, hC, hD, hO, hK, hP⟩, Nat.le_add_right _ _, Nat.le_add_right _ _⟩
          · rw [c153, e1]
            simp only [ret9]
            rw [b153_8, bi1 hx, if_pos (by decide), if_pos hlh, if_pos hr6, hkk, hff, et]
            simp only [ret9]
            rw [b153_45, bi1 hy, if_pos (by decide), es]
            simp only [ret9]
            rw [b153_63, bi0 (fun q => q hz), if_neg (fun q => q rfl), c20]
            simp only [ret9]
            rw [b153_72]
          · rw [em, b271_411, if_neg (by rw [hz]; exact fun q => q rfl), b271_416, c187]
            simp only [ret9]
            rw [b271_422]
        · obtain ⟨s5, s6⟩ := s4 hz
          obtain ⟨W, g, sd, rw1, Q, S, p9, p10, p11, p12, p13, em⟩ := RM (up3 (up3 (TKm I va ah sf2) 11 0 14 (nn R.1)) 11 0 15 0) hB hW hO hP rfl rfl
          refine ⟨nn R.2, MX (up3 (up3 (TKm I va ah sf2) 11 0 14 (nn R.1)) 11 0 15 0) (up3 J 9 0 3 f) T, MX (up3 (up3 (up3 (SMM (upA (upA (up3 (up3 (up3 (TKm I va ah sf2) 11 0 14 (nn R.1)) 11 0 15 0) 14 0 0 0) 34 1 W) 27 0 g) sd rw1 Q S) 14 0 29 (nn R.1)) 14 0 1 0) 14 0 2 (-1)) (up3 J 9 0 3 f) T, ?_, fun _ => rfl, rfl, ?_, ⟨_, _, _, rfl, hN, hT, ⟨hA.1, rfl, rfl, hA.2.2.2.1, rfl⟩, w, h0, o, hwo, hB, hW, hM, hC, hD, hO, hK, hP⟩, Nat.le_add_right _ _, Nat.le_add_right _ _⟩
          · rw [c153, e1]
            simp only [ret9]
            rw [b153_8, bi1 hx, if_pos (by decide), if_pos hlh, if_pos hr6, hkk, hff, et]
            simp only [ret9]
            rw [b153_45, bi1 hy, if_pos (by decide), es]
            simp only [ret9]
            rw [b153_63, bi1 hz, if_pos (by decide)]
            show ret9 _ _ _ _ _ _ (cal (d + 4) 51 [vr 11 0, vi (sf2 5)] (MX (up3 (TKm I va ah sf2) 11 0 14 (sf2 7)) (up3 J 9 0 3 f) T)) = _
            rw [s5, s1, c51]
            simp only [ret9]
            rw [b153_95]
          · rw [em, b271_411, if_pos (by rw [eq0n (by omega)]; exact hz), b271_423, c215]
            simp only [ret9]
            rw [b271_435]
      · -- not to be split
        have o1 := ownM (d + 4) (nn k) (up3 (up3 (TKm I va ah sf) 11 0 15 5) 14 0 0 0) (up3 J 9 0 3 f) T n24 (by omega) hB hno
        have my := manyM (d + 4) (nn k) (up3 (up3 (TKm I va ah sf) 11 0 15 5) 14 0 0 0) (up3 J 9 0 3 f) T n24 hn
        change cal (d + 4) 248 _ _ = some (.inl (some (vi (nn (ct (fun c => decide (I 28 7 c = nn k)) (w * h0) 0 0)))), _) at my
        rw [hcn] at my
        have hcl := cn_le (bt f) (w * h0)
        have RC : cal (d + 5) 153 [vr 11 0, vi (nn k), vi lo, vi hi] (MX I J T) = some (.inl (some (vi (-1))), MX (up3 (TKm I va ah sf) 11 0 15 5) (up3 J 9 0 3 f) T) := by
          rw [c153, e1]
          simp only [ret9]
          rw [b153_8, bi1 hx, if_pos (by decide), if_pos hlh, if_pos hr6, hkk, hff, et]
          simp only [ret9]
          rw [b153_45, bi0 hy, if_neg (fun q => q rfl), c20]
          simp only [ret9]
          rw [b153_53]
        have e0 : cal (d + 5) 271 [vr 14 0, vi (nn k), vi lo, vi hi] (MX (up3 (TKm I va ah sf) 11 0 15 5) (up3 J 9 0 3 f) T) = den (d + 5) 271 37 [some (vr 14 0), some (vi (nn k)), some (vi lo), some (vi hi), some (vi (nn (cn (bt f) (w * h0)))), none, none, none, none, none, none, none, none, none] [] (MX (up3 (up3 (TKm I va ah sf) 11 0 15 5) 14 0 0 0) (up3 J 9 0 3 f) T) := by
          rw [c271, o1]
          simp only [ret9]
          rw [b271_10, bi1 hx, if_pos (by decide), b271_19, if_pos hlh, b271_30, my]
          simp only [ret9]
          rw [b271_35]
        have m1 : ((12 : Int32) < nn (cn (bt f) (w * h0))) ↔ 12 < cn (bt f) (w * h0) := nn_lt (a := 12) (by omega) (by omega)
        have m2 : (nn (cn (bt f) (w * h0)) < 2) ↔ cn (bt f) (w * h0) < 2 := nn_lt (b := 2) (by omega) (by omega)
        by_cases y1 : 12 < cn (bt f) (w * h0)
        · refine ⟨-1, MX (up3 (TKm I va ah sf) 11 0 15 5) (up3 J 9 0 3 f) T, MX (up3 (up3 (up3 (up3 (TKm I va ah sf) 11 0 15 5) 14 0 0 0) 14 0 1 5) 14 0 2 (-1)) (up3 J 9 0 3 f) T, RC, fun _ => rfl, rfl, ?_, ⟨_, _, _, rfl, hN, hT, ⟨hA.1, rfl, rfl, hA.2.2.2⟩, w, h0, o, hwo, hB, hW, hM, hC, hD, hO, hK, hP⟩, Nat.le_add_right _ _, Nat.le_add_right _ _⟩
          rw [e0, b271_37, if_pos (m1.mpr y1), b271_62, c187]
          simp only [ret9]
          rw [b271_67]
        · by_cases y2 : cn (bt f) (w * h0) < 2
          · refine ⟨-1, MX (up3 (TKm I va ah sf) 11 0 15 5) (up3 J 9 0 3 f) T, MX (up3 (up3 (up3 (up3 (TKm I va ah sf) 11 0 15 5) 14 0 0 0) 14 0 1 5) 14 0 2 (-1)) (up3 J 9 0 3 f) T, RC, fun _ => rfl, rfl, ?_, ⟨_, _, _, rfl, hN, hT, ⟨hA.1, rfl, rfl, hA.2.2.2⟩, w, h0, o, hwo, hB, hW, hM, hC, hD, hO, hK, hP⟩, Nat.le_add_right _ _, Nat.le_add_right _ _⟩
            rw [e0, b271_37, if_neg (fun q => y1 (m1.mp q)), b271_44, if_pos (m2.mpr y2), b271_62, c187]
            simp only [ret9]
            rw [b271_67]
          · have y3 : ¬ HT w h0 (bt f) := fun q => hy ⟨by omega, by omega, q⟩
            obtain ⟨Q, S, eh⟩ := hangM (d + 2) (w := w) (h := h0) (j := 7) (x := nn k) (up3 (up3 (TKm I va ah sf) 11 0 15 5) 14 0 0 0) (up3 J 9 0 3 f) T hg n24 (by decide)
            change cal (d + 4) 252 _ _ = some (.inl (some (vi (bi (HT w h0 (fun c => decide (I 28 7 c = nn k)))))), _) at eh
            rw [propext hHT] at eh
            refine ⟨-1, MX (up3 (TKm I va ah sf) 11 0 15 5) (up3 J 9 0 3 f) T, MX (up3 (up3 (HM (up3 (up3 (TKm I va ah sf) 11 0 15 5) 14 0 0 0) Q S) 14 0 1 5) 14 0 2 (-1)) (up3 J 9 0 3 f) T, RC, fun _ => rfl, rfl, ?_, ⟨_, _, _, rfl, hN, hT, ⟨hA.1, rfl, rfl, hA.2.2.2⟩, w, h0, o, hwo, hB, hW, hM, hC, hD, hO, hK, hP⟩, Nat.le_add_right _ _, Nat.le_add_right _ _⟩
            rw [e0, b271_37, if_neg (fun q => y1 (m1.mp q)), b271_44, if_neg (fun q => y2 (m2.mp q)), b271_50, eh]
            simp only [ret9]
            rw [b271_59, bi0 y3, if_neg (fun q => q rfl), b271_62, c187]
            simp only [ret9]
            rw [b271_67]
    · refine ⟨-1, MX (up3 I 11 0 15 2) J T, MX (up3 (up3 (up3 (up3 I 11 0 15 2) 14 0 0 0) 14 0 1 2) 14 0 2 (-1)) J T, ?_, fun _ => rfl, rfl, ?_, ⟨_, _, _, rfl, rel_tr 2 (by decide) h⟩, Nat.le_add_right _ _, Nat.le_add_right _ _⟩
      · simp only [c153, e1, bi1 hx, ret9, b153_8, j10, not_false_eq_true, if_true, if_neg hlh, c20, b153_27]
      · rw [c271, e3]
        simp only [ret9]
        rw [b271_10, bi1 hx, if_pos (by decide), b271_19, if_neg hlh, b271_24, c187]
        simp only [ret9, b271_29]
  · refine ⟨-1, MX (up3 I 11 0 15 1) J T, MX (up3 (up3 (up3 (up3 I 11 0 15 1) 14 0 0 0) 14 0 1 1) 14 0 2 (-1)) J T, ?_, fun _ => rfl, rfl, ?_, ⟨_, _, _, rfl, rel_tr 1 (by decide) h⟩, Nat.le_add_right _ _, Nat.le_add_right _ _⟩
    · simp only [c153, e1, bi0 hx, ret9, b153_8, j00, not_true_eq_false, if_false, c20, b153_16]
    · rw [c271, e3]
      simp only [ret9]
      rw [b271_10, bi0 hx, if_neg (fun q => q rfl), b271_13, c187]
      simp only [ret9, b271_18]
