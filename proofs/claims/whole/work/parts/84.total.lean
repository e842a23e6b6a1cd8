/-! The call total -/
theorem itn_congr {β : Type} {f g : Nat → β → β} : ∀ k c b, (∀ i b, c ≤ i → i < c + k → f i b = g i b) → itn f k c b = itn g k c b
  | 0, _, _, _ => rfl
  | k + 1, c, b, h => by
    show itn f k (c + 1) (f c b) = itn g k (c + 1) (g c b)
    rw [h c b (Nat.le_refl c) (by omega)]
    exact itn_congr k (c + 1) _ (fun i b h1 h2 => h i b (by omega) (by omega))
section TCO
variable {ws pr pr2 had had2 wt kp : Nat → Int32} {n o : Nat}
theorem TS_congr (h : ∀ k, k < o → ∀ c, c < n → pr (64 * k + c) = pr2 (64 * k + c)) : TS ws pr n o = TS ws pr2 n o :=
  sm_congr o 0 0 (fun i _ hi => SU_congr (fun _ _ => rfl) (h i (by omega)))
theorem SHO_congr (h : ∀ k, k < o → ∀ c, c < n → pr (64 * k + c) = pr2 (64 * k + c)) (hh : ∀ k, k < o → had k = had2 k) : SHO ws pr had n o = SHO ws pr2 had2 n o :=
  sm_congr o 0 0 (fun i _ hi => by rw [hh i (by omega), SU_congr (fun _ _ => rfl) (h i (by omega))])
theorem GP_congr (ho : 1 ≤ o) (h : ∀ k, k < o → ∀ c, c < n → pr (64 * k + c) = pr2 (64 * k + c)) {c : Nat} (hc : c < n) : GP pr o c = GP pr2 o c := by
  unfold GP
  rw [h 0 (by omega) c hc]
  exact itn_congr _ _ _ (fun i b h1 h2 => by rw [h i (by omega) c hc])
theorem BD_congr (ho : 1 ≤ o) (h : ∀ k, k < o → ∀ c, c < n → pr (64 * k + c) = pr2 (64 * k + c)) (hk : ∀ c, c < n → ownr o (kp c)) (ho6 : o ≤ 6) : BD pr wt kp n o = BD pr2 wt kp n o :=
  sm_congr n 0 0 (fun c _ hc => by
    have hc2 : c < n := by omega
    by_cases h1 : wt c = 0
    · rw [if_neg (show ¬ ¬ wt c = 0 from fun z => z h1), if_neg (show ¬ ¬ wt c = 0 from fun z => z h1)]
      by_cases h2 : kp c = -1
      · rw [if_pos h2, if_pos h2, GP_congr ho h hc2]
      · rw [if_neg h2, if_neg h2]
        rcases hk c hc2 with z | ⟨q, hq, z⟩
        · exact absurd z h2
        · rw [z, nn_idx (by omega), h q hq c hc2]
    · rw [if_pos h1, if_pos h1])
theorem PRS_congr (h : ∀ k, k < o → ∀ c, c < n → pr (64 * k + c) = pr2 (64 * k + c)) : PRS ws pr n o = PRS ws pr2 n o :=
  itn_congr o 0 0 (fun i b _ hi => sm_congr o 0 b (fun q _ _ => bi_congr (and_congr_right (fun _ => EN_congr (h i (by omega))))))
end TCO
theorem call14 (L d : Nat) : Cl14 (Inv L) (d + 8) 8 400 := by
  intro m x hm
  obtain ⟨I, J, T, rfl, h⟩ := hm
  obtain ⟨hN, hT, hA, w, h0, o, hwo, hB, hW, hM, hC, hD, hO, hK, hP⟩ := id h
  have hn := relW_le hW
  obtain ⟨ho, ho6⟩ := relB_o hB
  have hno : 0 < w * h0 → 0 < o := fun z => hwo (pos_l z)
  have n9 : I 5 0 9 = nn (w * h0) := hW.2.2.1
  have n24 : I 14 0 24 = nn (w * h0) := hW.2.2.2.2.2.1
  have deny : cal (d + 8) 87 [vr 11 0, vi x] (MX I J T) = some (.inl (some (vi (-2147483648))), MX (up3 I 11 0 15 1) J T) → cal (d + 8) 240 [vr 14 0, vi x] (MX (up3 I 11 0 15 1) J T) = some (.inl (some (vi (-2147483648))), MX (up3 (up3 (up3 (up3 I 11 0 15 1) 14 0 0 0) 14 0 1 1) 14 0 2 (-1)) J T) → Ok2 (Inv L) (d + 8) 8 400 87 240 [vi x] (MX I J T) :=
    fun q1 q2 => ⟨-2147483648, MX (up3 I 11 0 15 1) J T, _, q1, fun _ => rfl, rfl, q2, ⟨_, _, _, rfl, rel_tr 1 (by decide) h⟩, Nat.le_add_right _ _, Nat.le_add_right _ _⟩
  rcases Nat.eq_zero_or_pos (w * h0) with hz | hp
  · have z9 : I 5 0 9 ≤ 0 := by rw [n9, hz]; decide
    have z24 : (up3 I 11 0 15 1) 14 0 24 = 0 := by show I 14 0 24 = 0; rw [n24, hz]; rfl
    refine deny ?_ ?_
    · simp only [c87, c74, if_pos z9, ret9, b87_7, j00, if_true, c88, b87_25]
    · rcases hB with ⟨q1, q2, -⟩ | ⟨b, q1, -⟩
      · rw [← TNe q2, c240n, if_pos z24, c241]
        simp only [ret9, b240n_27]
      · rw [← TBe q1, c240, if_pos z24, b240_22, c241]
        simp only [ret9, b240_27]
  · have z9 : ¬ I 5 0 9 ≤ 0 := by rw [n9, le0 (by omega)]; omega
    obtain ⟨b, hmb⟩ := relmb hB (hno hp)
    have hg := relGW hW hp
    have hgl := hg
    have z24 : ∀ t : Int32, ¬ (up3 I 11 0 15 t) 14 0 24 = 0 := by intro t; show ¬ I 14 0 24 = 0; rw [n24, eq0n (by omega)]; omega
    by_cases hx : 0 ≤ x ∧ x ≤ 6
    · have hvn : VN (up3 (up3 I 11 0 15 0) 14 0 0 0) w h0 o b := relVN hB hW hO hp hmb
      obtain ⟨W, g, ev, hWv⟩ := valuesM (d + 3) (up3 (up3 I 11 0 15 0) 14 0 0 0) J T hvn
      have hpr : ∀ k, k < o → ∀ c, c < w * h0 → W (64 * k + c) = I 34 0 (64 * k + c) := fun k hk c hc => by
        rw [hWv k hk c hc, hP b hmb k hk c hc]
        rfl
      have hob : I 12 b 0 = nn o := hvn.2.2.2.1
      have hdo : ∀ k, k < o → (I 21 10 k).toNatClampNeg < 64 ∧ I 21 10 k = nn (I 21 10 k).toNatClampNeg := fun k hk => by
        obtain ⟨p0, p1, p2⟩ := (hO.1 k hk).2.2.1 hp
        rw [p2, nn_idx (by omega)]
        exact ⟨by omega, rfl⟩
      have hdc : ∀ k, k < o → (I 21 10 k).toNatClampNeg < 64 ∧ I 21 3 k = nn (I 21 10 k).toNatClampNeg := fun k hk => ⟨(hdo k hk).1, (hO.1 k hk).1.trans (hdo k hk).2⟩
      have hhad : ∀ k, k < o → I 21 11 k = I 21 4 k := fun k hk => (hO.1 k hk).2.1.symm
      have hlim : I 14 0 26 = I 5 0 11 := by
        rcases hO.2 with z | z
        · omega
        · exact z.2.2.2.1.symm
      have ho1 := hno hp
      have hkc : ∀ c, c < w * h0 → ownr o (I 28 6 c) := fun c hc => (hC.2 c hc).2.2.2.2.2.2
      have hd12 : ∀ (v : Int32), cal (d + 8) 87 [vr 11 0, vi x] (MX I J T) = some (.inl (some (vi v)), MX (up3 I 11 0 15 0) J T) → cal (d + 8) 240 [vr 14 0, vi x] (MX (up3 I 11 0 15 0) J (TB T b)) = some (.inl (some (vi v)), MX (up3 (up3 (upA (upA (up3 (up3 I 11 0 15 0) 14 0 0 0) 34 1 W) 27 0 g) 14 0 1 0) 14 0 2 (-1)) J (TB T b)) → Ok2 (Inv L) (d + 8) 8 400 87 240 [vi x] (MX I J T) := fun v q1 q2 =>
        ⟨v, MX (up3 I 11 0 15 0) J T, MX (up3 (up3 (upA (upA (up3 (up3 I 11 0 15 0) 14 0 0 0) 34 1 W) 27 0 g) 14 0 1 0) 14 0 2 (-1)) J T, q1, fun _ => rfl, rfl, by rw [TBe hmb] at q2; exact q2, ⟨_, _, _, rfl, rel_tr 0 (by decide) h⟩, Nat.le_add_right _ _, Nat.le_add_right _ _⟩
      have hcl : ∀ v, cal (d + 7) 89 [vr 0 0, vi x] (MX I J T) = some (.inl (some (vi v)), MX I J T) → cal (d + 8) 87 [vr 11 0, vi x] (MX I J T) = some (.inl (some (vi v)), MX (up3 I 11 0 15 0) J T) := fun v q => by
        simp only [c87, c74, if_neg z9, ret9, b87_7, j10, if_false, if_neg (i32_nlt.mpr hx.1), if_pos hx.2, q, b87_35, c51, b87_38]
      have hrf : cal (d + 8) 240 [vr 14 0, vi x] (MX (up3 I 11 0 15 0) J (TB T b)) = den (d + 8) 240 69 [some (vr 14 0), some (vi x), some (vi (sm (fun k => bi (YS (I 28 7) W (w * h0) w (I 21 10 k).toNatClampNeg k (I 14 0 26) (I 21 11 k) 0)) o 0 0)), some (vi (nn o))] [] (MX (upA (upA (up3 (up3 I 11 0 15 0) 14 0 0 0) 34 1 W) 27 0 g) J (TB T b)) := by
        rw [c240, if_neg (z24 0), b240_12, inM, bi1 hx]
        simp only [ret9]
        rw [b240_19, if_pos (by decide), b240_28, ev]
        simp only [ret9]
        exact yvM (d + 5) (w := w) (h := h0) (upA (upA (up3 (up3 I 11 0 15 0) 14 0 0 0) 34 1 W) 27 0 g) J T x (fun k => (I 21 10 k).toNatClampNeg) n24 hn hob ho6 hg hdo
      generalize hI2 : upA (upA (up3 (up3 I 11 0 15 0) 14 0 0 0) 34 1 W) 27 0 g = I2 at hrf hd12
      have i28 : I2 28 = I 28 := by rw [← hI2]; rfl
      have i34 : I2 34 1 = W := by rw [← hI2]; rfl
      have i24 : I2 14 0 24 = nn (w * h0) := by rw [← hI2]; exact n24
      have i12 : I2 12 b 0 = nn o := by rw [← hI2]; exact hob
      have i39 : I2 39 = I 39 := by rw [← hI2]; rfl
      have i21 : I2 21 = I 21 := by rw [← hI2]; rfl
      have ig : GW I2 w h0 := by rw [← hI2]; exact hg
      have tM := totM (d + 6) I2 J T i24 hn i12 ho6
      have sM := shoM (d + 6) I2 J T i24 hn i12 ho6
      have bM := bndM (d + 7) I2 J T i24 hn i12 ho6 ho1 (by rw [i28]; exact hkc)
      have pM := prsM (d + 5) I2 J T i24 hn i12 ho6
      have oM := bordM (d + 5) I2 J (TB T b) ig i24
      rw [i28, i34, TS_congr hpr] at tM
      rw [i28, i34, i21, SHO_congr hpr hhad] at sM
      rw [i28, i34, i39, BD_congr ho1 hpr hkc ho6] at bM
      rw [i28, i34, PRS_congr hpr] at pM
      rw [i28, ← bord_eq (o := o) hg.2.2.1 hn ho6 hM hD] at oM
      have tC := totC (d + 3) I J T n9 hn ho ho6 hD
      have sC := shoC (d + 3) I J T n9 hn ho ho6 hD
      have bC := bndC (d + 4) I J T n9 hn ho ho6 ho1 hC
      have pC := prsC (d + 2) I J T n9 hn ho ho6 hD
      have vC := yvC (d + 2) (w := w) I J T (fun k => (I 21 10 k).toNatClampNeg) n9 hn ho ho6 hW.1 hg.2.2.1 hg.2.2.2.1 hdc hD
      have oC := bordC (d + 4) I J T hW.1 hM hg.2.2.1 hg.2.2.2.1 hn ho ho6 hD
      obtain ⟨k, hk, rfl⟩ := cl_of (n := 7) (by omega) ⟨hx.1, by
        have := Int32.le_iff_toInt_le.mp hx.2
        rw [Int32.lt_iff_toInt_lt]
        have e6 : (6 : Int32).toInt = 6 := rfl
        have e7 : (nn 7).toInt = 7 := rfl
        omega⟩
      have hk7 : k = 0 ∨ k = 1 ∨ k = 2 ∨ k = 3 ∨ k = 4 ∨ k = 5 ∨ k = 6 := by omega
      rcases hk7 with rfl | rfl | rfl | rfl | rfl | rfl | rfl
      · refine hd12 (TS (I 28 7) (I 34 0) (w * h0) o) (hcl _ ?_) ?_
        · rw [c89, if_pos (by decide), tC]
          simp only [ret9, b89_44]
        · rw [hrf, b240_69, if_pos (by decide), tM]
          simp only [ret9, b240_113, c215, b240_116]
      · refine hd12 (SHO (I 28 7) (I 34 0) (I 21 4) (w * h0) o) (hcl _ ?_) ?_
        · rw [c89, if_neg (by decide), if_pos (by decide), sC]
          simp only [ret9, b89_49]
        · rw [hrf, b240_69, if_neg (by decide), if_pos (by decide), sM]
          simp only [ret9, b240_122, c215, b240_125]
      · refine hd12 (BD (I 34 0) (I 39 0) (I 28 6) (w * h0) o) (hcl _ ?_) ?_
        · rw [c89, if_neg (by decide), if_neg (by decide), if_pos (by decide), bC]
          simp only [ret9, b89_54]
        · rw [hrf, b240_69, if_neg (by decide), if_neg (by decide), if_pos (by decide), bM]
          simp only [ret9, b240_131, c215, b240_134]
      · refine hd12 (BD (I 34 0) (I 39 0) (I 28 6) (w * h0) o - TS (I 28 7) (I 34 0) (w * h0) o) (hcl _ ?_) ?_
        · rw [c89, if_neg (by decide), if_neg (by decide), if_neg (by decide), if_pos (by decide), bC]
          simp only [ret9, b89_59, tC, b89_63]
        · rw [hrf, b240_69, if_neg (by decide), if_neg (by decide), if_neg (by decide), if_pos (by decide), bM]
          simp only [ret9, b240_140, tM, b240_144, c215, b240_148]
      · refine hd12 (PRS (I 28 7) (I 34 0) (w * h0) o) (hcl _ ?_) ?_
        · rw [c89, if_neg (by decide), if_neg (by decide), if_neg (by decide), if_neg (by decide), if_pos (by decide), pC]
          simp only [ret9, b89_69]
        · rw [hrf, b240_69, if_neg (by decide), if_neg (by decide), if_neg (by decide), if_neg (by decide), if_pos (by decide), pM]
          simp only [ret9, b240_154, c215, b240_157]
      · refine hd12 (sm (fun k => bi (YS (I 28 7) (I 34 0) (w * h0) w (I 21 10 k).toNatClampNeg k (I 5 0 11) (I 21 4 k) 0)) o 0 0) (hcl _ ?_) ?_
        · rw [c89, if_neg (by decide), if_neg (by decide), if_neg (by decide), if_neg (by decide), if_neg (by decide), if_pos (by decide), vC]
          simp only [ret9, b89_74]
        · rw [hrf, b240_69, if_neg (by decide), if_neg (by decide), if_neg (by decide), if_neg (by decide), if_neg (by decide), if_pos (by decide), c215]
          simp only [ret9, b240_163]
          congr 4
          apply congrArg vi; apply sm_congr
          intro i _ hi
          rw [hlim, hhad i (by omega)]
          exact bi_congr (YS_congr (hpr i (by omega)))
      · refine hd12 (nn (sQ (metK J w h0) o / 2 + sQ (opnK J w h0) o)) (hcl _ ?_) ?_
        · rw [c89, if_neg (by decide), if_neg (by decide), if_neg (by decide), if_neg (by decide), if_neg (by decide), if_neg (by decide), oC]
          simp only [ret9, b89_79]
        · rw [hrf, b240_69, if_neg (by decide), if_neg (by decide), if_neg (by decide), if_neg (by decide), if_neg (by decide), if_neg (by decide), oM]
          simp only [ret9, b240_169, c215, b240_172]
    · refine deny ?_ ?_
      · by_cases h1 : x < 0
        · simp only [c87, c74, if_neg z9, ret9, b87_7, j10, if_false, if_pos h1, c88, b87_25]
        · have h2 : ¬ x ≤ 6 := fun z => hx ⟨i32_nlt.mp h1, z⟩
          simp only [c87, c74, if_neg z9, ret9, b87_7, j10, if_false, if_neg h1, if_neg h2, c88, b87_25]
      · rw [← TBe hmb, c240, if_neg (z24 1), b240_12, inM, bi0 hx]
        simp only [ret9]
        rw [b240_19, if_neg (by decide), b240_22, c241]
        simp only [ret9, b240_27]
