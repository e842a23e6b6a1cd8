/-! Splitting a field: the reference's search -/
section SPLO
variable (d : Nat) {w h : Nat} (I : PI) (J : PJ) (T : TL) {k m : Nat} {F : Nat → Bool}
theorem sd_off {w h s : Nat} {F : Nat → Bool} {sd : Nat → Int32} (hS : SDok w h F s sd) : ∀ e, e < w * h → ¬ F e = true → sd e = -1 := fun e he hF => by
  rw [hS e he, if_neg hF]
theorem HT_sd {w h s : Nat} {F : Nat → Bool} {sd : Nat → Int32} (hw : 1 ≤ w) (hS : SDok w h F s sd) : (HT w h (fun c => decide (sd c = 0)) ↔ HT w h (rstP F s)) ∧ (HT w h (fun c => decide (sd c = 1)) ↔ HT w h (prtP F s)) := by
  constructor
  · apply HT_iff hw
    intro c hc
    obtain ⟨-, s2⟩ := sd_1 hS hc
    cases z : rstP F s c with
    | true => exact decide_eq_true (s2.mpr z)
    | false => exact decide_eq_false (fun y => by rw [s2.mp y] at z; cases z)
  · apply HT_iff hw
    intro c hc
    obtain ⟨s2, -⟩ := sd_1 hS hc
    cases z : prtP F s c with
    | true => exact decide_eq_true (s2.mpr z)
    | false => exact decide_eq_false (fun y => by rw [s2.mp y] at z; cases z)
theorem stepM (hg : GW I w h) (hn : I 14 0 24 = nn (w * h)) (hk : k < 6) (hm : cn F (w * h) = m) (hm12 : m ≤ 12) {V rw : Nat → Int32} (hrw : ∀ e, e < w * h → F e = true → rw (cn F e) = nn e) (hV : ∀ e, e < w * h → F e = true → I 34 1 (64 * k + e) = V (cn F e)) (lo hi x5 : Int32) {s : Nat} (hs : s < 4096) (st : Nat × Nat) (hst1 : st.1 < 4096) (hst2 : st.2 ≤ 256) (sd Q S : Nat → Int32) (o9 o10 o11 o12 o13 : Option AV) (hsd : ∀ e, e < w * h → ¬ F e = true → sd e = -1) : ∃ (sd2 Q2 S2 : Nat → Int32) (p9 p10 p11 p12 p13 : Option AV), den (d + 3) 271 147 [some (vr 14 0), some (vi (nn k)), some (vi lo), some (vi hi), some (vi (nn m)), some (vi x5), some (vi (nn st.1)), some (vi (nn st.2)), some (vi (nn s)), o9, o10, o11, o12, o13] [] (MX (SMM I sd rw Q S) J T) = den (d + 3) 271 136 [some (vr 14 0), some (vi (nn k)), some (vi lo), some (vi hi), some (vi (nn m)), some (vi x5), some (vi (nn (wgh w h F (SV V m) lo hi s st).1)), some (vi (nn (wgh w h F (SV V m) lo hi s st).2)), some (vi (nn (s + 1))), p9, p10, p11, p12, p13] [] (MX (SMM I sd2 rw Q2 S2) J T) ∧ (∀ e, e < w * h → ¬ F e = true → sd2 e = -1) := by
  have h64 : w * h ≤ 64 := Nat.mul_le_mul hg.2.2.2.1 hg.2.2.2.2.2
  have hw1 := hg.2.2.1
  obtain ⟨sd2, e1, hS⟩ := l1Lp (d + 3) I J T h64 hk hm hm12 hrw hV hs lo hi x5 (nn st.1) (nn st.2) o11 o12 o13 (w * h) 0 sd Q S (by omega) (fun e he => by
    by_cases z : F e = true
    · rw [if_pos z, if_neg (by omega)]
    · rw [if_neg z]; exact hsd e he z)
  have hoff := sd_off hS
  obtain ⟨ht0, ht1⟩ := HT_sd hw1 hS
  change den (d + 3) 271 153 [some (vr 14 0), some (vi (nn k)), some (vi lo), some (vi hi), some (vi (nn m)), some (vi x5), some (vi (nn st.1)), some (vi (nn st.2)), some (vi (nn s)), some (vi 0), some (vi 0), o11, o12, o13] [] (MX (SMM I sd rw Q S) J T) = _ at e1
  rw [b271_147, b271_150, e1, b271_222, inM]
  simp only [ret9]
  rw [b271_229]
  have no : ∀ (x9 x10 : Int32) (o11 o12 o13 : Option AV) (Q2 S2 : Nat → Int32), ¬ WC w h F (SV V m) lo hi s st → den (d + 3) 271 405 [some (vr 14 0), some (vi (nn k)), some (vi lo), some (vi hi), some (vi (nn m)), some (vi x5), some (vi (nn st.1)), some (vi (nn st.2)), some (vi (nn s)), some (vi x9), some (vi x10), o11, o12, o13] [] (MX (SMM I sd2 rw Q2 S2) J T) = den (d + 3) 271 136 [some (vr 14 0), some (vi (nn k)), some (vi lo), some (vi hi), some (vi (nn m)), some (vi x5), some (vi (nn (wgh w h F (SV V m) lo hi s st).1)), some (vi (nn (wgh w h F (SV V m) lo hi s st).2)), some (vi (nn (s + 1))), some (vi x9), some (vi x10), o11, o12, o13] [] (MX (SMM I sd2 rw Q2 S2) J T) := by
    intro x9 x10 o11 o12 o13 Q2 S2 z
    rw [b271_405, b271_408, nn_add1, wgh0 z]
  by_cases z1 : lo ≤ SV V m s ∧ SV V m s ≤ hi
  · rw [bi1 z1, if_pos (by decide), b271_235, b271_238]
    obtain ⟨p12, p13, e2⟩ := bordLp (d + 1) I J T hg hm hrw hS Q S (nn k) lo hi x5 (nn st.1) (nn st.2) (nn s) (SV V m s) (w * h) 0 o12 o13 (by omega)
    change den (d + 3) 271 241 [some (vr 14 0), some (vi (nn k)), some (vi lo), some (vi hi), some (vi (nn m)), some (vi x5), some (vi (nn st.1)), some (vi (nn st.2)), some (vi (nn s)), some (vi (SV V m s)), some (vi 0), some (vi 0), o12, o13] [] (MX (SMM I sd2 rw Q S) J T) = _ at e2
    rw [e2]
    have hB := BDR_le w h F s
    have hpc := pcq_le s
    have hpc2 := pcq_le st.1
    generalize hBB : BDR w h F s = B at hB
    have off : ¬ (st.1 = 0 ∨ B < st.2 ∨ (B = st.2 ∧ pcq s < pcq st.1)) → den (d + 3) 271 362 [some (vr 14 0), some (vi (nn k)), some (vi lo), some (vi hi), some (vi (nn m)), some (vi x5), some (vi (nn st.1)), some (vi (nn st.2)), some (vi (nn s)), some (vi (SV V m s)), some (vi (nn B)), some (vi (nn m)), p12, p13] [] (MX (SMM I sd2 rw Q S) J T) = den (d + 3) 271 136 [some (vr 14 0), some (vi (nn k)), some (vi lo), some (vi hi), some (vi (nn m)), some (vi x5), some (vi (nn (wgh w h F (SV V m) lo hi s st).1)), some (vi (nn (wgh w h F (SV V m) lo hi s st).2)), some (vi (nn (s + 1))), some (vi (SV V m s)), some (vi (nn B)), some (vi 0), p12, p13] [] (MX (SMM I sd2 rw Q S) J T) := by
      intro z
      rw [b271_362, b271_363, b271_365, if_pos rfl]
      exact no _ _ _ _ _ _ _ (fun y => z (by rw [← hBB]; exact y.2.1))
    have on : (st.1 = 0 ∨ B < st.2 ∨ (B = st.2 ∧ pcq s < pcq st.1)) → ∃ Q2 S2 : Nat → Int32, den (d + 3) 271 358 [some (vr 14 0), some (vi (nn k)), some (vi lo), some (vi hi), some (vi (nn m)), some (vi x5), some (vi (nn st.1)), some (vi (nn st.2)), some (vi (nn s)), some (vi (SV V m s)), some (vi (nn B)), some (vi (nn m)), p12, p13] [] (MX (SMM I sd2 rw Q S) J T) = den (d + 3) 271 136 [some (vr 14 0), some (vi (nn k)), some (vi lo), some (vi hi), some (vi (nn m)), some (vi x5), some (vi (nn (wgh w h F (SV V m) lo hi s st).1)), some (vi (nn (wgh w h F (SV V m) lo hi s st).2)), some (vi (nn (s + 1))), some (vi (SV V m s)), some (vi (nn B)), some (vi 1), p12, p13] [] (MX (SMM I sd2 rw Q2 S2) J T) := by
      intro z
      obtain ⟨Q2, S2, e3⟩ := hangM (d + 0) (w := w) (h := h) (j := 11) (x := 0) (SMM I sd2 rw Q S) J T hg hn (by decide)
      rw [smm_hm] at e3
      obtain ⟨Q3, S3, e4⟩ := hangM (d + 0) (w := w) (h := h) (j := 11) (x := 1) (SMM I sd2 rw Q2 S2) J T hg hn (by decide)
      rw [smm_hm] at e4
      rw [show (HT w h fun c => decide ((SMM I sd2 rw Q S) 28 11 c = 0)) = HT w h (rstP F s) from propext ht0] at e3
      rw [show (HT w h fun c => decide ((SMM I sd2 rw Q2 S2) 28 11 c = 1)) = HT w h (prtP F s) from propext ht1] at e4
      by_cases y1 : HT w h (rstP F s)
      · by_cases y2 : HT w h (prtP F s)
        · refine ⟨Q3, S3, ?_⟩
          rw [b271_358, b271_363, b271_365, if_neg (by decide), b271_370, e3]
          simp only [ret9]
          rw [b271_379, bi1 y1, if_neg (by decide), b271_382, e4]
          simp only [ret9]
          rw [b271_391, bi1 y2, if_pos (by decide), b271_397, b271_401, b271_405, b271_408, nn_add1, wgh1 ⟨z1, by rw [hBB]; exact z, y2, y1⟩, hBB]
        · refine ⟨Q3, S3, ?_⟩
          rw [b271_358, b271_363, b271_365, if_neg (by decide), b271_370, e3]
          simp only [ret9]
          rw [b271_379, bi1 y1, if_neg (by decide), b271_382, e4]
          simp only [ret9]
          rw [b271_391, bi0 y2, if_neg (fun q => q rfl), b271_394]
          exact no _ _ _ _ _ _ _ (fun q => y2 q.2.2.1)
      · refine ⟨Q2, S2, ?_⟩
        rw [b271_358, b271_363, b271_365, if_neg (by decide), b271_370, e3]
        simp only [ret9]
        rw [b271_379, bi0 y1, if_pos rfl]
        exact no _ _ _ _ _ _ _ (fun q => y1 q.2.2.2)
    have GO := fun z => let ⟨Q2, S2, e⟩ := on z; (⟨sd2, Q2, S2, some (vi (SV V m s)), some (vi (nn B)), some (vi 1), p12, p13, e, hoff⟩ : ∃ (sd3 Q2 S2 : Nat → Int32) (p9 p10 p11 p12' p13' : Option AV), den (d + 3) 271 358 [some (vr 14 0), some (vi (nn k)), some (vi lo), some (vi hi), some (vi (nn m)), some (vi x5), some (vi (nn st.1)), some (vi (nn st.2)), some (vi (nn s)), some (vi (SV V m s)), some (vi (nn B)), some (vi (nn m)), p12, p13] [] (MX (SMM I sd2 rw Q S) J T) = den (d + 3) 271 136 [some (vr 14 0), some (vi (nn k)), some (vi lo), some (vi hi), some (vi (nn m)), some (vi x5), some (vi (nn (wgh w h F (SV V m) lo hi s st).1)), some (vi (nn (wgh w h F (SV V m) lo hi s st).2)), some (vi (nn (s + 1))), p9, p10, p11, p12', p13'] [] (MX (SMM I sd3 rw Q2 S2) J T) ∧ (∀ e, e < w * h → ¬ F e = true → sd3 e = -1))
    rw [b271_326]
    by_cases z0 : st.1 = 0
    · rw [if_pos (by rw [z0]; rfl)]
      exact GO (.inl z0)
    · rw [if_neg (by rw [eq0n (by omega)]; exact z0), b271_331]
      have m1 : (nn B < nn st.2) ↔ B < st.2 := nn_lt (by omega) (by omega)
      have m2 : (nn B = nn st.2) ↔ B = st.2 := nn_inj (by omega) (by omega)
      have m3 : (nn (pcq st.1) ≤ nn (pcq s)) ↔ pcq st.1 ≤ pcq s := nn_le (by omega) (by omega)
      by_cases z2 : B < st.2
      · rw [if_pos (m1.mpr z2)]
        exact GO (.inr (.inl z2))
      · rw [if_neg (fun y => z2 (m1.mp y)), b271_338]
        by_cases z3 : B = st.2
        · rw [if_neg (fun y => y (m2.mpr z3)), b271_345, bitsM _ hs]
          simp only [ret9]
          rw [b271_350, bitsM _ hst1]
          simp only [ret9]
          rw [b271_355]
          by_cases z4 : pcq st.1 ≤ pcq s
          · rw [if_pos (m3.mpr z4)]
            exact ⟨sd2, Q, S, some (vi (SV V m s)), some (vi (nn B)), some (vi 0), p12, p13, off (by omega), hoff⟩
          · rw [if_neg (fun y => z4 (m3.mp y))]
            exact GO (.inr (.inr ⟨z3, by omega⟩))
        · rw [if_pos (fun y => z3 (m2.mp y))]
          exact ⟨sd2, Q, S, some (vi (SV V m s)), some (vi (nn B)), some (vi 0), p12, p13, off (by omega), hoff⟩
  · rw [bi0 z1, if_neg (fun y => y rfl), b271_232]
    exact ⟨sd2, Q, S, some (vi (SV V m s)), some (vi (nn m)), o11, o12, o13, no _ _ _ _ _ _ _ (fun y => z1 y.1), hoff⟩
theorem wgh_bd (w h : Nat) (F : Nat → Bool) (V : Nat → Int32) (lo hi : Int32) {s : Nat} (hs : s < 4096) (h64 : w * h ≤ 64) (st : Nat × Nat) (h1 : st.1 < 4096) (h2 : st.2 ≤ 256) : (wgh w h F V lo hi s st).1 < 4096 ∧ (wgh w h F V lo hi s st).2 ≤ 256 := by
  by_cases z : WC w h F V lo hi s st
  · rw [wgh1 z]
    have := BDR_le w h F s
    exact ⟨hs, by show BDR w h F s ≤ 256; omega⟩
  · rw [wgh0 z]; exact ⟨h1, h2⟩
theorem ish_tb : ∀ m : Fin 13, ish9 1 (nn m.val) - 1 = nn (2 ^ m.val - 1) := by decide
theorem mainM (hg : GW I w h) (hn : I 14 0 24 = nn (w * h)) (hk : k < 6) (hm : cn F (w * h) = m) (hm12 : m ≤ 12) {V rw : Nat → Int32} (hrw : ∀ e, e < w * h → F e = true → rw (cn F e) = nn e) (hV : ∀ e, e < w * h → F e = true → I 34 1 (64 * k + e) = V (cn F e)) (lo hi x5 : Int32) : ∀ q s (st : Nat × Nat), st.1 < 4096 → st.2 ≤ 256 → ∀ (sd Q S : Nat → Int32) (o9 o10 o11 o12 o13 : Option AV), s + q = 2 ^ m - 1 → (∀ e, e < w * h → ¬ F e = true → sd e = -1) → ∃ (sd2 Q2 S2 : Nat → Int32) (p9 p10 p11 p12 p13 : Option AV), den (d + 3) 271 136 [some (vr 14 0), some (vi (nn k)), some (vi lo), some (vi hi), some (vi (nn m)), some (vi x5), some (vi (nn st.1)), some (vi (nn st.2)), some (vi (nn s)), o9, o10, o11, o12, o13] [] (MX (SMM I sd rw Q S) J T) = den (d + 3) 271 411 [some (vr 14 0), some (vi (nn k)), some (vi lo), some (vi hi), some (vi (nn m)), some (vi x5), some (vi (nn (itn (wgh w h F (SV V m) lo hi) q s st).1)), some (vi (nn (itn (wgh w h F (SV V m) lo hi) q s st).2)), some (vi (nn (2 ^ m - 1))), p9, p10, p11, p12, p13] [] (MX (SMM I sd2 rw Q2 S2) J T) ∧ (itn (wgh w h F (SV V m) lo hi) q s st).1 < 4096 := by
  have hpw : 2 ^ m ≤ 4096 := by
    have := Nat.pow_le_pow_right (show 0 < 2 by omega) hm12
    exact this
  have hpos : 0 < 2 ^ m := Nat.pow_pos (by omega)
  have h64 : w * h ≤ 64 := Nat.mul_le_mul hg.2.2.2.1 hg.2.2.2.2.2
  have ht := ish_tb ⟨m, by omega⟩
  dsimp only at ht
  intro q
  induction q with
  | zero =>
    intro s st h1 h2 sd Q S o9 o10 o11 o12 o13 hq hsd
    refine ⟨sd, Q, S, o9, o10, o11, o12, o13, ?_, by rw [itn_z]; exact h1⟩
    rw [b271_136, ht, if_pos ((nn_le (by omega) (by omega)).mpr (by omega)), itn_z, show s = 2 ^ m - 1 by omega]
  | succ q ih =>
    intro s st h1 h2 sd Q S o9 o10 o11 o12 o13 hq hsd
    obtain ⟨sd2, Q2, S2, p9, p10, p11, p12, p13, e1, hs2⟩ := stepM d I J T hg hn hk hm hm12 hrw hV lo hi x5 (show s < 4096 by omega) st h1 h2 sd Q S o9 o10 o11 o12 o13 hsd
    obtain ⟨b1, b2⟩ := wgh_bd w h F (SV V m) lo hi (show s < 4096 by omega) h64 st h1 h2
    obtain ⟨sd3, Q3, S3, r9, r10, r11, r12, r13, e2, q2⟩ := ih (s + 1) _ b1 b2 sd2 Q2 S2 p9 p10 p11 p12 p13 (by omega) hs2
    refine ⟨sd3, Q3, S3, r9, r10, r11, r12, r13, ?_, by rw [itn_su]; exact q2⟩
    rw [b271_136, ht, if_neg (by rw [nn_le (by omega) (by omega)]; omega), e1, e2, itn_su]
end SPLO
