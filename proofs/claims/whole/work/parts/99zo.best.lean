/-! The call best -/
set_option maxRecDepth 100000 in
theorem c264g (d : Nat) (x1 : Int32) (I : PI) (J : PJ) (T : TL) : cal d 264 [vr 14 0, vi x1] (MX I J T) = (if ¬ (I 14 0 24) = 0 then den d 264 18 [some (vr 14 0), some (vi x1), none, none, none, none, none, none, none, none, none, none, none, none, none] [] (MX (up3 I 14 0 0 0) J T) else den d 264 12 [some (vr 14 0), some (vi x1), none, none, none, none, none, none, none, none, none, none, none, none, none] [] (MX (up3 I 14 0 0 0) J T)) :=
  ((bx_eq [12, 18] d 264 6 0 _ _ _).symm.trans rfl : _ = (if decide (¬ (I 14 0 24) = 0) = true then den d 264 18 [some (vr 14 0), some (vi x1), none, none, none, none, none, none, none, none, none, none, none, none, none] [] (MX (up3 I 14 0 0 0) J T) else den d 264 12 [some (vr 14 0), some (vi x1), none, none, none, none, none, none, none, none, none, none, none, none, none] [] (MX (up3 I 14 0 0 0) J T))).trans (by simp only [ite_dec])
set_option maxRecDepth 100000 in
theorem b264g_12 (d : Nat) (x1 : Int32) (I : PI) (J : PJ) (T : TL) : den (d + 1) 264 12 [some (vr 14 0), some (vi x1), none, none, none, none, none, none, none, none, none, none, none, none, none] [] (MX I J T) = ret9 (den (d + 1) 264) 264 14 17 [some (vr 14 0), some (vi x1), none, none, none, none, none, none, none, none, none, none, none, none, none] [] (cal d 241 [vr 14 0, vi 1] (MX I J T)) :=
  (bx_eq [12, 18] (d + 1) 264 3 12 _ _ _).symm.trans rfl
set_option maxRecDepth 100000 in
theorem b264g_17 (d : Nat) (x1 : Int32) (v : Int32) (I : PI) (J : PJ) (T : TL) : den d 264 17 [some (vr 14 0), some (vi x1), none, none, none, none, none, none, none, none, none, none, none, none, none] [vi v] (MX I J T) = some (.inl (some (vi v)), MX I J T) :=
  (bx_eq [12, 18] d 264 1 17 _ _ _).symm.trans rfl
theorem pow3 {o M : Nat} (ho1 : 1 ≤ o) (ho3 : o ≤ 3) (hM : M ≤ 9) : o ^ M < 1000000 := by
  have h1 : o ^ M ≤ 3 ^ M := Nat.pow_le_pow_left ho3 M
  have h2 : 3 ^ M ≤ 3 ^ 9 := Nat.pow_le_pow_right (by omega) hM
  have h3 : (3 : Nat) ^ 9 = 19683 := by decide
  omega
section BSM
variable (d : Nat) (I : PI) (J : PJ) (T : TL) {w h o b : Nat} {cv : Int32}
/-- the reference's memory behind a search -/
def RBm (I : PI) (W g bf ws fd : Nat → Int32) (y : Int32) (Q S : Nat → Int32) : PI := BMm (upA (upA (upA (up3 I 14 0 0 0) 34 1 W) 27 0 g) 28 9 bf) ws fd y Q S
theorem bestM (hg : GW I w h) (hn : I 14 0 24 = nn (w * h)) (hp : 0 < w * h) (hvn : VN I w h o b) (ho1 : 1 ≤ o) (ho3 : o ≤ 3) (h9 : cn (NWt (I 39 0)) (w * h) ≤ 9) (pr had : Nat → Int32) (wd : Int32) (hpr : ∀ k, k < o → ∀ c, c < w * h → VAL I b w h k c = pr (64 * k + c)) (hhad : ∀ k, k < o → I 21 11 k = had k) (hwd : I 14 0 25 = wd) : ∃ (W g bf ws fd : Nat → Int32) (y u4 u5 u6 u7 : Int32) (Q S : Nat → Int32) (x2 x3 : Int32) (p9 p10 p11 p12 p13 p14 : Option AV), cal (d + 16) 264 [vr 14 0, vi cv] (MX I J (TB T b)) = den (d + 16) 264 421 [some (vr 14 0), some (vi cv), some (vi x2), some (vi x3), some (vi u4), some (vi u5), some (vi u6), some (vi u7), some (vi (nn (w * h))), p9, p10, p11, p12, p13, p14] [] (MX (RBm I W g bf ws fd y Q S) J (TB T b)) ∧ RSt (w * h) fd u4 u5 u6 u7 (foB (fun v => LAW v (I 28 6) (I 39 0) w h o wd) (BE pr (w * h) o cv) (fun v => SHO v pr had (w * h) o) (fun v => TS v pr (w * h) o) (I 39 0) o (w * h) 0 (fun _ => -1) none) ∧ ∀ i, i < w * h → ws i = if u4 = 0 then I 28 7 i else fd i := by
  obtain ⟨hw, hh, hw1, hw8, hh1, hh8⟩ := id hg
  have h64 : w * h ≤ 64 := Nat.mul_le_mul hw8 hh8
  have hob := hvn.2.2.2.1
  obtain ⟨W, g, ev, hWv⟩ := valuesM (d + 11) (up3 I 14 0 0 0) J T (w := w) (h := h) (o := o) (b := b) hvn
  have ecnt := countB (d + 16) (up3 I 14 0 0 0) J T (w := w) (h := h) (b := b) (cv := cv) hn h64 (w * h) 0 (by omega)
  have epow := powB (d + 16) (upA (upA (up3 I 14 0 0 0) 34 1 W) 27 0 g) J T (o := o) (b := b) (cv := cv) hob h9 (cn (NWt (I 39 0)) (w * h)) 0 (by omega)
  obtain ⟨bf, ebf, qbf⟩ := beforeB (d + 16) (upA (upA (up3 I 14 0 0 0) 34 1 W) 27 0 g) J T (w := w) (h := h) (b := b) (cv := cv) hn h64 (nn (cn (NWt (I 39 0)) (w * h))) (nn (o ^ cn (NWt (I 39 0)) (w * h))) (w * h) 0 ((upA (upA (up3 I 14 0 0 0) 34 1 W) 27 0 g) 28 9) (by omega) (fun i hi => absurd hi (by omega))
  rw [upA_id] at ebf
  generalize hI5 : upA (upA (upA (up3 I 14 0 0 0) 34 1 W) 27 0 g) 28 9 bf = I5 at ebf
  have g5 : GW I5 w h := by rw [← hI5]; exact hg
  have n5 : I5 14 0 24 = nn (w * h) := by rw [← hI5]; exact hn
  have ob5 : I5 12 b 0 = nn o := by rw [← hI5]; exact hob
  have i39 : I5 39 0 = I 39 0 := by rw [← hI5]; rfl
  have i34 : ∀ k, k < o → ∀ c, c < w * h → I5 34 1 (64 * k + c) = pr (64 * k + c) := fun k hk c hc => by
    rw [← hI5, ← hpr k hk c hc]
    show W (64 * k + c) = _
    rw [hWv k hk c hc]
    rfl
  have i21 : ∀ k, k < o → I5 21 11 k = had k := fun k hk => by rw [← hI5]; exact hhad k hk
  have i286 : I5 28 6 = I 28 6 := by rw [← hI5]; rfl
  have i25 : I5 14 0 25 = wd := by rw [← hI5]; exact hwd
  have i289 : I5 28 9 = bf := by rw [← hI5]; rfl
  have hal := pow3 ho1 ho3 h9
  obtain ⟨ws2, fd2, Q2, S2, u4, u5, u6, u7, y2, p9, p10, p11, p12, p13, p14, ec, qc⟩ := codesB (d + 12) I5 J T (w := w) (h := h) (o := o) (b := b) (cv := cv) g5 n5 ob5 ho1 (by omega) (M := cn (NWt (I 39 0)) (w * h)) (by rw [i39]) hal rfl (nn (cn (NWt (I 39 0)) (w * h))) (o ^ cn (NWt (I 39 0)) (w * h)) 0 none (I5 28 7) (I5 28 10) (I5 28 8) (I5 39 1) 0 0 0 0 (I5 14 0 42) none none none none none none (by omega) rfl
  rw [bm_id] at ec
  obtain ⟨ws3, eb, qb⟩ := backB (d + 16) I5 J T (w := w) (h := h) (b := b) (cv := cv) n5 h64 fd2 Q2 S2 (nn (cn (NWt (I 39 0)) (w * h))) (nn (o ^ cn (NWt (I 39 0)) (w * h))) u4 u5 u6 u7 y2 p9 p10 p11 p12 p13 p14 (w * h) 0 ws2 (by omega) (fun i hi => absurd hi (by omega))
  refine ⟨W, g, bf, ws3, fd2, y2, u4, u5, u6, u7, Q2, S2, nn (cn (NWt (I 39 0)) (w * h)), nn (o ^ cn (NWt (I 39 0)) (w * h)), p9, p10, p11, p12, p13, p14, ?_, ?_, ?_⟩
  · unfold RBm
    rw [hI5, c264, if_pos (by rw [hn, eq0n (by omega)]; omega), b264_18, b264_20]
    refine Eq.trans ecnt ?_
    have hob' : (up3 I 14 0 0 0) 12 b 0 = nn o := hob
    rw [b264_53, if_neg (by
      show ¬ (9 : Int32) < nn (cn (NWt (I 39 0)) (w * h))
      rw [show (9 : Int32) = nn 9 from rfl, nn_lt (by omega) (by have := cn_le (NWt (I 39 0)) (w * h); omega)]; omega), b264_59, hob', if_pos (show nn o ≤ 3 from (nn_le (b := 3) (by omega) (by omega)).mpr ho3), b264_76, ev]
    simp only [ret9]
    rw [b264_80, b264_82]
    refine Eq.trans epow ?_
    rw [b264_107]
    refine Eq.trans ebf ?_
    rw [b264_139, b264_142, b264_145, b264_148, b264_151]
    refine Eq.trans ec ?_
    rw [b264_374]
    exact eb
  · have hE : BE (I5 34 1) (w * h) o cv = BE pr (w * h) o cv := by
      funext v
      unfold BE
      rw [PRS_congr i34]
    have hSS : (fun v => SHO v (I5 34 1) (I5 21 11) (w * h) o) = fun v => SHO v pr had (w * h) o := funext (fun v => SHO_congr i34 i21)
    have hTT : (fun v => TS v (I5 34 1) (w * h) o) = fun v => TS v pr (w * h) o := funext (fun v => TS_congr i34)
    have e := foB_codes (fun v => LAW v (I 28 6) (I 39 0) w h o wd) (BE pr (w * h) o cv) (fun v => SHO v pr had (w * h) o) (fun v => TS v pr (w * h) o) (I 39 0) o (n := w * h) ho1 (w * h) 0 (fun _ => -1) 0 none (by omega)
    rw [← e, Nat.zero_mul]
    rw [i39, i286, i25] at qc
    rw [hE] at qc
    change RSt (w * h) fd2 u4 u5 u6 u7 (itn (fun code st => upB (fun v => LAW v (I 28 6) (I 39 0) w h o wd) (BE pr (w * h) o cv) (fun v => SHO v (I5 34 1) (I5 21 11) (w * h) o) (fun v => TS v (I5 34 1) (w * h) o) (exD (I 39 0) o (cn (NWt (I 39 0)) (w * h)) (w * h) 0 (fun _ => -1) code) st) _ 0 none) at qc
    rw [hSS, hTT] at qc
    exact qc
  · intro i hi
    rw [qb i hi, i289, qbf i hi]
    rfl
end BSM
