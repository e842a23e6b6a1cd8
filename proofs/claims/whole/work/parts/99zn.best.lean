/-! The best of few cells: the reference's search; the call best -/
section RFC
variable (d : Nat) (I : PI) (J : PJ) (T : TL) {w h o b : Nat} {cv : Int32}
theorem countB (hn : I 14 0 24 = nn (w * h)) (h64 : w * h ≤ 64) : ∀ m c, c + m = w * h → den d 264 22 [some (vr 14 0), some (vi cv), some (vi (nn (cn (NWt (I 39 0)) c))), some (vi (nn c)), none, none, none, none, none, none, none, none, none, none, none] [] (MX I J (TB T b)) = den d 264 53 [some (vr 14 0), some (vi cv), some (vi (nn (cn (NWt (I 39 0)) (w * h)))), some (vi (nn (w * h))), none, none, none, none, none, none, none, none, none, none, none] [] (MX I J (TB T b)) := by
  intro m
  induction m with
  | zero =>
    intro c hc
    have hcn : c = w * h := by omega
    subst hcn
    rw [b264_22, hn, if_pos (Int32.le_refl _)]
  | succ m ih =>
    intro c hc
    have hsu := cn_succ (NWt (I 39 0)) c
    rw [b264_22, hn, if_neg (by rw [nn_le (by omega) (by omega)]; omega), b264_30, if_pos (nn_inR (by omega) (by omega)), nn_idx (by omega)]
    by_cases z : I 39 0 c = 0
    · rw [if_pos (show NWt (I 39 0) c = true from decide_eq_true z)] at hsu
      rw [if_pos z, b264_44, b264_45, b264_47, b264_50, nn_add1, nn_add1, ← hsu]
      exact ih (c + 1) (by omega)
    · rw [show NWt (I 39 0) c = false from decide_eq_false z, if_neg (by decide)] at hsu
      rw [if_neg z, b264_40, b264_45, b264_47, b264_50, Int32.add_zero, nn_add1, show cn (NWt (I 39 0)) c = cn (NWt (I 39 0)) (c + 1) by omega]
      exact ih (c + 1) (by omega)
theorem powB (hob : I 12 b 0 = nn o) {M : Nat} (hM : M ≤ 9) : ∀ m k, k + m = M → den d 264 85 [some (vr 14 0), some (vi cv), some (vi (nn M)), some (vi (nn (o ^ k))), some (vi (nn k)), none, none, none, none, none, none, none, none, none, none] [] (MX I J (TB T b)) = den d 264 107 [some (vr 14 0), some (vi cv), some (vi (nn M)), some (vi (nn (o ^ M))), some (vi (nn M)), none, none, none, none, none, none, none, none, none, none] [] (MX I J (TB T b)) := by
  intro m
  induction m with
  | zero =>
    intro k hk
    rw [show k = M by omega, b264_85, if_pos (Int32.le_refl _)]
  | succ m ih =>
    intro k hk
    rw [b264_85, if_neg (by rw [nn_le (by omega) (by omega)]; omega), b264_91, hob, nn_mul, ← Nat.pow_succ, b264_101, b264_104, nn_add1]
    exact ih (k + 1) (by omega)
theorem beforeB (hn : I 14 0 24 = nn (w * h)) (h64 : w * h ≤ 64) (x2 x3 : Int32) : ∀ m c (bf : Nat → Int32), c + m = w * h → (∀ i, i < c → bf i = I 28 7 i) → ∃ bf2 : Nat → Int32, den d 264 110 [some (vr 14 0), some (vi cv), some (vi x2), some (vi x3), some (vi (nn c)), none, none, none, none, none, none, none, none, none, none] [] (MX (upA I 28 9 bf) J (TB T b)) = den d 264 139 [some (vr 14 0), some (vi cv), some (vi x2), some (vi x3), some (vi (nn (w * h))), none, none, none, none, none, none, none, none, none, none] [] (MX (upA I 28 9 bf2) J (TB T b)) ∧ ∀ i, i < w * h → bf2 i = I 28 7 i := by
  intro m
  induction m with
  | zero =>
    intro c bf hc hb
    have hcn : c = w * h := by omega
    subst hcn
    have e24 : (upA I 28 9 bf) 14 0 24 = nn (w * h) := hn
    exact ⟨bf, by rw [b264_110, e24, if_pos (Int32.le_refl _)], hb⟩
  | succ m ih =>
    intro c bf hc hb
    have e24 : (upA I 28 9 bf) 14 0 24 = nn (w * h) := hn
    have e7 : (upA I 28 9 bf) 28 7 c = I 28 7 c := rfl
    have r64 : inR (nn c) 64 = true := nn_inR (by omega) (by omega)
    obtain ⟨bf2, e, q⟩ := ih (c + 1) (wu bf c (I 28 7 c)) (by omega) (fun i hi => by
      unfold wu
      by_cases z : i = c
      · rw [if_pos z, z]
      · rw [if_neg z]; exact hb i (by omega))
    refine ⟨bf2, ?_, q⟩
    rw [b264_110, e24, if_neg (by rw [nn_le (by omega) (by omega)]; omega), b264_119, if_pos r64, if_pos r64, nn_idx (by omega), e7, upA_up3, b264_133, b264_136, nn_add1]
    exact e
theorem backB (hn : I 14 0 24 = nn (w * h)) (h64 : w * h ≤ 64) (fd Q S : Nat → Int32) (x2 x3 x4 x5 x6 x7 y : Int32) (o9 o10 o11 o12 o13 o14 : Option AV) : ∀ m c (ws : Nat → Int32), c + m = w * h → (∀ i, i < c → ws i = if x4 = 0 then I 28 9 i else fd i) → ∃ ws2 : Nat → Int32, den d 264 377 [some (vr 14 0), some (vi cv), some (vi x2), some (vi x3), some (vi x4), some (vi x5), some (vi x6), some (vi x7), some (vi (nn c)), o9, o10, o11, o12, o13, o14] [] (MX (BMm I ws fd y Q S) J (TB T b)) = den d 264 421 [some (vr 14 0), some (vi cv), some (vi x2), some (vi x3), some (vi x4), some (vi x5), some (vi x6), some (vi x7), some (vi (nn (w * h))), o9, o10, o11, o12, o13, o14] [] (MX (BMm I ws2 fd y Q S) J (TB T b)) ∧ ∀ i, i < w * h → ws2 i = if x4 = 0 then I 28 9 i else fd i := by
  intro m
  induction m with
  | zero =>
    intro c ws hc hb
    have hcn : c = w * h := by omega
    subst hcn
    have e24 : (BMm I ws fd y Q S) 14 0 24 = nn (w * h) := hn
    exact ⟨ws, by rw [b264_377, e24, if_pos (Int32.le_refl _)], hb⟩
  | succ m ih =>
    intro c ws hc hb
    have e24 : (BMm I ws fd y Q S) 14 0 24 = nn (w * h) := hn
    have e9 : (BMm I ws fd y Q S) 28 9 c = I 28 9 c := rfl
    have e10 : (BMm I ws fd y Q S) 28 10 c = fd c := rfl
    have r64 : inR (nn c) 64 = true := nn_inR (by omega) (by omega)
    obtain ⟨ws2, e, q⟩ := ih (c + 1) (wu ws c (if x4 = 0 then I 28 9 c else fd c)) (by omega) (fun i hi => by
      unfold wu
      by_cases z : i = c
      · rw [if_pos z, z]
      · rw [if_neg z]; exact hb i (by omega))
    refine ⟨ws2, ?_, q⟩
    refine Eq.trans ?_ e
    rw [b264_377, e24, if_neg (by rw [nn_le (by omega) (by omega)]; omega), b264_386]
    by_cases z : x4 = 0
    · rw [if_pos z, if_pos z, b264_407, if_pos r64, nn_idx (by omega), e9, b264_414, if_pos r64, nn_idx (by omega), bm_ws, b264_415, b264_418, nn_add1]
    · rw [if_neg z, if_neg z, b264_397, if_pos r64, nn_idx (by omega), e10, b264_414, if_pos r64, nn_idx (by omega), bm_ws, b264_415, b264_418, nn_add1]
theorem codesB (hg : GW I w h) (hn : I 14 0 24 = nn (w * h)) (hob : I 12 b 0 = nn o) (ho1 : 1 ≤ o) (ho6 : o ≤ 6) {M all : Nat} (hM : cn (NWt (I 39 0)) (w * h) = M) (hal : all < 1000000) (hall : o ^ M = all) (x2 : Int32) : ∀ q code (st : BST) (ws fd Q S : Nat → Int32) (x4 x5 x6 x7 y : Int32) (o9 o10 o11 o12 o13 o14 : Option AV), code + q = all → RSt (w * h) fd x4 x5 x6 x7 st → ∃ (ws2 fd2 Q2 S2 : Nat → Int32) (u4 u5 u6 u7 y2 : Int32) (p9 p10 p11 p12 p13 p14 : Option AV), den (d + 4) 264 154 [some (vr 14 0), some (vi cv), some (vi x2), some (vi (nn all)), some (vi x4), some (vi x5), some (vi x6), some (vi x7), some (vi (nn code)), o9, o10, o11, o12, o13, o14] [] (MX (BMm I ws fd y Q S) J (TB T b)) = den (d + 4) 264 374 [some (vr 14 0), some (vi cv), some (vi x2), some (vi (nn all)), some (vi u4), some (vi u5), some (vi u6), some (vi u7), some (vi (nn all)), p9, p10, p11, p12, p13, p14] [] (MX (BMm I ws2 fd2 y2 Q2 S2) J (TB T b)) ∧ RSt (w * h) fd2 u4 u5 u6 u7 (itn (fun code st => upB (fun v => LAW v (I 28 6) (I 39 0) w h o (I 14 0 25)) (BE (I 34 1) (w * h) o cv) (fun v => SHO v (I 34 1) (I 21 11) (w * h) o) (fun v => TS v (I 34 1) (w * h) o) (exD (I 39 0) o M (w * h) 0 (fun _ => -1) code) st) q code st) := by
  obtain ⟨hw, hh, hw1, hw8, hh1, hh8⟩ := id hg
  have h64 : w * h ≤ 64 := Nat.mul_le_mul hw8 hh8
  intro q
  induction q with
  | zero =>
    intro code st ws fd Q S x4 x5 x6 x7 y o9 o10 o11 o12 o13 o14 hq hS
    refine ⟨ws, fd, Q, S, x4, x5, x6, x7, y, o9, o10, o11, o12, o13, o14, ?_, by rw [itn_z]; exact hS⟩
    rw [show code = all by omega, b264_154, if_pos (Int32.le_refl _)]
  | succ q ih =>
    intro code st ws fd Q S x4 x5 x6 x7 y o9 o10 o11 o12 o13 o14 hq hS
    have e24 : (BMm I ws fd y Q S) 14 0 24 = nn (w * h) := hn
    obtain ⟨ws2, x9, x10, ef, qf⟩ := fillB (d + 4) I J T (b := b) (o := o) (wt := I 39 0) (cv := cv) (x2 := x2) hn h64 hob ho1 ho6 (fun c hc => rfl) hM (show code < 1000000 by omega) fd Q S (nn all) x4 x5 x6 x7 y o11 o12 o13 o14 (w * h) ws (Nat.le_refl _) (fun i h1 h2 => absurd h2 (by omega))
    obtain ⟨fd3, Q3, S3, u4, u5, u6, u7, y3, p9, p10, p11, p12, p13, p14, ec, qc⟩ := codeB d I J T (b := b) (o := o) (wt := I 39 0) (cv := cv) (x2 := x2) hg hn hob ho1 ho6 rfl (D := exD (I 39 0) o M (w * h) 0 (fun _ => -1) code) (fun c hc => by
      rw [exD_at (I 39 0) o M (w * h) (w * h) 0 (fun _ => -1) code c (by omega)]
      split
      · exact .inr ⟨_, Nat.mod_lt _ (by omega), rfl⟩
      · exact .inl rfl) st ws2 fd Q S qf (nn all) x4 x5 x6 x7 x9 x10 y hS o11 o12 o13 o14
    obtain ⟨ws4, fd4, Q4, S4, v4, v5, v6, v7, y4, r9, r10, r11, r12, r13, r14, el, ql⟩ := ih (code + 1) _ ws2 fd3 Q3 S3 u4 u5 u6 u7 y3 p9 p10 p11 p12 p13 p14 (by omega) qc
    refine ⟨ws4, fd4, Q4, S4, v4, v5, v6, v7, y4, r9, r10, r11, r12, r13, r14, ?_, by rw [itn_su]; exact ql⟩
    have e1 : nn (w * h) - 1 = ii (((w * h : Nat) : Int) - 1) := by rw [← ii_nat]; exact ii_sub _ 1
    rw [hM, Nat.sub_self, Nat.pow_zero, Nat.div_one] at ef
    rw [b264_154, if_neg (by rw [nn_le (by omega) (by omega)]; omega), b264_160, b264_164, e24, e1]
    exact ef.trans (ec.trans el)
end RFC
