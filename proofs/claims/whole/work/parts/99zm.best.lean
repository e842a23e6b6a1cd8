/-! The best of few cells: the reference -/
def BMm (I : PI) (ws fd : Nat → Int32) (y : Int32) (Q S : Nat → Int32) : PI := up3 (upA (upA (HM I Q S) 28 7 ws) 28 10 fd) 14 0 42 y
theorem bm_ws (I : PI) (ws fd : Nat → Int32) (y : Int32) (Q S : Nat → Int32) (i : Nat) (v : Int32) : up3 (BMm I ws fd y Q S) 28 7 i v = BMm I (wu ws i v) fd y Q S := by
  unfold BMm
  funext a b c
  unfold up3 upA wu
  by_cases h1 : a = 28
  · subst h1; simp
    by_cases h2 : b = 7
    · subst h2; simp
    · simp [h2]
  · simp [h1]
theorem bm_fd (I : PI) (ws fd : Nat → Int32) (y : Int32) (Q S : Nat → Int32) (i : Nat) (v : Int32) : up3 (BMm I ws fd y Q S) 28 10 i v = BMm I ws (wu fd i v) y Q S := by
  unfold BMm
  funext a b c
  unfold up3 upA wu
  by_cases h1 : a = 28
  · subst h1; simp
    by_cases h2 : b = 10
    · subst h2; simp
    · simp [h2]
  · simp [h1]
theorem bm_hm (I : PI) (ws fd : Nat → Int32) (y : Int32) (Q S Q2 S2 : Nat → Int32) (v : Int32) : up3 (HM (BMm I ws fd y Q S) Q2 S2) 14 0 42 v = BMm I ws fd v Q2 S2 := by
  unfold BMm HM
  funext a b c
  unfold up3 upA
  by_cases h1 : a = 14
  · subst h1; simp
    by_cases h2 : b = 0
    · subst h2; simp
      by_cases h3 : c = 42
      · subst h3; simp
      · simp [h3]
    · simp [h2]
  · simp [h1]
    by_cases h4 : a = 28
    · subst h4; simp
      by_cases h5 : b = 10
      · subst h5; simp
      · simp [h5]
        by_cases h6 : b = 7
        · subst h6; simp
        · simp [h6]
          by_cases h7 : b = 8
          · subst h7; simp
          · simp [h7]
    · simp [h4]
      by_cases h8 : a = 39
      · subst h8; simp
        by_cases h9 : b = 1
        · subst h9; simp
        · simp [h9]
      · simp [h8]
theorem bm_id (I : PI) : BMm I (I 28 7) (I 28 10) (I 14 0 42) (I 28 8) (I 39 1) = I := by
  unfold BMm HM
  rw [upA_id, upA_id, upA_id, upA_id]
  funext a b c
  unfold up3
  by_cases h1 : a = 14
  · subst h1; simp
    by_cases h2 : b = 0
    · subst h2; simp
      intro h3
      rw [h3]
    · simp [h2]
  · simp [h1]
/-- drawings that are one on the ground weigh the same -/
theorem TS_ws {ws v pr : Nat → Int32} {n o : Nat} (e : ∀ c, c < n → ws c = v c) : TS ws pr n o = TS v pr n o := sm_congr o 0 0 (fun k _ _ => SU_congr e (fun _ _ => rfl))
theorem SHO_ws {ws v pr had : Nat → Int32} {n o : Nat} (e : ∀ c, c < n → ws c = v c) : SHO ws pr had n o = SHO v pr had n o := sm_congr o 0 0 (fun k _ _ => by rw [SU_congr e (fun _ _ => rfl)])
theorem EN_ws {ws v pr : Nat → Int32} {n o q : Nat} (e : ∀ c, c < n → ws c = v c) : EN ws pr n o q ↔ EN v pr n o q := by
  unfold EN
  rw [SU_congr (ws := ws) (ws2 := v) e (fun _ _ => rfl), SU_congr (ws := ws) (ws2 := v) (x := nn q) e (fun _ _ => rfl)]
  constructor
  · intro ⟨⟨c, c1, c2⟩, h⟩; exact ⟨⟨c, c1, by rw [← e c c1]; exact c2⟩, h⟩
  · intro ⟨⟨c, c1, c2⟩, h⟩; exact ⟨⟨c, c1, by rw [e c c1]; exact c2⟩, h⟩
theorem PRS_ws {ws v pr : Nat → Int32} {n o : Nat} (e : ∀ c, c < n → ws c = v c) : PRS ws pr n o = PRS v pr n o := by
  unfold PRS
  apply itn_congr
  intro k a _ _
  exact sm_congr o 0 a (fun q _ _ => bi_congr ⟨fun y => ⟨y.1, (EN_ws e).mp y.2⟩, fun y => ⟨y.1, (EN_ws e).mpr y.2⟩⟩)
theorem LAW_ws {ws v kp wt : Nat → Int32} {w h o : Nat} {wd : Int32} (hw : 1 ≤ w) (ho6 : o ≤ 6) (hr : ∀ c, c < w * h → ownr o (v c)) (e : ∀ c, c < w * h → ws c = v c) : LAW ws kp wt w h o wd ↔ LAW v kp wt w h o wd := by
  have hr2 : ∀ c, c < w * h → ownr o (ws c) := fun c hc => by rw [e c hc]; exact hr c hc
  rw [LAW_iff ho6 hr, LAW_iff ho6 hr2]
  have hf : ∀ k, LFP w h wd (FL ws k) ↔ LFP w h wd (FL v k) := fun k => LFP_iff hw (fun c hc => by unfold FL; rw [e c hc])
  constructor
  · intro ⟨a, b, c⟩
    exact ⟨fun i hi y => a i hi ⟨by rw [e i hi]; exact y.1, y.2⟩, fun i hi y => b i hi ⟨y.1, by rw [e i hi]; exact y.2⟩, fun k hk => (hf k).mp (c k hk)⟩
  · intro ⟨a, b, c⟩
    exact ⟨fun i hi y => a i hi ⟨by rw [← e i hi]; exact y.1, y.2⟩, fun i hi y => b i hi ⟨y.1, by rw [← e i hi]; exact y.2⟩, fun k hk => (hf k).mpr (c k hk)⟩
def RSt (n : Nat) (fd : Nat → Int32) (x4 x5 x6 x7 : Int32) (st : BST) : Prop := match st with
  | none => x4 = 0
  | some q => x4 = 1 ∧ x5 = q.1 ∧ x6 = q.2.1 ∧ x7 = q.2.2.1 ∧ ∀ c, c < n → fd c = q.2.2.2 c
section RFB
variable (d : Nat) (I : PI) (J : PJ) (T : TL) {w h o b : Nat} {wt : Nat → Int32} {cv x2 : Int32}
theorem fillB (hn : I 14 0 24 = nn (w * h)) (h64 : w * h ≤ 64) (hob : I 12 b 0 = nn o) (ho1 : 1 ≤ o) (ho6 : o ≤ 6) (hwt : ∀ c, c < w * h → I 39 0 c = wt c) {M code : Nat} (hM : cn (NWt wt) (w * h) = M) (hcode : code < 1000000) (fd Q S : Nat → Int32) (x3 x4 x5 x6 x7 y : Int32) (o11 o12 o13 o14 : Option AV) : ∀ c (ws : Nat → Int32), c ≤ w * h → (∀ i, c ≤ i → i < w * h → ws i = exD wt o M (w * h) 0 (fun _ => -1) code i) → ∃ (ws2 : Nat → Int32) (x9 x10 : Int32), den d 264 172 [some (vr 14 0), some (vi cv), some (vi x2), some (vi x3), some (vi x4), some (vi x5), some (vi x6), some (vi x7), some (vi (nn code)), some (vi (nn (code / o ^ (M - cn (NWt wt) c)))), some (vi (ii ((c : Int) - 1))), o11, o12, o13, o14] [] (MX (BMm I ws fd y Q S) J (TB T b)) = den d 264 233 [some (vr 14 0), some (vi cv), some (vi x2), some (vi x3), some (vi x4), some (vi x5), some (vi x6), some (vi x7), some (vi (nn code)), some (vi x9), some (vi x10), o11, o12, o13, o14] [] (MX (BMm I ws2 fd y Q S) J (TB T b)) ∧ ∀ i, i < w * h → ws2 i = exD wt o M (w * h) 0 (fun _ => -1) code i := by
  intro c
  induction c with
  | zero =>
    intro ws hc hw
    refine ⟨ws, nn (code / o ^ (M - cn (NWt wt) 0)), ii (((0 : Nat) : Int) - 1), ?_, fun i hi => hw i (by omega) hi⟩
    rw [b264_172, if_pos (show ii (((0 : Nat) : Int) - 1) < 0 from (by decide : (-1 : Int32) < 0))]
  | succ c ih =>
    intro ws hc hw
    have hsu := cn_succ (NWt wt) c
    have hmono := cn_mono2 (NWt wt) hc
    have e1 : ii (((c + 1 : Nat) : Int) - 1) = nn c := by rw [show ((c + 1 : Nat) : Int) - 1 = (c : Int) by omega, ii_nat]
    have r64 : inR (nn c) 64 = true := nn_inR (by omega) (by omega)
    have e39 : ∀ ws : Nat → Int32, (BMm I ws fd y Q S) 39 0 c = wt c := fun ws => hwt c (by omega)
    have e12 : ∀ ws : Nat → Int32, (BMm I ws fd y Q S) 12 b 0 = nn o := fun ws => hob
    have o0 : ¬ nn o = 0 := by rw [eq0n (by omega)]; omega
    have eD := exD_at wt o M (w * h) (w * h) 0 (fun _ => -1) code c (by omega)
    have back : nn c + -1 = ii ((c : Int) - 1) := by rw [← ii_nat, show (-1 : Int32) = ii (-1) from rfl, ii_add]; rfl
    rw [e1, b264_172, if_neg (i32_nlt.mpr (nn_nonneg (by omega))), b264_177, if_pos r64, nn_idx (by omega), bm_ws, b264_185, if_pos r64, nn_idx (by omega), e39]
    by_cases z : wt c = 0
    · rw [if_pos (show NWt wt c = true from decide_eq_true z)] at hsu
      rw [if_pos ⟨by omega, by omega, z⟩] at eD
      have hq : code / o ^ (M - cn (NWt wt) (c + 1)) ≤ code := Nat.div_le_self _ _
      have hdv : code / o ^ (M - cn (NWt wt) (c + 1)) / o = code / o ^ (M - cn (NWt wt) c) := by
        rw [Nat.div_div_eq_div_mul, ← Nat.pow_succ, show (M - cn (NWt wt) (c + 1)).succ = M - cn (NWt wt) c by omega]
      rw [if_pos z, b264_198, e12, if_neg o0, if_pos r64, nn_idx (by omega), bm_ws, wu_wu, b264_215, e12, if_neg o0, nn_rem (by omega) (by omega), nn_div (by omega) (by omega), hdv, b264_227, b264_230, back]
      refine ih _ (by omega) (fun i h1 h2 => ?_)
      unfold wu
      by_cases x : i = c
      · rw [if_pos x, x, eD]
      · rw [if_neg x]; exact hw i (by omega) h2
    · rw [show NWt wt c = false from decide_eq_false z, if_neg (by decide)] at hsu
      rw [if_neg (fun u => z u.2.2)] at eD
      rw [if_neg z, b264_195, b264_227, b264_230, back, show cn (NWt wt) (c + 1) = cn (NWt wt) c by omega]
      refine ih _ (by omega) (fun i h1 h2 => ?_)
      unfold wu
      by_cases x : i = c
      · rw [if_pos x, x, eD]
      · rw [if_neg x]; exact hw i (by omega) h2
theorem copyB (hn : I 14 0 24 = nn (w * h)) (h64 : w * h ≤ 64) (ws Q S : Nat → Int32) (x3 x4 x5 x6 x7 x8 y : Int32) (o9 o10 o11 o12 o13 : Int32) : ∀ m c (fd : Nat → Int32), c + m = w * h → (∀ i, i < c → fd i = ws i) → ∃ fd2 : Nat → Int32, den d 264 339 [some (vr 14 0), some (vi cv), some (vi x2), some (vi x3), some (vi x4), some (vi x5), some (vi x6), some (vi x7), some (vi x8), some (vi o9), some (vi o10), some (vi o11), some (vi o12), some (vi o13), some (vi (nn c))] [] (MX (BMm I ws fd y Q S) J (TB T b)) = den d 264 368 [some (vr 14 0), some (vi cv), some (vi x2), some (vi x3), some (vi x4), some (vi x5), some (vi x6), some (vi x7), some (vi x8), some (vi o9), some (vi o10), some (vi o11), some (vi o12), some (vi o13), some (vi (nn (w * h)))] [] (MX (BMm I ws fd2 y Q S) J (TB T b)) ∧ ∀ i, i < w * h → fd2 i = ws i := by
  intro m
  induction m with
  | zero =>
    intro c fd hc hf
    have hcn : c = w * h := by omega
    subst hcn
    have e24 : (BMm I ws fd y Q S) 14 0 24 = nn (w * h) := hn
    refine ⟨fd, ?_, hf⟩
    rw [b264_339, e24, if_pos (Int32.le_refl _)]
  | succ m ih =>
    intro c fd hc hf
    have e24 : (BMm I ws fd y Q S) 14 0 24 = nn (w * h) := hn
    have r64 : inR (nn c) 64 = true := nn_inR (by omega) (by omega)
    have e7 : (BMm I ws fd y Q S) 28 7 c = ws c := rfl
    obtain ⟨fd2, e, q⟩ := ih (c + 1) (wu fd c (ws c)) (by omega) (fun i hi => by
      unfold wu
      by_cases z : i = c
      · rw [if_pos z, z]
      · rw [if_neg z]; exact hf i (by omega))
    refine ⟨fd2, ?_, q⟩
    rw [b264_339, e24, if_neg (by rw [nn_le (by omega) (by omega)]; omega), b264_348, if_pos r64, if_pos r64, nn_idx (by omega), e7, bm_fd, b264_362, b264_365, nn_add1]
    exact e
theorem codeB (hg : GW I w h) (hn : I 14 0 24 = nn (w * h)) (hob : I 12 b 0 = nn o) (ho1 : 1 ≤ o) (ho6 : o ≤ 6) (hwt : I 39 0 = wt) {D : Nat → Int32} (hD : ∀ c, c < w * h → ownr o (D c)) (st : BST) (ws fd Q S : Nat → Int32) (hws : ∀ i, i < w * h → ws i = D i) (x3 x4 x5 x6 x7 x9 x10 y : Int32) {code : Nat} (hS : RSt (w * h) fd x4 x5 x6 x7 st) (o11 o12 o13 o14 : Option AV) : ∃ (fd2 Q2 S2 : Nat → Int32) (u4 u5 u6 u7 y2 : Int32) (p9 p10 p11 p12 p13 p14 : Option AV), den (d + 4) 264 233 [some (vr 14 0), some (vi cv), some (vi x2), some (vi x3), some (vi x4), some (vi x5), some (vi x6), some (vi x7), some (vi (nn code)), some (vi x9), some (vi x10), o11, o12, o13, o14] [] (MX (BMm I ws fd y Q S) J (TB T b)) = den (d + 4) 264 154 [some (vr 14 0), some (vi cv), some (vi x2), some (vi x3), some (vi u4), some (vi u5), some (vi u6), some (vi u7), some (vi (nn (code + 1))), p9, p10, p11, p12, p13, p14] [] (MX (BMm I ws fd2 y2 Q2 S2) J (TB T b)) ∧ RSt (w * h) fd2 u4 u5 u6 u7 (upB (fun v => LAW v (I 28 6) wt w h o (I 14 0 25)) (BE (I 34 1) (w * h) o cv) (fun v => SHO v (I 34 1) (I 21 11) (w * h) o) (fun v => TS v (I 34 1) (w * h) o) D st) := by
  obtain ⟨hw, hh, hw1, hw8, hh1, hh8⟩ := id hg
  have h64 : w * h ≤ 64 := Nat.mul_le_mul hw8 hh8
  have pm := prsM (d + 1) (n := w * h) (o := o) (b := b) (BMm I ws fd y Q S) J T hn h64 hob ho6
  have sm1 := shoM (d + 2) (n := w * h) (o := o) (b := b) (BMm I ws fd y Q S) J T hn h64 hob ho6
  have tm := totM (d + 2) (n := w * h) (o := o) (b := b) (BMm I ws fd y Q S) J T hn h64 hob ho6
  change cal (d + 3) 246 _ _ = some (.inl (some (vi (PRS ws (I 34 1) (w * h) o))), _) at pm
  change cal (d + 3) 244 _ _ = some (.inl (some (vi (SHO ws (I 34 1) (I 21 11) (w * h) o))), _) at sm1
  change cal (d + 3) 243 _ _ = some (.inl (some (vi (TS ws (I 34 1) (w * h) o))), _) at tm
  rw [PRS_ws hws] at pm
  rw [SHO_ws hws] at sm1
  rw [TS_ws hws] at tm
  have e0 : den (d + 4) 264 233 [some (vr 14 0), some (vi cv), some (vi x2), some (vi x3), some (vi x4), some (vi x5), some (vi x6), some (vi x7), some (vi (nn code)), some (vi x9), some (vi x10), o11, o12, o13, o14] [] (MX (BMm I ws fd y Q S) J (TB T b)) = den (d + 4) 264 259 [some (vr 14 0), some (vi cv), some (vi x2), some (vi x3), some (vi x4), some (vi x5), some (vi x6), some (vi x7), some (vi (nn code)), some (vi x9), some (vi (BE (I 34 1) (w * h) o cv D)), some (vi (SHO D (I 34 1) (I 21 11) (w * h) o)), some (vi (TS D (I 34 1) (w * h) o)), o13, o14] [] (MX (BMm I ws fd y Q S) J (TB T b)) := by
    have e1 : den (d + 4) 264 233 [some (vr 14 0), some (vi cv), some (vi x2), some (vi x3), some (vi x4), some (vi x5), some (vi x6), some (vi x7), some (vi (nn code)), some (vi x9), some (vi x10), o11, o12, o13, o14] [] (MX (BMm I ws fd y Q S) J (TB T b)) = den (d + 4) 264 247 [some (vr 14 0), some (vi cv), some (vi x2), some (vi x3), some (vi x4), some (vi x5), some (vi x6), some (vi x7), some (vi (nn code)), some (vi x9), some (vi (BE (I 34 1) (w * h) o cv D)), o11, o12, o13, o14] [] (MX (BMm I ws fd y Q S) J (TB T b)) := by
      unfold BE
      rw [b264_233]
      by_cases z : cv = 0
      · rw [if_pos z, if_pos z, b264_244, b264_245]
      · rw [if_neg z, if_neg z, b264_237, pm]
        simp only [ret9]
        rw [b264_241, b264_245]
    rw [e1, b264_247, sm1]
    simp only [ret9]
    rw [b264_251, b264_253, tm]
    simp only [ret9]
    rw [b264_257]
  generalize hE : BE (I 34 1) (w * h) o cv D = E at e0
  generalize hSS : SHO D (I 34 1) (I 21 11) (w * h) o = SS at e0
  generalize hTT : TS D (I 34 1) (w * h) o = TT at e0
  have no : ¬ BTT st E SS TT → den (d + 4) 264 303 [some (vr 14 0), some (vi cv), some (vi x2), some (vi x3), some (vi x4), some (vi x5), some (vi x6), some (vi x7), some (vi (nn code)), some (vi x9), some (vi E), some (vi SS), some (vi TT), o13, o14] [] (MX (BMm I ws fd y Q S) J (TB T b)) = den (d + 4) 264 154 [some (vr 14 0), some (vi cv), some (vi x2), some (vi x3), some (vi x4), some (vi x5), some (vi x6), some (vi x7), some (vi (nn (code + 1))), some (vi x9), some (vi E), some (vi SS), some (vi TT), some (vi 0), o14] [] (MX (BMm I ws fd y Q S) J (TB T b)) ∧ RSt (w * h) fd x4 x5 x6 x7 (upB (fun v => LAW v (I 28 6) wt w h o (I 14 0 25)) (BE (I 34 1) (w * h) o cv) (fun v => SHO v (I 34 1) (I 21 11) (w * h) o) (fun v => TS v (I 34 1) (w * h) o) D st) := by
    intro hb
    constructor
    · rw [b264_303, b264_304, b264_306, if_pos rfl, b264_368, b264_371, nn_add1]
    · rw [upB0 _ _ _ _ (fun z => hb (by have := z.1; rw [hE, hSS, hTT] at this; exact this))]
      exact hS
  have NO : ¬ BTT st E SS TT → ∃ (fd2 Q2 S2 : Nat → Int32) (u4 u5 u6 u7 y2 : Int32) (p9 p10 p11 p12 p13 p14 : Option AV), den (d + 4) 264 303 [some (vr 14 0), some (vi cv), some (vi x2), some (vi x3), some (vi x4), some (vi x5), some (vi x6), some (vi x7), some (vi (nn code)), some (vi x9), some (vi E), some (vi SS), some (vi TT), o13, o14] [] (MX (BMm I ws fd y Q S) J (TB T b)) = den (d + 4) 264 154 [some (vr 14 0), some (vi cv), some (vi x2), some (vi x3), some (vi u4), some (vi u5), some (vi u6), some (vi u7), some (vi (nn (code + 1))), p9, p10, p11, p12, p13, p14] [] (MX (BMm I ws fd2 y2 Q2 S2) J (TB T b)) ∧ RSt (w * h) fd2 u4 u5 u6 u7 (upB (fun v => LAW v (I 28 6) wt w h o (I 14 0 25)) (BE (I 34 1) (w * h) o cv) (fun v => SHO v (I 34 1) (I 21 11) (w * h) o) (fun v => TS v (I 34 1) (w * h) o) D st) := fun hb => ⟨fd, Q, S, x4, x5, x6, x7, y, some (vi x9), some (vi E), some (vi SS), some (vi TT), some (vi 0), o14, (no hb).1, (no hb).2⟩
  have GO : BTT st E SS TT → ∃ (fd2 Q2 S2 : Nat → Int32) (u4 u5 u6 u7 y2 : Int32) (p9 p10 p11 p12 p13 p14 : Option AV), den (d + 4) 264 299 [some (vr 14 0), some (vi cv), some (vi x2), some (vi x3), some (vi x4), some (vi x5), some (vi x6), some (vi x7), some (vi (nn code)), some (vi x9), some (vi E), some (vi SS), some (vi TT), o13, o14] [] (MX (BMm I ws fd y Q S) J (TB T b)) = den (d + 4) 264 154 [some (vr 14 0), some (vi cv), some (vi x2), some (vi x3), some (vi u4), some (vi u5), some (vi u6), some (vi u7), some (vi (nn (code + 1))), p9, p10, p11, p12, p13, p14] [] (MX (BMm I ws fd2 y2 Q2 S2) J (TB T b)) ∧ RSt (w * h) fd2 u4 u5 u6 u7 (upB (fun v => LAW v (I 28 6) wt w h o (I 14 0 25)) (BE (I 34 1) (w * h) o cv) (fun v => SHO v (I 34 1) (I 21 11) (w * h) o) (fun v => TS v (I 34 1) (w * h) o) D st) := by
    intro hb
    obtain ⟨v, a, hv4, hBS⟩ := BS_ex ws (I 28 6) (I 39 0) w h o (I 14 0 25)
    have hlaw := BS_law hBS
    rw [LAW_ws hw1 ho6 hD hws] at hlaw
    obtain ⟨Q2, S2, yy, em, -⟩ := barM d (w := w) (h := h) (o := o) (b := b) (v := v) (a := a) (BMm I ws fd y Q S) J T hg hn hob ho6 hBS
    rw [bm_hm] at em
    by_cases hv : v = 0
    · have hL := hlaw.mp hv
      rw [hwt] at hL
      obtain ⟨fd2, ec, qc⟩ := copyB (d + 4) I J T (b := b) (cv := cv) (x2 := x2) hn h64 ws Q2 S2 x3 1 E SS TT (nn code) yy x9 E SS TT 1 (w * h) 0 fd (by omega) (fun i hi => absurd hi (by omega))
      refine ⟨fd2, Q2, S2, 1, E, SS, TT, yy, some (vi x9), some (vi E), some (vi SS), some (vi TT), some (vi 1), some (vi (nn (w * h))), ?_, ?_⟩
      · rw [b264_299, b264_304, b264_306, if_neg (by decide), b264_311, em]
        simp only [ret9]
        rw [b264_315, if_pos (by rw [hv]; rfl), b264_321, b264_324, b264_328, b264_332, b264_336]
        refine Eq.trans ec ?_
        rw [b264_368, b264_371, nn_add1]
      · rw [upB1 _ _ _ _ ⟨by rw [hE, hSS, hTT]; exact hb, hL⟩, hE, hSS, hTT]
        exact ⟨rfl, rfl, rfl, rfl, fun c hc => (qc c hc).trans (hws c hc)⟩
    · refine ⟨fd, Q2, S2, x4, x5, x6, x7, yy, some (vi x9), some (vi E), some (vi SS), some (vi TT), some (vi 1), o14, ?_, ?_⟩
      · rw [b264_299, b264_304, b264_306, if_neg (by decide), b264_311, em]
        simp only [ret9]
        rw [b264_315, if_neg (by rw [eq0n (by omega)]; exact hv), b264_318, b264_368, b264_371, nn_add1]
      · rw [upB0 _ _ _ _ (fun z => hv (hlaw.mpr (by rw [hwt]; exact z.2)))]
        exact hS
  rw [e0, b264_259]
  cases st with
  | none =>
    have h4 : x4 = 0 := hS
    rw [if_pos h4]
    exact GO trivial
  | some q =>
    obtain ⟨s4, s5, s6, s7, sfd⟩ := id hS
    rw [if_neg (by rw [s4]; decide), b264_264, s5]
    subst s5 s6 s7
    by_cases z1 : E < q.1
    · rw [if_pos z1]
      exact GO (.inl z1)
    · rw [if_neg z1, b264_271]
      by_cases z2 : E = q.1
      · rw [if_neg (fun x => x z2), b264_278]
        by_cases z3 : SS < q.2.1
        · rw [if_pos z3]
          exact GO (.inr ⟨z2, .inl z3⟩)
        · rw [if_neg z3, b264_285]
          by_cases z4 : SS = q.2.1
          · rw [if_neg (fun x => x z4), b264_292]
            by_cases z5 : TT ≤ q.2.2.1
            · rw [if_pos z5]
              exact NO (fun x => by
                rcases x with x | ⟨-, x | x⟩
                · exact z1 x
                · exact z3 x
                · exact i32_nlt.mpr z5 x.2)
            · rw [if_neg z5]
              exact GO (.inr ⟨z2, .inr ⟨z4, i32_nle.mp z5⟩⟩)
          · rw [if_pos z4]
            exact NO (fun x => by
              rcases x with x | ⟨-, x | x⟩
              · exact z1 x
              · exact z3 x
              · exact z4 x.1)
      · rw [if_pos z2]
        exact NO (fun x => by
          rcases x with x | ⟨x, -⟩
          · exact z1 x
          · exact z2 x)
end RFB
