/-! The reference's search as a whole; moves made -/
theorem mm_mm (I : PI) (ws gf Q S ws2 gf2 Q2 S2 : Nat → Int32) : MMM (MMM I ws gf Q S) ws2 gf2 Q2 S2 = MMM I ws2 gf2 Q2 S2 := by
  unfold MMM HM
  funext a b c
  unfold upA
  by_cases h1 : a = 14
  · subst h1; simp
    by_cases h2 : b = 0
    · simp [h2]
    · simp [h2]
  · simp [h1]
    by_cases h2 : a = 28
    · subst h2; simp
      by_cases h3 : b = 7
      · simp [h3]
      · by_cases h4 : b = 8
        · simp [h4]
        · simp [h3, h4]
    · simp [h2]
      by_cases h5 : a = 39
      · subst h5; simp
        by_cases h6 : b = 1
        · simp [h6]
        · simp [h6]
      · simp [h5]
theorem movedM (d : Nat) {w h o b : Nat} (I : PI) (J : PJ) (T : TL) (hX : RX I w h o b) (hr : ∀ c, c < w * h → ownr o (I 28 7 c)) (hb1 : non9 (B1 (I 28 7) (I 39 0)) (w * h)) : ∃ gf Q S : Nat → Int32, cal (d + 5) 260 [vr 14 0] (MX I J (TB T b)) = some (.inl (some (vi (fg1 (SK (I 28 7) (I 39 0) (KM I w h o) (SHM I (w * h) o) (TTM I (w * h) o) (w * h) o).2.2.isSome))), MX (MMM I (I 28 7) gf Q S) J (TB T b)) ∧ SM gf (SK (I 28 7) (I 39 0) (KM I w h o) (SHM I (w * h) o) (TTM I (w * h) o) (w * h) o) ∧ GFok I gf := by
  obtain ⟨hg, hn, hob, ho6⟩ := id hX
  have h64 : w * h ≤ 64 := Nat.mul_le_mul hg.2.2.2.1 hg.2.2.2.2.2
  have sM := shoM (d + 3) (n := w * h) (o := o) (b := b) I J T hn h64 hob ho6
  have tM := totM (d + 3) (n := w * h) (o := o) (b := b) (up3 I 14 0 43 (SHM I (w * h) o (I 28 7))) J T hn h64 hob ho6
  have hG0 : GFok I (wu (wu (wu (I 14 0) 43 (SHM I (w * h) o (I 28 7))) 44 (TTM I (w * h) o (I 28 7))) 45 (-1)) := gf_up (gf_up (gf_up (fun i _ => rfl) _ (by omega) (by omega)) _ (by omega) (by omega)) _ (by omega) (by omega)
  obtain ⟨gf3, Q3, S3, p2, p3, e3, q3, r3⟩ := outA d I J T hX (I 28 7) (w * h) 0 _ (I 28 8) (I 39 1) (SHM I (w * h) o (I 28 7), TTM I (w * h) o (I 28 7), none) none none (by omega) ⟨rfl, rfl, rfl⟩ hG0
  obtain ⟨gf2, Q2, S2, e2, q2, r2⟩ := outB d I J T hX (I 28 7) (w * h) 0 gf3 Q3 S3 _ p2 p3 (by omega) q3 r3
  have q5 : SM gf2 (SK (I 28 7) (I 39 0) (KM I w h o) (SHM I (w * h) o) (TTM I (w * h) o) (w * h) o) := q2
  refine ⟨gf2, Q2, S2, ?_, q5, r2⟩
  have hok := SK_ok (K := KM I w h o) (SH := SHM I (w * h) o) (TT := TTM I (w * h) o) ho6 hr hb1
  generalize SK (I 28 7) (I 39 0) (KM I w h o) (SHM I (w * h) o) (TTM I (w * h) o) (w * h) o = st at q5 hok
  have e0 : cal (d + 5) 260 [vr 14 0] (MX I J (TB T b)) = den (d + 5) 260 23 [some (vr 14 0), some (vi (nn 0)), none, none] [] (MX (MMM I (I 28 7) (wu (wu (wu (I 14 0) 43 (SHM I (w * h) o (I 28 7))) 44 (TTM I (w * h) o (I 28 7))) 45 (-1)) (I 28 8) (I 39 1)) J (TB T b)) := by
    rw [c260, sM]
    simp only [ret9]
    rw [b260_5]
    change ret9 _ _ _ _ _ _ (cal (d + 4) 243 [vr 14 0] (MX (up3 I 14 0 43 (SHM I (w * h) o (I 28 7))) J (TB T b))) = _
    rw [tM]
    simp only [ret9]
    rw [b260_13, ← mm_g, ← mm_g, ← mm_g, mm_id]
    rfl
  rw [e0, e3, e2]
  obtain ⟨s1, s2, s3⟩ := q5
  cases hz : st.2.2 with
  | none =>
    rw [hz] at s3
    rw [if_pos s3]
    rfl
  | some p =>
    obtain ⟨c, k, q⟩ := p
    rw [hz] at s3
    have hb := (hok c k q hz).1
    rw [if_neg (by rw [s3.1]; exact nn_ne_neg (by omega))]
    rfl
/-- the drawing behind a move -/
def NXM (ws : Nat → Int32) (st : MVT) : Nat → Int32 := match st.2.2 with
  | none => ws
  | some (c, k, none) => wu ws c (nn k)
  | some (c, _, some e) => ex ws c e
theorem NXM_ok {ws kp wt : Nat → Int32} {w h o : Nat} {wd : Int32} {st : MVT} (hL : LAW ws kp wt w h o wd) (hok : MVok ws (fun v => LAW v kp wt w h o wd) (w * h) o st) : LAW (NXM ws st) kp wt w h o wd := by
  unfold NXM
  cases hz : st.2.2 with
  | none => exact hL
  | some p =>
    obtain ⟨c, k, q⟩ := p
    obtain ⟨h1, h2, h3⟩ := hok c k q hz
    rcases h3 with ⟨rfl, z⟩ | ⟨e, rfl, -, -, -, z⟩
    · exact z
    · exact z
def CMm (I : PI) (a su sf : Nat → Int32) : PI := upA (upA (upA I 21 6 su) 6 0 sf) 28 3 a
theorem cm_cm (I : PI) (a su sf su2 sf2 : Nat → Int32) : upA (upA (CMm I a su sf) 21 6 su2) 6 0 sf2 = CMm I a su2 sf2 := by
  unfold CMm
  funext x y z
  unfold upA
  by_cases h1 : x = 6
  · subst h1; simp
    by_cases h2 : y = 0
    · simp [h2]
    · simp [h2]
  · simp [h1]
    by_cases h2 : x = 21
    · subst h2; simp
      by_cases h3 : y = 6
      · simp [h3]
      · simp [h3]
    · simp [h2]
theorem cm_id (I : PI) : CMm I (I 28 3) (I 21 6) (I 6 0) = I := by
  unfold CMm
  rw [upA_id, upA_id, upA_id]
theorem makeC (d : Nat) {n o : Nat} {ws a su sf : Nat → Int32} {f : Nat → Int64} {K : (Nat → Int32) → Prop} {st : MVT} (I : PI) (J : PJ) (T : TL) (hn : n ≤ 64) (ho6 : o ≤ 6) (hR : DR ws a f n o) (hS : SC sf st) (hok : MVok ws K n o st) (hs : st.2.2.isSome = true) : ∃ (a2 : Nat → Int32) (f2 : Nat → Int64), cal (d + 1) 131 [vr 6 0] (MX (CMm I a su sf) (upA J 42 1 f) T) = some (.inl none, MX (CMm I a2 su sf) (upA J 42 1 f2) T) ∧ DR (NXM ws st) a2 f2 n o := by
  obtain ⟨s1, s2, s3⟩ := hS
  cases hz : st.2.2 with
  | none => rw [hz] at hs; cases hs
  | some p =>
    obtain ⟨c, k, q⟩ := p
    rw [hz] at s3
    obtain ⟨s4, s5, s6⟩ := s3
    obtain ⟨h1, h2, h3⟩ := hok c k q hz
    obtain ⟨f3, e3, r3⟩ := giveR d (nn k) (upA (upA I 21 6 su) 6 0 sf) J T hR h1 hn ho6 (.inr ⟨k, h2, rfl⟩)
    have e0 : cal (d + 1) 131 [vr 6 0] (MX (CMm I a su sf) (upA J 42 1 f) T) = den (d + 1) 131 28 [some (vr 6 0), some (vi (a c))] [] (MX (CMm I (wu a c (nn k)) su sf) (upA J 42 1 f3) T) := by
      rw [c131]
      show (if inR (sf 8) 64 = true then ret9 _ _ _ _ [some (vr 6 0), some (vi (a (sf 8).toNatClampNeg))] _ (cal d 82 [vr 3 0, vi (sf 8), vi (sf 9)] (MX (upA (upA (upA I 21 6 su) 6 0 sf) 28 3 a) (upA J 42 1 f) T)) else none) = _
      rw [s4, s5, if_pos (nn_inR (by omega) (by omega)), nn_idx (by omega), e3]
      simp only [ret9]
      rfl
    rw [e0, b131_28]
    show ∃ (a2 : Nat → Int32) (f2 : Nat → Int64), (if sf 10 = -1 then _ else ret9 _ _ _ _ _ _ (cal d 82 [vr 3 0, vi (sf 10), vi (a c)] (MX (upA (upA (upA I 21 6 su) 6 0 sf) 28 3 (wu a c (nn k))) (upA J 42 1 f3) T))) = _ ∧ _
    rw [s6]
    rcases h3 with ⟨rfl, -⟩ | ⟨e, rfl, q1, q2, q3, -⟩
    · refine ⟨wu a c (nn k), f3, ?_, ?_⟩
      · rw [if_pos oi_n]
      · unfold NXM
        rw [hz]
        exact r3
    · obtain ⟨f4, e4, r4⟩ := giveR d (a c) (upA (upA I 21 6 su) 6 0 sf) J T r3 q1 hn ho6 (by rw [(hR.1 c h1).1]; exact (hR.1 c h1).2)
      refine ⟨wu (wu a c (nn k)) e (a c), f4, ?_, ?_⟩
      rotate_left
      · unfold NXM
        rw [hz]
        show DR (wu (wu ws c (ws e)) e (ws c)) _ f4 n o
        rw [q3, ← (hR.1 c h1).1]
        exact r4
      · rw [if_neg (oi_s (by omega)), oi_e, e4]
        simp only [ret9]
        rw [b131_48]
        rfl
