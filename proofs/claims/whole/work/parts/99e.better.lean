/-! Bettering, both sides; the calls better and can -/
/-- the reference's memory measures as the class's -/
def RQ (I I2 : PI) (w h o b : Nat) : Prop := RX I2 w h o b ∧ I2 39 0 = I 39 0 ∧ I2 28 6 = I 28 6 ∧ I2 14 0 25 = I 5 0 10 ∧ (∀ k, k < o → ∀ c, c < w * h → I2 34 1 (64 * k + c) = I 34 0 (64 * k + c)) ∧ ∀ k, k < o → I2 21 11 k = I 21 4 k
theorem RQ_K {I I2 : PI} {w h o b : Nat} (hQ : RQ I I2 w h o b) : KM I2 w h o = KKf I w h o := by
  obtain ⟨-, h1, h2, h3, -, -⟩ := hQ
  funext v
  show LAW v (I2 28 6) (I2 39 0) w h o (I2 14 0 25) = LAW v (I 28 6) (I 39 0) w h o (I 5 0 10)
  rw [h1, h2, h3]
theorem RQ_S {I I2 : PI} {w h o b : Nat} (hQ : RQ I I2 w h o b) : SHM I2 (w * h) o = SHf I (w * h) o := by
  funext v
  exact SHO_congr hQ.2.2.2.2.1 hQ.2.2.2.2.2
theorem RQ_T {I I2 : PI} {w h o b : Nat} (hQ : RQ I I2 w h o b) : TTM I2 (w * h) o = TTf I (w * h) o := by
  funext v
  exact TS_congr hQ.2.2.2.2.1
theorem RQ_mm {I I2 : PI} {w h o b : Nat} (hQ : RQ I I2 w h o b) {gf : Nat → Int32} (hG : GFok I2 gf) (ws Q S : Nat → Int32) : RQ I (MMM I2 ws gf Q S) w h o b := by
  obtain ⟨⟨hg, hn, hob, ho6⟩, h1, h2, h3, h4, h5⟩ := hQ
  exact ⟨⟨⟨(hG 22 (by omega)).trans hg.1, (hG 23 (by omega)).trans hg.2.1, hg.2.2⟩, (hG 24 (by omega)).trans hn, hob, ho6⟩, h1, h2, (hG 25 (by omega)).trans h3, h4, h5⟩
theorem moved2 (e : Nat) {w h o b : Nat} {I I2 : PI} (J2 : PJ) (T2 : TL) {ws gf : Nat → Int32} (Q S : Nat → Int32) (hQ : RQ I I2 w h o b) (hG : GFok I2 gf) (hr : ∀ c, c < w * h → ownr o (ws c)) (hL : LAW ws (I 28 6) (I 39 0) w h o (I 5 0 10)) : ∃ gf2 Q2 S2 : Nat → Int32, cal (e + 5) 260 [vr 14 0] (MX (MMM I2 ws gf Q S) J2 (TB T2 b)) = some (.inl (some (vi (fg1 (SK ws (I 39 0) (KKf I w h o) (SHf I (w * h) o) (TTf I (w * h) o) (w * h) o).2.2.isSome))), MX (MMM I2 ws gf2 Q2 S2) J2 (TB T2 b)) ∧ SM gf2 (SK ws (I 39 0) (KKf I w h o) (SHf I (w * h) o) (TTf I (w * h) o) (w * h) o) ∧ GFok I2 gf2 := by
  have hQ2 := RQ_mm hQ hG ws Q S
  have h39 : (MMM I2 ws gf Q S) 39 0 = I 39 0 := hQ2.2.1
  obtain ⟨gf2, Q2, S2, e2, q2, r2⟩ := movedM e (MMM I2 ws gf Q S) J2 T2 hQ2.1 hr (by rw [h39]; exact hL.1)
  rw [mm_mm, RQ_K hQ2, RQ_S hQ2, RQ_T hQ2, h39] at e2
  rw [RQ_K hQ2, RQ_S hQ2, RQ_T hQ2, h39] at q2
  exact ⟨gf2, Q2, S2, e2, q2, fun i hi => (r2 i hi).trans (hG i hi)⟩
theorem NXM_own {ws : Nat → Int32} {K : (Nat → Int32) → Prop} {n o : Nat} {st : MVT} (hr : ∀ c, c < n → ownr o (ws c)) (hok : MVok ws K n o st) : ∀ c, c < n → ownr o (NXM ws st c) := by
  intro i hi
  unfold NXM
  cases hz : st.2.2 with
  | none => exact hr i hi
  | some p =>
    obtain ⟨c, k, q⟩ := p
    obtain ⟨h1, h2, h3⟩ := hok c k q hz
    rcases h3 with ⟨rfl, z⟩ | ⟨e, rfl, q1, -, -, z⟩
    · show ownr o (wu ws c (nn k) i)
      unfold wu
      by_cases z : i = c
      · rw [if_pos z]; exact .inr ⟨k, h2, rfl⟩
      · rw [if_neg z]; exact hr i hi
    · show ownr o (ex ws c e i)
      rw [ex_at]
      by_cases z1 : i = e
      · rw [if_pos z1]; exact hr c h1
      · rw [if_neg z1]
        by_cases z2 : i = c
        · rw [if_pos z2]; exact hr e q1
        · rw [if_neg z2]; exact hr i hi
theorem runs (d : Nat) {w h o M : Nat} (I : PI) (J : PJ) (T : TL) (hM100 : M ≤ 100) (hW : RelW I w h) (hp : 0 < w * h) (hM : RelM J w h) (hC : RelC I J (w * h) o) (ho : I 1 T.1 3 = nn o) (ho6 : o ≤ 6) : ∀ m i (ws a su sf : Nat → Int32) (f : Nat → Int64), i + m = M → DR ws a f (w * h) o → LAW ws (I 28 6) (I 39 0) w h o (I 5 0 10) → ∃ (r : Nat) (ws2 a2 su2 sf2 : Nat → Int32) (f2 : Nat → Int64), den (d + 6) 121 2 [some (vr 6 0), some (vi (nn M)), some (vi (nn i))] [] (MX (CMm I a su sf) (upA J 42 1 f) T) = some (.inl (some (vi (nn r))), MX (CMm I a2 su2 sf2) (upA J 42 1 f2) T) ∧ DR ws2 a2 f2 (w * h) o ∧ ∀ (e b : Nat) (I2 : PI) (J2 : PJ) (T2 : TL) (gf Q S : Nat → Int32), RQ I I2 w h o b → GFok I2 gf → ∃ gf2 Q2 S2 : Nat → Int32, den (e + 6) 259 53 [some (vr 14 0), some (vi (nn M)), some (vi (nn i))] [] (MX (MMM I2 ws gf Q S) J2 (TB T2 b)) = some (.inl (some (vi (nn r))), MX (up3 (up3 (MMM I2 ws2 gf2 Q2 S2) 14 0 1 0) 14 0 2 (-1)) J2 (TB T2 b)) ∧ GFok I2 gf2 := by
  have h64 := relW_le hW
  intro m
  induction m with
  | zero =>
    intro i ws a su sf f hi hR hL
    have : i = M := by omega
    subst this
    refine ⟨i, ws, a, su, sf, f, ?_, hR, ?_⟩
    · rw [b121_2, if_pos (Int32.le_refl _)]
    · intro e b I2 J2 T2 gf Q S hQ hG
      refine ⟨gf, Q, S, ?_, hG⟩
      rw [b259_53, if_pos (Int32.le_refl _), c215]
      simp only [ret9]
      rw [b259_112]
  | succ m ih =>
    intro i ws a su sf f hi hR hL
    have hown : ∀ c, c < w * h → ownr o (ws c) := fun c hc => (hR.1 c hc).2
    obtain ⟨su3, sf3, e3, q3⟩ := seekC d (ws := ws) (CMm I a su sf) (upA J 42 1 f) T (w := w) (h := h) (o := o) ⟨hW, hp, hM, hC, hR, ho, ho6, hL⟩
    rw [cm_cm] at e3
    change cal (d + 5) 122 [vr 6 0] (MX (CMm I a su sf) (upA J 42 1 f) T) = some (.inl (some (vi (fg1 (SK ws (I 39 0) (KKf I w h o) (SHf I (w * h) o) (TTf I (w * h) o) (w * h) o).2.2.isSome))), MX (CMm I a su3 sf3) (upA J 42 1 f) T) at e3
    change SC sf3 (SK ws (I 39 0) (KKf I w h o) (SHf I (w * h) o) (TTf I (w * h) o) (w * h) o) at q3
    have hok := SK_ok (K := KKf I w h o) (SH := SHf I (w * h) o) (TT := TTf I (w * h) o) ho6 hown hL.1
    have mv : ∀ (e b : Nat) (I2 : PI) (J2 : PJ) (T2 : TL) (gf Q S : Nat → Int32), RQ I I2 w h o b → GFok I2 gf → _ := fun e b I2 J2 T2 gf Q S hQ hG => moved2 e J2 T2 Q S hQ hG hown hL
    generalize SK ws (I 39 0) (KKf I w h o) (SHf I (w * h) o) (TTf I (w * h) o) (w * h) o = st at e3 q3 hok mv
    cases hs : st.2.2.isSome with
    | false =>
      refine ⟨i, ws, a, su3, sf3, f, ?_, hR, ?_⟩
      · rw [b121_2, if_neg (by rw [nn_le (by omega) (by omega)]; omega), e3, hs]
        simp only [ret9]
        rw [b121_11, if_neg (fun z => z rfl)]
      · intro e b I2 J2 T2 gf Q S hQ hG
        obtain ⟨gf2, Q2, S2, e2, q2, r2⟩ := mv e b I2 J2 T2 gf Q S hQ hG
        refine ⟨gf2, Q2, S2, ?_, r2⟩
        rw [b259_53, if_neg (by rw [nn_le (by omega) (by omega)]; omega), e2, hs]
        simp only [ret9]
        rw [b259_62, if_pos (show fg1 false = 0 from rfl), c215]
        simp only [ret9]
        rw [b259_112]
    | true =>
      obtain ⟨a4, f4, e4, r4⟩ := makeC (d + 4) (su := su3) I J T h64 ho6 hR q3 hok hs
      obtain ⟨r, ws2, a2, su2, sf2, f2, e5, r5, q5⟩ := ih (i + 1) (NXM ws st) a4 su3 sf3 f4 (by omega) r4 (NXM_ok hL hok)
      refine ⟨r, ws2, a2, su2, sf2, f2, ?_, r5, ?_⟩
      · rw [b121_2, if_neg (by rw [nn_le (by omega) (by omega)]; omega), e3, hs]
        simp only [ret9]
        rw [b121_11, if_pos (by decide), e4]
        simp only [ret9]
        rw [b121_20, nn_add1]
        exact e5
      · intro e b I2 J2 T2 gf Q S hQ hG
        obtain ⟨gf2, Q2, S2, e2, ⟨t1, t2, t3⟩, r2⟩ := mv e b I2 J2 T2 gf Q S hQ hG
        obtain ⟨gf6, Q6, S6, e6, r6⟩ := q5 e b I2 J2 T2 gf2 Q2 S2 hQ r2
        refine ⟨gf6, Q6, S6, ?_, r6⟩
        rw [b259_53, if_neg (by rw [nn_le (by omega) (by omega)]; omega), e2, hs]
        simp only [ret9]
        rw [b259_62, if_neg (by decide)]
        show (if ¬ gf2 46 = -1 then ret9 _ _ _ _ _ _ (cal (e + 5) 262 [vr 14 0, vi (gf2 45), vi (gf2 46)] (MX (MMM I2 ws gf2 Q2 S2) J2 (TB T2 b))) else (if inR (gf2 45) 64 = true then den (e + 6) 259 53 [some (vr 14 0), some (vi (nn M)), some (vi (nn i + 1))] [] (MX (up3 (MMM I2 ws gf2 Q2 S2) 28 7 (gf2 45).toNatClampNeg (gf2 47)) J2 (TB T2 b)) else none)) = _
        cases hz : st.2.2 with
        | none => rw [hz] at hs; cases hs
        | some p =>
          obtain ⟨c, k, q⟩ := p
          rw [hz] at t3
          obtain ⟨t4, t5⟩ := t3
          obtain ⟨g1, g2, g3⟩ := hok c k q hz
          have hr : inR (nn c) 64 = true := nn_inR (by omega) (by omega)
          rcases g3 with ⟨rfl, -⟩ | ⟨x, rfl, g4, -, -, -⟩
          · rw [if_neg (fun z => z t5.1), t4, if_pos hr, nn_idx (by omega), mm_ws, t5.2, nn_add1]
            rw [show NXM ws st = wu ws c (nn k) by unfold NXM; rw [hz]] at e6
            exact e6
          · have hr2 : inR (nn x) 64 = true := nn_inR (by omega) (by omega)
            have t6 : gf2 46 = nn x := t5
            rw [t6, t4, if_pos (nn_ne_neg (by omega)), c262, if_pos hr, if_pos hr2, if_pos hr, if_pos hr2, nn_idx (by omega), nn_idx (by omega)]
            simp only [ret9]
            show den (e + 6) 259 101 _ _ (MX (up3 (up3 (MMM I2 ws gf2 Q2 S2) 28 7 c (ws x)) 28 7 x (ws c)) J2 (TB T2 b)) = _
            rw [mm_ws, mm_ws, b259_101, nn_add1]
            rw [show NXM ws st = ex ws c x by unfold NXM; rw [hz]] at e6
            exact e6
