/-! Splitting a field: the class takes it -/
def TKm (I : PI) (va ah sf : Nat → Int32) : PI := upA (upA (upA I 24 0 va) 24 1 ah) 9 0 sf
theorem tk_0 (I : PI) (va ah sf : Nat → Int32) (i : Nat) (v : Int32) : up3 (TKm I va ah sf) 24 0 i v = TKm I (wu va i v) ah sf := by
  unfold TKm
  funext a b c
  unfold up3 upA wu
  by_cases h1 : a = 24
  · subst h1; simp
    by_cases h2 : b = 0
    · subst h2; simp
    · simp [h2]
  · simp [h1]
theorem tk_1 (I : PI) (va ah sf : Nat → Int32) (i : Nat) (v : Int32) : up3 (TKm I va ah sf) 24 1 i v = TKm I va (wu ah i v) sf := by
  unfold TKm
  funext a b c
  unfold up3 upA wu
  by_cases h1 : a = 24
  · subst h1; simp
    by_cases h2 : b = 1
    · subst h2; simp
    · simp [h2]
  · simp [h1]
theorem tk_9 (I : PI) (va ah sf : Nat → Int32) (i : Nat) (v : Int32) : up3 (TKm I va ah sf) 9 0 i v = TKm I va ah (wu sf i v) := upA_up3 _ _ _ _ _ _
theorem tk_id (I : PI) (v : Int32) : TKm I (I 24 0) (I 24 1) (wu (I 9 0) 4 v) = up3 I 9 0 4 v := by
  rw [← tk_9]
  unfold TKm
  rw [upA_id, upA_id, upA_id]
section TAKS
variable (d : Nat) {w h : Nat} (I : PI) (J : PJ) (T : TL) {f : Int64}
theorem takLp (hn : I 5 0 9 = nn (w * h)) (h64 : w * h ≤ 64) {k : Nat} (hk : k < 6) (hf3 : J 9 0 3 = f) {m : Nat} (hm : cn (bt f) (w * h) = m) (hm12 : m ≤ 12) (x4 : Int32) : ∀ q c (va ah sf : Nat → Int32), c + q = w * h → sf 4 = nn (cn (bt f) c) → (∀ i, i < cn (bt f) c → ah i = sm va i 0 0) → (∀ e, e < c → bt f e = true → va (cn (bt f) e) = I 34 0 (64 * k + e)) → ∃ va2 ah2 sf2 : Nat → Int32, den (d + 1) 154 54 [some (vr 9 0), some (vi (nn k)), some (vl f), none, some (vi x4), some (vi (sm va (cn (bt f) c) 0 0)), some (vi (nn c))] [] (MX (TKm I va ah sf) J T) = some (.inl (some (vi 1)), MX (TKm I va2 ah2 sf2) J T) ∧ sf2 4 = nn m ∧ (∀ i, i < m → ah2 i = sm va2 i 0 0) ∧ (∀ e, e < w * h → bt f e = true → va2 (cn (bt f) e) = I 34 0 (64 * k + e)) := by
  intro q
  induction q with
  | zero =>
    intro c va ah sf hc h4 h1 h2
    have : c = w * h := by omega
    subst this
    refine ⟨va, ah, sf, ?_, by rw [h4, hm], by rw [← hm]; exact h1, h2⟩
    rw [b154_54]
    show (if I 5 0 9 ≤ _ then _ else _) = _
    rw [hn, if_pos (Int32.le_refl _), b154_149]
  | succ q ih =>
    intro c va ah sf hc h4 h1 h2
    have hmono := cn_mono2 (bt f) (show c ≤ w * h by omega)
    have hmono2 := cn_mono2 (bt f) (show c + 1 ≤ w * h by omega)
    have hsu := cn_succ (bt f) c
    have e0 : den (d + 1) 154 54 [some (vr 9 0), some (vi (nn k)), some (vl f), none, some (vi x4), some (vi (sm va (cn (bt f) c) 0 0)), some (vi (nn c))] [] (MX (TKm I va ah sf) J T) = den (d + 1) 154 66 [some (vr 9 0), some (vi (nn k)), some (vl f), none, some (vi x4), some (vi (sm va (cn (bt f) c) 0 0)), some (vi (nn c))] [] (MX (TKm I va ah sf) J T) := by
      rw [b154_54]
      show (if I 5 0 9 ≤ _ then _ else _) = _
      rw [hn, if_neg (by rw [nn_le (by omega) (by omega)]; omega)]
    rw [e0, b154_66]
    show ∃ va2 ah2 sf2 : Nat → Int32, (if 12 ≤ sf 4 then _ else _) = _ ∧ _
    rw [h4]
    have m12 : ((12 : Int32) ≤ nn (cn (bt f) c)) ↔ 12 ≤ cn (bt f) c := nn_le (a := 12) (by omega) (by omega)
    by_cases z12 : 12 ≤ cn (bt f) c
    · refine ⟨va, ah, sf, ?_, by rw [h4, show cn (bt f) c = m by omega], fun i hi => h1 i (by omega), fun e he hfe => ?_⟩
      · rw [if_pos (m12.mpr z12), b154_149]
      · by_cases hec : e < c
        · exact h2 e hec hfe
        · have q1 := cn_mono2 (bt f) (show c ≤ e by omega)
          have q2 := cn_mono2 (bt f) (show e + 1 ≤ w * h by omega)
          rw [cn_succ, if_pos hfe] at q2
          omega
    · rw [if_neg (fun y => z12 (m12.mp y)), b154_75]
      show ∃ va2 ah2 sf2 : Nat → Int32, (if lg_cmp (lus9 (J 9 0 3) (nn c) &&& 1) 0 = 0 then _ else _) = _ ∧ _
      rw [hf3]
      by_cases hfc : bt f c = true
      · have hz : ¬ lg_cmp (lus9 f (nn c) &&& 1) 0 = 0 := by rw [bit0 f (show c < 64 by omega), hfc]; decide
        rw [if_pos hfc] at hsu
        have hr : inR (nn (cn (bt f) c)) 12 = true := nn_inR (by omega) (by omega)
        have pc := priceC d (k := k) (c := c) (TKm I va ah sf) J T hk (by omega)
        have hva : ∀ i, i ≤ cn (bt f) c → sm (wu va (cn (bt f) c) (I 34 0 (64 * k + c))) i 0 0 = sm va i 0 0 := fun i hi => sm_congr i 0 0 (fun j _ hj => by unfold wu; rw [if_neg (by omega)])
        have e1 : sm va (cn (bt f) c) 0 0 + I 34 0 (64 * k + c) = sm (wu va (cn (bt f) c) (I 34 0 (64 * k + c))) (cn (bt f) (c + 1)) 0 0 := by
          rw [hsu, sm_end, hva _ (Nat.le_refl _), Nat.zero_add]
          unfold wu
          rw [if_pos rfl]
        obtain ⟨va2, ah2, sf2, e2, q1, q2, q3⟩ := ih (c + 1) (wu va (cn (bt f) c) (I 34 0 (64 * k + c))) (wu ah (cn (bt f) c) (sm va (cn (bt f) c) 0 0)) (wu sf 4 (nn (cn (bt f) (c + 1)))) (by omega) rfl (fun i hi => by
            rw [hva i (by omega)]
            unfold wu
            by_cases z : i = cn (bt f) c
            · rw [if_pos z, z]
            · rw [if_neg z]; exact h1 i (by omega)) (fun e he hfe => by
            unfold wu
            by_cases z : e = c
            · rw [if_pos (by rw [z]), z]
            · have q2 := cn_mono2 (bt f) (show e + 1 ≤ c by omega)
              rw [cn_succ, if_pos hfe] at q2
              rw [if_neg (by omega)]
              exact h2 e (by omega) hfe)
        refine ⟨va2, ah2, sf2, ?_, q1, q2, q3⟩
        rw [if_neg hz, b154_89, pc]
        simp only [ret9]
        show den (d + 1) 154 107 _ [vi (I 34 0 (64 * k + c)), vi (sf 4), vr 24 0] _ = _
        rw [h4, b154_107, if_pos hr, nn_idx (by omega), tk_0, b154_108]
        show (if inR (sf 4) 12 = true then den (d + 1) 154 119 _ _ (MX (up3 (TKm I (wu va (cn (bt f) c) (I 34 0 (64 * k + c))) ah sf) 24 1 (Int32.toNatClampNeg (sf 4)) _) J T) else none) = _
        rw [h4, if_pos hr, nn_idx (by omega), tk_1, b154_119]
        show (if inR (sf 4) 12 = true then den (d + 1) 154 133 [some (vr 9 0), some (vi (nn k)), some (vl f), none, some (vi x4), some (vi (sm va (cn (bt f) c) 0 0 + wu va (cn (bt f) c) (I 34 0 (64 * k + c)) (Int32.toNatClampNeg (sf 4)))), some (vi (nn c))] _ _ else none) = _
        rw [h4, if_pos hr, nn_idx (by omega), b154_133]
        show den (d + 1) 154 143 _ _ (MX (up3 (TKm I _ _ sf) 9 0 4 (sf 4 + 1)) J T) = _
        rw [h4, tk_9, nn_add1, ← hsu, show wu va (cn (bt f) c) (I 34 0 (64 * k + c)) (cn (bt f) c) = I 34 0 (64 * k + c) by unfold wu; rw [if_pos rfl], e1, b154_143, b154_146, nn_add1]
        exact e2
      · have hz : lg_cmp (lus9 f (nn c) &&& 1) 0 = 0 := by
          rw [bit0 f (show c < 64 by omega)]
          cases y : bt f c with
          | false => rfl
          | true => exact absurd y hfc
        rw [if_neg hfc, Nat.add_zero] at hsu
        obtain ⟨va2, ah2, sf2, e2, q1, q2, q3⟩ := ih (c + 1) va ah sf (by omega) (by rw [hsu]; exact h4) (by rw [hsu]; exact h1) (fun e he hfe => by
          by_cases z : e = c
          · rw [z] at hfe; exact absurd hfe hfc
          · exact h2 e (by omega) hfe)
        refine ⟨va2, ah2, sf2, ?_, q1, q2, q3⟩
        rw [hsu] at e2
        rw [if_pos hz, b154_143, b154_146, nn_add1]
        exact e2
/-- a field that may be split -/
def MAYS (w h : Nat) (F : Nat → Bool) : Prop := 2 ≤ cn F (w * h) ∧ cn F (w * h) ≤ 12 ∧ HT w h F
theorem takC (hW : RelW I w h) (hp : 0 < w * h) (hM : RelM J w h) (hf : ∀ c, bt f c = true → c < w * h) {k : Nat} (hk : k < 6) : ∃ va ah sf : Nat → Int32, cal (d + 2) 154 [vr 9 0, vi (nn k), vl f] (MX I J T) = some (.inl (some (vi (bi (MAYS w h (bt f))))), MX (TKm I va ah sf) (up3 J 9 0 3 f) T) ∧ (MAYS w h (bt f) → sf 4 = nn (cn (bt f) (w * h)) ∧ (∀ i, i < cn (bt f) (w * h) → ah i = sm va i 0 0) ∧ (∀ e, e < w * h → bt f e = true → va (cn (bt f) e) = I 34 0 (64 * k + e))) := by
  have h64 := relW_le hW
  obtain ⟨-, -, hw1, hw8, hh1, hh8⟩ := relGW hW hp
  have ecn : ct (bt f) 64 0 0 = cn (bt f) (w * h) := by
    have e64 : 64 = w * h + (64 - w * h) := by omega
    rw [ct_cn, e64, cn_cut (fun c hc => by
      cases z : bt f c with
      | false => rfl
      | true => have := hf c z; omega)]
  have hle := cn_le (bt f) (w * h)
  have e0 : cal (d + 2) 154 [vr 9 0, vi (nn k), vl f] (MX I J T) = den (d + 2) 154 19 [some (vr 9 0), some (vi (nn k)), some (vl f), none, some (vi (nn (cn (bt f) (w * h)))), none, none] [] (MX (TKm I (I 24 0) (I 24 1) (wu (I 9 0) 4 0)) (up3 J 9 0 3 f) T) := by
    rw [c154, bitC, ecn]
    simp only [ret9]
    rw [b154_17, tk_id]
  have m1 : (nn (cn (bt f) (w * h)) < 2) ↔ cn (bt f) (w * h) < 2 := nn_lt (b := 2) (by omega) (by omega)
  have m2 : ((12 : Int32) < nn (cn (bt f) (w * h))) ↔ 12 < cn (bt f) (w * h) := nn_lt (a := 12) (by omega) (by omega)
  rw [e0, b154_19]
  by_cases z1 : cn (bt f) (w * h) < 2
  · refine ⟨I 24 0, I 24 1, wu (I 9 0) 4 0, ?_, fun y => absurd y.1 (by omega)⟩
    rw [if_pos (m1.mpr z1), b154_46, bi0 (fun y => absurd y.1 (by omega))]
  · rw [if_neg (fun y => z1 (m1.mp y)), b154_25]
    by_cases z2 : 12 < cn (bt f) (w * h)
    · refine ⟨I 24 0, I 24 1, wu (I 9 0) 4 0, ?_, fun y => absurd y.2.1 (by omega)⟩
      rw [if_pos (m2.mpr z2), b154_46, bi0 (fun y => absurd y.2.1 (by omega))]
    · have hM2 : RelM (up3 J 9 0 3 f) w h := hM
      have hg1 := hangC (d + 1) (w := w) (h := h) f (TKm I (I 24 0) (I 24 1) (wu (I 9 0) 4 0)) (up3 J 9 0 3 f) T hW.1 hW.2.2.1 hp hM2 hw1 hw8 h64 hf
      rw [if_neg (fun y => z2 (m2.mp y)), b154_32]
      show ∃ va ah sf : Nat → Int32, ret9 _ _ _ _ _ _ (cal (d + 1) 109 [vr 5 0, vl f] _) = _ ∧ _
      rw [hg1]
      simp only [ret9]
      rw [b154_43]
      by_cases z3 : HT w h (bt f)
      · obtain ⟨va, ah, sf, e2, q1, q2, q3⟩ := takLp (d + 1) (w := w) (h := h) (f := f) I (up3 J 9 0 3 f) T hW.2.2.1 h64 hk rfl rfl (by omega) (nn (cn (bt f) (w * h))) (w * h) 0 (I 24 0) (I 24 1) (wu (I 9 0) 4 0) (by omega) rfl (fun i hi => absurd hi (by simp [cn, sQ])) (fun e he => absurd he (by omega))
        refine ⟨va, ah, sf, ?_, fun _ => ⟨q1, q2, q3⟩⟩
        rw [bi1 z3, if_pos (by decide), b154_48, b154_51, bi1 ⟨by omega, by omega, z3⟩]
        exact e2
      · refine ⟨I 24 0, I 24 1, wu (I 9 0) 4 0, ?_, fun y => absurd y.2.2 z3⟩
        rw [bi0 z3, if_neg (fun y => y rfl), b154_46, bi0 (fun y => z3 y.2.2)]
end TAKS
