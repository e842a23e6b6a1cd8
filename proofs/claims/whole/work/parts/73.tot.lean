/-! Sums over all owners: the reference -/
section TOTM
variable (d : Nat) {n o b : Nat} (I : PI) (J : PJ) (T : TL)
theorem totM (hn : I 14 0 24 = nn n) (hn6 : n ≤ 64) (ho : I 12 b 0 = nn o) (ho6 : o ≤ 6) : cal (d + 1) 243 [vr 14 0] (MX I J (TB T b)) = some (.inl (some (vi (TS (I 28 7) (I 34 1) n o))), MX I J (TB T b)) := by
  rw [c243]
  have key := for_up (n := o) (Lp := fun c (a : Int32) => den (d + 1) 243 4 [some (vr 14 0), some (vi a), some (vi (nn c))] [] (MX I J (TB T b))) (step := fun k a => a + SU (I 28 7) (I 34 1) n k (nn k)) (by
    intro c a hc
    rw [b243_4, ho, if_neg (by rw [nn_le (by omega) (by omega)]; omega), sumM d (nn c) I J (TB T b) hn hn6 (by omega)]
    simp only [ret9]
    rw [b243_22, nn_add1]) o 0 0 (by omega)
  refine Eq.trans key ?_
  rw [b243_4, ho, if_pos (Int32.le_refl _), sm_itn]
  rfl
theorem shoM (hn : I 14 0 24 = nn n) (hn6 : n ≤ 64) (ho : I 12 b 0 = nn o) (ho6 : o ≤ 6) : cal (d + 1) 244 [vr 14 0] (MX I J (TB T b)) = some (.inl (some (vi (SHO (I 28 7) (I 34 1) (I 21 11) n o))), MX I J (TB T b)) := by
  rw [c244]
  have key := for_up (n := o) (Lp := fun c (a : Int32) => den (d + 1) 244 4 [some (vr 14 0), some (vi a), some (vi (nn c))] [] (MX I J (TB T b))) (step := fun k a => a + mx0 (I 21 11 k - SU (I 28 7) (I 34 1) n k (nn k))) (by
    intro c a hc
    rw [b244_4, ho, if_neg (by rw [nn_le (by omega) (by omega)]; omega), if_pos (nn_inR (by omega) (by omega)), nn_idx (by omega), sumM d (nn c) I J (TB T b) hn hn6 (by omega)]
    simp only [ret9]
    rw [b244_29, max0, nn_add1]) o 0 0 (by omega)
  refine Eq.trans key ?_
  rw [b244_4, ho, if_pos (Int32.le_refl _), sm_itn (fun k => mx0 (I 21 11 k - SU (I 28 7) (I 34 1) n k (nn k)))]
  rfl
theorem bndM (hn : I 14 0 24 = nn n) (hn6 : n ≤ 64) (ho : I 12 b 0 = nn o) (ho6 : o ≤ 6) (ho1 : 1 ≤ o) (hk : ∀ c, c < n → ownr o (I 28 6 c)) : cal d 245 [vr 14 0] (MX I J (TB T b)) = some (.inl (some (vi (BD (I 34 1) (I 39 0) (I 28 6) n o))), MX I J (TB T b)) := by
  rw [c245]
  have inner : ∀ m k c (a y : Int32), c < n → I 28 6 c = -1 → k + m = o → ∃ o4 : Option AV, den d 245 58 [some (vr 14 0), some (vi a), some (vi (nn c)), some (vi y), some (vi (nn k))] [] (MX I J (TB T b)) = den d 245 4 [some (vr 14 0), some (vi (a + itn (fun k a => max9 a (I 34 1 (64 * k + c))) m k y)), some (vi (nn (c + 1))), some (vi (itn (fun k a => max9 a (I 34 1 (64 * k + c))) m k y)), o4] [] (MX I J (TB T b)) := by
    intro m
    induction m with
    | zero =>
      intro k c a y hc hkp hk
      refine ⟨some (vi (nn k)), ?_⟩
      rw [b245_58, ho, if_pos ((nn_le (by omega) (by omega)).mpr (by omega)), nn_add1]
      rfl
    | succ m ih =>
      intro k c a y hc hkp hk
      obtain ⟨o4, e⟩ := ih (k + 1) c a (max9 y (I 34 1 (64 * k + c))) hc hkp (by omega)
      refine ⟨o4, ?_⟩
      rw [b245_58, ho, if_neg (by rw [nn_le (by omega) (by omega)]; omega), if_pos (nn_inR (by omega) (by omega)), nn_idx (by omega), if_neg (fun z => z hkp), show (64 : Int32) * nn k + nn c = nn (64 * k + c) from by rw [show (64 : Int32) = nn 64 from rfl, nn_mul, nn_add], if_pos (nn_inR (by omega) (by omega)), nn_idx (by omega), nn_add1]
      exact e
  have lp : ∀ m c (a : Int32) (o3 o4 : Option AV), c + m = n → den d 245 4 [some (vr 14 0), some (vi a), some (vi (nn c)), o3, o4] [] (MX I J (TB T b)) = some (.inl (some (vi (sm (fun c => if ¬ I 39 0 c = 0 then 0 else if I 28 6 c = -1 then GP (I 34 1) o c else I 34 1 (64 * (I 28 6 c).toNatClampNeg + c)) m c a))), MX I J (TB T b)) := by
    intro m
    induction m with
    | zero =>
      intro c a o3 o4 hc
      rw [b245_4, hn, if_pos ((nn_le (by omega) (by omega)).mpr (by omega))]
      rfl
    | succ m ih =>
      intro c a o3 o4 hc
      have hr : inR (nn c) 64 = true := nn_inR (by omega) (by omega)
      rw [b245_4, hn, if_neg (by rw [nn_le (by omega) (by omega)]; omega), if_pos hr, nn_idx (show c < 2147483648 by omega)]
      show _ = some (Sum.inl (some (vi (sm _ m (c + 1) (a + _)))), _)
      dsimp only
      by_cases hw : I 39 0 c = 0
      · rw [if_pos hw, if_pos hr, if_neg (show ¬ ¬ I 39 0 c = 0 from fun z => z hw)]
        by_cases hkp : I 28 6 c = -1
        · rw [if_neg (fun z => z hkp), if_pos hkp, if_pos (nn_inR (by omega) (by omega))]
          obtain ⟨q4, e⟩ := inner (o - 1) 1 c a (I 34 1 (64 * 0 + c)) (by omega) hkp (by omega)
          rw [show 64 * 0 + c = c by omega] at e
          refine Eq.trans e ?_
          have := ih (c + 1) (a + GP (I 34 1) o c) (some (vi (itn (fun k a => max9 a (I 34 1 (64 * k + c))) (o - 1) 1 (I 34 1 c)))) q4 (by omega)
          unfold GP at this ⊢
          rw [show 64 * 0 + c = c by omega] at this ⊢
          exact this
        · rw [if_pos hkp, if_pos hr, if_neg hkp]
          rcases hk c (by omega) with z | ⟨q, hq, z⟩
          · exact absurd z hkp
          · rw [z, show (64 : Int32) * nn q + nn c = nn (64 * q + c) from by rw [show (64 : Int32) = nn 64 from rfl, nn_mul, nn_add], if_pos (nn_inR (by omega) (by omega)), nn_idx (show 64 * q + c < 2147483648 by omega), nn_idx (show q < 2147483648 by omega), b245_58, ho]
            by_cases h1 : o = 1
            · rw [if_pos (by rw [h1]; decide), nn_add1]
              exact ih (c + 1) _ _ _ (by omega)
            · rw [if_neg (by rw [show (1 : Int32) = nn 1 from rfl, nn_le (by omega) (by omega)]; omega), if_pos hr, nn_idx (show c < 2147483648 by omega), if_pos hkp, nn_add1]
              exact ih (c + 1) _ _ _ (by omega)
      · rw [if_neg hw, if_pos hw, nn_add1, Int32.add_zero]
        exact ih (c + 1) a _ _ (by omega)
  exact lp n 0 0 none none (by omega)
theorem prsM (hn : I 14 0 24 = nn n) (hn6 : n ≤ 64) (ho : I 12 b 0 = nn o) (ho6 : o ≤ 6) : cal (d + 2) 246 [vr 14 0] (MX I J (TB T b)) = some (.inl (some (vi (PRS (I 28 7) (I 34 1) n o))), MX I J (TB T b)) := by
  rw [c246]
  have inner : ∀ m q (k : Nat) (a : Int32), k < o → q + m = o → ∃ o3 : Option AV, den (d + 2) 246 17 [some (vr 14 0), some (vi a), some (vi (nn k)), some (vi (nn q))] [] (MX I J (TB T b)) = den (d + 2) 246 4 [some (vr 14 0), some (vi (sm (fun q => bi (¬ k = q ∧ EN (I 28 7) (I 34 1) n k q)) m q a)), some (vi (nn (k + 1))), o3] [] (MX I J (TB T b)) := by
    intro m
    induction m with
    | zero =>
      intro q k a hk hq
      refine ⟨some (vi (nn q)), ?_⟩
      rw [b246_17, ho, if_pos ((nn_le (by omega) (by omega)).mpr (by omega)), nn_add1]
      rfl
    | succ m ih =>
      intro q k a hk hq
      rw [b246_17, ho, if_neg (by rw [nn_le (by omega) (by omega)]; omega)]
      show ∃ o3, _ = den _ _ _ [_, some (vi (sm _ m (q + 1) (a + _))), _, _] _ _
      dsimp only
      by_cases hkq : k = q
      · rw [if_pos (by rw [hkq]), bi0 (fun z => z.1 hkq), Int32.add_zero, nn_add1]
        exact ih (q + 1) k a hk (by omega)
      · rw [if_neg (by rw [nn_inj (by omega) (by omega)]; exact hkq), envyM d I J (TB T b) hn hn6 (by omega)]
        simp only [ret9]
        rw [b246_40]
        by_cases he : EN (I 28 7) (I 34 1) n k q
        · rw [bi1 he, if_neg (by decide), bi1 ⟨hkq, he⟩, nn_add1]
          exact ih (q + 1) k (a + 1) hk (by omega)
        · rw [bi0 he, if_pos rfl, bi0 (fun z => he z.2), Int32.add_zero, nn_add1]
          exact ih (q + 1) k a hk (by omega)
  have outer : ∀ m k (a : Int32) (o3 : Option AV), k + m = o → den (d + 2) 246 4 [some (vr 14 0), some (vi a), some (vi (nn k)), o3] [] (MX I J (TB T b)) = some (.inl (some (vi (itn (fun k a => sm (fun q => bi (¬ k = q ∧ EN (I 28 7) (I 34 1) n k q)) o 0 a) m k a))), MX I J (TB T b)) := by
    intro m
    induction m with
    | zero =>
      intro k a o3 hk
      rw [b246_4, ho, if_pos ((nn_le (by omega) (by omega)).mpr (by omega))]
      rfl
    | succ m ih =>
      intro k a o3 hk
      obtain ⟨o4, e⟩ := inner o 0 k a (by omega) (by omega)
      rw [b246_4, ho, if_neg (by rw [nn_le (by omega) (by omega)]; omega)]
      exact e.trans (ih (k + 1) _ o4 (by omega))
  exact outer o 0 0 none (by omega)
theorem yvM {w h : Nat} (x : Int32) (p0 : Nat → Nat) (hn : I 14 0 24 = nn n) (hn6 : n ≤ 64) (ho : I 12 b 0 = nn o) (ho6 : o ≤ 6) (hg : GW I w h) (hp : ∀ k, k < o → p0 k < 64 ∧ I 21 10 k = nn (p0 k)) : den (d + 3) 240 32 [some (vr 14 0), some (vi x), none, none] [] (MX I J (TB T b)) = den (d + 3) 240 69 [some (vr 14 0), some (vi x), some (vi (sm (fun k => bi (YS (I 28 7) (I 34 1) n w (p0 k) k (I 14 0 26) (I 21 11 k) 0)) o 0 0)), some (vi (nn o))] [] (MX I J (TB T b)) := by
  rw [b240_32, b240_34]
  have key := for_up (n := o) (Lp := fun c (a : Int32) => den (d + 3) 240 36 [some (vr 14 0), some (vi x), some (vi a), some (vi (nn c))] [] (MX I J (TB T b))) (step := fun k a => a + bi (YS (I 28 7) (I 34 1) n w (p0 k) k (I 14 0 26) (I 21 11 k) 0)) (by
    intro c a hc
    rw [b240_36, ho, if_neg (by rw [nn_le (by omega) (by omega)]; omega), b240_47, yesM d I J (TB T b) hn hn6 (by omega) hg (hp c hc).1 (hp c hc).2]
    simp only [ret9]
    rw [b240_53]
    by_cases h : YS (I 28 7) (I 34 1) n w (p0 c) c (I 14 0 26) (I 21 11 c) 0
    · rw [bi1 h, if_neg (by decide), b240_56, b240_61, b240_63, b240_66, nn_add1]
    · rw [bi0 h, if_pos rfl, b240_60, b240_61, b240_63, b240_66, nn_add1]) o 0 0 (by omega)
  refine Eq.trans key ?_
  rw [b240_36, ho, if_pos (Int32.le_refl _), sm_itn]
end TOTM
