/-! Sums over all owners: totals, lacks, bounds, pairs of envy, votes -/
def TS (ws pr : Nat → Int32) (n o : Nat) : Int32 := sm (fun k => SU ws pr n k (nn k)) o 0 0
def mx0 (v : Int32) : Int32 := if v ≤ 0 then 0 else v
theorem max0 (v : Int32) : max9 0 v = mx0 v := by
  unfold max9 mx0
  by_cases h : 0 < v
  · rw [if_pos h, if_neg (i32_nle.mpr h)]
  · rw [if_neg h, if_pos (i32_nlt.mp h)]
def SHO (ws pr had : Nat → Int32) (n o : Nat) : Int32 := sm (fun k => mx0 (had k - SU ws pr n k (nn k))) o 0 0
def GP (pr : Nat → Int32) (o c : Nat) : Int32 := itn (fun k a => max9 a (pr (64 * k + c))) (o - 1) 1 (pr (64 * 0 + c))
def BD (pr wt kp : Nat → Int32) (n o : Nat) : Int32 := sm (fun c => if ¬ wt c = 0 then 0 else if kp c = -1 then GP pr o c else pr (64 * (kp c).toNatClampNeg + c)) n 0 0
noncomputable def PRS (ws pr : Nat → Int32) (n o : Nat) : Int32 := itn (fun k a => sm (fun q => bi (¬ k = q ∧ EN ws pr n k q)) o 0 a) o 0 0
section TOT
variable (d : Nat) {n o : Nat} (I : PI) (J : PJ) (T : TL)
theorem totC (hn : I 5 0 9 = nn n) (hn6 : n ≤ 64) (ho : I 1 T.1 3 = nn o) (ho6 : o ≤ 6) (hD : RelD I J n o) : cal (d + 3) 90 [vr 0 0] (MX I J T) = some (.inl (some (vi (TS (I 28 7) (I 34 0) n o))), MX I J T) := by
  rw [c90]
  have key := for_up (n := o) (Lp := fun c (a : Int32) => den (d + 3) 90 4 [some (vr 0 0), some (vi a), some (vi (nn c))] [] (MX I J T)) (step := fun k a => a + SU (I 28 7) (I 34 0) n k (nn k)) (by
    intro c a hc
    rw [b90_4, ho, if_neg (by rw [nn_le (by omega) (by omega)]; omega), sumOfC d I J T hn hn6 (by omega) hD]
    simp only [ret9]
    rw [b90_24, nn_add1]) o 0 0 (by omega)
  refine Eq.trans key ?_
  rw [b90_4, ho, if_pos (Int32.le_refl _), sm_itn]
  rfl
theorem lackC (k : Nat) (s : Int32) (hk : k < 6) : cal d 92 [vr 0 0, vi (nn k), vi s] (MX I J T) = some (.inl (some (vi (mx0 (I 21 4 k - s)))), MX I J T) := by
  rw [c92, if_pos (nn_inR hk (by omega)), nn_idx (by omega)]
  unfold mx0
  by_cases h : I 21 4 k - s ≤ 0
  · rw [if_pos h, if_pos h]
  · rw [if_neg h, if_neg h]
theorem shoC (hn : I 5 0 9 = nn n) (hn6 : n ≤ 64) (ho : I 1 T.1 3 = nn o) (ho6 : o ≤ 6) (hD : RelD I J n o) : cal (d + 3) 91 [vr 0 0] (MX I J T) = some (.inl (some (vi (SHO (I 28 7) (I 34 0) (I 21 4) n o))), MX I J T) := by
  rw [c91]
  have key := for_up (n := o) (Lp := fun c (a : Int32) => den (d + 3) 91 4 [some (vr 0 0), some (vi a), some (vi (nn c))] [] (MX I J T)) (step := fun k a => a + mx0 (I 21 4 k - SU (I 28 7) (I 34 0) n k (nn k))) (by
    intro c a hc
    rw [b91_4, ho, if_neg (by rw [nn_le (by omega) (by omega)]; omega), sumOfC d I J T hn hn6 (by omega) hD]
    simp only [ret9]
    rw [b91_26, lackC (d + 2) I J T c _ (by omega)]
    simp only [ret9]
    rw [b91_29, nn_add1]) o 0 0 (by omega)
  refine Eq.trans key ?_
  rw [b91_4, ho, if_pos (Int32.le_refl _), sm_itn (fun k => mx0 (I 21 4 k - SU (I 28 7) (I 34 0) n k (nn k)))]
  rfl
theorem watC {c : Nat} (hc : c < 64) : cal d 94 [vr 5 0, vi (nn c)] (MX I J T) = some (.inl (some (vi (bi (bt (J 5 0 13) c = true)))), MX I J T) := by
  rw [c94]
  by_cases h : bt (J 5 0 13) c = false
  · rw [if_pos ((bit0 _ hc).mpr h), bi0 (by rw [h]; decide)]
  · rw [if_neg (fun z => h ((bit0 _ hc).mp z)), bi1 (by
      cases z : bt (J 5 0 13) c with
      | true => rfl
      | false => exact absurd z h)]
theorem grC (ho : I 1 T.1 3 = nn o) (ho6 : o ≤ 6) (ho1 : 1 ≤ o) {c : Nat} (hc : c < 64) : cal (d + 1) 95 [vr 0 0, vi (nn c)] (MX I J T) = some (.inl (some (vi (GP (I 34 0) o c))), MX I J T) := by
  rw [c95, show (0 : Int32) = nn 0 from rfl, priceC d I J T (k := 0) (by omega) hc]
  simp only [ret9]
  rw [b95_9]
  have key := for_up (n := o) (Lp := fun k (a : Int32) => den (d + 1) 95 12 [some (vr 0 0), some (vi (nn c)), some (vi a), some (vi (nn k))] [] (MX I J T)) (step := fun k a => max9 a (I 34 0 (64 * k + c))) (by
    intro k a hk
    rw [b95_12, ho, if_neg (by rw [nn_le (by omega) (by omega)]; omega), priceC d I J T (k := k) (by omega) hc]
    simp only [ret9]
    rw [b95_36, nn_add1]) (o - 1) 1 (I 34 0 (64 * 0 + c)) (by omega)
  refine Eq.trans key ?_
  rw [b95_12, ho, if_pos (Int32.le_refl _)]
  rfl
theorem bndC (hn : I 5 0 9 = nn n) (hn6 : n ≤ 64) (ho : I 1 T.1 3 = nn o) (ho6 : o ≤ 6) (ho1 : 1 ≤ o) (hC : RelC I J n o) : cal (d + 2) 93 [vr 0 0] (MX I J T) = some (.inl (some (vi (BD (I 34 0) (I 39 0) (I 28 6) n o))), MX I J T) := by
  rw [c93]
  have lp : ∀ m c (a : Int32) (o3 : Option AV), c + m = n → den (d + 2) 93 4 [some (vr 0 0), some (vi a), some (vi (nn c)), o3] [] (MX I J T) = some (.inl (some (vi (sm (fun c => if ¬ I 39 0 c = 0 then 0 else if I 28 6 c = -1 then GP (I 34 0) o c else I 34 0 (64 * (I 28 6 c).toNatClampNeg + c)) m c a))), MX I J T) := by
    intro m
    induction m with
    | zero =>
      intro c a o3 hc
      rw [b93_4, hn, if_pos ((nn_le (by omega) (by omega)).mpr (by omega))]
      rfl
    | succ m ih =>
      intro c a o3 hc
      have hcc := hC.2 c (by omega)
      have hwt := hC.1 c (by omega)
      rw [b93_4, hn, if_neg (by rw [nn_le (by omega) (by omega)]; omega), watC (d + 1) I J T (by omega)]
      simp only [ret9]
      rw [b93_23]
      show _ = some (Sum.inl (some (vi (sm _ m (c + 1) (a + _)))), _)
      dsimp only
      by_cases hw : I 39 0 c = 0
      · have hb : ¬ bt (J 5 0 13) c = true := fun z => (hwt.mp z).2 hw
        rw [bi0 hb, if_neg (fun z => z rfl), if_pos (nn_inR (by omega) (by omega)), nn_idx (by omega), hcc.2.2.2.2.2.1, if_neg (show ¬ ¬ I 39 0 c = 0 from fun z => z hw)]
        by_cases hk : I 28 6 c = -1
        · rw [if_pos hk, if_pos hk, grC d I J T ho ho6 ho1 (by omega)]
          simp only [ret9]
          rw [b93_59, nn_add1]
          exact ih (c + 1) _ _ (by omega)
        · rw [if_neg hk, if_neg hk]
          rcases hcc.2.2.2.2.2.2 with z | ⟨q, hq, z⟩
          · exact absurd z hk
          · rw [z, priceC (d + 1) I J T (by omega) (by omega), nn_idx (by omega)]
            simp only [ret9]
            rw [b93_51, nn_add1]
            exact ih (c + 1) _ _ (by omega)
      · have hb : bt (J 5 0 13) c = true := hwt.mpr ⟨by omega, hw⟩
        rw [bi1 hb, if_pos (by decide), if_pos hw, nn_add1, Int32.add_zero]
        exact ih (c + 1) a o3 (by omega)
  exact lp n 0 0 none (by omega)
theorem prsC (hn : I 5 0 9 = nn n) (hn6 : n ≤ 64) (ho : I 1 T.1 3 = nn o) (ho6 : o ≤ 6) (hD : RelD I J n o) : cal (d + 4) 96 [vr 0 0] (MX I J T) = some (.inl (some (vi (PRS (I 28 7) (I 34 0) n o))), MX I J T) := by
  rw [c96]
  have inner : ∀ m q (k : Nat) (a : Int32), k < o → q + m = o → ∃ o3 : Option AV, den (d + 4) 96 20 [some (vr 0 0), some (vi a), some (vi (nn k)), some (vi (nn q))] [] (MX I J T) = den (d + 4) 96 4 [some (vr 0 0), some (vi (sm (fun q => bi (¬ k = q ∧ EN (I 28 7) (I 34 0) n k q)) m q a)), some (vi (nn (k + 1))), o3] [] (MX I J T) := by
    intro m
    induction m with
    | zero =>
      intro q k a hk hq
      refine ⟨some (vi (nn q)), ?_⟩
      rw [b96_20, ho, if_pos ((nn_le (by omega) (by omega)).mpr (by omega)), nn_add1]
      rfl
    | succ m ih =>
      intro q k a hk hq
      rw [b96_20, ho, if_neg (by rw [nn_le (by omega) (by omega)]; omega)]
      show ∃ o3, _ = den _ _ _ [_, some (vi (sm _ m (q + 1) (a + _))), _, _] _ _
      dsimp only
      by_cases hkq : k = q
      · rw [if_pos (by rw [hkq]), bi0 (fun z => z.1 hkq), Int32.add_zero, nn_add1]
        exact ih (q + 1) k a hk (by omega)
      · rw [if_neg (by rw [nn_inj (by omega) (by omega)]; exact hkq), envyC d I J T hn hn6 (by omega) (by omega) hD]
        simp only [ret9]
        rw [b96_45]
        by_cases he : EN (I 28 7) (I 34 0) n k q
        · rw [bi1 he, if_neg (by decide), bi1 ⟨hkq, he⟩, nn_add1]
          exact ih (q + 1) k (a + 1) hk (by omega)
        · rw [bi0 he, if_pos rfl, bi0 (fun z => he z.2), Int32.add_zero, nn_add1]
          exact ih (q + 1) k a hk (by omega)
  have outer : ∀ m k (a : Int32) (o3 : Option AV), k + m = o → den (d + 4) 96 4 [some (vr 0 0), some (vi a), some (vi (nn k)), o3] [] (MX I J T) = some (.inl (some (vi (itn (fun k a => sm (fun q => bi (¬ k = q ∧ EN (I 28 7) (I 34 0) n k q)) o 0 a) m k a))), MX I J T) := by
    intro m
    induction m with
    | zero =>
      intro k a o3 hk
      rw [b96_4, ho, if_pos ((nn_le (by omega) (by omega)).mpr (by omega))]
      rfl
    | succ m ih =>
      intro k a o3 hk
      obtain ⟨o4, e⟩ := inner o 0 k a (by omega) (by omega)
      rw [b96_4, ho, if_neg (by rw [nn_le (by omega) (by omega)]; omega)]
      exact e.trans (ih (k + 1) _ o4 (by omega))
  exact outer o 0 0 none (by omega)
theorem yvC {w : Nat} (p0 : Nat → Nat) (hn : I 5 0 9 = nn n) (hn6 : n ≤ 64) (ho : I 1 T.1 3 = nn o) (ho6 : o ≤ 6) (hw : I 5 0 7 = nn w) (hw1 : 1 ≤ w) (hw8 : w ≤ 8) (hp : ∀ k, k < o → p0 k < 64 ∧ I 21 3 k = nn (p0 k)) (hD : RelD I J n o) : cal (d + 4) 98 [vr 0 0] (MX I J T) = some (.inl (some (vi (sm (fun k => bi (YS (I 28 7) (I 34 0) n w (p0 k) k (I 5 0 11) (I 21 4 k) 0)) o 0 0))), MX I J T) := by
  rw [c98]
  have key := for_up (n := o) (Lp := fun c (a : Int32) => den (d + 4) 98 4 [some (vr 0 0), some (vi a), some (vi (nn c))] [] (MX I J T)) (step := fun k a => a + bi (YS (I 28 7) (I 34 0) n w (p0 k) k (I 5 0 11) (I 21 4 k) 0)) (by
    intro c a hc
    rw [b98_4, ho, if_neg (by rw [nn_le (by omega) (by omega)]; omega), yesC d I J T hn hn6 (by omega) hw hw1 hw8 (hp c hc).1 (hp c hc).2 hD]
    simp only [ret9]
    rw [b98_23]
    by_cases h : YS (I 28 7) (I 34 0) n w (p0 c) c (I 5 0 11) (I 21 4 c) 0
    · rw [bi1 h, if_neg (by decide), nn_add1]
    · rw [bi0 h, if_pos rfl, nn_add1, Int32.add_zero]) o 0 0 (by omega)
  refine Eq.trans key ?_
  rw [b98_4, ho, if_pos (Int32.le_refl _), sm_itn]
end TOT
