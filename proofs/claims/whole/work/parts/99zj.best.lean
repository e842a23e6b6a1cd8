/-! The best of few cells: the class gathers cells and hopes -/
def PRE (wt : Nat → Int32) (o c : Nat) (ws : Nat → Int32) : Prop := (∀ i, i < c → (wt i = 0 → ∃ k, k < o ∧ ws i = nn k) ∧ (¬ wt i = 0 → ws i = -1)) ∧ ∀ i, c ≤ i → ws i = -1
theorem foB_P {K : (Nat → Int32) → Prop} {E S T : (Nat → Int32) → Int32} {wt : Nat → Int32} {o n : Nat} : ∀ r c ws st, c + r = n → PRE wt o c ws → (∀ q, st = some q → PRE wt o n q.2.2.2) → ∀ q, foB K E S T wt o r c ws st = some q → PRE wt o n q.2.2.2
  | 0, c, ws, st, hc, hP, hS, q, hq => by
    have hcn : c = n := by omega
    subst hcn
    by_cases z : BTT st (E ws) (S ws) (T ws) ∧ K ws
    · have : some (E ws, S ws, T ws, ws) = some q := (upB1 K E S T z).symm.trans hq
      cases this
      exact hP
    · exact hS q ((upB0 K E S T z).symm.trans hq)
  | r + 1, c, ws, st, hc, hP, hS, q, hq => by
    by_cases z : wt c = 0
    · rw [foB_dry K E S T wt o z] at hq
      have key : ∀ m k st, k + m ≤ o → (∀ q, st = some q → PRE wt o n q.2.2.2) → ∀ q, itn (fun k st => foB K E S T wt o r (c + 1) (wu ws c (nn k)) st) m k st = some q → PRE wt o n q.2.2.2 := by
        intro m
        induction m with
        | zero => intro k st _ hS q hq; exact hS q hq
        | succ m ih =>
          intro k st hk hS q hq
          rw [itn_su] at hq
          refine ih (k + 1) _ (by omega) ?_ q hq
          refine foB_P r (c + 1) _ st (by omega) ⟨fun i hi => ?_, fun i hi => ?_⟩ hS
          · unfold wu
            by_cases y : i = c
            · subst y; rw [if_pos rfl]; exact ⟨fun _ => ⟨k, by omega, rfl⟩, fun x => absurd z x⟩
            · rw [if_neg y]; exact hP.1 i (by omega)
          · unfold wu
            rw [if_neg (by omega)]
            exact hP.2 i (by omega)
      exact key o 0 st (by omega) hS q hq
    · rw [foB_wet K E S T wt o z] at hq
      refine foB_P r (c + 1) ws st (by omega) ⟨fun i hi => ?_, fun i hi => hP.2 i (by omega)⟩ hS q hq
      by_cases y : i = c
      · subst y; exact ⟨fun x => absurd x z, fun _ => hP.2 i (by omega)⟩
      · exact hP.1 i (by omega)
section GTH
variable (d : Nat) (I : PI) (J : PJ) (T : TL) {w h o : Nat}
theorem fewF (hM : RelM J w h) (h64 : w * h ≤ 64) (hC : RelC I J (w * h) o) (ho : I 1 T.1 3 = nn o) (ho6 : o ≤ 6) : cal (d + 1) 134 [vr 4 0] (MX I J T) = some (.inl (some (vi (bi (cn (NWt (I 39 0)) (w * h) ≤ 9 ∧ o ≤ 3)))), MX I J T) := by
  have ecn : ct (bt ((J 5 0 12) &&& ((J 5 0 13) ^^^ (-1)))) 64 0 0 = cn (NWt (I 39 0)) (w * h) := by
    have e64 : 64 = w * h + (64 - w * h) := by omega
    have hb : ∀ c, c < 64 → bt ((J 5 0 12) &&& ((J 5 0 13) ^^^ (-1))) c = (decide (c < w * h) && NWt (I 39 0) c) := fun c hc => by
      rw [bt_and, bt_not, (hM c hc).1, decide_eq_true hc, Bool.true_and]
      by_cases z : c < w * h
      · rw [decide_eq_true z, Bool.true_and, Bool.true_and]
        unfold NWt
        by_cases y : I 39 0 c = 0
        · rw [decide_eq_true y]
          cases x : bt (J 5 0 13) c with
          | false => rfl
          | true => exact absurd y ((hC.1 c hc).mp x).2
        · rw [decide_eq_false y, (hC.1 c hc).mpr ⟨z, y⟩]
          rfl
      · rw [decide_eq_false z, Bool.false_and, Bool.false_and]
    rw [ct_cn, e64, cn_cut (fun c hc => by
      cases z : bt ((J 5 0 12) &&& ((J 5 0 13) ^^^ (-1))) c with
      | false => rfl
      | true =>
        rw [hb c (bt_64 z), decide_eq_false (by omega)] at z
        cases z)]
    exact cn_congr (fun c hc => by rw [hb c (by omega), decide_eq_true hc, Bool.true_and])
  have hle := cn_le (NWt (I 39 0)) (w * h)
  rw [c134, bitC, ecn]
  simp only [ret9]
  rw [b134_22]
  by_cases z : cn (NWt (I 39 0)) (w * h) ≤ 9
  · rw [if_neg (by rw [show (9 : Int32) = nn 9 from rfl, nn_lt (by omega) (by omega)]; omega), b134_27, ho]
    by_cases y : o ≤ 3
    · rw [if_neg (by rw [show (3 : Int32) = nn 3 from rfl, nn_lt (by omega) (by omega)]; omega), b134_41, b134_46, if_pos (.inr rfl), bi1 ⟨z, y⟩]
    · rw [if_pos (show (3 : Int32) < nn o from (nn_lt (a := 3) (by omega) (by omega)).mpr (by omega)), b134_45, b134_46, if_pos (.inl rfl), bi0 (fun q => y q.2)]
  · rw [if_pos (show (9 : Int32) < nn (cn (NWt (I 39 0)) (w * h)) from (nn_lt (a := 9) (by omega) (by omega)).mpr (by omega)), b134_45, b134_46, if_pos (.inl rfl), bi0 (fun q => z q.1)]
theorem cm_ce (I : PI) (ce sf : Nat → Int32) (i : Nat) (v : Int32) : up3 (upA (upA I 22 0 ce) 4 0 sf) 22 0 i v = upA (upA I 22 0 (wu ce i v)) 4 0 sf := by
  funext a b c
  unfold up3 upA wu
  by_cases h1 : a = 22
  · subst h1; simp
    by_cases h2 : b = 0
    · subst h2; simp
    · simp [h2]
  · simp [h1]
theorem cm_s (I : PI) (ce sf : Nat → Int32) (i : Nat) (v : Int32) : up3 (upA (upA I 22 0 ce) 4 0 sf) 4 0 i v = upA (upA I 22 0 ce) 4 0 (wu sf i v) := upA_up3 _ _ _ _ _ _
/-- no water is kept -/
def NKW (kp wt : Nat → Int32) (n : Nat) : Prop := ∀ i, i < n → ¬ wt i = 0 → kp i = -1
theorem cellsF (hn : I 5 0 9 = nn (w * h)) (h64 : w * h ≤ 64) (hC : RelC I J (w * h) o) (h9 : cn (NWt (I 39 0)) (w * h) ≤ 9) : ∃ ce sf : Nat → Int32, cal (d + 1) 136 [vr 4 0] (MX I J T) = some (.inl (some (vi (bi (NKW (I 28 6) (I 39 0) (w * h))))), MX (upA (upA I 22 0 ce) 4 0 sf) J T) ∧ (∀ i, ¬ i = 9 → sf i = I 4 0 i) ∧ (NKW (I 28 6) (I 39 0) (w * h) → sf 9 = nn (cn (NWt (I 39 0)) (w * h)) ∧ ∀ c, c < w * h → I 39 0 c = 0 → ce (cn (NWt (I 39 0)) c) = nn c) := by
  have lp : ∀ m c (ce sf : Nat → Int32), c + m = w * h → sf 9 = nn (cn (NWt (I 39 0)) c) → (∀ i, ¬ i = 9 → sf i = I 4 0 i) → (∀ i, i < c → I 39 0 i = 0 → ce (cn (NWt (I 39 0)) i) = nn i) → NKW (I 28 6) (I 39 0) c → ∃ ce2 sf2 : Nat → Int32, den (d + 1) 136 7 [some (vr 4 0), some (vi (nn c))] [] (MX (upA (upA I 22 0 ce) 4 0 sf) J T) = some (.inl (some (vi (bi (NKW (I 28 6) (I 39 0) (w * h))))), MX (upA (upA I 22 0 ce2) 4 0 sf2) J T) ∧ (∀ i, ¬ i = 9 → sf2 i = I 4 0 i) ∧ (NKW (I 28 6) (I 39 0) (w * h) → sf2 9 = nn (cn (NWt (I 39 0)) (w * h)) ∧ ∀ c, c < w * h → I 39 0 c = 0 → ce2 (cn (NWt (I 39 0)) c) = nn c) := by
    intro m
    induction m with
    | zero =>
      intro c ce sf hc h1 h2 h3 h4
      have hcn : c = w * h := by omega
      subst hcn
      have e9 : (upA (upA I 22 0 ce) 4 0 sf) 5 0 9 = nn (w * h) := hn
      refine ⟨ce, sf, ?_, h2, fun _ => ⟨h1, h3⟩⟩
      rw [b136_7, e9, if_pos (Int32.le_refl _), bi1 h4]
    | succ m ih =>
      intro c ce sf hc h1 h2 h3 h4
      have e9 : (upA (upA I 22 0 ce) 4 0 sf) 5 0 9 = nn (w * h) := hn
      have wc := watC d (c := c) (upA (upA I 22 0 ce) 4 0 sf) J T (by omega)
      have hsu := cn_succ (NWt (I 39 0)) c
      have hmono := cn_mono2 (NWt (I 39 0)) (show c + 1 ≤ w * h by omega)
      rw [b136_7, e9, if_neg (by rw [nn_le (by omega) (by omega)]; omega), wc]
      simp only [ret9]
      rw [b136_26]
      by_cases z : I 39 0 c = 0
      · rw [if_pos (show NWt (I 39 0) c = true from decide_eq_true z)] at hsu
        have es : (upA (upA I 22 0 ce) 4 0 sf) 4 0 9 = nn (cn (NWt (I 39 0)) c) := h1
        rw [bi0 (fun y => ((hC.1 c (by omega)).mp y).2 z), if_neg (fun y => y rfl), es, if_neg (by rw [show (9 : Int32) = nn 9 from rfl, nn_le (by omega) (by omega)]; omega), if_pos (nn_inR (by omega) (by omega)), nn_idx (by omega), cm_ce, cm_s, nn_add1, nn_add1, ← hsu]
        refine ih (c + 1) _ _ (by omega) rfl (fun i hi => by unfold wu; rw [if_neg hi]; exact h2 i hi) (fun i hi hw => ?_) (fun i hi hw => ?_)
        · unfold wu
          by_cases y : i = c
          · rw [y, if_pos rfl]
          · have hlt := cn_mono2 (NWt (I 39 0)) (show i + 1 ≤ c by omega)
            rw [cn_succ, if_pos (show NWt (I 39 0) i = true from decide_eq_true hw)] at hlt
            rw [if_neg (by omega)]
            exact h3 i (by omega) hw
        · by_cases y : i = c
          · rw [y] at hw; exact absurd z hw
          · exact h4 i (by omega) hw
      · rw [show NWt (I 39 0) c = false from decide_eq_false z, if_neg (by decide)] at hsu
        have ek : (upA (upA I 22 0 ce) 4 0 sf) 28 2 c = I 28 6 c := (hC.2 c (by omega)).2.2.2.2.2.1
        rw [bi1 ((hC.1 c (by omega)).mpr ⟨by omega, z⟩), if_pos (by decide), if_pos (nn_inR (by omega) (by omega)), nn_idx (by omega), ek]
        by_cases y : I 28 6 c = -1
        · rw [if_pos y, nn_add1]
          refine ih (c + 1) ce sf (by omega) (by rw [h1, show cn (NWt (I 39 0)) (c + 1) = cn (NWt (I 39 0)) c by omega]) h2 (fun i hi hw => ?_) (fun i hi hw => ?_)
          · by_cases x : i = c
            · rw [x] at hw; exact absurd hw z
            · exact h3 i (by omega) hw
          · by_cases x : i = c
            · rw [x]; exact y
            · exact h4 i (by omega) hw
        · have hno : ¬ NKW (I 28 6) (I 39 0) (w * h) := fun q => y (q c (by omega) z)
          refine ⟨ce, sf, ?_, h2, fun q => absurd q hno⟩
          rw [if_neg y, bi0 hno]
  have e0 : up3 I 4 0 9 0 = upA (upA I 22 0 (I 22 0)) 4 0 (wu (I 4 0) 9 0) := by
    rw [← cm_s, upA_id, upA_id]
  rw [c136, e0]
  exact lp (w * h) 0 (I 22 0) (wu (I 4 0) 9 0) (by omega) rfl (fun i hi => by unfold wu; rw [if_neg hi]) (fun i hi => absurd hi (by omega)) (fun i hi => absurd hi (by omega))
end GTH
