/-! The class's search for a move, as a whole; its making -/
theorem itn_invB {β : Type} {f : Nat → β → β} (P : β → Prop) : ∀ k c b, (∀ i b, c ≤ i → i < c + k → P b → P (f i b)) → P b → P (itn f k c b)
  | 0, _, _, _, hb => hb
  | k + 1, c, b, h, hb => itn_invB P k (c + 1) (f c b) (fun i b h1 h2 => h i b (by omega) (by omega)) (h c b (by omega) (by omega) hb)
def MVok (ws : Nat → Int32) (K : (Nat → Int32) → Prop) (n o : Nat) (st : MVT) : Prop := ∀ c k q, st.2.2 = some (c, k, q) → c < n ∧ k < o ∧ ((q = none ∧ K (wu ws c (nn k))) ∨ ∃ e, q = some e ∧ e < n ∧ ¬ e = c ∧ ws e = nn k ∧ K (ex ws c e))
theorem lk_ok {ws : Nat → Int32} {K : (Nat → Int32) → Prop} {n o : Nat} {law : Prop} {S2 T2 : Int32} {mv : Nat × Nat × Option Nat} {st : MVT} (h0 : MVok ws K n o st) (h1 : law → MVok ws K n o (S2, T2, some mv)) : MVok ws K n o (lk law S2 T2 mv st) := by
  by_cases z : BTR st.1 st.2.1 S2 T2 ∧ law
  · rw [lk1 z.1 z.2]; exact h1 z.2
  · rw [lk0 z]; exact h0
theorem SK_ok {ws wt : Nat → Int32} {K : (Nat → Int32) → Prop} {SH TT : (Nat → Int32) → Int32} {n o : Nat} (ho6 : o ≤ 6) (hr : ∀ c, c < n → ownr o (ws c)) (hb1 : non9 (B1 ws wt) n) : MVok ws K n o (SK ws wt K SH TT n o) := by
  unfold SK
  refine itn_invB _ _ _ _ (fun c st _ hc hs => itn_invB _ _ _ _ (fun e st h1 h2 hs => ?_) hs) ?_
  · unfold s2
    by_cases z : wt c = 0 ∧ wt e = 0 ∧ ¬ ws c = ws e
    · rw [if_pos z]
      refine lk_ok hs (fun hl c2 k2 q2 e2 => ?_)
      cases e2
      rcases hr e (by omega) with y | ⟨k, hk, y⟩
      · exact absurd ⟨y, z.2.1⟩ (hb1 e (by omega))
      · rw [y, nn_idx (by omega)]
        exact ⟨by omega, hk, .inr ⟨e, rfl, by omega, by omega, y, hl⟩⟩
    · rw [if_neg z]; exact hs
  · unfold SK1
    refine itn_invB _ _ _ _ (fun c st _ hc hs => itn_invB _ _ _ _ (fun k st h1 h2 hs => ?_) hs) ?_
    · unfold s1
      by_cases z : wt c = 0 ∧ ¬ ws c = nn k
      · rw [if_pos z]
        refine lk_ok hs (fun hl c2 k2 q2 e2 => ?_)
        cases e2
        exact ⟨by omega, by omega, .inl ⟨rfl, hl⟩⟩
      · rw [if_neg z]; exact hs
    · intro c k q e
      cases e
theorem up_216 (I : PI) (su sf : Nat → Int32) (i : Nat) (v : Int32) : up3 (upA (upA I 21 6 su) 6 0 sf) 21 6 i v = upA (upA I 21 6 (wu su i v)) 6 0 sf := by
  funext a b c
  unfold up3 upA wu
  by_cases h1 : a = 21
  · subst h1; simp
    by_cases h2 : b = 6
    · subst h2; simp
    · simp [h2]
  · simp [h1]
theorem sumDr (d : Nat) {ws : Nat → Int32} {n o k : Nat} (I : PI) (J : PJ) (T : TL) (hn : I 5 0 9 = nn n) (hn6 : n ≤ 64) (hk : k < 6) (hD : DR ws (I 28 3) (J 42 1) n o) : cal (d + 2) 85 [vr 0 0, vi (nn k)] (MX I J T) = some (.inl (some (vi (SU ws (I 34 0) n k (nn k)))), MX I J T) := by
  rw [c85, if_pos (nn_inR hk (by omega)), nn_idx (by omega), sumF d (J 42 1 k) ws (nn k) I J T hn hn6 hk (fun c hc => (hD.2 k hk c (by omega)).trans ⟨fun z => z.2, fun z => ⟨hc, z⟩⟩)]
  simp only [ret9]
  rw [b85_14]
section SEEKZ
variable (d : Nat) {w h o : Nat} (I : PI) (J : PJ) (T : TL)
def CS0 (ws : Nat → Int32) (I : PI) (J : PJ) (T : TL) (w h o : Nat) : Prop := RelW I w h ∧ 0 < w * h ∧ RelM J w h ∧ RelC I J (w * h) o ∧ DR ws (I 28 3) (J 42 1) (w * h) o ∧ I 1 T.1 3 = nn o ∧ o ≤ 6 ∧ LAW ws (I 28 6) (I 39 0) w h o (I 5 0 10)
theorem lpS {ws : Nat → Int32} (hC : CS0 ws I J T w h o) : ∀ m k (su sf : Nat → Int32), k + m = o → (∀ i, i < k → su i = SU ws (I 34 0) (w * h) i (nn i)) → ∃ su2 sf2 : Nat → Int32, den (d + 3) 122 12 [some (vr 6 0), some (vi (nn k))] [] (MX (upA (upA I 21 6 su) 6 0 sf) J T) = den (d + 3) 122 84 [some (vr 6 0), some (vi (nn o))] [] (MX (upA (upA I 21 6 su2) 6 0 sf2) J T) ∧ (∀ i, i < o → su2 i = SU ws (I 34 0) (w * h) i (nn i)) ∧ sf2 4 = sm (fun k => mx0 (I 21 4 k - SU ws (I 34 0) (w * h) k (nn k))) m k (sf 4) ∧ sf2 5 = sm (fun k => SU ws (I 34 0) (w * h) k (nn k)) m k (sf 5) := by
  obtain ⟨hW, hp, hM, hCC, hD, ho, ho6, hL⟩ := hC
  have h64 := relW_le hW
  have h9 : I 5 0 9 = nn (w * h) := hW.2.2.1
  intro m
  induction m with
  | zero =>
    intro k su sf hk hsu
    have : k = o := by omega
    subst this
    refine ⟨su, sf, ?_, hsu, rfl, rfl⟩
    rw [b122_12]
    show (if I 1 T.1 3 ≤ _ then _ else _) = _
    rw [ho, if_pos (Int32.le_refl _)]
  | succ m ih =>
    intro k su sf hk hsu
    have hr : inR (nn k) 6 = true := nn_inR (by omega) (by omega)
    have so := sumDr d (upA (upA I 21 6 su) 6 0 sf) J T h9 h64 (show k < 6 by omega) hD
    change cal (d + 2) 85 [vr 0 0, vi (nn k)] (MX (upA (upA I 21 6 su) 6 0 sf) J T) = some (.inl (some (vi (SU ws (I 34 0) (w * h) k (nn k)))), MX (upA (upA I 21 6 su) 6 0 sf) J T) at so
    obtain ⟨su2, sf2, e2, q2, r2, t2⟩ := ih (k + 1) (wu su k (SU ws (I 34 0) (w * h) k (nn k))) (wu (wu sf 4 (sf 4 + mx0 (I 21 4 k - SU ws (I 34 0) (w * h) k (nn k)))) 5 (sf 5 + SU ws (I 34 0) (w * h) k (nn k))) (by omega) (fun i hi => by
      unfold wu
      by_cases z : i = k
      · rw [if_pos z, z]
      · rw [if_neg z]; exact hsu i (by omega))
    refine ⟨su2, sf2, ?_, q2, r2, t2⟩
    rw [b122_12]
    show (if I 1 T.1 3 ≤ _ then _ else _) = _
    rw [ho, if_neg (by rw [nn_le (by omega) (by omega)]; omega), b122_26, so]
    simp only [ret9]
    have lc := lackC (d + 2) (upA (upA I 21 6 (wu su k (SU ws (I 34 0) (w * h) k (nn k)))) 6 0 sf) J T k (SU ws (I 34 0) (w * h) k (nn k)) (by omega)
    rw [b122_39, if_pos hr, nn_idx (by omega), up_216, b122_40, if_pos hr, nn_idx (by omega)]
    have hx : (upA (upA I 21 6 (wu su k (SU ws (I 34 0) (w * h) k (nn k)))) 6 0 sf) 21 6 k = SU ws (I 34 0) (w * h) k (nn k) := by
      show wu su k _ k = _
      unfold wu
      rw [if_pos rfl]
    rw [hx, lc]
    simp only [ret9]
    rw [b122_59, if_pos hr, nn_idx (by omega), hx, upA_6, upA_6, b122_81, nn_add1]
    exact e2
theorem seekC {ws : Nat → Int32} (hC : CS0 ws I J T w h o) : ∃ su sf : Nat → Int32, cal (d + 5) 122 [vr 6 0] (MX I J T) = some (.inl (some (vi (fg1 (SK ws (I 39 0) (KKf I w h o) (SHf I (w * h) o) (TTf I (w * h) o) (w * h) o).2.2.isSome))), MX (upA (upA I 21 6 su) 6 0 sf) J T) ∧ SC sf (SK ws (I 39 0) (KKf I w h o) (SHf I (w * h) o) (TTf I (w * h) o) (w * h) o) := by
  obtain ⟨hW, hp, hM, hCC, hD, ho, ho6, hL⟩ := id hC
  have h64 := relW_le hW
  obtain ⟨su, sf, e1, q1, r1, t1⟩ := lpS (d + 2) I J T hC o 0 (I 21 6) (wu (wu (I 6 0) 4 0) 5 0) (by omega) (fun i hi => absurd hi (by omega))
  have hC2 : CSX ws (upA I 21 6 su) J T w h o := ⟨hW, hp, hM, hCC, hD, ho, ho6, hL, q1⟩
  obtain ⟨sf3, e3, q3, r3⟩ := lpA d (upA I 21 6 su) J T hC2 (w * h) 0 (wu (wu (wu sf 6 (sf 4)) 7 (sf 5)) 8 (-1)) (SHf I (w * h) o ws, TTf I (w * h) o ws, none) (by omega) ⟨r1, t1, rfl⟩ ⟨r1, t1⟩
  obtain ⟨sf4, e4, q4, r4⟩ := lpB d (upA I 21 6 su) J T hC2 (w * h) 0 sf3 _ (by omega) q3 r3
  have q5 : SC sf4 (SK ws (I 39 0) (KKf I w h o) (SHf I (w * h) o) (TTf I (w * h) o) (w * h) o) := q4
  refine ⟨su, sf4, ?_, q5⟩
  have hok := SK_ok (K := KKf I w h o) (SH := SHf I (w * h) o) (TT := TTf I (w * h) o) ho6 (fun c hc => (hD.1 c hc).2) hL.1
  generalize SK ws (I 39 0) (KKf I w h o) (SHf I (w * h) o) (TTf I (w * h) o) (w * h) o = st at q5 hok
  have e0 : cal (d + 5) 122 [vr 6 0] (MX I J T) = den (d + 5) 122 169 [some (vr 6 0), some (vi (nn (w * h)))] [] (MX (upA (upA I 21 6 su) 6 0 sf4) J T) := by
    rw [c122, ← upA_id (up3 (up3 I 6 0 4 0) 6 0 5 0) 6 0]
    refine Eq.trans ?_ (Eq.trans e1 ?_)
    · show den (d + 5) 122 12 [some (vr 6 0), some (vi (nn 0))] [] _ = _
      congr 2
      funext a b c
      unfold up3 upA wu
      by_cases h1 : a = 6
      · subst h1; simp
        by_cases h2 : b = 0
        · subst h2; simp
        · simp [h2]
      · simp [h1]
        by_cases h2 : a = 21
        · subst h2; simp
          by_cases h3 : b = 6
          · simp [h3]
          · simp [h3]
        · simp [h2]
    · rw [b122_84]
      show den (d + 5) 122 107 [some (vr 6 0), some (vi (nn 0))] [] (MX (up3 (up3 (up3 (upA (upA I 21 6 su) 6 0 sf) 6 0 6 (sf 4)) 6 0 7 (sf 5)) 6 0 8 (-1)) J T) = _
      rw [upA_6, upA_6, upA_6]
      exact e3.trans e4
  rw [e0, b122_169]
  show (if sf4 8 = -1 then _ else _) = _
  obtain ⟨s1, s2, s3⟩ := q5
  cases hz : st.2.2 with
  | none =>
    rw [hz] at s3
    rw [if_pos s3, b122_181, b122_182, if_pos (.inl rfl)]
    rfl
  | some p =>
    obtain ⟨c, k, q⟩ := p
    rw [hz] at s3
    have hb := (hok c k q hz).1
    rw [if_neg (by rw [s3.1]; exact nn_ne_neg (by omega)), b122_177, b122_182, if_pos (.inr rfl)]
    rfl
end SEEKZ
