/-! The book: the class's token -/
section ADW
variable (d : Nat) (I : PI) (J : PJ) (T : TL) {f : Nat → Int32} {n : Nat}
theorem wu_same {sf : Nat → Int32} {i : Nat} {v : Int32} (h : sf i = v) : sf = wu sf i v := by
  funext x
  unfold wu
  by_cases z : x = i
  · rw [if_pos z, z, h]
  · rw [if_neg z]
theorem nmAt_lt {f : Nat → Int32} {j : Nat} : ∀ m, (∀ x, x < m → isDg (f (j + x))) → nmAt f j m < 10 ^ m
  | 0, _ => by show 0 < 10 ^ 0; decide
  | m + 1, h => by
    have i := nmAt_lt m (fun x hx => h x (by omega))
    obtain ⟨b, b1, b2, b3, b4⟩ := dg_nn (h m (by omega))
    show nmAt f j m * 10 + ((f (j + m)).toNatClampNeg - 48) < 10 ^ (m + 1)
    rw [b4, Nat.pow_succ]
    omega
theorem numC (hf : I 37 0 = f) (hn : n ≤ 500) {j k : Nat} (hr : runP isDg f n j k) : ∀ m i (sf : Nat → Int32) (y : Int32), i + m = k → j ≤ i → sf 1 = nn n → sf 2 = nn i → sf 3 = nn j → (i - j ≤ 3 → y = nn (nmAt f j (i - j))) → ∃ sf2 : Nat → Int32, den (d + 1) 30 2 [some (vr 8 0), some (vi y)] [] (MX (upA I 8 0 sf) J T) = some (.inl none, MX (upA I 8 0 sf2) J T) ∧ sf2 = wu (wu sf 2 (nn k)) 5 (if k - j ≤ 3 then nn (nmAt f j (k - j)) else -1) := by
  obtain ⟨hjk, hkn, hall, hend⟩ := hr
  intro m
  induction m with
  | zero =>
    intro i sf y hi hij h1 h2 h3 hy
    have hik : i = k := by omega
    subst hik
    have e1 : (upA I 8 0 sf) 8 0 1 = nn n := h1
    have e2 : (upA I 8 0 sf) 8 0 2 = nn i := h2
    have e3 : (upA I 8 0 sf) 8 0 3 = nn j := h3
    have fin : (if (3 : Int32) < nn i - nn j then some (Sum.inl none, MX (up3 (upA I 8 0 sf) 8 0 5 (-1)) J T) else some (Sum.inl none, MX (up3 (upA I 8 0 sf) 8 0 5 y) J T) : Option Res9) = some (.inl none, MX (upA I 8 0 (wu (wu sf 2 (nn i)) 5 (if i - j ≤ 3 then nn (nmAt f j (i - j)) else -1))) J T) := by
      rw [nn_sub hij, upA_up3, upA_up3, ← wu_same h2]
      by_cases z : i - j ≤ 3
      · rw [if_neg (by rw [show (3 : Int32) = nn 3 from rfl, nn_lt (by omega) (by omega)]; omega), if_pos z, hy z]
        rfl
      · rw [if_pos (show (3 : Int32) < nn (i - j) from (nn_lt (a := 3) (by omega) (by omega)).mpr (by omega)), if_neg z]
        rfl
    refine ⟨_, ?_, rfl⟩
    rw [b30_2, e1, e2, e3]
    rcases Nat.eq_or_lt_of_le hkn with z | z
    · rw [if_pos ((nn_le (by omega) (by omega)).mpr (by omega))]
      exact fin
    · have hne : ¬ isDg (f i) := by
        rcases hend with y | y
        · omega
        · exact y
      have e37 : (upA I 8 0 sf) 37 0 i = f i := congrFun hf i
      rw [if_neg (by rw [nn_le (by omega) (by omega)]; omega), if_pos (nn_inR (by omega) (by omega)), nn_idx (by omega), e37, dgC]
      simp only [ret9]
      rw [b30_25, bi0 hne, if_pos rfl, e2, e3]
      exact fin
  | succ m ih =>
    intro i sf y hi hij h1 h2 h3 hy
    have e1 : (upA I 8 0 sf) 8 0 1 = nn n := h1
    have e2 : (upA I 8 0 sf) 8 0 2 = nn i := h2
    have e37 : (upA I 8 0 sf) 37 0 i = f i := congrFun hf i
    have hl := hall i hij (by omega)
    obtain ⟨b, b1, b2, b3, b4⟩ := dg_nn hl
    have r5 : inR (nn i) 500 = true := nn_inR (by omega) (by omega)
    obtain ⟨sf2, e, q1⟩ := ih (i + 1) (wu sf 2 (nn (i + 1))) (y * 10 + (f i - 48)) (by omega) (by omega) h1 rfl h3 (fun z => by
      rw [hy (by omega), b1, show (48 : Int32) = nn 48 from rfl, nn_sub b2, show (10 : Int32) = nn 10 from rfl, nn_mul, nn_add, show i + 1 - j = (i - j) + 1 by omega]
      show _ = nn (nmAt f j (i - j) * 10 + ((f (j + (i - j))).toNatClampNeg - 48))
      rw [show j + (i - j) = i by omega, b4])
    refine ⟨sf2, ?_, ?_⟩
    · rw [b30_2, e1, e2, if_neg (by rw [nn_le (by omega) (by omega)]; omega), if_pos r5, nn_idx (by omega), e37, dgC]
      simp only [ret9]
      rw [b30_25, bi1 hl, if_neg (by decide), e2, if_pos r5, nn_idx (by omega), e37, upA_up3, nn_add1]
      exact e
    · rw [q1, wu_wu]
/-- the class's scanner holds this token -/
def CTK (sf : Nat → Int32) (y : Int64) (n j k s : Nat) (u : WD) (v : Nat) (c : Int32) : Prop := sf 1 = nn n ∧ sf 2 = nn k ∧ sf 3 = nn j ∧ (y = if s = 2 then ll (wdC u) else 0) ∧ (sf 5 = if s = 3 then nn v else -1) ∧ (sf 6 = if s = 4 then c else 0)
theorem advC (hf : I 37 0 = f) (hn : n ≤ 500) {i j k s : Nat} {u : WD} {v : Nat} {c : Int32} (ht : TOK f n i j k s u v c) (sf : Nat → Int32) (y0 : Int64) (h1 : sf 1 = nn n) (h2 : sf 2 = nn i) : ∃ (sf2 : Nat → Int32) (y : Int64), cal (d + 2) 26 [vr 8 0] (MX (upA I 8 0 sf) (up3 J 8 0 4 y0) T) = some (.inl none, MX (upA I 8 0 sf2) (up3 J 8 0 4 y) T) ∧ CTK sf2 y n j k s u v c := by
  obtain ⟨t1, t2, t3, tb⟩ := ht
  -- the spaces
  have skip : ∀ m i (sf : Nat → Int32), i + m = j → (∀ x, i ≤ x → x < j → f x = 32) → sf 1 = nn n → sf 2 = nn i → den (d + 2) 26 15 [some (vr 8 0), none] [] (MX (upA I 8 0 sf) (up3 J 8 0 4 0) T) = den (d + 2) 26 15 [some (vr 8 0), none] [] (MX (upA I 8 0 (wu sf 2 (nn j))) (up3 J 8 0 4 0) T) := by
    intro m
    induction m with
    | zero =>
      intro i sf hi hx g1 g2
      rw [← wu_same (show sf 2 = nn j by rw [g2, show i = j by omega])]
    | succ m ih =>
      intro i sf hi hx g1 g2
      have e1 : (upA I 8 0 sf) 8 0 1 = nn n := g1
      have e2 : (upA I 8 0 sf) 8 0 2 = nn i := g2
      have e37 : (upA I 8 0 sf) 37 0 i = f i := congrFun hf i
      rw [b26_15, e1, e2, if_neg (by rw [nn_le (by omega) (by omega)]; omega), if_pos (nn_inR (by omega) (by omega)), nn_idx (by omega), e37, if_neg (fun y => y (hx i (by omega) (by omega))), upA_up3, nn_add1]
      have := ih (i + 1) (wu sf 2 (nn (i + 1))) (by omega) (fun x h1 h2 => hx x (by omega) h2) g1 rfl
      rw [wu_wu] at this
      exact this
  have e0 : cal (d + 2) 26 [vr 8 0] (MX (upA I 8 0 sf) (up3 J 8 0 4 y0) T) = den (d + 2) 26 15 [some (vr 8 0), none] [] (MX (upA I 8 0 (wu (wu (wu sf 5 (-1)) 6 0) 2 (nn j))) (up3 J 8 0 4 0) T) := by
    rw [c26, upA_up3, upA_up3, up3_up3]
    exact skip (j - i) i _ (by omega) t3 h1 h2
  rw [e0]
  generalize hsf : wu (wu (wu sf 5 (-1)) 6 0) 2 (nn j) = sg
  have g1 : sg 1 = nn n := by rw [← hsf]; exact h1
  have g2 : sg 2 = nn j := by rw [← hsf]; rfl
  have g5 : sg 5 = -1 := by rw [← hsf]; rfl
  have g6 : sg 6 = 0 := by rw [← hsf]; rfl
  have e1 : (upA I 8 0 sg) 8 0 1 = nn n := g1
  have e2 : (upA I 8 0 sg) 8 0 2 = nn j := g2
  rcases tb with ⟨a1, a2, a3⟩ | ⟨a1, a2, a3⟩
  · refine ⟨wu sg 3 (nn j), 0, ?_, g1, by rw [a3, ← a2]; exact g2, rfl, by rw [if_neg (by omega)], by rw [if_neg (by omega)]; exact g5, by rw [if_neg (by omega)]; exact g6⟩
    rw [b26_15, e1, e2, if_pos ((nn_le (by omega) (by omega)).mpr (by omega)), if_neg (by rw [nn_lt (by omega) (by omega)]; omega), upA_up3]
    rfl
  · have e37 : (upA I 8 0 sg) 37 0 j = f j := congrFun hf j
    have r5 : inR (nn j) 500 = true := nn_inR (by omega) (by omega)
    have eb : den (d + 2) 26 15 [some (vr 8 0), none] [] (MX (upA I 8 0 sg) (up3 J 8 0 4 0) T) = den (d + 2) 26 87 [some (vr 8 0), some (vi (f j))] [vi (bi (isLt (f j)))] (MX (upA I 8 0 (wu sg 3 (nn j))) (up3 J 8 0 4 0) T) := by
      rw [b26_15, e1, e2, if_neg (by rw [nn_le (by omega) (by omega)]; omega), if_pos r5, nn_idx (by omega), e37, if_pos a2, if_pos ((nn_lt (by omega) (by omega)).mpr a1), if_pos r5, upA_up3, ltC]
      simp only [ret9]
      rfl
    have n32 : ∀ x : Int32, isLt x → ¬ isDg x := fun x p q => by
      obtain ⟨m, m1, m2, m3, -⟩ := lt_nn p
      obtain ⟨m', m1', m2', m3', -⟩ := dg_nn q
      rw [m1] at m1'
      have := (nn_inj (by omega) (by omega)).mp m1'
      omega
    rw [eb, b26_87]
    rcases a3 with ⟨b1, b2, b3⟩ | ⟨b1, b2, b3⟩ | ⟨b1, b2, b3, b4⟩ | ⟨b1, b2, b3, b4, b5⟩
    · -- a word
      obtain ⟨sf2, y2, e, q1, q2⟩ := wordC (d + 0) I J T hf hn b2 (k - j) j (wu sg 3 (nn j)) 0 0 (by have := b2.1; omega) (Nat.le_refl j) g1 g2 rfl (fun _ => by rw [Nat.sub_self]; rfl)
      have hjk : j < k := by
        rcases Nat.eq_or_lt_of_le b2.1 with z | z
        · rcases b2.2.2.2 with y | y
          · omega
          · rw [← z] at y; exact absurd b1 y
        · exact z
      refine ⟨sf2, y2, ?_, ?_⟩
      · rw [bi1 b1, if_neg (by decide), c28]
        refine (congrArg (ret9 (den (d + 1 + 1) 26) 26 91 94 _ _) e).trans ?_
        simp only [ret9]
        rw [b26_94]
      · rcases b3 with ⟨c1, c2, c3⟩ | ⟨c1, c2⟩
        · rw [q1]
          refine ⟨g1, rfl, rfl, ?_, by rw [if_neg (by omega)]; exact g5, by rw [if_neg (by omega)]; exact g6⟩
          rw [q2, if_pos c2, if_pos c1, c3]
          congr 1
          exact vlB_congr (k - j) (fun x hx => by show _ = (if x < k - j then _ else 97); rw [if_pos hx])
        · rw [q1]
          refine ⟨g1, rfl, rfl, ?_, by rw [if_neg (by omega)]; exact g5, by rw [if_neg (by omega)]; exact g6⟩
          rw [q2, if_neg (by omega), if_neg (by omega)]
    · -- a number
      obtain ⟨sf2, e, q1⟩ := numC (d + 0) I (up3 J 8 0 4 0) T hf hn b2 (k - j) j (wu sg 3 (nn j)) 0 (by have := b2.1; omega) (Nat.le_refl j) g1 g2 rfl (fun _ => by rw [Nat.sub_self]; rfl)
      refine ⟨sf2, 0, ?_, ?_⟩
      · rw [bi0 (fun y => n32 _ y b1), if_pos rfl, dgC]
        simp only [ret9]
        rw [b26_101, bi1 b1, if_neg (by decide), c30]
        refine (congrArg (ret9 (den (d + 1 + 1) 26) 26 105 108 _ _) e).trans ?_
        simp only [ret9]
        rw [b26_108]
      · rcases b3 with ⟨c1, c2, c3⟩ | ⟨c1, c2⟩
        · rw [q1]
          refine ⟨g1, rfl, rfl, by rw [if_neg (show ¬ s = 2 by omega)], ?_, by rw [if_neg (show ¬ s = 4 by omega)]; exact g6⟩
          rw [if_pos c1, c3]
          show (if k - j ≤ 3 then _ else _) = _
          rw [if_pos c2]
        · rw [q1]
          refine ⟨g1, rfl, rfl, by rw [if_neg (show ¬ s = 2 by omega)], ?_, by rw [if_neg (show ¬ s = 4 by omega)]; exact g6⟩
          rw [if_neg (show ¬ s = 3 by omega)]
          show (if k - j ≤ 3 then _ else _) = _
          rw [if_neg (by omega)]
    · -- a sign
      have s1 : ¬ isLt (f j) := by
        intro y
        rcases b1 with z | z | z | z | z | z | z <;> (rw [z] at y; exact absurd y (by unfold isLt; decide))
      have s2 : ¬ isDg (f j) := by
        intro y
        rcases b1 with z | z | z | z | z | z | z <;> (rw [z] at y; exact absurd y (by unfold isDg; decide))
      refine ⟨wu (wu (wu sg 3 (nn j)) 6 (f j)) 2 (nn (j + 1)), 0, ?_, g1, by rw [b4]; rfl, rfl, by rw [if_neg (by omega)], by rw [if_neg (by omega)]; exact g5, by rw [if_pos b2, b3]; rfl⟩
      have e2' : (upA I 8 0 (wu (wu sg 3 (nn j)) 6 (f j))) 8 0 2 = nn j := g2
      rw [bi0 s1, if_pos rfl, dgC]
      simp only [ret9]
      rw [b26_101, bi0 s2, if_pos rfl, sgC9]
      simp only [ret9]
      rw [b26_115, bi1 b1, if_neg (by decide)]
      have e2'' : (upA I 8 0 (wu sg 3 (nn j))) 8 0 2 = nn j := g2
      rw [e2'', nn_add1, upA_up3, upA_up3]
      rfl
    · refine ⟨wu sg 3 (nn j), 0, ?_, g1, by rw [b5]; exact g2, rfl, by rw [if_neg (by omega)], by rw [if_neg (by omega)]; exact g5, by rw [if_neg (by omega)]; exact g6⟩
      rw [bi0 b1, if_pos rfl, dgC]
      simp only [ret9]
      rw [b26_101, bi0 b2, if_pos rfl, sgC9]
      simp only [ret9]
      rw [b26_115, bi0 b3, if_pos rfl]
end ADW
