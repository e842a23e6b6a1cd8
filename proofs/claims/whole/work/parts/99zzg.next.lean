/-! The book: the reference's token (next) -/
section NXU
variable (d : Nat) (I : PI) (J : PJ) (T : TL) {f : Nat → Int32} {n : Nat}
/-- the reference's scanner holds this token -/
def MTK (sf : Nat → Int32) (y : Int64) (j k s : Nat) (u : WD) (v : Nat) (c : Int32) : Prop := sf 10 = nn k ∧ sf 12 = nn j ∧ sf 11 = nn s ∧ (s = 2 → y = ll (wdR u)) ∧ (s = 3 → sf 14 = nn v) ∧ (sf 13 = if s = 4 then c else 0)
theorem nextM (hf : I 37 1 = f) (hb : ∀ x, -128 ≤ f x ∧ f x ≤ 127) (hn : n ≤ 500) {i j k s : Nat} {u : WD} {v : Nat} {c : Int32} (ht : TOK f n i j k s u v c) (sf : Nat → Int32) (y0 : Int64) (h9 : sf 9 = nn n) (h10 : sf 10 = nn i) : ∃ (sf2 : Nat → Int32) (y : Int64), cal (d + 1) 189 [vr 14 0] (MX (upA I 14 0 sf) (up3 J 14 0 15 y0) T) = some (.inl none, MX (upA I 14 0 sf2) (up3 J 14 0 15 y) T) ∧ MTK sf2 y j k s u v c ∧ (∀ x, ¬ (10 ≤ x ∧ x ≤ 14) → sf2 x = sf x) := by
  obtain ⟨t1, t2, t3, tb⟩ := ht
  have skip : ∀ m i (sf : Nat → Int32), i + m = j → (∀ x, i ≤ x → x < j → f x = 32) → sf 9 = nn n → sf 10 = nn i → den (d + 1) 189 0 [some (vr 14 0), none, none] [] (MX (upA I 14 0 sf) (up3 J 14 0 15 y0) T) = den (d + 1) 189 0 [some (vr 14 0), none, none] [] (MX (upA I 14 0 (wu sf 10 (nn j))) (up3 J 14 0 15 y0) T) := by
    intro m
    induction m with
    | zero =>
      intro i sf hi hx g9 g10
      rw [← wu_same (show sf 10 = nn j by rw [g10, show i = j by omega])]
    | succ m ih =>
      intro i sf hi hx g9 g10
      have e10 : (upA I 14 0 sf) 14 0 10 = nn i := g10
      have hz : bz f n i = 32 := (bz_p p_sp hb).mpr ⟨by omega, hx i (by omega) (by omega)⟩
      have := ih (i + 1) (wu sf 10 (nn (i + 1))) (by omega) (fun x h1 h2 => hx x (by omega) h2) g9 rfl
      rw [wu_wu] at this
      rw [← this, b189_0, e10, byteM d I _ T hf hn sf g9 (by omega)]
      simp only [ret9]
      rw [b189_8, hz, if_neg (fun y => y rfl), e10, upA_up3, nn_add1]
      rfl
  have e0 : cal (d + 1) 189 [vr 14 0] (MX (upA I 14 0 sf) (up3 J 14 0 15 y0) T) = den (d + 1) 189 0 [some (vr 14 0), none, none] [] (MX (upA I 14 0 (wu sf 10 (nn j))) (up3 J 14 0 15 y0) T) := by
    rw [← skip (j - i) i sf (by omega) t3 h9 h10, c189, b189_0]
  rw [e0]
  generalize hsf : wu sf 10 (nn j) = s0
  have o0 : ∀ x, ¬ (10 ≤ x ∧ x ≤ 14) → s0 x = sf x := fun x hx => by
    rw [← hsf]; unfold wu; rw [if_neg (by omega)]
  have g9 : s0 9 = nn n := by rw [o0 9 (by omega)]; exact h9
  have g10 : s0 10 = nn j := by rw [← hsf]; rfl
  have n32 : ¬ bz f n j = 32 := by
    intro z
    have := (bz_p p_sp hb).mp z
    rcases tb with ⟨a1, a2, a3⟩ | ⟨a1, a2, a3⟩
    · omega
    · exact a2 this.2
  have e10 : (upA I 14 0 s0) 14 0 10 = nn j := g10
  have e1 : den (d + 1) 189 0 [some (vr 14 0), none, none] [] (MX (upA I 14 0 s0) (up3 J 14 0 15 y0) T) = den (d + 1) 189 52 [some (vr 14 0), none, none] [vi (bz f n j)] (MX (upA I 14 0 (wu (wu (wu s0 12 (nn j)) 11 0) 13 0)) (up3 J 14 0 15 y0) T) := by
    rw [b189_0, e10, byteM d I _ T hf hn s0 g9 t2]
    simp only [ret9]
    rw [b189_8, if_pos n32, e10, upA_up3, upA_up3, upA_up3]
    refine (congrArg (ret9 (den (d + 1) 189) 189 49 52 _ _) (byteM d I (up3 J 14 0 15 y0) T hf hn (wu (wu (wu s0 12 (nn j)) 11 0) 13 0) g9 t2)).trans ?_
    simp only [ret9]
  rw [e1]
  generalize hs1 : wu (wu (wu s0 12 (nn j)) 11 0) 13 0 = s1
  have o1 : ∀ x, ¬ (10 ≤ x ∧ x ≤ 14) → s1 x = sf x := fun x hx => by
    rw [← o0 x hx, ← hs1]; unfold wu; rw [if_neg (by omega), if_neg (by omega), if_neg (by omega)]
  have k9 : s1 9 = nn n := by rw [o1 9 (by omega)]; exact h9
  have k10 : s1 10 = nn j := by rw [← hs1]; exact g10
  have k11 : s1 11 = 0 := by rw [← hs1]; rfl
  have k12 : s1 12 = nn j := by rw [← hs1]; rfl
  have k13 : s1 13 = 0 := by rw [← hs1]; rfl
  have ow : ∀ (a b : Nat) (v w : Int32), (10 ≤ a ∧ a ≤ 14) → (10 ≤ b ∧ b ≤ 14) → ∀ x, ¬ (10 ≤ x ∧ x ≤ 14) → wu (wu s1 a v) b w x = sf x := fun a b v w ha hb x hx => by
    unfold wu
    rw [if_neg (by omega), if_neg (by omega)]
    exact o1 x hx
  have ow1 : ∀ (a : Nat) (v : Int32), (10 ≤ a ∧ a ≤ 14) → ∀ x, ¬ (10 ≤ x ∧ x ≤ 14) → wu s1 a v x = sf x := fun a v ha x hx => by
    unfold wu
    rw [if_neg (by omega)]
    exact o1 x hx
  rw [b189_52]
  rcases tb with ⟨a1, a2, a3⟩ | ⟨a1, a2, a3⟩
  · have hz : bz f n j = -1 := by unfold bz; rw [if_neg (by omega)]
    subst a1
    refine ⟨wu s1 11 1, y0, ?_, ⟨by rw [a3, ← a2]; exact k10, k12, rfl, fun h => by omega, fun h => by omega, k13⟩, ow1 11 1 (by omega)⟩
    rw [hz, if_neg (fun y => y rfl), upA_up3]
    rfl
  · have hz : ¬ bz f n j = -1 := by
      unfold bz
      rw [if_pos a1]
      intro y
      rcases b255 (hb j).1 (hb j).2 with z | z
      · rw [z.2] at y; rw [y] at z; exact absurd z.1 (by decide)
      · rw [y] at z; exact absurd z.2 (by decide)
    have n32 : ∀ x : Int32, isLt x → ¬ isDg x := fun x p q => by
      obtain ⟨m, m1, m2, m3, -⟩ := lt_nn p
      obtain ⟨m', m1', m2', m3', -⟩ := dg_nn q
      rw [m1] at m1'
      have := (nn_inj (by omega) (by omega)).mp m1'
      omega
    rw [if_pos hz, ltM]
    simp only [ret9]
    rw [b189_72]
    rcases a3 with ⟨b1, b2, b3⟩ | ⟨b1, b2, b3⟩ | ⟨b1, b2, b3, b4⟩ | ⟨b1, b2, b3, b4, b5⟩
    · -- a word
      obtain ⟨sf2, y2, e, q1, q2⟩ := wordM d I J T hf hb hn (bz f n j) b2 (k - j) j s1 0 (by have := b2.1; omega) (Nat.le_refl j) k9 k10 (fun _ => by rw [Nat.sub_self]; rfl)
      rw [Nat.sub_self] at e
      rcases b3 with ⟨c1, c2, c3⟩ | ⟨c1, c2⟩
      · rw [if_pos c2] at q1
        subst c1
        refine ⟨sf2, y2, ?_, ?_, ?_⟩
        · rw [bi1 ((bz_p p_lt hb).mpr ⟨a1, b1⟩), if_neg (by decide), up3_up3]
          exact e
        · rw [q1]
          refine ⟨rfl, k12, rfl, fun _ => ?_, fun h => by omega, k13⟩
          rw [q2 c2, c3]
          congr 1
          exact vlB_congr (k - j) (fun x hx => by show _ = (if x < k - j then _ else 97) - 96; rw [if_pos hx])
        · rw [q1]; exact ow 10 11 _ _ (by omega) (by omega)
      · rw [if_neg (by omega)] at q1
        subst c1
        refine ⟨sf2, y2, ?_, ?_, ?_⟩
        · rw [bi1 ((bz_p p_lt hb).mpr ⟨a1, b1⟩), if_neg (by decide), up3_up3]
          exact e
        · rw [q1]
          exact ⟨rfl, k12, k11, fun h => by omega, fun h => by omega, k13⟩
        · rw [q1]; exact ow1 10 _ (by omega)
    · -- a number
      obtain ⟨sf2, y2, e, q1, q2⟩ := numM d I (up3 J 14 0 15 y0) T hf hb hn (bz f n j) b2 (k - j) j (wu s1 14 0) (by have := b2.1; omega) (Nat.le_refl j) k9 k10 (fun _ => by rw [Nat.sub_self]; rfl)
      rw [Nat.sub_self, wu_wu] at *
      have go : (if bi (isLt (bz f n j)) = 0 then ret9 (den (d + 1) 189) 189 158 161 [some (vr 14 0), some (vi (bz f n j)), some (vi 0)] [] (cal d 192 [vi (bz f n j)] (MX (upA I 14 0 s1) (up3 J 14 0 15 y0) T)) else den (d + 1) 189 80 [some (vr 14 0), some (vi (bz f n j)), some (vi 0)] [] (MX (upA I 14 0 s1) (up3 (up3 J 14 0 15 y0) 14 0 15 0) T)) = some (.inl none, MX (upA I 14 0 sf2) (up3 J 14 0 15 y0) T) := by
        rw [bi0 (fun y => n32 _ ((bz_p p_lt hb).mp y).2 b1), if_pos rfl, dgM]
        simp only [ret9]
        rw [b189_161, bi1 ((bz_p p_dg hb).mpr ⟨a1, b1⟩), if_neg (by decide), upA_up3]
        exact e
      rcases b3 with ⟨c1, c2, c3⟩ | ⟨c1, c2⟩
      · rw [if_pos c2] at q1
        subst c1
        refine ⟨sf2, y0, go, ?_, ?_⟩
        · rw [q1]
          exact ⟨rfl, k12, rfl, fun h => by omega, fun _ => by rw [c3]; exact q2 c2, k13⟩
        · intro x hx
          rw [q1]
          unfold wu
          rw [if_neg (by omega), if_neg (by omega), if_neg (by omega)]
          exact o1 x hx
      · rw [if_neg (by omega)] at q1
        subst c1
        refine ⟨sf2, y0, go, ?_, ?_⟩
        · rw [q1]
          exact ⟨rfl, k12, k11, fun h => by omega, fun h => by omega, k13⟩
        · rw [q1]; exact ow 14 10 _ _ (by omega) (by omega)
    · -- a sign
      have s1' : ¬ isLt (bz f n j) := by
        rw [bz_p p_lt hb]
        intro y
        have y := y.2
        rcases b1 with z | z | z | z | z | z | z <;> (rw [z] at y; exact absurd y (by unfold isLt; decide))
      have s2' : ¬ isDg (bz f n j) := by
        rw [bz_p p_dg hb]
        intro y
        have y := y.2
        rcases b1 with z | z | z | z | z | z | z <;> (rw [z] at y; exact absurd y (by unfold isDg; decide))
      have hbz : bz f n j = f j := bz_of hb a1 (p_sg _ b1).1
      subst b2
      refine ⟨wu (wu (wu s1 11 4) 13 (f j)) 10 (nn (j + 1)), y0, ?_, ⟨by rw [b4]; rfl, k12, rfl, fun h => by omega, fun h => by omega, by rw [if_pos rfl, b3]; rfl⟩, ?_⟩
      · rw [bi0 s1', if_pos rfl, dgM]
        simp only [ret9]
        have k10' : (upA I 14 0 s1) 14 0 10 = nn j := k10
        rw [b189_161, bi0 s2', if_pos rfl, hbz, k10', upA_up3, upA_up3, upA_up3, nn_add1]
        rcases b1 with z | z | z | z | z | z | z <;> (simp only [z]; rfl)
      · intro x hx
        unfold wu
        rw [if_neg (by omega), if_neg (by omega), if_neg (by omega)]
        exact o1 x hx
    · -- nothing
      have s1' : ¬ isLt (bz f n j) := fun y => b1 ((bz_p p_lt hb).mp y).2
      have s2' : ¬ isDg (bz f n j) := fun y => b2 ((bz_p p_dg hb).mp y).2
      have s3' : ¬ isSg (bz f n j) := fun y => b3 ((bz_p p_sg hb).mp y).2
      unfold isSg at s3'
      subst b4
      refine ⟨s1, y0, ?_, ⟨by rw [b5]; exact k10, k12, k11, fun h => by omega, fun h => by omega, k13⟩, o1⟩
      rw [bi0 s1', if_pos rfl, dgM]
      simp only [ret9]
      rw [b189_161, bi0 s2', if_pos rfl]
      rw [if_neg (fun y => s3' (.inl y)), if_neg (fun y => s3' (.inr (.inl y))), if_neg (fun y => s3' (.inr (.inr (.inl y)))), if_neg (fun y => s3' (.inr (.inr (.inr (.inl y))))), if_neg (fun y => s3' (.inr (.inr (.inr (.inr (.inl y)))))), if_neg (fun y => s3' (.inr (.inr (.inr (.inr (.inr (.inl y))))))), if_pos (fun y => s3' (.inr (.inr (.inr (.inr (.inr (.inr y)))))))]
end NXU
