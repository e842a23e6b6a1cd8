/-! A ground is laid: the class -/
theorem up3_a {α : Type} (f : Nat → Nat → Nat → α) {k j i : Nat} {v : α} {a : Nat} (h : ¬ a = k) : up3 f k j i v a = f a := by
  funext b c
  unfold up3
  rw [if_neg h]
theorem upA_a {α : Type} (f : Nat → Nat → Nat → α) {k j : Nat} {v : Nat → α} {a : Nat} (h : ¬ a = k) : upA f k j v a = f a := by
  funext b c
  unfold upA
  rw [if_neg h]
theorem fl_a {α : Type} (f : Nat → Nat → Nat → α) {k j n : Nat} {v : α} {a : Nat} (h : ¬ a = k) : fl f k j n v a = f a := upA_a f h
theorem fl_j {α : Type} (f : Nat → Nat → Nat → α) {k j n : Nat} {v : α} (a : Nat) {b : Nat} (h : ¬ b = j) : fl f k j n v a b = f a b := by
  funext c
  unfold fl upA
  by_cases h1 : a = k
  · rw [if_pos h1, if_neg h]
  · rw [if_neg h1]
def lvI (I : PI) : PI := up3 (up3 (up3 (up3 (up3 I 5 0 7 0) 5 0 8 0) 5 0 9 0) 5 0 10 0) 5 0 11 0
def lvJ (J : PJ) : PJ := up3 (up3 (up3 (up3 J 5 0 12 0) 5 0 13 0) 5 0 14 0) 5 0 15 0
theorem leaveC (d : Nat) (I : PI) (J : PJ) (T : TL) : cal (d + 1) 50 [vr 5 0] (MX I J T) = some (.inl none, MX (fl (fl (lvI I) 21 3 6 0) 21 4 6 0) (lvJ J) T) := by
  rw [c50, fill21]
  refine (b50_53 d _ _ T).trans ?_
  rw [fill21]
  exact b50_61 _ _ _ _
theorem wipeC (d : Nat) (I : PI) (J : PJ) (T : TL) : cal (d + 1) 14 [vr 3 0] (MX I J T) = some (.inl none, MX (fl I 28 3 64 (-1)) (fl J 42 1 6 0) T) := by
  rw [c14, fill28]
  refine (b14_8 d _ _ T).trans ?_
  rw [fill42]
  exact b14_16 _ _ _ _
theorem forgetC (d : Nat) (I : PI) (J : PJ) (T : TL) : cal (d + 2) 13 [vr 11 0] (MX I J T) = some (.inl none, MX (up3 (up3 (up3 (fl I 28 3 64 (-1)) 2 0 5 0) 11 0 13 (-1)) 11 0 14 (-1)) (fl J 42 1 6 0) T) := by
  rw [c13, wipeC]
  exact b13_7 _ _ _ _
/-- the first column, up to a row -/
def fcJ (J : PJ) (w : Nat) : Nat → PJ
  | 0 => J
  | y + 1 => up3 (fcJ J w y) 5 0 14 ((fcJ J w y) 5 0 14 ||| lsh9 1 (nn (y * w)))
theorem fc_other (J : PJ) (w : Nat) : ∀ y a b c, ¬ (a = 5 ∧ b = 0 ∧ c = 14) → fcJ J w y a b c = J a b c
  | 0, _, _, _, _ => rfl
  | y + 1, a, b, c, h => by
    rw [← fc_other J w y a b c h]
    show up3 _ 5 0 14 _ a b c = _
    unfold up3
    by_cases h1 : a = 5
    · by_cases h2 : b = 0
      · have h3 : ¬ c = 14 := fun z => h ⟨h1, h2, z⟩
        simp [h1, h2, h3]
      · simp [h1, h2]
    · simp [h1]
theorem fc_bt (J : PJ) (w : Nat) (h0 : J 5 0 14 = 0) : ∀ y, y * w < 64 + w → ∀ c, c < 64 → (bt (fcJ J w y 5 0 14) c = true ↔ ∃ q, q < y ∧ c = q * w)
  | 0, _, c, hc => by
    show bt (J 5 0 14) c = true ↔ _
    rw [h0, bt_zero]
    constructor
    · intro z; exact absurd z (by decide)
    · intro ⟨q, hq, _⟩; omega
  | y + 1, hy, c, hc => by
    have hy2 : y * w < 64 := by rw [Nat.succ_mul] at hy; omega
    have ih := fc_bt J w h0 y (by omega) c hc
    show bt (up3 _ 5 0 14 _ 5 0 14) c = true ↔ _
    rw [up3_same, bt_or, bt_bit hy2, Bool.or_eq_true, ih, decide_eq_true_eq]
    constructor
    · intro z
      rcases z with ⟨q, hq, e⟩ | e
      · exact ⟨q, by omega, e⟩
      · exact ⟨y, by omega, e⟩
    · intro ⟨q, hq, e⟩
      by_cases h : q = y
      · subst h; exact .inr e
      · exact .inl ⟨q, by omega, e⟩
theorem layLp (d : Nat) {w h : Nat} (x1 x2 : Int32) (I : PI) (J : PJ) (T : TL) (hw : I 5 0 7 = nn w) (hh : I 5 0 8 = nn h) (hw8 : w ≤ 8) (hh8 : h ≤ 8) : ∀ m y, y + m = h → den (d + 1) 55 49 [some (vr 5 0), some (vi x1), some (vi x2), some (vi (nn y))] [] (MX I (fcJ J w y) T) = den (d + 1) 55 49 [some (vr 5 0), some (vi x1), some (vi x2), some (vi (nn h))] [] (MX I (fcJ J w h) T) := by
  intro m
  induction m with
  | zero => intro y hy; rw [show y = h by omega]
  | succ m ih =>
    intro y hy
    rw [b55_49, hh, if_neg (by rw [nn_le (by omega) (by omega)]; omega), hw, nn_mul, nn_add1]
    exact ih (y + 1) (by omega)
def la1 (I : PI) (w h : Nat) : PI := up3 (up3 (up3 (up3 (up3 (fl (fl (lvI I) 21 3 6 0) 21 4 6 0) 5 0 7 (nn w)) 5 0 8 (nn h)) 5 0 9 (nn (w * h))) 5 0 10 1) 5 0 11 20
def laJ (J : PJ) (w h : Nat) : PJ := up3 (lvJ J) 5 0 12 (lus9 (-1) (nn (64 - w * h)))
def laJ2 (J : PJ) (w h : Nat) : PJ := up3 (fcJ (laJ J w h) w h) 5 0 15 (lsh9 ((fcJ (laJ J w h) w h) 5 0 14) (nn (w - 1)))
def la2 (I : PI) (w h : Nat) : PI := fl (fl (fl (la1 I w h) 28 0 64 5) 28 1 64 0) 28 2 64 (-1)
theorem la_M (J : PJ) {w h : Nat} (hw1 : 1 ≤ w) (hw8 : w ≤ 8) (hh1 : 1 ≤ h) (hh8 : h ≤ 8) : RelM (laJ2 J w h) w h := by
  have h64 : w * h ≤ 64 := Nat.mul_le_mul hw8 hh8
  have hpos : 1 ≤ w * h := Nat.mul_le_mul hw1 hh1
  have hfc : ∀ c, c < 64 → (bt (fcJ (laJ J w h) w h 5 0 14) c = true ↔ ∃ q, q < h ∧ c = q * w) := fc_bt (laJ J w h) w rfl h (by rw [Nat.mul_comm]; omega)
  have hfirst : ∀ c, c < 64 → (bt (fcJ (laJ J w h) w h 5 0 14) c = true ↔ (c < w * h ∧ c % w = 0)) := by
    intro c hc
    rw [hfc c hc]
    constructor
    · intro ⟨q, hq, e⟩
      subst e
      refine ⟨?_, Nat.mul_mod_left q w⟩
      rw [Nat.mul_comm w h]
      exact Nat.mul_lt_mul_of_pos_right hq (by omega)
    · intro ⟨h1, h2⟩
      refine ⟨c / w, Nat.div_lt_of_lt_mul h1, ?_⟩
      have := Nat.div_add_mod c w
      rw [h2, Nat.add_zero, Nat.mul_comm] at this
      exact this.symm
  intro c hc
  refine ⟨?_, ?_, ?_⟩
  · have e : laJ2 J w h 5 0 12 = lus9 (-1) (nn (64 - w * h)) := by
      show fcJ (laJ J w h) w h 5 0 12 = _
      rw [fc_other _ _ _ _ _ _ (by omega)]
      rfl
    rw [e, bt_lus _ (by omega), bt_m1]
    by_cases hcn : c < w * h
    · rw [decide_eq_true hcn, decide_eq_true (by omega)]
    · rw [decide_eq_false hcn, decide_eq_false (by omega)]
  · have e : laJ2 J w h 5 0 14 = fcJ (laJ J w h) w h 5 0 14 := rfl
    rw [e]
    have := hfirst c hc
    cases hb : bt (fcJ (laJ J w h) w h 5 0 14) c with
    | true => rw [decide_eq_true (this.mp hb)]
    | false => rw [decide_eq_false (fun z => by rw [this.mpr z] at hb; exact absurd hb (by decide))]
  · have e : laJ2 J w h 5 0 15 = lsh9 ((fcJ (laJ J w h) w h) 5 0 14) (nn (w - 1)) := rfl
    rw [e, bt_lsh _ (by omega)]
    by_cases hlt : c < w - 1
    · rw [decide_eq_true hlt]
      have : ¬ (c < w * h ∧ c % w + 1 = w) := by
        intro z
        rw [Nat.mod_eq_of_lt (by omega)] at z
        omega
      rw [decide_eq_false this]
      simp
    · have := hfirst (c - (w - 1)) (by omega)
      rw [decide_eq_false hlt, decide_eq_true hc]
      have key : (c - (w - 1) < w * h ∧ (c - (w - 1)) % w = 0) ↔ (c < w * h ∧ c % w + 1 = w) := by
        constructor
        · intro ⟨z1, z2⟩
          have e1 : c = w * ((c - (w - 1)) / w) + (w - 1) := by
            have := Nat.div_add_mod (c - (w - 1)) w
            omega
          have e2 : (c - (w - 1)) / w < h := Nat.div_lt_of_lt_mul z1
          refine ⟨?_, ?_⟩
          · have e3 : w * ((c - (w - 1)) / w + 1) ≤ w * h := Nat.mul_le_mul_left w e2
            rw [Nat.mul_add, Nat.mul_one] at e3
            omega
          · rw [e1, Nat.mul_add_mod, Nat.mod_eq_of_lt (by omega)]
            omega
        · intro ⟨z1, z2⟩
          have e1 := Nat.div_add_mod c w
          refine ⟨by omega, ?_⟩
          have e2 : c - (w - 1) = w * (c / w) := by omega
          rw [e2, Nat.mul_mod_right]
      cases hb : bt (fcJ (laJ J w h) w h 5 0 14) (c - (w - 1)) with
      | true => rw [decide_eq_true (key.mp (this.mp hb))]; rfl
      | false =>
        rw [decide_eq_false (fun z => by rw [this.mpr (key.mpr z)] at hb; exact absurd hb (by decide))]
        rfl
theorem la_wat (J : PJ) (w h : Nat) : laJ2 J w h 5 0 13 = 0 := by
  show fcJ (laJ J w h) w h 5 0 13 = 0
  rw [fc_other _ _ _ _ _ _ (by omega)]
  rfl
/-- what the class needs of the books for prices -/
def BKC (I : PI) (g o : Nat) (len : Nat → Nat) (p : Nat → Nat → Int32) : Prop := I 1 g 3 = nn o ∧ o ≤ 6 ∧ ∀ k, k < o → len k ≤ 40 ∧ I 21 (5 * g) k = nn (len k) ∧ (∀ i, i < len k → I 31 g (40 * k + i) = clsS (p k i)) ∧ okP (p k) (len k) 0 0
theorem la_CP (I : PI) (J : PJ) {w h g o : Nat} (len : Nat → Nat) (p : Nat → Nat → Int32) (hw1 : 1 ≤ w) (hw8 : w ≤ 8) (hh1 : 1 ≤ h) (hh8 : h ≤ 8) (hg : g = 0 ∨ g = 1) (hb : BKC I g o len p) (k : Nat) (hk : k < o) : CP (la2 I w h) (laJ2 J w h) g w h k 0 (len k) (p k) (fun _ => 0) := by
  obtain ⟨b1, b2, b3⟩ := hb
  obtain ⟨l1, l2, l3, l4⟩ := b3 k hk
  have h64 : w * h ≤ 64 := Nat.mul_le_mul hw8 hh8
  refine ⟨⟨rfl, rfl, hw1, hw8, hh1, hh8⟩, la_M J hw1 hw8 hh1 hh8, ?_, ⟨o, hk, b2, b1⟩, ⟨l1, ?_, l3, l4⟩, ⟨by omega, ?_⟩, ?_⟩
  · intro i hi
    rw [la_wat, bt_zero]
    constructor
    · intro z; exact absurd z (by decide)
    · intro z; exact absurd rfl z.2
  · have e : (la2 I w h) 21 (5 * g) = I 21 (5 * g) := by
      show (fl (fl (lvI I) 21 3 6 0) 21 4 6 0) 21 (5 * g) = _
      rw [fl_j _ 21 (by omega), fl_j _ 21 (by omega)]
      rfl
    rw [e]; exact l2
  · show (fl (fl (lvI I) 21 3 6 0) 21 4 6 0) 21 3 k = nn 0
    rw [fl_j _ 21 (by omega), fl_at _ _ _ _ _ (show k < 6 by omega)]
    rfl
  · intro c hc
    refine ⟨?_, ?_⟩
    · show wb ((fl (la1 I w h) 28 0 64 5) 28 0 c)
      rw [fl_at _ _ _ _ _ (show c < 64 by omega)]
      unfold wb; decide
    · show wb ((fl (fl (la1 I w h) 28 0 64 5) 28 1 64 0) 28 1 c)
      rw [fl_at _ _ _ _ _ (show c < 64 by omega)]
      unfold wb; decide
theorem layC (d : Nat) {w h o : Nat} (len : Nat → Nat) (p : Nat → Nat → Int32) (I : PI) (J : PJ) (T : TL) (hw1 : 1 ≤ w) (hw8 : w ≤ 8) (hh1 : 1 ≤ h) (hh8 : h ≤ 8) (hg : T.1 = 0 ∨ T.1 = 1) (hb : BKC I T.1 o len p) : ∃ v : Nat → Int32, cal (d + 5) 55 [vr 5 0, vi (nn w), vi (nn h)] (MX I J T) = some (.inl none, MX (upA (upA (la2 I w h) 34 0 (PG (la2 I w h) (laJ2 J w h 5 0 12) (fun k => VC (la2 I w h) w h 0 (len k) (p k) (fun _ => 0)) (w * h) o)) 25 T.1 v) (laJ2 J w h) T) := by
  have h64 : w * h ≤ 64 := Nat.mul_le_mul hw8 hh8
  have hpos : 1 ≤ w * h := Nat.mul_le_mul hw1 hh1
  obtain ⟨v, e⟩ := priceAll d (laJ2 J w h 5 0 12) (fun _ => 0) len p (fun _ => 0) (la2 I w h) (laJ2 J w h) T h64 hb.2.1 hb.1 (fun k hk => la_CP I J len p hw1 hw8 hh1 hh8 hg hb k hk)
  refine ⟨v, ?_⟩
  rw [c55, leaveC]
  simp only [ret9]
  rw [b55_4, nn_mul, show (64 : Int32) - nn (w * h) = nn (64 - w * h) from nn_sub (a := 64) h64]
  have e2 := layLp (d + 4) (nn w) (nn h) (la1 I w h) (laJ J w h) T rfl rfl hw8 hh8 h 0 (by omega)
  refine Eq.trans e2 ?_
  rw [b55_49]
  show (if nn h ≤ nn h then _ else _) = _
  rw [if_pos (Int32.le_refl _)]
  show ret9 _ 55 100 103 _ _ (cal (d + 4) 15 [vr 28 0, vi 5] (MX (la1 I w h) (up3 (fcJ (laJ J w h) w h) 5 0 15 (lsh9 ((fcJ (laJ J w h) w h) 5 0 14) (nn w - 1))) T)) = _
  rw [show nn w - 1 = nn (w - 1) from nn_sub (b := 1) hw1, fill28]
  simp only [ret9]
  rw [b55_103, fill28]
  simp only [ret9]
  rw [b55_111, fill28]
  simp only [ret9]
  rw [b55_119]
  refine Eq.trans (congrArg _ e) ?_
  exact b55_127 _ _ _ _ _ _ _
