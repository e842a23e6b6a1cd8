/-! What bars a drawing: class and reference; the call bars -/
def fst9 (P : Nat → Prop) (n a : Nat) : Prop := a < n ∧ P a ∧ ∀ j, j < a → ¬ P j
theorem fst_ex {P : Nat → Prop} {n : Nat} (h : ∃ c, c < n ∧ P c) : ∃ a, fst9 P n a := by
  classical
  obtain ⟨s, h1, h2, h3⟩ := least_ex (fun c => decide (P c)) n (by
    obtain ⟨c, h1, h2⟩ := h
    exact ⟨c, h1, decide_eq_true h2⟩)
  exact ⟨s, h1, of_decide_eq_true h2, fun j hj => of_decide_eq_false (h3 j hj)⟩
theorem for_find {ρ : Type} {s : Nat} {Lp : Nat → ρ} (h : ∀ c, c < s → Lp c = Lp (c + 1)) : ∀ k c, c + k = s → Lp c = Lp s := by
  intro k
  induction k with
  | zero => intro c hc; rw [← hc]; rfl
  | succ k ih => intro c hc; rw [h c (by omega), ih (c + 1) (by omega)]
def B1 (ws wt : Nat → Int32) (c : Nat) : Prop := ws c = -1 ∧ wt c = 0
def B2 (ws kp : Nat → Int32) (c : Nat) : Prop := ¬ kp c = -1 ∧ ¬ ws c = kp c
def FL (ws : Nat → Int32) (k : Nat) : Nat → Bool := fun c => decide (ws c = nn k)
def B3 (ws : Nat → Int32) (w h k : Nat) : Prop := ¬ HT w h (FL ws k)
def B4 (ws : Nat → Int32) (w h c : Nat) : Prop := ¬ ws c = -1 ∧ ¬ COV w h (fun i => decide (ws i = ws c)) c
def non9 (P : Nat → Prop) (n : Nat) : Prop := ∀ c, c < n → ¬ P c
/-- the bar v, at a -/
def BS (ws kp wt : Nat → Int32) (w h o : Nat) (wd : Int32) (v a : Nat) : Prop := (v = 1 ∧ fst9 (B1 ws wt) (w * h) a) ∨ (v = 2 ∧ non9 (B1 ws wt) (w * h) ∧ fst9 (B2 ws kp) (w * h) a) ∨ (v = 3 ∧ non9 (B1 ws wt) (w * h) ∧ non9 (B2 ws kp) (w * h) ∧ fst9 (B3 ws w h) o a) ∨ (v = 4 ∧ non9 (B1 ws wt) (w * h) ∧ non9 (B2 ws kp) (w * h) ∧ non9 (B3 ws w h) o ∧ wd = 2 ∧ fst9 (B4 ws w h) (w * h) a) ∨ (v = 0 ∧ non9 (B1 ws wt) (w * h) ∧ non9 (B2 ws kp) (w * h) ∧ non9 (B3 ws w h) o ∧ (wd = 2 → non9 (B4 ws w h) (w * h)))
/-- nothing bars it -/
def LAW (ws kp wt : Nat → Int32) (w h o : Nat) (wd : Int32) : Prop := non9 (B1 ws wt) (w * h) ∧ non9 (B2 ws kp) (w * h) ∧ non9 (B3 ws w h) o ∧ (wd = 2 → non9 (B4 ws w h) (w * h))
theorem non_or (P : Nat → Prop) (n : Nat) : non9 P n ∨ ∃ a, fst9 P n a := by
  by_cases z : ∃ c, c < n ∧ P c
  · exact .inr (fst_ex z)
  · exact .inl (fun c hc y => z ⟨c, hc, y⟩)
theorem fst_non {P : Nat → Prop} {n a : Nat} (h1 : non9 P n) (h2 : fst9 P n a) : False := h1 a h2.1 h2.2.1
theorem BS_ex (ws kp wt : Nat → Int32) (w h o : Nat) (wd : Int32) : ∃ v a, v ≤ 4 ∧ BS ws kp wt w h o wd v a := by
  rcases non_or (B1 ws wt) (w * h) with h1 | ⟨a, h1⟩
  · rcases non_or (B2 ws kp) (w * h) with h2 | ⟨a, h2⟩
    · rcases non_or (B3 ws w h) o with h3 | ⟨a, h3⟩
      · by_cases hw : wd = 2
        · rcases non_or (B4 ws w h) (w * h) with h4 | ⟨a, h4⟩
          · exact ⟨0, 0, by omega, .inr (.inr (.inr (.inr ⟨rfl, h1, h2, h3, fun _ => h4⟩)))⟩
          · exact ⟨4, a, by omega, .inr (.inr (.inr (.inl ⟨rfl, h1, h2, h3, hw, h4⟩)))⟩
        · exact ⟨0, 0, by omega, .inr (.inr (.inr (.inr ⟨rfl, h1, h2, h3, fun z => absurd z hw⟩)))⟩
      · exact ⟨3, a, by omega, .inr (.inr (.inl ⟨rfl, h1, h2, h3⟩))⟩
    · exact ⟨2, a, by omega, .inr (.inl ⟨rfl, h1, h2⟩)⟩
  · exact ⟨1, a, by omega, .inl ⟨rfl, h1⟩⟩
theorem BS_law {ws kp wt : Nat → Int32} {w h o : Nat} {wd : Int32} {v a : Nat} (hB : BS ws kp wt w h o wd v a) : v = 0 ↔ LAW ws kp wt w h o wd := by
  rcases hB with ⟨rfl, h1⟩ | ⟨rfl, h1, h2⟩ | ⟨rfl, h1, h2, h3⟩ | ⟨rfl, h1, h2, h3, h4, h5⟩ | ⟨rfl, h1, h2, h3, h4⟩
  · exact ⟨fun z => absurd z (by omega), fun z => (fst_non z.1 h1).elim⟩
  · exact ⟨fun z => absurd z (by omega), fun z => (fst_non z.2.1 h2).elim⟩
  · exact ⟨fun z => absurd z (by omega), fun z => (fst_non z.2.2.1 h3).elim⟩
  · exact ⟨fun z => absurd z (by omega), fun z => (fst_non (z.2.2.2 h4) h5).elim⟩
  · exact ⟨fun _ => ⟨h1, h2, h3, h4⟩, fun _ => rfl⟩
theorem FL_bt {I : PI} {J : PJ} {n o : Nat} (hD : RelD I J n o) (h64 : n ≤ 64) {k : Nat} (hk : k < 6) {c : Nat} (hc : c < n) : bt (J 42 1 k) c = FL (I 28 7) k c := by
  unfold FL
  by_cases z : I 28 7 c = nn k
  · rw [decide_eq_true z, (hD.2 k hk c (by omega)).mpr ⟨hc, z⟩]
  · rw [decide_eq_false z]
    cases y : bt (J 42 1 k) c with
    | false => rfl
    | true => exact absurd ((hD.2 k hk c (by omega)).mp y).2 z
theorem fld_lt {I : PI} {J : PJ} {n o : Nat} (hD : RelD I J n o) {k : Nat} (hk : k < 6) : ∀ c, bt (J 42 1 k) c = true → c < n := fun c hc => ((hD.2 k hk c (bt_64 hc)).mp hc).1
theorem free_bt {I : PI} {J : PJ} {w h o : Nat} (hM : RelM J w h) (hC : RelC I J (w * h) o) (hD : RelD I J (w * h) o) (ho6 : o ≤ 6) (c : Nat) : bt (((J 5 0 12) &&& ((J 5 0 13) ^^^ (-1))) &&& (OWN J ^^^ (-1))) c = true ↔ (c < 64 ∧ c < w * h ∧ B1 (I 28 7) (I 39 0) c) := by
  by_cases hc : c < 64
  · rw [bt_and, bt_and, bt_not, bt_not, (hM c hc).1, decide_eq_true hc]
    simp only [Bool.and_eq_true, Bool.true_and, decide_eq_true_eq, Bool.not_eq_true', ← Bool.not_eq_true]
    rw [hC.1 c hc, OWN_iff hD ho6 hc]
    unfold B1
    constructor
    · intro ⟨⟨h1, h2⟩, h3⟩
      refine ⟨hc, h1, ?_, ?_⟩
      · apply Classical.byContradiction; intro z; exact h3 ⟨h1, z⟩
      · apply Classical.byContradiction; intro z; exact h2 ⟨h1, z⟩
    · intro ⟨_, h1, h2, h3⟩
      exact ⟨⟨h1, fun z => z.2 h3⟩, fun z => z.2 h2⟩
  · constructor
    · intro z; exact absurd (bt_64 z) hc
    · intro z; exact absurd z.1 hc
theorem freeC (d : Nat) (I : PI) (J : PJ) (T : TL) : cal (d + 1) 106 [vr 3 0] (MX I J T) = some (.inl (some (vl (((J 5 0 12) &&& ((J 5 0 13) ^^^ (-1))) &&& (OWN J ^^^ (-1))))), MX I J T) := by
  rw [c106, ownedC]
  simp only [ret9]
  rw [b106_23]
def THO (J : PJ) (w : Nat) : Int64 := itn (fun k a => a ||| thJ J w (J 42 1 k)) 6 0 0
theorem tho_bt (J : PJ) (w i : Nat) : ∀ k c a, bt (itn (fun k a => a ||| thJ J w (J 42 1 k)) k c a) i = true ↔ (bt a i = true ∨ ∃ q, c ≤ q ∧ q < c + k ∧ bt (thJ J w (J 42 1 q)) i = true)
  | 0, c, a => by
    show bt a i = true ↔ _
    constructor
    · intro h; exact .inl h
    · intro h
      rcases h with h | ⟨q, h1, h2, _⟩
      · exact h
      · omega
  | k + 1, c, a => by
    show bt (itn (fun k a => a ||| thJ J w (J 42 1 k)) k (c + 1) (a ||| thJ J w (J 42 1 c))) i = true ↔ _
    rw [tho_bt J w i k (c + 1), bt_or, Bool.or_eq_true]
    constructor
    · intro h
      rcases h with (h | h) | ⟨q, h1, h2, h3⟩
      · exact .inl h
      · exact .inr ⟨c, by omega, by omega, h⟩
      · exact .inr ⟨q, by omega, by omega, h3⟩
    · intro h
      rcases h with h | ⟨q, h1, h2, h3⟩
      · exact .inl (.inl h)
      · rcases Nat.eq_or_lt_of_le h1 with z | z
        · subst z; exact .inl (.inr h3)
        · exact .inr ⟨q, by omega, by omega, h3⟩
theorem tho_B4 {I : PI} {J : PJ} {w h o : Nat} (hM : RelM J w h) (hD : RelD I J (w * h) o) (ho6 : o ≤ 6) (hw1 : 1 ≤ w) (hw8 : w ≤ 8) (h64 : w * h ≤ 64) (c : Nat) : bt (THO J w) c = true ↔ (c < w * h ∧ B4 (I 28 7) w h c) := by
  unfold THO
  rw [tho_bt, bt_zero]
  have key : ∀ q, q < 6 → I 28 7 c = nn q → (COV w h (bt (J 42 1 q)) c ↔ COV w h (fun i => decide (I 28 7 i = I 28 7 c)) c) := fun q hq e => by
    have : ∀ i, i < w * h → bt (J 42 1 q) i = decide (I 28 7 i = I 28 7 c) := fun i hi => by
      rw [FL_bt hD h64 hq hi, e]; rfl
    exact ⟨COV_congr hw1 this, COV_congr hw1 (fun i hi => (this i hi).symm)⟩
  constructor
  · intro z
    rcases z with z | ⟨q, -, h2, h3⟩
    · cases z
    · have hq : q < 6 := by omega
      rw [th_bt hM hw1 hw8 h64 (fld_lt hD hq)] at h3
      have hc64 := bt_64 h3.1
      obtain ⟨a1, a2⟩ := (hD.2 q hq c hc64).mp h3.1
      exact ⟨a1, by rw [a2]; exact nn_ne_neg (by omega), fun y => h3.2 ((key q hq a2).mpr y)⟩
  · intro ⟨h1, h2, h3⟩
    rcases (hD.1 c h1).2 with z | ⟨q, hq, z⟩
    · exact absurd z h2
    · refine .inr ⟨q, by omega, by omega, ?_⟩
      rw [th_bt hM hw1 hw8 h64 (fld_lt hD (by omega))]
      exact ⟨(hD.2 q (by omega) c (by omega)).mpr ⟨h1, z⟩, fun y => h3 ((key q (by omega) z).mp y)⟩
theorem thoC (d : Nat) {w : Nat} (I : PI) (J : PJ) (T : TL) (hw : I 5 0 7 = nn w) : cal (d + 2) 110 [vr 3 0] (MX I J T) = some (.inl (some (vl (THO J w))), MX I J T) := by
  rw [c110]
  have key := for_up (n := 6) (Lp := fun c (a : Int64) => den (d + 2) 110 4 [some (vr 3 0), some (vl a), none, some (vi (nn c))] [] (MX I J T)) (step := fun k a => a ||| thJ J w (J 42 1 k)) (by
    intro c a hc
    rw [b110_4, if_neg (by rw [show (6 : Int32) = nn 6 from rfl, nn_le (by omega) (by omega)]; omega), if_pos (nn_inR hc (by omega)), nn_idx (by omega), thinC d _ I J T hw]
    simp only [ret9]
    rw [b110_24, nn_add1]) 6 0 0 (by omega)
  refine Eq.trans key ?_
  rw [b110_4, if_pos (by decide)]
  rfl
section BARC
variable (d : Nat) {w h o : Nat} (I : PI) (J : PJ) (T : TL)
theorem barC {v a : Nat} (hW : RelW I w h) (hp : 0 < w * h) (hM : RelM J w h) (hC : RelC I J (w * h) o) (hD : RelD I J (w * h) o) (ho6 : o ≤ 6) (hB : BS (I 28 7) (I 28 6) (I 39 0) w h o (I 5 0 10) v a) : cal (d + 4) 105 [vr 3 0] (MX I J T) = some (.inl (some (vi (nn v))), MX (up3 I 3 0 3 (if v = 0 then -2 else nn a)) J T) := by
  have h64 := relW_le hW
  obtain ⟨-, -, hw1, hw8, hh1, hh8⟩ := relGW hW hp
  have hn : I 5 0 9 = nn (w * h) := hW.2.2.1
  have hfb := free_bt hM hC hD ho6
  rw [c105, freeC]
  simp only [ret9]
  rw [b105_4]
  generalize hU : ((J 5 0 12) &&& ((J 5 0 13) ^^^ (-1))) &&& (OWN J ^^^ (-1)) = U at hfb
  by_cases b1 : non9 (B1 (I 28 7) (I 39 0)) (w * h)
  · have hU0 : U = 0 := by
      rw [eq0_bt]
      intro c hc
      cases z : bt U c with
      | false => rfl
      | true => exact absurd ((hfb c).mp z).2.2 (b1 c ((hfb c).mp z).2.1)
    rw [if_pos ((lg0 _ _).mpr hU0)]
    have st2 : ∀ s, s ≤ w * h → (∀ c, c < s → ¬ B2 (I 28 7) (I 28 6) c) → den (d + 4) 105 23 [some (vr 3 0), some (vl U), none, some (vi (nn 0)), none] [] (MX I J T) = den (d + 4) 105 23 [some (vr 3 0), some (vl U), none, some (vi (nn s)), none] [] (MX I J T) := fun s hs hno =>
      for_find (s := s) (Lp := fun c => den (d + 4) 105 23 [some (vr 3 0), some (vl U), none, some (vi (nn c)), none] [] (MX I J T)) (fun c hc => by
        have hr : inR (nn c) 64 = true := nn_inR (by omega) (by omega)
        obtain ⟨q1, q2, q3, q4, q5, q6, q7⟩ := hC.2 c (by omega)
        rw [b105_23, hn, if_neg (by rw [nn_le (by omega) (by omega)]; omega), if_pos hr, nn_idx (by omega), nn_add1, q6, (hD.1 c (by omega)).1]
        by_cases z : I 28 6 c = -1
        · rw [if_pos z]
        · rw [if_neg z, if_pos hr, if_pos hr, if_pos]
          apply Classical.byContradiction
          intro y
          exact hno c hc ⟨z, fun x => y x.symm⟩) s 0 (by omega)
    by_cases b2 : non9 (B2 (I 28 7) (I 28 6)) (w * h)
    · refine (st2 (w * h) (Nat.le_refl _) b2).trans ?_
      rw [b105_23, hn, if_pos (Int32.le_refl _)]
      have hemp : ∀ k, k < 6 → o ≤ k → HT w h (bt (J 42 1 k)) := fun k hk hok => HT_nil (fun c hc => by
        rw [FL_bt hD h64 hk hc]
        refine decide_eq_false (fun z => ?_)
        rcases (hD.1 c hc).2 with y | ⟨q, hq, y⟩
        · rw [y] at z; exact nn_ne_neg (by omega) z.symm
        · rw [y] at z
          have := (nn_inj (by omega) (by omega)).mp z
          omega)
      have hfl : ∀ k, k < 6 → (HT w h (bt (J 42 1 k)) ↔ HT w h (FL (I 28 7) k)) := fun k hk => HT_iff hw1 (fun c hc => FL_bt hD h64 hk hc)
      have st3 : ∀ s, s ≤ 6 → (∀ k, k < s → HT w h (bt (J 42 1 k))) → den (d + 4) 105 80 [some (vr 3 0), some (vl U), none, some (vi (nn 0)), none] [] (MX I J T) = den (d + 4) 105 80 [some (vr 3 0), some (vl U), none, some (vi (nn s)), none] [] (MX I J T) := fun s hs hno =>
        for_find (s := s) (Lp := fun c => den (d + 4) 105 80 [some (vr 3 0), some (vl U), none, some (vi (nn c)), none] [] (MX I J T)) (fun k hk => by
          rw [b105_80, if_neg (by rw [show (6 : Int32) = nn 6 from rfl, nn_le (by omega) (by omega)]; omega), if_pos (nn_inR (by omega) (by omega)), nn_idx (by omega), hangC (d + 3) (w := w) (h := h) (J 42 1 k) I J T hW.1 hn hp hM hw1 hw8 h64 (fld_lt hD (by omega))]
          simp only [ret9]
          rw [b105_99, bi1 (hno k hk), if_pos (by decide), nn_add1]) s 0 (by omega)
      by_cases b3 : non9 (B3 (I 28 7) w h) o
      · have hall : ∀ k, k < 6 → HT w h (bt (J 42 1 k)) := fun k hk => by
          rcases Nat.lt_or_ge k o with z | z
          · rw [hfl k hk]
            exact Classical.byContradiction (fun y => b3 k z y)
          · exact hemp k hk z
        refine (st3 6 (Nat.le_refl _) hall).trans ?_
        rw [b105_80, if_pos (by decide)]
        have t4 := tho_B4 hM hD ho6 hw1 hw8 h64
        by_cases hwd : I 5 0 10 = 2
        · rw [if_neg (fun z => z hwd), thoC (d + 1) I J T hW.1]
          simp only [ret9]
          rw [b105_130]
          by_cases b4 : non9 (B4 (I 28 7) w h) (w * h)
          · have h0 : THO J w = 0 := by
              rw [eq0_bt]
              intro c hc
              cases z : bt (THO J w) c with
              | false => rfl
              | true => exact absurd ((t4 c).mp z).2 (b4 c ((t4 c).mp z).1)
            have hv : v = 0 := (BS_law hB).mpr ⟨b1, b2, b3, fun _ => b4⟩
            subst hv
            rw [if_pos ((lg0 _ _).mpr h0), c108]
            simp only [ret9]
            rw [b105_160]
            rfl
          · rcases hB with ⟨-, q1⟩ | ⟨-, q1, q2⟩ | ⟨-, q1, q2, q3⟩ | ⟨rfl, q1, q2, q3, q4, q5⟩ | ⟨-, q1, q2, q3, q4⟩
            · exact (fst_non b1 q1).elim
            · exact (fst_non b2 q2).elim
            · exact (fst_non b3 q3).elim
            · have hs : bt (THO J w) a = true := (t4 a).mpr ⟨q5.1, q5.2.1⟩
              have hl : ∀ j, j < a → bt (THO J w) j = false := fun j hj => by
                cases z : bt (THO J w) j with
                | false => rfl
                | true => exact absurd ((t4 j).mp z).2 (q5.2.2 j hj)
              rw [if_neg (fun z => by rw [(lg0 _ _).mp z, bt_zero] at hs; cases hs), leastC (d + 2) I J T hs hl]
              simp only [ret9]
              rw [b105_147, c108]
              simp only [ret9]
              rw [b105_150, if_neg (by omega)]
              rfl
            · exact absurd (q4 hwd) b4
        · have hv : v = 0 := (BS_law hB).mpr ⟨b1, b2, b3, fun z => absurd z hwd⟩
          subst hv
          rw [if_pos hwd, if_pos ((lg0 _ _).mpr rfl), c108]
          simp only [ret9]
          rw [b105_160]
          rfl
      · rcases hB with ⟨-, q1⟩ | ⟨-, q1, q2⟩ | ⟨rfl, q1, q2, q3⟩ | ⟨-, q1, q2, q3, q4, q5⟩ | ⟨-, q1, q2, q3, q4⟩
        · exact (fst_non b1 q1).elim
        · exact (fst_non b2 q2).elim
        · obtain ⟨a1, a2, a3⟩ := q3
          refine (st3 a (by omega) (fun k hk => (hfl k (by omega)).mpr (Classical.byContradiction (fun y => a3 k hk y)))).trans ?_
          rw [b105_80, if_neg (by rw [show (6 : Int32) = nn 6 from rfl, nn_le (by omega) (by omega)]; omega), if_pos (nn_inR (by omega) (by omega)), nn_idx (by omega), hangC (d + 3) (w := w) (h := h) (J 42 1 a) I J T hW.1 hn hp hM hw1 hw8 h64 (fld_lt hD (by omega))]
          simp only [ret9]
          rw [b105_99, bi0 (fun y => a2 ((hfl a (by omega)).mp y)), if_neg (by decide), c108]
          simp only [ret9]
          rw [b105_108, if_neg (by omega)]
          rfl
        · exact absurd q3 b3
        · exact absurd q3 b3
    · rcases hB with ⟨-, q1⟩ | ⟨rfl, q1, q2⟩ | ⟨-, q1, q2, q3⟩ | ⟨-, q1, q2, q3, q4, q5⟩ | ⟨-, q1, q2, q3, q4⟩
      · exact (fst_non b1 q1).elim
      · obtain ⟨a1, a2, a3⟩ := q2
        refine (st2 a (by omega) a3).trans ?_
        have hr : inR (nn a) 64 = true := nn_inR (by omega) (by omega)
        obtain ⟨p1, p2, p3, p4, p5, p6, p7⟩ := hC.2 a a1
        rw [b105_23, hn, if_neg (by rw [nn_le (by omega) (by omega)]; omega), if_pos hr, nn_idx (by omega), p6, (hD.1 a a1).1, if_neg a2.1, if_pos hr, if_pos hr, if_neg (fun z => a2.2 z.symm), c108]
        simp only [ret9]
        rw [b105_71, if_neg (by omega)]
        rfl
      · exact absurd q2 b2
      · exact absurd q2 b2
      · exact absurd q2 b2
  · rcases hB with ⟨rfl, q1⟩ | ⟨-, q1, q2⟩ | ⟨-, q1, q2, q3⟩ | ⟨-, q1, q2, q3, q4, q5⟩ | ⟨-, q1, q2, q3, q4⟩
    · obtain ⟨a1, a2, a3⟩ := q1
      have hs : bt U a = true := (hfb a).mpr ⟨by omega, a1, a2⟩
      have hl : ∀ j, j < a → bt U j = false := fun j hj => by
        cases z : bt U j with
        | false => rfl
        | true => exact absurd ((hfb j).mp z).2.2 (a3 j hj)
      rw [if_neg (fun z => by rw [(lg0 _ _).mp z, bt_zero] at hs; cases hs), leastC (d + 2) I J T hs hl]
      simp only [ret9]
      rw [b105_17, c108]
      simp only [ret9]
      rw [b105_20, if_neg (by omega)]
      rfl
    · exact absurd q1 b1
    · exact absurd q1 b1
    · exact absurd q1 b1
    · exact absurd q1 b1
end BARC
