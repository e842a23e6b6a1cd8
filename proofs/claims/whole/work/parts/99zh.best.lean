/-! The best of few cells: the class goes through all drawings -/
theorem sm_bi (p : Nat → Prop) : ∀ m q a, ∃ b, b ≤ a + m ∧ sm (fun q => bi (p q)) m q (nn a) = nn b
  | 0, q, a => ⟨a, by omega, rfl⟩
  | m + 1, q, a => by
    by_cases z : p q
    · obtain ⟨b, h1, h2⟩ := sm_bi p m (q + 1) (a + 1)
      refine ⟨b, by omega, ?_⟩
      show sm _ m (q + 1) (nn a + bi (p q)) = _
      rw [bi1 z, nn_add1]
      exact h2
    · obtain ⟨b, h1, h2⟩ := sm_bi p m (q + 1) a
      refine ⟨b, by omega, ?_⟩
      show sm _ m (q + 1) (nn a + bi (p q)) = _
      rw [bi0 z, Int32.add_zero]
      exact h2
theorem PRS_nn (ws pr : Nat → Int32) (n : Nat) {o : Nat} (ho6 : o ≤ 6) : ∃ b, b ≤ 36 ∧ PRS ws pr n o = nn b := by
  have key : ∀ m k a, ∃ b, b ≤ a + m * o ∧ itn (fun k a => sm (fun q => bi (¬ k = q ∧ EN ws pr n k q)) o 0 a) m k (nn a) = nn b := by
    intro m
    induction m with
    | zero => intro k a; exact ⟨a, by omega, rfl⟩
    | succ m ih =>
      intro k a
      obtain ⟨b, h1, h2⟩ := sm_bi (fun q => ¬ k = q ∧ EN ws pr n k q) o 0 a
      obtain ⟨b2, h3, h4⟩ := ih (k + 1) b
      refine ⟨b2, by rw [Nat.succ_mul]; omega, ?_⟩
      rw [itn_su]
      show itn _ m (k + 1) (sm (fun q => bi (¬ k = q ∧ EN ws pr n k q)) o 0 (nn a)) = _
      rw [h2]
      exact h4
  obtain ⟨b, h1, h2⟩ := key o 0 0
  have : o * o ≤ 6 * 6 := Nat.mul_le_mul ho6 ho6
  exact ⟨b, by omega, h2⟩
theorem BE_nn (pr : Nat → Int32) (n : Nat) {o : Nat} (ho6 : o ≤ 6) (cv : Int32) (v : Nat → Int32) : ¬ BE pr n o cv v < 0 := by
  unfold BE
  by_cases z : cv = 0
  · rw [if_pos z]; decide
  · rw [if_neg z]
    obtain ⟨b, h1, h2⟩ := PRS_nn v pr n ho6
    rw [h2]
    exact i32_nlt.mpr (nn_nonneg (by omega))
theorem WOk_on {pr ws wo wo2 : Nat → Int32} {ff : Nat → Int64} {n o c k : Nat} (hn : n ≤ 64) (ho3 : o ≤ 3) (hc : c < n) (hk : k < o) (hw : ws c = -1) (hW : WOk pr ws wo ff n o) (h2 : ∀ j x, j < o → x < o → wo2 (3 * j + x) = if x = k then wo (3 * j + k) + 1 * pr (64 * j + c) else wo (3 * j + x)) : WOk pr (wu ws c (nn k)) wo2 (fun i => if i = k then ff k ^^^ (lsh9 1 (nn c)) else ff i) n o := by
  obtain ⟨w1, w2⟩ := hW
  constructor
  · intro j x hj hx
    have hne : ¬ ws c = nn x := by rw [hw]; exact fun y => nn_ne_neg (a := x) (by omega) y.symm
    rw [h2 j x hj hx, SU_upd hc, if_neg hne]
    by_cases z : x = k
    · subst z
      rw [if_pos rfl, if_pos rfl, w1 j x hj hx]
      grind
    · rw [if_neg z, if_neg (fun y => z ((nn_inj (by omega) (by omega)).mp y).symm), w1 j x hj hx]
      grind
  · intro x hx i hi
    have hne : ¬ ws c = nn x := by rw [hw]; exact fun y => nn_ne_neg (a := x) (by omega) y.symm
    dsimp only
    unfold wu
    by_cases z : x = k
    · subst z
      rw [if_pos rfl, bt_xor, bt_bit (show c < 64 by omega)]
      by_cases y : i = c
      · subst y
        rw [if_pos rfl, decide_eq_true rfl]
        have : bt (ff x) i = false := by
          cases q : bt (ff x) i with
          | false => rfl
          | true => exact absurd ((w2 x hx i hi).mp q).2 hne
        rw [this]
        exact ⟨fun _ => ⟨hc, rfl⟩, fun _ => rfl⟩
      · rw [if_neg y, decide_eq_false y, Bool.xor_false]
        exact w2 x hx i hi
    · rw [if_neg z]
      by_cases y : i = c
      · subst y
        rw [if_pos rfl, w2 x hx i hi]
        exact ⟨fun q => absurd q.2 hne, fun q => absurd ((nn_inj (by omega) (by omega)).mp q.2).symm z⟩
      · rw [if_neg y]
        exact w2 x hx i hi
theorem WOk_off {pr ws wo wo2 : Nat → Int32} {ff : Nat → Int64} {n o c k : Nat} (hn : n ≤ 64) (ho3 : o ≤ 3) (hc : c < n) (hk : k < o) (hw : ws c = -1) (hW : WOk pr (wu ws c (nn k)) wo ff n o) (h2 : ∀ j x, j < o → x < o → wo2 (3 * j + x) = if x = k then wo (3 * j + k) + (-1) * pr (64 * j + c) else wo (3 * j + x)) : WOk pr ws wo2 (fun i => if i = k then ff k ^^^ (lsh9 1 (nn c)) else ff i) n o := by
  obtain ⟨w1, w2⟩ := hW
  constructor
  · intro j x hj hx
    have hne : ¬ ws c = nn x := by rw [hw]; exact fun y => nn_ne_neg (a := x) (by omega) y.symm
    rw [h2 j x hj hx]
    by_cases z : x = k
    · subst z
      rw [if_pos rfl, w1 j x hj hx, SU_upd hc, if_neg hne, if_pos rfl]
      grind
    · rw [if_neg z, w1 j x hj hx, SU_upd hc, if_neg hne, if_neg (fun y => z ((nn_inj (by omega) (by omega)).mp y).symm)]
      grind
  · intro x hx i hi
    have hne : ¬ ws c = nn x := by rw [hw]; exact fun y => nn_ne_neg (a := x) (by omega) y.symm
    have w2i := w2 x hx i hi
    unfold wu at w2i
    dsimp only
    by_cases z : x = k
    · subst z
      rw [if_pos rfl, bt_xor, bt_bit (show c < 64 by omega)]
      by_cases y : i = c
      · subst y
        rw [if_pos rfl] at w2i
        rw [w2i.mpr ⟨hc, rfl⟩, decide_eq_true rfl]
        exact ⟨fun q => absurd q (by decide), fun q => absurd q.2 hne⟩
      · rw [if_neg y] at w2i
        rw [decide_eq_false y, Bool.xor_false]
        exact w2i
    · rw [if_neg z]
      by_cases y : i = c
      · subst y
        rw [if_pos rfl] at w2i
        rw [w2i]
        exact ⟨fun q => absurd ((nn_inj (by omega) (by omega)).mp q.2).symm z, fun q => absurd q.2 hne⟩
      · rw [if_neg y] at w2i
        exact w2i
/-- a drawing up to a cell, that may go on -/
def OKP (kp wt : Nat → Int32) (o c : Nat) (ws : Nat → Int32) : Prop := (∀ i, i < c → (wt i = 0 → ∃ k, k < o ∧ ws i = nn k ∧ may9 kp k i) ∧ (¬ wt i = 0 → ws i = -1)) ∧ ∀ i, c ≤ i → ws i = -1
theorem OKP_dry {kp wt : Nat → Int32} {o c k : Nat} {ws : Nat → Int32} (h : OKP kp wt o c ws) (hw : wt c = 0) (hk : k < o) (hm : may9 kp k c) : OKP kp wt o (c + 1) (wu ws c (nn k)) := by
  refine ⟨fun i hi => ?_, fun i hi => ?_⟩
  · unfold wu
    by_cases z : i = c
    · subst z
      rw [if_pos rfl]
      exact ⟨fun _ => ⟨k, hk, rfl, hm⟩, fun y => absurd hw y⟩
    · rw [if_neg z]
      exact h.1 i (by omega)
  · unfold wu
    rw [if_neg (by omega)]
    exact h.2 i (by omega)
theorem OKP_wet {kp wt : Nat → Int32} {o c : Nat} {ws : Nat → Int32} (h : OKP kp wt o c ws) (hw : ¬ wt c = 0) : OKP kp wt o (c + 1) ws := by
  refine ⟨fun i hi => ?_, fun i hi => h.2 i (by omega)⟩
  by_cases z : i = c
  · subst z
    exact ⟨fun y => absurd y hw, fun _ => h.2 i (by omega)⟩
  · exact h.1 i (by omega)
theorem OKP_law {kp wt : Nat → Int32} {o w h : Nat} {wd : Int32} {ws : Nat → Int32} (ho6 : o ≤ 6) (hwk : ∀ i, i < w * h → ¬ wt i = 0 → kp i = -1) (hO : OKP kp wt o (w * h) ws) : LAW ws kp wt w h o wd ↔ ∀ k, k < o → LFP w h wd (FL ws k) := by
  have hr : ∀ c, c < w * h → ownr o (ws c) := fun c hc => by
    by_cases z : wt c = 0
    · obtain ⟨k, k1, k2, -⟩ := (hO.1 c hc).1 z
      exact .inr ⟨k, k1, k2⟩
    · exact .inl ((hO.1 c hc).2 z)
  rw [LAW_iff ho6 hr]
  constructor
  · exact fun y => y.2.2
  · intro y
    refine ⟨fun c hc q => ?_, fun c hc q => ?_, y⟩
    · obtain ⟨k, k1, k2, -⟩ := (hO.1 c hc).1 q.2
      have := q.1
      rw [k2] at this
      exact nn_ne_neg (by omega) this
    · by_cases z : wt c = 0
      · obtain ⟨k, k1, k2, k3⟩ := (hO.1 c hc).1 z
        rcases k3 with k3 | k3
        · exact q.1 k3
        · exact q.2 (k2.trans k3.symm)
      · exact q.1 (hwk c hc z)
