/-! The class's prices -/
theorem upA_upA {α : Type} (I : Nat → Nat → Nat → α) (k j : Nat) (f g : Nat → α) : upA (upA I k j f) k j g = upA I k j g := by
  funext a b c
  unfold upA
  by_cases h1 : a = k
  · by_cases h2 : b = j <;> simp [h1, h2]
  · simp [h1]
theorem upA_34_25 {α : Type} (I : Nat → Nat → Nat → α) (g : Nat) (P v : Nat → α) (i : Nat) (x : α) : up3 (upA (upA I 34 0 P) 25 g v) 34 0 i x = upA (upA I 34 0 (fun j => if j = i then x else P j)) 25 g v := by
  funext a b c
  unfold up3 upA
  by_cases h1 : a = 34
  · subst h1
    by_cases h2 : b = 0
    · by_cases h3 : c = i <;> simp [h2, h3]
    · simp [h2]
  · simp [h1]
/-- what the class needs for an owner's prices -/
def CP (I : PI) (J : PJ) (g w h k p0 len : Nat) (p wt : Nat → Int32) : Prop := (I 5 0 7 = nn w ∧ I 5 0 9 = nn (w * h) ∧ 1 ≤ w ∧ w ≤ 8 ∧ 1 ≤ h ∧ h ≤ 8) ∧ RelM J w h ∧ (∀ i, i < 64 → (bt (J 5 0 13) i = true ↔ (i < w * h ∧ ¬ wt i = 0))) ∧ (∃ o, k < o ∧ o ≤ 6 ∧ I 1 g 3 = nn o) ∧ (len ≤ 40 ∧ I 21 (5 * g) k = nn len ∧ (∀ i, i < len → I 31 g (40 * k + i) = clsS (p i)) ∧ okP p len 0 0) ∧ (p0 < 64 ∧ I 21 3 k = nn p0) ∧ ∀ c, c < w * h → wb (I 28 0 c) ∧ wb (I 28 1 c)
def VC (I : PI) (w h p0 len : Nat) (p wt : Nat → Int32) (c : Nat) : Int32 := VP p len (I 28 0 c) (I 28 1 c) (nn (dst w c p0)) (if nearW wt w h c = true then 1 else 0)
def PF (I : PI) (set : Int64) (k : Nat) (V : Nat → Int32) (n : Nat) (j : Nat) : Int32 := if 64 * k ≤ j ∧ j < 64 * k + n ∧ bt set (j - 64 * k) = true then V (j - 64 * k) else I 34 0 j
theorem PF_skip (I : PI) (set : Int64) (k : Nat) (V : Nat → Int32) (c : Nat) (h : bt set c = false) : PF I set k V (c + 1) = PF I set k V c := by
  funext j
  unfold PF
  by_cases hj : j = 64 * k + c
  · subst hj
    rw [Nat.add_sub_cancel_left, h]
    simp
  · have : (64 * k ≤ j ∧ j < 64 * k + (c + 1) ∧ bt set (j - 64 * k) = true) ↔ (64 * k ≤ j ∧ j < 64 * k + c ∧ bt set (j - 64 * k) = true) := by
      constructor
      · intro ⟨a, b, d⟩; exact ⟨a, by omega, d⟩
      · intro ⟨a, b, d⟩; exact ⟨a, by omega, d⟩
    simp [this]
theorem PF_set (I : PI) (set : Int64) (k : Nat) (V : Nat → Int32) (c : Nat) (h : bt set c = true) : (fun j => if j = 64 * k + c then V c else PF I set k V c j) = PF I set k V (c + 1) := by
  funext j
  unfold PF
  by_cases hj : j = 64 * k + c
  · subst hj
    rw [if_pos rfl, Nat.add_sub_cancel_left, if_pos ⟨by omega, by omega, h⟩]
  · rw [if_neg hj]
    have : (64 * k ≤ j ∧ j < 64 * k + (c + 1) ∧ bt set (j - 64 * k) = true) ↔ (64 * k ≤ j ∧ j < 64 * k + c ∧ bt set (j - 64 * k) = true) := by
      constructor
      · intro ⟨a, b, d⟩; exact ⟨a, by omega, d⟩
      · intro ⟨a, b, d⟩; exact ⟨a, by omega, d⟩
    simp [this]
theorem PF_zero (I : PI) (set : Int64) (k : Nat) (V : Nat → Int32) : PF I set k V 0 = I 34 0 := by
  funext j
  unfold PF
  rw [if_neg (by omega)]
theorem dst_le {w h c p : Nat} (hw1 : 1 ≤ w) (hw8 : w ≤ 8) (hh : h ≤ 8) (hc : c < w * h) (hp : p < 64) : wb (nn (dst w c p)) := by
  have m1 : c % w ≤ c := Nat.mod_le _ _
  have m2 : p % w ≤ p := Nat.mod_le _ _
  have m3 : c / w ≤ c := Nat.div_le_self _ _
  have m4 : p / w ≤ p := Nat.div_le_self _ _
  have h64 : w * h ≤ 64 := Nat.mul_le_mul hw8 hh
  have a1 : c % w - p % w ≤ 63 := Nat.le_trans (Nat.sub_le _ _) (by omega)
  have a2 : p % w - c % w ≤ 63 := Nat.le_trans (Nat.sub_le _ _) (by omega)
  have a3 : c / w - p / w ≤ 63 := Nat.le_trans (Nat.sub_le _ _) (by omega)
  have a4 : p / w - c / w ≤ 63 := Nat.le_trans (Nat.sub_le _ _) (by omega)
  have : dst w c p ≤ 256 := by
    unfold dst
    generalize c % w - p % w = b1 at a1 ⊢
    generalize p % w - c % w = b2 at a2 ⊢
    generalize c / w - p / w = b3 at a3 ⊢
    generalize p / w - c / w = b4 at a4 ⊢
    omega
  refine ⟨Int32.le_trans (show (-10000 : Int32) ≤ 0 by decide) (nn_nonneg (by omega)), ?_⟩
  exact (nn_le (b := 10000) (by omega) (by omega)).mpr (by omega)
theorem priceLp (d : Nat) {w h k p0 len : Nat} (set : Int64) (p wt : Nat → Int32) (I : PI) (J : PJ) (T : TL) (hcp : CP I J T.1 w h k p0 len p wt) : ∀ (m c : Nat) (v : Nat → Int32) (o5 : Option AV), c + m = w * h → ∃ v2 : Nat → Int32, den (d + 3) 57 3 [some (vr 5 0), some (vi (nn k)), some (vl set), none, some (vi (nn c)), o5] [] (MX (upA (upA I 34 0 (PF I set k (VC I w h p0 len p wt) c)) 25 T.1 v) J T) = some (.inl none, MX (upA (upA I 34 0 (PF I set k (VC I w h p0 len p wt) (w * h))) 25 T.1 v2) J T) := by
  obtain ⟨⟨hw, hn9, hw1, hw8, hh1, hh8⟩, hM, hwt, ⟨o, ho1, ho2, ho3⟩, ⟨hl, hlen, hq, hok⟩, ⟨hp0, hdoor⟩, hsw⟩ := id hcp
  have h64 : w * h ≤ 64 := Nat.mul_le_mul hw8 hh8
  intro m
  induction m with
  | zero =>
    intro c v o5 hc
    have hc0 : c = w * h := by omega
    subst hc0
    refine ⟨v, ?_⟩
    rw [b57_3]
    show (if I 5 0 9 ≤ _ then _ else _) = _
    rw [hn9, if_pos (Int32.le_refl _)]
  | succ m ih =>
    intro c v o5 hc
    have hcn : c < w * h := by omega
    rw [b57_3]
    show ∃ v2, (if I 5 0 9 ≤ _ then _ else _) = _
    rw [hn9, if_neg (by rw [nn_le (by omega) (by omega)]; omega)]
    by_cases hb : bt set c = false
    · rw [if_pos ((bit0 set (by omega)).mpr hb), nn_add1, ← PF_skip I set k _ c hb]
      exact ih (c + 1) v o5 (by omega)
    · rw [if_neg (fun z => hb ((bit0 set (by omega)).mp z)), besideC (d + 1) (w := w) (lsh9 1 (nn c)) (upA (upA I 34 0 (PF I set k (VC I w h p0 len p wt) c)) 25 T.1 v) J T hw]
      simp only [ret9]
      have hb1 : bt set c = true := by
        cases z : bt set c with
        | true => rfl
        | false => exact absurd z hb
      have hc6 : inR (nn c) 64 = true := nn_inR (by omega) (by omega)
      have hk6 : k < 6 := by omega
      -- behind the looking for water
      have tail : ∀ wv : Int32, wv = (if nearW wt w h c = true then 1 else 0) → ∃ v2 : Nat → Int32, den (d + 3) 57 85 [some (vr 5 0), some (vi (nn k)), some (vl set), none, some (vi (nn c)), some (vi wv)] [vi (nn (dst w c p0)), vi (I 28 1 c), vi (I 28 0 c), vi (nn k), vr 1 T.1, vi (nn k * 64 + nn c), vr 34 0] (MX (upA (upA I 34 0 (PF I set k (VC I w h p0 len p wt) c)) 25 T.1 v) J T) = some (.inl none, MX (upA (upA I 34 0 (PF I set k (VC I w h p0 len p wt) (w * h))) 25 T.1 v2) J T) := by
        intro wv hwv
        have hwb : wb wv := by
          rw [hwv]
          by_cases z : nearW wt w h c = true
          · rw [if_pos z]; unfold wb; decide
          · rw [if_neg z]; unfold wb; decide
        obtain ⟨v3, e3⟩ := reckC d (k := k) (g := T.1) (len := len) (o := o) (I 28 0 c) (I 28 1 c) (nn (dst w c p0)) wv p (upA (upA I 34 0 (PF I set k (VC I w h p0 len p wt) c)) 25 T.1 v) J T ho1 ho2 ho3 hl hlen hq hok (hsw c hcn).1 (hsw c hcn).2 (dst_le hw1 hw8 hh8 hcn hp0) hwb
        rw [b57_85, e3, upA_upA]
        simp only [ret9]
        rw [b57_90, show nn k * 64 + nn c = nn (64 * k + c) from by rw [show (64 : Int32) = nn 64 from rfl, nn_mul, nn_add, Nat.mul_comm], if_pos (nn_inR (by omega) (by omega)), nn_idx (by omega), upA_34_25, nn_add1]
        have e4 : VP p len (I 28 0 c) (I 28 1 c) (nn (dst w c p0)) wv = VC I w h p0 len p wt c := by
          unfold VC; rw [hwv]
        rw [e4, PF_set I set k _ c hb1]
        exact ih (c + 1) v3 (some (vi wv)) (by omega)
      rw [b57_31]
      have est := stepsC (d + 2) (w := w) (k := k) (c := c) (p := p0) (upA (upA I 34 0 (PF I set k (VC I w h p0 len p wt) c)) 25 T.1 v) J T hw hw1 hw8 hk6 (by omega) hp0 hdoor
      by_cases hnw : nearW wt w h c = true
      · rw [if_neg (fun z => (near_bs hM hw1 hw8 h64 hcn hwt).mp z hnw), if_pos hc6, if_pos hc6, nn_idx (by omega), est]
        simp only [ret9]
        exact tail 1 (by rw [if_pos hnw])
      · rw [if_pos ((near_bs hM hw1 hw8 h64 hcn hwt).mpr hnw), if_pos hc6, if_pos hc6, nn_idx (by omega), est]
        simp only [ret9]
        exact tail 0 (by rw [if_neg hnw])
theorem priceTo (d : Nat) {w h k p0 len : Nat} (set : Int64) (p wt : Nat → Int32) (I : PI) (J : PJ) (T : TL) (hcp : CP I J T.1 w h k p0 len p wt) : ∃ v : Nat → Int32, cal (d + 3) 57 [vr 5 0, vi (nn k), vl set] (MX I J T) = some (.inl none, MX (upA (upA I 34 0 (PF I set k (VC I w h p0 len p wt) (w * h))) 25 T.1 v) J T) := by
  obtain ⟨v, e⟩ := priceLp d set p wt I J T hcp (w * h) 0 (I 25 T.1) none (by omega)
  refine ⟨v, ?_⟩
  rw [c57]
  rw [PF_zero, upA_id, upA_id] at e
  exact e
