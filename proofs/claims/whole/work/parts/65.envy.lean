/-! Envy and votes; the calls envies, votes -/
/-- how many of k from c on, added to a -/
def ct (f : Nat → Bool) : Nat → Nat → Nat → Nat
  | 0, _, a => a
  | k + 1, c, a => ct f k (c + 1) (if f c = true then a + 1 else a)
theorem ct_le (f : Nat → Bool) : ∀ k c a, ct f k c a ≤ a + k
  | 0, _, _ => Nat.le_refl _
  | k + 1, c, a => by
    show ct f k (c + 1) (if f c = true then a + 1 else a) ≤ _
    have h := ct_le f k (c + 1) (if f c = true then a + 1 else a)
    by_cases hf : f c = true
    · rw [if_pos hf] at h ⊢; omega
    · rw [if_neg hf] at h ⊢; omega
theorem ct_pos (f : Nat → Bool) : ∀ k c a, 0 < ct f k c a ↔ (0 < a ∨ ∃ i, c ≤ i ∧ i < c + k ∧ f i = true)
  | 0, c, a => by
    show 0 < a ↔ _
    constructor
    · intro h; exact .inl h
    · intro h
      rcases h with h | ⟨i, h1, h2, _⟩
      · exact h
      · omega
  | k + 1, c, a => by
    show 0 < ct f k (c + 1) (if f c = true then a + 1 else a) ↔ _
    rw [ct_pos f k (c + 1)]
    by_cases hf : f c = true
    · rw [if_pos hf]
      constructor
      · intro _; exact .inr ⟨c, by omega, by omega, hf⟩
      · intro _; exact .inl (by omega)
    · rw [if_neg hf]
      constructor
      · intro h
        rcases h with h | ⟨i, h1, h2, h3⟩
        · exact .inl h
        · exact .inr ⟨i, by omega, by omega, h3⟩
      · intro h
        rcases h with h | ⟨i, h1, h2, h3⟩
        · exact .inl h
        · refine .inr ⟨i, ?_, by omega, h3⟩
          rcases Nat.eq_or_lt_of_le h1 with z | z
          · subst z; exact absurd h3 hf
          · exact z
theorem ct_congr {f g : Nat → Bool} : ∀ k c a, (∀ i, c ≤ i → i < c + k → f i = g i) → ct f k c a = ct g k c a
  | 0, _, _, _ => rfl
  | k + 1, c, a, h => by
    show ct f k (c + 1) (if f c = true then a + 1 else a) = ct g k (c + 1) (if g c = true then a + 1 else a)
    rw [h c (Nat.le_refl c) (by omega)]
    exact ct_congr k (c + 1) _ (fun i h1 h2 => h i (by omega) (by omega))
theorem ct_itn (f : Nat → Bool) : ∀ k c a, itn (fun c a => if f c = true then a + 1 else a) k c a = ct f k c a
  | 0, _, _ => rfl
  | k + 1, c, a => ct_itn f k (c + 1) _
theorem manyM (d : Nat) {n : Nat} (x : Int32) (I : PI) (J : PJ) (T : TL) (hn : I 14 0 24 = nn n) (hn6 : n ≤ 64) : cal d 248 [vr 14 0, vi x] (MX I J T) = some (.inl (some (vi (nn (ct (fun c => decide (I 28 7 c = x)) n 0 0)))), MX I J T) := by
  rw [c248]
  have key := for_up (n := n) (Lp := fun c (a : Nat) => den d 248 4 [some (vr 14 0), some (vi x), some (vi (nn a)), some (vi (nn c))] [] (MX I J T)) (step := fun c a => if decide (I 28 7 c = x) = true then a + 1 else a) (by
    intro c a hc
    rw [b248_4, hn, if_neg (by rw [nn_le (by omega) (by omega)]; omega), if_pos (nn_inR (by omega) (by omega)), nn_idx (by omega)]
    by_cases hb : I 28 7 c = x
    · rw [if_neg (fun z => z hb), if_pos (decide_eq_true hb), nn_add1, nn_add1]
    · rw [if_pos hb, if_neg (fun z => hb (of_decide_eq_true z)), nn_add1, Int32.add_zero]) n 0 0 (by omega)
  refine Eq.trans key ?_
  rw [b248_4, hn, if_pos (Int32.le_refl _), ct_itn]
def EN (ws pr : Nat → Int32) (n o q : Nat) : Prop := (∃ c, c < n ∧ ws c = nn q) ∧ SU ws pr n o (nn o) < SU ws pr n o (nn q)
theorem envyC (d : Nat) {n o k q : Nat} (I : PI) (J : PJ) (T : TL) (hn : I 5 0 9 = nn n) (hn6 : n ≤ 64) (hk : k < 6) (hq : q < 6) (hD : RelD I J n o) : cal (d + 3) 97 [vr 0 0, vi (nn k), vi (nn q)] (MX I J T) = some (.inl (some (vi (bi (EN (I 28 7) (I 34 0) n k q)))), MX I J T) := by
  have hne : (lg_cmp (J 42 1 q) 0 = 0) ↔ ¬ ∃ c, c < n ∧ I 28 7 c = nn q := by
    rw [lg0, eq0_bt]
    constructor
    · intro h ⟨c, h1, h2⟩
      have := h c (by omega)
      rw [(hD.2 q hq c (by omega)).mpr ⟨h1, h2⟩] at this
      exact absurd this (by decide)
    · intro h c hc
      cases hb : bt (J 42 1 q) c with
      | false => rfl
      | true => exact absurd ⟨c, (hD.2 q hq c hc).mp hb⟩ h
  rw [c97, if_pos (nn_inR hq (by omega)), nn_idx (by omega)]
  by_cases h : ∃ c, c < n ∧ I 28 7 c = nn q
  · rw [if_neg (fun z => hne.mp z h), sumF (d + 1) (J 42 1 q) (I 28 7) (nn q) I J T hn hn6 hk (fun c hc => by
      rw [hD.2 q hq c (by omega)]
      exact ⟨fun z => z.2, fun z => ⟨hc, z⟩⟩)]
    simp only [ret9]
    rw [b97_22, sumOfC d I J T hn hn6 hk hD]
    simp only [ret9]
    rw [b97_27]
    by_cases h2 : SU (I 28 7) (I 34 0) n k (nn k) < SU (I 28 7) (I 34 0) n k (nn q)
    · rw [if_neg (i32_nle.mpr h2), bi1 ⟨h, h2⟩]
    · rw [if_pos (i32_nlt.mp h2), bi0 (fun z => h2 z.2)]
  · rw [if_pos (hne.mpr h), bi0 (fun z => h z.1)]
theorem envyM (d : Nat) {n k q : Nat} (I : PI) (J : PJ) (T : TL) (hn : I 14 0 24 = nn n) (hn6 : n ≤ 64) (hk : k < 6) : cal (d + 1) 247 [vr 14 0, vi (nn k), vi (nn q)] (MX I J T) = some (.inl (some (vi (bi (EN (I 28 7) (I 34 1) n k q)))), MX I J T) := by
  have hct := ct_le (fun c => decide (I 28 7 c = nn q)) n 0 0
  have hpos := ct_pos (fun c => decide (I 28 7 c = nn q)) n 0 0
  rw [c247, manyM d (nn q) I J T hn hn6]
  simp only [ret9]
  rw [b247_5]
  by_cases h : ∃ c, c < n ∧ I 28 7 c = nn q
  · have h0 : 0 < ct (fun c => decide (I 28 7 c = nn q)) n 0 0 := by
      obtain ⟨c, h1, h2⟩ := h
      exact hpos.mpr (.inr ⟨c, by omega, by omega, decide_eq_true h2⟩)
    rw [if_neg (by rw [le0 (by omega)]; omega), sumM d (nn q) I J T hn hn6 hk]
    simp only [ret9]
    rw [b247_14, sumM d (nn k) I J T hn hn6 hk]
    simp only [ret9]
    rw [b247_20]
    by_cases h2 : SU (I 28 7) (I 34 1) n k (nn k) < SU (I 28 7) (I 34 1) n k (nn q)
    · rw [if_neg (i32_nle.mpr h2), bi1 ⟨h, h2⟩]
    · rw [if_pos (i32_nlt.mp h2), bi0 (fun z => h2 z.2)]
  · have h0 : ct (fun c => decide (I 28 7 c = nn q)) n 0 0 = 0 := by
      rcases Nat.eq_zero_or_pos (ct (fun c => decide (I 28 7 c = nn q)) n 0 0) with z | z
      · exact z
      · exfalso
        rcases hpos.mp z with z | ⟨i, h1, h2, h3⟩
        · omega
        · exact h ⟨i, by omega, of_decide_eq_true h3⟩
    rw [h0, if_pos (by decide), bi0 (fun z => h z.1)]
theorem bi_congr {p q : Prop} (h : p ↔ q) : bi p = bi q := by
  by_cases hp : p
  · rw [bi1 hp, bi1 (h.mp hp)]
  · rw [bi0 hp, bi0 (fun z => hp (h.mpr z))]
theorem EN_congr {ws pr pr2 : Nat → Int32} {n o q : Nat} (h2 : ∀ c, c < n → pr (64 * o + c) = pr2 (64 * o + c)) : EN ws pr n o q ↔ EN ws pr2 n o q := by
  unfold EN
  rw [SU_congr (fun _ _ => rfl) h2, SU_congr (fun _ _ => rfl) h2]
def YS (ws pr : Nat → Int32) (n w p0 k : Nat) (lim had : Int32) (c0 : Nat) : Prop := (∀ c, c0 ≤ c → c < n → ws c = nn k → nn (dst w c p0) ≤ lim) ∧ had ≤ SU ws pr n k (nn k)
theorem YS_congr {ws pr pr2 : Nat → Int32} {n w p0 k : Nat} {lim had : Int32} (h2 : ∀ c, c < n → pr (64 * k + c) = pr2 (64 * k + c)) : YS ws pr n w p0 k lim had 0 ↔ YS ws pr2 n w p0 k lim had 0 := by
  unfold YS
  rw [SU_congr (fun _ _ => rfl) h2]
theorem YS_step {ws pr : Nat → Int32} {n w p0 k c : Nat} {lim had : Int32} (h : ws c = nn k → nn (dst w c p0) ≤ lim) : YS ws pr n w p0 k lim had (c + 1) ↔ YS ws pr n w p0 k lim had c := by
  unfold YS
  constructor
  · intro ⟨h1, h2⟩
    refine ⟨fun i a1 a2 a3 => ?_, h2⟩
    rcases Nat.eq_or_lt_of_le a1 with z | z
    · subst z; exact h a3
    · exact h1 i z a2 a3
  · intro ⟨h1, h2⟩
    exact ⟨fun i a1 a2 a3 => h1 i (by omega) a2 a3, h2⟩
theorem yesC (d : Nat) {n o w p0 k : Nat} (I : PI) (J : PJ) (T : TL) (hn : I 5 0 9 = nn n) (hn6 : n ≤ 64) (hk : k < 6) (hw : I 5 0 7 = nn w) (hw1 : 1 ≤ w) (hw8 : w ≤ 8) (hp : p0 < 64) (hd : I 21 3 k = nn p0) (hD : RelD I J n o) : cal (d + 3) 99 [vr 0 0, vi (nn k)] (MX I J T) = some (.inl (some (vi (bi (YS (I 28 7) (I 34 0) n w p0 k (I 5 0 11) (I 21 4 k) 0)))), MX I J T) := by
  rw [c99]
  have lp : ∀ m c, c + m = n → den (d + 3) 99 2 [some (vr 0 0), some (vi (nn k)), some (vi (nn c))] [] (MX I J T) = some (.inl (some (vi (bi (YS (I 28 7) (I 34 0) n w p0 k (I 5 0 11) (I 21 4 k) c)))), MX I J T) := by
    intro m
    induction m with
    | zero =>
      intro c hc
      rw [b99_2, hn, if_pos ((nn_le (by omega) (by omega)).mpr (by omega)), sumOfC d I J T hn hn6 hk hD]
      simp only [ret9]
      rw [b99_58, if_pos (nn_inR hk (by omega)), nn_idx (by omega)]
      by_cases h : SU (I 28 7) (I 34 0) n k (nn k) < I 21 4 k
      · rw [if_pos h, bi0 (fun z => i32_nlt.mpr z.2 h)]
      · rw [if_neg h, bi1 ⟨fun i a1 a2 => by omega, i32_nlt.mp h⟩]
    | succ m ih =>
      intro c hc
      rw [b99_2, hn, if_neg (by rw [nn_le (by omega) (by omega)]; omega), if_pos (nn_inR (by omega) (by omega)), nn_idx (by omega), (hD.1 c (by omega)).1]
      by_cases hb : I 28 7 c = nn k
      · rw [if_neg (fun z => z hb), stepsC (d + 2) (w := w) (k := k) (c := c) (p := p0) I J T hw hw1 hw8 hk (by omega) hp hd]
        simp only [ret9]
        rw [b99_35]
        by_cases hl : nn (dst w c p0) ≤ I 5 0 11
        · rw [if_pos hl, nn_add1, ih (c + 1) (by omega), bi_congr (YS_step (fun _ => hl))]
        · rw [if_neg hl, bi0 (fun z => hl (z.1 c (Nat.le_refl c) (by omega) hb))]
      · rw [if_pos hb, nn_add1, ih (c + 1) (by omega), bi_congr (YS_step (fun z => absurd z hb))]
  exact lp n 0 (by omega)
theorem yesM (d : Nat) {n w h p0 k : Nat} (I : PI) (J : PJ) (T : TL) (hn : I 14 0 24 = nn n) (hn6 : n ≤ 64) (hk : k < 6) (hg : GW I w h) (hp : p0 < 64) (hd : I 21 10 k = nn p0) : cal (d + 2) 242 [vr 14 0, vi (nn k)] (MX I J T) = some (.inl (some (vi (bi (YS (I 28 7) (I 34 1) n w p0 k (I 14 0 26) (I 21 11 k) 0)))), MX I J T) := by
  rw [c242]
  have lp : ∀ m c, c + m = n → den (d + 2) 242 2 [some (vr 14 0), some (vi (nn k)), some (vi (nn c))] [] (MX I J T) = some (.inl (some (vi (bi (YS (I 28 7) (I 34 1) n w p0 k (I 14 0 26) (I 21 11 k) c)))), MX I J T) := by
    intro m
    induction m with
    | zero =>
      intro c hc
      rw [b242_2, hn, if_pos ((nn_le (by omega) (by omega)).mpr (by omega)), sumM (d + 1) (nn k) I J T hn hn6 hk]
      simp only [ret9]
      rw [b242_47, if_pos (nn_inR hk (by omega)), nn_idx (by omega)]
      by_cases h : SU (I 28 7) (I 34 1) n k (nn k) < I 21 11 k
      · rw [if_pos h, bi0 (fun z => i32_nlt.mpr z.2 h)]
      · rw [if_neg h, bi1 ⟨fun i a1 a2 => by omega, i32_nlt.mp h⟩]
    | succ m ih =>
      intro c hc
      rw [b242_2, hn, if_neg (by rw [nn_le (by omega) (by omega)]; omega), if_pos (nn_inR (by omega) (by omega)), nn_idx (by omega)]
      by_cases hb : I 28 7 c = nn k
      · rw [if_neg (fun z => z hb), farM d (w := w) (h := h) (k := k) (c := c) (p := p0) I J T hg hk (by omega) hp hd]
        simp only [ret9]
        rw [b242_26]
        by_cases hl : nn (dst w c p0) ≤ I 14 0 26
        · rw [if_pos hl, nn_add1, ih (c + 1) (by omega), bi_congr (YS_step (fun _ => hl))]
        · rw [if_neg hl, bi0 (fun z => hl (z.1 c (Nat.le_refl c) (by omega) hb))]
      · rw [if_pos hb, nn_add1, ih (c + 1) (by omega), bi_congr (YS_step (fun z => absurd z hb))]
  exact lp n 0 (by omega)
