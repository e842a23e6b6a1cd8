/-! Counting cells; the lowest bit of a set -/
def cn (f : Nat → Bool) (n : Nat) : Nat := sQ (fun c => if f c = true then 1 else 0) n
theorem ct_cn (f : Nat → Bool) (n : Nat) : ct f n 0 0 = cn f n := ct_sQ f n
theorem cn_succ (f : Nat → Bool) (n : Nat) : cn f (n + 1) = cn f n + (if f n = true then 1 else 0) := rfl
theorem cn_le (f : Nat → Bool) : ∀ n, cn f n ≤ n
  | 0 => Nat.le_refl _
  | n + 1 => by
    rw [cn_succ]
    have := cn_le f n
    split <;> omega
theorem cn_mono {f g : Nat → Bool} : ∀ n, (∀ c, c < n → f c = true → g c = true) → cn f n ≤ cn g n
  | 0, _ => Nat.le_refl _
  | n + 1, h => by
    have h1 := cn_mono n (fun c hc => h c (by omega))
    have h2 := h n (by omega)
    rw [cn_succ, cn_succ]
    by_cases hf : f n = true
    · rw [if_pos hf, if_pos (h2 hf)]; omega
    · rw [if_neg hf]; split <;> omega
theorem cn_lt {f g : Nat → Bool} {d : Nat} : ∀ n, (∀ c, c < n → f c = true → g c = true) → d < n → g d = true → f d = false → cn f n < cn g n
  | 0, _, hd, _, _ => absurd hd (by omega)
  | n + 1, h, hd, hg, hf => by
    have h1 := cn_mono n (fun c hc => h c (by omega))
    have h2 := h n (by omega)
    rw [cn_succ, cn_succ]
    rcases Nat.eq_or_lt_of_le (Nat.lt_succ_iff.mp hd) with z | z
    · subst z
      rw [if_neg (by rw [hf]; decide), if_pos hg]; omega
    · have h3 := cn_lt n (fun c hc => h c (by omega)) z hg hf
      by_cases hf2 : f n = true
      · rw [if_pos hf2, if_pos (h2 hf2)]; omega
      · rw [if_neg hf2]; split <;> omega
theorem cn_all {f g : Nat → Bool} {n : Nat} (h1 : cn f n = cn g n) (h2 : ∀ c, c < n → f c = true → g c = true) {c : Nat} (hc : c < n) (hg : g c = true) : f c = true := by
  cases hf : f c with
  | true => rfl
  | false => exact absurd h1 (Nat.ne_of_lt (cn_lt n h2 hc hg hf))
theorem cn_congr {f g : Nat → Bool} {n : Nat} (h : ∀ c, c < n → f c = g c) : cn f n = cn g n := sQ_congr n (fun c hc => by rw [h c hc])
theorem cn_upd {f : Nat → Bool} {d : Nat} (hd : f d = false) : ∀ n, d < n → cn (fun c => if c = d then true else f c) n = cn f n + 1
  | 0, h => absurd h (by omega)
  | n + 1, h => by
    rw [cn_succ, cn_succ]
    rcases Nat.eq_or_lt_of_le (Nat.lt_succ_iff.mp h) with z | z
    · subst z
      rw [if_pos (by simp), if_neg (by rw [hd]; decide), cn_congr (g := f) (fun c hc => by rw [if_neg (by omega)])]
    · rw [cn_upd hd n z]
      rw [if_neg (show ¬ n = d by omega)]
      omega
theorem cn_lts (s : Nat) : ∀ n, cn (fun c => decide (c < s)) n = min s n
  | 0 => by simp [cn, sQ]
  | n + 1 => by
    rw [cn_succ, cn_lts s n]
    by_cases h : n < s
    · rw [if_pos (decide_eq_true h)]; omega
    · rw [if_neg (fun z => h (of_decide_eq_true z))]; omega
theorem cn_pos {f : Nat → Bool} {n c : Nat} (hc : c < n) (h : f c = true) : 0 < cn f n := by
  rw [← ct_cn, ct_pos]
  exact .inr ⟨c, by omega, by omega, h⟩
theorem cn_zero {f : Nat → Bool} {n : Nat} (h : ∀ c, c < n → f c = false) : cn f n = 0 := by
  rcases Nat.eq_zero_or_pos (cn f n) with z | z
  · exact z
  · rw [← ct_cn] at z
    replace z := (ct_pos f n 0 0).mp z
    rcases z with z | ⟨i, h1, h2, h3⟩
    · omega
    · rw [h i (by omega)] at h3; cases h3
theorem least_ex (P : Nat → Bool) : ∀ n, (∃ c, c < n ∧ P c = true) → ∃ s, s < n ∧ P s = true ∧ ∀ j, j < s → P j = false
  | 0, ⟨c, h, _⟩ => absurd h (by omega)
  | n + 1, h => by
    by_cases h1 : ∃ c, c < n ∧ P c = true
    · obtain ⟨s, a1, a2, a3⟩ := least_ex P n h1
      exact ⟨s, by omega, a2, a3⟩
    · obtain ⟨c, a1, a2⟩ := h
      refine ⟨c, a1, a2, fun j hj => ?_⟩
      cases hp : P j with
      | false => rfl
      | true => exact absurd ⟨j, by omega, hp⟩ h1
theorem bt_neg (x : Int64) (c : Nat) : bt (-x) c = (bt x c ^^ (decide (c < 64) && decide (∃ j, j < c ∧ bt x j = true))) := by
  unfold bt
  rw [Int64.toBitVec_neg, BitVec.getLsbD_neg]
theorem bt_sub1 (x : Int64) (c : Nat) : bt (x - 1) c = (decide (c < 64) && !bt (-x) c) := by
  unfold bt
  rw [Int64.toBitVec_sub, show (1 : Int64).toBitVec = 1#64 from rfl, ← BitVec.not_neg, BitVec.getLsbD_not, Int64.toBitVec_neg]
theorem bt_64 {f : Int64} {s : Nat} (hs : bt f s = true) : s < 64 := by
  rcases Nat.lt_or_ge s 64 with h | h
  · exact h
  · rw [bt_ge f h] at hs; cases hs
theorem low_bt {f : Int64} {s : Nat} (hs : bt f s = true) (hl : ∀ j, j < s → bt f j = false) (c : Nat) : bt (f &&& -f) c = decide (c = s) := by
  have h64 := bt_64 hs
  rw [bt_and, bt_neg]
  rcases Nat.lt_trichotomy c s with h | h | h
  · have e : ¬ c = s := by omega
    simp [hl c h, e]
  · subst h
    have e : ¬ ∃ j, j < c ∧ bt f j = true := fun ⟨j, h1, h2⟩ => by rw [hl j h1] at h2; cases h2
    rw [decide_eq_false e, hs]
    simp
  · have e : ¬ c = s := by omega
    rw [decide_eq_true (show ∃ j, j < c ∧ bt f j = true from ⟨s, h, hs⟩), decide_eq_false e]
    by_cases hc : c < 64
    · rw [decide_eq_true hc]; cases bt f c <;> rfl
    · rw [bt_ge f (by omega)]; rfl
theorem low_m1 {f : Int64} {s : Nat} (hs : bt f s = true) (hl : ∀ j, j < s → bt f j = false) (c : Nat) : bt ((f &&& -f) - 1) c = decide (c < s) := by
  have h64 := bt_64 hs
  rw [bt_sub1, bt_neg, low_bt hs hl]
  by_cases hc : c < 64
  · rw [decide_eq_true hc]
    rcases Nat.lt_trichotomy c s with h | h | h
    · have e : ¬ ∃ j, j < c ∧ bt (f &&& -f) j = true := fun ⟨j, h1, h2⟩ => by
        rw [low_bt hs hl] at h2
        have := of_decide_eq_true h2
        omega
      rw [decide_eq_false e, decide_eq_false (show ¬ c = s by omega), decide_eq_true h]
      rfl
    · subst h
      have e : ¬ ∃ j, j < c ∧ bt (f &&& -f) j = true := fun ⟨j, h1, h2⟩ => by
        rw [low_bt hs hl] at h2
        have := of_decide_eq_true h2
        omega
      rw [decide_eq_false e, decide_eq_false (show ¬ c < c by omega), decide_eq_true rfl]
      rfl
    · rw [decide_eq_true (show ∃ j, j < c ∧ bt (f &&& -f) j = true from ⟨s, h, by rw [low_bt hs hl]; exact decide_eq_true rfl⟩), decide_eq_false (show ¬ c = s by omega), decide_eq_false (show ¬ c < s by omega)]
      rfl
  · rw [decide_eq_false hc, decide_eq_false (show ¬ c < s by omega)]
    rfl
theorem leastC (d : Nat) {f : Int64} {s : Nat} (I : PI) (J : PJ) (T : TL) (hs : bt f s = true) (hl : ∀ j, j < s → bt f j = false) : cal (d + 1) 107 [vl f] (MX I J T) = some (.inl (some (vi (nn s))), MX I J T) := by
  have h64 := bt_64 hs
  rw [c107, bitC]
  simp only [ret9]
  rw [b107_9, ct_cn, cn_congr (g := fun c => decide (c < s)) (fun c _ => low_m1 hs hl c), cn_lts, Nat.min_eq_left (by omega)]
theorem ne0_bt {f : Int64} (h : ¬ f = 0) : ∃ s, s < 64 ∧ bt f s = true ∧ ∀ j, j < s → bt f j = false := by
  apply least_ex (bt f) 64
  apply Classical.byContradiction
  intro z
  apply h
  rw [eq0_bt]
  intro c hc
  cases hb : bt f c with
  | false => rfl
  | true => exact absurd ⟨c, hc, hb⟩ z
