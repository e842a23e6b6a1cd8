/-! Ways and waters -/
theorem neg_nn {k : Nat} (h0 : 0 < k) (h : k < 2147483648) : ¬ (0 : Int32) ≤ -(nn k) := by
  rw [Int32.le_iff_toInt_le, Int32.toInt_neg, nn_toInt h, show (0 : Int32).toInt = 0 from rfl, Int.bmod_def]
  omega
theorem abs_d {a b : Nat} (ha : a < 2147483648) (hb : b < 2147483648) : (if (0 : Int32) ≤ nn a - nn b then nn a - nn b else -(nn a - nn b)) = nn ((a - b) + (b - a)) := by
  by_cases h : b ≤ a
  · rw [nn_sub h, if_pos (nn_nonneg (by omega)), show b - a = 0 by omega, Nat.add_zero]
  · have e : nn a - nn b = -(nn (b - a)) := by
      rw [← nn_sub (show a ≤ b by omega), Int32.neg_sub]
    rw [e, if_neg (neg_nn (by omega) (by omega)), Int32.neg_neg, show a - b = 0 by omega, Nat.zero_add]
theorem abs9_d {a b : Nat} (ha : a < 2147483648) (hb : b < 2147483648) : abs9 (nn a - nn b) = nn ((a - b) + (b - a)) := by
  unfold abs9
  rw [Int32.zero_sub]
  exact abs_d ha hb
theorem absM (d : Nat) {a b : Nat} (I : PI) (J : PJ) (T : TL) (ha : a < 2147483648) (hb : b < 2147483648) : cal d 232 [vi (nn a - nn b)] (MX I J T) = some (.inl (some (vi (nn ((a - b) + (b - a))))), MX I J T) := by
  rw [c232, ← abs_d ha hb]
  by_cases h : (0 : Int32) ≤ nn a - nn b
  · rw [if_pos h, if_pos h]
  · rw [if_neg h, if_neg h]
theorem farM (d : Nat) {w h k c p : Nat} (I : PI) (J : PJ) (T : TL) (hg : GW I w h) (hk : k < 6) (hc : c < 64) (hp : p < 64) (hd : I 21 10 k = nn p) : cal (d + 1) 231 [vr 14 0, vi (nn k), vi (nn c)] (MX I J T) = some (.inl (some (vi (nn (dst w c p)))), MX I J T) := by
  obtain ⟨hw, hh, hw1, hw8, hh1, hh8⟩ := id hg
  have hw0 : ¬ I 14 0 22 = 0 := by rw [hw, eq0n (by omega)]; omega
  have hk6 : inR (nn k) 6 = true := nn_inR hk (by omega)
  have m1 : c % w ≤ c := Nat.mod_le _ _
  have m2 : p % w ≤ p := Nat.mod_le _ _
  have m3 : c / w ≤ c := Nat.div_le_self _ _
  have m4 : p / w ≤ p := Nat.div_le_self _ _
  rw [c231, if_neg hw0, if_pos hk6, if_neg hw0, nn_idx (by omega), hd, hw, nn_rem (by omega) (by omega), nn_rem (by omega) (by omega), absM d I J T (by omega) (by omega)]
  refine (b231_21 d (nn k) (nn c) _ I J T).trans ?_
  rw [if_neg hw0, if_pos hk6, if_neg hw0, nn_idx (by omega), hd, hw, nn_div (by omega) (by omega), nn_div (by omega) (by omega), absM d I J T (by omega) (by omega)]
  refine (b231_42 (d + 1) (nn k) (nn c) _ _ I J T).trans ?_
  rw [nn_add]
  unfold dst
  congr 4
/-- one side: does it look at water? -/
def lookW (f : Nat → Int32) (x : Option Nat) : Bool := match x with
  | some d => decide (¬ f d = 0)
  | none => false
theorem wat1 (d : Nat) {w h c s : Nat} (o3 : Option AV) (I : PI) (J : PJ) (T : TL) (hg : GW I w h) (hc : c < w * h) (hs : s < 4) : ∃ o : Option AV, den (d + 2) 233 2 [some (vr 14 0), some (vi (nn c)), some (vi (nn s)), o3] [] (MX I J T) = if lookW (I 39 0) (nb w h c s) = true then some (.inl (some (vi 1)), MX I J T) else den (d + 2) 233 2 [some (vr 14 0), some (vi (nn c)), some (vi (nn (s + 1))), o] [] (MX I J T) := by
  obtain ⟨hw, hh, hw1, hw8, hh1, hh8⟩ := id hg
  have h64 : w * h ≤ 64 := Nat.mul_le_mul hw8 hh8
  refine ⟨some (vi (oi (nb w h c s))), ?_⟩
  rw [b233_2, if_neg (by rw [show (4 : Int32) = nn 4 from rfl, nn_le (by omega) (by omega)]; omega), besM d I J T hg hc hs]
  refine (b233_13 (d + 2) (nn c) (nn s) o3 _ I J T).trans ?_
  cases hb : nb w h c s with
  | none =>
    show (if (-1 : Int32) = -1 then _ else _) = _
    rw [if_pos rfl, if_neg (by simp [lookW]), nn_add1]
  | some e =>
    have he := nb_lt hw1 hc hb
    show (if nn e = -1 then _ else (if inR (nn e) 64 = true then (if I 39 0 (nn e).toNatClampNeg = 0 then _ else _) else _)) = _
    rw [if_neg (nn_ne_neg (by omega)), if_pos (nn_inR (by omega) (by omega)), nn_idx (by omega)]
    by_cases hz : I 39 0 e = 0
    · rw [if_pos hz, if_neg (by unfold lookW; simp [hz]), nn_add1]
    · rw [if_neg hz, if_pos (by unfold lookW; simp [hz])]
theorem watM (d : Nat) {w h c : Nat} (I : PI) (J : PJ) (T : TL) (hg : GW I w h) (hc : c < w * h) : cal (d + 2) 233 [vr 14 0, vi (nn c)] (MX I J T) = some (.inl (some (vi (if nearW (I 39 0) w h c = true then 1 else 0))), MX I J T) := by
  have e : nearW (I 39 0) w h c = (lookW (I 39 0) (nb w h c 0) || (lookW (I 39 0) (nb w h c 1) || (lookW (I 39 0) (nb w h c 2) || (lookW (I 39 0) (nb w h c 3) || false)))) := rfl
  rw [c233, e]
  obtain ⟨o0, e0⟩ := wat1 d none I J T hg hc (show 0 < 4 by omega)
  obtain ⟨o1, e1⟩ := wat1 d o0 I J T hg hc (show 1 < 4 by omega)
  obtain ⟨o2, e2⟩ := wat1 d o1 I J T hg hc (show 2 < 4 by omega)
  obtain ⟨o3, e3⟩ := wat1 d o2 I J T hg hc (show 3 < 4 by omega)
  refine Eq.trans e0 ?_
  cases h0 : lookW (I 39 0) (nb w h c 0) with
  | true => rfl
  | false =>
    rw [if_neg (by decide), e1]
    cases h1 : lookW (I 39 0) (nb w h c 1) with
    | true => rfl
    | false =>
      rw [if_neg (by decide), e2]
      cases h2 : lookW (I 39 0) (nb w h c 2) with
      | true => rfl
      | false =>
        rw [if_neg (by decide), e3]
        cases h3 : lookW (I 39 0) (nb w h c 3) with
        | true => rfl
        | false =>
          rw [if_neg (by decide), b233_2, if_pos (by decide)]
          rfl
