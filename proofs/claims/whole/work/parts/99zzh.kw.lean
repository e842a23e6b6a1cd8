/-! The book: the words of the language, as both know them -/
def kwOf (w : Nat) : WD := if w = 1 then wOwner else if w = 2 then wWorth else if w = 3 then wSoil else if w = 4 then wWet else if w = 5 then wFar else if w = 6 then wWater else if w = 7 then wLeast else wMost
theorem kwOf_ok (w : Nat) : WDok (kwOf w) := by
  unfold kwOf
  by_cases h1 : w = 1
  · rw [if_pos h1]; exact kOwner
  · rw [if_neg h1]
    by_cases h2 : w = 2
    · rw [if_pos h2]; exact kWorth
    · rw [if_neg h2]
      by_cases h3 : w = 3
      · rw [if_pos h3]; exact kSoil
      · rw [if_neg h3]
        by_cases h4 : w = 4
        · rw [if_pos h4]; exact kWet
        · rw [if_neg h4]
          by_cases h5 : w = 5
          · rw [if_pos h5]; exact kFar
          · rw [if_neg h5]
            by_cases h6 : w = 6
            · rw [if_pos h6]; exact kWater
            · rw [if_neg h6]
              by_cases h7 : w = 7
              · rw [if_pos h7]; exact kLeast
              · rw [if_neg h7]; exact kMost
theorem chr_all : ∀ w : Fin 9, 1 ≤ w.val → (nth9 strT w.val []).length = (kwOf w.val).1 ∧ (kwOf w.val).1 ≤ 5 ∧ ∀ i : Fin 5, i.val < (kwOf w.val).1 → i2c9 ((roT 81 w.val i.val) &&& 255) = nn ((kwOf w.val).2 i.val) := by decide +kernel
theorem kw_ne : ∀ a b : Fin 9, 1 ≤ a.val → 1 ≤ b.val → wdR (kwOf a.val) = wdR (kwOf b.val) → a = b := by decide +kernel
theorem kcs : (478745093490 : Int64) = ll (wdC (kwOf 1)) ∧ (512970880104 : Int64) = ll (wdC (kwOf 2)) ∧ (1936681324 : Int64) = ll (wdC (kwOf 3)) ∧ (7824756 : Int64) = ll (wdC (kwOf 4)) ∧ (6709618 : Int64) = ll (wdC (kwOf 5)) ∧ (512736126322 : Int64) = ll (wdC (kwOf 6)) ∧ (465557353332 : Int64) = ll (wdC (kwOf 7)) ∧ (1836020596 : Int64) = ll (wdC (kwOf 8)) := by
  obtain ⟨a1, a2, a3, a4, a5, a6, a7, a8⟩ := cvs
  refine ⟨?_, ?_, ?_, ?_, ?_, ?_, ?_, ?_⟩
  · rw [show kwOf 1 = wOwner from rfl, a1]; rfl
  · rw [show kwOf 2 = wWorth from rfl, a2]; rfl
  · rw [show kwOf 3 = wSoil from rfl, a3]; rfl
  · rw [show kwOf 4 = wWet from rfl, a4]; rfl
  · rw [show kwOf 5 = wFar from rfl, a5]; rfl
  · rw [show kwOf 6 = wWater from rfl, a6]; rfl
  · rw [show kwOf 7 = wLeast from rfl, a7]; rfl
  · rw [show kwOf 8 = wMost from rfl, a8]; rfl
/-- the token is this word -/
def isW (s : Nat) (u : WD) (w : Nat) : Prop := s = 2 ∧ wdR u = wdR (kwOf w)
/-- what a token is: its sort, and which of the language's words (0: none) -/
def TKE (s : Nat) (u : WD) (e : Nat) : Prop := s ≤ 4 ∧ (s = 2 → WDok u) ∧ e ≤ 8 ∧ (∀ w, 1 ≤ w → w ≤ 8 → (isW s u w ↔ e = w)) ∧ (¬ e = 0 → s = 2)
theorem TKE_ex {f : Nat → Int32} {n i j k s : Nat} {u : WD} {v : Nat} {c : Int32} (ht : TOK f n i j k s u v c) : ∃ e, TKE s u e := by
  have hs : s ≤ 4 ∧ (s = 2 → WDok u) := by
    rcases ht.2.2.2 with ⟨a1, a2, a3⟩ | ⟨a1, a2, a3⟩
    · exact ⟨by omega, fun z => by omega⟩
    · rcases a3 with ⟨b1, b2, b3⟩ | ⟨b1, b2, b3⟩ | ⟨b1, b2, b3, b4⟩ | ⟨b1, b2, b3, b4, b5⟩
      · have hjk : j < k := by
          rcases Nat.eq_or_lt_of_le b2.1 with z | z
          · rcases b2.2.2.2 with y | y
            · omega
            · rw [← z] at y; exact absurd b1 y
          · exact z
        rcases b3 with ⟨c1, c2, c3⟩ | ⟨c1, c2⟩
        · exact ⟨by omega, fun _ => by rw [c3]; exact wd_ok b2 hjk c2⟩
        · exact ⟨by omega, fun z => by omega⟩
      · rcases b3 with ⟨c1, c2, c3⟩ | ⟨c1, c2⟩
        · exact ⟨by omega, fun z => by omega⟩
        · exact ⟨by omega, fun z => by omega⟩
      · exact ⟨by omega, fun z => by omega⟩
      · exact ⟨by omega, fun z => by omega⟩
  by_cases h : ∃ w, 1 ≤ w ∧ w ≤ 8 ∧ isW s u w
  · obtain ⟨w, w1, w2, w3⟩ := h
    refine ⟨w, hs.1, hs.2, w2, fun w' a1 a2 => ⟨fun z => ?_, fun z => by rw [← z]; exact w3⟩, fun _ => w3.1⟩
    have := kw_ne ⟨w, by omega⟩ ⟨w', by omega⟩ w1 a1 (by rw [← w3.2, z.2])
    exact congrArg Fin.val this
  · exact ⟨0, hs.1, hs.2, by omega, fun w a1 a2 => ⟨fun z => absurd ⟨w, a1, a2, z⟩ h, fun z => by omega⟩, fun z => absurd rfl z⟩
/-- a token that is one takes a byte, and what more is known of it -/
theorem TOK_b {f : Nat → Int32} {n i j k s : Nat} {u : WD} {v : Nat} {c : Int32} (ht : TOK f n i j k s u v c) : i ≤ j ∧ j ≤ k ∧ k ≤ n ∧ (2 ≤ s → j < k) ∧ (s = 1 ↔ j = n) := by
  obtain ⟨t1, t2, t3, tb⟩ := ht
  rcases tb with ⟨a1, a2, a3⟩ | ⟨a1, a2, a3⟩
  · exact ⟨t1, by omega, by omega, fun z => by omega, by omega⟩
  · rcases a3 with ⟨b1, b2, b3⟩ | ⟨b1, b2, b3⟩ | ⟨b1, b2, b3, b4⟩ | ⟨b1, b2, b3, b4, b5⟩
    · have hjk : j < k := by
        rcases Nat.eq_or_lt_of_le b2.1 with z | z
        · rcases b2.2.2.2 with y | y
          · omega
          · rw [← z] at y; exact absurd b1 y
        · exact z
      have hk := b2.2.1
      rcases b3 with ⟨c1, c2, c3⟩ | ⟨c1, c2⟩
      · exact ⟨t1, by omega, by omega, fun _ => hjk, by omega⟩
      · exact ⟨t1, by omega, by omega, fun _ => hjk, by omega⟩
    · have hjk : j < k := by
        rcases Nat.eq_or_lt_of_le b2.1 with z | z
        · rcases b2.2.2.2 with y | y
          · omega
          · rw [← z] at y; exact absurd b1 y
        · exact z
      have hk := b2.2.1
      rcases b3 with ⟨c1, c2, c3⟩ | ⟨c1, c2⟩
      · exact ⟨t1, by omega, by omega, fun _ => hjk, by omega⟩
      · exact ⟨t1, by omega, by omega, fun _ => hjk, by omega⟩
    · exact ⟨t1, by omega, by omega, fun _ => by omega, by omega⟩
    · exact ⟨t1, by omega, by omega, fun _ => by omega, by omega⟩
theorem nm99 {f : Nat → Int32} {n i j k s : Nat} {u : WD} {v : Nat} {c : Int32} (ht : TOK f n i j k s u v c) (h3 : s = 3) : v < 1000 := by
  obtain ⟨t1, t2, t3, tb⟩ := ht
  rcases tb with ⟨a1, a2, a3⟩ | ⟨a1, a2, a3⟩
  · omega
  · rcases a3 with ⟨b1, b2, b3⟩ | ⟨b1, b2, b3⟩ | ⟨b1, b2, b3, b4⟩ | ⟨b1, b2, b3, b4, b5⟩
    · rcases b3 with ⟨c1, c2, c3⟩ | ⟨c1, c2⟩ <;> omega
    · rcases b3 with ⟨c1, c2, c3⟩ | ⟨c1, c2⟩
      · have h := nmAt_lt (f := f) (j := j) (k - j) (fun x hx => b2.2.2.1 (j + x) (by omega) (by have := b2.1; omega))
        have h2 : 10 ^ (k - j) ≤ 10 ^ 3 := Nat.pow_le_pow_right (by omega) c2
        have h4 : (10 : Nat) ^ 3 = 1000 := by decide
        rw [c3]
        omega
      · omega
    · omega
    · omega
/-! the class: which step a word is -/
def stpK (e : Nat) : Int32 := if e = 3 then 100 else if e = 4 then 101 else if e = 5 then 102 else if e = 6 then 103 else if e = 7 then 107 else if e = 8 then 108 else -1
theorem wrdC {s : Nat} {u : WD} {e w : Nat} (hk : TKE s u e) (h1 : 1 ≤ w) (h8 : w ≤ 8) {K : Int64} (hK : K = ll (wdC (kwOf w))) : (lg_cmp (if s = 2 then ll (wdC u) else 0) K = 0) ↔ e = w := by
  rw [← hk.2.2.2.1 w h1 h8, lg0, hK]
  unfold isW
  by_cases z : s = 2
  · rw [if_pos z]
    have a := lw_eq (hk.2.1 z) (kwOf_ok w)
    have b := wdR_b (hk.2.1 z)
    have c := wdR_b (kwOf_ok w)
    have f : (2 : Nat) ^ 40 = 1099511627776 := by decide
    rw [a, ll_inj (by omega) (by omega)]
    exact ⟨fun y => ⟨z, y⟩, fun y => y.2⟩
  · rw [if_neg z]
    have b := wdC_b (kwOf_ok w)
    have f : (2 : Nat) ^ 63 = 9223372036854775808 := by decide
    constructor
    · intro y
      have := (ll_inj (a := 0) (by omega) (by omega)).mp y
      omega
    · intro y; exact absurd y.1 z
theorem wrd0 {s : Nat} {u : WD} {e : Nat} (hk : TKE s u e) : (lg_cmp (if s = 2 then ll (wdC u) else 0) 0 = 0) ↔ ¬ s = 2 := by
  rw [lg0]
  by_cases z : s = 2
  · rw [if_pos z]
    have b := wdC_b (hk.2.1 z)
    have f : (2 : Nat) ^ 63 = 9223372036854775808 := by decide
    constructor
    · intro y
      have := (ll_inj (b := 0) (by omega) (by omega)).mp y
      omega
    · intro y; exact absurd z y
  · rw [if_neg z]; exact ⟨fun _ => z, fun _ => rfl⟩
section KWC
variable (d : Nat) (I : PI) (J : PJ) (T : TL) {s : Nat} {u : WD} {e : Nat}
theorem stepC36 (hk : TKE s u e) : cal d 36 [vl (if s = 2 then ll (wdC u) else 0)] (MX I J T) = some (.inl (some (vi (stpK e))), MX I J T) := by
  have k3 := wrdC hk (w := 3) (by omega) (by omega) kcs.2.2.1
  have k4 := wrdC hk (w := 4) (by omega) (by omega) kcs.2.2.2.1
  have k5 := wrdC hk (w := 5) (by omega) (by omega) kcs.2.2.2.2.1
  have k6 := wrdC hk (w := 6) (by omega) (by omega) kcs.2.2.2.2.2.1
  have k7 := wrdC hk (w := 7) (by omega) (by omega) kcs.2.2.2.2.2.2.1
  have k8 := wrdC hk (w := 8) (by omega) (by omega) kcs.2.2.2.2.2.2.2
  generalize (if s = 2 then ll (wdC u) else 0) = y at k3 k4 k5 k6 k7 k8
  unfold stpK
  rw [c36]
  by_cases z3 : e = 3
  · rw [if_pos z3, if_neg (fun q => q (k3.mpr z3))]
  · rw [if_neg z3, if_pos (fun q => z3 (k3.mp q))]
    by_cases z4 : e = 4
    · rw [if_pos z4, if_neg (fun q => q (k4.mpr z4))]
    · rw [if_neg z4, if_pos (fun q => z4 (k4.mp q))]
      by_cases z5 : e = 5
      · rw [if_pos z5, if_neg (fun q => q (k5.mpr z5))]
      · rw [if_neg z5, if_pos (fun q => z5 (k5.mp q))]
        by_cases z6 : e = 6
        · rw [if_pos z6, if_neg (fun q => q (k6.mpr z6))]
        · rw [if_neg z6, if_pos (fun q => z6 (k6.mp q))]
          by_cases z7 : e = 7
          · rw [if_pos z7, if_neg (fun q => q (k7.mpr z7))]
          · rw [if_neg z7, if_pos (fun q => z7 (k7.mp q))]
            by_cases z8 : e = 8
            · rw [if_pos z8, if_neg (fun q => q (k8.mpr z8))]
            · rw [if_neg z8, if_pos (fun q => z8 (k8.mp q))]
end KWC
/-! the reference: its words -/
section KWM
variable (d : Nat) (I : PI) (J : PJ) (T : TL)
theorem chM {w i : Nat} (h1 : 1 ≤ w) (h8 : w ≤ 8) (hi : i < (kwOf w).1) : cal (d + 3) 198 [vr 80 w, vi (nn i)] (MX I J T) = some (.inl (some (vi (nn ((kwOf w).2 i)))), MX I J T) := by
  obtain ⟨q1, q2, q3⟩ := chr_all ⟨w, by omega⟩ h1
  dsimp only at q1 q2 q3
  have q4 := q3 ⟨i, by omega⟩ hi
  dsimp only at q4
  have q5 := (kwOf_ok w).2.2 i
  have r : inR (nn i) ((nth9 strT w []).length) = true := by rw [q1]; exact nn_inR hi (by omega)
  have b : (0 : Int32) ≤ nn ((kwOf w).2 i) ∧ nn ((kwOf w).2 i) ≤ 65535 := ⟨nn_nonneg (by omega), (nn_le (b := 65535) (by omega) (by omega)).mpr (by omega)⟩
  rw [c198, c199]
  simp only [ret9]
  rw [b198_4, if_neg (by decide), c200, c201, c202, if_neg (i32_nlt.mpr (nn_nonneg (by omega))), if_pos (by rw [q1]; exact (nn_lt (by omega) (by omega)).mpr hi)]
  simp only [ret9]
  rw [b201_8]
  simp only [ret9]
  rw [b200_6, if_pos r, nn_idx (by omega), q4, if_pos b]
  simp only [ret9]
  rw [b198_15, if_pos b]
theorem lenM {w : Nat} (h1 : 1 ≤ w) (h8 : w ≤ 8) : cal (d + 1) 196 [vr 80 w] (MX I J T) = some (.inl (some (vi (nn (kwOf w).1))), MX I J T) := by
  obtain ⟨q1, q2, q3⟩ := chr_all ⟨w, by omega⟩ h1
  dsimp only at q1 q2
  rw [c196, c197, if_pos (by decide)]
  simp only [ret9]
  rw [b196_9, q1]
  have e : ∀ x : Int32, isr9 x 0 = x := fun x => by
    show x >>> ((0 : Int32) &&& 31) = x
    rw [show ((0 : Int32) &&& 31) = 0 from rfl]
    exact Int32.shiftRight_zero
  rw [e]
theorem wofM {w : Nat} (h1 : 1 ≤ w) (h8 : w ≤ 8) : cal (d + 4) 195 [vr 80 w] (MX I J T) = some (.inl (some (vl (ll (wdR (kwOf w))))), MX I J T) := by
  have q5 := fun i => (kwOf_ok w).2.2 i
  have l8 := (kwOf_ok w).2.1
  have loop : ∀ m i (y : Int64), i + m = (kwOf w).1 → y = ll (vlB 32 (fun x => (kwOf w).2 x - 96) i) → den (d + 4) 195 4 [some (vr 80 w), some (vl y), none, some (vi (nn i))] [] (MX I J T) = some (.inl (some (vl (ll (wdR (kwOf w))))), MX I J T) := by
    intro m
    induction m with
    | zero =>
      intro i y hi hy
      have e : i = (kwOf w).1 := by omega
      rw [b195_4, lenM _ I J T h1 h8]
      simp only [ret9]
      rw [b195_9, if_pos ((nn_le (by omega) (by omega)).mpr (by omega)), hy, e]
      rfl
    | succ m ih =>
      intro i y hi hy
      rw [b195_4, lenM _ I J T h1 h8]
      simp only [ret9]
      rw [b195_9, if_neg (by rw [nn_le (by omega) (by omega)]; omega), chM _ I J T h1 h8 (by omega)]
      simp only [ret9]
      rw [b195_22, nn_add1]
      refine ih (i + 1) _ (by omega) ?_
      have q := q5 i
      rw [hy, show (97 : Int32) = nn 97 from rfl, nn_sub q.1, nn_add1, i2l_ll (by omega), ll_mul32, ll_add]
      show _ = ll (vlB 32 (fun x => (kwOf w).2 x - 96) i * 32 + ((kwOf w).2 i - 96))
      rw [Nat.mul_comm 32, show (kwOf w).2 i - 97 + 1 = (kwOf w).2 i - 96 by omega]
  rw [c195]
  exact loop (kwOf w).1 0 0 (by omega) rfl
variable {s : Nat} {u : WD} {e : Nat}
theorem isWM (hk : TKE s u e) (h11 : I 14 0 11 = nn s) (h15 : s = 2 → J 14 0 15 = ll (wdR u)) {w : Nat} (h1 : 1 ≤ w) (h8 : w ≤ 8) : cal (d + 5) 194 [vr 14 0, vr 80 w] (MX I J T) = some (.inl (some (vi (bi (e = w)))), MX I J T) := by
  have hw := hk.2.2.2.1 w h1 h8
  have hs := hk.1
  rw [c194, h11]
  by_cases z : s = 2
  · rw [if_neg (fun q => q (by rw [z]; rfl)), wofM _ I J T h1 h8]
    simp only [ret9]
    rw [b194_16, h15 z]
    have b := wdR_b (hk.2.1 z)
    have c := wdR_b (kwOf_ok w)
    have f : (2 : Nat) ^ 40 = 1099511627776 := by decide
    by_cases y : wdR u = wdR (kwOf w)
    · rw [if_neg (fun q => q (by rw [lg0, y])), bi1 (hw.mp ⟨z, y⟩)]
    · rw [if_pos (fun q => y ((ll_inj (by omega) (by omega)).mp ((lg0 _ _).mp q))), bi0 (fun q => y (hw.mpr q).2)]
  · rw [if_pos (show ¬ nn s = 2 from fun q => z ((nn_inj (b := 2) (by omega) (by omega)).mp q)), bi0 (fun q => z (hw.mpr q).1)]
/-- which thing a word is -/
def thgK (e : Nat) : Int32 := if e = 3 then 100 else if e = 4 then 101 else if e = 5 then 102 else if e = 6 then 103 else -1
theorem thgM (hk : TKE s u e) (h11 : I 14 0 11 = nn s) (h15 : s = 2 → J 14 0 15 = ll (wdR u)) : cal (d + 6) 205 [vr 14 0] (MX I J T) = some (.inl (some (vi (thgK e))), MX I J T) := by
  have w3 := isWM d I J T hk h11 h15 (w := 3) (by omega) (by omega)
  have w4 := isWM d I J T hk h11 h15 (w := 4) (by omega) (by omega)
  have w5 := isWM d I J T hk h11 h15 (w := 5) (by omega) (by omega)
  have w6 := isWM d I J T hk h11 h15 (w := 6) (by omega) (by omega)
  unfold thgK
  rw [c205, w3]
  simp only [ret9]
  rw [b205_6]
  by_cases z3 : e = 3
  · rw [if_pos z3, bi1 z3, if_neg (by decide)]
  · rw [if_neg z3, bi0 z3, if_pos rfl, w4]
    simp only [ret9]
    rw [b205_20]
    by_cases z4 : e = 4
    · rw [if_pos z4, bi1 z4, if_neg (by decide)]
    · rw [if_neg z4, bi0 z4, if_pos rfl, w5]
      simp only [ret9]
      rw [b205_34]
      by_cases z5 : e = 5
      · rw [if_pos z5, bi1 z5, if_neg (by decide)]
      · rw [if_neg z5, bi0 z5, if_pos rfl, w6]
        simp only [ret9]
        rw [b205_48]
        by_cases z6 : e = 6
        · rw [if_pos z6, bi1 z6, if_neg (by decide)]
        · rw [if_neg z6, bi0 z6, if_pos rfl]
theorem namM (hk : TKE s u e) (h11 : I 14 0 11 = nn s) (h15 : s = 2 → J 14 0 15 = ll (wdR u)) : cal (d + 7) 204 [vr 14 0] (MX I J T) = some (.inl (some (vi (bi (s = 2 ∧ e = 0)))), MX I J T) := by
  have w1 := isWM (d + 1) I J T hk h11 h15 (w := 1) (by omega) (by omega)
  have w2 := isWM (d + 1) I J T hk h11 h15 (w := 2) (by omega) (by omega)
  have w7 := isWM (d + 1) I J T hk h11 h15 (w := 7) (by omega) (by omega)
  have w8 := isWM (d + 1) I J T hk h11 h15 (w := 8) (by omega) (by omega)
  have wt := thgM d I J T hk h11 h15
  have hs := hk.1
  have h8 := hk.2.2.1
  rw [c204, h11]
  by_cases z : s = 2
  · rw [if_neg (fun q => q (by rw [z]; rfl)), w1]
    simp only [ret9]
    rw [b204_14]
    by_cases z1 : e = 1
    · rw [bi1 z1, if_pos (by decide), bi0 (fun q => by omega)]
    · rw [bi0 z1, if_neg (by decide), w2]
      simp only [ret9]
      rw [b204_23]
      by_cases z2 : e = 2
      · rw [bi1 z2, if_pos (by decide), bi0 (fun q => by omega)]
      · rw [bi0 z2, if_neg (by decide), wt]
        simp only [ret9]
        rw [b204_30]
        by_cases zt : 3 ≤ e ∧ e ≤ 6
        · rw [if_pos, bi0 (fun q => by omega)]
          unfold thgK
          obtain ⟨t1, t2⟩ := zt
          have : e = 3 ∨ e = 4 ∨ e = 5 ∨ e = 6 := by omega
          rcases this with y | y | y | y <;> subst y <;> decide
        · have et : thgK e = -1 := by
            unfold thgK
            rw [if_neg (by omega), if_neg (by omega), if_neg (by omega), if_neg (by omega)]
          rw [et, if_neg (by decide), w7]
          simp only [ret9]
          rw [b204_40]
          by_cases z7 : e = 7
          · rw [bi1 z7, if_pos (by decide), bi0 (fun q => by omega)]
          · rw [bi0 z7, if_neg (by decide), w8]
            simp only [ret9]
            rw [b204_49]
            by_cases z8 : e = 8
            · rw [bi1 z8, if_pos (by decide), bi0 (fun q => by omega)]
            · rw [bi0 z8, if_neg (by decide), bi1 ⟨z, by omega⟩]
  · rw [if_pos (show ¬ nn s = 2 from fun q => z ((nn_inj (b := 2) (by omega) (by omega)).mp q)), bi0 (fun q => z q.1)]
theorem sgnM (hs : s ≤ 4) (h11 : I 14 0 11 = nn s) {c : Int32} (h13 : I 14 0 13 = if s = 4 then c else 0) (x : Int32) : cal d 210 [vr 14 0, vi x] (MX I J T) = some (.inl (some (vi (bi (s = 4 ∧ c = x)))), MX I J T) := by
  rw [c210, h11, h13]
  by_cases z : s = 4
  · rw [if_neg (fun q => q (by rw [z]; rfl)), if_pos z]
    by_cases y : c = x
    · rw [if_neg (fun q => q y), bi1 ⟨z, y⟩]
    · rw [if_pos y, bi0 (fun q => y q.2)]
  · rw [if_pos (show ¬ nn s = 4 from fun q => z ((nn_inj (b := 4) (by omega) (by omega)).mp q)), bi0 (fun q => z q.1)]
end KWM
