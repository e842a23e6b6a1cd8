/-! The book: words, digits, tokens -/
/-- digits read to a base -/
def vlB (B : Nat) (a : Nat → Nat) : Nat → Nat
  | 0 => 0
  | m + 1 => vlB B a m * B + a m
theorem vlB_inj {B : Nat} {a b : Nat → Nat} (ha : ∀ x, 1 ≤ a x ∧ a x < B) (hb : ∀ x, 1 ≤ b x ∧ b x < B) : ∀ m k, vlB B a m = vlB B b k → m = k ∧ ∀ x, x < m → a x = b x
  | 0, 0, _ => ⟨rfl, fun x hx => absurd hx (by omega)⟩
  | 0, k + 1, h => by
    have h1 : 0 = vlB B b k * B + b k := h
    have := (hb k).1
    omega
  | m + 1, 0, h => by
    have h1 : vlB B a m * B + a m = 0 := h
    have := (ha m).1
    omega
  | m + 1, k + 1, h => by
    have h1 : vlB B a m * B + a m = vlB B b k * B + b k := h
    have a1 := ha m
    have b1 := hb k
    have hB : 0 < B := by omega
    have e1 : a m = b k := by
      have : (vlB B a m * B + a m) % B = (vlB B b k * B + b k) % B := by rw [h1]
      rwa [Nat.mul_add_mod_self_right, Nat.mul_add_mod_self_right, Nat.mod_eq_of_lt a1.2, Nat.mod_eq_of_lt b1.2] at this
    have e2 : vlB B a m = vlB B b k := Nat.eq_of_mul_eq_mul_right hB (by omega)
    obtain ⟨e3, e4⟩ := vlB_inj ha hb m k e2
    subst e3
    refine ⟨rfl, fun x hx => ?_⟩
    by_cases z : x = m
    · rw [z]; exact e1
    · exact e4 x (by omega)
theorem vlB_congr {B : Nat} {a b : Nat → Nat} : ∀ m, (∀ x, x < m → a x = b x) → vlB B a m = vlB B b m
  | 0, _ => rfl
  | m + 1, h => by
    show vlB B a m * B + a m = vlB B b m * B + b m
    rw [vlB_congr m (fun x hx => h x (by omega)), h m (by omega)]
theorem vlB_lt {B : Nat} {a : Nat → Nat} (ha : ∀ x, a x < B) : ∀ m, vlB B a m < B ^ m
  | 0 => by show 0 < B ^ 0; rw [Nat.pow_zero]; omega
  | m + 1 => by
    have h1 := vlB_lt ha m
    have h2 := ha m
    show vlB B a m * B + a m < B ^ (m + 1)
    rw [Nat.pow_succ]
    have : (vlB B a m + 1) * B ≤ B ^ m * B := Nat.mul_le_mul_right B h1
    rw [Nat.succ_mul] at this
    omega
/-- a word: how many letters, and which -/
abbrev WD : Type := Nat × (Nat → Nat)
def WDok (u : WD) : Prop := 1 ≤ u.1 ∧ u.1 ≤ 8 ∧ ∀ x, 97 ≤ u.2 x ∧ u.2 x ≤ 122
def wdC (u : WD) : Nat := vlB 256 u.2 u.1
def wdR (u : WD) : Nat := vlB 32 (fun x => u.2 x - 96) u.1
theorem WD_eq {u v : WD} (hu : WDok u) (hv : WDok v) : wdC u = wdC v ↔ wdR u = wdR v := by
  constructor
  · intro h
    obtain ⟨a, b⟩ := vlB_inj (fun x => ⟨by have := hu.2.2 x; omega, by have := hu.2.2 x; omega⟩) (fun x => ⟨by have := hv.2.2 x; omega, by have := hv.2.2 x; omega⟩) u.1 v.1 h
    unfold wdR
    rw [← a]
    exact vlB_congr u.1 (fun x hx => by rw [b x hx])
  · intro h
    obtain ⟨a, b⟩ := vlB_inj (a := fun x => u.2 x - 96) (b := fun x => v.2 x - 96) (fun x => ⟨by have := hu.2.2 x; omega, by have := hu.2.2 x; omega⟩) (fun x => ⟨by have := hv.2.2 x; omega, by have := hv.2.2 x; omega⟩) u.1 v.1 h
    unfold wdC
    rw [← a]
    exact vlB_congr u.1 (fun x hx => by have := b x hx; have := hu.2.2 x; have := hv.2.2 x; omega)
theorem wdC_b {u : WD} (hu : WDok u) : 1 ≤ wdC u ∧ wdC u < 2 ^ 63 := by
  obtain ⟨h1, h2, h3⟩ := hu
  obtain ⟨m, a⟩ := u
  dsimp only at h1 h2 h3
  constructor
  · unfold wdC
    dsimp only
    obtain ⟨k, rfl⟩ : ∃ k, m = k + 1 := ⟨m - 1, by omega⟩
    show 1 ≤ vlB 256 a k * 256 + a k
    have := h3 k
    omega
  · have key : ∀ m, m ≤ 8 → 1 ≤ m → vlB 256 a m < 128 * 256 ^ (m - 1) := by
      intro m
      induction m with
      | zero => intro _ h; omega
      | succ m ih =>
        intro hm _
        show vlB 256 a m * 256 + a m < 128 * 256 ^ m
        by_cases z : m = 0
        · subst z
          have := h3 0
          show 0 * 256 + a 0 < 128 * 256 ^ 0
          rw [Nat.pow_zero]
          omega
        · have i := ih (by omega) (by omega)
          have := h3 m
          have e : 256 ^ m = 256 ^ (m - 1) * 256 := by rw [← Nat.pow_succ]; congr 1; omega
          rw [e]
          have : (vlB 256 a m + 1) * 256 ≤ 128 * 256 ^ (m - 1) * 256 := Nat.mul_le_mul_right 256 i
          rw [Nat.succ_mul, Nat.mul_assoc] at this
          omega
    have k1 := key m h2 h1
    have k2 : 256 ^ (m - 1) ≤ 256 ^ 7 := Nat.pow_le_pow_right (by omega) (by omega)
    have k3 : (256 : Nat) ^ 7 = 72057594037927936 := by decide
    have k4 : (2 : Nat) ^ 63 = 9223372036854775808 := by decide
    show vlB 256 a m < 2 ^ 63
    omega
theorem wdR_b {u : WD} (hu : WDok u) : wdR u < 2 ^ 40 := by
  obtain ⟨h1, h2, h3⟩ := hu
  have a := vlB_lt (B := 32) (a := fun x => u.2 x - 96) (fun x => by have := h3 x; omega) u.1
  have b : 32 ^ u.1 ≤ 32 ^ 8 := Nat.pow_le_pow_right (by omega) h2
  have c : (32 : Nat) ^ 8 = 1099511627776 := by decide
  have e : (2 : Nat) ^ 40 = 1099511627776 := by decide
  unfold wdR
  omega
/-- the words of the language -/
def kwd (l : List Nat) : WD := (l.length, fun x => l.getD x 97)
def wOwner : WD := kwd [111, 119, 110, 101, 114]
def wWorth : WD := kwd [119, 111, 114, 116, 104]
def wSoil : WD := kwd [115, 111, 105, 108]
def wWet : WD := kwd [119, 101, 116]
def wFar : WD := kwd [102, 97, 114]
def wWater : WD := kwd [119, 97, 116, 101, 114]
def wLeast : WD := kwd [108, 101, 97, 115, 116]
def wMost : WD := kwd [109, 111, 115, 116]
theorem kwd_ok {l : List Nat} (h1 : 1 ≤ l.length) (h2 : l.length ≤ 8) (h3 : ∀ i : Fin 8, 97 ≤ l.getD i.val 97 ∧ l.getD i.val 97 ≤ 122) : WDok (kwd l) := by
  refine ⟨h1, h2, fun x => ?_⟩
  by_cases z : x < 8
  · exact h3 ⟨x, z⟩
  · show 97 ≤ l.getD x 97 ∧ l.getD x 97 ≤ 122
    rw [List.getD_eq_getElem?_getD, List.getElem?_eq_none (by omega)]
    exact ⟨Nat.le_refl _, by decide⟩
theorem kOwner : WDok wOwner := kwd_ok (by decide) (by decide) (by decide)
theorem kWorth : WDok wWorth := kwd_ok (by decide) (by decide) (by decide)
theorem kSoil : WDok wSoil := kwd_ok (by decide) (by decide) (by decide)
theorem kWet : WDok wWet := kwd_ok (by decide) (by decide) (by decide)
theorem kFar : WDok wFar := kwd_ok (by decide) (by decide) (by decide)
theorem kWater : WDok wWater := kwd_ok (by decide) (by decide) (by decide)
theorem kLeast : WDok wLeast := kwd_ok (by decide) (by decide) (by decide)
theorem kMost : WDok wMost := kwd_ok (by decide) (by decide) (by decide)
theorem cvs : wdC wOwner = 478745093490 ∧ wdC wWorth = 512970880104 ∧ wdC wSoil = 1936681324 ∧ wdC wWet = 7824756 ∧ wdC wFar = 6709618 ∧ wdC wWater = 512736126322 ∧ wdC wLeast = 465557353332 ∧ wdC wMost = 1836020596 := by decide
/-- numbers as longs -/
abbrev ll (n : Nat) : Int64 := Int64.ofNat n
theorem ll_toInt {a : Nat} (h : a < 9223372036854775808) : (ll a).toInt = (a : Int) := Int64.toInt_ofNat_of_lt h
theorem ll_inj {a b : Nat} (ha : a < 9223372036854775808) (hb : b < 9223372036854775808) : ll a = ll b ↔ a = b := by
  constructor
  · intro h
    have := congrArg Int64.toInt h
    rw [ll_toInt ha, ll_toInt hb] at this
    omega
  · intro h; rw [h]
theorem ll_mul32 (a : Nat) : 32 * ll a = ll (32 * a) := (Int64.ofNat_mul 32 a).symm
theorem ll_add (a b : Nat) : ll a + ll b = ll (a + b) := (Int64.ofNat_add a b).symm
/-- what a class's word says of a reference's -/
theorem lw_eq {u v : WD} (hu : WDok u) (hv : WDok v) : (ll (wdC u) = ll (wdC v)) ↔ (ll (wdR u) = ll (wdR v)) := by
  have a := (wdC_b hu).2
  have b := (wdC_b hv).2
  have c := wdR_b hu
  have d := wdR_b hv
  have e : (2 : Nat) ^ 63 = 9223372036854775808 := by decide
  have f : (2 : Nat) ^ 40 = 1099511627776 := by decide
  rw [ll_inj (by omega) (by omega), ll_inj (by omega) (by omega), WD_eq hu hv]
