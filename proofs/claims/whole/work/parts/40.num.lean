/-! Numbers: small naturals as ints, the bits of longs -/
abbrev nn (n : Nat) : Int32 := Int32.ofNat n
theorem nn_toInt {a : Nat} (h : a < 2147483648) : (nn a).toInt = (a : Int) := Int32.toInt_ofNat_of_lt h
theorem nn_idx {a : Nat} (h : a < 2147483648) : (nn a).toNatClampNeg = a := by
  show (nn a).toInt.toNat = a
  rw [nn_toInt h, Int.toNat_natCast]
theorem nn_lt {a b : Nat} (ha : a < 2147483648) (hb : b < 2147483648) : (nn a < nn b) ↔ a < b := by
  rw [Int32.lt_iff_toInt_lt, nn_toInt ha, nn_toInt hb]; omega
theorem nn_le {a b : Nat} (ha : a < 2147483648) (hb : b < 2147483648) : (nn a ≤ nn b) ↔ a ≤ b := by
  rw [Int32.le_iff_toInt_le, nn_toInt ha, nn_toInt hb]; omega
theorem nn_inj {a b : Nat} (ha : a < 2147483648) (hb : b < 2147483648) : (nn a = nn b) ↔ a = b := by
  constructor
  · intro h
    have := congrArg Int32.toNatClampNeg h
    rwa [nn_idx ha, nn_idx hb] at this
  · intro h; rw [h]
theorem nn_add (a b : Nat) : nn a + nn b = nn (a + b) := (Int32.ofNat_add a b).symm
theorem nn_add1 (a : Nat) : nn a + 1 = nn (a + 1) := nn_add a 1
theorem nn_mul (a b : Nat) : nn a * nn b = nn (a * b) := (Int32.ofNat_mul a b).symm
theorem nn_sub {a b : Nat} (h : b ≤ a) : nn a - nn b = nn (a - b) := by
  have e : nn (a - b) + nn b = nn a := by rw [nn_add, Nat.sub_add_cancel h]
  rw [← e, Int32.add_sub_cancel]
theorem nn_inR {a n : Nat} (h : a < n) (ha : a < 2147483648) : inR (nn a) n = true := by
  unfold inR
  rw [nn_idx ha, Bool.and_eq_true]
  refine ⟨decide_eq_true ?_, decide_eq_true h⟩
  exact (nn_le (a := 0) (by omega) ha).mpr (Nat.zero_le a)
theorem nn_nonneg {a : Nat} (ha : a < 2147483648) : (0 : Int32) ≤ nn a := (nn_le (a := 0) (by omega) ha).mpr (Nat.zero_le a)
theorem nn_ne_neg {a : Nat} (ha : a < 2147483648) : ¬ nn a = -1 := by
  intro h
  have := congrArg Int32.toInt h
  rw [nn_toInt ha] at this
  have h2 : (-1 : Int32).toInt = -1 := rfl
  omega
theorem nn_of {x : Int32} (h : 0 ≤ x) : x = nn x.toNatClampNeg ∧ x.toNatClampNeg < 2147483648 := by
  have h1 : (0 : Int) ≤ x.toInt := by
    have := Int32.le_iff_toInt_le.mp h
    exact this
  have h2 : x.toInt < 2147483648 := Int32.toInt_lt x
  have h3 : x.toNatClampNeg = x.toInt.toNat := rfl
  have h4 : x.toNatClampNeg < 2147483648 := by rw [h3]; omega
  refine ⟨?_, h4⟩
  apply Int32.toInt_inj.mp
  rw [nn_toInt h4, h3]
  omega
theorem nn_div {a b : Nat} (ha : a < 2147483648) (hb : b < 2147483648) : nn a / nn b = nn (a / b) := by
  apply Int32.toInt_inj.mp
  have hd : a / b < 2147483648 := Nat.lt_of_le_of_lt (Nat.div_le_self a b) ha
  rw [nn_toInt hd, Int32.toInt_div, nn_toInt ha, nn_toInt hb]
  have e : ((a : Int).tdiv (b : Int)) = ((a / b : Nat) : Int) := by
    rw [Int.tdiv_eq_ediv_of_nonneg (by omega)]; rfl
  rw [e, Int.bmod_def]
  have h5 : ((a / b : Nat) : Int) < 2147483648 := Int.ofNat_lt.mpr hd
  have h6 : (0 : Int) ≤ ((a / b : Nat) : Int) := Int.natCast_nonneg _
  generalize ((a / b : Nat) : Int) = z at h5 h6 ⊢
  omega
theorem nn_rem {a b : Nat} (ha : a < 2147483648) (hb : b < 2147483648) : irm9 (nn a) (nn b) = nn (a % b) := by
  unfold irm9
  rw [nn_div ha hb, nn_mul, nn_sub (Nat.div_mul_le_self a b)]
  congr 1
  have := Nat.div_add_mod a b
  rw [Nat.mul_comm] at this
  omega
def bt (x : Int64) (c : Nat) : Bool := x.toBitVec.getLsbD c
theorem bt_ext {x y : Int64} (h : ∀ c, c < 64 → bt x c = bt y c) : x = y := by
  apply Int64.toBitVec_inj.mp
  apply BitVec.eq_of_getLsbD_eq
  intro i hi
  exact h i hi
theorem bt_ge (x : Int64) {c : Nat} (h : 64 ≤ c) : bt x c = false := BitVec.getLsbD_of_ge _ _ h
theorem bt_and (x y : Int64) (c : Nat) : bt (x &&& y) c = (bt x c && bt y c) := by
  unfold bt; rw [Int64.toBitVec_and, BitVec.getLsbD_and]
theorem bt_or (x y : Int64) (c : Nat) : bt (x ||| y) c = (bt x c || bt y c) := by
  unfold bt; rw [Int64.toBitVec_or, BitVec.getLsbD_or]
theorem bt_xor (x y : Int64) (c : Nat) : bt (x ^^^ y) c = (bt x c ^^ bt y c) := by
  unfold bt; rw [Int64.toBitVec_xor, BitVec.getLsbD_xor]
theorem bt_zero (c : Nat) : bt 0 c = false := BitVec.getLsbD_zero
theorem sh_nat : ∀ c : Fin 64, ((Int32.ofNat c.val).toInt64.toUInt64 &&& Int64.toUInt64 63) = UInt64.ofNat c.val := by decide
theorem sl_nat : ∀ c : Fin 64, ((Int32.ofNat c.val).toInt64 &&& 63).toBitVec.smod 64 = BitVec.ofNat 64 c.val := by decide
theorem sh_val : ∀ c : Fin 64, ((UInt64.ofNat c.val).toBitVec % 64).toNat = c.val := by decide
theorem sl_val : ∀ c : Fin 64, (BitVec.ofNat 64 c.val).toNat = c.val := by decide
theorem bt_lus (x : Int64) {s : Nat} (hs : s < 64) (c : Nat) : bt (lus9 x (nn s)) c = bt x (s + c) := by
  unfold bt lus9
  have e1 := sh_nat ⟨s, hs⟩
  have e2 := sh_val ⟨s, hs⟩
  dsimp only at e1 e2
  rw [e1]
  show ((x.toUInt64 >>> UInt64.ofNat s).toBitVec).getLsbD c = _
  rw [UInt64.toBitVec_shiftRight, BitVec.ushiftRight_eq', e2, BitVec.getLsbD_ushiftRight]
  rfl
theorem bt_lsh (x : Int64) {s : Nat} (hs : s < 64) (c : Nat) : bt (lsh9 x (nn s)) c = (decide (c < 64) && !decide (c < s) && bt x (c - s)) := by
  unfold bt lsh9
  have e1 := sl_nat ⟨s, hs⟩
  have e2 := sl_val ⟨s, hs⟩
  dsimp only at e1 e2
  rw [Int64.toBitVec_shiftLeft, e1, BitVec.shiftLeft_eq', e2, BitVec.getLsbD_shiftLeft]
theorem bt_one (c : Nat) : bt 1 c = decide (c = 0) := by
  unfold bt
  show (1#64).getLsbD c = _
  rw [BitVec.getLsbD_one]
  simp
theorem bt_bit {s : Nat} (hs : s < 64) (c : Nat) : bt (lsh9 1 (nn s)) c = decide (c = s) := by
  rw [bt_lsh 1 hs, bt_one]
  by_cases h : c = s
  · subst h; simp [hs]
  · by_cases h2 : c < s
    · simp [h2, h]
    · have : ¬ c - s = 0 := by omega
      simp [h, this]
theorem bt_m1 (c : Nat) : bt (-1) c = decide (c < 64) := by
  unfold bt
  show (BitVec.allOnes 64).getLsbD c = _
  rw [BitVec.getLsbD_allOnes]
theorem bt_not (x : Int64) (c : Nat) : bt (x ^^^ -1) c = (decide (c < 64) && !bt x c) := by
  rw [bt_xor, bt_m1]
  by_cases h : c < 64
  · simp [h]
  · simp [h, bt_ge x (Nat.le_of_not_lt h)]
theorem lg0 (x y : Int64) : (lg_cmp x y = 0) ↔ x = y := by
  unfold lg_cmp
  constructor
  · intro h
    split at h
    · exact absurd h (by decide)
    · split at h
      · assumption
      · exact absurd h (by decide)
  · intro h
    subst h
    rw [if_neg (by exact Int64.lt_irrefl), if_pos rfl]
theorem bit0 (f : Int64) {c : Nat} (hc : c < 64) : (lg_cmp ((lus9 f (nn c)) &&& 1) 0 = 0) ↔ bt f c = false := by
  rw [lg0]
  constructor
  · intro h
    have : bt ((lus9 f (nn c)) &&& 1) 0 = bt 0 0 := by rw [h]
    rw [bt_and, bt_lus f hc, bt_one, bt_zero] at this
    simpa using this
  · intro h
    apply bt_ext
    intro i hi
    rw [bt_and, bt_lus f hc, bt_one, bt_zero]
    by_cases h0 : i = 0
    · subst h0; simpa using h
    · simp [h0]
theorem eq0_bt (f : Int64) : f = 0 ↔ ∀ c, c < 64 → bt f c = false := by
  constructor
  · intro h c _; rw [h, bt_zero]
  · intro h
    apply bt_ext
    intro c hc
    rw [h c hc, bt_zero]
/-! Loops that count up -/
def itn {β : Type} (step : Nat → β → β) : Nat → Nat → β → β
  | 0, _, b => b
  | k + 1, c, b => itn step k (c + 1) (step c b)
theorem for_up {β ρ : Type} {n : Nat} {Lp : Nat → β → ρ} {step : Nat → β → β} (h : ∀ c b, c < n → Lp c b = Lp (c + 1) (step c b)) : ∀ k c b, c + k = n → Lp c b = Lp n (itn step k c b) := by
  intro k
  induction k with
  | zero => intro c b hc; rw [← hc]; rfl
  | succ k ih =>
    intro c b hc
    rw [h c b (by omega), ih (c + 1) _ (by omega)]
    rfl
theorem for_upP {β ρ : Type} {n : Nat} {Lp : Nat → β → ρ} {step : Nat → β → β} (P : Nat → β → Prop) (h : ∀ c b, c < n → P c b → Lp c b = Lp (c + 1) (step c b) ∧ P (c + 1) (step c b)) : ∀ k c b, c + k = n → P c b → Lp c b = Lp n (itn step k c b) ∧ P n (itn step k c b) := by
  intro k
  induction k with
  | zero => intro c b hc hP; subst hc; exact ⟨rfl, hP⟩
  | succ k ih =>
    intro c b hc hP
    obtain ⟨h1, h2⟩ := h c b (by omega) hP
    obtain ⟨h3, h4⟩ := ih (c + 1) _ (by omega) h2
    exact ⟨h1.trans h3, h4⟩
/-- the sum of k of them from c on, added to a -/
def sm (f : Nat → Int32) : Nat → Nat → Int32 → Int32
  | 0, _, a => a
  | k + 1, c, a => sm f k (c + 1) (a + f c)
theorem sm_itn (f : Nat → Int32) : ∀ k c a, itn (fun c a => a + f c) k c a = sm f k c a
  | 0, _, _ => rfl
  | k + 1, c, a => sm_itn f k (c + 1) (a + f c)
theorem sm_congr {f g : Nat → Int32} : ∀ k c a, (∀ i, c ≤ i → i < c + k → f i = g i) → sm f k c a = sm g k c a
  | 0, _, _, _ => rfl
  | k + 1, c, a, h => by
    show sm f k (c + 1) (a + f c) = sm g k (c + 1) (a + g c)
    rw [h c (Nat.le_refl c) (by omega)]
    exact sm_congr k (c + 1) _ (fun i h1 h2 => h i (by omega) (by omega))
