/-! The next number's bits, in a set's own bits too; splitting: the class's search -/
theorem tb_0 (s : Nat) : s.testBit 0 = decide (s % 2 = 1) := Nat.testBit_zero s
theorem tb_s (s i : Nat) : s.testBit (i + 1) = (s / 2).testBit i := Nat.testBit_succ s i
theorem tb_inc : ∀ i s, (s + 1).testBit i = (s.testBit i ^^ decide (∀ j, j < i → s.testBit j = true))
  | 0, s => by
    rw [tb_0, tb_0, decide_eq_true (show ∀ j, j < 0 → s.testBit j = true from fun j hj => absurd hj (by omega))]
    by_cases h : s % 2 = 1
    · rw [decide_eq_true h, decide_eq_false (by omega)]; rfl
    · rw [decide_eq_false h, decide_eq_true (by omega)]; rfl
  | i + 1, s => by
    rw [tb_s, tb_s]
    by_cases h : s % 2 = 1
    · rw [show (s + 1) / 2 = s / 2 + 1 by omega, tb_inc i (s / 2)]
      have e : (∀ j, j < i → (s / 2).testBit j = true) ↔ (∀ j, j < i + 1 → s.testBit j = true) := by
        constructor
        · intro z j hj
          cases j with
          | zero => rw [tb_0]; exact decide_eq_true h
          | succ j => rw [tb_s]; exact z j (by omega)
        · intro z j hj
          rw [← tb_s]; exact z (j + 1) (by omega)
      rw [decide_eq_decide.mpr e]
    · rw [show (s + 1) / 2 = s / 2 by omega, decide_eq_false (fun z => h (by have := z 0 (by omega); rw [tb_0] at this; exact of_decide_eq_true this)), Bool.xor_false]
theorem tb_big {s i : Nat} (hs : s < 2 ^ i) : s.testBit i = false := Nat.testBit_lt_two_pow hs
theorem sub_bits {x f : Int64} (hx : ∀ c, bt x c = true → bt f c = true) : x - f = -(f ^^^ x) := by
  have e : x + (f ^^^ x) = f := by
    apply Int64.toBitVec_inj.mp
    rw [Int64.toBitVec_add, BitVec.add_eq_or_of_and_eq_zero]
    · apply BitVec.eq_of_getLsbD_eq
      intro i hi
      have := hx i
      unfold bt at this
      rw [BitVec.getLsbD_or, Int64.toBitVec_xor, BitVec.getLsbD_xor]
      cases h1 : x.toBitVec.getLsbD i
      · cases f.toBitVec.getLsbD i <;> rfl
      · rw [this h1]; rfl
    · apply BitVec.eq_of_getLsbD_eq
      intro i hi
      have := hx i
      unfold bt at this
      rw [BitVec.getLsbD_and, Int64.toBitVec_xor, BitVec.getLsbD_xor, BitVec.getLsbD_zero]
      cases h1 : x.toBitVec.getLsbD i
      · rfl
      · rw [this h1]; rfl
  rw [show x - f = x - (x + (f ^^^ x)) by rw [e]]
  rw [Int64.sub_eq_add_neg, Int64.neg_add, Int64.sub_eq_add_neg, ← Int64.add_assoc, Int64.add_right_neg, Int64.zero_add]
theorem inc_bits {x f : Int64} (hx : ∀ c, bt x c = true → bt f c = true) (c : Nat) : bt ((x - f) &&& f) c = (bt f c && (bt x c ^^ decide (∀ j, j < c → bt f j = true → bt x j = true))) := by
  rw [bt_and, sub_bits hx, bt_neg, bt_xor]
  cases hf : bt f c with
  | false => rw [Bool.and_false, Bool.false_and]
  | true =>
    have h64 := bt_64 hf
    rw [decide_eq_true h64, Bool.true_and, Bool.true_and, Bool.and_true]
    have e : (∃ j, j < c ∧ bt (f ^^^ x) j = true) ↔ ¬ (∀ j, j < c → bt f j = true → bt x j = true) := by
      constructor
      · intro ⟨j, h1, h2⟩ z
        rw [bt_xor] at h2
        cases h3 : bt f j with
        | false =>
          rw [h3, Bool.false_xor] at h2
          rw [hx j h2] at h3; cases h3
        | true =>
          rw [h3, z j h1 h3] at h2; cases h2
      · intro z
        apply Classical.byContradiction
        intro y
        apply z
        intro j h1 h2
        cases h3 : bt x j with
        | true => rfl
        | false => exact absurd ⟨j, h1, by rw [bt_xor, h2, h3]; rfl⟩ y
    by_cases z : ∀ j, j < c → bt f j = true → bt x j = true
    · rw [decide_eq_true z, decide_eq_false (fun q => e.mp q z)]
      cases bt x c <;> rfl
    · rw [decide_eq_false z, decide_eq_true (e.mpr z)]
      cases bt x c <;> rfl
/-- x is the part of f that the number s names -/
def PT (f : Int64) (s : Nat) (x : Int64) : Prop := ∀ c, bt x c = (bt f c && s.testBit (cn (bt f) c))
theorem cn_mono2 (f : Nat → Bool) {a b : Nat} (h : a ≤ b) : cn f a ≤ cn f b := by
  induction b with
  | zero => rw [show a = 0 by omega]; exact Nat.le_refl _
  | succ b ih =>
    rcases Nat.eq_or_lt_of_le h with z | z
    · rw [z]; exact Nat.le_refl _
    · rw [cn_succ]
      have := ih (by omega)
      omega
theorem cn_ex (f : Nat → Bool) : ∀ n i, i < cn f n → ∃ c, c < n ∧ f c = true ∧ cn f c = i
  | 0, i, h => absurd h (by simp [cn, sQ])
  | n + 1, i, h => by
    rw [cn_succ] at h
    by_cases z : i < cn f n
    · obtain ⟨c, h1, h2, h3⟩ := cn_ex f n i z
      exact ⟨c, by omega, h2, h3⟩
    · by_cases y : f n = true
      · rw [if_pos y] at h
        exact ⟨n, by omega, y, by omega⟩
      · rw [if_neg y] at h; omega
theorem PT_inc {f x : Int64} {s : Nat} (h : PT f s x) : PT f (s + 1) ((x - f) &&& f) := by
  intro c
  rw [inc_bits (fun c hc => by rw [h c] at hc; exact (Bool.and_eq_true_iff.mp hc).1)]
  cases hf : bt f c with
  | false => rfl
  | true =>
    rw [Bool.true_and, Bool.true_and, h c, hf, Bool.true_and, tb_inc]
    congr 1
    apply decide_eq_decide.mpr
    constructor
    · intro z i hi
      obtain ⟨j, h1, h2, h3⟩ := cn_ex (bt f) c i hi
      have := z j h1 h2
      rw [h j, h2, Bool.true_and, h3] at this
      exact this
    · intro z j hj h2
      rw [h j, h2, Bool.true_and]
      apply z
      have := cn_mono2 (bt f) (show j + 1 ≤ c by omega)
      rw [cn_succ, if_pos h2] at this
      omega
theorem PT_0 (f : Int64) : PT f 0 0 := by
  intro c
  rw [bt_zero, Nat.zero_testBit, Bool.and_false]
/-- the sum of the values that the number s names -/
def SV (V : Nat → Int32) (m s : Nat) : Int32 := sm (fun i => if s.testBit i = true then V i else 0) m 0 0
theorem sm_end (f : Nat → Int32) : ∀ k c a, sm f (k + 1) c a = sm f k c a + f (c + k)
  | 0, c, a => rfl
  | k + 1, c, a => by
    show sm f (k + 1) (c + 1) (a + f c) = sm f k (c + 1) (a + f c) + f (c + (k + 1))
    rw [sm_end f k (c + 1), show c + 1 + k = c + (k + 1) by omega]
theorem sm_zero : ∀ k c a, sm (fun _ => 0) k c a = a
  | 0, _, _ => rfl
  | k + 1, c, a => by
    show sm (fun _ => 0) k (c + 1) (a + 0) = a
    rw [Int32.add_zero]; exact sm_zero k (c + 1) a
theorem SV_step {V : Nat → Int32} {t r : Nat} (h1 : ∀ j, j < r → t.testBit j = true) (h2 : t.testBit r = false) : ∀ m, r < m → SV V m (t + 1) = SV V m t + (V r - sm V r 0 0) := by
  intro m
  induction m with
  | zero => intro h; omega
  | succ m ih =>
    intro hm
    unfold SV
    rw [sm_end, sm_end, Nat.zero_add]
    by_cases e : r = m
    · subst e
      have b1 : (t + 1).testBit r = true := by rw [tb_inc, h2, decide_eq_true h1]; rfl
      rw [if_pos b1, if_neg (by rw [h2]; exact Bool.false_ne_true), Int32.add_zero]
      rw [sm_congr (g := fun _ => 0) r 0 0 (fun i _ hi => by
        rw [if_neg]
        rw [tb_inc, h1 i (by omega), decide_eq_true (fun j hj => h1 j (by omega))]
        exact Bool.false_ne_true), sm_zero, Int32.zero_add]
      rw [sm_congr (f := fun i => if t.testBit i = true then V i else 0) (g := V) r 0 0 (fun i _ hi => by rw [if_pos (h1 i (by omega))])]
      generalize sm V r 0 0 = S
      rw [Int32.sub_eq_add_neg, Int32.add_comm (V r), ← Int32.add_assoc, Int32.add_right_neg, Int32.zero_add]
    · have e2 := ih (by omega)
      unfold SV at e2
      have b1 : (t + 1).testBit m = t.testBit m := by
        rw [tb_inc, decide_eq_false (fun z => by rw [z r (by omega)] at h2; cases h2), Bool.xor_false]
      rw [e2, b1, Int32.add_assoc, Int32.add_comm (V r - _), ← Int32.add_assoc]
theorem bt_i2l {s : Nat} (hs : s < 2147483648) (i : Nat) : bt (Int32.toInt64 (nn s)) i = (decide (i < 64) && s.testBit i) := by
  have e : Int32.toInt64 (nn s) = Int64.ofNat s := by
    apply Int64.toInt_inj.mp
    rw [Int32.toInt_toInt64, nn_toInt hs, Int64.toInt_ofNat_of_lt (by omega)]
  rw [e]
  unfold bt
  show (BitVec.ofNat 64 s).getLsbD i = _
  rw [BitVec.getLsbD_ofNat]
