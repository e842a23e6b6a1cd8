/-! Bits of small numbers; the next part of a set -/
def pc (s : Nat) : Nat := cn (fun i => s.testBit i) 12
theorem nn_bv (a : Nat) : (nn a).toBitVec = BitVec.ofNat 32 a := rfl
theorem nn_land (a b : Nat) : nn a &&& nn b = nn (a &&& b) := by
  apply Int32.toBitVec_inj.mp
  rw [Int32.toBitVec_and, nn_bv, nn_bv, nn_bv]
  apply BitVec.eq_of_getLsbD_eq
  intro i hi
  rw [BitVec.getLsbD_and, BitVec.getLsbD_ofNat, BitVec.getLsbD_ofNat, BitVec.getLsbD_ofNat, Nat.testBit_and]
  cases decide (i < 32) <;> simp
theorem sh32 : ∀ b : Fin 32, ((nn b.val).toUInt32 &&& Int32.toUInt32 31).toBitVec % 32 = BitVec.ofNat 32 b.val ∧ (nn b.val &&& 31).toBitVec.smod 32 = BitVec.ofNat 32 b.val := by decide
theorem nn_ius {a b : Nat} (ha : a < 4294967296) (hb : b < 32) : ius9 (nn a) (nn b) = nn (a >>> b) := by
  unfold ius9
  have e := (sh32 ⟨b, hb⟩).1
  dsimp only at e
  apply Int32.toBitVec_inj.mp
  show ((nn a).toUInt32 >>> ((nn b).toUInt32 &&& Int32.toUInt32 31)).toBitVec = _
  rw [UInt32.toBitVec_shiftRight, e]
  show BitVec.ofNat 32 a >>> BitVec.ofNat 32 b = BitVec.ofNat 32 (a >>> b)
  rw [BitVec.ushiftRight_eq', BitVec.toNat_ofNat, Nat.mod_eq_of_lt (by omega)]
  apply BitVec.eq_of_toNat_eq
  rw [BitVec.toNat_ushiftRight, BitVec.toNat_ofNat, BitVec.toNat_ofNat, Nat.mod_eq_of_lt (show a < 2 ^ 32 by omega)]
  have : a >>> b ≤ a := by rw [Nat.shiftRight_eq_div_pow]; exact Nat.div_le_self _ _
  rw [Nat.mod_eq_of_lt (by omega)]
theorem nn_isr {a b : Nat} (ha : a < 2147483648) (hb : b < 32) : isr9 (nn a) (nn b) = nn (a >>> b) := by
  unfold isr9
  have e := (sh32 ⟨b, hb⟩).2
  dsimp only at e
  apply Int32.toBitVec_inj.mp
  rw [Int32.toBitVec_shiftRight, e]
  show (BitVec.ofNat 32 a).sshiftRight' (BitVec.ofNat 32 b) = BitVec.ofNat 32 (a >>> b)
  rw [BitVec.sshiftRight', BitVec.toNat_ofNat, Nat.mod_eq_of_lt (by omega)]
  have hm : (BitVec.ofNat 32 a).msb = false := by
    rw [BitVec.msb_eq_decide, BitVec.toNat_ofNat, Nat.mod_eq_of_lt (show a < 2 ^ 32 by omega)]
    exact decide_eq_false (by omega)
  rw [BitVec.sshiftRight_eq_of_msb_false hm]
  apply BitVec.eq_of_toNat_eq
  rw [BitVec.toNat_ushiftRight, BitVec.toNat_ofNat, BitVec.toNat_ofNat, Nat.mod_eq_of_lt (show a < 2 ^ 32 by omega)]
  have : a >>> b ≤ a := by rw [Nat.shiftRight_eq_div_pow]; exact Nat.div_le_self _ _
  rw [Nat.mod_eq_of_lt (by omega)]
theorem shr_tb {s i : Nat} (hs : s < 4096) (hi : i < 12) : isr9 (nn s) (nn i) &&& 1 = if s.testBit i = true then 1 else 0 := by
  rw [nn_isr (by omega) (by omega), show (1 : Int32) = nn 1 from rfl, nn_land]
  have : s >>> i &&& 1 = if s.testBit i = true then 1 else 0 := by
    rw [Nat.testBit_eq_decide_div_mod_eq, Nat.and_one_is_mod, Nat.shiftRight_eq_div_pow]
    by_cases h : s / 2 ^ i % 2 = 1
    · rw [decide_eq_true h, if_pos rfl, h]
    · rw [decide_eq_false h, if_neg Bool.false_ne_true]
      omega
  rw [this]
  by_cases h : s.testBit i = true
  · rw [if_pos h, if_pos h]
  · rw [if_neg h, if_neg h]; rfl
