/-! Long.bitCount counts the bits -/
def tn (x : Int64) : Nat := x.toBitVec.toNat
theorem tn_lt (x : Int64) : tn x < 2 ^ 64 := x.toBitVec.isLt
theorem tn_and (x y : Int64) : tn (x &&& y) = tn x &&& tn y := by
  unfold tn; rw [Int64.toBitVec_and, BitVec.toNat_and]
theorem tn_sub {x y : Int64} (h : tn y ≤ tn x) : tn (x - y) = tn x - tn y := by
  unfold tn at h ⊢; rw [Int64.toBitVec_sub, BitVec.toNat_sub_of_le h]
theorem tn_add {x y : Int64} (h : tn x + tn y < 2 ^ 64) : tn (x + y) = tn x + tn y := by
  unfold tn at h ⊢; rw [Int64.toBitVec_add, BitVec.toNat_add, Nat.mod_eq_of_lt h]
theorem tn_lus (x : Int64) {s : Nat} (hs : s < 64) : tn (lus9 x (nn s)) = tn x / 2 ^ s := by
  unfold tn lus9
  have e1 := sh_nat ⟨s, hs⟩
  have e2 := sh_val ⟨s, hs⟩
  dsimp only at e1 e2
  rw [e1]
  show ((x.toUInt64 >>> UInt64.ofNat s).toBitVec).toNat = _
  rw [UInt64.toBitVec_shiftRight, BitVec.ushiftRight_eq', e2, BitVec.toNat_ushiftRight, Nat.shiftRight_eq_div_pow]
  rfl
theorem ct_DS (X : Nat) : ∀ k c a, ct (fun i => X.testBit i) k c a = a + DS 2 k (X / 2 ^ c)
  | 0, c, a => rfl
  | k + 1, c, a => by
    show ct (fun i => X.testBit i) k (c + 1) (if X.testBit c = true then a + 1 else a) = a + (X / 2 ^ c % 2 + DS 2 k (X / 2 ^ c / 2))
    rw [ct_DS X k (c + 1), Nat.div_div_eq_div_mul, show 2 ^ c * 2 = 2 ^ (c + 1) from rfl]
    have e : X.testBit c = decide (X / 2 ^ c % 2 = 1) := Nat.testBit_eq_decide_div_mod_eq
    rw [e]
    have h2 : X / 2 ^ c % 2 < 2 := Nat.mod_lt _ (by decide)
    by_cases h : X / 2 ^ c % 2 = 1
    · rw [if_pos (decide_eq_true h), h]; omega
    · rw [if_neg (fun z => h (of_decide_eq_true z))]
      have : X / 2 ^ c % 2 = 0 := by omega
      rw [this]; omega
theorem m5_32 : m5 32 = 6148914691236517205 := by decide +kernel
theorem m3_16 : m3 16 = 3689348814741910323 := by decide +kernel
theorem mf_8 : mf 8 = 1085102592571150095 := by decide +kernel
theorem tn_m5 : tn 6148914691236517205 = m5 32 := by rw [m5_32]; decide +kernel
theorem tn_m3 : tn 3689348814741910323 = m3 16 := by rw [m3_16]; decide +kernel
theorem tn_mf : tn 1085102592571150095 = mf 8 := by rw [mf_8]; decide +kernel
theorem DL_lt (b m : Nat) (hb : 0 < b) : ∀ n x, DL b m n x → x < b ^ n
  | 0, x, h => by
    have : x = 0 := h
    rw [this]; exact Nat.one_pos
  | n + 1, x, h => by
    have := DL_lt b m hb n (x / b) h.2
    rw [Nat.pow_succ]
    exact (Nat.div_lt_iff_lt_mul hb).mp this
theorem DL_top : ∀ n x, DL 16 4 (n + 1) x → x < 5 * 16 ^ n
  | 0, x, h => by
    have h1 : x % 16 ≤ 4 := h.1
    have h2 : x / 16 = 0 := h.2
    omega
  | n + 1, x, h => by
    have := DL_top n (x / 16) h.2
    have h1 : x % 16 ≤ 4 := h.1
    rw [Nat.pow_succ]
    omega
/-- the steps of it, as naturals -/
theorem bc_nat (x s1 s2 s3 s4 s5 s6 : Int64) (e1 : s1 = x - (lus9 x 1 &&& 6148914691236517205)) (e2 : s2 = (s1 &&& 3689348814741910323) + (lus9 s1 2 &&& 3689348814741910323)) (e3 : s3 = (s2 + lus9 s2 4) &&& 1085102592571150095) (e4 : s4 = s3 + lus9 s3 8) (e5 : s5 = s4 + lus9 s4 16) (e6 : s6 = s5 + lus9 s5 32) : tn s6 % 128 = DS 2 64 (tn x) := by
  have l1 : tn (lus9 x 1) = tn x / 2 := tn_lus x (s := 1) (by omega)
  have l2 : tn (lus9 s1 2) = tn s1 / 4 := tn_lus s1 (s := 2) (by omega)
  have l4 : tn (lus9 s2 4) = tn s2 / 16 := tn_lus s2 (s := 4) (by omega)
  have l8 : tn (lus9 s3 8) = tn s3 / 256 := tn_lus s3 (s := 8) (by omega)
  have l16 : tn (lus9 s4 16) = tn s4 / 65536 := tn_lus s4 (s := 16) (by omega)
  have l32 : tn (lus9 s5 32) = tn s5 / 4294967296 := tn_lus s5 (s := 32) (by omega)
  have hx : tn x < 4 ^ 32 := tn_lt x
  obtain ⟨p1, p2, p3⟩ := pop1 32 (tn x) hx
  have t1 : tn s1 = tn x - ((tn x / 2) &&& m5 32) := by
    rw [e1, tn_sub (by rw [tn_and, l1, tn_m5]; exact p3), tn_and, l1, tn_m5]
  rw [← t1] at p1 p2
  obtain ⟨q1, q2⟩ := pop2 16 (tn s1) p2
  have b2 : (tn s1 &&& m3 16) + ((tn s1 / 4) &&& m3 16) < 16 ^ 16 := DL_lt 16 4 (by decide) 16 _ q2
  have t2 : tn s2 = (tn s1 &&& m3 16) + ((tn s1 / 4) &&& m3 16) := by
    rw [e2, tn_add (by rw [tn_and, tn_and, l2, tn_m3]; exact b2), tn_and, tn_and, l2, tn_m3]
  rw [← t2] at q1 q2
  obtain ⟨r1, r2⟩ := pop3 8 (tn s2) q2
  have c2 : tn s2 + tn s2 / 16 < 2 ^ 64 := by
    have hlow : tn s2 < 5 * 16 ^ 15 := by
      exact DL_top 15 _ q2
    omega
  have t3 : tn s3 = (tn s2 + tn s2 / 16) &&& mf 8 := by
    rw [e3, tn_and, tn_add (by rw [l4]; exact c2), l4, tn_mf]
  rw [← t3] at r1 r2
  obtain ⟨u1, u2⟩ := pop4 (tn s3) r2
  have v4 : tn s4 = tn s3 + tn s3 / 256 := by
    rw [e4, tn_add (by rw [l8]; omega), l8]
  have v5 : tn s5 = tn s4 + tn s4 / 65536 := by
    rw [e5, tn_add (by rw [l16, v4]; omega), l16]
  have v6 : tn s6 = tn s5 + tn s5 / 4294967296 := by
    rw [e6, tn_add (by rw [l32, v5, v4]; omega), l32]
  rw [v6, v5, v4, u2]
  refine Eq.trans r1 (Eq.trans q1 p1)
theorem bc_fin (x s6 : Int64) (h : tn s6 % 128 = DS 2 64 (tn x)) : Int64.toInt32 s6 &&& 127 = nn (ct (bt x) 64 0 0) := by
  have hct : ct (bt x) 64 0 0 = DS 2 64 (tn x) := by
    have := ct_DS (tn x) 64 0 0
    rw [Nat.pow_zero, Nat.div_one, Nat.zero_add] at this
    exact this
  have hle := ct_le (bt x) 64 0 0
  apply Int32.toBitVec_inj.mp
  apply BitVec.eq_of_toNat_eq
  rw [Int32.toBitVec_and, BitVec.toNat_and, Int64.toBitVec_toInt32, BitVec.signExtend_eq_setWidth_of_le _ (by decide), BitVec.toNat_setWidth]
  show (tn s6 % 2 ^ 32) &&& 127 = (ct (bt x) 64 0 0) % 2 ^ 32
  rw [and127, hct, ← h]
  omega
theorem bitC (d : Nat) (x : Int64) (I : PI) (J : PJ) (T : TL) : cal d 103 [vl x] (MX I J T) = some (.inl (some (vi (nn (ct (bt x) 64 0 0)))), MX I J T) := by
  rw [c103, bc_fin x _ (bc_nat x _ _ _ _ _ _ rfl rfl rfl rfl rfl rfl)]
