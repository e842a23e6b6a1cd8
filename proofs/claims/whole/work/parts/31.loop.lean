/-! The law's loop -/
def lawL (i : Int32) (x5 x6 : Option AV) : Loc9 := [some (vr 99 0), some (vr 11 0), some (vr 14 0), some (vr 40 0), some (vi i), x5, x6]
theorem law_23 (d : Nat) (i : Int32) (x5 x6 : Option AV) (I : Nat → Nat → Nat → Int32) (J : Nat → Nat → Nat → Int64) (R : Nat → Nat → Nat → Option (Option (Nat × Nat))) (K : Nat → Nat) (C S : Nat) : den d 0 23 (lawL i x5 x6) [] (I, J, R, K, C, S) = if decide (Int32.ofNat (K 98) - 6 < i) = true then den d 0 1178 (lawL i x5 x6) [] (I, J, R, K, C, S) else den d 0 33 (lawL i x5 x6) [] (I, J, R, K, C, S) :=
  (bx_eq [33, 1178] d 0 10 23 _ [] _).symm.trans rfl
set_option maxRecDepth 100000 in
theorem law_1178 (d : Nat) (l : Loc9) (m : Mem) : den d 0 1178 l [] m = some (.inl (some (vi 1)), m) := (bx_eq [] d 0 3 1178 _ [] _).symm.trans rfl
set_option maxRecDepth 100000 in
theorem law_1172 (d : Nat) (i : Int32) (x5 x6 : Option AV) (m : Mem) : den d 0 1172 (lawL i x5 x6) [] m = den d 0 23 (lawL (i + 6) x5 x6) [] m := (bx_eq [23] d 0 3 1172 _ [] _).symm.trans rfl
set_option maxRecDepth 20000 in
theorem law_lt {L i : Nat} (h1 : L ≤ 3072) (h2 : i ≤ 3072) : (Int32.ofNat L - 6 < Int32.ofNat i) ↔ L < i + 6 := by
  rw [Int32.lt_iff_toInt_lt, Int32.toInt_sub, Int32.toInt_ofNat_of_lt (by omega), Int32.toInt_ofNat_of_lt (by omega), show (6 : Int32).toInt = 6 from rfl, Int.bmod_def]
  omega
theorem law_add (i : Nat) : Int32.ofNat i + 6 = Int32.ofNat (i + 6) := by
  rw [Int32.ofNat_add]; rfl
/-- the law, out of what holds of each of its calls -/
theorem law_loop {L : Nat} (hL : L ≤ 3072) (Inv : Mem → Prop) (hK : ∀ m, Inv m → mK m 98 = L) (cc ss d : Nat)
    (hstep : ∀ (m : Mem) (i : Nat) (x5 x6 : Option AV), Inv m → i + 6 ≤ L → ∃ (m1 : Mem) (y5 y6 : Option AV), den d 0 33 (lawL (Int32.ofNat i) x5 x6) [] m = den d 0 1172 (lawL (Int32.ofNat i) y5 y6) [] m1 ∧ Inv m1 ∧ mC m1 ≤ mC m + cc ∧ mS m1 ≤ mS m + ss) :
    ∀ (n i : Nat) (m : Mem) (x5 x6 : Option AV), i ≤ 3072 → L < i + 6 * n + 6 → Inv m → ∃ m1 : Mem, den d 0 23 (lawL (Int32.ofNat i) x5 x6) [] m = some (.inl (some (vi 1)), m1) ∧ mC m1 ≤ mC m + n * cc ∧ mS m1 ≤ mS m + n * ss := by
  intro n
  induction n with
  | zero =>
    intro i m x5 x6 hi hn hm
    obtain ⟨I, J, R, K, C, S⟩ := m
    have hk : K 98 = L := hK _ hm
    refine ⟨(I, J, R, K, C, S), ?_, Nat.le_add_right _ _, Nat.le_add_right _ _⟩
    rw [law_23, hk, if_pos (decide_eq_true ((law_lt hL hi).mpr (by omega))), law_1178]
  | succ n ih =>
    intro i m x5 x6 hi hn hm
    by_cases h6 : i + 6 ≤ L
    · obtain ⟨m1, y5, y6, e1, hm1, c1, s1⟩ := hstep m i x5 x6 hm h6
      obtain ⟨m2, e2, c2, s2⟩ := ih (i + 6) m1 y5 y6 (Nat.le_trans h6 hL) (by omega) hm1
      refine ⟨m2, ?_, ?_, ?_⟩
      · have hk : mK m 98 = L := hK _ hm
        obtain ⟨I, J, R, K, C, S⟩ := m
        replace hk : K 98 = L := hk
        rw [law_23, hk, if_neg (fun g => by have := (law_lt hL hi).mp (of_decide_eq_true g); omega), e1, law_1172, law_add, e2]
      · rw [Nat.succ_mul]; omega
      · rw [Nat.succ_mul]; omega
    · have hk : mK m 98 = L := hK _ hm
      obtain ⟨I, J, R, K, C, S⟩ := m
      replace hk : K 98 = L := hk
      refine ⟨(I, J, R, K, C, S), ?_, Nat.le_add_right _ _, Nat.le_add_right _ _⟩
      rw [law_23, hk, if_pos (decide_eq_true ((law_lt hL hi).mpr (by omega))), law_1178]
