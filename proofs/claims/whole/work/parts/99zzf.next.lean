/-! The book: the reference's token -/
theorem b255_all : ∀ m : Fin 256, (0 ≤ Int32.ofInt ((m.val : Int) - 128) ∧ Int32.ofInt ((m.val : Int) - 128) &&& 255 = Int32.ofInt ((m.val : Int) - 128)) ∨ (Int32.ofInt ((m.val : Int) - 128) < 0 ∧ 128 ≤ Int32.ofInt ((m.val : Int) - 128) &&& 255) := by decide +kernel
theorem b255 {x : Int32} (h1 : -128 ≤ x) (h2 : x ≤ 127) : (0 ≤ x ∧ x &&& 255 = x) ∨ (x < 0 ∧ 128 ≤ x &&& 255) := by
  have a1 : (-128 : Int) ≤ x.toInt := Int32.le_iff_toInt_le.mp h1
  have a2 : x.toInt ≤ (127 : Int) := Int32.le_iff_toInt_le.mp h2
  have e : x = Int32.ofInt (((x.toInt + 128).toNat : Int) - 128) := by
    rw [show (((x.toInt + 128).toNat : Int) - 128) = x.toInt by omega, Int32.ofInt_toInt]
  have := b255_all ⟨(x.toInt + 128).toNat, by omega⟩
  rw [← e] at this
  exact this
/-- the byte at i, as the reference reads it -/
def bz (f : Nat → Int32) (n i : Nat) : Int32 := if i < n then f i &&& 255 else -1
theorem bz_of {f : Nat → Int32} {n i : Nat} (hb : ∀ x, -128 ≤ f x ∧ f x ≤ 127) (hi : i < n) (h0 : 0 ≤ f i) : bz f n i = f i := by
  unfold bz
  rw [if_pos hi]
  rcases b255 (hb i).1 (hb i).2 with z | z
  · exact z.2
  · exact absurd z.1 (i32_nlt.mpr h0)
theorem bz_p {p : Int32 → Prop} (hp1 : ∀ x, p x → 0 ≤ x ∧ x < 128) {f : Nat → Int32} {n i : Nat} (hb : ∀ x, -128 ≤ f x ∧ f x ≤ 127) : p (bz f n i) ↔ (i < n ∧ p (f i)) := by
  unfold bz
  by_cases hi : i < n
  · rw [if_pos hi]
    rcases b255 (hb i).1 (hb i).2 with z | z
    · rw [z.2]
      exact ⟨fun y => ⟨hi, y⟩, fun y => y.2⟩
    · constructor
      · intro y
        exact absurd (hp1 _ y).2 (i32_nlt.mpr z.2)
      · intro y
        exact absurd z.1 (i32_nlt.mpr (hp1 _ y.2).1)
  · rw [if_neg hi]
    constructor
    · intro y
      exact absurd (hp1 _ y).1 (by decide)
    · intro y
      exact absurd y.1 hi
theorem p_lt (x : Int32) (h : isLt x) : 0 ≤ x ∧ x < 128 := by
  obtain ⟨m, m1, m2, m3, -⟩ := lt_nn h
  rw [m1]
  exact ⟨(nn_le (a := 0) (by omega) (by omega)).mpr (by omega), (nn_lt (b := 128) (by omega) (by omega)).mpr (by omega)⟩
theorem p_dg (x : Int32) (h : isDg x) : 0 ≤ x ∧ x < 128 := by
  obtain ⟨m, m1, m2, m3, -⟩ := dg_nn h
  rw [m1]
  exact ⟨(nn_le (a := 0) (by omega) (by omega)).mpr (by omega), (nn_lt (b := 128) (by omega) (by omega)).mpr (by omega)⟩
theorem p_sg (x : Int32) (h : isSg x) : 0 ≤ x ∧ x < 128 := by
  rcases h with z | z | z | z | z | z | z <;> (rw [z]; decide)
theorem p_sp (x : Int32) (h : x = 32) : 0 ≤ x ∧ x < 128 := by rw [h]; decide
section NXT
variable (d : Nat) (I : PI) (J : PJ) (T : TL) {f : Nat → Int32} {n : Nat}
theorem ltM (x : Int32) : cal d 191 [vi x] (MX I J T) = some (.inl (some (vi (bi (isLt x)))), MX I J T) := by
  rw [c191]
  by_cases z1 : x < 97
  · rw [if_pos z1, bi0 (fun y => i32_nlt.mpr y.1 z1)]
  · rw [if_neg z1]
    by_cases z2 : 122 < x
    · rw [if_pos z2, bi0 (fun y => i32_nlt.mpr y.2 z2)]
    · rw [if_neg z2, bi1 ⟨i32_nlt.mp z1, i32_nlt.mp z2⟩]
theorem dgM (x : Int32) : cal d 192 [vi x] (MX I J T) = some (.inl (some (vi (bi (isDg x)))), MX I J T) := by
  rw [c192]
  by_cases z1 : x < 48
  · rw [if_pos z1, bi0 (fun y => i32_nlt.mpr y.1 z1)]
  · rw [if_neg z1]
    by_cases z2 : 57 < x
    · rw [if_pos z2, bi0 (fun y => i32_nlt.mpr y.2 z2)]
    · rw [if_neg z2, bi1 ⟨i32_nlt.mp z1, i32_nlt.mp z2⟩]
theorem byteM (hf : I 37 1 = f) (hn : n ≤ 500) (sf : Nat → Int32) (h9 : sf 9 = nn n) {i : Nat} (hi : i ≤ n) : cal d 190 [vr 14 0, vi (nn i)] (MX (upA I 14 0 sf) J T) = some (.inl (some (vi (bz f n i))), MX (upA I 14 0 sf) J T) := by
  have e9 : (upA I 14 0 sf) 14 0 9 = nn n := h9
  have e37 : (upA I 14 0 sf) 37 1 i = f i := congrFun hf i
  rw [c190, e9]
  unfold bz
  by_cases z : i < n
  · rw [if_neg (by rw [nn_le (by omega) (by omega)]; omega), if_pos (nn_inR (by omega) (by omega)), nn_idx (by omega), e37, if_pos z]
  · rw [if_pos ((nn_le (by omega) (by omega)).mpr (by omega)), if_neg z]
/-- a word -/
theorem wordM (hf : I 37 1 = f) (hb : ∀ x, -128 ≤ f x ∧ f x ≤ 127) (hn : n ≤ 500) (x1 : Int32) {j k : Nat} (hr : runP isLt f n j k) : ∀ m i (sf : Nat → Int32) (y : Int64), i + m = k → j ≤ i → sf 9 = nn n → sf 10 = nn i → (i - j ≤ 8 → y = ll (vlB 32 (fun x => (f (j + x)).toNatClampNeg - 96) (i - j))) → ∃ (sf2 : Nat → Int32) (y2 : Int64), den (d + 1) 189 80 [some (vr 14 0), some (vi x1), some (vi (nn (i - j)))] [] (MX (upA I 14 0 sf) (up3 J 14 0 15 y) T) = some (.inl none, MX (upA I 14 0 sf2) (up3 J 14 0 15 y2) T) ∧ sf2 = (if k - j ≤ 8 then wu (wu sf 10 (nn k)) 11 2 else wu sf 10 (nn k)) ∧ (k - j ≤ 8 → y2 = ll (vlB 32 (fun x => (f (j + x)).toNatClampNeg - 96) (k - j))) := by
  obtain ⟨hjk, hkn, hall, hend⟩ := hr
  intro m
  induction m with
  | zero =>
    intro i sf y hi hij h9 h10 hy
    have hik : i = k := by omega
    subst hik
    have e10 : (upA I 14 0 sf) 14 0 10 = nn i := h10
    have hne : ¬ isLt (bz f n i) := by
      rw [bz_p p_lt hb]
      rcases hend with y | y
      · omega
      · exact fun q => y q.2
    refine ⟨_, y, ?_, rfl, hy⟩
    rw [b189_80, e10, byteM d I _ T hf hn sf h9 hkn]
    simp only [ret9]
    rw [b189_88, ltM]
    simp only [ret9]
    rw [b189_91, bi0 hne, if_pos rfl, ← wu_same h10]
    by_cases z : i - j ≤ 8
    · rw [if_neg (by rw [show (8 : Int32) = nn 8 from rfl, nn_lt (by omega) (by omega)]; omega), if_pos z, upA_up3]
      rfl
    · rw [if_pos (show (8 : Int32) < nn (i - j) from (nn_lt (a := 8) (by omega) (by omega)).mpr (by omega)), if_neg z]
  | succ m ih =>
    intro i sf y hi hij h9 h10 hy
    have e10 : (upA I 14 0 sf) 14 0 10 = nn i := h10
    have hl := hall i hij (by omega)
    have hbz : bz f n i = f i := bz_of hb (by omega) (p_lt _ hl).1
    obtain ⟨b, b1, b2, b3, b4⟩ := lt_nn hl
    have start : den (d + 1) 189 80 [some (vr 14 0), some (vi x1), some (vi (nn (i - j)))] [] (MX (upA I 14 0 sf) (up3 J 14 0 15 y) T) = den (d + 1) 189 91 [some (vr 14 0), some (vi x1), some (vi (nn (i - j)))] [vi 1] (MX (upA I 14 0 sf) (up3 J 14 0 15 y) T) := by
      rw [b189_80, e10, byteM d I _ T hf hn sf h9 (by omega)]
      simp only [ret9]
      rw [b189_88, ltM, hbz, bi1 hl]
      simp only [ret9]
    have e1 : nn (i - j) + 1 = nn (i + 1 - j) := by rw [nn_add1, show i - j + 1 = i + 1 - j by omega]
    by_cases z : 8 ≤ i - j
    · obtain ⟨sf2, y2, e, q1, q2⟩ := ih (i + 1) (wu sf 10 (nn (i + 1))) y (by omega) (by omega) h9 rfl (fun z => by omega)
      refine ⟨sf2, y2, ?_, ?_, q2⟩
      · rw [start, b189_91, if_neg (by decide), if_pos (show (8 : Int32) ≤ nn (i - j) from (nn_le (a := 8) (by omega) (by omega)).mpr z), e10, upA_up3, e1, nn_add1]
        exact e
      · rw [q1, wu_wu]
    · obtain ⟨sf2, y2, e, q1, q2⟩ := ih (i + 1) (wu sf 10 (nn (i + 1))) (32 * y + Int32.toInt64 ((f i - 97) + 1)) (by omega) (by omega) h9 rfl (fun z => by
        rw [hy (by omega), b1, show (97 : Int32) = nn 97 from rfl, nn_sub b2, nn_add1, i2l_ll (by omega), ll_mul32, ll_add, show i + 1 - j = (i - j) + 1 by omega]
        show _ = ll (vlB 32 (fun x => (f (j + x)).toNatClampNeg - 96) (i - j) * 32 + ((f (j + (i - j))).toNatClampNeg - 96))
        rw [show j + (i - j) = i by omega, b4, Nat.mul_comm 32, show b - 97 + 1 = b - 96 by omega])
      refine ⟨sf2, y2, ?_, ?_, q2⟩
      · have e15 : (up3 J 14 0 15 y) 14 0 15 = y := rfl
        rw [start, b189_91, if_neg (by decide), if_neg (by rw [show (8 : Int32) = nn 8 from rfl, nn_le (by omega) (by omega)]; omega), e10, byteM d I _ T hf hn sf h9 (by omega), e15]
        simp only [ret9]
        rw [b189_117, e10, hbz, upA_up3, e1, nn_add1, up3_up3]
        exact e
      · rw [q1, wu_wu]
/-- a number -/
theorem numM (hf : I 37 1 = f) (hb : ∀ x, -128 ≤ f x ∧ f x ≤ 127) (hn : n ≤ 500) (x1 : Int32) {j k : Nat} (hr : runP isDg f n j k) : ∀ m i (sf : Nat → Int32), i + m = k → j ≤ i → sf 9 = nn n → sf 10 = nn i → (i - j ≤ 3 → sf 14 = nn (nmAt f j (i - j))) → ∃ (sf2 : Nat → Int32) (v : Int32), den (d + 1) 189 169 [some (vr 14 0), some (vi x1), some (vi (nn (i - j)))] [] (MX (upA I 14 0 sf) J T) = some (.inl none, MX (upA I 14 0 sf2) J T) ∧ sf2 = (if k - j ≤ 3 then wu (wu (wu sf 14 v) 10 (nn k)) 11 3 else wu (wu sf 14 v) 10 (nn k)) ∧ (k - j ≤ 3 → v = nn (nmAt f j (k - j))) := by
  obtain ⟨hjk, hkn, hall, hend⟩ := hr
  intro m
  induction m with
  | zero =>
    intro i sf hi hij h9 h10 hy
    have hik : i = k := by omega
    subst hik
    have e10 : (upA I 14 0 sf) 14 0 10 = nn i := h10
    have hne : ¬ isDg (bz f n i) := by
      rw [bz_p p_dg hb]
      rcases hend with y | y
      · omega
      · exact fun q => y q.2
    refine ⟨_, sf 14, ?_, rfl, hy⟩
    rw [← wu_same (show sf 14 = sf 14 from rfl), ← wu_same h10, b189_169, e10, byteM d I _ T hf hn sf h9 hkn]
    simp only [ret9]
    rw [b189_177, dgM]
    simp only [ret9]
    rw [b189_180, bi0 hne, if_pos rfl]
    by_cases z : i - j ≤ 3
    · rw [if_neg (by rw [show (4 : Int32) = nn 4 from rfl, nn_le (by omega) (by omega)]; omega), if_pos z, upA_up3]
      rfl
    · rw [if_pos (show (4 : Int32) ≤ nn (i - j) from (nn_le (a := 4) (by omega) (by omega)).mpr (by omega)), if_neg z]
  | succ m ih =>
    intro i sf hi hij h9 h10 hy
    have e10 : (upA I 14 0 sf) 14 0 10 = nn i := h10
    have hl := hall i hij (by omega)
    have hbz : bz f n i = f i := bz_of hb (by omega) (p_dg _ hl).1
    obtain ⟨b, b1, b2, b3, b4⟩ := dg_nn hl
    have start : den (d + 1) 189 169 [some (vr 14 0), some (vi x1), some (vi (nn (i - j)))] [] (MX (upA I 14 0 sf) J T) = den (d + 1) 189 180 [some (vr 14 0), some (vi x1), some (vi (nn (i - j)))] [vi 1] (MX (upA I 14 0 sf) J T) := by
      rw [b189_169, e10, byteM d I _ T hf hn sf h9 (by omega)]
      simp only [ret9]
      rw [b189_177, dgM, hbz, bi1 hl]
      simp only [ret9]
    have e1 : nn (i - j) + 1 = nn (i + 1 - j) := by rw [nn_add1, show i - j + 1 = i + 1 - j by omega]
    have wc : ∀ v w : Int32, wu (wu (wu (wu sf 14 w) 10 (nn (i + 1))) 14 v) 10 (nn k) = wu (wu sf 14 v) 10 (nn k) := fun v w => by
      funext x
      unfold wu
      by_cases z : x = 10
      · simp only [if_pos z]
      · by_cases y : x = 14
        · simp only [if_neg z, if_pos y]
        · simp only [if_neg z, if_neg y]
    by_cases z : 3 ≤ i - j
    · obtain ⟨sf2, v, e, q1, q2⟩ := ih (i + 1) (wu (wu sf 14 (sf 14)) 10 (nn (i + 1))) (by omega) (by omega) h9 rfl (fun z => by omega)
      refine ⟨sf2, v, ?_, ?_, q2⟩
      · rw [← wu_same (show sf 14 = sf 14 from rfl)] at e
        rw [start, b189_180, if_neg (by decide), if_pos (show (3 : Int32) ≤ nn (i - j) from (nn_le (a := 3) (by omega) (by omega)).mpr z), e10, upA_up3, e1, nn_add1]
        exact e
      · rw [q1, wc]
    · obtain ⟨sf2, v, e, q1, q2⟩ := ih (i + 1) (wu (wu sf 14 ((10 * sf 14 + f i) - 48)) 10 (nn (i + 1))) (by omega) (by omega) h9 rfl (fun z => by
        show (10 * sf 14 + f i) - 48 = _
        rw [hy (by omega), b1, show (48 : Int32) = nn 48 from rfl, show (10 : Int32) = nn 10 from rfl, nn_mul, nn_add, nn_sub (by omega), show i + 1 - j = (i - j) + 1 by omega]
        show _ = nn (nmAt f j (i - j) * 10 + ((f (j + (i - j))).toNatClampNeg - 48))
        rw [show j + (i - j) = i by omega, b4, Nat.mul_comm 10, show nmAt f j (i - j) * 10 + b - 48 = nmAt f j (i - j) * 10 + (b - 48) by omega])
      refine ⟨sf2, v, ?_, ?_, q2⟩
      · have e14 : (upA I 14 0 sf) 14 0 14 = sf 14 := rfl
        rw [start, b189_180, if_neg (by decide), if_neg (by rw [show (3 : Int32) = nn 3 from rfl, nn_le (by omega) (by omega)]; omega), e10, byteM d I _ T hf hn sf h9 (by omega), e14]
        simp only [ret9]
        have e10' : ∀ w, (upA I 14 0 (fun c => if c = 14 then w else sf c)) 14 0 10 = nn i := fun w => h10
        rw [b189_204, upA_up3, e10, hbz, upA_up3, e1, nn_add1]
        exact e
      · rw [q1, wc]
end NXT
