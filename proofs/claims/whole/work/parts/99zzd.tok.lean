/-! The book: tokens; the class reads one -/
def isLt (x : Int32) : Prop := 97 ≤ x ∧ x ≤ 122
def isDg (x : Int32) : Prop := 48 ≤ x ∧ x ≤ 57
def isSg (x : Int32) : Prop := x = 59 ∨ x = 44 ∨ x = 43 ∨ x = 45 ∨ x = 42 ∨ x = 40 ∨ x = 41
def wdAt (f : Nat → Int32) (j m : Nat) : WD := (m, fun x => if x < m then (f (j + x)).toNatClampNeg else 97)
def nmAt (f : Nat → Int32) (j m : Nat) : Nat := vlB 10 (fun x => (f (j + x)).toNatClampNeg - 48) m
/-- all of one sort from j up to k -/
def runP (p : Int32 → Prop) (f : Nat → Int32) (n j k : Nat) : Prop := j ≤ k ∧ k ≤ n ∧ (∀ x, j ≤ x → x < k → p (f x)) ∧ (k = n ∨ ¬ p (f k))
theorem run_ex (p : Int32 → Prop) (f : Nat → Int32) (n : Nat) : ∀ m j, j + m = n → ∃ k, runP p f n j k
  | 0, j, hj => ⟨j, by omega, by omega, fun x h1 h2 => absurd h2 (by omega), .inl (by omega)⟩
  | m + 1, j, hj => by
    by_cases z : p (f j)
    · obtain ⟨k, k1, k2, k3, k4⟩ := run_ex p f n m (j + 1) (by omega)
      refine ⟨k, by omega, k2, fun x h1 h2 => ?_, k4⟩
      by_cases y : x = j
      · rw [y]; exact z
      · exact k3 x (by omega) h2
    · exact ⟨j, by omega, by omega, fun x h1 h2 => absurd h2 (by omega), .inr z⟩
/-- the token at i: it begins at j, ends at k; its sort (0 none, 1 the end, 2 a word, 3 a number, 4 a sign) -/
def TOKb (f : Nat → Int32) (n j k s : Nat) (u : WD) (v : Nat) (c : Int32) : Prop := (s = 1 ∧ j = n ∧ k = n) ∨ (j < n ∧ ¬ f j = 32 ∧ ((isLt (f j) ∧ runP isLt f n j k ∧ ((s = 2 ∧ k - j ≤ 8 ∧ u = wdAt f j (k - j)) ∨ (s = 0 ∧ 8 < k - j))) ∨ (isDg (f j) ∧ runP isDg f n j k ∧ ((s = 3 ∧ k - j ≤ 3 ∧ v = nmAt f j (k - j)) ∨ (s = 0 ∧ 3 < k - j))) ∨ (isSg (f j) ∧ s = 4 ∧ c = f j ∧ k = j + 1) ∨ (¬ isLt (f j) ∧ ¬ isDg (f j) ∧ ¬ isSg (f j) ∧ s = 0 ∧ k = j)))
def TOK (f : Nat → Int32) (n i j k s : Nat) (u : WD) (v : Nat) (c : Int32) : Prop := i ≤ j ∧ j ≤ n ∧ (∀ x, i ≤ x → x < j → f x = 32) ∧ TOKb f n j k s u v c
theorem TOK_ex (f : Nat → Int32) {n i : Nat} (hi : i ≤ n) : ∃ j k s u v c, TOK f n i j k s u v c := by
  obtain ⟨j, j1, j2, j3, j4⟩ := run_ex (fun x => x = 32) f n (n - i) i (by omega)
  rcases Nat.eq_or_lt_of_le j2 with z | z
  · exact ⟨j, j, 1, (0, fun _ => 0), 0, 0, j1, j2, j3, .inl ⟨rfl, z, z⟩⟩
  · have hne : ¬ f j = 32 := by
      rcases j4 with y | y
      · omega
      · exact y
    by_cases a : isLt (f j)
    · obtain ⟨k, hk⟩ := run_ex isLt f n (n - j) j (by omega)
      by_cases b : k - j ≤ 8
      · exact ⟨j, k, 2, wdAt f j (k - j), 0, 0, j1, j2, j3, .inr ⟨z, hne, .inl ⟨a, hk, .inl ⟨rfl, b, rfl⟩⟩⟩⟩
      · exact ⟨j, k, 0, (0, fun _ => 0), 0, 0, j1, j2, j3, .inr ⟨z, hne, .inl ⟨a, hk, .inr ⟨rfl, by omega⟩⟩⟩⟩
    · by_cases a2 : isDg (f j)
      · obtain ⟨k, hk⟩ := run_ex isDg f n (n - j) j (by omega)
        by_cases b : k - j ≤ 3
        · exact ⟨j, k, 3, (0, fun _ => 0), nmAt f j (k - j), 0, j1, j2, j3, .inr ⟨z, hne, .inr (.inl ⟨a2, hk, .inl ⟨rfl, b, rfl⟩⟩)⟩⟩
        · exact ⟨j, k, 0, (0, fun _ => 0), 0, 0, j1, j2, j3, .inr ⟨z, hne, .inr (.inl ⟨a2, hk, .inr ⟨rfl, by omega⟩⟩)⟩⟩
      · by_cases a3 : isSg (f j)
        · exact ⟨j, j + 1, 4, (0, fun _ => 0), 0, f j, j1, j2, j3, .inr ⟨z, hne, .inr (.inr (.inl ⟨a3, rfl, rfl, rfl⟩))⟩⟩
        · exact ⟨j, j, 0, (0, fun _ => 0), 0, 0, j1, j2, j3, .inr ⟨z, hne, .inr (.inr (.inr ⟨a, a2, a3, rfl, rfl⟩))⟩⟩
theorem lt_nn {x : Int32} (h : isLt x) : ∃ m : Nat, x = nn m ∧ 97 ≤ m ∧ m ≤ 122 ∧ x.toNatClampNeg = m := by
  obtain ⟨h1, h2⟩ := nn_of (Int32.le_trans (by decide : (0 : Int32) ≤ 97) h.1)
  refine ⟨x.toNatClampNeg, h1, ?_, ?_, rfl⟩
  · have := h.1
    rw [h1] at this
    exact (nn_le (a := 97) (by omega) h2).mp this
  · have := h.2
    rw [h1] at this
    exact (nn_le (b := 122) h2 (by omega)).mp this
theorem dg_nn {x : Int32} (h : isDg x) : ∃ m : Nat, x = nn m ∧ 48 ≤ m ∧ m ≤ 57 ∧ x.toNatClampNeg = m := by
  obtain ⟨h1, h2⟩ := nn_of (Int32.le_trans (by decide : (0 : Int32) ≤ 48) h.1)
  refine ⟨x.toNatClampNeg, h1, ?_, ?_, rfl⟩
  · have := h.1
    rw [h1] at this
    exact (nn_le (a := 48) (by omega) h2).mp this
  · have := h.2
    rw [h1] at this
    exact (nn_le (b := 57) h2 (by omega)).mp this
theorem wd_ok {f : Nat → Int32} {n j k : Nat} (hr : runP isLt f n j k) (hj : j < k) (h8 : k - j ≤ 8) : WDok (wdAt f j (k - j)) := by
  refine ⟨by show 1 ≤ k - j; omega, h8, fun x => ?_⟩
  show 97 ≤ (if x < k - j then _ else 97) ∧ (if x < k - j then _ else 97) ≤ 122
  by_cases z : x < k - j
  · rw [if_pos z]
    obtain ⟨m, m1, m2, m3, m4⟩ := lt_nn (hr.2.2.1 (j + x) (by omega) (by omega))
    rw [m4]; omega
  · rw [if_neg z]; omega
theorem bt_ll {a c : Nat} (hc : c < 64) : bt (ll a) c = a.testBit c := by
  unfold bt
  show (BitVec.ofNat 64 a).getLsbD c = _
  rw [BitVec.getLsbD_ofNat, decide_eq_true hc, Bool.true_and]
theorem i2l_ll {a : Nat} (h : a < 2147483648) : Int32.toInt64 (nn a) = ll a := by
  apply Int64.toInt_inj.mp
  rw [Int32.toInt_toInt64, nn_toInt h, ll_toInt (by omega)]
theorem sh8 {v b : Nat} (hb : b < 256) : lsh9 (ll v) 8 ||| Int32.toInt64 (nn b) = ll (v * 256 + b) := by
  apply bt_ext
  intro c hc
  rw [i2l_ll (by omega), bt_or, show (8 : Int32) = nn 8 from rfl, bt_lsh _ (by omega), bt_ll hc, bt_ll hc]
  have e : v * 256 + b = (v <<< 8) ||| b := by
    rw [← Nat.shiftLeft_add_eq_or_of_lt (show b < 2 ^ 8 from hb), Nat.shiftLeft_eq]
  rw [e, Nat.testBit_or, Nat.testBit_shiftLeft, decide_eq_true hc, Bool.true_and]
  by_cases z : c < 8
  · rw [decide_eq_true z, decide_eq_false (by omega)]
    rfl
  · rw [decide_eq_false z, decide_eq_true (by omega), bt_ll (by omega)]
    rfl
section ADV
variable (d : Nat) (I : PI) (J : PJ) (T : TL) {f : Nat → Int32} {n : Nat}
theorem ltC (x : Int32) : cal d 27 [vi x] (MX I J T) = some (.inl (some (vi (bi (isLt x)))), MX I J T) := by
  rw [c27]
  by_cases z1 : x < 97
  · rw [if_pos z1, bi0 (fun y => i32_nlt.mpr y.1 z1)]
  · rw [if_neg z1]
    by_cases z2 : 122 < x
    · rw [if_pos z2, bi0 (fun y => i32_nlt.mpr y.2 z2)]
    · rw [if_neg z2, bi1 ⟨i32_nlt.mp z1, i32_nlt.mp z2⟩]
theorem dgC (x : Int32) : cal d 29 [vi x] (MX I J T) = some (.inl (some (vi (bi (isDg x)))), MX I J T) := by
  rw [c29]
  by_cases z1 : x < 48
  · rw [if_pos z1, bi0 (fun y => i32_nlt.mpr y.1 z1)]
  · rw [if_neg z1]
    by_cases z2 : 57 < x
    · rw [if_pos z2, bi0 (fun y => i32_nlt.mpr y.2 z2)]
    · rw [if_neg z2, bi1 ⟨i32_nlt.mp z1, i32_nlt.mp z2⟩]
theorem sgC9 (x : Int32) : cal d 31 [vi x] (MX I J T) = some (.inl (some (vi (bi (isSg x)))), MX I J T) := by
  rw [c31]
  unfold isSg
  by_cases z1 : x = 59
  · rw [if_pos z1, bi1 (.inl z1)]
  · rw [if_neg z1]
    by_cases z2 : x = 44
    · rw [if_pos z2, bi1 (.inr (.inl z2))]
    · rw [if_neg z2]
      by_cases z3 : x = 43
      · rw [if_pos z3, bi1 (.inr (.inr (.inl z3)))]
      · rw [if_neg z3]
        by_cases z4 : x = 45
        · rw [if_pos z4, bi1 (.inr (.inr (.inr (.inl z4))))]
        · rw [if_neg z4]
          by_cases z5 : x = 42
          · rw [if_pos z5, bi1 (.inr (.inr (.inr (.inr (.inl z5)))))]
          · rw [if_neg z5]
            by_cases z6 : x = 40
            · rw [if_pos z6, bi1 (.inr (.inr (.inr (.inr (.inr (.inl z6))))))]
            · rw [if_neg z6]
              by_cases z7 : x = 41
              · rw [if_neg (fun y => y z7), bi1 (.inr (.inr (.inr (.inr (.inr (.inr z7))))))]
              · rw [if_pos z7, bi0 (fun y => by rcases y with y | y | y | y | y | y | y <;> contradiction)]
/-- a word read -/
theorem wordC (hf : I 37 0 = f) (hn : n ≤ 500) {j k : Nat} (hr : runP isLt f n j k) : ∀ m i (sf : Nat → Int32) (y0 y : Int64), i + m = k → j ≤ i → sf 1 = nn n → sf 2 = nn i → sf 3 = nn j → (i - j ≤ 8 → y = ll (vlB 256 (fun x => (f (j + x)).toNatClampNeg) (i - j))) → ∃ (sf2 : Nat → Int32) (y2 : Int64), den (d + 1) 28 2 [some (vr 8 0), some (vl y), none] [] (MX (upA I 8 0 sf) (up3 J 8 0 4 y0) T) = some (.inl none, MX (upA I 8 0 sf2) (up3 J 8 0 4 y2) T) ∧ sf2 = wu sf 2 (nn k) ∧ y2 = if k - j ≤ 8 then ll (vlB 256 (fun x => (f (j + x)).toNatClampNeg) (k - j)) else 0 := by
  obtain ⟨hjk, hkn, hall, hend⟩ := hr
  intro m
  induction m with
  | zero =>
    intro i sf y0 y hi hij h1 h2 h3 hy
    have hik : i = k := by omega
    subst hik
    have e1 : (upA I 8 0 sf) 8 0 1 = nn n := h1
    have e2 : (upA I 8 0 sf) 8 0 2 = nn i := h2
    have e3 : (upA I 8 0 sf) 8 0 3 = nn j := h3
    have hsf : sf = wu sf 2 (nn i) := by funext x; unfold wu; by_cases z : x = 2; rw [if_pos z, z, h2]; rw [if_neg z]
    have fin : (if (8 : Int32) < nn i - nn j then some (Sum.inl none, MX (upA I 8 0 sf) (up3 (up3 J 8 0 4 y0) 8 0 4 0) T) else some (Sum.inl none, MX (upA I 8 0 sf) (up3 (up3 J 8 0 4 y0) 8 0 4 y) T) : Option Res9) = some (.inl none, MX (upA I 8 0 sf) (up3 J 8 0 4 (if i - j ≤ 8 then ll (vlB 256 (fun x => (f (j + x)).toNatClampNeg) (i - j)) else 0)) T) := by
      rw [nn_sub hij, up3_up3, up3_up3]
      by_cases z : i - j ≤ 8
      · rw [if_neg (by rw [show (8 : Int32) = nn 8 from rfl, nn_lt (by omega) (by omega)]; omega), if_pos z, hy z]
      · rw [if_pos (show (8 : Int32) < nn (i - j) from (nn_lt (a := 8) (by omega) (by omega)).mpr (by omega)), if_neg z]
    refine ⟨sf, _, ?_, hsf, rfl⟩
    rw [b28_2, e1, e2, e3]
    rcases Nat.eq_or_lt_of_le hkn with z | z
    · rw [if_pos ((nn_le (by omega) (by omega)).mpr (by omega))]
      exact fin
    · have hne : ¬ isLt (f i) := by
        rcases hend with y | y
        · omega
        · exact y
      have e37 : (upA I 8 0 sf) 37 0 i = f i := congrFun hf i
      rw [if_neg (by rw [nn_le (by omega) (by omega)]; omega), if_pos (nn_inR (by omega) (by omega)), nn_idx (by omega), e37, ltC]
      simp only [ret9]
      rw [b28_25, bi0 hne, if_pos rfl, e2, e3]
      exact fin
  | succ m ih =>
    intro i sf y0 y hi hij h1 h2 h3 hy
    have e1 : (upA I 8 0 sf) 8 0 1 = nn n := h1
    have e2 : (upA I 8 0 sf) 8 0 2 = nn i := h2
    have e37 : (upA I 8 0 sf) 37 0 i = f i := congrFun hf i
    have hl := hall i hij (by omega)
    obtain ⟨b, b1, b2, b3, b4⟩ := lt_nn hl
    have r5 : inR (nn i) 500 = true := nn_inR (by omega) (by omega)
    obtain ⟨sf2, y2, e, q1, q2⟩ := ih (i + 1) (wu sf 2 (nn (i + 1))) y0 (lsh9 y 8 ||| Int32.toInt64 (f i)) (by omega) (by omega) h1 rfl h3 (fun z => by
      rw [hy (by omega), b1, sh8 (by omega), show i + 1 - j = (i - j) + 1 by omega]
      show _ = ll (vlB 256 (fun x => (f (j + x)).toNatClampNeg) (i - j) * 256 + (f (j + (i - j))).toNatClampNeg)
      rw [show j + (i - j) = i by omega, b4])
    refine ⟨sf2, y2, ?_, ?_, q2⟩
    · rw [b28_2, e1, e2, if_neg (by rw [nn_le (by omega) (by omega)]; omega), if_pos r5, nn_idx (by omega), e37, ltC]
      simp only [ret9]
      rw [b28_25, bi1 hl, if_neg (by decide), e2, if_pos r5, nn_idx (by omega), e37, upA_up3, nn_add1]
      exact e
    · rw [q1]
      funext x
      unfold wu
      by_cases z : x = 2
      · rw [if_pos z, if_pos z]
      · rw [if_neg z, if_neg z, if_neg z]
end ADV
