/-! Counting bits of small numbers: the class, the reference -/
def n1b (s : Nat) : Nat := s - (s >>> 1 &&& 1431655765)
def n2b (t : Nat) : Nat := (t &&& 858993459) + (t >>> 2 &&& 858993459)
def n3b (t : Nat) : Nat := (t + t >>> 4) &&& 252645135
def n4b (t : Nat) : Nat := t + t >>> 8
def n5b (t : Nat) : Nat := t + t >>> 16
def bcN (s : Nat) : Nat := n5b (n4b (n3b (n2b (n1b s)))) &&& 63
def clN (s : Nat) : Nat := s &&& (s - 1)
def pcq (s : Nat) : Nat := s % 2 + (s / 2) % 2 + (s / 4) % 2 + (s / 8) % 2 + (s / 16) % 2 + (s / 32) % 2 + (s / 64) % 2 + (s / 128) % 2 + (s / 256) % 2 + (s / 512) % 2 + (s / 1024) % 2 + (s / 2048) % 2
def allB (f : Nat → Bool) : Nat → Bool
  | 0 => true
  | n + 1 => allB f n && f n
theorem allB_at {f : Nat → Bool} : ∀ n, allB f n = true → ∀ i, i < n → f i = true
  | 0, _, i, h => absurd h (by omega)
  | n + 1, h, i, hi => by
    have h := Bool.and_eq_true_iff.mp h
    rcases Nat.eq_or_lt_of_le (Nat.lt_succ_iff.mp hi) with z | z
    · rw [z]; exact h.2
    · exact allB_at n h.1 i z
def bcT (s : Nat) : Bool := Nat.beq (bcN s) (pcq s) && (Nat.beq s 0 || (Nat.beq (pcq (clN s) + 1) (pcq s) && Nat.blt (clN s) s))
theorem bcT0 : allB (fun i => bcT (0 + i)) 512 = true := by decide +kernel
theorem bcT1 : allB (fun i => bcT (512 + i)) 512 = true := by decide +kernel
theorem bcT2 : allB (fun i => bcT (1024 + i)) 512 = true := by decide +kernel
theorem bcT3 : allB (fun i => bcT (1536 + i)) 512 = true := by decide +kernel
theorem bcT4 : allB (fun i => bcT (2048 + i)) 512 = true := by decide +kernel
theorem bcT5 : allB (fun i => bcT (2560 + i)) 512 = true := by decide +kernel
theorem bcT6 : allB (fun i => bcT (3072 + i)) 512 = true := by decide +kernel
theorem bcT7 : allB (fun i => bcT (3584 + i)) 512 = true := by decide +kernel
theorem bcT_at {s : Nat} (hs : s < 4096) : bcT s = true := by
  have h : s / 512 < 8 := by omega
  have e : s = 512 * (s / 512) + s % 512 := by omega
  have hm : s % 512 < 512 := by omega
  generalize s / 512 = q at h e
  generalize s % 512 = r at hm e
  subst e
  have : q = 0 ∨ q = 1 ∨ q = 2 ∨ q = 3 ∨ q = 4 ∨ q = 5 ∨ q = 6 ∨ q = 7 := by omega
  rcases this with rfl | rfl | rfl | rfl | rfl | rfl | rfl | rfl
  · exact allB_at 512 bcT0 r hm
  · exact allB_at 512 bcT1 r hm
  · exact allB_at 512 bcT2 r hm
  · exact allB_at 512 bcT3 r hm
  · exact allB_at 512 bcT4 r hm
  · exact allB_at 512 bcT5 r hm
  · exact allB_at 512 bcT6 r hm
  · exact allB_at 512 bcT7 r hm
theorem bcT_iff {s : Nat} (hs : s < 4096) : bcN s = pcq s ∧ (¬ s = 0 → pcq (clN s) + 1 = pcq s ∧ clN s < s) := by
  have h := Bool.and_eq_true_iff.mp (bcT_at hs)
  refine ⟨Nat.eq_of_beq_eq_true h.1, fun h0 => ?_⟩
  rcases Bool.or_eq_true_iff.mp h.2 with z | z
  · exact absurd (Nat.eq_of_beq_eq_true z) h0
  · have z := Bool.and_eq_true_iff.mp z
    exact ⟨Nat.eq_of_beq_eq_true z.1, Nat.le_of_ble_eq_true z.2⟩
theorem ge_land (a b : Nat) : a &&& b ≤ a := Nat.and_le_left
theorem shr_le (a b : Nat) : a >>> b ≤ a := by rw [Nat.shiftRight_eq_div_pow]; exact Nat.div_le_self _ _
theorem e1_nn {a : Nat} (ha : a < 4096) : nn a - (ius9 (nn a) 1 &&& 1431655765) = nn (n1b a) ∧ n1b a < 4096 := by
  have h1 := shr_le a 1
  have h2 := ge_land (a >>> 1) 1431655765
  unfold n1b
  refine ⟨?_, by omega⟩
  rw [show (1 : Int32) = nn 1 from rfl, show (1431655765 : Int32) = nn 1431655765 from rfl, nn_ius (by omega) (by omega), nn_land, nn_sub (by omega)]
theorem e2_nn {a : Nat} (ha : a < 4096) : (nn a &&& 858993459) + (ius9 (nn a) 2 &&& 858993459) = nn (n2b a) ∧ n2b a < 8192 := by
  have h1 := shr_le a 2
  have h2 := ge_land (a >>> 2) 858993459
  have h3 := ge_land a 858993459
  unfold n2b
  refine ⟨?_, by omega⟩
  rw [show (2 : Int32) = nn 2 from rfl, show (858993459 : Int32) = nn 858993459 from rfl, nn_ius (by omega) (by omega), nn_land, nn_land, nn_add]
theorem e3_nn {a : Nat} (ha : a < 8192) : (nn a + ius9 (nn a) 4) &&& 252645135 = nn (n3b a) ∧ n3b a < 16384 := by
  have h1 := shr_le a 4
  have h2 := ge_land (a + a >>> 4) 252645135
  unfold n3b
  refine ⟨?_, by omega⟩
  rw [show (4 : Int32) = nn 4 from rfl, show (252645135 : Int32) = nn 252645135 from rfl, nn_ius (by omega) (by omega), nn_add, nn_land]
theorem e4_nn {a : Nat} (ha : a < 16384) : nn a + ius9 (nn a) 8 = nn (n4b a) ∧ n4b a < 32768 := by
  have h1 := shr_le a 8
  unfold n4b
  refine ⟨?_, by omega⟩
  rw [show (8 : Int32) = nn 8 from rfl, nn_ius (by omega) (by omega), nn_add]
theorem e5_nn {a : Nat} (ha : a < 32768) : nn a + ius9 (nn a) 16 = nn (n5b a) := by
  unfold n5b
  rw [show (16 : Int32) = nn 16 from rfl, nn_ius (by omega) (by omega), nn_add]
theorem bitIC (d : Nat) {s : Nat} (hs : s < 4096) (I : PI) (J : PJ) (T : TL) : cal d 157 [vi (nn s)] (MX I J T) = some (.inl (some (vi (nn (pcq s)))), MX I J T) := by
  rw [c157]
  obtain ⟨a1, b1⟩ := e1_nn hs
  obtain ⟨a2, b2⟩ := e2_nn b1
  obtain ⟨a3, b3⟩ := e3_nn b2
  obtain ⟨a4, b4⟩ := e4_nn b3
  have a5 := e5_nn b4
  rw [a1, a2, a3, a4, a5, show (63 : Int32) = nn 63 from rfl, nn_land]
  rw [show n5b (n4b (n3b (n2b (n1b s)))) &&& 63 = bcN s from rfl, (bcT_iff hs).1]
theorem bitsM (d : Nat) {s : Nat} (hs : s < 4096) (I : PI) (J : PJ) (T : TL) : cal d 272 [vi (nn s)] (MX I J T) = some (.inl (some (vi (nn (pcq s)))), MX I J T) := by
  have lp : ∀ m t k, t ≤ m → t < 4096 → den d 272 4 [some (vi (nn s)), some (vi (nn k)), some (vi (nn t))] [] (MX I J T) = some (.inl (some (vi (nn (k + pcq t)))), MX I J T) := by
    intro m
    induction m with
    | zero =>
      intro t k ht _
      have : t = 0 := by omega
      subst this
      rw [b272_4, if_pos (show nn 0 = 0 from rfl)]
      rfl
    | succ m ih =>
      intro t k ht h4
      by_cases z : t = 0
      · subst z
        rw [b272_4, if_pos (show nn 0 = 0 from rfl)]
        rfl
      · obtain ⟨-, q⟩ := bcT_iff h4
        obtain ⟨q1, q2⟩ := q z
        rw [b272_4, if_neg (by rw [eq0n (by omega)]; exact z), nn_add1, show (1 : Int32) = nn 1 from rfl, nn_sub (by omega), nn_land]
        have := ih (clN t) (k + 1) (by omega) (by omega)
        rw [show k + 1 + pcq (clN t) = k + pcq t by omega] at this
        exact this
  rw [c272]
  have := lp s s 0 (Nat.le_refl _) hs
  rw [Nat.zero_add] at this
  exact this
