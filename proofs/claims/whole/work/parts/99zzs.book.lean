/-! The book: where references lie behind a new book, and behind a change of books -/
theorem RL_15 {k : Nat} (h : 15 ≤ k) (g dr : Nat) (mb mf : OR) (j i : Nat) : RL g dr mb mf k j i = some none := by
  unfold RL
  rw [nth_far (RLt g dr mb mf j) k [] h]
  exact nth_far _ _ _ (Nat.zero_le _)
theorem RL_12 (g dr : Nat) (mb mf : OR) (b b2 b3 b4 : Nat) (h2 : b2 = b + 2) (h3 : b3 = b) (h4 : b4 = b + 12) : up3 (upA (up3 (upA (up3 (upA (upA (RL g dr mb mf) 12 b (fun _ => some none)) 42 b2 (fun _ => some none)) 12 b 1 (ro 42 b2)) 33 b3 (fun _ => some none)) 12 b 2 (ro 33 b3)) 21 b4 (fun _ => some none)) 12 b 3 (ro 21 b4) = RL g dr mb mf := by
  subst h2; subst h3; subst h4
  funext a j c
  unfold up3 upA
  dsimp only
  by_cases h1 : a = 12
  · subst h1
    by_cases h2 : j = b3
    · subst h2
      match c with
      | 0 =>
        simp
        rfl
      | 1 =>
        simp
        rfl
      | 2 =>
        simp
        rfl
      | 3 =>
        simp
        rfl
      | c + 4 =>
        have n1 : ¬ c + 4 = 3 := by omega
        have n2 : ¬ c + 4 = 2 := by omega
        have n3 : ¬ c + 4 = 1 := by omega
        simp [n1, n2, n3]
        exact (nth_far _ _ _ (by show 4 ≤ c + 4; omega)).symm
    · simp [h2]
  · by_cases h15 : 15 ≤ a
    · rw [RL_15 h15]
      simp [h1]
    · have n1 : ¬ a = 42 := by omega
      have n2 : ¬ a = 33 := by omega
      have n3 : ¬ a = 21 := by omega
      simp [h1, n1, n2, n3]
theorem RL_f (g dr : Nat) (mb mf x : OR) : up3 (RL g dr mb mf) 14 0 5 x = RL g dr mb x := by
  funext a j c
  unfold up3
  by_cases h1 : a = 14
  · subst h1
    by_cases h2 : j = 0
    · subst h2
      rw [if_pos rfl, if_pos rfl]
      match c with
      | 0 => rfl
      | 1 => rfl
      | 2 => rfl
      | 3 => rfl
      | 4 => rfl
      | 5 => rfl
      | c + 6 =>
        rw [if_neg (by omega)]
        rfl
    · rw [if_pos rfl, if_neg h2]
      unfold RL RLt
      simp only [if_neg h2]
  · rw [if_neg h1]
    unfold RL
    by_cases h15 : 15 ≤ a
    · rw [nth_far (RLt g dr mb mf j) a [] h15, nth_far (RLt g dr mb x j) a [] h15]
    · have : a = 0 ∨ a = 1 ∨ a = 2 ∨ a = 3 ∨ a = 4 ∨ a = 5 ∨ a = 6 ∨ a = 7 ∨ a = 8 ∨ a = 9 ∨ a = 10 ∨ a = 11 ∨ a = 12 ∨ a = 13 := by omega
      rcases this with rfl | rfl | rfl | rfl | rfl | rfl | rfl | rfl | rfl | rfl | rfl | rfl | rfl | rfl <;> rfl
theorem RL_b (g dr : Nat) (mb mf x : OR) : up3 (RL g dr mb mf) 14 0 4 x = RL g dr x mf := by
  funext a j c
  unfold up3
  by_cases h1 : a = 14
  · subst h1
    by_cases h2 : j = 0
    · subst h2
      rw [if_pos rfl, if_pos rfl]
      match c with
      | 0 => rfl
      | 1 => rfl
      | 2 => rfl
      | 3 => rfl
      | 4 => rfl
      | c + 5 =>
        rw [if_neg (by omega)]
        rfl
    · rw [if_pos rfl, if_neg h2]
      unfold RL RLt
      simp only [if_neg h2]
  · rw [if_neg h1]
    unfold RL
    by_cases h15 : 15 ≤ a
    · rw [nth_far (RLt g dr mb mf j) a [] h15, nth_far (RLt g dr x mf j) a [] h15]
    · have : a = 0 ∨ a = 1 ∨ a = 2 ∨ a = 3 ∨ a = 4 ∨ a = 5 ∨ a = 6 ∨ a = 7 ∨ a = 8 ∨ a = 9 ∨ a = 10 ∨ a = 11 ∨ a = 12 ∨ a = 13 := by omega
      rcases this with rfl | rfl | rfl | rfl | rfl | rfl | rfl | rfl | rfl | rfl | rfl | rfl | rfl | rfl <;> rfl
theorem RL_swap (g dr : Nat) (mb mf : OR) : up3 (up3 (RL g dr mb mf) 5 0 6 (ro 1 dr)) 7 0 2 (ro 1 g) = RL dr g mb mf := by
  funext a j c
  unfold up3
  by_cases h7 : a = 7
  · subst h7
    by_cases h2 : j = 0
    · subst h2
      rw [if_pos rfl, if_pos rfl]
      match c with
      | 0 => rfl
      | 1 => rfl
      | 2 => rfl
      | c + 3 =>
        rw [if_neg (by omega), if_neg (by decide)]
        rfl
    · rw [if_pos rfl, if_neg h2, if_neg (by decide)]
      unfold RL RLt
      simp only [if_neg h2]
  · rw [if_neg h7]
    by_cases h5 : a = 5
    · subst h5
      by_cases h2 : j = 0
      · subst h2
        rw [if_pos rfl, if_pos rfl]
        match c with
        | 0 => rfl
        | 1 => rfl
        | 2 => rfl
        | 3 => rfl
        | 4 => rfl
        | 5 => rfl
        | 6 => rfl
        | c + 7 =>
          rw [if_neg (by omega)]
          rfl
      · rw [if_pos rfl, if_neg h2]
        unfold RL RLt
        simp only [if_neg h2]
    · rw [if_neg h5]
      unfold RL
      by_cases h15 : 15 ≤ a
      · rw [nth_far (RLt g dr mb mf j) a [] h15, nth_far (RLt dr g mb mf j) a [] h15]
      · have : a = 0 ∨ a = 1 ∨ a = 2 ∨ a = 3 ∨ a = 4 ∨ a = 6 ∨ a = 8 ∨ a = 9 ∨ a = 10 ∨ a = 11 ∨ a = 12 ∨ a = 13 ∨ a = 14 := by omega
        rcases this with rfl | rfl | rfl | rfl | rfl | rfl | rfl | rfl | rfl | rfl | rfl | rfl | rfl <;> rfl
/-- a new book of the reference -/
def bk188 (b : Nat) (m : Mem) : Mem := setR (newM (setR (newM (setR (newM m 42 6) 12 b 1 (some (some (42, mK m 42)))) 33 288) 12 b 2 (some (some (33, mK (setR (newM m 42 6) 12 b 1 (some (some (42, mK m 42)))) 33)))) 21 6) 12 b 3 (some (some (21, mK (setR (newM (setR (newM m 42 6) 12 b 1 (some (some (42, mK m 42)))) 33 288) 12 b 2 (some (some (33, mK (setR (newM m 42 6) 12 b 1 (some (some (42, mK m 42)))) 33)))) 21)))
set_option maxRecDepth 100000 in
theorem c188 (d b : Nat) (m : Mem) : cal d 188 [vr 12 b] m = some (.inl none, bk188 b m) := (bx_eq [] d 188 20 0 _ _ _).symm.trans rfl
