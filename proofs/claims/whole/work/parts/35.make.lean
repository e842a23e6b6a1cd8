/-! The law's making (printed in part by program: wip/gen/gen42.py) -/
abbrev RO9 : Type := Bool × Nat × Nat × Nat × OR
def apR : List RO9 → (Nat → Nat → Nat → OR) → (Nat → Nat → Nat → OR)
  | [], f => f
  | (true, k, j, i, v) :: r, f => apR r (up3 f k j i v)
  | (false, k, j, _, _) :: r, f => apR r (upA f k j (fun _ => some none))
/-- what the last of them says -/
def lkR : List RO9 → Nat → Nat → Nat → Option OR
  | [], _, _, _ => none
  | (t, k, j, i, v) :: r, a, b, c => match lkR r a b c with
    | some x => some x
    | none => if a = k ∧ b = j then (if t = true then (if c = i then some v else none) else some (some none)) else none
theorem apR_lk : ∀ (l : List RO9) (f : Nat → Nat → Nat → OR) (a b c : Nat), apR l f a b c = (lkR l a b c).getD (f a b c) := by
  intro l
  induction l with
  | nil => intro f a b c; rfl
  | cons q r ih =>
    intro f a b c
    obtain ⟨t, k, j, i, v⟩ := q
    cases t with
    | true =>
      show apR r (up3 f k j i v) a b c = _
      rw [ih, lkR]
      cases h : lkR r a b c with
      | some x => rfl
      | none =>
        simp only [Option.getD_none]
        unfold up3
        by_cases h1 : a = k <;> by_cases h2 : b = j <;> by_cases h3 : c = i <;> simp [h1, h2, h3]
    | false =>
      show apR r (upA f k j (fun _ => some none)) a b c = _
      rw [ih, lkR]
      cases h : lkR r a b c with
      | some x => rfl
      | none =>
        simp only [Option.getD_none]
        unfold upA
        by_cases h1 : a = k <;> by_cases h2 : b = j <;> simp [h1, h2]
theorem lk_none : ∀ (l : List RO9) (a b c : Nat), (∀ q, q ∈ l → ¬ (a = q.2.1 ∧ b = q.2.2.1)) → lkR l a b c = none := by
  intro l
  induction l with
  | nil => intro a b c _; rfl
  | cons q r ih =>
    intro a b c h
    obtain ⟨t, k, j, i, v⟩ := q
    rw [lkR, ih a b c (fun q hq => h q (List.mem_cons_of_mem _ hq))]
    exact if_neg (h (t, k, j, i, v) (List.mem_cons_self ..))
theorem lk_far : ∀ (l : List RO9) (a b c : Nat), 60 ≤ c → (∀ q, q ∈ l → q.2.2.2.1 < 60) → lkR l a b c = none ∨ lkR l a b c = some (some none) := by
  intro l
  induction l with
  | nil => intro a b c _ _; exact .inl rfl
  | cons q r ih =>
    intro a b c hc h
    obtain ⟨t, k, j, i, v⟩ := q
    have hi : i < 60 := h (t, k, j, i, v) (List.mem_cons_self ..)
    rw [lkR]
    rcases ih a b c hc (fun q hq => h q (List.mem_cons_of_mem _ hq)) with e | e
    · rw [e]
      show (if a = k ∧ b = j then (if t = true then (if c = i then some v else none) else some (some none)) else none) = none ∨ _
      by_cases h1 : a = k ∧ b = j
      · rw [if_pos h1]
        cases t with
        | true => rw [if_pos rfl, if_neg (by omega)]; exact .inl rfl
        | false => exact .inr rfl
      · rw [if_neg h1]; exact .inl rfl
    · rw [e]; exact .inr rfl
theorem nth_far {α : Type} : ∀ (l : List α) (i : Nat) (z : α), l.length ≤ i → nth9 l i z = z
  | [], _, _, _ => by unfold nth9; rfl
  | _ :: r, 0, _, h => by simp at h
  | _ :: r, i + 1, z, h => by
    have := nth_far r i z (by simpa using h)
    unfold nth9; exact this
theorem RLt_len (g dr : Nat) (mb mf : OR) (j k : Nat) : (nth9 (RLt g dr mb mf j) k []).length ≤ 60 := by
  by_cases h : 15 ≤ k
  · rw [nth_far (RLt g dr mb mf j) k [] h]; exact Nat.zero_le _
  · have : k = 0 ∨ k = 1 ∨ k = 2 ∨ k = 3 ∨ k = 4 ∨ k = 5 ∨ k = 6 ∨ k = 7 ∨ k = 8 ∨ k = 9 ∨ k = 10 ∨ k = 11 ∨ k = 12 ∨ k = 13 ∨ k = 14 := by omega
    rcases this with rfl | rfl | rfl | rfl | rfl | rfl | rfl | rfl | rfl | rfl | rfl | rfl | rfl | rfl | rfl <;> exact of_decide_eq_true rfl
theorem RL_far (g dr : Nat) (mb mf : OR) (k j i : Nat) (h : 60 ≤ i) : RL g dr mb mf k j i = some none :=
  nth_far _ _ _ (Nat.le_trans (RLt_len g dr mb mf j k) h)
def smR (a b : Nat) (q : RO9) : Bool := Nat.beq q.2.1 a && Nat.beq q.2.2.1 b
theorem lk_filter : ∀ (l : List RO9) (a b c : Nat), lkR (l.filter (smR a b)) a b c = lkR l a b c := by
  intro l
  induction l with
  | nil => intro a b c; rfl
  | cons q r ih =>
    intro a b c
    obtain ⟨t, k, j, i, v⟩ := q
    by_cases h : smR a b (t, k, j, i, v) = true
    · rw [List.filter_cons_of_pos h, lkR, lkR, ih]
    · rw [List.filter_cons_of_neg h, ih, lkR]
      have hn : ¬ (a = k ∧ b = j) := by
        intro ⟨h1, h2⟩
        exact h (by unfold smR; rw [h1, h2]; simp)
      rw [if_neg hn]
      cases lkR r a b c <;> rfl
theorem lk_big : ∀ (l : List RO9) (a b c : Nat), (∀ q, q ∈ l → a = q.2.1 → q.1 = false) → lkR l a b c = none ∨ lkR l a b c = some (some none) := by
  intro l
  induction l with
  | nil => intro a b c _; exact .inl rfl
  | cons q r ih =>
    intro a b c h
    obtain ⟨t, k, j, i, v⟩ := q
    rw [lkR]
    rcases ih a b c (fun q hq => h q (List.mem_cons_of_mem _ hq)) with e | e
    · rw [e]
      show (if a = k ∧ b = j then (if t = true then (if c = i then some v else none) else some (some none)) else none) = none ∨ _
      by_cases h1 : a = k ∧ b = j
      · have ht : t = false := h (t, k, j, i, v) (List.mem_cons_self ..) h1.1
        rw [if_pos h1, ht]; exact .inr rfl
      · rw [if_neg h1]; exact .inl rfl
    · rw [e]; exact .inr rfl
theorem ops_gen (opsR : List RO9) (prsR : List (Nat × Nat)) (ops_ok : ∀ p, p ∈ prsR → ∀ c : Fin 60, lkR (opsR.filter (smR p.1 p.2)) p.1 p.2 c.val = none ∨ lkR (opsR.filter (smR p.1 p.2)) p.1 p.2 c.val = some (RL 1 0 rz rz p.1 p.2 c.val)) (ops_lt : ∀ q, q ∈ opsR → q.2.2.2.1 < 60) (ops_in : ∀ q, q ∈ opsR → (q.2.1, q.2.2.1) ∈ prsR ∨ (15 ≤ q.2.1 ∧ q.1 = false)) (prs_lt : ∀ p, p ∈ prsR → p.1 < 15) : apR opsR (RL 1 0 rz rz) = RL 1 0 rz rz := by
  funext a b c
  rw [apR_lk]
  by_cases h15 : 15 ≤ a
  · have e0 : RL 1 0 rz rz a b c = some none := by
      unfold RL
      rw [nth_far (RLt 1 0 rz rz b) a [] h15]
      exact nth_far _ _ _ (Nat.zero_le _)
    rcases lk_big opsR a b c (fun q hq hh => by
      rcases ops_in q hq with g | g
      · have := prs_lt _ g
        dsimp only at this
        omega
      · exact g.2) with e | e
    · rw [e]; rfl
    · rw [e, e0]; rfl
  · by_cases h : ∃ q, q ∈ opsR ∧ (a = q.2.1 ∧ b = q.2.2.1)
    · obtain ⟨q, hq, rfl, rfl⟩ := h
      by_cases hc : c < 60
      · rcases ops_in q hq with g | g
        · rw [← lk_filter]
          rcases ops_ok _ g ⟨c, hc⟩ with e | e
          · rw [e]; rfl
          · rw [e]; rfl
        · exact absurd g.1 h15
      · rw [RL_far _ _ _ _ _ _ _ (by omega)]
        rcases lk_far opsR q.2.1 q.2.2.1 c (by omega) ops_lt with e | e
        · rw [e]; rfl
        · rw [e]; rfl
    · rw [lk_none opsR a b c (fun q hq hh => h ⟨q, hq, hh⟩)]; rfl
def opsA : List RO9 := [(false, 11, 0, 0, rz), (false, 37, 0, 0, rz), (true, 11, 0, 0, ro 37 0), (false, 7, 0, 0, rz), (false, 42, 0, 0, rz), (true, 7, 0, 1, ro 42 0), (false, 1, 0, 0, rz), (false, 31, 0, 0, rz), (true, 1, 0, 0, ro 31 0), (false, 21, 0, 0, rz), (true, 1, 0, 1, ro 21 0), (false, 25, 0, 0, rz), (true, 1, 0, 2, ro 25 0), (true, 7, 0, 2, ro 1 0), (false, 38, 0, 0, rz), (true, 7, 0, 8, ro 38 0), (false, 21, 1, 0, rz), (true, 7, 0, 9, ro 21 1), (false, 21, 2, 0, rz), (true, 7, 0, 10, ro 21 2), (false, 38, 1, 0, rz), (true, 7, 0, 11, ro 38 1), (false, 8, 0, 0, rz), (true, 8, 0, 0, ro 37 0), (true, 7, 0, 0, ro 8 0), (true, 11, 0, 1, ro 7 0), (false, 5, 0, 0, rz), (false, 28, 0, 0, rz), (true, 5, 0, 0, ro 28 0), (false, 28, 1, 0, rz), (true, 5, 0, 1, ro 28 1), (false, 28, 2, 0, rz), (true, 5, 0, 2, ro 28 2), (false, 21, 3, 0, rz), (true, 5, 0, 3, ro 21 3), (false, 21, 4, 0, rz), (true, 5, 0, 4, ro 21 4), (false, 34, 0, 0, rz), (true, 5, 0, 5, ro 34 0), (false, 1, 1, 0, rz), (false, 31, 1, 0, rz), (true, 1, 1, 0, ro 31 1), (false, 21, 5, 0, rz), (true, 1, 1, 1, ro 21 5), (false, 25, 1, 0, rz), (true, 1, 1, 2, ro 25 1), (true, 5, 0, 6, ro 1 1), (true, 11, 0, 2, ro 5 0), (false, 3, 0, 0, rz), (false, 28, 3, 0, rz), (true, 3, 0, 1, ro 28 3), (false, 42, 1, 0, rz), (true, 3, 0, 2, ro 42 1), (true, 3, 0, 0, ro 5 0), (true, 11, 0, 3, ro 3 0), (false, 0, 0, 0, rz), (true, 0, 0, 0, ro 5 0), (true, 0, 0, 1, ro 3 0), (true, 11, 0, 4, ro 0 0), (false, 6, 0, 0, rz), (false, 21, 6, 0, rz), (true, 6, 0, 3, ro 21 6), (true, 6, 0, 0, ro 5 0), (true, 6, 0, 1, ro 3 0), (true, 6, 0, 2, ro 0 0), (true, 11, 0, 5, ro 6 0), (false, 4, 0, 0, rz), (false, 22, 0, 0, rz), (true, 4, 0, 2, ro 22 0), (false, 22, 1, 0, rz), (true, 4, 0, 3, ro 22 1), (false, 22, 2, 0, rz), (true, 4, 0, 4, ro 22 2), (false, 41, 0, 0, rz), (true, 4, 0, 5, ro 41 0), (false, 22, 3, 0, rz), (true, 4, 0, 6, ro 22 3), (false, 26, 0, 0, rz), (true, 4, 0, 7, ro 26 0), (false, 23, 0, 0, rz), (true, 4, 0, 8, ro 23 0), (true, 4, 0, 0, ro 5 0), (true, 4, 0, 1, ro 3 0), (true, 11, 0, 6, ro 4 0), (false, 10, 0, 0, rz), (false, 30, 0, 0, rz), (true, 10, 0, 1, ro 30 0), (false, 30, 1, 0, rz), (true, 10, 0, 2, ro 30 1), (true, 10, 0, 0, ro 5 0), (true, 11, 0, 7, ro 10 0), (false, 9, 0, 0, rz), (false, 24, 0, 0, rz), (true, 9, 0, 1, ro 24 0), (false, 24, 1, 0, rz), (true, 9, 0, 2, ro 24 1), (true, 9, 0, 0, ro 5 0), (true, 11, 0, 8, ro 9 0), (false, 2, 0, 0, rz), (false, 20, 0, 0, rz), (true, 2, 0, 2, ro 20 0), (false, 29, 0, 0, rz), (true, 2, 0, 3, ro 29 0), (false, 35, 0, 0, rz), (true, 2, 0, 4, ro 35 0), (true, 2, 0, 0, ro 5 0), (true, 2, 0, 1, ro 3 0), (true, 11, 0, 9, ro 2 0)]
def prsA : List (Nat × Nat) := [(0, 0), (1, 0), (1, 1), (2, 0), (3, 0), (4, 0), (5, 0), (6, 0), (7, 0), (8, 0), (9, 0), (10, 0), (11, 0)]
set_option maxRecDepth 100000 in
theorem opsA_RL : apR opsA (RL 1 0 rz rz) = RL 1 0 rz rz := ops_gen opsA prsA (by decide +kernel) (by decide +kernel) (by decide +kernel) (by decide +kernel)
def opsB : List RO9 := [(false, 14, 0, 0, rz), (false, 13, 0, 0, rz), (true, 13, 0, 0, ro 13 0), (true, 13, 0, 1, none), (true, 13, 0, 2, none), (true, 13, 0, 1, rz), (true, 13, 0, 3, rz), (true, 13, 0, 0, rz), (true, 13, 0, 2, rz), (true, 14, 0, 6, ro 13 0), (false, 37, 1, 0, rz), (true, 14, 0, 7, ro 37 1), (false, 21, 7, 0, rz), (true, 14, 0, 16, ro 21 7), (false, 21, 8, 0, rz), (true, 14, 0, 17, ro 21 8), (false, 21, 9, 0, rz), (true, 14, 0, 18, ro 21 9), (false, 38, 2, 0, rz), (true, 14, 0, 19, ro 38 2), (false, 28, 4, 0, rz), (true, 14, 0, 30, ro 28 4), (false, 28, 5, 0, rz), (true, 14, 0, 31, ro 28 5), (false, 28, 6, 0, rz), (true, 14, 0, 32, ro 28 6), (false, 28, 7, 0, rz), (true, 14, 0, 33, ro 28 7), (false, 21, 10, 0, rz), (true, 14, 0, 34, ro 21 10), (false, 21, 11, 0, rz), (true, 14, 0, 35, ro 21 11), (false, 20, 1, 0, rz), (true, 14, 0, 36, ro 20 1), (false, 39, 0, 0, rz), (true, 14, 0, 37, ro 39 0), (false, 27, 0, 0, rz), (true, 14, 0, 38, ro 27 0), (false, 34, 1, 0, rz), (true, 14, 0, 39, ro 34 1), (false, 28, 8, 0, rz), (true, 14, 0, 40, ro 28 8), (false, 39, 1, 0, rz), (true, 14, 0, 41, ro 39 1), (false, 28, 9, 0, rz), (true, 14, 0, 48, ro 28 9), (false, 28, 10, 0, rz), (true, 14, 0, 49, ro 28 10), (false, 32, 0, 0, rz), (true, 14, 0, 51, ro 32 0), (false, 28, 11, 0, rz), (true, 14, 0, 52, ro 28 11), (false, 28, 12, 0, rz), (true, 14, 0, 53, ro 28 12), (false, 36, 0, 0, rz), (true, 14, 0, 54, ro 36 0)]
def prsB : List (Nat × Nat) := [(13, 0), (14, 0)]
set_option maxRecDepth 100000 in
theorem opsB_RL : apR opsB (RL 1 0 rz rz) = RL 1 0 rz rz := ops_gen opsB prsB (by decide +kernel) (by decide +kernel) (by decide +kernel) (by decide +kernel)
