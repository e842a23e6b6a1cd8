/-! Sums over cells: exchange, one term, shift -/
theorem sQ_swap (F : Nat → Nat → Nat) : ∀ o n, sQ (fun k => sQ (fun c => F k c) n) o = sQ (fun c => sQ (fun k => F k c) o) n
  | 0, n => (sQ_zero n).symm
  | o + 1, n => by
    show sQ (fun k => sQ (fun c => F k c) n) o + sQ (fun c => F o c) n = sQ (fun c => sQ (fun k => F k c) o + F o c) n
    rw [sQ_swap F o n, sQ_add]
theorem sQ_one (x : Nat → Nat) (q : Nat) : ∀ o, sQ (fun k => if k = q then x k else 0) o = if q < o then x q else 0
  | 0 => rfl
  | o + 1 => by
    show sQ (fun k => if k = q then x k else 0) o + (if o = q then x o else 0) = _
    rw [sQ_one x q o]
    by_cases h : o = q
    · subst h
      rw [if_neg (by omega), if_pos rfl, if_pos (by omega), Nat.zero_add]
    · rw [if_neg h, Nat.add_zero]
      by_cases h2 : q < o
      · rw [if_pos h2, if_pos (by omega)]
      · rw [if_neg h2, if_neg (by omega)]
/-- a sum over cells with a cell t before them is one over cells with a cell t behind -/
theorem sQ_shift (C : Nat → Bool) (H : Nat → Nat) (t : Nat) : ∀ n, sQ (fun e => if t ≤ e ∧ C e = true then H (e - t) else 0) n = sQ (fun c => if c + t < n ∧ C (c + t) = true then H c else 0) n
  | 0 => rfl
  | n + 1 => by
    show sQ (fun e => if t ≤ e ∧ C e = true then H (e - t) else 0) n + (if t ≤ n ∧ C n = true then H (n - t) else 0) = sQ (fun c => if c + t < n + 1 ∧ C (c + t) = true then H c else 0) (n + 1)
    rw [sQ_shift C H t n]
    have e1 : sQ (fun c => if c + t < n + 1 ∧ C (c + t) = true then H c else 0) (n + 1) = sQ (fun c => (if c + t < n ∧ C (c + t) = true then H c else 0) + (if c = n - t then (if t ≤ n ∧ C n = true then H c else 0) else 0)) (n + 1) := by
      apply sQ_congr
      intro c hc
      by_cases h1 : c + t = n
      · have h2 : c = n - t := by omega
        rw [if_neg (fun z => by omega : ¬ (c + t < n ∧ C (c + t) = true)), Nat.zero_add, if_pos h2, h1]
        by_cases h3 : C n = true
        · rw [if_pos ⟨by omega, h3⟩, if_pos ⟨by omega, h3⟩]
        · rw [if_neg (fun z => h3 z.2), if_neg (fun z => h3 z.2)]
      · have h4 : (if c = n - t then (if t ≤ n ∧ C n = true then H c else 0) else 0) = 0 := by
          by_cases h2 : c = n - t
          · rw [if_pos h2, if_neg (fun z => by omega)]
          · rw [if_neg h2]
        rw [h4, Nat.add_zero]
        by_cases h5 : c + t < n ∧ C (c + t) = true
        · rw [if_pos h5, if_pos ⟨by omega, h5.2⟩]
          rfl
        · rw [if_neg h5, if_neg (fun z => h5 ⟨by omega, z.2⟩)]
    rw [e1, sQ_add, sQ_one (fun c => if t ≤ n ∧ C n = true then H c else 0) (n - t) (n + 1), if_pos (show n - t < n + 1 by omega)]
    have e2 : sQ (fun c => if c + t < n ∧ C (c + t) = true then H c else 0) (n + 1) = sQ (fun c => if c + t < n ∧ C (c + t) = true then H c else 0) n := by
      show _ + (if n + t < n ∧ C (n + t) = true then H n else 0) = _
      rw [if_neg (fun z => by omega), Nat.add_zero]
    rw [e2]
