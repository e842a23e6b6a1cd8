/-! Growing: one taking, a round, all rounds -/
/-- a cell that owner k may take -/
def NR (ws wt : Nat → Int32) (w h k c : Nat) : Bool := decide (ws c = -1) && decide (wt c = 0) && (nbI w h (FL ws k) c 1 || nbI w h (FL ws k) c 0 || nbI w h (FL ws k) c 2 || nbI w h (FL ws k) c 3)
def pkS (pr : Nat → Int32) (k : Nat) (N : Nat → Bool) (c : Nat) (b : Option Nat) : Option Nat := if N c = true then (match b with
  | none => some c
  | some q => if pr (64 * k + q) < pr (64 * k + c) then some c else some q) else b
def PK (ws wt pr : Nat → Int32) (w h k : Nat) : Option Nat := itn (pkS pr k (NR ws wt w h k)) (w * h) 0 none
theorem pks_in {pr : Nat → Int32} {k : Nat} {N : Nat → Bool} {c n : Nat} {b : Option Nat} (hc : c < n) (h : ∀ q, b = some q → q < n ∧ N q = true) {q : Nat} (e : pkS pr k N c b = some q) : q < n ∧ N q = true := by
  unfold pkS at e
  by_cases hN : N c = true
  · rw [if_pos hN] at e
    cases b with
    | none => cases e; exact ⟨hc, hN⟩
    | some q3 =>
      simp only [] at e
      by_cases hl : pr (64 * k + q3) < pr (64 * k + c)
      · rw [if_pos hl] at e
        cases e; exact ⟨hc, hN⟩
      · rw [if_neg hl] at e
        exact h q e
  · rw [if_neg hN] at e
    exact h q e
