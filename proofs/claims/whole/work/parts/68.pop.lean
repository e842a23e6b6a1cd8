/-! Counting bits: eight digits -/
/-! Counting bits: eight digits -/
theorem dig1 (n W : Nat) (h : DL 256 8 (n + 1) W) : ∃ a V, a ≤ 8 ∧ W = 256 * V + a ∧ DL 256 8 n V ∧ DS 256 (n + 1) W = a + DS 256 n V :=
  ⟨W % 256, W / 256, h.1, (Nat.div_add_mod W 256).symm, h.2, rfl⟩
theorem dig8 (W : Nat) (h : DL 256 8 (0 + 1 + 1 + 1 + 1 + 1 + 1 + 1 + 1) W) : ∃ a0 a1 a2 a3 a4 a5 a6 a7 : Nat, a0 ≤ 8 ∧ a1 ≤ 8 ∧ a2 ≤ 8 ∧ a3 ≤ 8 ∧ a4 ≤ 8 ∧ a5 ≤ 8 ∧ a6 ≤ 8 ∧ a7 ≤ 8 ∧ W = 256 * (256 * (256 * (256 * (256 * (256 * (256 * a7 + a6) + a5) + a4) + a3) + a2) + a1) + a0 ∧ DS 256 (0 + 1 + 1 + 1 + 1 + 1 + 1 + 1 + 1) W = a0 + (a1 + (a2 + (a3 + (a4 + (a5 + (a6 + (a7 + 0))))))) := by
  obtain ⟨a0, W1, h0, e0, g0, s0⟩ := dig1 _ W h
  obtain ⟨a1, W2, h1, e1, g1, s1⟩ := dig1 _ W1 g0
  obtain ⟨a2, W3, h2, e2, g2, s2⟩ := dig1 _ W2 g1
  obtain ⟨a3, W4, h3, e3, g3, s3⟩ := dig1 _ W3 g2
  obtain ⟨a4, W5, h4, e4, g4, s4⟩ := dig1 _ W4 g3
  obtain ⟨a5, W6, h5, e5, g5, s5⟩ := dig1 _ W5 g4
  obtain ⟨a6, W7, h6, e6, g6, s6⟩ := dig1 _ W6 g5
  obtain ⟨a7, W8, h7, e7, g7, s7⟩ := dig1 _ W7 g6
  have g8 : W8 = 0 := g7
  have s8 : DS 256 0 W8 = 0 := rfl
  refine ⟨a0, a1, a2, a3, a4, a5, a6, a7, h0, h1, h2, h3, h4, h5, h6, h7, ?_, ?_⟩
  · rw [e0, e1, e2, e3, e4, e5, e6, e7, g8, Nat.mul_zero, Nat.zero_add]
  · rw [s0, s1, s2, s3, s4, s5, s6, s7, s8]
