/-! Border length: both reckonings, one term -/
/-- two cells of two owners -/
def bA (ws : Nat → Int32) (c e : Nat) : Nat := if ¬ ws c = -1 ∧ ¬ ws e = -1 ∧ ¬ ws e = ws c then 1 else 0
/-- one that is no one's, and an owner's -/
def bB (ws : Nat → Int32) (c e : Nat) : Nat := if ws c = -1 ∧ ¬ ws e = -1 then 1 else 0
theorem bAB (ws : Nat → Int32) (c e : Nat) : (if ws e = ws c then 0 else 1) = bA ws c e + bB ws c e + bB ws e c := by
  unfold bA bB
  by_cases h : ws e = ws c
  · rw [if_pos h]
    by_cases h1 : ws c = -1
    · have h2 : ws e = -1 := h.trans h1
      simp [h1, h2]
    · have h2 : ¬ ws e = -1 := fun z => h1 (h.symm.trans z)
      simp [h, h1]
  · rw [if_neg h]
    by_cases h1 : ws c = -1
    · have h2 : ¬ ws e = -1 := fun z => h (z.trans h1.symm)
      simp [h1, h2]
    · by_cases h2 : ws e = -1
      · simp [h1, h2]
      · simp [h, h1, h2]
theorem bA_comm (ws : Nat → Int32) (c e : Nat) : bA ws c e = bA ws e c := by
  unfold bA
  by_cases h : ws e = ws c
  · have h2 : ws c = ws e := h.symm
    simp [h]
  · have h2 : ¬ ws c = ws e := fun z => h z.symm
    by_cases h3 : ws c = -1 <;> by_cases h4 : ws e = -1 <;> simp [h, h2, h3, h4]
/-- at a side -/
def atS (w h : Nat) (G : Nat → Nat → Nat) (c s : Nat) : Nat := match nb w h c s with
  | some e => G c e
  | none => 0
theorem at_10 {w h : Nat} (hw1 : 1 ≤ w) (G : Nat → Nat → Nat) : sQ (fun e => atS w h G e 1) (w * h) = sQ (fun c => atS w h (fun a b => G b a) c 0) (w * h) := by
  have e1 : sQ (fun e => atS w h G e 1) (w * h) = sQ (fun e => if 1 ≤ e ∧ (decide (0 < e % w)) = true then (fun c => G (c + 1) c) (e - 1) else 0) (w * h) := by
    apply sQ_congr
    intro e he
    unfold atS nb
    simp only []
    by_cases h0 : 0 < e % w
    · have h1 : 1 ≤ e := by
        rcases Nat.eq_zero_or_pos e with z | z
        · rw [z, Nat.zero_mod] at h0; omega
        · exact z
      rw [if_pos h0, if_pos ⟨h1, decide_eq_true h0⟩, Nat.sub_add_cancel h1]
    · rw [if_neg h0, if_neg (fun z => h0 (of_decide_eq_true z.2))]
  refine e1.trans ((sQ_shift (fun e => decide (0 < e % w)) (fun c => G (c + 1) c) 1 (w * h)).trans ?_)
  apply sQ_congr
  intro c hc
  unfold atS nb
  simp only []
  have m1 : c % w < w := Nat.mod_lt _ (by omega)
  by_cases h0 : c % w + 1 < w
  · have h2 := (mod_succ hw1 c).1 h0
    have hlt : c + 1 < w * h := by
      have e2 := Nat.div_add_mod c w
      have e3 : c / w < h := Nat.div_lt_of_lt_mul hc
      have e4 : w * (c / w + 1) ≤ w * h := Nat.mul_le_mul_left w e3
      rw [Nat.mul_add, Nat.mul_one] at e4
      omega
    rw [if_pos h0, if_pos ⟨hlt, decide_eq_true (by rw [h2]; omega)⟩]
  · have h2 := (mod_succ hw1 c).2 (by omega)
    rw [if_neg h0, if_neg (fun z => by have := of_decide_eq_true z.2; rw [h2] at this; omega)]
theorem at_23 {w h : Nat} (G : Nat → Nat → Nat) : sQ (fun e => atS w h G e 2) (w * h) = sQ (fun c => atS w h (fun a b => G b a) c 3) (w * h) := by
  have e1 : sQ (fun e => atS w h G e 2) (w * h) = sQ (fun e => if w ≤ e ∧ (fun _ => true) e = true then (fun c => G (c + w) c) (e - w) else 0) (w * h) := by
    apply sQ_congr
    intro e he
    unfold atS nb
    simp only []
    by_cases h0 : w ≤ e
    · rw [if_pos h0, if_pos ⟨h0, trivial⟩, Nat.sub_add_cancel h0]
    · rw [if_neg h0, if_neg (fun z => h0 z.1)]
  refine e1.trans ((sQ_shift (fun _ => true) (fun c => G (c + w) c) w (w * h)).trans ?_)
  apply sQ_congr
  intro c hc
  unfold atS nb
  simp only []
  by_cases h0 : c + w < w * h
  · rw [if_pos h0, if_pos ⟨h0, trivial⟩]
  · rw [if_neg h0, if_neg (fun z => h0 z.1)]
