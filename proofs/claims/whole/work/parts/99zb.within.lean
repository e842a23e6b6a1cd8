/-! The call within -/
theorem sI_bd {f : Nat → Int} {m : Int} : ∀ n, (∀ c, c < n → f c ≤ m) → sI f n ≤ m * n
  | 0, _ => by show (0 : Int) ≤ m * 0; rw [Int.mul_zero]; exact Int.le_refl 0
  | n + 1, h => by
    have h1 := sI_bd n (fun c hc => h c (by omega))
    have h2 := h n (by omega)
    show sI f n + f n ≤ m * ((n + 1 : Nat) : Int)
    rw [show ((n + 1 : Nat) : Int) = (n : Int) + 1 from rfl, Int.mul_add, Int.mul_one]
    omega
theorem mul_b {a b : Int} (h1 : 0 ≤ a) (h2 : a ≤ 8) (h3 : b ≤ 8) : a * b ≤ 64 := by
  have q1 := Int.mul_le_mul_of_nonneg_left h3 h1
  omega
theorem nxS_mod {c j : Nat} (h : j < c) : (j + 1) % c = nxS c j := by
  unfold nxS
  by_cases z : j + 1 < c
  · rw [if_pos z, Nat.mod_eq_of_lt z]
  · rw [if_neg z, show j + 1 = c by omega, Nat.mod_self]
theorem nxS_b {c j : Nat} (h : j < c) : nxS c j < c := by
  rw [← nxS_mod h]; exact Nat.mod_lt _ (by omega)
section WTH
variable (d : Nat) {w h : Nat} (I : PI) (J : PJ) (T : TL)
theorem areaC {tx ty sf : Nat → Int32} {m : (Nat → Int) × (Nat → Int) × Nat} (hc1 : 1 ≤ m.2.2) (hc : m.2.2 ≤ 144) (hS : SKo tx ty sf m) : ∀ q i (o3 : Option AV), i + q = m.2.2 → den d 152 4 [some (vr 10 0), some (vi (ii (sI (fun j => m.1 j * (m.2.1 (nxS m.2.2 j) - m.2.1 j)) i))), some (vi (nn i)), o3] [] (MX (WKm I tx ty sf) J T) = some (.inl (some (vi (ii (CA m.1 m.2.1 m.2.2)))), MX (WKm I tx ty sf) J T) := by
  obtain ⟨h3, hj⟩ := hS
  have e3 : (WKm I tx ty sf) 10 0 3 = nn m.2.2 := h3
  intro q
  induction q with
  | zero =>
    intro i o3 hi
    rw [b152_4, e3, if_pos ((nn_le (by omega) (by omega)).mpr (by omega)), show i = m.2.2 by omega]
    rfl
  | succ q ih =>
    intro i o3 hi
    have q1 : inR (nn i) 144 = true := nn_inR (by omega) (by omega)
    have hs : sI (fun j => m.1 j * (m.2.1 (nxS m.2.2 j) - m.2.1 j)) (i + 1) = sI (fun j => m.1 j * (m.2.1 (nxS m.2.2 j) - m.2.1 j)) i + m.1 i * (m.2.1 (nxS m.2.2 i) - m.2.1 i) := rfl
    have hi' := hj i (by omega)
    rw [b152_4, e3, if_neg (by rw [nn_le (by omega) (by omega)]; omega), nn_add1]
    by_cases z : i + 1 < m.2.2
    · have hn := hj (i + 1) (by omega)
      rw [if_neg (by rw [nn_le (by omega) (by omega)]; omega), if_pos q1, if_pos (nn_inR (by omega) (by omega)), if_pos q1, nn_idx (by omega), nn_idx (by omega)]
      show den d 152 4 [_, some (vi (_ + tx i * (ty (i + 1) - ty i))), _, _] _ _ = _
      rw [hi'.1, hi'.2, hn.2, ii_sub, ii_mul, ii_add]
      have := ih (i + 1) (some (vi (nn (i + 1)))) (by omega)
      rw [hs, show nxS m.2.2 i = i + 1 by unfold nxS; rw [if_pos z]] at this
      exact this
    · have hn := hj 0 (by omega)
      rw [if_pos ((nn_le (by omega) (by omega)).mpr (by omega)), if_pos q1, if_pos q1, nn_idx (by omega)]
      show den d 152 4 [_, some (vi (_ + tx i * (ty 0 - ty i))), _, _] _ _ = _
      rw [hi'.1, hi'.2, hn.2, ii_sub, ii_mul, ii_add]
      have := ih (i + 1) (some (vi 0)) (by omega)
      rw [hs, show nxS m.2.2 i = 0 by unfold nxS; rw [if_neg z]] at this
      exact this
/-- a stake's number taken apart -/
theorem stk_dm (hw8 : w ≤ 8) (hh8 : h ≤ 8) {X Y : Int} (hX : 0 ≤ X ∧ X ≤ w) (hY : 0 ≤ Y ∧ Y ≤ h) : irm9 (ii (((w : Int) + 1) * Y + X)) (nn (w + 1)) = ii X ∧ ii (((w : Int) + 1) * Y + X) / nn (w + 1) = ii Y := by
  obtain ⟨a, rfl⟩ : ∃ a : Nat, X = a := ⟨X.toNat, by omega⟩
  obtain ⟨b, rfl⟩ : ∃ b : Nat, Y = b := ⟨Y.toNat, by omega⟩
  have hb : (w + 1) * b ≤ 9 * 8 := Nat.mul_le_mul (by omega) (by omega)
  have e : ((w : Int) + 1) * (b : Int) + (a : Int) = (((w + 1) * b + a : Nat) : Int) := by
    rw [Int.natCast_add, Int.natCast_mul]; rfl
  obtain ⟨d1, d2⟩ := dmw (w := w + 1) (q := b) (show a < w + 1 by omega)
  rw [e, ii_nat, nn_rem (by omega) (by omega), nn_div (by omega) (by omega), d1, d2]
  exact ⟨rfl, rfl⟩
theorem twM (hg : GW I w h) {st : Nat → Int32} {m : (Nat → Int) × (Nat → Int) × Nat} (hc1 : 1 ≤ m.2.2) (hc : m.2.2 ≤ 144) (hS : SMo w st m) (hp : ∀ j, 0 ≤ m.1 j ∧ m.1 j ≤ w ∧ 0 ≤ m.2.1 j ∧ m.2.1 j ≤ h) (x1 : Int32) : ∀ q i (o4 o5 : Option AV), i + q = m.2.2 → ∃ p4 p5 : Option AV, den (d + 1) 270 42 [some (vr 14 0), some (vi x1), some (vi (ii (sI (fun j => m.1 j * m.2.1 (nxS m.2.2 j) - m.1 (nxS m.2.2 j) * m.2.1 j) i))), some (vi (nn i)), o4, o5] [] (MX (WMm I st (nn m.2.2)) J T) = ret9 (den (d + 1) 270) 270 123 126 [some (vr 14 0), some (vi x1), some (vi (ii (CT m.1 m.2.1 m.2.2))), some (vi (nn m.2.2)), p4, p5] [vr 14 0] (cal d 232 [vi (ii (CT m.1 m.2.1 m.2.2))] (MX (WMm I st (nn m.2.2)) J T)) := by
  obtain ⟨hw, hh, hw1, hw8, hh1, hh8⟩ := id hg
  have e50 : (WMm I st (nn m.2.2)) 14 0 50 = nn m.2.2 := rfl
  have e22 : (WMm I st (nn m.2.2)) 14 0 22 + 1 = nn (w + 1) := by show I 14 0 22 + 1 = _; rw [hw, nn_add1]
  have w0 : ¬ nn (w + 1) = 0 := by rw [eq0n (by omega)]; omega
  intro q
  induction q with
  | zero =>
    intro i o4 o5 hi
    refine ⟨o4, o5, ?_⟩
    rw [b270_42, e50, if_pos ((nn_le (by omega) (by omega)).mpr (by omega)), show i = m.2.2 by omega]
    rfl
  | succ q ih =>
    intro i o4 o5 hi
    have hx := nxS_b (show i < m.2.2 by omega)
    obtain ⟨p4, p5, e⟩ := ih (i + 1) (some (vi (st i))) (some (vi (st (nxS m.2.2 i)))) (by omega)
    refine ⟨p4, p5, ?_⟩
    have hs : sI (fun j => m.1 j * m.2.1 (nxS m.2.2 j) - m.1 (nxS m.2.2 j) * m.2.1 j) (i + 1) = sI (fun j => m.1 j * m.2.1 (nxS m.2.2 j) - m.1 (nxS m.2.2 j) * m.2.1 j) i + (m.1 i * m.2.1 (nxS m.2.2 i) - m.1 (nxS m.2.2 i) * m.2.1 i) := rfl
    have a1 := hp i
    have a2 := hp (nxS m.2.2 i)
    obtain ⟨d1, d2⟩ := stk_dm (w := w) (h := h) hw8 hh8 (X := m.1 i) (Y := m.2.1 i) ⟨a1.1, a1.2.1⟩ a1.2.2
    obtain ⟨d3, d4⟩ := stk_dm (w := w) (h := h) hw8 hh8 (X := m.1 (nxS m.2.2 i)) (Y := m.2.1 (nxS m.2.2 i)) ⟨a2.1, a2.2.1⟩ a2.2.2
    rw [b270_42, e50, if_neg (by rw [nn_le (by omega) (by omega)]; omega), if_pos (nn_inR (by omega) (by omega)), if_neg (by rw [eq0n (by omega)]; omega), nn_add1, nn_rem (by omega) (by omega), nxS_mod (by omega), if_pos (nn_inR (by omega) (by omega)), e22, if_neg w0, if_neg w0, if_neg w0, if_neg w0, nn_idx (by omega), nn_idx (by omega)]
    show den (d + 1) 270 42 [_, _, some (vi (_ + ((irm9 (st i) _ * (st (nxS m.2.2 i) / _)) - (irm9 (st (nxS m.2.2 i)) _ * (st i / _))))), _, some (vi (st i)), some (vi (st (nxS m.2.2 i)))] _ _ = _
    rw [hs] at e
    rw [← e, hS i (by omega), hS (nxS m.2.2 i) hx, d1, d2, d3, d4, ii_mul, ii_mul, ii_sub, ii_add]
end WTH
