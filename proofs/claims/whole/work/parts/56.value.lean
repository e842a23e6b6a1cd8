/-! The call value -/
theorem priceC (d : Nat) {k c : Nat} (I : PI) (J : PJ) (T : TL) (hk : k < 6) (hc : c < 64) : cal d 80 [vr 5 0, vi (nn k), vi (nn c)] (MX I J T) = some (.inl (some (vi (I 34 0 (64 * k + c)))), MX I J T) := by
  rw [c80, show nn k * 64 + nn c = nn (64 * k + c) from by rw [show (64 : Int32) = nn 64 from rfl, nn_mul, nn_add, Nat.mul_comm], if_pos (nn_inR (by omega) (by omega)), nn_idx (by omega)]
theorem relGW {I : PI} {w h : Nat} (hW : RelW I w h) (hp : 0 < w * h) : GW I w h := by
  rcases hW.2.2.2.2.2.2 with ⟨rfl, rfl⟩ | ⟨h1, h2, h3, h4⟩
  · exact absurd hp (by decide)
  · exact ⟨hW.2.2.2.1, hW.2.2.2.2.1, h1, h2, h3, h4⟩
/-- what the reference's value needs, of an owner -/
theorem relVal {I : PI} {g : Nat} {mb : OR} {o n : Nat} (hB : RelB I g mb o) (hO : RelO I n o) (hn : n ≤ 64) (hp : 0 < n) {k : Nat} (hk : k < o) : ∃ b p len, mb = ro 12 b ∧ k < 6 ∧ p < 64 ∧ I 21 10 k = nn p ∧ len ≤ 40 ∧ I 21 (b + 12) k = nn len ∧ okP (fun i => I 33 b (48 * k + i)) len 0 0 := by
  rcases hB with ⟨h1, -⟩ | ⟨b, h1, h2, h3, h4, h5, h6⟩
  · omega
  · obtain ⟨len, l1, l2, l3, l4, l5⟩ := h6 k hk
    obtain ⟨r1, r2, r3, r4⟩ := hO.1 k hk
    obtain ⟨p, p1, p2⟩ := r3 hp
    exact ⟨b, p, len, h1, by omega, by omega, p2, l1, l3, l4⟩
theorem call10 (L d : Nat) : Cl10 (Inv L) (d + 4) 8 400 := by
  intro m x y hm
  obtain ⟨I, J, T, rfl, h⟩ := hm
  obtain ⟨hN, hT, hA, w, h0, o, hwo, hB, hW, hM, hC, hD, hO, hK, hP⟩ := id h
  have hn := relW_le hW
  obtain ⟨ho, ho6⟩ := relB_o hB
  have hno : 0 < w * h0 → 0 < o := fun z => hwo (pos_l z)
  have e1 := ownC (d + 2) x I J T hW.2.2.1 (by omega) ho
  have e2 := cellC (d + 3) y I J T hW.2.2.1
  have e3 := ownM (d + 3) x (up3 I 14 0 0 0) J T hW.2.2.2.2.2.1 (by omega) hB hno
  have e4 := cellM (d + 3) y (up3 I 14 0 0 0) J T hW.2.2.2.2.2.1
  by_cases hx : ol (w * h0) o x
  · by_cases hy : cl (w * h0) y
    · obtain ⟨k, hk, rfl⟩ := cl_of (by omega) hx.2
      obtain ⟨c, hc, rfl⟩ := cl_of (by omega) hy
      obtain ⟨b, p, len, q1, q2, q3, q4, q5, q6, q7⟩ := relVal hB hO hn hx.1 hk
      obtain ⟨g, e5⟩ := valM d (up3 I 14 0 0 0) J T (w := w) (h := h0) (k := k) (c := c) (p := p) (b := b) (len := len) (relGW hW hx.1) q2 hc q3 q4 q5 q6 q7
      rw [TBe q1] at e5
      refine ⟨VAL I b w h0 k c, MX I J T, MX (upA (up3 I 14 0 0 0) 27 0 g) J T, ?_, fun _ => rfl, rfl, ?_, ⟨_, _, _, rfl, h⟩, Nat.le_add_right _ _, Nat.le_add_right _ _⟩
      · simp only [c79, e1, bi1 hx, ret9, b79_8, j10, if_false, e2, bi1 hy, b79_19, not_false_eq_true, if_true, priceC (d + 3) I J T q2 (show c < 64 by omega), b79_34, hP b q1 k hk c hc]
      · simp only [c229, e3, bi1 hx, ret9, b229_10, j10, if_false, e4, bi1 hy, b229_18, e5, b229_27]
        rfl
    · refine ⟨-2147483648, MX I J T, MX (up3 I 14 0 0 0) J T, ?_, fun _ => rfl, rfl, ?_, ⟨_, _, _, rfl, h⟩, Nat.le_add_right _ _, Nat.le_add_right _ _⟩
      · simp only [c79, e1, bi1 hx, ret9, b79_8, j10, if_false, e2, bi0 hy, b79_19, not_true_eq_false, j00]
      · simp only [c229, e3, bi1 hx, ret9, b229_10, j10, if_false, e4, bi0 hy, b229_18, if_true, j00]
  · refine ⟨-2147483648, MX I J T, MX (up3 I 14 0 0 0) J T, ?_, fun _ => rfl, rfl, ?_, ⟨_, _, _, rfl, h⟩, Nat.le_add_right _ _, Nat.le_add_right _ _⟩
    · simp only [c79, e1, bi0 hx, ret9, b79_8, if_true, j00]
    · simp only [c229, e3, bi0 hx, ret9, b229_10, if_true, j00]
