/-! The calls that tell something and change nothing -/
theorem call2 (L d : Nat) : Cl2 (Inv L) d 8 400 := by
  intro m hm
  obtain ⟨I, J, T, rfl, h⟩ := hm
  obtain ⟨hN, hT, hA, hR⟩ := id h
  refine ⟨I 11 0 11, _, MX (up3 I 14 0 0 0) J T, c52 _ _ _ _, fun _ => rfl, rfl, ?_, ⟨_, _, _, rfl, h⟩, Nat.le_add_right _ _, Nat.le_add_right _ _⟩
  rw [c216, hA.1]
theorem call3 (L d : Nat) : Cl3 (Inv L) d 8 400 := by
  intro m hm
  obtain ⟨I, J, T, rfl, h⟩ := hm
  obtain ⟨hN, hT, hA, hR⟩ := id h
  refine ⟨I 14 0 2, MX I J T, MX (up3 I 14 0 0 0) J T, ?_, fun _ => rfl, rfl, c217 _ _ _ _, ⟨_, _, _, rfl, h⟩, Nat.le_add_right _ _, Nat.le_add_right _ _⟩
  rw [c53, hA.2.2.1]
  by_cases h4 : I 11 0 15 = 4
  · rw [if_neg (fun z => z h4), if_pos h4]
  · rw [if_pos h4, if_neg h4]
theorem call16 (L d : Nat) : Cl16 (Inv L) d 8 400 := by
  intro m hm
  obtain ⟨I, J, T, rfl, h⟩ := hm
  obtain ⟨hN, hT, hA, hR⟩ := id h
  refine ⟨I 11 0 13, _, MX (up3 I 14 0 0 0) J T, c112 _ _ _ _, fun _ => rfl, rfl, ?_, ⟨_, _, _, rfl, h⟩, Nat.le_add_right _ _, Nat.le_add_right _ _⟩
  rw [c254, hA.2.2.2.1]
theorem call27 (L d : Nat) : Cl27 (Inv L) d 8 400 := by
  intro m hm
  obtain ⟨I, J, T, rfl, h⟩ := hm
  obtain ⟨hN, hT, hA, hR⟩ := id h
  refine ⟨I 11 0 14, _, MX (up3 I 14 0 0 0) J T, c158 _ _ _ _, fun _ => rfl, rfl, ?_, ⟨_, _, _, rfl, h⟩, Nat.le_add_right _ _, Nat.le_add_right _ _⟩
  rw [c273, hA.2.2.2.2]
theorem call32 (L d : Nat) : Cl32 (Inv L) d 8 400 := by
  intro m hm
  obtain ⟨I, J, T, rfl, h⟩ := hm
  obtain ⟨hN, hT, hA, hR⟩ := id h
  refine ⟨I 11 0 15, _, MX (up3 I 14 0 0 0) J T, c175 _ _ _ _, fun _ => rfl, rfl, ?_, ⟨_, _, _, rfl, h⟩, Nat.le_add_right _ _, Nat.le_add_right _ _⟩
  rw [c280, hA.2.1]
theorem call29 (L d : Nat) : Cl29 (Inv L) d 8 400 := by
  intro m hm
  obtain ⟨I, J, T, rfl, h⟩ := hm
  obtain ⟨hN, hT, hA, w, h0, o, hwo, hB, hW, hM, hC, hD, hO, hK, hP⟩ := h
  obtain ⟨k, hk4, hk1, hk2, hk3, hk5⟩ := hK
  refine ⟨nn k, MX (up3 I 2 0 5 0) J T, MX (up3 (up3 (up3 I 2 0 5 0) 14 0 0 0) 14 0 27 0) J T, (by rw [c164, hk1]), fun _ => rfl, rfl, ?_, ⟨_, _, _, rfl, hN, hT, hA, w, h0, o, hwo, hB, hW, hM, hC, hD, hO, ⟨0, by omega, rfl, rfl, fun _ => rfl, fun i hi => absurd hi (by omega)⟩, hP⟩, Nat.le_add_right _ _, Nat.le_add_right _ _⟩
  rw [c275]
  show some (Sum.inl (some (vi (I 14 0 27))), _) = _
  rw [hk2]
