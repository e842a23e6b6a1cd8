/-! The law's step, out of what holds of each of its calls (printed by program: wip/gen/gen36.py) -/
def Ok2 (Inv : Mem → Prop) (d cc ss Mc Mm : Nat) (as : List AV) (m : Mem) : Prop := ∃ (a : Int32) (m1 m2 : Mem), cal d Mc (vr 11 0 :: as) m = some (.inl (some (vi a)), m1) ∧ (∀ i, mI m1 99 0 i = mI m 99 0 i) ∧ mK m1 98 = mK m 98 ∧ cal d Mm (vr 14 0 :: as) m1 = some (.inl (some (vi a)), m2) ∧ Inv m2 ∧ mC m2 ≤ mC m + cc ∧ mS m2 ≤ mS m + ss
def Ok24 (Inv : Mem → Prop) (d cc ss : Nat) (x y : Int32) (m : Mem) : Prop := ∃ (a b : Int32) (m1 m2 m3 : Mem), cal d 176 [vr 11 0, vi x, vi y, vr 40 0] m = some (.inl (some (vi a)), m1) ∧ (∀ i, mI m1 99 0 i = mI m 99 0 i) ∧ mK m1 98 = mK m 98 ∧ cal d 269 [vr 14 0, vi x, vi y] m1 = some (.inl (some (vi b)), m2) ∧ cal d 184 [vr 14 0] m2 = some (.inl (some (vi a)), m3) ∧ (a = 0 → lg_cmp (mJ m3 40 0 0) b.toInt64 = 0) ∧ Inv m3 ∧ mC m3 ≤ mC m + cc ∧ mS m3 ≤ mS m + ss
def Gz36 (Inv : Mem → Prop) (d cc ss : Nat) (i : Int32) (m : Mem) (r : Option Res9) : Prop := ∃ (m1 : Mem) (y5 y6 : Option AV), r = den d 0 1172 (lawL i y5 y6) [] m1 ∧ Inv m1 ∧ mC m1 ≤ mC m + cc ∧ mS m1 ≤ mS m + ss
section STEP36
variable (Inv : Mem → Prop) (d cc ss : Nat) (i : Int32) (x5 x6 : Option AV) (I : Nat → Nat → Nat → Int32) (J : Nat → Nat → Nat → Int64) (R : Nat → Nat → Nat → Option (Option (Nat × Nat))) (K : Nat → Nat) (C S : Nat)
theorem op0_go (h : Ok2 Inv d cc ss 17 185 [vi (scG I i 1), vi (scG I i 2), vi (scG I i 3), vi (scG I i 4), vi (scG I i 5)] (I, J, R, K, C, S)) (h1 : inR (i + 1) (K 98) = true) (h2 : inR (i + 2) (K 98) = true) (h3 : inR (i + 3) (K 98) = true) (h4 : inR (i + 4) (K 98) = true) (h5 : inR (i + 5) (K 98) = true) : Gz36 Inv (d + 1) cc ss i (I, J, R, K, C, S) (den (d + 1) 0 188 (lawL i x5 x6) [] (I, J, R, K, C, S)) := by
  obtain ⟨a, ⟨I1, J1, R1, K1, C1, S1⟩, m2, e1, g1, g2, e2, r⟩ := h
  have g3 : K1 98 = K 98 := g2
  have s1 : scG I1 i 1 = scG I i 1 := g1 _
  have s2 : scG I1 i 2 = scG I i 2 := g1 _
  have s3 : scG I1 i 3 = scG I i 3 := g1 _
  have s4 : scG I1 i 4 = scG I i 4 := g1 _
  have s5 : scG I1 i 5 = scG I i 5 := g1 _
  refine ⟨m2, x5, x6, ?_, r⟩
  rw [op0_a d i x5 x6 I J R K C S h1 h2 h3 h4 h5, e1]
  refine (op0_b d i x5 x6 I1 J1 R1 K1 C1 S1 a (by rw [g3]; exact h1) (by rw [g3]; exact h2) (by rw [g3]; exact h3) (by rw [g3]; exact h4) (by rw [g3]; exact h5)).trans ?_
  rw [s1, s2, s3, s4, s5, e2]
  exact op0_c _ _ _ _ _ _
theorem op1_go (h : Ok2 Inv d cc ss 19 186 [vi (scG I i 1)] (I, J, R, K, C, S)) (h1 : inR (i + 1) (K 98) = true) : Gz36 Inv (d + 1) cc ss i (I, J, R, K, C, S) (den (d + 1) 0 261 (lawL i x5 x6) [] (I, J, R, K, C, S)) := by
  obtain ⟨a, ⟨I1, J1, R1, K1, C1, S1⟩, m2, e1, g1, g2, e2, r⟩ := h
  have g3 : K1 98 = K 98 := g2
  have s1 : scG I1 i 1 = scG I i 1 := g1 _
  refine ⟨m2, x5, x6, ?_, r⟩
  rw [op1_a d i x5 x6 I J R K C S h1, e1]
  refine (op1_b d i x5 x6 I1 J1 R1 K1 C1 S1 a (by rw [g3]; exact h1)).trans ?_
  rw [s1, e2]
  exact op1_c _ _ _ _ _ _
theorem op2_go (h : Ok2 Inv d cc ss 52 216 [] (I, J, R, K, C, S)) : Gz36 Inv (d + 1) cc ss i (I, J, R, K, C, S) (den (d + 1) 0 286 (lawL i x5 x6) [] (I, J, R, K, C, S)) := by
  obtain ⟨a, ⟨I1, J1, R1, K1, C1, S1⟩, m2, e1, g1, g2, e2, r⟩ := h
  have g3 : K1 98 = K 98 := g2
  refine ⟨m2, x5, x6, ?_, r⟩
  rw [op2_a d i x5 x6 I J R K C S, e1]
  refine (op2_b d i x5 x6 I1 J1 R1 K1 C1 S1 a).trans ?_
  rw [e2]
  exact op2_c _ _ _ _ _ _
theorem op3_go (h : Ok2 Inv d cc ss 53 217 [] (I, J, R, K, C, S)) : Gz36 Inv (d + 1) cc ss i (I, J, R, K, C, S) (den (d + 1) 0 299 (lawL i x5 x6) [] (I, J, R, K, C, S)) := by
  obtain ⟨a, ⟨I1, J1, R1, K1, C1, S1⟩, m2, e1, g1, g2, e2, r⟩ := h
  have g3 : K1 98 = K 98 := g2
  refine ⟨m2, x5, x6, ?_, r⟩
  rw [op3_a d i x5 x6 I J R K C S, e1]
  refine (op3_b d i x5 x6 I1 J1 R1 K1 C1 S1 a).trans ?_
  rw [e2]
  exact op3_c _ _ _ _ _ _
theorem op4_go (h : Ok2 Inv d cc ss 54 218 [vi (scG I i 1), vi (scG I i 2)] (I, J, R, K, C, S)) (h1 : inR (i + 1) (K 98) = true) (h2 : inR (i + 2) (K 98) = true) : Gz36 Inv (d + 1) cc ss i (I, J, R, K, C, S) (den (d + 1) 0 312 (lawL i x5 x6) [] (I, J, R, K, C, S)) := by
  obtain ⟨a, ⟨I1, J1, R1, K1, C1, S1⟩, m2, e1, g1, g2, e2, r⟩ := h
  have g3 : K1 98 = K 98 := g2
  have s1 : scG I1 i 1 = scG I i 1 := g1 _
  have s2 : scG I1 i 2 = scG I i 2 := g1 _
  refine ⟨m2, x5, x6, ?_, r⟩
  rw [op4_a d i x5 x6 I J R K C S h1 h2, e1]
  refine (op4_b d i x5 x6 I1 J1 R1 K1 C1 S1 a (by rw [g3]; exact h1) (by rw [g3]; exact h2)).trans ?_
  rw [s1, s2, e2]
  exact op4_c _ _ _ _ _ _
theorem op5_go (h : Ok2 Inv d cc ss 67 220 [vi (scG I i 1), vi (scG I i 2), vi (scG I i 3), vi (bl9 (scG I i 4))] (I, J, R, K, C, S)) (h1 : inR (i + 1) (K 98) = true) (h2 : inR (i + 2) (K 98) = true) (h3 : inR (i + 3) (K 98) = true) (h4 : inR (i + 4) (K 98) = true) : Gz36 Inv (d + 1) cc ss i (I, J, R, K, C, S) (den (d + 1) 0 349 (lawL i x5 x6) [] (I, J, R, K, C, S)) := by
  obtain ⟨a, ⟨I1, J1, R1, K1, C1, S1⟩, m2, e1, g1, g2, e2, r⟩ := h
  have g3 : K1 98 = K 98 := g2
  have s1 : scG I1 i 1 = scG I i 1 := g1 _
  have s2 : scG I1 i 2 = scG I i 2 := g1 _
  have s3 : scG I1 i 3 = scG I i 3 := g1 _
  have s4 : scG I1 i 4 = scG I i 4 := g1 _
  refine ⟨m2, x5, x6, ?_, r⟩
  rw [op5_a d i x5 x6 I J R K C S h1 h2 h3 h4, e1]
  refine (op5_b d i x5 x6 I1 J1 R1 K1 C1 S1 a (by rw [g3]; exact h1) (by rw [g3]; exact h2) (by rw [g3]; exact h3) (by rw [g3]; exact h4)).trans ?_
  rw [s1, s2, s3, s4, e2]
  exact op5_c _ _ _ _ _ _
theorem op6_go (h : Ok2 Inv d cc ss 72 224 [vi (scG I i 1), vi (scG I i 2)] (I, J, R, K, C, S)) (h1 : inR (i + 1) (K 98) = true) (h2 : inR (i + 2) (K 98) = true) : Gz36 Inv (d + 1) cc ss i (I, J, R, K, C, S) (den (d + 1) 0 426 (lawL i x5 x6) [] (I, J, R, K, C, S)) := by
  obtain ⟨a, ⟨I1, J1, R1, K1, C1, S1⟩, m2, e1, g1, g2, e2, r⟩ := h
  have g3 : K1 98 = K 98 := g2
  have s1 : scG I1 i 1 = scG I i 1 := g1 _
  have s2 : scG I1 i 2 = scG I i 2 := g1 _
  refine ⟨m2, x5, x6, ?_, r⟩
  rw [op6_a d i x5 x6 I J R K C S h1 h2, e1]
  refine (op6_b d i x5 x6 I1 J1 R1 K1 C1 S1 a (by rw [g3]; exact h1) (by rw [g3]; exact h2)).trans ?_
  rw [s1, s2, e2]
  exact op6_c _ _ _ _ _ _
theorem op7_go (h : Ok2 Inv d cc ss 76 226 [vi (scG I i 1), vi (scG I i 2)] (I, J, R, K, C, S)) (h1 : inR (i + 1) (K 98) = true) (h2 : inR (i + 2) (K 98) = true) : Gz36 Inv (d + 1) cc ss i (I, J, R, K, C, S) (den (d + 1) 0 463 (lawL i x5 x6) [] (I, J, R, K, C, S)) := by
  obtain ⟨a, ⟨I1, J1, R1, K1, C1, S1⟩, m2, e1, g1, g2, e2, r⟩ := h
  have g3 : K1 98 = K 98 := g2
  have s1 : scG I1 i 1 = scG I i 1 := g1 _
  have s2 : scG I1 i 2 = scG I i 2 := g1 _
  refine ⟨m2, x5, x6, ?_, r⟩
  rw [op7_a d i x5 x6 I J R K C S h1 h2, e1]
  refine (op7_b d i x5 x6 I1 J1 R1 K1 C1 S1 a (by rw [g3]; exact h1) (by rw [g3]; exact h2)).trans ?_
  rw [s1, s2, e2]
  exact op7_c _ _ _ _ _ _
theorem op8_go (h : Ok2 Inv d cc ss 77 227 [vi (scG I i 1), vi (scG I i 2)] (I, J, R, K, C, S)) (h1 : inR (i + 1) (K 98) = true) (h2 : inR (i + 2) (K 98) = true) : Gz36 Inv (d + 1) cc ss i (I, J, R, K, C, S) (den (d + 1) 0 500 (lawL i x5 x6) [] (I, J, R, K, C, S)) := by
  obtain ⟨a, ⟨I1, J1, R1, K1, C1, S1⟩, m2, e1, g1, g2, e2, r⟩ := h
  have g3 : K1 98 = K 98 := g2
  have s1 : scG I1 i 1 = scG I i 1 := g1 _
  have s2 : scG I1 i 2 = scG I i 2 := g1 _
  refine ⟨m2, x5, x6, ?_, r⟩
  rw [op8_a d i x5 x6 I J R K C S h1 h2, e1]
  refine (op8_b d i x5 x6 I1 J1 R1 K1 C1 S1 a (by rw [g3]; exact h1) (by rw [g3]; exact h2)).trans ?_
  rw [s1, s2, e2]
  exact op8_c _ _ _ _ _ _
theorem op9_go (h : Ok2 Inv d cc ss 78 228 [vi (scG I i 1), vi (scG I i 2)] (I, J, R, K, C, S)) (h1 : inR (i + 1) (K 98) = true) (h2 : inR (i + 2) (K 98) = true) : Gz36 Inv (d + 1) cc ss i (I, J, R, K, C, S) (den (d + 1) 0 537 (lawL i x5 x6) [] (I, J, R, K, C, S)) := by
  obtain ⟨a, ⟨I1, J1, R1, K1, C1, S1⟩, m2, e1, g1, g2, e2, r⟩ := h
  have g3 : K1 98 = K 98 := g2
  have s1 : scG I1 i 1 = scG I i 1 := g1 _
  have s2 : scG I1 i 2 = scG I i 2 := g1 _
  refine ⟨m2, x5, x6, ?_, r⟩
  rw [op9_a d i x5 x6 I J R K C S h1 h2, e1]
  refine (op9_b d i x5 x6 I1 J1 R1 K1 C1 S1 a (by rw [g3]; exact h1) (by rw [g3]; exact h2)).trans ?_
  rw [s1, s2, e2]
  exact op9_c _ _ _ _ _ _
theorem op10_go (h : Ok2 Inv d cc ss 79 229 [vi (scG I i 1), vi (scG I i 2)] (I, J, R, K, C, S)) (h1 : inR (i + 1) (K 98) = true) (h2 : inR (i + 2) (K 98) = true) : Gz36 Inv (d + 1) cc ss i (I, J, R, K, C, S) (den (d + 1) 0 574 (lawL i x5 x6) [] (I, J, R, K, C, S)) := by
  obtain ⟨a, ⟨I1, J1, R1, K1, C1, S1⟩, m2, e1, g1, g2, e2, r⟩ := h
  have g3 : K1 98 = K 98 := g2
  have s1 : scG I1 i 1 = scG I i 1 := g1 _
  have s2 : scG I1 i 2 = scG I i 2 := g1 _
  refine ⟨m2, x5, x6, ?_, r⟩
  rw [op10_a d i x5 x6 I J R K C S h1 h2, e1]
  refine (op10_b d i x5 x6 I1 J1 R1 K1 C1 S1 a (by rw [g3]; exact h1) (by rw [g3]; exact h2)).trans ?_
  rw [s1, s2, e2]
  exact op10_c _ _ _ _ _ _
theorem op11_go (h : Ok2 Inv d cc ss 81 235 [vi (scG I i 1), vi (scG I i 2)] (I, J, R, K, C, S)) (h1 : inR (i + 1) (K 98) = true) (h2 : inR (i + 2) (K 98) = true) : Gz36 Inv (d + 1) cc ss i (I, J, R, K, C, S) (den (d + 1) 0 611 (lawL i x5 x6) [] (I, J, R, K, C, S)) := by
  obtain ⟨a, ⟨I1, J1, R1, K1, C1, S1⟩, m2, e1, g1, g2, e2, r⟩ := h
  have g3 : K1 98 = K 98 := g2
  have s1 : scG I1 i 1 = scG I i 1 := g1 _
  have s2 : scG I1 i 2 = scG I i 2 := g1 _
  refine ⟨m2, x5, x6, ?_, r⟩
  rw [op11_a d i x5 x6 I J R K C S h1 h2, e1]
  refine (op11_b d i x5 x6 I1 J1 R1 K1 C1 S1 a (by rw [g3]; exact h1) (by rw [g3]; exact h2)).trans ?_
  rw [s1, s2, e2]
  exact op11_c _ _ _ _ _ _
theorem op12_go (h : Ok2 Inv d cc ss 83 236 [vi (scG I i 1)] (I, J, R, K, C, S)) (h1 : inR (i + 1) (K 98) = true) : Gz36 Inv (d + 1) cc ss i (I, J, R, K, C, S) (den (d + 1) 0 648 (lawL i x5 x6) [] (I, J, R, K, C, S)) := by
  obtain ⟨a, ⟨I1, J1, R1, K1, C1, S1⟩, m2, e1, g1, g2, e2, r⟩ := h
  have g3 : K1 98 = K 98 := g2
  have s1 : scG I1 i 1 = scG I i 1 := g1 _
  refine ⟨m2, x5, x6, ?_, r⟩
  rw [op12_a d i x5 x6 I J R K C S h1, e1]
  refine (op12_b d i x5 x6 I1 J1 R1 K1 C1 S1 a (by rw [g3]; exact h1)).trans ?_
  rw [s1, e2]
  exact op12_c _ _ _ _ _ _
theorem op13_go (h : Ok2 Inv d cc ss 84 237 [vi (scG I i 1)] (I, J, R, K, C, S)) (h1 : inR (i + 1) (K 98) = true) : Gz36 Inv (d + 1) cc ss i (I, J, R, K, C, S) (den (d + 1) 0 673 (lawL i x5 x6) [] (I, J, R, K, C, S)) := by
  obtain ⟨a, ⟨I1, J1, R1, K1, C1, S1⟩, m2, e1, g1, g2, e2, r⟩ := h
  have g3 : K1 98 = K 98 := g2
  have s1 : scG I1 i 1 = scG I i 1 := g1 _
  refine ⟨m2, x5, x6, ?_, r⟩
  rw [op13_a d i x5 x6 I J R K C S h1, e1]
  refine (op13_b d i x5 x6 I1 J1 R1 K1 C1 S1 a (by rw [g3]; exact h1)).trans ?_
  rw [s1, e2]
  exact op13_c _ _ _ _ _ _
theorem op14_go (h : Ok2 Inv d cc ss 87 240 [vi (scG I i 1)] (I, J, R, K, C, S)) (h1 : inR (i + 1) (K 98) = true) : Gz36 Inv (d + 1) cc ss i (I, J, R, K, C, S) (den (d + 1) 0 698 (lawL i x5 x6) [] (I, J, R, K, C, S)) := by
  obtain ⟨a, ⟨I1, J1, R1, K1, C1, S1⟩, m2, e1, g1, g2, e2, r⟩ := h
  have g3 : K1 98 = K 98 := g2
  have s1 : scG I1 i 1 = scG I i 1 := g1 _
  refine ⟨m2, x5, x6, ?_, r⟩
  rw [op14_a d i x5 x6 I J R K C S h1, e1]
  refine (op14_b d i x5 x6 I1 J1 R1 K1 C1 S1 a (by rw [g3]; exact h1)).trans ?_
  rw [s1, e2]
  exact op14_c _ _ _ _ _ _
theorem op15_go (h : Ok2 Inv d cc ss 104 250 [] (I, J, R, K, C, S)) : Gz36 Inv (d + 1) cc ss i (I, J, R, K, C, S) (den (d + 1) 0 723 (lawL i x5 x6) [] (I, J, R, K, C, S)) := by
  obtain ⟨a, ⟨I1, J1, R1, K1, C1, S1⟩, m2, e1, g1, g2, e2, r⟩ := h
  have g3 : K1 98 = K 98 := g2
  refine ⟨m2, x5, x6, ?_, r⟩
  rw [op15_a d i x5 x6 I J R K C S, e1]
  refine (op15_b d i x5 x6 I1 J1 R1 K1 C1 S1 a).trans ?_
  rw [e2]
  exact op15_c _ _ _ _ _ _
theorem op16_go (h : Ok2 Inv d cc ss 112 254 [] (I, J, R, K, C, S)) : Gz36 Inv (d + 1) cc ss i (I, J, R, K, C, S) (den (d + 1) 0 736 (lawL i x5 x6) [] (I, J, R, K, C, S)) := by
  obtain ⟨a, ⟨I1, J1, R1, K1, C1, S1⟩, m2, e1, g1, g2, e2, r⟩ := h
  have g3 : K1 98 = K 98 := g2
  refine ⟨m2, x5, x6, ?_, r⟩
  rw [op16_a d i x5 x6 I J R K C S, e1]
  refine (op16_b d i x5 x6 I1 J1 R1 K1 C1 S1 a).trans ?_
  rw [e2]
  exact op16_c _ _ _ _ _ _
theorem op17_go (h : Ok2 Inv d cc ss 113 255 [vi (scG I i 1), vi (scG I i 2)] (I, J, R, K, C, S)) (h1 : inR (i + 1) (K 98) = true) (h2 : inR (i + 2) (K 98) = true) : Gz36 Inv (d + 1) cc ss i (I, J, R, K, C, S) (den (d + 1) 0 749 (lawL i x5 x6) [] (I, J, R, K, C, S)) := by
  obtain ⟨a, ⟨I1, J1, R1, K1, C1, S1⟩, m2, e1, g1, g2, e2, r⟩ := h
  have g3 : K1 98 = K 98 := g2
  have s1 : scG I1 i 1 = scG I i 1 := g1 _
  have s2 : scG I1 i 2 = scG I i 2 := g1 _
  refine ⟨m2, x5, x6, ?_, r⟩
  rw [op17_a d i x5 x6 I J R K C S h1 h2, e1]
  refine (op17_b d i x5 x6 I1 J1 R1 K1 C1 S1 a (by rw [g3]; exact h1) (by rw [g3]; exact h2)).trans ?_
  rw [s1, s2, e2]
  exact op17_c _ _ _ _ _ _
theorem op18_go (h : Ok2 Inv d cc ss 114 256 [vi (scG I i 1)] (I, J, R, K, C, S)) (h1 : inR (i + 1) (K 98) = true) : Gz36 Inv (d + 1) cc ss i (I, J, R, K, C, S) (den (d + 1) 0 786 (lawL i x5 x6) [] (I, J, R, K, C, S)) := by
  obtain ⟨a, ⟨I1, J1, R1, K1, C1, S1⟩, m2, e1, g1, g2, e2, r⟩ := h
  have g3 : K1 98 = K 98 := g2
  have s1 : scG I1 i 1 = scG I i 1 := g1 _
  refine ⟨m2, x5, x6, ?_, r⟩
  rw [op18_a d i x5 x6 I J R K C S h1, e1]
  refine (op18_b d i x5 x6 I1 J1 R1 K1 C1 S1 a (by rw [g3]; exact h1)).trans ?_
  rw [s1, e2]
  exact op18_c _ _ _ _ _ _
theorem op19_go (h : Ok2 Inv d cc ss 115 257 [] (I, J, R, K, C, S)) : Gz36 Inv (d + 1) cc ss i (I, J, R, K, C, S) (den (d + 1) 0 811 (lawL i x5 x6) [] (I, J, R, K, C, S)) := by
  obtain ⟨a, ⟨I1, J1, R1, K1, C1, S1⟩, m2, e1, g1, g2, e2, r⟩ := h
  have g3 : K1 98 = K 98 := g2
  refine ⟨m2, x5, x6, ?_, r⟩
  rw [op19_a d i x5 x6 I J R K C S, e1]
  refine (op19_b d i x5 x6 I1 J1 R1 K1 C1 S1 a).trans ?_
  rw [e2]
  exact op19_c _ _ _ _ _ _
theorem op20_go (h : Ok2 Inv d cc ss 120 259 [vi (scG I i 1)] (I, J, R, K, C, S)) (h1 : inR (i + 1) (K 98) = true) : Gz36 Inv (d + 1) cc ss i (I, J, R, K, C, S) (den (d + 1) 0 824 (lawL i x5 x6) [] (I, J, R, K, C, S)) := by
  obtain ⟨a, ⟨I1, J1, R1, K1, C1, S1⟩, m2, e1, g1, g2, e2, r⟩ := h
  have g3 : K1 98 = K 98 := g2
  have s1 : scG I1 i 1 = scG I i 1 := g1 _
  refine ⟨m2, x5, x6, ?_, r⟩
  rw [op20_a d i x5 x6 I J R K C S h1, e1]
  refine (op20_b d i x5 x6 I1 J1 R1 K1 C1 S1 a (by rw [g3]; exact h1)).trans ?_
  rw [s1, e2]
  exact op20_c _ _ _ _ _ _
theorem op21_go (h : Ok2 Inv d cc ss 132 263 [] (I, J, R, K, C, S)) : Gz36 Inv (d + 1) cc ss i (I, J, R, K, C, S) (den (d + 1) 0 849 (lawL i x5 x6) [] (I, J, R, K, C, S)) := by
  obtain ⟨a, ⟨I1, J1, R1, K1, C1, S1⟩, m2, e1, g1, g2, e2, r⟩ := h
  have g3 : K1 98 = K 98 := g2
  refine ⟨m2, x5, x6, ?_, r⟩
  rw [op21_a d i x5 x6 I J R K C S, e1]
  refine (op21_b d i x5 x6 I1 J1 R1 K1 C1 S1 a).trans ?_
  rw [e2]
  exact op21_c _ _ _ _ _ _
theorem op22_go (h : Ok2 Inv d cc ss 133 264 [vi (bl9 (scG I i 1))] (I, J, R, K, C, S)) (h1 : inR (i + 1) (K 98) = true) : Gz36 Inv (d + 1) cc ss i (I, J, R, K, C, S) (den (d + 1) 0 862 (lawL i x5 x6) [] (I, J, R, K, C, S)) := by
  obtain ⟨a, ⟨I1, J1, R1, K1, C1, S1⟩, m2, e1, g1, g2, e2, r⟩ := h
  have g3 : K1 98 = K 98 := g2
  have s1 : scG I1 i 1 = scG I i 1 := g1 _
  refine ⟨m2, x5, x6, ?_, r⟩
  rw [op22_a d i x5 x6 I J R K C S h1, e1]
  refine (op22_b d i x5 x6 I1 J1 R1 K1 C1 S1 a (by rw [g3]; exact h1)).trans ?_
  rw [s1, e2]
  exact op22_c _ _ _ _ _ _
theorem op23_go (h : Ok2 Inv d cc ss 146 265 [vi (scG I i 1)] (I, J, R, K, C, S)) (h1 : inR (i + 1) (K 98) = true) : Gz36 Inv (d + 1) cc ss i (I, J, R, K, C, S) (den (d + 1) 0 903 (lawL i x5 x6) [] (I, J, R, K, C, S)) := by
  obtain ⟨a, ⟨I1, J1, R1, K1, C1, S1⟩, m2, e1, g1, g2, e2, r⟩ := h
  have g3 : K1 98 = K 98 := g2
  have s1 : scG I1 i 1 = scG I i 1 := g1 _
  refine ⟨m2, x5, x6, ?_, r⟩
  rw [op23_a d i x5 x6 I J R K C S h1, e1]
  refine (op23_b d i x5 x6 I1 J1 R1 K1 C1 S1 a (by rw [g3]; exact h1)).trans ?_
  rw [s1, e2]
  exact op23_c _ _ _ _ _ _
theorem op25_go (h : Ok2 Inv d cc ss 151 270 [vi (scG I i 1)] (I, J, R, K, C, S)) (h1 : inR (i + 1) (K 98) = true) : Gz36 Inv (d + 1) cc ss i (I, J, R, K, C, S) (den (d + 1) 0 996 (lawL i x5 x6) [] (I, J, R, K, C, S)) := by
  obtain ⟨a, ⟨I1, J1, R1, K1, C1, S1⟩, m2, e1, g1, g2, e2, r⟩ := h
  have g3 : K1 98 = K 98 := g2
  have s1 : scG I1 i 1 = scG I i 1 := g1 _
  refine ⟨m2, x5, x6, ?_, r⟩
  rw [op25_a d i x5 x6 I J R K C S h1, e1]
  refine (op25_b d i x5 x6 I1 J1 R1 K1 C1 S1 a (by rw [g3]; exact h1)).trans ?_
  rw [s1, e2]
  exact op25_c _ _ _ _ _ _
theorem op26_go (h : Ok2 Inv d cc ss 153 271 [vi (scG I i 1), vi (scG I i 2), vi (scG I i 3)] (I, J, R, K, C, S)) (h1 : inR (i + 1) (K 98) = true) (h2 : inR (i + 2) (K 98) = true) (h3 : inR (i + 3) (K 98) = true) : Gz36 Inv (d + 1) cc ss i (I, J, R, K, C, S) (den (d + 1) 0 1021 (lawL i x5 x6) [] (I, J, R, K, C, S)) := by
  obtain ⟨a, ⟨I1, J1, R1, K1, C1, S1⟩, m2, e1, g1, g2, e2, r⟩ := h
  have g3 : K1 98 = K 98 := g2
  have s1 : scG I1 i 1 = scG I i 1 := g1 _
  have s2 : scG I1 i 2 = scG I i 2 := g1 _
  have s3 : scG I1 i 3 = scG I i 3 := g1 _
  refine ⟨m2, x5, x6, ?_, r⟩
  rw [op26_a d i x5 x6 I J R K C S h1 h2 h3, e1]
  refine (op26_b d i x5 x6 I1 J1 R1 K1 C1 S1 a (by rw [g3]; exact h1) (by rw [g3]; exact h2) (by rw [g3]; exact h3)).trans ?_
  rw [s1, s2, s3, e2]
  exact op26_c _ _ _ _ _ _
theorem op27_go (h : Ok2 Inv d cc ss 158 273 [] (I, J, R, K, C, S)) : Gz36 Inv (d + 1) cc ss i (I, J, R, K, C, S) (den (d + 1) 0 1070 (lawL i x5 x6) [] (I, J, R, K, C, S)) := by
  obtain ⟨a, ⟨I1, J1, R1, K1, C1, S1⟩, m2, e1, g1, g2, e2, r⟩ := h
  have g3 : K1 98 = K 98 := g2
  refine ⟨m2, x5, x6, ?_, r⟩
  rw [op27_a d i x5 x6 I J R K C S, e1]
  refine (op27_b d i x5 x6 I1 J1 R1 K1 C1 S1 a).trans ?_
  rw [e2]
  exact op27_c _ _ _ _ _ _
theorem op28_go (h : Ok2 Inv d cc ss 159 274 [vi (scG I i 1)] (I, J, R, K, C, S)) (h1 : inR (i + 1) (K 98) = true) : Gz36 Inv (d + 1) cc ss i (I, J, R, K, C, S) (den (d + 1) 0 1083 (lawL i x5 x6) [] (I, J, R, K, C, S)) := by
  obtain ⟨a, ⟨I1, J1, R1, K1, C1, S1⟩, m2, e1, g1, g2, e2, r⟩ := h
  have g3 : K1 98 = K 98 := g2
  have s1 : scG I1 i 1 = scG I i 1 := g1 _
  refine ⟨m2, x5, x6, ?_, r⟩
  rw [op28_a d i x5 x6 I J R K C S h1, e1]
  refine (op28_b d i x5 x6 I1 J1 R1 K1 C1 S1 a (by rw [g3]; exact h1)).trans ?_
  rw [s1, e2]
  exact op28_c _ _ _ _ _ _
theorem op29_go (h : Ok2 Inv d cc ss 164 275 [] (I, J, R, K, C, S)) : Gz36 Inv (d + 1) cc ss i (I, J, R, K, C, S) (den (d + 1) 0 1108 (lawL i x5 x6) [] (I, J, R, K, C, S)) := by
  obtain ⟨a, ⟨I1, J1, R1, K1, C1, S1⟩, m2, e1, g1, g2, e2, r⟩ := h
  have g3 : K1 98 = K 98 := g2
  refine ⟨m2, x5, x6, ?_, r⟩
  rw [op29_a d i x5 x6 I J R K C S, e1]
  refine (op29_b d i x5 x6 I1 J1 R1 K1 C1 S1 a).trans ?_
  rw [e2]
  exact op29_c _ _ _ _ _ _
theorem op30_go (h : Ok2 Inv d cc ss 165 276 [] (I, J, R, K, C, S)) : Gz36 Inv (d + 1) cc ss i (I, J, R, K, C, S) (den (d + 1) 0 1121 (lawL i x5 x6) [] (I, J, R, K, C, S)) := by
  obtain ⟨a, ⟨I1, J1, R1, K1, C1, S1⟩, m2, e1, g1, g2, e2, r⟩ := h
  have g3 : K1 98 = K 98 := g2
  refine ⟨m2, x5, x6, ?_, r⟩
  rw [op30_a d i x5 x6 I J R K C S, e1]
  refine (op30_b d i x5 x6 I1 J1 R1 K1 C1 S1 a).trans ?_
  rw [e2]
  exact op30_c _ _ _ _ _ _
theorem op31_go (h : Ok2 Inv d cc ss 173 279 [vi (scG I i 1)] (I, J, R, K, C, S)) (h1 : inR (i + 1) (K 98) = true) : Gz36 Inv (d + 1) cc ss i (I, J, R, K, C, S) (den (d + 1) 0 1134 (lawL i x5 x6) [] (I, J, R, K, C, S)) := by
  obtain ⟨a, ⟨I1, J1, R1, K1, C1, S1⟩, m2, e1, g1, g2, e2, r⟩ := h
  have g3 : K1 98 = K 98 := g2
  have s1 : scG I1 i 1 = scG I i 1 := g1 _
  refine ⟨m2, x5, x6, ?_, r⟩
  rw [op31_a d i x5 x6 I J R K C S h1, e1]
  refine (op31_b d i x5 x6 I1 J1 R1 K1 C1 S1 a (by rw [g3]; exact h1)).trans ?_
  rw [s1, e2]
  exact op31_c _ _ _ _ _ _
theorem op32_go (h : Ok2 Inv d cc ss 175 280 [] (I, J, R, K, C, S)) : Gz36 Inv (d + 1) cc ss i (I, J, R, K, C, S) (den (d + 1) 0 1159 (lawL i x5 x6) [] (I, J, R, K, C, S)) := by
  obtain ⟨a, ⟨I1, J1, R1, K1, C1, S1⟩, m2, e1, g1, g2, e2, r⟩ := h
  have g3 : K1 98 = K 98 := g2
  refine ⟨m2, x5, x6, ?_, r⟩
  rw [op32_a d i x5 x6 I J R K C S, e1]
  refine (op32_b d i x5 x6 I1 J1 R1 K1 C1 S1 a).trans ?_
  rw [e2]
  exact op32_c _ _ _ _ _ _
theorem op24_go (h : Ok24 Inv d cc ss (scG I i 1) (scG I i 2) (I, J, R, K, C, S)) (h1 : inR (i + 1) (K 98) = true) (h2 : inR (i + 2) (K 98) = true) : Gz36 Inv (d + 1) cc ss i (I, J, R, K, C, S) (den (d + 1) 0 928 (lawL i x5 x6) [] (I, J, R, K, C, S)) := by
  obtain ⟨a, b, ⟨I1, J1, R1, K1, C1, S1⟩, ⟨I2, J2, R2, K2, C2, S2⟩, ⟨I3, J3, R3, K3, C3, S3⟩, e1, g1, g2, e2, e3, e4, r⟩ := h
  have g3 : K1 98 = K 98 := g2
  have s1 : scG I1 i 1 = scG I i 1 := g1 _
  have s2 : scG I1 i 2 = scG I i 2 := g1 _
  refine ⟨(I3, J3, R3, K3, C3, S3), some (vi a), some (vi b), ?_, r⟩
  rw [op24_a d i x5 x6 I J R K C S h1 h2, e1]
  refine (op24_b0 (d + 1) i a x5 x6 _).trans ?_
  rw [op24_b d i (some (vi a)) x6 I1 J1 R1 K1 C1 S1 (by rw [g3]; exact h1) (by rw [g3]; exact h2), s1, s2, e2]
  refine (op24_c d i a b x6 I2 J2 R2 K2 C2 S2).trans ?_
  rw [e3]
  refine (op24_d (d + 1) i a b a I3 J3 R3 K3 C3 S3).trans ?_
  rw [if_pos (decide_eq_true rfl), op24_e]
  by_cases ha : a = 0
  · rw [if_neg (by simp [ha]), op24_f, if_pos (decide_eq_true (e4 ha)), op24_g]
  · rw [if_pos (by simp [ha]), op24_g]
end STEP36
def Cl0 (Inv : Mem → Prop) (d cc ss : Nat) : Prop := ∀ (m : Mem) (z1 : Int32) (z2 : Int32) (z3 : Int32) (z4 : Int32) (z5 : Int32), Inv m → Ok2 Inv d cc ss 17 185 [vi z1, vi z2, vi z3, vi z4, vi z5] m
def Cl1 (Inv : Mem → Prop) (d cc ss : Nat) : Prop := ∀ (m : Mem) (z1 : Int32), Inv m → Ok2 Inv d cc ss 19 186 [vi z1] m
def Cl2 (Inv : Mem → Prop) (d cc ss : Nat) : Prop := ∀ (m : Mem), Inv m → Ok2 Inv d cc ss 52 216 [] m
def Cl3 (Inv : Mem → Prop) (d cc ss : Nat) : Prop := ∀ (m : Mem), Inv m → Ok2 Inv d cc ss 53 217 [] m
def Cl4 (Inv : Mem → Prop) (d cc ss : Nat) : Prop := ∀ (m : Mem) (z1 : Int32) (z2 : Int32), Inv m → Ok2 Inv d cc ss 54 218 [vi z1, vi z2] m
def Cl5 (Inv : Mem → Prop) (d cc ss : Nat) : Prop := ∀ (m : Mem) (z1 : Int32) (z2 : Int32) (z3 : Int32) (z4 : Int32), Inv m → Ok2 Inv d cc ss 67 220 [vi z1, vi z2, vi z3, vi (bl9 z4)] m
def Cl6 (Inv : Mem → Prop) (d cc ss : Nat) : Prop := ∀ (m : Mem) (z1 : Int32) (z2 : Int32), Inv m → Ok2 Inv d cc ss 72 224 [vi z1, vi z2] m
def Cl7 (Inv : Mem → Prop) (d cc ss : Nat) : Prop := ∀ (m : Mem) (z1 : Int32) (z2 : Int32), Inv m → Ok2 Inv d cc ss 76 226 [vi z1, vi z2] m
def Cl8 (Inv : Mem → Prop) (d cc ss : Nat) : Prop := ∀ (m : Mem) (z1 : Int32) (z2 : Int32), Inv m → Ok2 Inv d cc ss 77 227 [vi z1, vi z2] m
def Cl9 (Inv : Mem → Prop) (d cc ss : Nat) : Prop := ∀ (m : Mem) (z1 : Int32) (z2 : Int32), Inv m → Ok2 Inv d cc ss 78 228 [vi z1, vi z2] m
def Cl10 (Inv : Mem → Prop) (d cc ss : Nat) : Prop := ∀ (m : Mem) (z1 : Int32) (z2 : Int32), Inv m → Ok2 Inv d cc ss 79 229 [vi z1, vi z2] m
def Cl11 (Inv : Mem → Prop) (d cc ss : Nat) : Prop := ∀ (m : Mem) (z1 : Int32) (z2 : Int32), Inv m → Ok2 Inv d cc ss 81 235 [vi z1, vi z2] m
def Cl12 (Inv : Mem → Prop) (d cc ss : Nat) : Prop := ∀ (m : Mem) (z1 : Int32), Inv m → Ok2 Inv d cc ss 83 236 [vi z1] m
def Cl13 (Inv : Mem → Prop) (d cc ss : Nat) : Prop := ∀ (m : Mem) (z1 : Int32), Inv m → Ok2 Inv d cc ss 84 237 [vi z1] m
def Cl14 (Inv : Mem → Prop) (d cc ss : Nat) : Prop := ∀ (m : Mem) (z1 : Int32), Inv m → Ok2 Inv d cc ss 87 240 [vi z1] m
def Cl15 (Inv : Mem → Prop) (d cc ss : Nat) : Prop := ∀ (m : Mem), Inv m → Ok2 Inv d cc ss 104 250 [] m
def Cl16 (Inv : Mem → Prop) (d cc ss : Nat) : Prop := ∀ (m : Mem), Inv m → Ok2 Inv d cc ss 112 254 [] m
def Cl17 (Inv : Mem → Prop) (d cc ss : Nat) : Prop := ∀ (m : Mem) (z1 : Int32) (z2 : Int32), Inv m → Ok2 Inv d cc ss 113 255 [vi z1, vi z2] m
def Cl18 (Inv : Mem → Prop) (d cc ss : Nat) : Prop := ∀ (m : Mem) (z1 : Int32), Inv m → Ok2 Inv d cc ss 114 256 [vi z1] m
def Cl19 (Inv : Mem → Prop) (d cc ss : Nat) : Prop := ∀ (m : Mem), Inv m → Ok2 Inv d cc ss 115 257 [] m
def Cl20 (Inv : Mem → Prop) (d cc ss : Nat) : Prop := ∀ (m : Mem) (z1 : Int32), Inv m → Ok2 Inv d cc ss 120 259 [vi z1] m
def Cl21 (Inv : Mem → Prop) (d cc ss : Nat) : Prop := ∀ (m : Mem), Inv m → Ok2 Inv d cc ss 132 263 [] m
def Cl22 (Inv : Mem → Prop) (d cc ss : Nat) : Prop := ∀ (m : Mem) (z1 : Int32), Inv m → Ok2 Inv d cc ss 133 264 [vi (bl9 z1)] m
def Cl23 (Inv : Mem → Prop) (d cc ss : Nat) : Prop := ∀ (m : Mem) (z1 : Int32), Inv m → Ok2 Inv d cc ss 146 265 [vi z1] m
def Cl24 (Inv : Mem → Prop) (d cc ss : Nat) : Prop := ∀ (m : Mem) (z1 : Int32) (z2 : Int32), Inv m → Ok24 Inv d cc ss z1 z2 m
def Cl25 (Inv : Mem → Prop) (d cc ss : Nat) : Prop := ∀ (m : Mem) (z1 : Int32), Inv m → Ok2 Inv d cc ss 151 270 [vi z1] m
def Cl26 (Inv : Mem → Prop) (d cc ss : Nat) : Prop := ∀ (m : Mem) (z1 : Int32) (z2 : Int32) (z3 : Int32), Inv m → Ok2 Inv d cc ss 153 271 [vi z1, vi z2, vi z3] m
def Cl27 (Inv : Mem → Prop) (d cc ss : Nat) : Prop := ∀ (m : Mem), Inv m → Ok2 Inv d cc ss 158 273 [] m
def Cl28 (Inv : Mem → Prop) (d cc ss : Nat) : Prop := ∀ (m : Mem) (z1 : Int32), Inv m → Ok2 Inv d cc ss 159 274 [vi z1] m
def Cl29 (Inv : Mem → Prop) (d cc ss : Nat) : Prop := ∀ (m : Mem), Inv m → Ok2 Inv d cc ss 164 275 [] m
def Cl30 (Inv : Mem → Prop) (d cc ss : Nat) : Prop := ∀ (m : Mem), Inv m → Ok2 Inv d cc ss 165 276 [] m
def Cl31 (Inv : Mem → Prop) (d cc ss : Nat) : Prop := ∀ (m : Mem) (z1 : Int32), Inv m → Ok2 Inv d cc ss 173 279 [vi z1] m
def Cl32 (Inv : Mem → Prop) (d cc ss : Nat) : Prop := ∀ (m : Mem), Inv m → Ok2 Inv d cc ss 175 280 [] m
def ClAll (Inv : Mem → Prop) (d cc ss : Nat) : Prop := Cl0 Inv d cc ss ∧ Cl1 Inv d cc ss ∧ Cl2 Inv d cc ss ∧ Cl3 Inv d cc ss ∧ Cl4 Inv d cc ss ∧ Cl5 Inv d cc ss ∧ Cl6 Inv d cc ss ∧ Cl7 Inv d cc ss ∧ Cl8 Inv d cc ss ∧ Cl9 Inv d cc ss ∧ Cl10 Inv d cc ss ∧ Cl11 Inv d cc ss ∧ Cl12 Inv d cc ss ∧ Cl13 Inv d cc ss ∧ Cl14 Inv d cc ss ∧ Cl15 Inv d cc ss ∧ Cl16 Inv d cc ss ∧ Cl17 Inv d cc ss ∧ Cl18 Inv d cc ss ∧ Cl19 Inv d cc ss ∧ Cl20 Inv d cc ss ∧ Cl21 Inv d cc ss ∧ Cl22 Inv d cc ss ∧ Cl23 Inv d cc ss ∧ Cl24 Inv d cc ss ∧ Cl25 Inv d cc ss ∧ Cl26 Inv d cc ss ∧ Cl27 Inv d cc ss ∧ Cl28 Inv d cc ss ∧ Cl29 Inv d cc ss ∧ Cl30 Inv d cc ss ∧ Cl31 Inv d cc ss ∧ Cl32 Inv d cc ss
theorem sw_case {ρ : Type} {P : ρ → Prop} {x : Int32} {e : Nat} {k : Nat → ρ} : ∀ (L : List (Int32 × Nat)), (∀ q, q ∈ L → P (k q.2)) → P (k e) → P (swK x e k L)
  | [], _, h => h
  | q :: r, h1, h2 => by
    unfold swK
    by_cases h : x = q.1
    · rw [if_pos h]; exact h1 q (List.mem_cons_self ..)
    · rw [if_neg h]; exact sw_case r (fun q hq => h1 q (List.mem_cons_of_mem _ hq)) h2
set_option maxRecDepth 20000 in
theorem inR_at {L i k : Nat} (hL : L ≤ 3072) (h : i + k < L) : inR (Int32.ofNat i + Int32.ofNat k) L = true := by
  have e : Int32.ofNat i + Int32.ofNat k = Int32.ofNat (i + k) := (Int32.ofNat_add i k).symm
  have t : (Int32.ofNat (i + k)).toInt = ((i + k : Nat) : Int) := Int32.toInt_ofNat_of_lt (by omega)
  rw [e]
  unfold inR
  rw [Bool.and_eq_true]
  refine ⟨decide_eq_true ?_, decide_eq_true ?_⟩
  · rw [Int32.le_iff_toInt_le, t]
    show (0 : Int) ≤ _
    omega
  · show (Int32.ofNat (i + k)).toInt.toNat < L
    rw [t, Int.toNat_natCast]
    exact h
set_option maxRecDepth 20000 in
theorem law_step {L : Nat} (hL : L ≤ 3072) (Inv : Mem → Prop) (hK : ∀ m, Inv m → mK m 98 = L) (cc ss d : Nat) (H : ClAll Inv d cc ss) (m : Mem) (i : Nat) (x5 x6 : Option AV) (hm : Inv m) (hi : i + 6 ≤ L) : ∃ (m1 : Mem) (y5 y6 : Option AV), den (d + 1) 0 33 (lawL (Int32.ofNat i) x5 x6) [] m = den (d + 1) 0 1172 (lawL (Int32.ofNat i) y5 y6) [] m1 ∧ Inv m1 ∧ mC m1 ≤ mC m + cc ∧ mS m1 ≤ mS m + ss := by
  obtain ⟨c0, c1, c2, c3, c4, c5, c6, c7, c8, c9, c10, c11, c12, c13, c14, c15, c16, c17, c18, c19, c20, c21, c22, c23, c24, c25, c26, c27, c28, c29, c30, c31, c32⟩ := H
  have hk : mK m 98 = L := hK _ hm
  obtain ⟨I, J, R, K, C, S⟩ := m
  replace hk : K 98 = L := hk
  have h0 : inR (Int32.ofNat i) (K 98) = true := by
    have := inR_at (k := 0) hL (by omega : i + 0 < L)
    rw [hk]; rwa [show Int32.ofNat i + Int32.ofNat 0 = Int32.ofNat i from by rw [← Int32.ofNat_add]; rfl] at this
  have h1 : inR (Int32.ofNat i + 1) (K 98) = true := by rw [hk]; exact inR_at (k := 1) hL (by omega)
  have h2 : inR (Int32.ofNat i + 2) (K 98) = true := by rw [hk]; exact inR_at (k := 2) hL (by omega)
  have h3 : inR (Int32.ofNat i + 3) (K 98) = true := by rw [hk]; exact inR_at (k := 3) hL (by omega)
  have h4 : inR (Int32.ofNat i + 4) (K 98) = true := by rw [hk]; exact inR_at (k := 4) hL (by omega)
  have h5 : inR (Int32.ofNat i + 5) (K 98) = true := by rw [hk]; exact inR_at (k := 5) hL (by omega)
  show Gz36 Inv (d + 1) cc ss (Int32.ofNat i) (I, J, R, K, C, S) _
  rw [law_33 (d + 1) (Int32.ofNat i) x5 x6 I J R K C S h0]
  refine sw_case lawSw ?_ ⟨_, x5, x6, rfl, hm, Nat.le_add_right _ _, Nat.le_add_right _ _⟩
  intro q hq
  simp only [lawSw, List.mem_cons, List.not_mem_nil, or_false] at hq
  rcases hq with rfl | rfl | rfl | rfl | rfl | rfl | rfl | rfl | rfl | rfl | rfl | rfl | rfl | rfl | rfl | rfl | rfl | rfl | rfl | rfl | rfl | rfl | rfl | rfl | rfl | rfl | rfl | rfl | rfl | rfl | rfl | rfl | rfl
  · exact op0_go Inv d cc ss _ x5 x6 I J R K C S (c0 _ _ _ _ _ _ hm) h1 h2 h3 h4 h5
  · exact op1_go Inv d cc ss _ x5 x6 I J R K C S (c1 _ _ hm) h1
  · exact op2_go Inv d cc ss _ x5 x6 I J R K C S (c2 _ hm)
  · exact op3_go Inv d cc ss _ x5 x6 I J R K C S (c3 _ hm)
  · exact op4_go Inv d cc ss _ x5 x6 I J R K C S (c4 _ _ _ hm) h1 h2
  · exact op5_go Inv d cc ss _ x5 x6 I J R K C S (c5 _ _ _ _ _ hm) h1 h2 h3 h4
  · exact op6_go Inv d cc ss _ x5 x6 I J R K C S (c6 _ _ _ hm) h1 h2
  · exact op7_go Inv d cc ss _ x5 x6 I J R K C S (c7 _ _ _ hm) h1 h2
  · exact op8_go Inv d cc ss _ x5 x6 I J R K C S (c8 _ _ _ hm) h1 h2
  · exact op9_go Inv d cc ss _ x5 x6 I J R K C S (c9 _ _ _ hm) h1 h2
  · exact op10_go Inv d cc ss _ x5 x6 I J R K C S (c10 _ _ _ hm) h1 h2
  · exact op11_go Inv d cc ss _ x5 x6 I J R K C S (c11 _ _ _ hm) h1 h2
  · exact op12_go Inv d cc ss _ x5 x6 I J R K C S (c12 _ _ hm) h1
  · exact op13_go Inv d cc ss _ x5 x6 I J R K C S (c13 _ _ hm) h1
  · exact op14_go Inv d cc ss _ x5 x6 I J R K C S (c14 _ _ hm) h1
  · exact op15_go Inv d cc ss _ x5 x6 I J R K C S (c15 _ hm)
  · exact op16_go Inv d cc ss _ x5 x6 I J R K C S (c16 _ hm)
  · exact op17_go Inv d cc ss _ x5 x6 I J R K C S (c17 _ _ _ hm) h1 h2
  · exact op18_go Inv d cc ss _ x5 x6 I J R K C S (c18 _ _ hm) h1
  · exact op19_go Inv d cc ss _ x5 x6 I J R K C S (c19 _ hm)
  · exact op20_go Inv d cc ss _ x5 x6 I J R K C S (c20 _ _ hm) h1
  · exact op21_go Inv d cc ss _ x5 x6 I J R K C S (c21 _ hm)
  · exact op22_go Inv d cc ss _ x5 x6 I J R K C S (c22 _ _ hm) h1
  · exact op23_go Inv d cc ss _ x5 x6 I J R K C S (c23 _ _ hm) h1
  · exact op24_go Inv d cc ss _ x5 x6 I J R K C S (c24 _ _ _ hm) h1 h2
  · exact op25_go Inv d cc ss _ x5 x6 I J R K C S (c25 _ _ hm) h1
  · exact op26_go Inv d cc ss _ x5 x6 I J R K C S (c26 _ _ _ _ hm) h1 h2 h3
  · exact op27_go Inv d cc ss _ x5 x6 I J R K C S (c27 _ hm)
  · exact op28_go Inv d cc ss _ x5 x6 I J R K C S (c28 _ _ hm) h1
  · exact op29_go Inv d cc ss _ x5 x6 I J R K C S (c29 _ hm)
  · exact op30_go Inv d cc ss _ x5 x6 I J R K C S (c30 _ hm)
  · exact op31_go Inv d cc ss _ x5 x6 I J R K C S (c31 _ _ hm) h1
  · exact op32_go Inv d cc ss _ x5 x6 I J R K C S (c32 _ hm)

