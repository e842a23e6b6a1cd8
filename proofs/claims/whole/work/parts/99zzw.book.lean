/-! The book: what holds behind it; the call book -/
theorem rel_keep {L : Nat} {I I' : PI} {J J' : PJ} {T T' : TL} (h : Rel L I J T) (hN' : RelN L T') (e1 : T'.1 = T.1) (e2 : T'.2.2.1 = T.2.2.1) (hT' : RelT I') (hA' : RelA I') (fb : ∀ b0, T.2.2.1 = ro 12 b0 → I' 12 b0 = I 12 b0 ∧ I' 33 b0 = I 33 b0 ∧ I' 21 (b0 + 12) = I 21 (b0 + 12)) (f1 : I' 1 T.1 = I 1 T.1) (f31 : I' 31 T.1 = I 31 T.1) (f21 : I' 21 (5 * T.1) = I 21 (5 * T.1)) (f5 : I' 5 0 = I 5 0) (j5 : J' 5 0 = J 5 0) (f14 : ∀ x, 22 ≤ x → I' 14 0 x = I 14 0 x) (f28 : I' 28 = I 28) (f39 : I' 39 0 = I 39 0) (j42 : J' 42 1 = J 42 1) (g3 : I' 21 3 = I 21 3) (g4 : I' 21 4 = I 21 4) (g10 : I' 21 10 = I 21 10) (g11 : I' 21 11 = I 21 11) (f2 : I' 2 0 = I 2 0) (f20 : I' 20 = I 20) (f34 : I' 34 0 = I 34 0) : Rel L I' J' T' := by
  obtain ⟨hN, hT, hA, w, h0, o, hwo, hB, hW, hM, hC, hD, hO, hK, hP⟩ := h
  refine ⟨hN', hT', hA', w, h0, o, hwo, ?_, ?_, ?_, ?_, ?_, ?_, ?_, ?_⟩
  · rw [e1, e2]
    rcases hB with ⟨z1, z2, z3⟩ | ⟨b0, z1, z2, z3, z4, z5, z6⟩
    · exact .inl ⟨z1, z2, by rw [f1]; exact z3⟩
    · obtain ⟨q1, q2, q3⟩ := fb b0 z1
      refine .inr ⟨b0, z1, z2, z3, by rw [f1]; exact z4, by rw [q1]; exact z5, ?_⟩
      rw [f21, q3, q2, f31]
      exact z6
  · unfold RelW at hW ⊢
    rw [f5, f14 22 (by omega), f14 23 (by omega), f14 24 (by omega)]
    exact hW
  · unfold RelM at hM ⊢
    rw [j5]
    exact hM
  · unfold RelC at hC ⊢
    rw [j5, f39, f28]
    exact hC
  · unfold RelD at hD ⊢
    rw [j42, f28]
    exact hD
  · unfold RelO at hO ⊢
    rw [g3, g4, g10, g11, f5, f14 25 (by omega), f14 26 (by omega)]
    exact hO
  · unfold RelK at hK ⊢
    rw [f2, f20, f14 27 (by omega)]
    exact hK
  · intro b0 hb0 k hk c hc
    rw [e2] at hb0
    obtain ⟨q1, q2, q3⟩ := fb b0 hb0
    have := hP b0 hb0 k hk c hc
    unfold VAL at this ⊢
    rw [f34, f28, g10, f39, q2, q3]
    exact this
theorem rN_new {L : Nat} {T : TL} (h : RelN L T) (mb' : OR) (hm : ∀ b, mb' = ro 12 b → b < T.2.2.2.2.1 12 + 1) {g dr : Nat} (hg : (g = 0 ∧ dr = 1) ∨ (g = 1 ∧ dr = 0)) (mf' : OR) (C S : Nat) : RelN L (g, dr, mb', mf', nwK T.2.2.2.2.1, C, S) := by
  obtain ⟨n1, n2, n3, n4, n5, n6⟩ := h
  refine ⟨hg, n2, ?_, ?_, ?_, hm⟩
  · show T.2.2.2.2.1 42 + 1 = T.2.2.2.2.1 12 + 1 + 2
    omega
  · show T.2.2.2.2.1 33 + 1 = T.2.2.2.2.1 12 + 1
    omega
  · show T.2.2.2.2.1 21 + 1 = T.2.2.2.2.1 12 + 1 + 12
    omega
section REL1
variable {L : Nat} {I : PI} {J : PJ} {T : TL}
/-- behind a fault -/
theorem rel_bf (h : Rel L I J T) {b : Nat} (hb : T.2.2.2.2.1 12 = b) {Xf Yf : X2} {s8 s14 : Nat → Int32} {ncf nmf : Nat → Int64} {y y' : Int64} {n : Nat} (h3 : Xf 0 3 = Yf 0 5) (h4 : Xf 0 4 = Yf 0 6) (hs : ∀ x, ¬ (10 ≤ x ∧ x ≤ 21) → s14 x = (i5 (ICf (CM (up3 I 11 0 10 0) T.2.1 Xf s8)) n) 14 0 x) : Rel L (IMf (MM (nwI b (i5 (ICf (CM (up3 I 11 0 10 0) T.2.1 Xf s8)) n)) b Yf s14)) (JM (nwJ b (JC J ncf y)) b nmf y') (TG T b) := by
  have hN := h.1
  obtain ⟨t, ht, t10, t8, tf⟩ := h.2.1
  obtain ⟨A1, A2, A3, A4, A5⟩ := h.2.2.1
  have hgd := hN.1
  have hlt := hN.2.2.2.2.2
  generalize hI7 : IMf (MM (nwI b (i5 (ICf (CM (up3 I 11 0 10 0) T.2.1 Xf s8)) n)) b Yf s14) = I7
  have r21 : ∀ j, ¬ j = b + 12 → ¬ j = 7 → ¬ j = 8 → ¬ j = 9 → ¬ j = 5 * T.2.1 → ¬ j = 1 → ¬ j = 2 → I7 21 j = I 21 j := by
    intro j a1 a2 a3 a4 a5 a6 a7
    rw [← hI7]
    show (MM (nwI b (i5 (ICf (CM (up3 I 11 0 10 0) T.2.1 Xf s8)) n)) b Yf s14) 21 j = _
    rw [MM_21x _ _ _ _ ⟨a1, a2, a3, a4⟩, nwI_21x _ _ a1]
    show (CM (up3 I 11 0 10 0) T.2.1 Xf s8) 21 j = _
    rw [CM_21x _ _ _ _ ⟨a5, a6, a7⟩]
    rfl
  have s14' : ∀ x, 22 ≤ x → I7 14 0 x = I 14 0 x := by
    intro x hx
    rw [← hI7]
    show (up3 (up3 (up3 (MM _ b Yf s14) 14 0 3 _) 14 0 1 4) 14 0 2 _) 14 0 x = _
    rw [up3_i _ _ _ _ _ (by omega), up3_i _ _ _ _ _ (by omega), up3_i _ _ _ _ _ (by omega)]
    show s14 x = _
    rw [hs x (by omega)]
    show (up3 (up3 (up3 (up3 (up3 (ICf (CM (up3 I 11 0 10 0) T.2.1 Xf s8)) 14 0 0 0) 14 0 9 (nn n)) 14 0 8 0) 14 0 10 0) 14 0 3 0) 14 0 x = _
    rw [up3_i _ _ _ _ _ (by omega), up3_i _ _ _ _ _ (by omega), up3_i _ _ _ _ _ (by omega), up3_i _ _ _ _ _ (by omega), up3_i _ _ _ _ _ (by omega)]
    rfl
  have hgn : ¬ T.1 = T.2.1 := by omega
  have o10 : I7 11 0 10 = 0 := by rw [← hI7]; rfl
  have o8 : I7 14 0 8 = 0 := by
    rw [← hI7]
    show s14 8 = 0
    rw [hs 8 (by omega)]
    rfl
  have o37 : I7 37 = I 37 := by rw [← hI7]; rfl
  have o3 : I7 14 0 3 = Yf 0 5 := by rw [← hI7]; rfl
  have o1 : I7 14 0 1 = 4 := by rw [← hI7]; rfl
  have o2 : I7 14 0 2 = Yf 0 6 := by rw [← hI7]; rfl
  have c11 : I7 11 0 11 = Xf 0 3 := by rw [← hI7]; rfl
  have c12 : I7 11 0 12 = Xf 0 4 := by rw [← hI7]; rfl
  have c15 : I7 11 0 15 = 4 := by rw [← hI7]; rfl
  have c13 : I7 11 0 13 = I 11 0 13 := by rw [← hI7]; rfl
  have c14 : I7 11 0 14 = I 11 0 14 := by rw [← hI7]; rfl
  have q1 : I7 1 T.1 = I 1 T.1 := by
    rw [← hI7]
    show (CM (up3 I 11 0 10 0) T.2.1 Xf s8) 1 T.1 = _
    rw [CM_1x _ _ _ _ hgn]
    rfl
  have q31 : I7 31 T.1 = I 31 T.1 := by
    rw [← hI7]
    show (CM (up3 I 11 0 10 0) T.2.1 Xf s8) 31 T.1 = _
    rw [CM_31x _ _ _ _ hgn]
    rfl
  have q12 : ∀ b0, b0 < b → I7 12 b0 = I 12 b0 ∧ I7 33 b0 = I 33 b0 := by
    intro b0 hb0
    rw [← hI7]
    constructor
    · show (MM (nwI b (i5 (ICf (CM (up3 I 11 0 10 0) T.2.1 Xf s8)) n)) b Yf s14) 12 b0 = _
      rw [MM_12x _ _ _ _ (by omega), nwI_12x _ _ (by omega)]
      rfl
    · show (MM (nwI b (i5 (ICf (CM (up3 I 11 0 10 0) T.2.1 Xf s8)) n)) b Yf s14) 33 b0 = _
      rw [MM_33x _ _ _ _ (by omega), nwI_33x _ _ (by omega)]
      rfl
  refine rel_keep h (rN_new hN T.2.2.1 (fun b0 hb0 => by have := hlt b0 hb0; omega) hgd (ro 12 b) _ _) rfl rfl ⟨0, by omega, o10, o8, fun i => by rw [o37]; exact tf i⟩ ⟨by rw [o3, c11, h3], by rw [o1, c15], by rw [o2, c15, if_pos rfl, c12, h4], by rw [s14' 28 (by omega), c13]; exact A4, by rw [s14' 29 (by omega), c14]; exact A5⟩ (fun b0 hb0 => ?_) q1 q31 (r21 _ (by omega) (by omega) (by omega) (by omega) (by omega) (by omega) (by omega)) (by rw [← hI7]; rfl) rfl s14' (by rw [← hI7]; rfl) (by rw [← hI7]; rfl) ?_ (r21 3 (by omega) (by omega) (by omega) (by omega) (by omega) (by omega) (by omega)) (r21 4 (by omega) (by omega) (by omega) (by omega) (by omega) (by omega) (by omega)) (r21 10 (by omega) (by omega) (by omega) (by omega) (by omega) (by omega) (by omega)) (r21 11 (by omega) (by omega) (by omega) (by omega) (by omega) (by omega) (by omega)) (by rw [← hI7]; rfl) (by rw [← hI7]; rfl) (by rw [← hI7]; rfl)
  · have hl := hlt b0 hb0
    have qq := q12 b0 (by omega)
    exact ⟨qq.1, qq.2, r21 _ (by omega) (by omega) (by omega) (by omega) (by omega) (by omega) (by omega)⟩
  · funext c
    show (if 1 = b + 2 then nmf c else (if 1 = b + 2 then (0 : Int64) else J 42 1 c)) = _
    rw [if_neg (by omega), if_neg (by omega)]
/-- behind a book -/
theorem rel_bg (h : Rel L I J T) {b : Nat} (hb : T.2.2.2.2.1 12 = b) {Xf Yf : X2} {s8 s14 : Nat → Int32} {ncf nmf : Nat → Int64} {y y' : Int64} {n r : Nat} (h3 : Xf 0 3 = 0) (hr1 : 1 ≤ r) (hr6 : r ≤ 6) (hF : FIN Xf Yf r) (hX : Xf 7 3 = nn r) (hY : Yf 1 0 = nn r) (hs : ∀ x, ¬ (10 ≤ x ∧ x ≤ 21) → s14 x = (i5 (ICg (CM (up3 I 11 0 10 0) T.2.1 Xf s8)) n) 14 0 x) : Rel L (IMg (MM (nwI b (i5 (ICg (CM (up3 I 11 0 10 0) T.2.1 Xf s8)) n)) b Yf s14)) (JM (nwJ b (fl (lvJ (JC J ncf y)) 42 1 6 0)) b nmf y') (TB (TG (Tsw T) b) b) := by
  have hN := h.1
  obtain ⟨t, ht, t10, t8, tf⟩ := h.2.1
  have hgd := hN.1
  generalize hI7 : IMg (MM (nwI b (i5 (ICg (CM (up3 I 11 0 10 0) T.2.1 Xf s8)) n)) b Yf s14) = I7
  generalize hJ7 : JM (nwJ b (fl (lvJ (JC J ncf y)) 42 1 6 0)) b nmf y' = J7
  have o8 : I7 14 0 8 = 0 := by
    rw [← hI7]
    show s14 8 = 0
    rw [hs 8 (by omega)]
    rfl
  have o3 : I7 14 0 3 = 0 := by
    rw [← hI7]
    show s14 3 = 0
    rw [hs 3 (by omega)]
    rfl
  have o37 : I7 37 = I 37 := by rw [← hI7]; rfl
  have lyx : ∀ j, ¬ j = 10 → ¬ j = 11 → I7 21 j = (MM (nwI b (i5 (ICg (CM (up3 I 11 0 10 0) T.2.1 Xf s8)) n)) b Yf s14) 21 j := by
    intro j a1 a2
    rw [← hI7]
    funext c
    show (if j = 10 then (if c < 6 then (0 : Int32) else (MM (nwI b (i5 (ICg (CM (up3 I 11 0 10 0) T.2.1 Xf s8)) n)) b Yf s14) 21 j c) else if j = 11 then (if c < 6 then (0 : Int32) else (MM (nwI b (i5 (ICg (CM (up3 I 11 0 10 0) T.2.1 Xf s8)) n)) b Yf s14) 21 j c) else (MM (nwI b (i5 (ICg (CM (up3 I 11 0 10 0) T.2.1 Xf s8)) n)) b Yf s14) 21 j c) = _
    rw [if_neg a1, if_neg a2]
  have g10 : ∀ k, k < 6 → I7 21 10 k = 0 := by
    intro k hk
    rw [← hI7]
    show (if k < 6 then (0 : Int32) else _) = 0
    rw [if_pos hk]
  have g11 : ∀ k, k < 6 → I7 21 11 k = 0 := by
    intro k hk
    rw [← hI7]
    show (if k < 6 then (0 : Int32) else _) = 0
    rw [if_pos hk]
  have c21 : ∀ j, ¬ j = b + 12 → ¬ j = 7 → ¬ j = 8 → ¬ j = 9 → ¬ j = 10 → ¬ j = 11 → I7 21 j = (fl (fl (lvI (up3 (up3 (CM (up3 I 11 0 10 0) T.2.1 Xf s8) 11 0 11 (Xf 0 3)) 11 0 12 (Xf 0 4))) 21 3 6 0) 21 4 6 0) 21 j := by
    intro j a1 a2 a3 a4 a5 a6
    rw [lyx j a5 a6, MM_21x _ _ _ _ ⟨a1, a2, a3, a4⟩, nwI_21x _ _ a1]
    rfl
  have g3 : ∀ k, k < 6 → I7 21 3 k = 0 := by
    intro k hk
    rw [c21 3 (by omega) (by omega) (by omega) (by omega) (by omega) (by omega), fl_j _ 21 (by omega), fl_at _ _ _ _ _ hk]
  have g4 : ∀ k, k < 6 → I7 21 4 k = 0 := by
    intro k hk
    rw [c21 4 (by omega) (by omega) (by omega) (by omega) (by omega) (by omega), fl_at _ _ _ _ _ hk]
  have gdr : I7 21 (5 * T.2.1) = Xf 2 := by
    rw [c21 _ (by omega) (by omega) (by omega) (by omega) (by omega) (by omega), fl_j _ 21 (by omega), fl_j _ 21 (by omega)]
    funext c
    exact CM_g21 (up3 I 11 0 10 0) T.2.1 Xf s8 c
  have gb : I7 21 (b + 12) = Yf 3 := by
    rw [lyx _ (by omega) (by omega)]
    funext c
    exact MM_g21 (nwI b (i5 (ICg (CM (up3 I 11 0 10 0) T.2.1 Xf s8)) n)) b Yf s14 c
  have g33 : I7 33 b = Yf 2 := by
    rw [← hI7]
    funext c
    exact MM_g33 (nwI b (i5 (ICg (CM (up3 I 11 0 10 0) T.2.1 Xf s8)) n)) b Yf s14 c
  have g12 : I7 12 b 0 = nn r := by
    rw [← hI7, ← hY]
    exact MM_g12 (nwI b (i5 (ICg (CM (up3 I 11 0 10 0) T.2.1 Xf s8)) n)) b Yf s14 0
  have g31 : I7 31 T.2.1 = Xf 1 := by
    rw [← hI7]
    funext c
    exact CM_g31 (up3 I 11 0 10 0) T.2.1 Xf s8 c
  have g1 : I7 1 T.2.1 3 = nn r := by
    rw [← hI7, ← hX]
    exact CM_g1 (up3 I 11 0 10 0) T.2.1 Xf s8 3
  have gW : RelW I7 0 0 := by
    rw [← hI7]
    exact ⟨rfl, rfl, rfl, rfl, rfl, rfl, .inl ⟨rfl, rfl⟩⟩
  have gA : RelA I7 := by
    refine ⟨?_, ?_, ?_, ?_, ?_⟩
    · rw [o3, ← hI7]
      exact h3.symm
    · rw [← hI7]; rfl
    · rw [← hI7]
      show (-1 : Int32) = if (0 : Int32) = 4 then _ else -1
      rw [if_neg (by decide)]
    · rw [← hI7]; rfl
    · rw [← hI7]; rfl
  have j5 : J7 5 0 12 = 0 ∧ J7 5 0 13 = 0 ∧ J7 5 0 14 = 0 ∧ J7 5 0 15 = 0 := by
    rw [← hJ7]
    exact ⟨rfl, rfl, rfl, rfl⟩
  have j42 : ∀ k, k < 6 → J7 42 1 k = 0 := by
    intro k hk
    rw [← hJ7]
    show (if 1 = b + 2 then nmf k else (if 1 = b + 2 then (0 : Int64) else (if k < 6 then (0 : Int64) else (lvJ (JC J ncf y)) 42 1 k))) = 0
    rw [if_neg (by omega), if_neg (by omega), if_pos hk]
  have o10 : I7 11 0 10 = 0 := by rw [← hI7]; rfl
  have k5 : I7 2 0 5 = 0 := by rw [← hI7]; rfl
  have k27 : I7 14 0 27 = 0 := by rw [← hI7]; rfl
  have k10 : I7 5 0 10 = 0 := by rw [← hI7]; rfl
  have k11 : I7 5 0 11 = 0 := by rw [← hI7]; rfl
  obtain ⟨l1, l2, l3, l4⟩ := j5
  refine ⟨rN_new hN (ro 12 b) (fun b0 hb0 => ?_) (by rcases hgd with z | z; exact .inr ⟨z.2, z.1⟩; exact .inl ⟨z.2, z.1⟩) (ro 12 b) _ _, ⟨0, by omega, o10, o8, fun i => by rw [o37]; exact tf i⟩, gA, 0, 0, r, fun z => absurd z (by omega), .inr ⟨b, rfl, hr1, hr6, g1, g12, fun k hk => ?_⟩, gW, ?_, ⟨?_, fun c hc => absurd hc (by omega)⟩, ⟨fun c hc => absurd hc (by omega), ?_⟩, ⟨fun k hk => ⟨?_, ?_, fun z => absurd z (by omega), ?_⟩, .inl ⟨rfl, k10, k11⟩⟩, ⟨0, by omega, k5, k27, fun _ => rfl, fun i hi => absurd hi (by omega)⟩, fun b0 hb0 k hk c hc => absurd hc (by omega)⟩
  · have : b0 = b := by
      have e : ro 12 b = ro 12 b0 := hb0
      unfold ro at e
      have := Prod.mk.inj (Option.some.inj (Option.some.inj e))
      exact this.2.symm
    omega
  · obtain ⟨len, q1, q2, q3, q4, q5⟩ := hF k hk
    refine ⟨len, q1, ?_, ?_, ?_, fun i hi => ?_⟩
    · show I7 21 (5 * T.2.1) k = _
      rw [gdr]; exact q2
    · rw [gb]; exact q3
    · rw [g33]; exact q4
    · show I7 31 T.2.1 _ = _
      rw [g31, g33]; exact q5 i hi
  · intro c hc
    rw [l1, l3, l4, bt_zero]
    exact ⟨(decide_eq_false (by omega)).symm, (decide_eq_false (by omega)).symm, (decide_eq_false (by omega)).symm⟩
  · intro c hc
    rw [l2, bt_zero]
    constructor
    · intro z; exact absurd z (by decide)
    · intro z; omega
  · intro k hk c hc
    rw [j42 k hk, bt_zero]
    constructor
    · intro z; exact absurd z (by decide)
    · intro z; omega
  · rw [g3 k (by omega), g10 k (by omega)]
  · rw [g4 k (by omega), g11 k (by omega)]
  · rw [g11 k (by omega)]; decide
end REL1
theorem call1 (L d : Nat) : Cl1 (Inv L) (d + 10) 8 400 := by
  intro m z hm
  obtain ⟨I, J, T, rfl, h⟩ := hm
  have hN := h.1
  obtain ⟨t, ht, t10, t8, tf⟩ := h.2.1
  by_cases hz : 0 ≤ z ∧ z ≤ nn t
  · obtain ⟨ez, hzl⟩ := nn_of hz.1
    generalize z.toNatClampNeg = n at ez hzl
    subst ez
    have hnt : n ≤ t := (nn_le hzl (by omega)).mp hz.2
    obtain ⟨n1, n2, n3, n4, n5, n6⟩ := hN
    have hgd := n1
    generalize hbb : T.2.2.2.2.1 12 = b at n3 n4 n5
    have hfb : ∀ x, -128 ≤ I 37 0 x ∧ I 37 0 x ≤ 127 := fun x => by
      exact (tf x).2
    have hf1 : I 37 1 = I 37 0 := funext (fun x => (tf x).1.symm)
    obtain ⟨j, k, s, u, v, c, htk⟩ := TOK_ex (I 37 0) (n := n) (i := 0) (by omega)
    obtain ⟨Xf, ncf, rr, out, j1, j2⟩ := (joint b hfb (show n ≤ 500 by omega) (n + 1) 0 (by omega) j k s u v c htk).1 (X00 (rX7 (up3 I 11 0 10 0) T.2.1)) (Y00 I) (J 42 0) (fun _ => 0) 0 ⟨rfl, by omega, fun _ => rfl, fun k hk => absurd hk (by omega), fun k h1 h2 => rfl, rfl, rfl, ⟨fun _ => (0, fun _ => 0), fun k hk => absurd hk (by omega)⟩, rfl⟩
    obtain ⟨s8, y8, e8⟩ := readC (d + 3) (up3 I 11 0 10 0) J T (rX7 (up3 I 11 0 10 0) T.2.1) (J 42 0) ((up3 I 11 0 10 0) 8 0) (J 8 0 4) (f := I 37 0) (n := n) (by omega) rfl j1
    rw [CM_id, JC_id] at e8
    obtain ⟨Y0, _, _, _, p0, _, _⟩ := bookM_run d I I J T b hbb n3 n4 n5 rfl rfl rfl rfl rfl t8 ht hnt hf1 hfb htk j2
    rcases p0 with ⟨r0, o0, -, -⟩ | ⟨r1, o1, -⟩
    · subst r0; subst o0
      have ec := book_f (d + 3) I J T t10 ht hnt e8
      have x21 : ∀ j, ¬ j = 5 * T.2.1 ∧ ¬ j = 1 ∧ ¬ j = 2 → (ICf (CM (up3 I 11 0 10 0) T.2.1 Xf s8)) 21 j = I 21 j := fun j hj => by
        show (CM (up3 I 11 0 10 0) T.2.1 Xf s8) 21 j = _
        rw [CM_21x _ _ _ _ hj]
        rfl
      obtain ⟨Yf, nmf, s14, y14, pf, of, em⟩ := bookM_run d I (ICf (CM (up3 I 11 0 10 0) T.2.1 Xf s8)) (JC J ncf y8) T b hbb n3 n4 n5 rfl (x21 7 (by omega)) (x21 8 (by omega)) (x21 9 (by omega)) rfl t8 ht hnt hf1 hfb htk j2
      rw [bookM_f] at em
      rcases pf with ⟨-, -, q3, q4⟩ | ⟨q1, -⟩
      · refine ⟨-1, _, _, ec, fun _ => rfl, rfl, em, ⟨_, _, _, rfl, rel_bf h hbb q3 q4 of⟩, ?_, ?_⟩
        · show T.2.2.2.2.2.1 + 4 ≤ T.2.2.2.2.2.1 + 8
          omega
        · show T.2.2.2.2.2.2 + 304 ≤ T.2.2.2.2.2.2 + 400
          omega
      · exact absurd q1 (by decide)
    · subst r1; subst o1
      have ec := book_g (d + 3) I J T t10 ht hnt e8
      have x21 : ∀ j, ¬ j = 3 → ¬ j = 4 → ¬ j = 5 * T.2.1 ∧ ¬ j = 1 ∧ ¬ j = 2 → (ICg (CM (up3 I 11 0 10 0) T.2.1 Xf s8)) 21 j = I 21 j := fun j h3 h4 hj => by
        show (fl (fl (lvI (up3 (up3 (CM (up3 I 11 0 10 0) T.2.1 Xf s8) 11 0 11 _) 11 0 12 _)) 21 3 6 0) 21 4 6 0) 21 j = _
        rw [fl_j _ 21 h4, fl_j _ 21 h3]
        show (CM (up3 I 11 0 10 0) T.2.1 Xf s8) 21 j = _
        rw [CM_21x _ _ _ _ hj]
        rfl
      obtain ⟨Yf, nmf, s14, y14, pf, of, em⟩ := bookM_run d I (ICg (CM (up3 I 11 0 10 0) T.2.1 Xf s8)) (fl (lvJ (JC J ncf y8)) 42 1 6 0) (Tsw T) b hbb n3 n4 n5 rfl (x21 7 (by omega) (by omega) (by omega)) (x21 8 (by omega) (by omega) (by omega)) (x21 9 (by omega) (by omega) (by omega)) rfl t8 ht hnt hf1 hfb htk j2
      rcases pf with ⟨q1, -⟩ | ⟨-, -, q3, r, q4, q5, q6, q7, q8⟩
      · exact absurd q1 (by decide)
      · have eg := bookM_g d (nn n) (MM (nwI b (i5 (ICg (CM (up3 I 11 0 10 0) T.2.1 Xf s8)) n)) b Yf s14) (JM (nwJ b (fl (lvJ (JC J ncf y8)) 42 1 6 0)) b nmf y14) (TG (Tsw T) b) b
        have em2 := em.trans eg
        have a1 : (ICg (CM (up3 I 11 0 10 0) T.2.1 Xf s8)) 1 T.2.1 3 = nn r := by
          rw [← q7]
          exact CM_g1 (up3 I 11 0 10 0) T.2.1 Xf s8 3
        have a2 : (IMg (MM (nwI b (i5 (ICg (CM (up3 I 11 0 10 0) T.2.1 Xf s8)) n)) b Yf s14)) 12 b 0 = nn r := by
          rw [← q8]
          exact MM_g12 (nwI b (i5 (ICg (CM (up3 I 11 0 10 0) T.2.1 Xf s8)) n)) b Yf s14 0
        rw [a1] at ec
        rw [a2] at em2
        refine ⟨nn r, _, _, ec, fun _ => rfl, rfl, em2, ⟨_, _, _, rfl, rel_bg h hbb q3 q4 q5 q6 q7 q8 of⟩, ?_, ?_⟩
        · show T.2.2.2.2.2.1 + 4 ≤ T.2.2.2.2.2.1 + 8
          omega
        · show T.2.2.2.2.2.2 + 304 ≤ T.2.2.2.2.2.2 + 400
          omega
  · refine ⟨-1, _, _, book_n (d + 9) I J T t10 hz, fun _ => rfl, rfl, bookM_n (d + 9) (up3 I 11 0 15 2) J T t8 hz, ⟨_, _, _, rfl, rel_tr 2 (by decide) h⟩, Nat.le_add_right _ _, Nat.le_add_right _ _⟩
