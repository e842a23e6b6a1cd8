/-! A ground is laid: the reference; the call ground -/
def lay5 (I : PI) (c : Nat) : PI := fun a b i => if a = 28 then (if b = 4 then (if i < c then 5 else I a b i) else if b = 5 then (if i < c then 0 else I a b i) else if b = 6 then (if i < c then -1 else I a b i) else if b = 7 then (if i < c then -1 else I a b i) else I a b i) else if a = 39 then (if b = 0 then (if i < c then 0 else I a b i) else I a b i) else I a b i
def lay2 (I : PI) (c : Nat) : PI := fun a b i => if a = 21 then (if b = 10 then (if i < c then 0 else I a b i) else if b = 11 then (if i < c then 0 else I a b i) else I a b i) else I a b i
theorem lt_sc {i c : Nat} (h : ¬ i = c) : (i < c + 1) ↔ (i < c) := by omega
theorem lay5_zero (I : PI) : lay5 I 0 = I := by
  funext a b i
  unfold lay5
  simp only [Nat.not_lt_zero, if_false, ite_self]
theorem lay2_zero (I : PI) : lay2 I 0 = I := by
  funext a b i
  unfold lay2
  simp only [Nat.not_lt_zero, if_false, ite_self]
theorem lay5_succ (I : PI) (c : Nat) : up3 (up3 (up3 (up3 (up3 (lay5 I c) 28 4 c 5) 28 5 c 0) 39 0 c 0) 28 6 c (-1)) 28 7 c (-1) = lay5 I (c + 1) := by
  funext a b i
  unfold lay5 up3
  by_cases h1 : a = 28
  · subst h1
    by_cases h4 : b = 4
    · subst h4
      by_cases hi : i = c
      · subst hi; simp
      · simp [hi, lt_sc hi]
    · by_cases h5 : b = 5
      · subst h5
        by_cases hi : i = c
        · subst hi; simp
        · simp [hi, lt_sc hi]
      · by_cases h6 : b = 6
        · subst h6
          by_cases hi : i = c
          · subst hi; simp
          · simp [hi, lt_sc hi]
        · by_cases h7 : b = 7
          · subst h7
            by_cases hi : i = c
            · subst hi; simp
            · simp [hi, lt_sc hi]
          · simp [h4, h5, h6, h7]
  · by_cases h2 : a = 39
    · subst h2
      by_cases h0 : b = 0
      · subst h0
        by_cases hi : i = c
        · subst hi; simp
        · simp [hi, lt_sc hi]
      · simp [h0]
    · simp [h1, h2]
theorem lay2_succ (I : PI) (c : Nat) : up3 (up3 (lay2 I c) 21 10 c 0) 21 11 c 0 = lay2 I (c + 1) := by
  funext a b i
  unfold lay2 up3
  by_cases h1 : a = 21
  · subst h1
    by_cases h4 : b = 10
    · subst h4
      by_cases hi : i = c
      · subst hi; simp
      · simp [hi, lt_sc hi]
    · by_cases h5 : b = 11
      · subst h5
        by_cases hi : i = c
        · subst hi; simp
        · simp [hi, lt_sc hi]
      · simp [h4, h5]
  · simp [h1]
def lyM (I : PI) (w h : Nat) : PI := up3 (up3 (up3 (up3 (up3 (lay2 (lay5 (up3 (up3 (up3 I 14 0 22 (nn w)) 14 0 23 (nn h)) 14 0 24 (nn (w * h))) 64) 6) 14 0 25 1) 14 0 26 20) 14 0 27 0) 14 0 28 (-1)) 14 0 29 (-1)
theorem laysM (d w h : Nat) (I : PI) (J : PJ) (T : TL) : cal d 214 [vr 14 0, vi (nn w), vi (nn h)] (MX I J T) = some (.inl none, MX (lyM I w h) J T) := by
  rw [c214, nn_mul]
  have k1 := for_up (n := 64) (Lp := fun c (_ : Unit) => den d 214 19 [some (vr 14 0), some (vi (nn w)), some (vi (nn h)), some (vi (nn c))] [] (MX (lay5 (up3 (up3 (up3 I 14 0 22 (nn w)) 14 0 23 (nn h)) 14 0 24 (nn (w * h))) c) J T)) (step := fun _ b => b) (by
    intro c b hc
    have hr : inR (nn c) 64 = true := nn_inR hc (by omega)
    rw [b214_19, if_neg (by rw [show (64 : Int32) = nn 64 from rfl, nn_le (by omega) (by omega)]; omega), if_pos hr, if_pos hr, if_pos hr, if_pos hr, if_pos hr, nn_idx (by omega), nn_add1, lay5_succ]) 64 0 () (by omega)
  rw [lay5_zero] at k1
  refine Eq.trans k1 ?_
  rw [b214_19, if_pos (by decide)]
  have k2 := for_up (n := 6) (Lp := fun c (_ : Unit) => den d 214 68 [some (vr 14 0), some (vi (nn w)), some (vi (nn h)), some (vi (nn c))] [] (MX (lay2 (lay5 (up3 (up3 (up3 I 14 0 22 (nn w)) 14 0 23 (nn h)) 14 0 24 (nn (w * h))) 64) c) J T)) (step := fun _ b => b) (by
    intro c b hc
    have hr : inR (nn c) 6 = true := nn_inR hc (by omega)
    rw [b214_68, if_neg (by rw [show (6 : Int32) = nn 6 from rfl, nn_le (by omega) (by omega)]; omega), if_pos hr, if_pos hr, nn_idx (by omega), nn_add1, lay2_succ]) 6 0 () (by omega)
  rw [lay2_zero] at k2
  refine Eq.trans k2 ?_
  rw [b214_68, if_pos (by decide)]
  rfl
theorem VC_wt {I : PI} {w h p0 len c : Nat} {p wt wt2 : Nat → Int32} (hff : ∀ e, adj w h c e → (wt e = 0 ↔ wt2 e = 0)) : VC I w h p0 len p wt c = VC I w h p0 len p wt2 c := by
  unfold VC
  rw [nearW_eq hff]
/-- what holds behind the laying of a ground -/
theorem rel_lay {L : Nat} {I : PI} {J : PJ} {T : TL} {w h o b : Nat} {v Pq : Nat → Int32} (hN : RelN L T) (hT : RelT I) (hA : RelA I) (hB : RelB I T.1 T.2.2.1 o) (hmb : T.2.2.1 = ro 12 b) (hw1 : 1 ≤ w) (hw8 : w ≤ 8) (hh1 : 1 ≤ h) (hh8 : h ≤ 8) (ho1 : 1 ≤ o)
    (hPq : Pq = PG (la2 I w h) (laJ2 J w h 5 0 12) (fun k => VC (la2 I w h) w h 0 (I 21 (b + 12) k).toNatClampNeg (fun i => I 33 b (48 * k + i)) (fun _ => 0)) (w * h) o) :
    Rel L (up3 (up3 (lyM (up3 (up3 (up3 (up3 (up3 (fl (upA (upA (la2 I w h) 34 0 Pq) 25 T.1 v) 28 3 64 (-1)) 2 0 5 0) 11 0 13 (-1)) 11 0 14 (-1)) 11 0 15 0) 14 0 0 0) w h) 14 0 1 0) 14 0 2 (-1)) (fl (laJ2 J w h) 42 1 6 0) T := by
  have h64 : w * h ≤ 64 := Nat.mul_le_mul hw8 hh8
  have hpos : 1 ≤ w * h := Nat.mul_le_mul hw1 hh1
  obtain ⟨ho, ho6⟩ := relB_o hB
  generalize hI5 : (up3 (up3 (lyM (up3 (up3 (up3 (up3 (up3 (fl (upA (upA (la2 I w h) 34 0 Pq) 25 T.1 v) 28 3 64 (-1)) 2 0 5 0) 11 0 13 (-1)) 11 0 14 (-1)) 11 0 15 0) 14 0 0 0) w h) 14 0 1 0) 14 0 2 (-1)) = I5
  have g21 : ∀ j, ¬ j = 3 → ¬ j = 4 → ¬ j = 10 → ¬ j = 11 → I5 21 j = I 21 j := by
    intro j a1 a2 a3 a4
    rw [← hI5]
    show lay2 (lay5 _ 64) 6 21 j = _
    funext i
    unfold lay2
    simp only [if_true, if_neg a3, if_neg a4]
    show (fl (fl (lvI I) 21 3 6 0) 21 4 6 0) 21 j i = I 21 j i
    rw [fl_j _ 21 a2, fl_j _ 21 a1]
    rfl
  have g3 : ∀ k, k < 6 → I5 21 3 k = 0 := by
    intro k hk
    rw [← hI5]
    show (fl (fl (lvI I) 21 3 6 0) 21 4 6 0) 21 3 k = 0
    rw [fl_j _ 21 (by omega), fl_at _ _ _ _ _ hk]
  have g4 : ∀ k, k < 6 → I5 21 4 k = 0 := by
    intro k hk
    rw [← hI5]
    show (fl (fl (lvI I) 21 3 6 0) 21 4 6 0) 21 4 k = 0
    rw [fl_at _ _ _ _ _ hk]
  have g10 : ∀ k, k < 6 → I5 21 10 k = 0 := by
    intro k hk
    rw [← hI5]
    show (if k < 6 then (0 : Int32) else _) = 0
    rw [if_pos hk]
  have g11 : ∀ k, k < 6 → I5 21 11 k = 0 := by
    intro k hk
    rw [← hI5]
    show (if k < 6 then (0 : Int32) else _) = 0
    rw [if_pos hk]
  have gc : ∀ c, c < 64 → I5 28 0 c = 5 ∧ I5 28 1 c = 0 ∧ I5 28 2 c = -1 ∧ I5 28 3 c = -1 ∧ I5 28 4 c = 5 ∧ I5 28 5 c = 0 ∧ I5 28 6 c = -1 ∧ I5 28 7 c = -1 ∧ I5 39 0 c = 0 := by
    intro c hc
    rw [← hI5]
    refine ⟨?_, ?_, ?_, ?_, ?_, ?_, ?_, ?_, ?_⟩
    · show (if c < 64 then (5 : Int32) else _) = 5
      rw [if_pos hc]
    · show (if c < 64 then (0 : Int32) else _) = 0
      rw [if_pos hc]
    · show (if c < 64 then (-1 : Int32) else _) = -1
      rw [if_pos hc]
    · show (if c < 64 then (-1 : Int32) else _) = -1
      rw [if_pos hc]
    · show (if c < 64 then (5 : Int32) else _) = 5
      rw [if_pos hc]
    · show (if c < 64 then (0 : Int32) else _) = 0
      rw [if_pos hc]
    · show (if c < 64 then (-1 : Int32) else _) = -1
      rw [if_pos hc]
    · show (if c < 64 then (-1 : Int32) else _) = -1
      rw [if_pos hc]
    · show (if c < 64 then (0 : Int32) else _) = 0
      rw [if_pos hc]
  have g34 : I5 34 0 = Pq := by rw [← hI5]; rfl
  have g33 : I5 33 = I 33 := by rw [← hI5]; rfl
  have gW : RelW I5 w h := by
    rw [← hI5]
    exact ⟨rfl, rfl, rfl, rfl, rfl, rfl, .inr ⟨hw1, hw8, hh1, hh8⟩⟩
  have gT : RelT I5 := by rw [← hI5]; exact hT
  have gA : RelA I5 := by
    rw [← hI5]
    refine ⟨hA.1, rfl, ?_, rfl, rfl⟩
    show (-1 : Int32) = if (0 : Int32) = 4 then _ else -1
    rw [if_neg (by decide)]
  have gB : RelB I5 T.1 T.2.2.1 o := by
    refine relB_congr (I := I) (by rw [← hI5]; rfl) (by rw [← hI5]; rfl) (by rw [← hI5]; rfl) g33 ?_ hB
    intro j hj
    have : 5 * T.1 = 0 ∨ 5 * T.1 = 5 := relN_g hN
    exact g21 j (by omega) (by omega) (by omega) (by omega)
  have gM : RelM (fl (laJ2 J w h) 42 1 6 0) w h := la_M J hw1 hw8 hh1 hh8
  refine ⟨hN, gT, gA, w, h, o, fun _ => ho1, gB, gW, gM, ⟨?_, ?_⟩, ⟨?_, ?_⟩, ⟨?_, ?_⟩, ⟨0, by omega, by rw [← hI5]; rfl, by rw [← hI5]; rfl, fun _ => rfl, fun i hi => absurd hi (by omega)⟩, ?_⟩
  · intro c hc
    have : (fl (laJ2 J w h) 42 1 6 0) 5 0 13 = 0 := la_wat J w h
    rw [this, bt_zero, (gc c hc).2.2.2.2.2.2.2.2]
    constructor
    · intro z; exact absurd z (by decide)
    · intro z; exact absurd rfl z.2
  · intro c hc
    obtain ⟨q0, q1, q2, q3, q4, q5, q6, q7, q8⟩ := gc c (by omega)
    rw [q0, q1, q2, q4, q5, q6, q8]
    exact ⟨.inl rfl, rfl, ⟨by decide, by decide⟩, rfl, ⟨by decide, by decide⟩, rfl, .inl rfl⟩
  · intro c hc
    obtain ⟨q0, q1, q2, q3, q4, q5, q6, q7, q8⟩ := gc c (by omega)
    rw [q3, q7]
    exact ⟨rfl, .inl rfl⟩
  · intro k hk c hc
    rw [fl_at _ _ _ _ _ hk, bt_zero, (gc c hc).2.2.2.2.2.2.2.1]
    constructor
    · intro z; exact absurd z (by decide)
    · intro z; exact absurd z.2.symm (nn_ne_neg (by omega))
  · intro k hk
    rw [g3 k (by omega), g10 k (by omega), g4 k (by omega), g11 k (by omega)]
    exact ⟨rfl, rfl, fun _ => ⟨0, by omega, rfl⟩, by decide, by decide⟩
  · refine .inr ⟨by omega, ?_, ?_, ?_, 20, by omega, ?_⟩
    · rw [← hI5]; rfl
    · rw [← hI5]; exact .inl rfl
    · rw [← hI5]; rfl
    · rw [← hI5]; rfl
  · intro b2 hb2 k hk c hc
    have hbb : b2 = b := by
      rw [hmb] at hb2
      exact (Prod.mk.inj (Option.some.inj (Option.some.inj hb2))).2.symm
    subst hbb
    have hall : bt (laJ2 J w h 5 0 12) c = true := by
      rw [(la_M J hw1 hw8 hh1 hh8 c (by omega)).1]; exact decide_eq_true hc
    rw [g34, hPq]
    unfold PG
    rw [show (64 * k + c) / 64 = k by omega, show (64 * k + c) % 64 = c by omega, if_pos ⟨hk, hc, hall⟩]
    obtain ⟨len, l1, l2⟩ : ∃ len, len ≤ 40 ∧ I 21 (b2 + 12) k = nn len := by
      rcases hB with ⟨z1, -⟩ | ⟨b3, z1, -, -, -, -, z6⟩
      · omega
      · have : b2 = b3 := by
          rw [hmb] at z1
          exact (Prod.mk.inj (Option.some.inj (Option.some.inj z1))).2
        subst this
        obtain ⟨len, l1, -, l3, -⟩ := z6 k hk
        exact ⟨len, l1, l3⟩
    have e1 : VC (la2 I w h) w h 0 (I 21 (b2 + 12) k).toNatClampNeg (fun i => I 33 b2 (48 * k + i)) (fun _ => 0) c = VC (la2 I w h) w h 0 len (fun i => I5 33 b2 (48 * k + i)) (I5 39 0) c := by
      rw [l2, nn_idx (by omega), g33]
      apply VC_wt
      intro e he
      have := adj_lt hw1 hc he
      rw [(gc e (by omega)).2.2.2.2.2.2.2.2]
    refine Eq.trans e1 ?_
    have k0 : (la2 I w h) 28 0 c = 5 := by
      show (if c < 64 then (5 : Int32) else _) = 5
      rw [if_pos (by omega)]
    have k1 : (la2 I w h) 28 1 c = 0 := by
      show (if c < 64 then (0 : Int32) else _) = 0
      rw [if_pos (by omega)]
    refine VC_VAL ?_ ?_ (g10 k (by omega)) (by omega) ?_ l1
    · rw [k0]; exact (gc c (by omega)).2.2.2.2.1
    · rw [k1]; exact (gc c (by omega)).2.2.2.2.2.1
    · rw [g21 (b2 + 12) (by omega) (by omega) (by omega) (by omega)]; exact l2
theorem bkc_of {I : PI} {g o b : Nat} {mb : OR} (hB : RelB I g mb o) (hmb : mb = ro 12 b) : BKC I g o (fun k => (I 21 (b + 12) k).toNatClampNeg) (fun k i => I 33 b (48 * k + i)) := by
  rcases hB with ⟨z1, z2, -⟩ | ⟨b3, z1, z2, z3, z4, z5, z6⟩
  · rw [hmb] at z2; cases z2
  · have : b = b3 := by
      rw [hmb] at z1
      exact (Prod.mk.inj (Option.some.inj (Option.some.inj z1))).2
    subst this
    refine ⟨z4, z3, ?_⟩
    intro k hk
    obtain ⟨len, l1, l2, l3, l4, l5⟩ := z6 k hk
    have e : (I 21 (b + 12) k).toNatClampNeg = len := by rw [l3, nn_idx (by omega)]
    simp only [e]
    exact ⟨l1, l2, l5, l4⟩
theorem call4 (L d : Nat) : Cl4 (Inv L) (d + 6) 8 400 := by
  intro m x y hm
  obtain ⟨I, J, T, rfl, h⟩ := hm
  obtain ⟨hN, hT, hA, w0, h00, o, hwo, hB, hW, hM, hC, hD, hO, hK, hP⟩ := id h
  have deny : ∀ t : Int32, ¬ t = 4 → cal (d + 6) 54 [vr 11 0, vi x, vi y] (MX I J T) = some (.inl (some (vi (-1))), MX (up3 I 11 0 15 t) J T) → cal (d + 6) 218 [vr 14 0, vi x, vi y] (MX (up3 I 11 0 15 t) J T) = some (.inl (some (vi (-1))), MX (up3 (up3 (up3 (up3 I 11 0 15 t) 14 0 0 0) 14 0 1 t) 14 0 2 (-1)) J T) → Ok2 (Inv L) (d + 6) 8 400 54 218 [vi x, vi y] (MX I J T) :=
    fun t ht q1 q2 => ⟨-1, MX (up3 I 11 0 15 t) J T, _, q1, fun _ => rfl, rfl, q2, ⟨_, _, _, rfl, rel_tr t ht h⟩, Nat.le_add_right _ _, Nat.le_add_right _ _⟩
  obtain ⟨ho, ho6⟩ := relB_o hB
  rcases id hB with ⟨z1, z2, z3⟩ | ⟨b, z1, z2, -⟩
  · refine deny 1 (by decide) ?_ ?_
    · simp only [c54, z3, not_true_eq_false, if_false, c20, ret9, b54_18]
    · rw [← TNe z2]
      simp only [c218n, c187, ret9, b218n_17]
  · have hne : ¬ I 1 T.1 3 = 0 := by rw [ho, eq0n (by omega)]; omega
    by_cases hx : (1 : Int32) ≤ x ∧ x ≤ 8
    · have hx1 : ¬ x < 1 := i32_nlt.mpr hx.1
      have hx2 : ¬ 8 < x := i32_nlt.mpr hx.2
      by_cases hy : (1 : Int32) ≤ y ∧ y ≤ 8
      · have hy1 : ¬ y < 1 := i32_nlt.mpr hy.1
        obtain ⟨ex, hxl⟩ := nn_of (Int32.le_trans (show (0 : Int32) ≤ 1 by decide) hx.1)
        obtain ⟨ey, hyl⟩ := nn_of (Int32.le_trans (show (0 : Int32) ≤ 1 by decide) hy.1)
        generalize x.toNatClampNeg = w at ex hxl
        generalize y.toNatClampNeg = h1 at ey hyl
        subst ex
        subst ey
        have w1 := (nn_le (a := 1) (by omega) hxl).mp hx.1
        have w8 := (nn_le (b := 8) hxl (by omega)).mp hx.2
        have k1 := (nn_le (a := 1) (by omega) hyl).mp hy.1
        have k8 := (nn_le (b := 8) hyl (by omega)).mp hy.2
        have hg : T.1 = 0 ∨ T.1 = 1 := by rcases hN.1 with z | z <;> omega
        obtain ⟨v, ev⟩ := layC d (fun k => (I 21 (b + 12) k).toNatClampNeg) (fun k i => I 33 b (48 * k + i)) I J T w1 w8 k1 k8 hg (bkc_of hB z1)
        generalize hPq : PG (la2 I w h1) (laJ2 J w h1 5 0 12) (fun k => VC (la2 I w h1) w h1 0 (I 21 (b + 12) k).toNatClampNeg (fun i => I 33 b (48 * k + i)) (fun _ => 0)) (w * h1) o = Pq at ev
        have hrel := rel_lay (v := v) hN hT hA hB z1 w1 w8 k1 k8 z2 hPq.symm
        refine ⟨nn (w * h1), MX (up3 (up3 (up3 (up3 (fl (upA (upA (la2 I w h1) 34 0 Pq) 25 T.1 v) 28 3 64 (-1)) 2 0 5 0) 11 0 13 (-1)) 11 0 14 (-1)) 11 0 15 0) (fl (laJ2 J w h1) 42 1 6 0) T, MX (up3 (up3 (lyM (up3 (up3 (up3 (up3 (up3 (fl (upA (upA (la2 I w h1) 34 0 Pq) 25 T.1 v) 28 3 64 (-1)) 2 0 5 0) 11 0 13 (-1)) 11 0 14 (-1)) 11 0 15 0) 14 0 0 0) w h1) 14 0 1 0) 14 0 2 (-1)) (fl (laJ2 J w h1) 42 1 6 0) T, ?_, fun _ => rfl, rfl, ?_, ⟨_, _, _, rfl, hrel⟩, Nat.le_add_right _ _, Nat.le_add_right _ _⟩
        · simp only [c54, if_pos hne, if_neg hx1, if_neg hx2, if_neg hy1, if_pos hy.2, ev, ret9, b54_56, forgetC, b54_60, c51, b54_71]
          rfl
        · rw [← TBe z1]
          simp only [c218b, inM, bi1 hx, ret9, b218b_25, j10, if_false, bi1 hy, b218b_35, not_false_eq_true, if_true, laysM, b218b_50, c215, b218b_58]
          rfl
      · refine deny 2 (by decide) ?_ ?_
        · by_cases hy1 : y < 1
          · simp only [c54, if_pos hne, if_neg hx1, if_neg hx2, if_pos hy1, c20, ret9, b54_46]
          · have hy2 : ¬ y ≤ 8 := fun z => hy ⟨i32_nlt.mp hy1, z⟩
            simp only [c54, if_pos hne, if_neg hx1, if_neg hx2, if_neg hy1, if_neg hy2, c20, ret9, b54_46]
        · rw [← TBe z1]
          simp only [c218b, inM, bi1 hx, ret9, b218b_25, j10, if_false, bi0 hy, b218b_35, j00, not_true_eq_false, c187, b218b_43]
    · refine deny 2 (by decide) ?_ ?_
      · by_cases hx1 : x < 1
        · simp only [c54, if_pos hne, if_pos hx1, c20, ret9, b54_46]
        · have hx2 : 8 < x := i32_nle.mp (fun z => hx ⟨i32_nlt.mp hx1, z⟩)
          simp only [c54, if_pos hne, if_neg hx1, if_pos hx2, c20, ret9, b54_46]
      · rw [← TBe z1]
        simp only [c218b, inM, bi0 hx, ret9, b218b_25, j00, if_true, c187, b218b_43]
