/-! Ditches: the class's question and the reference's are one -/
section DEQ
variable {A : Nat → Nat → Prop} {cor : Nat → Nat} {t N : Nat}
theorem wk_lt (hA : ∀ u v, A u v → u < N ∧ v < N) {m u v : Nat} (hu : u < N) (h : WKd A m u v) : v < N := by
  cases m with
  | zero => have : u = v := h; omega
  | succ m => obtain ⟨p, -, p2⟩ := h; exact (hA p v p2).2
theorem wk_s (hA : ∀ u v, A u v → u < N ∧ v < N) {m u v : Nat} (hu : u < N) (h : WKd A m u v) : ∃ k, k ≤ m ∧ k < N ∧ WKd A k u v := wk_short hA hu m m v (Nat.le_refl m) h
theorem ST3_s (hA : ∀ u v, A u v → u < N ∧ v < N) (hN : N ≤ 81) {x y z n : Nat} (hx : x < N) (hy : y < N) (hz : z < N) (h : ST3 A x y z n) : ∃ k, k ≤ n ∧ k ≤ 240 ∧ ST3 A x y z k := by
  obtain ⟨u, n1, n2, n3, w1, w2, w3, hn⟩ := h
  obtain ⟨k1, a1, b1, c1⟩ := wk_s hA hx w1
  obtain ⟨k2, a2, b2, c2⟩ := wk_s hA hy w2
  obtain ⟨k3, a3, b3, c3⟩ := wk_s hA hz w3
  exact ⟨k1 + k2 + k3, by omega, by omega, u, k1, k2, k3, c1, c2, c3, rfl⟩
theorem HH_s (hA : ∀ u v, A u v → u < N ∧ v < N) (hN : N ≤ 81) {a b c e n : Nat} (ha : a < N) (hb : b < N) (hc : c < N) (he : e < N) (h : HH4 A a b c e n) : ∃ k, k ≤ n ∧ k ≤ 400 ∧ HH4 A a b c e k := by
  obtain ⟨u, x, n1, n2, n3, n4, n5, w1, w2, w3, w4, w5, hn⟩ := h
  obtain ⟨k1, a1, b1, c1⟩ := wk_s hA ha w1
  obtain ⟨k2, a2, b2, c2⟩ := wk_s hA hb w2
  obtain ⟨k3, a3, b3, c3⟩ := wk_s hA (wk_lt hA ha w1) w3
  obtain ⟨k4, a4, b4, c4⟩ := wk_s hA hc w4
  obtain ⟨k5, a5, b5, c5⟩ := wk_s hA he w5
  exact ⟨k1 + k2 + k3 + k4 + k5, by omega, by omega, u, x, k1, k2, k3, k4, k5, c1, c2, c3, c4, c5, rfl⟩
theorem YY_s (hA : ∀ u v, A u v → u < N ∧ v < N) (hN : N ≤ 81) {a b c e n : Nat} (ha : a < N) (hb : b < N) (hc : c < N) (he : e < N) (h : YY4 A a b c e n) : ∃ k, k ≤ n ∧ k ≤ 400 ∧ YY4 A a b c e k := by
  rcases h with h | h | h
  · obtain ⟨k, k1, k2, k3⟩ := HH_s hA hN ha hb hc he h; exact ⟨k, k1, k2, .inl k3⟩
  · obtain ⟨k, k1, k2, k3⟩ := HH_s hA hN ha hc hb he h; exact ⟨k, k1, k2, .inr (.inl k3)⟩
  · obtain ⟨k, k1, k2, k3⟩ := HH_s hA hN hb hc ha he h; exact ⟨k, k1, k2, .inr (.inr k3)⟩
theorem z0B (h : 0 < t) : BG A cor t 1 (cor 0) 0 := BG_1 A cor t (k := 0) h rfl
theorem dq_f (hs : ∀ u v, A u v → A v u) (ht2 : 2 ≤ t) (ht : t ≤ 4) {n : Nat} (h : BG A cor t (2 ^ (t - 1) - 1) (cor (t - 1)) n) : ∃ k, k ≤ n ∧ BG A cor t (2 ^ t - 1) (cor 0) k := by
  refine ⟨n, Nat.le_refl n, ?_⟩
  have ht' : t = 2 ∨ t = 3 ∨ t = 4 := by omega
  rw [show n = 0 + n by omega]
  rcases ht' with rfl | rfl | rfl
  · have w := p1E (by omega) h
    exact BG_2 A cor 2 (P := 1) ⟨by decide, by decide, by decide, by decide⟩ (z0B (by omega)) (BG_1 A cor 2 (k := 1) (by omega) (wk_rev hs _ _ _ w))
  · have w := p3E hs (by omega) h
    have w2 : ST3 A (cor 1) (cor 2) (cor 0) n := by
      obtain ⟨u, n1, n2, n3, w1, w2, w3, hn⟩ := w
      exact ⟨u, n2, n3, n1, w2, w3, w1, by omega⟩
    have b6 : BG A cor 3 6 (cor 0) n := st3I hs (Sa := 2) (Sb := 4) ⟨by decide, by decide, by decide, by decide⟩ (by decide) (fun u n q => BG_1 A cor 3 (k := 1) (by omega) q) (fun u n q => BG_1 A cor 3 (k := 2) (by omega) q) w2
    exact BG_2 A cor 3 (P := 1) ⟨by decide, by decide, by decide, by decide⟩ (z0B (by omega)) b6
  · have w := p7E hs (by omega) h
    have w2 : YY4 A (cor 1) (cor 2) (cor 3) (cor 0) n := YY_ce hs (YY_bc (YY_ab w))
    exact BG_2 A cor 4 (P := 1) ⟨by decide, by decide, by decide, by decide⟩ (z0B (by omega)) (YYI2 hs (by omega) (by omega) (by omega) w2)
theorem dq_b (hs : ∀ u v, A u v → A v u) (hA : ∀ u v, A u v → u < N ∧ v < N) (hN : N ≤ 81) (hc : ∀ k, k < t → cor k < N) (ht2 : 2 ≤ t) (ht : t ≤ 4) {n : Nat} (h : BG A cor t (2 ^ t - 1) (cor 0) n) : ∃ k, k ≤ n ∧ k ≤ 400 ∧ BG A cor t (2 ^ (t - 1) - 1) (cor (t - 1)) k := by
  have ht' : t = 2 ∨ t = 3 ∨ t = 4 := by omega
  rcases ht' with rfl | rfl | rfl
  · obtain ⟨u, n1, n2, n3, w1, w2, w3, hn⟩ := p3E hs (by omega) h
    obtain ⟨k, k1, k2, k3⟩ := wk_s hA (hc 0 (by omega)) (wk_app w1 n2 (cor 1) (wk_rev hs _ _ _ w2))
    exact ⟨k, by omega, by omega, BG_1 A cor 2 (k := 0) (by omega) k3⟩
  · have y := p7E hs (by omega) h
    have y2 : ∃ k, k ≤ n ∧ ST3 A (cor 0) (cor 1) (cor 2) k := by
      rcases y with y | y | y
      · obtain ⟨u, x, n1, n2, n3, n4, n5, w1, w2, w3, w4, w5, hn⟩ := y
        exact ⟨n1 + n2 + (n4 + n3), by omega, u, n1, n2, n4 + n3, w1, w2, wk_app w4 n3 u (wk_rev hs _ _ _ w3), rfl⟩
      · obtain ⟨u, x, n1, n2, n3, n4, n5, w1, w2, w3, w4, w5, hn⟩ := y
        exact ⟨n1 + (n4 + n3) + n2, by omega, u, n1, n4 + n3, n2, w1, wk_app w4 n3 u (wk_rev hs _ _ _ w3), w2, rfl⟩
      · obtain ⟨u, x, n1, n2, n3, n4, n5, w1, w2, w3, w4, w5, hn⟩ := y
        exact ⟨(n4 + n3) + n1 + n2, by omega, u, n4 + n3, n1, n2, wk_app w4 n3 u (wk_rev hs _ _ _ w3), w1, w2, rfl⟩
    obtain ⟨k0, a0, b0⟩ := y2
    obtain ⟨k, k1, k2, k3⟩ := ST3_s hA hN (hc 0 (by omega)) (hc 1 (by omega)) (hc 2 (by omega)) b0
    exact ⟨k, by omega, by omega, st3I hs (Sa := 1) (Sb := 2) ⟨by decide, by decide, by decide, by decide⟩ (by decide) (fun u n q => BG_1 A cor 3 (k := 0) (by omega) q) (fun u n q => BG_1 A cor 3 (k := 1) (by omega) q) k3⟩
  · obtain ⟨k0, a0, b0⟩ := p15E hs (by omega) h
    obtain ⟨k, k1, k2, k3⟩ := YY_s hA hN (hc 0 (by omega)) (hc 1 (by omega)) (hc 2 (by omega)) (hc 3 (by omega)) b0
    exact ⟨k, by omega, by omega, YYI hs (by omega) (by omega) (by omega) k3⟩
theorem dq (hs : ∀ u v, A u v → A v u) (hA : ∀ u v, A u v → u < N ∧ v < N) (hN : N ≤ 81) (hc : ∀ k, k < t → cor k < N) (ht2 : 2 ≤ t) (ht : t ≤ 4) {vc vr : Nat → Nat} (h1 : RPG A cor t N 1000 (2 ^ (t - 1) - 1) vc) (h2 : RPG A cor t N 1000000 (2 ^ t - 1) vr) : (vc (cor (t - 1)) < 1000 ∧ vr (cor 0) < 1000000 ∧ vc (cor (t - 1)) = vr (cor 0)) ∨ (¬ vc (cor (t - 1)) < 1000 ∧ ¬ vr (cor 0) < 1000000) := by
  obtain ⟨a1, a2, a3⟩ := h1 (cor (t - 1)) (hc _ (by omega))
  obtain ⟨b1, b2, b3⟩ := h2 (cor 0) (hc 0 (by omega))
  by_cases z : vr (cor 0) < 1000000
  · obtain ⟨k, k1, k2, k3⟩ := dq_b hs hA hN hc ht2 ht (b2 z)
    have e1 := a3 k k3
    obtain ⟨j, j1, j2⟩ := dq_f hs ht2 ht (a2 (by omega))
    have e2 := b3 j j2
    exact .inl ⟨by omega, z, by omega⟩
  · by_cases y : vc (cor (t - 1)) < 1000
    · obtain ⟨j, j1, j2⟩ := dq_f hs ht2 ht (a2 y)
      have e2 := b3 j j2
      omega
    · exact .inr ⟨y, z⟩
end DEQ
