/-! Ditches: few corners joined -/
section FEW
variable {A : Nat → Nat → Prop} {cor : Nat → Nat} {t : Nat}
def ST3 (A : Nat → Nat → Prop) (x y z n : Nat) : Prop := ∃ u n1 n2 n3, WKd A n1 x u ∧ WKd A n2 y u ∧ WKd A n3 z u ∧ n = n1 + n2 + n3
def HH4 (A : Nat → Nat → Prop) (a b c e n : Nat) : Prop := ∃ u x n1 n2 n3 n4 n5, WKd A n1 a u ∧ WKd A n2 b u ∧ WKd A n3 u x ∧ WKd A n4 c x ∧ WKd A n5 e x ∧ n = n1 + n2 + n3 + n4 + n5
def YY4 (A : Nat → Nat → Prop) (a b c e n : Nat) : Prop := HH4 A a b c e n ∨ HH4 A a c b e n ∨ HH4 A b c a e n
theorem HH_ab {a b c e n : Nat} (h : HH4 A a b c e n) : HH4 A b a c e n := by
  obtain ⟨u, x, n1, n2, n3, n4, n5, h1, h2, h3, h4, h5, h6⟩ := h
  exact ⟨u, x, n2, n1, n3, n4, n5, h2, h1, h3, h4, h5, by omega⟩
theorem HH_ce {a b c e n : Nat} (h : HH4 A a b c e n) : HH4 A a b e c n := by
  obtain ⟨u, x, n1, n2, n3, n4, n5, h1, h2, h3, h4, h5, h6⟩ := h
  exact ⟨u, x, n1, n2, n3, n5, n4, h1, h2, h3, h5, h4, by omega⟩
theorem HH_sw (hs : ∀ u v, A u v → A v u) {a b c e n : Nat} (h : HH4 A a b c e n) : HH4 A c e a b n := by
  obtain ⟨u, x, n1, n2, n3, n4, n5, h1, h2, h3, h4, h5, h6⟩ := h
  exact ⟨x, u, n4, n5, n3, n1, n2, h4, h5, wk_rev hs _ _ _ h3, h1, h2, by omega⟩
theorem YY_ce (hs : ∀ u v, A u v → A v u) {a b c e n : Nat} (h : YY4 A a b c e n) : YY4 A a b e c n := by
  rcases h with h | h | h
  · exact .inl (HH_ce h)
  · exact .inr (.inr (HH_sw hs h))
  · exact .inr (.inl (HH_sw hs h))
theorem YY_bc {a b c e n : Nat} (h : YY4 A a b c e n) : YY4 A a c b e n := by
  rcases h with h | h | h
  · exact .inr (.inl h)
  · exact .inl h
  · exact .inr (.inr (HH_ab h))
theorem YY_ab {a b c e n : Nat} (h : YY4 A a b c e n) : YY4 A b a c e n := by
  rcases h with h | h | h
  · exact .inl (HH_ab h)
  · exact .inr (.inr h)
  · exact .inr (.inl h)
theorem sub_d1 : ∀ S P : Fin 16, 0 < P.val → P.val < S.val → P.val &&& S.val = P.val → ¬ (S.val = 1 ∨ S.val = 2 ∨ S.val = 4 ∨ S.val = 8) := by decide
theorem sub_d2 : ∀ S P : Fin 16, 0 < P.val → P.val < S.val → P.val &&& S.val = P.val → (S.val = 3 → P.val = 1 ∨ P.val = 2) ∧ (S.val = 5 → P.val = 1 ∨ P.val = 4) ∧ (S.val = 6 → P.val = 2 ∨ P.val = 4) := by decide
theorem sub_d3 : ∀ S P : Fin 16, 0 < P.val → P.val < S.val → P.val &&& S.val = P.val → (S.val = 9 → P.val = 1 ∨ P.val = 8) ∧ (S.val = 10 → P.val = 2 ∨ P.val = 8) ∧ (S.val = 12 → P.val = 4 ∨ P.val = 8) := by decide
theorem sub_d4 : ∀ S P : Fin 16, 0 < P.val → P.val < S.val → P.val &&& S.val = P.val → S.val = 7 → P.val = 1 ∨ P.val = 2 ∨ P.val = 4 ∨ P.val = 3 ∨ P.val = 5 ∨ P.val = 6 := by decide
theorem sub_d5 : ∀ S P : Fin 16, 0 < P.val → P.val < S.val → P.val &&& S.val = P.val → S.val = 11 → P.val = 1 ∨ P.val = 2 ∨ P.val = 8 ∨ P.val = 3 ∨ P.val = 9 ∨ P.val = 10 := by decide
theorem sub_d6 : ∀ S P : Fin 16, 0 < P.val → P.val < S.val → P.val &&& S.val = P.val → S.val = 13 → P.val = 1 ∨ P.val = 4 ∨ P.val = 8 ∨ P.val = 5 ∨ P.val = 9 ∨ P.val = 12 := by decide
theorem sub_d7 : ∀ S P : Fin 16, 0 < P.val → P.val < S.val → P.val &&& S.val = P.val → S.val = 14 → P.val = 2 ∨ P.val = 4 ∨ P.val = 8 ∨ P.val = 6 ∨ P.val = 10 ∨ P.val = 12 := by decide
theorem subD {P S : Nat} (h : SBG P S) : ((S = 1 ∨ S = 2 ∨ S = 4 ∨ S = 8) → False) ∧ (S = 3 → P = 1 ∨ P = 2) ∧ (S = 5 → P = 1 ∨ P = 4) ∧ (S = 6 → P = 2 ∨ P = 4) ∧ (S = 9 → P = 1 ∨ P = 8) ∧ (S = 10 → P = 2 ∨ P = 8) ∧ (S = 12 → P = 4 ∨ P = 8) ∧ (S = 7 → P = 1 ∨ P = 2 ∨ P = 4 ∨ P = 3 ∨ P = 5 ∨ P = 6) ∧ (S = 11 → P = 1 ∨ P = 2 ∨ P = 8 ∨ P = 3 ∨ P = 9 ∨ P = 10) ∧ (S = 13 → P = 1 ∨ P = 4 ∨ P = 8 ∨ P = 5 ∨ P = 9 ∨ P = 12) ∧ (S = 14 → P = 2 ∨ P = 4 ∨ P = 8 ∨ P = 6 ∨ P = 10 ∨ P = 12) := by
  have hp : P < 16 := by have := h.1; have := h.2.2.1; omega
  obtain ⟨a1, a2, a3⟩ := sub_d2 ⟨S, h.1⟩ ⟨P, hp⟩ h.2.1 h.2.2.1 h.2.2.2
  obtain ⟨b1, b2, b3⟩ := sub_d3 ⟨S, h.1⟩ ⟨P, hp⟩ h.2.1 h.2.2.1 h.2.2.2
  exact ⟨sub_d1 ⟨S, h.1⟩ ⟨P, hp⟩ h.2.1 h.2.2.1 h.2.2.2, a1, a2, a3, b1, b2, b3, sub_d4 ⟨S, h.1⟩ ⟨P, hp⟩ h.2.1 h.2.2.1 h.2.2.2, sub_d5 ⟨S, h.1⟩ ⟨P, hp⟩ h.2.1 h.2.2.1 h.2.2.2, sub_d6 ⟨S, h.1⟩ ⟨P, hp⟩ h.2.1 h.2.2.1 h.2.2.2, sub_d7 ⟨S, h.1⟩ ⟨P, hp⟩ h.2.1 h.2.2.1 h.2.2.2⟩
theorem pw4 {k : Nat} (hk : k < 4) : 2 ^ k = 1 ∧ k = 0 ∨ 2 ^ k = 2 ∧ k = 1 ∨ 2 ^ k = 4 ∧ k = 2 ∨ 2 ^ k = 8 ∧ k = 3 := by
  rcases kq4 hk with rfl | rfl | rfl | rfl
  · exact .inl ⟨rfl, rfl⟩
  · exact .inr (.inl ⟨rfl, rfl⟩)
  · exact .inr (.inr (.inl ⟨rfl, rfl⟩))
  · exact .inr (.inr (.inr ⟨rfl, rfl⟩))
theorem sgE (ht : t ≤ 4) {k : Nat} (hk : k < 4) {v n : Nat} (h : BG A cor t (2 ^ k) v n) : WKd A n (cor k) v := by
  rw [BG_iff] at h
  obtain ⟨u, n0, m, h1, h2, h3⟩ := h
  rcases h1 with ⟨j, j1, j2, j3, j4⟩ | ⟨P, hP, -⟩
  · have : k = j := by
      have a := pw4 hk
      have b := pw4 (show j < 4 by omega)
      omega
    subst this
    subst j3
    rw [show n = m by omega]
    exact h2
  · exact ((subD hP).1 (by have := pw4 hk; omega)).elim
theorem prE (hs : ∀ u v, A u v → A v u) (ht : t ≤ 4) {Sa Sb S x y : Nat} (h1 : ∀ v n, BG A cor t Sa v n → WKd A n x v) (h2 : ∀ v n, BG A cor t Sb v n → WKd A n y v) (hS : ∀ P, SBG P S → (P = Sa ∧ S ^^^ P = Sb) ∨ (P = Sb ∧ S ^^^ P = Sa)) (hne : ∀ k, k < 4 → ¬ S = 2 ^ k) {v n : Nat} (h : BG A cor t S v n) : ST3 A x y v n := by
  rw [BG_iff] at h
  obtain ⟨u, n0, m, g1, g2, g3⟩ := h
  rcases g1 with ⟨j, j1, j2, -⟩ | ⟨P, hP, n1, n2, q1, q2, q3⟩
  · exact (hne j (by omega) j2).elim
  · rcases hS P hP with ⟨z1, z2⟩ | ⟨z1, z2⟩
    · rw [z1] at q1; rw [z2] at q2
      exact ⟨u, n1, n2, m, h1 u n1 q1, h2 u n2 q2, wk_rev hs _ _ _ g2, by omega⟩
    · rw [z1] at q1; rw [z2] at q2
      exact ⟨u, n2, n1, m, h1 u n2 q2, h2 u n1 q1, wk_rev hs _ _ _ g2, by omega⟩
/-- one and two of three, at a corner -/
theorem oneTwo (hs : ∀ u v, A u v → A v u) {x y z v u n1 n2 m n : Nat} (h1 : WKd A n1 x u) (h2 : ST3 A y z u n2) (h3 : WKd A m u v) (hn : n = n1 + n2 + m) : HH4 A y z x v n := by
  obtain ⟨q, a1, a2, a3, b1, b2, b3, b4⟩ := h2
  exact ⟨q, u, a1, a2, a3, n1, m, b1, b2, wk_rev hs _ _ _ b3, h1, wk_rev hs _ _ _ h3, by omega⟩
theorem trE (hs : ∀ u v, A u v → A v u) (ht : t ≤ 4) {Sa Sb Sc Sab Sac Sbc S x y z : Nat} (h1 : ∀ v n, BG A cor t Sa v n → WKd A n x v) (h2 : ∀ v n, BG A cor t Sb v n → WKd A n y v) (h3 : ∀ v n, BG A cor t Sc v n → WKd A n z v) (h12 : ∀ v n, BG A cor t Sab v n → ST3 A x y v n) (h13 : ∀ v n, BG A cor t Sac v n → ST3 A x z v n) (h23 : ∀ v n, BG A cor t Sbc v n → ST3 A y z v n) (hS : ∀ P, SBG P S → (P = Sa ∧ S ^^^ P = Sbc) ∨ (P = Sb ∧ S ^^^ P = Sac) ∨ (P = Sc ∧ S ^^^ P = Sab) ∨ (P = Sbc ∧ S ^^^ P = Sa) ∨ (P = Sac ∧ S ^^^ P = Sb) ∨ (P = Sab ∧ S ^^^ P = Sc)) (hne : ∀ k, k < 4 → ¬ S = 2 ^ k) {v n : Nat} (h : BG A cor t S v n) : YY4 A x y z v n := by
  rw [BG_iff] at h
  obtain ⟨u, n0, m, g1, g2, g3⟩ := h
  rcases g1 with ⟨j, j1, j2, -⟩ | ⟨P, hP, n1, n2, q1, q2, q3⟩
  · exact (hne j (by omega) j2).elim
  · rcases hS P hP with ⟨z1, z2⟩ | ⟨z1, z2⟩ | ⟨z1, z2⟩ | ⟨z1, z2⟩ | ⟨z1, z2⟩ | ⟨z1, z2⟩ <;> rw [z1] at q1 <;> rw [z2] at q2
    · exact .inr (.inr (oneTwo hs (h1 u n1 q1) (h23 u n2 q2) g2 (by omega)))
    · exact .inr (.inl (oneTwo hs (h2 u n1 q1) (h13 u n2 q2) g2 (by omega)))
    · exact .inl (oneTwo hs (h3 u n1 q1) (h12 u n2 q2) g2 (by omega))
    · exact .inr (.inr (oneTwo hs (h1 u n2 q2) (h23 u n1 q1) g2 (by omega)))
    · exact .inr (.inl (oneTwo hs (h2 u n2 q2) (h13 u n1 q1) g2 (by omega)))
    · exact .inl (oneTwo hs (h3 u n2 q2) (h12 u n1 q1) g2 (by omega))
end FEW
section FEV
variable {A : Nat → Nat → Prop} {cor : Nat → Nat} {t : Nat}
theorem p1E (ht : t ≤ 4) {v n : Nat} (h : BG A cor t 1 v n) : WKd A n (cor 0) v := sgE ht (k := 0) (by omega) h
theorem p2E (ht : t ≤ 4) {v n : Nat} (h : BG A cor t 2 v n) : WKd A n (cor 1) v := sgE ht (k := 1) (by omega) h
theorem p4E (ht : t ≤ 4) {v n : Nat} (h : BG A cor t 4 v n) : WKd A n (cor 2) v := sgE ht (k := 2) (by omega) h
theorem p8E (ht : t ≤ 4) {v n : Nat} (h : BG A cor t 8 v n) : WKd A n (cor 3) v := sgE ht (k := 3) (by omega) h
theorem ne2 {S : Nat} (h : S = 3 ∨ S = 5 ∨ S = 6 ∨ S = 9 ∨ S = 10 ∨ S = 12 ∨ S = 7 ∨ S = 11 ∨ S = 13 ∨ S = 14 ∨ S = 15) : ∀ k, k < 4 → ¬ S = 2 ^ k := fun k hk => by
  have := pw4 hk
  omega
theorem p3E (hs : ∀ u v, A u v → A v u) (ht : t ≤ 4) {v n : Nat} (h : BG A cor t 3 v n) : ST3 A (cor 0) (cor 1) v n := prE hs ht (Sa := 1) (Sb := 2) (fun _ _ => p1E ht) (fun _ _ => p2E ht) (fun P hP => by
  rcases (subD hP).2.1 rfl with rfl | rfl
  · exact .inl ⟨rfl, rfl⟩
  · exact .inr ⟨rfl, rfl⟩) (ne2 (by omega)) h
theorem p5E (hs : ∀ u v, A u v → A v u) (ht : t ≤ 4) {v n : Nat} (h : BG A cor t 5 v n) : ST3 A (cor 0) (cor 2) v n := prE hs ht (Sa := 1) (Sb := 4) (fun _ _ => p1E ht) (fun _ _ => p4E ht) (fun P hP => by
  rcases (subD hP).2.2.1 rfl with rfl | rfl
  · exact .inl ⟨rfl, rfl⟩
  · exact .inr ⟨rfl, rfl⟩) (ne2 (by omega)) h
theorem p6E (hs : ∀ u v, A u v → A v u) (ht : t ≤ 4) {v n : Nat} (h : BG A cor t 6 v n) : ST3 A (cor 1) (cor 2) v n := prE hs ht (Sa := 2) (Sb := 4) (fun _ _ => p2E ht) (fun _ _ => p4E ht) (fun P hP => by
  rcases (subD hP).2.2.2.1 rfl with rfl | rfl
  · exact .inl ⟨rfl, rfl⟩
  · exact .inr ⟨rfl, rfl⟩) (ne2 (by omega)) h
theorem p9E (hs : ∀ u v, A u v → A v u) (ht : t ≤ 4) {v n : Nat} (h : BG A cor t 9 v n) : ST3 A (cor 0) (cor 3) v n := prE hs ht (Sa := 1) (Sb := 8) (fun _ _ => p1E ht) (fun _ _ => p8E ht) (fun P hP => by
  rcases (subD hP).2.2.2.2.1 rfl with rfl | rfl
  · exact .inl ⟨rfl, rfl⟩
  · exact .inr ⟨rfl, rfl⟩) (ne2 (by omega)) h
theorem p10E (hs : ∀ u v, A u v → A v u) (ht : t ≤ 4) {v n : Nat} (h : BG A cor t 10 v n) : ST3 A (cor 1) (cor 3) v n := prE hs ht (Sa := 2) (Sb := 8) (fun _ _ => p2E ht) (fun _ _ => p8E ht) (fun P hP => by
  rcases (subD hP).2.2.2.2.2.1 rfl with rfl | rfl
  · exact .inl ⟨rfl, rfl⟩
  · exact .inr ⟨rfl, rfl⟩) (ne2 (by omega)) h
theorem p12E (hs : ∀ u v, A u v → A v u) (ht : t ≤ 4) {v n : Nat} (h : BG A cor t 12 v n) : ST3 A (cor 2) (cor 3) v n := prE hs ht (Sa := 4) (Sb := 8) (fun _ _ => p4E ht) (fun _ _ => p8E ht) (fun P hP => by
  rcases (subD hP).2.2.2.2.2.2.1 rfl with rfl | rfl
  · exact .inl ⟨rfl, rfl⟩
  · exact .inr ⟨rfl, rfl⟩) (ne2 (by omega)) h
theorem p7E (hs : ∀ u v, A u v → A v u) (ht : t ≤ 4) {v n : Nat} (h : BG A cor t 7 v n) : YY4 A (cor 0) (cor 1) (cor 2) v n := trE hs ht (Sa := 1) (Sb := 2) (Sc := 4) (Sab := 3) (Sac := 5) (Sbc := 6) (fun _ _ => p1E ht) (fun _ _ => p2E ht) (fun _ _ => p4E ht) (fun _ _ => p3E hs ht) (fun _ _ => p5E hs ht) (fun _ _ => p6E hs ht) (fun P hP => by
  rcases (subD hP).2.2.2.2.2.2.2.1 rfl with rfl | rfl | rfl | rfl | rfl | rfl <;> decide) (ne2 (by omega)) h
theorem p11E (hs : ∀ u v, A u v → A v u) (ht : t ≤ 4) {v n : Nat} (h : BG A cor t 11 v n) : YY4 A (cor 0) (cor 1) (cor 3) v n := trE hs ht (Sa := 1) (Sb := 2) (Sc := 8) (Sab := 3) (Sac := 9) (Sbc := 10) (fun _ _ => p1E ht) (fun _ _ => p2E ht) (fun _ _ => p8E ht) (fun _ _ => p3E hs ht) (fun _ _ => p9E hs ht) (fun _ _ => p10E hs ht) (fun P hP => by
  rcases (subD hP).2.2.2.2.2.2.2.2.1 rfl with rfl | rfl | rfl | rfl | rfl | rfl <;> decide) (ne2 (by omega)) h
theorem p13E (hs : ∀ u v, A u v → A v u) (ht : t ≤ 4) {v n : Nat} (h : BG A cor t 13 v n) : YY4 A (cor 0) (cor 2) (cor 3) v n := trE hs ht (Sa := 1) (Sb := 4) (Sc := 8) (Sab := 5) (Sac := 9) (Sbc := 12) (fun _ _ => p1E ht) (fun _ _ => p4E ht) (fun _ _ => p8E ht) (fun _ _ => p5E hs ht) (fun _ _ => p9E hs ht) (fun _ _ => p12E hs ht) (fun P hP => by
  rcases (subD hP).2.2.2.2.2.2.2.2.2.1 rfl with rfl | rfl | rfl | rfl | rfl | rfl <;> decide) (ne2 (by omega)) h
theorem p14E (hs : ∀ u v, A u v → A v u) (ht : t ≤ 4) {v n : Nat} (h : BG A cor t 14 v n) : YY4 A (cor 1) (cor 2) (cor 3) v n := trE hs ht (Sa := 2) (Sb := 4) (Sc := 8) (Sab := 6) (Sac := 10) (Sbc := 12) (fun _ _ => p2E ht) (fun _ _ => p4E ht) (fun _ _ => p8E ht) (fun _ _ => p6E hs ht) (fun _ _ => p10E hs ht) (fun _ _ => p12E hs ht) (fun P hP => by
  rcases (subD hP).2.2.2.2.2.2.2.2.2.2 rfl with rfl | rfl | rfl | rfl | rfl | rfl <;> decide) (ne2 (by omega)) h
theorem twoTwo (hs : ∀ u v, A u v → A v u) {a b c e u n1 n2 : Nat} (h1 : ST3 A a b u n1) (h2 : ST3 A c e u n2) : HH4 A a b c e (n1 + n2) := by
  obtain ⟨x, a1, a2, a3, x1, x2, x3, x4⟩ := h1
  obtain ⟨y, b1, b2, b3, y1, y2, y3, y4⟩ := h2
  exact ⟨x, y, a1, a2, a3 + b3, b1, b2, x1, x2, wk_app (wk_rev hs _ _ _ x3) _ _ y3, y1, y2, by omega⟩
/-- all four: from the reference's side -/
theorem p15E (hs : ∀ u v, A u v → A v u) (ht : t ≤ 4) {v n : Nat} (h : BG A cor t 15 v n) : ∃ k, k ≤ n ∧ YY4 A (cor 0) (cor 1) (cor 2) (cor 3) k := by
  rw [BG_iff] at h
  obtain ⟨u, n0, m, g1, g2, g3⟩ := h
  rcases g1 with ⟨j, j1, j2, -⟩ | ⟨P, hP, n1, n2, q1, q2, q3⟩
  · exact (ne2 (S := 15) (by omega) j (by omega) j2).elim
  · have hP15 := hP.2.2.1
    have hP0 := hP.2.1
    have s1 : ∀ a b, BG A cor t 1 u a → BG A cor t 14 u b → YY4 A (cor 0) (cor 1) (cor 2) (cor 3) (b + a) := fun a b x y => YY_ab (YY_bc (YY_ce hs (p14E hs ht (BG_mv A cor t y (wk_rev hs _ _ _ (p1E ht x))))))
    have s2 : ∀ a b, BG A cor t 2 u a → BG A cor t 13 u b → YY4 A (cor 0) (cor 1) (cor 2) (cor 3) (b + a) := fun a b x y => YY_bc (YY_ce hs (p13E hs ht (BG_mv A cor t y (wk_rev hs _ _ _ (p2E ht x)))))
    have s4 : ∀ a b, BG A cor t 4 u a → BG A cor t 11 u b → YY4 A (cor 0) (cor 1) (cor 2) (cor 3) (b + a) := fun a b x y => YY_ce hs (p11E hs ht (BG_mv A cor t y (wk_rev hs _ _ _ (p4E ht x))))
    have s8 : ∀ a b, BG A cor t 8 u a → BG A cor t 7 u b → YY4 A (cor 0) (cor 1) (cor 2) (cor 3) (b + a) := fun a b x y => p7E hs ht (BG_mv A cor t y (wk_rev hs _ _ _ (p8E ht x)))
    have s3 : ∀ a b, BG A cor t 3 u a → BG A cor t 12 u b → YY4 A (cor 0) (cor 1) (cor 2) (cor 3) (a + b) := fun a b x y => .inl (twoTwo hs (p3E hs ht x) (p12E hs ht y))
    have s5 : ∀ a b, BG A cor t 5 u a → BG A cor t 10 u b → YY4 A (cor 0) (cor 1) (cor 2) (cor 3) (a + b) := fun a b x y => .inr (.inl (twoTwo hs (p5E hs ht x) (p10E hs ht y)))
    have s6 : ∀ a b, BG A cor t 6 u a → BG A cor t 9 u b → YY4 A (cor 0) (cor 1) (cor 2) (cor 3) (a + b) := fun a b x y => .inr (.inr (twoTwo hs (p6E hs ht x) (p9E hs ht y)))
    have c : P = 1 ∨ P = 2 ∨ P = 3 ∨ P = 4 ∨ P = 5 ∨ P = 6 ∨ P = 7 ∨ P = 8 ∨ P = 9 ∨ P = 10 ∨ P = 11 ∨ P = 12 ∨ P = 13 ∨ P = 14 := by omega
    rcases c with rfl | rfl | rfl | rfl | rfl | rfl | rfl | rfl | rfl | rfl | rfl | rfl | rfl | rfl
    · exact ⟨n2 + n1, by omega, s1 n1 n2 q1 q2⟩
    · exact ⟨n2 + n1, by omega, s2 n1 n2 q1 q2⟩
    · exact ⟨n1 + n2, by omega, s3 n1 n2 q1 q2⟩
    · exact ⟨n2 + n1, by omega, s4 n1 n2 q1 q2⟩
    · exact ⟨n1 + n2, by omega, s5 n1 n2 q1 q2⟩
    · exact ⟨n1 + n2, by omega, s6 n1 n2 q1 q2⟩
    · exact ⟨n1 + n2, by omega, s8 n2 n1 q2 q1⟩
    · exact ⟨n2 + n1, by omega, s8 n1 n2 q1 q2⟩
    · exact ⟨n2 + n1, by omega, s6 n2 n1 q2 q1⟩
    · exact ⟨n2 + n1, by omega, s5 n2 n1 q2 q1⟩
    · exact ⟨n1 + n2, by omega, s4 n2 n1 q2 q1⟩
    · exact ⟨n2 + n1, by omega, s3 n2 n1 q2 q1⟩
    · exact ⟨n1 + n2, by omega, s2 n2 n1 q2 q1⟩
    · exact ⟨n1 + n2, by omega, s1 n2 n1 q2 q1⟩
/-- and built -/
theorem prI {Sa Sb S x y v n : Nat} (hP : SBG Sa S) (hx : S ^^^ Sa = Sb) (h1 : ∀ n, WKd A n x v → BG A cor t Sa v n) (h2 : ∀ n, WKd A n y v → BG A cor t Sb v n) {n1 n2 : Nat} (w1 : WKd A n1 x v) (w2 : WKd A n2 y v) (hn : n = n1 + n2) : BG A cor t S v n := by
  rw [hn]
  exact BG_2 A cor t hP (h1 n1 w1) (by rw [hx]; exact h2 n2 w2)
theorem st3I (hs : ∀ u v, A u v → A v u) {Sa Sb S x y v n : Nat} (hP : SBG Sa S) (hx : S ^^^ Sa = Sb) (h1 : ∀ u n, WKd A n x u → BG A cor t Sa u n) (h2 : ∀ u n, WKd A n y u → BG A cor t Sb u n) (h : ST3 A x y v n) : BG A cor t S v n := by
  obtain ⟨u, n1, n2, n3, w1, w2, w3, hn⟩ := h
  rw [hn]
  exact BG_mv A cor t (prI hP hx (h1 u) (h2 u) w1 w2 rfl) (wk_rev hs _ _ _ w3)
/-- two, one, and the corner itself -/
theorem hhI (hs : ∀ u v, A u v → A v u) {Sa Sb Sc Sab S x y z v n : Nat} (hP : SBG Sa Sab) (hx : Sab ^^^ Sa = Sb) (hQ : SBG Sab S) (hy : S ^^^ Sab = Sc) (h1 : ∀ u n, WKd A n x u → BG A cor t Sa u n) (h2 : ∀ u n, WKd A n y u → BG A cor t Sb u n) (h3 : ∀ u n, WKd A n z u → BG A cor t Sc u n) (h : HH4 A x y z v n) : BG A cor t S v n := by
  obtain ⟨u, q, n1, n2, n3, n4, n5, w1, w2, w3, w4, w5, hn⟩ := h
  have b1 : BG A cor t Sab q (n1 + n2 + n3) := BG_mv A cor t (prI hP hx (h1 u) (h2 u) w1 w2 rfl) w3
  have b2 := BG_mv A cor t (BG_2 A cor t hQ b1 (by rw [hy]; exact h3 q n4 w4)) (wk_rev hs _ _ _ w5)
  rw [hn]
  exact b2
theorem YYI (hs : ∀ u v, A u v → A v u) (h0 : 0 < t) (h1 : 1 < t) (h2 : 2 < t) {v n : Nat} (h : YY4 A (cor 0) (cor 1) (cor 2) v n) : BG A cor t 7 v n := by
  have a1 : ∀ u n, WKd A n (cor 0) u → BG A cor t 1 u n := fun u n q => BG_1 A cor t h0 q
  have a2 : ∀ u n, WKd A n (cor 1) u → BG A cor t 2 u n := fun u n q => BG_1 A cor t h1 q
  have a3 : ∀ u n, WKd A n (cor 2) u → BG A cor t 4 u n := fun u n q => BG_1 A cor t h2 q
  rcases h with h | h | h
  · exact hhI hs (Sa := 1) (Sb := 2) (Sc := 4) (Sab := 3) ⟨by decide, by decide, by decide, by decide⟩ (by decide) ⟨by decide, by decide, by decide, by decide⟩ (by decide) a1 a2 a3 h
  · exact hhI hs (Sa := 1) (Sb := 4) (Sc := 2) (Sab := 5) ⟨by decide, by decide, by decide, by decide⟩ (by decide) ⟨by decide, by decide, by decide, by decide⟩ (by decide) a1 a3 a2 h
  · exact hhI hs (Sa := 2) (Sb := 4) (Sc := 1) (Sab := 6) ⟨by decide, by decide, by decide, by decide⟩ (by decide) ⟨by decide, by decide, by decide, by decide⟩ (by decide) a2 a3 a1 h
theorem YYI2 (hs : ∀ u v, A u v → A v u) (h1 : 1 < t) (h2 : 2 < t) (h3 : 3 < t) {v n : Nat} (h : YY4 A (cor 1) (cor 2) (cor 3) v n) : BG A cor t 14 v n := by
  have a1 : ∀ u n, WKd A n (cor 1) u → BG A cor t 2 u n := fun u n q => BG_1 A cor t h1 q
  have a2 : ∀ u n, WKd A n (cor 2) u → BG A cor t 4 u n := fun u n q => BG_1 A cor t h2 q
  have a3 : ∀ u n, WKd A n (cor 3) u → BG A cor t 8 u n := fun u n q => BG_1 A cor t h3 q
  rcases h with h | h | h
  · exact hhI hs (Sa := 2) (Sb := 4) (Sc := 8) (Sab := 6) ⟨by decide, by decide, by decide, by decide⟩ (by decide) ⟨by decide, by decide, by decide, by decide⟩ (by decide) a1 a2 a3 h
  · exact hhI hs (Sa := 2) (Sb := 8) (Sc := 4) (Sab := 10) ⟨by decide, by decide, by decide, by decide⟩ (by decide) ⟨by decide, by decide, by decide, by decide⟩ (by decide) a1 a3 a2 h
  · exact hhI hs (Sa := 4) (Sb := 8) (Sc := 2) (Sab := 12) ⟨by decide, by decide, by decide, by decide⟩ (by decide) ⟨by decide, by decide, by decide, by decide⟩ (by decide) a2 a3 a1 h
end FEV
