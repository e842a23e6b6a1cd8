/-! Cells and owners, as the class and the reference test them -/
theorem j10 : ((1 : Int32) = 0) = False := eq_false (by decide)
theorem j00 : ((0 : Int32) = 0) = True := eq_true rfl
theorem j01 : ((0 : Int32) = 1) = False := eq_false (by decide)
theorem j11 : ((1 : Int32) = 1) = True := eq_true rfl
/-- a number below n -/
def cl (n : Nat) (x : Int32) : Prop := 0 ≤ x ∧ x < nn n
theorem cl_of {n : Nat} (hn : n < 2147483648) {x : Int32} (h : cl n x) : ∃ c, c < n ∧ x = nn c := by
  obtain ⟨h1, h2⟩ := h
  obtain ⟨e, hl⟩ := nn_of h1
  refine ⟨x.toNatClampNeg, ?_, e⟩
  rw [e] at h2
  exact (nn_lt hl hn).mp h2
theorem cl_nn {n c : Nat} (hn : n < 2147483648) (h : c < n) : cl n (nn c) := ⟨nn_nonneg (by omega), (nn_lt (by omega) hn).mpr h⟩
noncomputable def bi (p : Prop) : Int32 := by
  classical
  exact if p then 1 else 0
theorem bi1 {p : Prop} (h : p) : bi p = 1 := by unfold bi; rw [if_pos h]
theorem bi0 {p : Prop} (h : ¬ p) : bi p = 0 := by unfold bi; rw [if_neg h]
theorem i32_nlt {x y : Int32} : (¬ x < y) ↔ y ≤ x := by
  rw [Int32.lt_iff_toInt_lt, Int32.le_iff_toInt_le]; omega
theorem i32_nle {x y : Int32} : (¬ x ≤ y) ↔ y < x := by
  rw [Int32.lt_iff_toInt_lt, Int32.le_iff_toInt_le]; omega
theorem cellC (d : Nat) {n : Nat} (x : Int32) (I : PI) (J : PJ) (T : TL) (hn : I 5 0 9 = nn n) : cal d 68 [vr 5 0, vi x] (MX I J T) = some (.inl (some (vi (bi (cl n x)))), MX I J T) := by
  rw [c68, hn]
  by_cases h1 : x < 0
  · rw [if_pos h1, bi0 (fun h => i32_nlt.mpr h.1 h1)]
  · rw [if_neg h1]
    by_cases h2 : nn n ≤ x
    · rw [if_pos h2, bi0 (fun h => i32_nle.mpr h.2 h2)]
    · rw [if_neg h2, bi1 ⟨i32_nlt.mp h1, i32_nle.mp h2⟩]
theorem cellM (d : Nat) {n : Nat} (x : Int32) (I : PI) (J : PJ) (T : TL) (hn : I 14 0 24 = nn n) : cal d 221 [vr 14 0, vi x] (MX I J T) = some (.inl (some (vi (bi (cl n x)))), MX I J T) := by
  rw [c221, hn]
  by_cases h1 : x < 0
  · rw [if_pos h1, bi0 (fun h => i32_nlt.mpr h.1 h1)]
  · rw [if_neg h1]
    by_cases h2 : nn n ≤ x
    · rw [if_pos h2, bi0 (fun h => i32_nle.mpr h.2 h2)]
    · rw [if_neg h2, bi1 ⟨i32_nlt.mp h1, i32_nle.mp h2⟩]
/-- an owner, where there is a ground -/
def ol (n o : Nat) (x : Int32) : Prop := 0 < n ∧ cl o x
theorem le0 {n : Nat} (hn : n < 2147483648) : (nn n ≤ 0) ↔ n = 0 := by
  rw [show (0 : Int32) = nn 0 from rfl, nn_le hn (by omega)]; omega
theorem ownC (d : Nat) {n o : Nat} (x : Int32) (I : PI) (J : PJ) (T : TL) (hn : I 5 0 9 = nn n) (hl : n < 2147483648) (ho : I 1 T.1 3 = nn o) : cal (d + 1) 73 [vr 5 0, vi x] (MX I J T) = some (.inl (some (vi (bi (ol n o x)))), MX I J T) := by
  rw [c73, c74, hn]
  by_cases h0 : nn n ≤ 0
  · rw [if_pos h0]
    refine (b73_4 (d + 1) x 0 I J T).trans ?_
    rw [if_pos rfl, bi0 (fun h => absurd h.1 (by rw [(le0 hl).mp h0]; omega))]
  · rw [if_neg h0]
    have h0' : 0 < n := by
      rw [le0 hl] at h0; omega
    refine (b73_4 (d + 1) x 1 I J T).trans ?_
    rw [if_neg (by decide), ho]
    by_cases h1 : x < 0
    · rw [if_pos h1, bi0 (fun h => i32_nlt.mpr h.2.1 h1)]
    · rw [if_neg h1]
      by_cases h2 : nn o ≤ x
      · rw [if_pos h2, bi0 (fun h => i32_nle.mpr h.2.2 h2)]
      · rw [if_neg h2, bi1 ⟨h0', i32_nlt.mp h1, i32_nle.mp h2⟩]
theorem TBe {T : TL} {b : Nat} (h : T.2.2.1 = ro 12 b) : TB T b = T := by
  obtain ⟨g, dr, mb, r⟩ := T
  cases h
  rfl
theorem TNe {T : TL} (h : T.2.2.1 = rz) : TN T = T := by
  obtain ⟨g, dr, mb, r⟩ := T
  cases h
  rfl
theorem ownM (d : Nat) {n o g : Nat} (x : Int32) (I : PI) (J : PJ) (T : TL) (hn : I 14 0 24 = nn n) (hl : n < 2147483648) (hB : RelB I g T.2.2.1 o) (hno : 0 < n → 0 < o) : cal d 225 [vr 14 0, vi x] (MX I J T) = some (.inl (some (vi (bi (ol n o x)))), MX I J T) := by
  rcases hB with ⟨h1, h2, -⟩ | ⟨b, h1, h2, h3, h4, h5, -⟩
  · have h0 : n = 0 := by omega
    rw [← TNe h2, c225n, hn, if_pos ((le0 hl).mpr h0), bi0 (fun h => absurd h.1 (by omega))]
  · rw [← TBe h1, c225, hn, h5]
    by_cases h0 : nn n ≤ 0
    · rw [if_pos h0, bi0 (fun h => absurd h.1 (by rw [(le0 hl).mp h0]; omega))]
    · rw [if_neg h0]
      have h0' : 0 < n := by
        rw [le0 hl] at h0; omega
      by_cases h1 : x < 0
      · rw [if_pos h1, bi0 (fun h => i32_nlt.mpr h.2.1 h1)]
      · rw [if_neg h1]
        by_cases h2 : nn o ≤ x
        · rw [if_pos h2, bi0 (fun h => i32_nle.mpr h.2.2 h2)]
        · rw [if_neg h2, bi1 ⟨h0', i32_nlt.mp h1, i32_nle.mp h2⟩]
theorem inM (d : Nat) (x a b : Int32) (I : PI) (J : PJ) (T : TL) : cal d 219 [vi x, vi a, vi b] (MX I J T) = some (.inl (some (vi (bi (a ≤ x ∧ x ≤ b)))), MX I J T) := by
  rw [c219]
  by_cases h1 : x < a
  · rw [if_pos h1, bi0 (fun h => i32_nlt.mpr h.1 h1)]
  · rw [if_neg h1]
    by_cases h2 : b < x
    · rw [if_pos h2, bi0 (fun h => i32_nlt.mpr h.2 h2)]
    · rw [if_neg h2, bi1 ⟨i32_nlt.mp h1, i32_nlt.mp h2⟩]
/-- what is left of a refused call: trouble, and where -/
theorem relA_tr {I : PI} (t : Int32) (ht : ¬ t = 4) (h : RelA I) : RelA (up3 (up3 (up3 (up3 I 11 0 15 t) 14 0 0 0) 14 0 1 t) 14 0 2 (-1)) := by
  obtain ⟨h1, h2, h3, h4, h5⟩ := h
  refine ⟨h1, rfl, ?_, h4, h5⟩
  show (-1 : Int32) = if t = 4 then _ else -1
  rw [if_neg ht]
theorem rel_tr {L : Nat} {I : PI} {J : PJ} {T : TL} (t : Int32) (ht : ¬ t = 4) (h : Rel L I J T) : Rel L (up3 (up3 (up3 (up3 I 11 0 15 t) 14 0 0 0) 14 0 1 t) 14 0 2 (-1)) J T := by
  obtain ⟨hN, hT, hA, hR⟩ := h
  exact ⟨hN, hT, relA_tr t ht hA, hR⟩
theorem up3_j {α : Type} (f : Nat → Nat → Nat → α) {k j0 i : Nat} {v : α} (k2 : Nat) {j : Nat} (h : ¬ j = j0) : up3 f k j0 i v k2 j = f k2 j := by
  funext c
  unfold up3
  by_cases h1 : k2 = k
  · rw [if_pos h1, if_neg h]
  · rw [if_neg h1]
theorem relB_congr {I I' : PI} {g : Nat} {mb : OR} {o : Nat} (h1 : I' 1 = I 1) (h12 : I' 12 = I 12) (h31 : I' 31 = I 31) (h33 : I' 33 = I 33) (h21 : ∀ j, (j = 5 * g ∨ 12 ≤ j) → I' 21 j = I 21 j) (h : RelB I g mb o) : RelB I' g mb o := by
  unfold RelB at h ⊢
  rw [h1, h12, h31, h33, h21 (5 * g) (.inl rfl)]
  rcases h with h | ⟨b, q1, q2, q3, q4, q5, q6⟩
  · exact .inl h
  · refine .inr ⟨b, q1, q2, q3, q4, q5, ?_⟩
    rw [h21 (b + 12) (.inr (Nat.le_add_left _ _))]
    exact q6
theorem VAL_congr {I I' : PI} {b w h k c : Nat} (h4 : I' 28 4 c = I 28 4 c) (h5 : I' 28 5 c = I 28 5 c) (h10 : I' 21 10 k = I 21 10 k) (h39 : I' 39 0 = I 39 0) (h33 : I' 33 = I 33) (h21 : ∀ j, 12 ≤ j → I' 21 j = I 21 j) : VAL I' b w h k c = VAL I b w h k c := by
  unfold VAL
  rw [h4, h5, h10, h39, h33, h21 (b + 12) (Nat.le_add_left _ _)]
theorem relP_congr {I I' : PI} {mb : OR} {w h o : Nat} (h4 : I' 28 4 = I 28 4) (h5 : I' 28 5 = I 28 5) (h10 : I' 21 10 = I 21 10) (h39 : I' 39 0 = I 39 0) (h33 : I' 33 = I 33) (h21 : ∀ j, 12 ≤ j → I' 21 j = I 21 j) (h34 : I' 34 0 = I 34 0) (hP : RelP I mb w h o) : RelP I' mb w h o := by
  intro b hb k hk c hc
  rw [VAL_congr (I := I) (by rw [h4]) (by rw [h5]) (by rw [h10]) h39 h33 h21, h34]
  exact hP b hb k hk c hc
theorem relN_g {L : Nat} {T : TL} (h : RelN L T) : 5 * T.1 = 0 ∨ 5 * T.1 = 5 := by
  rcases h.1 with h | h
  · exact .inl (by rw [h.1])
  · exact .inr (by rw [h.1])
/-- books and prices stay where another thing of six ints changes -/
theorem relB_21 {L : Nat} {I : PI} {T : TL} {o : Nat} (hN : RelN L T) (hB : RelB I T.1 T.2.2.1 o) (j i : Nat) (v : Int32) (hj : ¬ j = 0 ∧ ¬ j = 5 ∧ j < 12) : RelB (up3 I 21 j i v) T.1 T.2.2.1 o :=
  relB_congr (I := I) rfl rfl rfl rfl (fun j2 h2 => up3_j I 21 (by rcases h2 with h2 | h2 <;> rcases relN_g hN with h3 | h3 <;> omega)) hB
theorem relP_21 {I : PI} {mb : OR} {w h o : Nat} (hP : RelP I mb w h o) (j i : Nat) (v : Int32) (hj : j < 12 ∧ ¬ j = 10) : RelP (up3 I 21 j i v) mb w h o :=
  relP_congr (I := I) rfl rfl (up3_j I 21 (by omega)) rfl rfl (fun j2 h2 => up3_j I 21 (by omega)) rfl hP
