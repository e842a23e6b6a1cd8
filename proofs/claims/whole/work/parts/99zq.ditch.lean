/-! Ditches: walks along borders, groups joined -/
def WKd (A : Nat → Nat → Prop) : Nat → Nat → Nat → Prop
  | 0, u, v => u = v
  | m + 1, u, v => ∃ p, WKd A m u p ∧ A p v
theorem wk_app {A : Nat → Nat → Prop} {m u v : Nat} (h : WKd A m u v) : ∀ k x, WKd A k v x → WKd A (m + k) u x
  | 0, x, h2 => by
    have : v = x := h2
    subst this
    exact h
  | k + 1, x, h2 => by
    obtain ⟨p, p1, p2⟩ := h2
    exact ⟨p, wk_app h k p p1, p2⟩
theorem wk_one {A : Nat → Nat → Prop} {u v : Nat} (h : A u v) : WKd A 1 u v := ⟨u, rfl, h⟩
theorem wk_rev {A : Nat → Nat → Prop} (hs : ∀ u v, A u v → A v u) : ∀ m u v, WKd A m u v → WKd A m v u
  | 0, u, v, h => Eq.symm h
  | m + 1, u, v, h => by
    obtain ⟨p, p1, p2⟩ := h
    have := wk_app (wk_one (hs p v p2)) m u (wk_rev hs m u p p1)
    rwa [Nat.add_comm] at this
theorem wk_fun {A : Nat → Nat → Prop} : ∀ m u v, WKd A m u v → ∃ p : Nat → Nat, p 0 = u ∧ p m = v ∧ ∀ i, i < m → A (p i) (p (i + 1))
  | 0, u, v, h => ⟨fun _ => u, rfl, h, fun i hi => absurd hi (by omega)⟩
  | m + 1, u, v, h => by
    obtain ⟨q, q1, q2⟩ := h
    obtain ⟨p, p1, p2, p3⟩ := wk_fun m u q q1
    refine ⟨fun i => if i ≤ m then p i else v, by show (if 0 ≤ m then p 0 else v) = u; rw [if_pos (by omega)]; exact p1, by show (if m + 1 ≤ m then _ else v) = v; rw [if_neg (by omega)], fun i hi => ?_⟩
    show A (if i ≤ m then p i else v) (if i + 1 ≤ m then p (i + 1) else v)
    rw [if_pos (by omega)]
    by_cases z : i + 1 ≤ m
    · rw [if_pos z]; exact p3 i (by omega)
    · rw [if_neg z, show i = m by omega, p2]; exact q2
theorem fun_wk {A : Nat → Nat → Prop} (p : Nat → Nat) (i : Nat) : ∀ k, (∀ j, i ≤ j → j < i + k → A (p j) (p (j + 1))) → WKd A k (p i) (p (i + k))
  | 0, _ => rfl
  | k + 1, h => ⟨p (i + k), fun_wk p i k (fun j h1 h2 => h j h1 (by omega)), h (i + k) (by omega) (by omega)⟩
/-- no walk need be longer than there are corners -/
theorem wk_short {A : Nat → Nat → Prop} {N : Nat} (hA : ∀ u v, A u v → u < N ∧ v < N) {u : Nat} (hu : u < N) : ∀ b m v, m ≤ b → WKd A m u v → ∃ k, k ≤ m ∧ k < N ∧ WKd A k u v
  | 0, m, v, hb, h => ⟨m, Nat.le_refl m, by omega, h⟩
  | b + 1, m, v, hb, h => by
    by_cases z : m < N
    · exact ⟨m, Nat.le_refl m, z, h⟩
    · obtain ⟨p, p1, p2, p3⟩ := wk_fun m u v h
      have hp : ∀ i, i ≤ N → p i < N := fun i hi => by
        cases i with
        | zero => rw [p1]; exact hu
        | succ i => exact (hA _ _ (p3 i (by omega))).2
      obtain ⟨i, j, h1, h2, h3⟩ := pigeon N p hp
      have w1 := fun_wk (A := A) p 0 i (fun q _ h2 => p3 q (by omega))
      have w2 := fun_wk (A := A) p j (m - j) (fun q _ h2 => p3 q (by omega))
      rw [Nat.zero_add, p1] at w1
      rw [show j + (m - j) = m by omega, p2, ← h3] at w2
      obtain ⟨k, k1, k2, k3⟩ := wk_short hA hu b (i + (m - j)) v (by omega) (wk_app w1 (m - j) v w2)
      exact ⟨k, by omega, k2, k3⟩
theorem sub16 : ∀ S P : Fin 16, 0 < P.val → P.val < S.val → P.val &&& S.val = P.val → 0 < S.val ^^^ P.val ∧ S.val ^^^ P.val < S.val ∧ (S.val ^^^ P.val) &&& S.val = S.val ^^^ P.val ∧ S.val ^^^ (S.val ^^^ P.val) = P.val := by decide
/-- a proper part of a group -/
def SBG (P S : Nat) : Prop := S < 16 ∧ 0 < P ∧ P < S ∧ P &&& S = P
theorem SBG_x {P S : Nat} (h : SBG P S) : SBG (S ^^^ P) S ∧ S ^^^ (S ^^^ P) = P := by
  obtain ⟨h1, h2, h3, h4⟩ := h
  obtain ⟨a, b, c, d⟩ := sub16 ⟨S, h1⟩ ⟨P, by omega⟩ h2 h3 h4
  exact ⟨⟨h1, a, b, c⟩, d⟩
section DPS
variable (A : Nat → Nat → Prop) (cor : Nat → Nat) (t : Nat)
/-- a group and a corner joined by n sides -/
def BG (S : Nat) (v n : Nat) : Prop := ∃ u n0 m, ((∃ k, k < t ∧ S = 2 ^ k ∧ u = cor k ∧ n0 = 0) ∨ ∃ P, ∃ _ : SBG P S, ∃ n1 n2, BG P u n1 ∧ BG (S ^^^ P) u n2 ∧ n0 = n1 + n2) ∧ WKd A m u v ∧ n = n0 + m
termination_by S
decreasing_by
  · rename_i h; exact h.2.2.1
  · rename_i h; exact (SBG_x h).1.2.2.1
def IG (S : Nat) (u n0 : Nat) : Prop := (∃ k, k < t ∧ S = 2 ^ k ∧ u = cor k ∧ n0 = 0) ∨ ∃ P, SBG P S ∧ ∃ n1 n2, BG A cor t P u n1 ∧ BG A cor t (S ^^^ P) u n2 ∧ n0 = n1 + n2
theorem BG_iff (S v n : Nat) : BG A cor t S v n ↔ ∃ u n0 m, IG A cor t S u n0 ∧ WKd A m u v ∧ n = n0 + m := by
  rw [BG]
  constructor
  · intro ⟨u, n0, m, h1, h2, h3⟩
    refine ⟨u, n0, m, ?_, h2, h3⟩
    rcases h1 with h1 | ⟨P, hP, h1⟩
    · exact .inl h1
    · exact .inr ⟨P, hP, h1⟩
  · intro ⟨u, n0, m, h1, h2, h3⟩
    refine ⟨u, n0, m, ?_, h2, h3⟩
    rcases h1 with h1 | ⟨P, hP, h1⟩
    · exact .inl h1
    · exact .inr ⟨P, hP, h1⟩
theorem BG_mv {S u v n m : Nat} (h : BG A cor t S u n) (hw : WKd A m u v) : BG A cor t S v (n + m) := by
  rw [BG_iff] at h ⊢
  obtain ⟨x, n0, k, h1, h2, h3⟩ := h
  exact ⟨x, n0, k + m, h1, wk_app h2 m v hw, by omega⟩
theorem BG_1 {k : Nat} (hk : k < t) {v n : Nat} (h : WKd A n (cor k) v) : BG A cor t (2 ^ k) v n := by
  rw [BG_iff]
  exact ⟨cor k, 0, n, .inl ⟨k, hk, rfl, rfl, rfl⟩, h, by omega⟩
theorem BG_2 {P S u n1 n2 : Nat} (hP : SBG P S) (h1 : BG A cor t P u n1) (h2 : BG A cor t (S ^^^ P) u n2) : BG A cor t S u (n1 + n2) := by
  rw [BG_iff]
  exact ⟨u, n1 + n2, 0, .inr ⟨P, hP, n1, n2, h1, h2, rfl⟩, rfl, by omega⟩
theorem BG_lt {N : Nat} (hA : ∀ u v, A u v → u < N ∧ v < N) (hc : ∀ k, k < t → cor k < N) : ∀ b S, S ≤ b → ∀ v n, BG A cor t S v n → v < N := by
  intro b
  induction b with
  | zero =>
    intro S hS v n h
    rw [BG_iff] at h
    obtain ⟨u, n0, m, h1, h2, -⟩ := h
    rcases h1 with ⟨k, k1, k2, k3, -⟩ | ⟨P, hP, -⟩
    · have : 0 < 2 ^ k := Nat.pow_pos (by omega)
      omega
    · have := hP.2.2.1; omega
  | succ b ih =>
    intro S hS v n h
    rw [BG_iff] at h
    obtain ⟨u, n0, m, h1, h2, -⟩ := h
    have hu : u < N := by
      rcases h1 with ⟨k, k1, k2, k3, -⟩ | ⟨P, hP, n1, n2, q1, -⟩
      · rw [k3]; exact hc k k1
      · exact ih P (by have := hP.2.2.1; omega) u n1 q1
    cases m with
    | zero => have : u = v := h2; omega
    | succ m => obtain ⟨p, -, p2⟩ := h2; exact (hA p v p2).2
/-- an array holds, for a group, the least numbers -/
def RPG (N inf S : Nat) (val : Nat → Nat) : Prop := ∀ v, v < N → val v ≤ inf ∧ (val v < inf → BG A cor t S v (val v)) ∧ ∀ n, BG A cor t S v n → val v ≤ n
def RIG (N inf S : Nat) (val : Nat → Nat) : Prop := ∀ v, v < N → val v ≤ inf ∧ (val v < inf → IG A cor t S v (val v)) ∧ ∀ n, IG A cor t S v n → val v ≤ n
/-- what spreading makes of an array -/
def SPR (N inf : Nat) (ini cur : Nat → Nat) : Prop := (∀ v, v < N → cur v ≤ ini v) ∧ (∀ v, v < N → cur v < inf → ∃ u m, u < N ∧ WKd A m u v ∧ ini u + m = cur v) ∧ (∀ u v m, u < N → v < N → WKd A m u v → cur v ≤ ini u + m)
theorem RPG_of {N inf S : Nat} {ini cur : Nat → Nat} (hA : ∀ u v, A u v → u < N ∧ v < N) (hc : ∀ k, k < t → cor k < N) (hI : RIG A cor t N inf S ini) (hS : SPR A N inf ini cur) : RPG A cor t N inf S cur := by
  obtain ⟨s1, s2, s3⟩ := hS
  intro v hv
  refine ⟨Nat.le_trans (s1 v hv) (hI v hv).1, fun z => ?_, fun n h => ?_⟩
  · obtain ⟨u, m, h1, h2, h3⟩ := s2 v hv z
    rw [BG_iff]
    exact ⟨u, ini u, m, (hI u h1).2.1 (by omega), h2, h3.symm⟩
  · rw [BG_iff] at h
    obtain ⟨u, n0, m, h1, h2, h3⟩ := h
    have hu : u < N := by
      rcases h1 with ⟨k, k1, k2, k3, -⟩ | ⟨P, hP, n1, n2, q1, -⟩
      · rw [k3]; exact hc k k1
      · exact BG_lt A cor t hA hc P P (Nat.le_refl P) u n1 q1
    have a := (hI u hu).2.2 n0 h1
    have b := s3 u v m hu hv h2
    omega
end DPS
