/-! Ditches: lengths levelled along borders -/
def upN (f : Nat → Nat) (c v : Nat) : Nat → Nat := fun i => if i = c then v else f i
theorem upN_s (f : Nat → Nat) (c v : Nat) : upN f c v c = v := if_pos rfl
theorem upN_o (f : Nat → Nat) {c : Nat} (v : Nat) {i : Nat} (h : ¬ i = c) : upN f c v i = f i := if_neg h
section LVL
variable (eB sB : Nat → Bool) (W1 : Nat)
def AJd (u v : Nat) : Prop := (eB u = true ∧ v = u + 1) ∨ (eB v = true ∧ u = v + 1) ∨ (sB u = true ∧ v = u + W1) ∨ (sB v = true ∧ u = v + W1)
theorem AJ_s : ∀ u v, AJd eB sB W1 u v → AJd eB sB W1 v u := by
  intro u v h
  rcases h with h | h | h | h
  · exact .inr (.inl h)
  · exact .inl h
  · exact .inr (.inr (.inr h))
  · exact .inr (.inr (.inl h))
def lvl (u v : Nat) (cur : Nat → Nat) : Nat → Nat := if cur v + 1 < cur u then upN cur u (cur v + 1) else if cur u + 1 < cur v then upN cur v (cur u + 1) else cur
def lvB (u v : Nat) (cur : Nat → Nat) : Bool := decide (cur v + 1 < cur u ∨ cur u + 1 < cur v)
theorem lvl_0 {u v : Nat} {cur : Nat → Nat} (h : lvB u v cur = false) : lvl u v cur = cur ∧ cur u ≤ cur v + 1 ∧ cur v ≤ cur u + 1 := by
  have z := of_decide_eq_false h
  unfold lvl
  rw [if_neg (by omega), if_neg (by omega)]
  exact ⟨rfl, by omega, by omega⟩
theorem lvl_m (u v : Nat) (cur : Nat → Nat) (x : Nat) : lvl u v cur x ≤ cur x := by
  unfold lvl
  split
  · by_cases y : x = u
    · rw [y, upN_s]; omega
    · rw [upN_o _ _ y]; exact Nat.le_refl _
  · split
    · by_cases y : x = v
      · rw [y, upN_s]; omega
      · rw [upN_o _ _ y]; exact Nat.le_refl _
    · exact Nat.le_refl _
theorem lvl_r {u v : Nat} (huv : ¬ u = v) (cur : Nat → Nat) : lvl u v cur v ≤ cur u + 1 ∧ lvl u v cur u ≤ cur v + 1 := by
  unfold lvl
  split
  · rw [upN_o _ _ (fun y => huv y.symm), upN_s]; omega
  · split
    · rw [upN_s, upN_o _ _ huv]; omega
    · omega
theorem lvl_cases (u v : Nat) (cur : Nat → Nat) (x : Nat) : lvl u v cur x = cur x ∨ (x = u ∧ lvl u v cur x = cur v + 1) ∨ (x = v ∧ lvl u v cur x = cur u + 1) := by
  unfold lvl
  split
  · by_cases y : x = u
    · rw [y, upN_s]; exact .inr (.inl ⟨rfl, rfl⟩)
    · rw [upN_o _ _ y]; exact .inl rfl
  · split
    · by_cases y : x = v
      · rw [y, upN_s]; exact .inr (.inr ⟨rfl, rfl⟩)
      · rw [upN_o _ _ y]; exact .inl rfl
    · exact .inl rfl
abbrev CF : Type := (Nat → Nat) × Bool
/-- both ways from a corner -/
def stp2 (c : Nat) (p : CF) : CF :=
  (if sB c = true then fun q : CF => (lvl c (c + W1) q.1, q.2 || lvB c (c + W1) q.1) else fun q : CF => q) (if eB c = true then (lvl c (c + 1) p.1, p.2 || lvB c (c + 1) p.1) else p)
def stpE (c : Nat) (p : CF) : CF := if eB c = true then (lvl c (c + 1) p.1, p.2 || lvB c (c + 1) p.1) else p
def stpS (c : Nat) (p : CF) : CF := if sB c = true then (lvl c (c + W1) p.1, p.2 || lvB c (c + W1) p.1) else p
theorem stp2_es (c : Nat) (p : CF) : stp2 eB sB W1 c p = stpS sB W1 c (stpE eB c p) := by
  unfold stp2 stpS stpE
  by_cases z : sB c = true
  · rw [if_pos z, if_pos z]
  · rw [if_neg z, if_neg z]
/-- what a step of levelling keeps -/
def SND (A : Nat → Nat → Prop) (N inf : Nat) (ini cur : Nat → Nat) : Prop := ∀ v, v < N → cur v < inf → ∃ u m, u < N ∧ WKd A m u v ∧ ini u + m = cur v
theorem lvl_snd {A : Nat → Nat → Prop} {N inf u v : Nat} {ini cur : Nat → Nat} (hs : ∀ u v, A u v → A v u) (ha : A u v) (hu : u < N) (hv : v < N) (h : SND A N inf ini cur) : SND A N inf ini (lvl u v cur) := by
  intro x hx hlt
  rcases lvl_cases u v cur x with z | ⟨z1, z2⟩ | ⟨z1, z2⟩
  · rw [z] at hlt ⊢; exact h x hx hlt
  · rw [z2] at hlt ⊢
    subst z1
    obtain ⟨y, m, y1, y2, y3⟩ := h v hv (by omega)
    exact ⟨y, m + 1, y1, ⟨v, y2, hs _ _ ha⟩, by omega⟩
  · rw [z2] at hlt ⊢
    subst z1
    obtain ⟨y, m, y1, y2, y3⟩ := h u hu (by omega)
    exact ⟨y, m + 1, y1, ⟨u, y2, ha⟩, by omega⟩
variable {N : Nat} (he : ∀ c, eB c = true → c + 1 < N) (hsB : ∀ c, sB c = true → c + W1 < N) (hW : 1 ≤ W1)
theorem stp_snd {inf : Nat} {ini : Nat → Nat} (he : ∀ c, eB c = true → c + 1 < N) (hsB : ∀ c, sB c = true → c + W1 < N) (c : Nat) (p : CF) (h : SND (AJd eB sB W1) N inf ini p.1) : SND (AJd eB sB W1) N inf ini (stp2 eB sB W1 c p).1 := by
  have h1 : SND (AJd eB sB W1) N inf ini (stpE eB c p).1 := by
    unfold stpE
    by_cases z : eB c = true
    · rw [if_pos z]
      have := he c z
      exact lvl_snd (AJ_s eB sB W1) (.inl ⟨z, rfl⟩) (by omega) this h
    · rw [if_neg z]; exact h
  rw [stp2_es]
  generalize stpE eB c p = q at h1
  unfold stpS
  by_cases z : sB c = true
  · rw [if_pos z]
    have := hsB c z
    exact lvl_snd (AJ_s eB sB W1) (.inr (.inr (.inl ⟨z, rfl⟩))) (by omega) this h1
  · rw [if_neg z]; exact h1
theorem stp_m (c : Nat) (p : CF) (x : Nat) : (stp2 eB sB W1 c p).1 x ≤ p.1 x := by
  rw [stp2_es]
  have h1 : (stpE eB c p).1 x ≤ p.1 x := by
    unfold stpE
    by_cases z : eB c = true
    · rw [if_pos z]; exact lvl_m _ _ _ _
    · rw [if_neg z]; exact Nat.le_refl _
  generalize stpE eB c p = q at h1
  unfold stpS
  by_cases z : sB c = true
  · rw [if_pos z]; exact Nat.le_trans (lvl_m _ _ _ _) h1
  · rw [if_neg z]; exact h1
theorem stp_r (hW : 1 ≤ W1) (c : Nat) (p : CF) : (eB c = true → (stp2 eB sB W1 c p).1 (c + 1) ≤ p.1 c + 1 ∧ (stp2 eB sB W1 c p).1 c ≤ p.1 (c + 1) + 1) ∧ (sB c = true → (stp2 eB sB W1 c p).1 (c + W1) ≤ p.1 c + 1 ∧ (stp2 eB sB W1 c p).1 c ≤ p.1 (c + W1) + 1) := by
  rw [stp2_es]
  have h1 : ∀ x, (stpE eB c p).1 x ≤ p.1 x := by
    intro x
    unfold stpE
    by_cases z : eB c = true
    · rw [if_pos z]; exact lvl_m _ _ _ _
    · rw [if_neg z]; exact Nat.le_refl _
  have h2 : eB c = true → (stpE eB c p).1 (c + 1) ≤ p.1 c + 1 ∧ (stpE eB c p).1 c ≤ p.1 (c + 1) + 1 := by
    intro z
    unfold stpE
    rw [if_pos z]
    exact lvl_r (by omega) _
  generalize stpE eB c p = q at h1 h2
  have h3 : ∀ x, (stpS sB W1 c q).1 x ≤ q.1 x := by
    intro x
    unfold stpS
    by_cases z : sB c = true
    · rw [if_pos z]; exact lvl_m _ _ _ _
    · rw [if_neg z]; exact Nat.le_refl _
  constructor
  · intro z
    have a := h2 z
    have b := h3 (c + 1)
    have c' := h3 c
    omega
  · intro z
    have a := h1 c
    have b := h1 (c + W1)
    unfold stpS
    rw [if_pos z]
    have r := lvl_r (show ¬ c = c + W1 by omega) q.1
    dsimp only
    omega
theorem stp_f (c : Nat) (p : CF) (h : (stp2 eB sB W1 c p).2 = false) : p.2 = false ∧ (stp2 eB sB W1 c p).1 = p.1 := by
  rw [stp2_es] at h ⊢
  have h1 : (stpE eB c p).2 = false → p.2 = false ∧ (stpE eB c p).1 = p.1 := by
    unfold stpE
    by_cases z : eB c = true
    · rw [if_pos z]
      intro y
      rw [Bool.or_eq_false_iff] at y
      exact ⟨y.1, (lvl_0 y.2).1⟩
    · rw [if_neg z]; exact fun y => ⟨y, rfl⟩
  generalize stpE eB c p = q at h h1 ⊢
  unfold stpS at h ⊢
  by_cases z : sB c = true
  · rw [if_pos z] at h ⊢
    rw [Bool.or_eq_false_iff] at h
    obtain ⟨a, b⟩ := h1 h.1
    exact ⟨a, (lvl_0 h.2).1.trans b⟩
  · rw [if_neg z] at h ⊢
    exact h1 h
/-- a round: the corners in some order -/
def rnd (sg : Nat → Nat) (m i : Nat) (p : CF) : CF := itn (fun i p => stp2 eB sB W1 (sg i) p) m i p
theorem rnd_m (sg : Nat → Nat) : ∀ m i (p : CF) (x : Nat), (rnd eB sB W1 sg m i p).1 x ≤ p.1 x
  | 0, i, p, x => Nat.le_refl _
  | m + 1, i, p, x => Nat.le_trans (rnd_m sg m (i + 1) _ x) (stp_m eB sB W1 (sg i) p x)
theorem rnd_snd {inf : Nat} {ini : Nat → Nat} (he : ∀ c, eB c = true → c + 1 < N) (hsB : ∀ c, sB c = true → c + W1 < N) (sg : Nat → Nat) : ∀ m i (p : CF), SND (AJd eB sB W1) N inf ini p.1 → SND (AJd eB sB W1) N inf ini (rnd eB sB W1 sg m i p).1
  | 0, i, p, h => h
  | m + 1, i, p, h => rnd_snd he hsB sg m (i + 1) _ (stp_snd eB sB W1 he hsB (sg i) p h)
theorem rnd_r (hW : 1 ≤ W1) (sg : Nat → Nat) : ∀ m i (p : CF) (j : Nat), i ≤ j → j < i + m → (eB (sg j) = true → (rnd eB sB W1 sg m i p).1 (sg j + 1) ≤ p.1 (sg j) + 1 ∧ (rnd eB sB W1 sg m i p).1 (sg j) ≤ p.1 (sg j + 1) + 1) ∧ (sB (sg j) = true → (rnd eB sB W1 sg m i p).1 (sg j + W1) ≤ p.1 (sg j) + 1 ∧ (rnd eB sB W1 sg m i p).1 (sg j) ≤ p.1 (sg j + W1) + 1)
  | 0, i, p, j, h1, h2 => absurd h2 (by omega)
  | m + 1, i, p, j, h1, h2 => by
    show (_ → (rnd eB sB W1 sg m (i + 1) (stp2 eB sB W1 (sg i) p)).1 _ ≤ _ ∧ (rnd eB sB W1 sg m (i + 1) (stp2 eB sB W1 (sg i) p)).1 _ ≤ _) ∧ (_ → (rnd eB sB W1 sg m (i + 1) (stp2 eB sB W1 (sg i) p)).1 _ ≤ _ ∧ (rnd eB sB W1 sg m (i + 1) (stp2 eB sB W1 (sg i) p)).1 _ ≤ _)
    have mm := fun x => rnd_m eB sB W1 sg m (i + 1) (stp2 eB sB W1 (sg i) p) x
    by_cases z : j = i
    · subst z
      obtain ⟨a, b⟩ := stp_r eB sB W1 hW (sg j) p
      exact ⟨fun y => ⟨Nat.le_trans (mm _) (a y).1, Nat.le_trans (mm _) (a y).2⟩, fun y => ⟨Nat.le_trans (mm _) (b y).1, Nat.le_trans (mm _) (b y).2⟩⟩
    · obtain ⟨a, b⟩ := rnd_r hW sg m (i + 1) (stp2 eB sB W1 (sg i) p) j (by omega) (by omega)
      have s1 := fun x => stp_m eB sB W1 (sg i) p x
      refine ⟨fun y => ?_, fun y => ?_⟩
      · have := a y; have := s1 (sg j); have := s1 (sg j + 1); omega
      · have := b y; have := s1 (sg j); have := s1 (sg j + W1); omega
theorem rnd_f (sg : Nat → Nat) : ∀ m i (p : CF), (rnd eB sB W1 sg m i p).2 = false → p.2 = false ∧ (rnd eB sB W1 sg m i p).1 = p.1
  | 0, i, p, h => ⟨h, rfl⟩
  | m + 1, i, p, h => by
    obtain ⟨a, b⟩ := rnd_f sg m (i + 1) (stp2 eB sB W1 (sg i) p) h
    obtain ⟨c, e⟩ := stp_f eB sB W1 (sg i) p a
    exact ⟨c, b.trans e⟩
/-- a whole round levels every side -/
theorem rnd_A (he : ∀ c, eB c = true → c + 1 < N) (hsB : ∀ c, sB c = true → c + W1 < N) (hW : 1 ≤ W1) {sg : Nat → Nat} (hsg : ∀ c, c < N → ∃ j, j < N ∧ sg j = c) (p : CF) {u v : Nat} (h : AJd eB sB W1 u v) : (rnd eB sB W1 sg N 0 p).1 v ≤ p.1 u + 1 := by
  rcases h with ⟨h1, rfl⟩ | ⟨h1, rfl⟩ | ⟨h1, rfl⟩ | ⟨h1, rfl⟩
  · have := he u h1
    obtain ⟨j, j1, j2⟩ := hsg u (by omega)
    have := (rnd_r eB sB W1 hW sg N 0 p j (by omega) (by omega)).1
    rw [j2] at this
    exact (this h1).1
  · have := he v h1
    obtain ⟨j, j1, j2⟩ := hsg v (by omega)
    have := (rnd_r eB sB W1 hW sg N 0 p j (by omega) (by omega)).1
    rw [j2] at this
    exact (this h1).2
  · have := hsB u h1
    obtain ⟨j, j1, j2⟩ := hsg u (by omega)
    have := (rnd_r eB sB W1 hW sg N 0 p j (by omega) (by omega)).2
    rw [j2] at this
    exact (this h1).1
  · have := hsB v h1
    obtain ⟨j, j1, j2⟩ := hsg v (by omega)
    have := (rnd_r eB sB W1 hW sg N 0 p j (by omega) (by omega)).2
    rw [j2] at this
    exact (this h1).2
/-- levelled everywhere: walks add up -/
theorem lev_wk {A : Nat → Nat → Prop} {cur : Nat → Nat} (h : ∀ u v, A u v → cur v ≤ cur u + 1) : ∀ m u v, WKd A m u v → cur v ≤ cur u + m
  | 0, u, v, w => by have : u = v := w; subst this; exact Nat.le_refl _
  | m + 1, u, v, w => by
    obtain ⟨p, p1, p2⟩ := w
    have a := lev_wk h m u p p1
    have b := h p v p2
    omega
end LVL
