theorem ev_mono : ∀ (n d M pc : Nat) (l : Loc9) (st : List AV) (m : Mem) (r : Res9), ev9 n d M pc l st m = some r → ev9 (n + 1) d M pc l st m = some r := by
  intro n
  induction n with
  | zero => intro d M pc l st m r h; cases h
  | succ n ih =>
    intro d M pc l st m r h
    rw [ev9] at h ⊢
    generalize st1 d M pc l st m = x at h ⊢
    match x, h with
    | .inl (some q), h => exact h
    | .inr (.inl (pc1, l1, s1, m1)), h => exact ih _ _ _ _ _ _ _ h
    | .inr (.inr (d1, a, args, rest, pc1, l1, m1)), h =>
      simp only [fo9] at h ⊢
      cases hc : ev9 n d1 a 0 (entL args (mxT a)) [] m1 with
      | none => rw [hc] at h; cases h
      | some q =>
        rw [hc] at h
        rw [ih _ _ _ _ _ _ _ hc]
        match q, h with
        | (.inl none, m2), h => exact ih _ _ _ _ _ _ _ h
        | (.inl (some v), m2), h => exact ih _ _ _ _ _ _ _ h
        | (.inr q, m2), h =>
          simp only [ret9] at h ⊢
          split at h
          · exact ih _ _ _ _ _ _ _ h
          · exact h
theorem ev_le {n k d M pc : Nat} {l : Loc9} {st : List AV} {m : Mem} {r : Res9} (h : ev9 n d M pc l st m = some r) (hk : n ≤ k) : ev9 k d M pc l st m = some r := by
  induction hk with
  | refl => exact h
  | step _ ih => exact ev_mono _ _ _ _ _ _ _ _ ih
noncomputable def den (d M pc : Nat) (l : Loc9) (st : List AV) (m : Mem) : Option Res9 := by
  classical
  exact if h : ∃ r : Res9, ∃ n : Nat, ev9 n d M pc l st m = some r then some h.choose else none
theorem den_iff {d M pc : Nat} {l : Loc9} {st : List AV} {m : Mem} {r : Res9} : den d M pc l st m = some r ↔ ∃ n, ev9 n d M pc l st m = some r := by
  unfold den
  constructor
  · intro h
    split at h
    · rename_i hx
      cases h
      exact hx.choose_spec
    · cases h
  · intro ⟨n, h⟩
    have hx : ∃ r : Res9, ∃ n : Nat, ev9 n d M pc l st m = some r := ⟨r, n, h⟩
    rw [dif_pos hx]
    obtain ⟨k, hk⟩ := hx.choose_spec
    have h1 := ev_le h (Nat.le_max_left n k)
    have h2 := ev_le hk (Nat.le_max_right n k)
    rw [h1] at h2
    exact h2.symm
/-- a method called -/
noncomputable def cal (d M : Nat) (args : List AV) (m : Mem) : Option Res9 := den d M 0 (entL args (mxT M)) [] m
theorem opt_ext {α : Type} {a b : Option α} (h : ∀ r, a = some r ↔ b = some r) : a = b := by
  cases a with
  | none => cases b with
    | none => rfl
    | some y => exact ((h y).mpr rfl)
  | some x => exact ((h x).mp rfl).symm
theorem den_eq (d M pc : Nat) (l : Loc9) (st : List AV) (m : Mem) : den d M pc l st m = stp none some (fun d1 a args rest pc1 l1 m1 => ret9 (den d M) M pc pc1 l1 rest (cal d1 a args m1)) (den d M) d M pc l st m := by
  rw [fo_stp]
  apply opt_ext
  intro r
  rw [den_iff]
  constructor
  · intro ⟨n, h⟩
    cases n with
    | zero => cases h
    | succ n =>
      rw [ev9] at h
      generalize st1 d M pc l st m = x at h ⊢
      match x, h with
      | .inl (some q), h => exact h
      | .inr (.inl (pc1, l1, s1, m1)), h => exact den_iff.mpr ⟨n, h⟩
      | .inr (.inr (d1, a, args, rest, pc1, l1, m1)), h =>
        simp only [fo9] at h ⊢
        cases hc : ev9 n d1 a 0 (entL args (mxT a)) [] m1 with
        | none => rw [hc] at h; cases h
        | some q =>
          rw [hc] at h
          rw [show cal d1 a args m1 = some q from den_iff.mpr ⟨n, hc⟩]
          match q, h with
          | (.inl none, m2), h => exact den_iff.mpr ⟨n, h⟩
          | (.inl (some v), m2), h => exact den_iff.mpr ⟨n, h⟩
          | (.inr q, m2), h =>
            simp only [ret9] at h ⊢
            split at h
            · exact den_iff.mpr ⟨n, h⟩
            · exact h
  · intro h
    generalize hx : st1 d M pc l st m = x at h
    match x, h, hx with
    | .inl (some q), h, hx => exact ⟨1, by rw [ev9, hx]; exact h⟩
    | .inr (.inl (pc1, l1, s1, m1)), h, hx =>
      obtain ⟨n, hn⟩ := den_iff.mp h
      exact ⟨n + 1, by rw [ev9, hx]; exact hn⟩
    | .inr (.inr (d1, a, args, rest, pc1, l1, m1)), h, hx =>
      simp only [fo9] at h
      cases hc : cal d1 a args m1 with
      | none => rw [hc] at h; cases h
      | some q =>
        rw [hc] at h
        obtain ⟨k, hk⟩ := den_iff.mp hc
        match q, h, hk with
        | (.inl none, m2), h, hk =>
          obtain ⟨n, hn⟩ := den_iff.mp h
          refine ⟨max k n + 1, ?_⟩
          rw [ev9, hx]; simp only [fo9]; rw [ev_le hk (Nat.le_max_left k n)]
          exact ev_le hn (Nat.le_max_right k n)
        | (.inl (some v), m2), h, hk =>
          obtain ⟨n, hn⟩ := den_iff.mp h
          refine ⟨max k n + 1, ?_⟩
          rw [ev9, hx]; simp only [fo9]; rw [ev_le hk (Nat.le_max_left k n)]
          exact ev_le hn (Nat.le_max_right k n)
        | (.inr q, m2), h, hk =>
          simp only [ret9] at h
          cases hh : hnd9 (hdT M) pc q.1 with
          | none =>
            rw [hh] at h
            refine ⟨k + 1, ?_⟩
            rw [ev9, hx]; simp only [fo9]; rw [hk]; simp only [ret9, hh]; exact h
          | some hp =>
            rw [hh] at h
            obtain ⟨n, hn⟩ := den_iff.mp h
            refine ⟨max k n + 1, ?_⟩
            rw [ev9, hx]; simp only [fo9]; rw [ev_le hk (Nat.le_max_left k n)]; simp only [ret9, hh]
            exact ev_le hn (Nat.le_max_right k n)
/-- so many steps on, or up to one of the places S -/
noncomputable def bx (S : List Nat) (d M : Nat) : Nat → Nat → Loc9 → List AV → Mem → Option Res9
  | 0, pc, l, st, m => den d M pc l st m
  | k + 1, pc, l, st, m => stp none some (fun d1 a args rest pc1 l1 m1 => ret9 (den d M) M pc pc1 l1 rest (cal d1 a args m1)) (fun pc1 l1 st1 m1 => if S.elem pc1 = true then den d M pc1 l1 st1 m1 else bx S d M k pc1 l1 st1 m1) d M pc l st m
theorem bx_eq (S : List Nat) (d M : Nat) : ∀ (k pc : Nat) (l : Loc9) (st : List AV) (m : Mem), bx S d M k pc l st m = den d M pc l st m := by
  intro k
  induction k with
  | zero => intro pc l st m; rfl
  | succ k ih =>
    intro pc l st m
    rw [bx, den_eq]
    congr 1
    funext pc1 l1 st1 m1
    rw [ih]
    split <;> rfl
