/-! The machine's values and heap as the evaluator has them -/
abbrev Gm : Type := va_G × (Nat → ClassId) × Nat × (Nat → Nat → Nat) × Nat × (Nat → Int32)
def tyA (t : Nat) : FieldType := match t with
  | 0 => .int
  | 1 => .byte
  | 2 => .boolean
  | _ => .long
def VR (m : Mem) (ad : Nat → Nat → Nat) (v : AV) (rv : Value) : Prop := match v with
  | .inl x => rv = .int x
  | .inr (.inl x) => rv = .long x
  | .inr (.inr none) => rv = .null ∨ ∃ a, rv = .ref a
  | .inr (.inr (some none)) => rv = .null
  | .inr (.inr (some (some q))) => rv = .ref (ad q.1 q.2) ∧ q.2 < mK m q.1
def SR (m : Mem) (ad : Nat → Nat → Nat) : List AV → List Value → Prop
  | [], [] => True
  | v :: r, w :: t => VR m ad v w ∧ SR m ad r t
  | _, _ => False
def LR (m : Mem) (ad : Nat → Nat → Nat) (nL : Nat) (l : Loc9) (ls : Array Slot) : Prop := l.length = nL ∧ ∃ lv : List (Nat × Value), lv_has ls nL lv ∧ ∀ (k : Nat) (v : AV), ldL l k = some v → ∃ rv : Value, (k, rv) ∈ lv ∧ VR m ad v rv
def Ex (m : Mem) (ad : Nat → Nat → Nat) (m1 : Mem) (ad1 : Nat → Nat → Nat) : Prop := (∀ k, mK m k ≤ mK m1 k) ∧ ∀ k j, j < mK m k → ad1 k j = ad k j
theorem Ex.rf {m : Mem} {ad : Nat → Nat → Nat} : Ex m ad m ad := ⟨fun _ => Nat.le_refl _, fun _ _ _ => rfl⟩
theorem Ex.same {m m1 : Mem} {ad : Nat → Nat → Nat} (h : mK m1 = mK m) : Ex m ad m1 ad := ⟨fun k => by rw [h]; exact Nat.le_refl _, fun _ _ _ => rfl⟩
theorem Ex.tr {m m1 m2 : Mem} {ad ad1 ad2 : Nat → Nat → Nat} (h : Ex m ad m1 ad1) (h2 : Ex m1 ad1 m2 ad2) : Ex m ad m2 ad2 := ⟨fun k => Nat.le_trans (h.1 k) (h2.1 k), fun k j hj => (h2.2 k j (Nat.lt_of_lt_of_le hj (h.1 k))).trans (h.2 k j hj)⟩
theorem VR.ex {m m1 : Mem} {ad ad1 : Nat → Nat → Nat} (h : Ex m ad m1 ad1) : ∀ {v : AV} {w : Value}, VR m ad v w → VR m1 ad1 v w
  | .inl _, _, hv => hv
  | .inr (.inl _), _, hv => hv
  | .inr (.inr none), _, hv => hv
  | .inr (.inr (some none)), _, hv => hv
  | .inr (.inr (some (some q))), _, hv => ⟨by rw [hv.1, h.2 _ _ hv.2], Nat.lt_of_lt_of_le hv.2 (h.1 _)⟩
theorem SR.ex {m m1 : Mem} {ad ad1 : Nat → Nat → Nat} (h : Ex m ad m1 ad1) : ∀ {st : List AV} {sv : List Value}, SR m ad st sv → SR m1 ad1 st sv
  | [], [], _ => trivial
  | [], _ :: _, hs => hs.elim
  | _ :: _, [], hs => hs.elim
  | _ :: _, _ :: _, hs => ⟨hs.1.ex h, SR.ex h hs.2⟩
theorem LR.ex {m m1 : Mem} {ad ad1 : Nat → Nat → Nat} (h : Ex m ad m1 ad1) {nL : Nat} {l : Loc9} {ls : Array Slot} (hl : LR m ad nL l ls) : LR m1 ad1 nL l ls := by
  obtain ⟨h0, lv, h1, h2⟩ := hl
  exact ⟨h0, lv, h1, fun k v hk => by
    obtain ⟨rv, h3, h4⟩ := h2 k v hk
    exact ⟨rv, h3, h4.ex h⟩⟩
theorem SR.inv {m : Mem} {ad : Nat → Nat → Nat} {v : AV} {r : List AV} : ∀ {sv : List Value}, SR m ad (v :: r) sv → ∃ w t, sv = w :: t ∧ VR m ad v w ∧ SR m ad r t
  | [], h => h.elim
  | w :: t, h => ⟨w, t, rfl, h.1, h.2⟩
theorem SR.nil {m : Mem} {ad : Nat → Nat → Nat} : ∀ {sv : List Value}, SR m ad [] sv → sv = []
  | [], _ => rfl
  | _ :: _, h => h.elim
theorem VR.cat {m : Mem} {ad : Nat → Nat → Nat} : ∀ {v : AV} {w : Value}, VR m ad v w → w.category = cat9 v
  | .inl _, _, h => by rw [show _ = Value.int _ from h]; rfl
  | .inr (.inl _), _, h => by rw [show _ = Value.long _ from h]; rfl
  | .inr (.inr none), _, h => by
    rcases h with h | ⟨a, h⟩ <;> rw [h] <;> rfl
  | .inr (.inr (some none)), _, h => by rw [show _ = Value.null from h]; rfl
  | .inr (.inr (some (some q))), _, h => by rw [h.1]; rfl
theorem SR.ct {m : Mem} {ad : Nat → Nat → Nat} : ∀ {st : List AV} {sv : List Value}, SR m ad st sv → (sv.map fun v => v.category).sum = cats st
  | [], [], _ => rfl
  | [], _ :: _, hs => hs.elim
  | _ :: _, [], hs => hs.elim
  | v :: r, w :: t, hs => by
    have h1 := hs.1.cat
    have h2 := SR.ct hs.2
    simp only [List.map_cons, List.sum_cons, cats]
    rw [h1, h2]
theorem SR.len {m : Mem} {ad : Nat → Nat → Nat} : ∀ {st : List AV} {sv : List Value}, SR m ad st sv → st.length = sv.length
  | [], [], _ => rfl
  | [], _ :: _, hs => hs.elim
  | _ :: _, [], hs => hs.elim
  | v :: r, w :: t, hs => by
    have h2 := SR.len hs.2
    simp only [List.length_cons]
    rw [h2]
theorem SR.app {m : Mem} {ad : Nat → Nat → Nat} : ∀ {a b : List AV} {c d : List Value}, SR m ad a c → SR m ad b d → SR m ad (a ++ b) (c ++ d)
  | [], _, [], _, _, h2 => h2
  | [], _, _ :: _, _, h1, _ => h1.elim
  | _ :: _, _, [], _, h1, _ => h1.elim
  | _ :: _, _, _ :: _, _, h1, h2 => ⟨h1.1, SR.app h1.2 h2⟩
theorem ldL_len {l : Loc9} : ∀ {k : Nat} {v : AV}, ldL l k = some v → k < l.length := by
  induction l with
  | nil => intro k v h; cases k <;> cases h
  | cons a r ih =>
    intro k v h
    cases k with
    | zero => exact Nat.succ_pos _
    | succ k => exact Nat.succ_lt_succ (ih h)
theorem len_setL (l : Loc9) : ∀ (k : Nat) (x : Option AV), (setL l k x).length = l.length := by
  induction l with
  | nil => intro k x; cases k <;> rfl
  | cons a r ih =>
    intro k x
    cases k with
    | zero => rfl
    | succ k => exact congrArg (· + 1) (ih k x)
theorem cutL_s (l : Loc9) (k : Nat) : cutL l (k + 1) = match ldL l k with
    | some (.inr (.inl _)) => setL l k none
    | _ => l := rfl
theorem len_cutL (l : Loc9) (k : Nat) : (cutL l k).length = l.length := by
  cases k with
  | zero => rfl
  | succ k =>
    rw [cutL_s]
    split
    · exact len_setL _ _ _
    · rfl
theorem ldL_setL (l : Loc9) : ∀ (k j : Nat) (x : Option AV), ldL (setL l k x) j = if j = k ∧ k < l.length then x else ldL l j := by
  induction l with
  | nil => intro k j x; cases k <;> cases j <;> simp [setL, ldL]
  | cons a r ih =>
    intro k j x
    cases k with
    | zero => cases j <;> simp [setL, ldL]
    | succ k => cases j with
      | zero => simp [setL, ldL]
      | succ j => simp only [setL, ldL, ih, List.length_cons, Nat.add_lt_add_iff_right, Nat.add_right_cancel_iff]
theorem ldL_cutL {l : Loc9} {k j : Nat} {v : AV} (h : ldL (cutL l k) j = some v) : ldL l j = some v ∧ ¬ (j + 1 = k ∧ cat9 v = 2) := by
  cases k with
  | zero => exact ⟨h, fun q => by omega⟩
  | succ k =>
    rw [cutL_s] at h
    split at h
    · rw [ldL_setL] at h
      split at h
      · cases h
      · rename_i hx _ hn
        refine ⟨h, fun q => ?_⟩
        have := ldL_len h
        exact hn ⟨by omega, by omega⟩
    · rename_i hn
      refine ⟨h, fun q => ?_⟩
      have e : j = k := by omega
      subst e
      match v, h, q with
      | .inl _, _, q => cases q.2
      | .inr (.inl y), h, q => exact hn y h
      | .inr (.inr _), _, q => cases q.2
theorem LR.ld {m : Mem} {ad : Nat → Nat → Nat} {nL : Nat} {l : Loc9} {ls : Array Slot} (h : LR m ad nL l ls) {k : Nat} {v : AV} (hk : ldL l k = some v) : ∃ rv, ls[k]? = some (.val rv) ∧ VR m ad v rv := by
  obtain ⟨-, lv, h1, h2⟩ := h
  obtain ⟨rv, h3, h4⟩ := h2 k v hk
  exact ⟨rv, h1.2.2 _ h3, h4⟩
/-- behind a store of one word -/
theorem LR.st {m : Mem} {ad : Nat → Nat → Nat} {nL : Nat} {l : Loc9} {ls ls1 : Array Slot} {lv : List (Nat × Value)} (h0 : l.length = nL) (h2 : ∀ (k : Nat) (v : AV), ldL l k = some v → ∃ rv : Value, (k, rv) ∈ lv ∧ VR m ad v rv) {k : Nat} {v : AV} {rv : Value} (hv : VR m ad v rv)
    (h1 : lv_has ls1 nL ((k, rv) :: lv.filter (fun q => !(q.1 == k) && !(q.1 + 1 == k && q.2.category == 2)))) : LR m ad nL (stL l k v) ls1 := by
  refine ⟨by rw [stL, len_setL, len_cutL]; exact h0, _, h1, fun j w hj => ?_⟩
  rw [stL, ldL_setL] at hj
  split at hj
  · rename_i e
    cases hj
    rw [e.1]
    exact ⟨rv, List.mem_cons_self, hv⟩
  · rename_i hn
    obtain ⟨h3, h4⟩ := ldL_cutL hj
    obtain ⟨rw2, h5, h6⟩ := h2 j w h3
    have hlt := ldL_len hj
    have hjk : j ≠ k := fun e => hn ⟨e, e ▸ hlt⟩
    refine ⟨rw2, List.mem_cons_of_mem _ (List.mem_filter.mpr ⟨h5, ?_⟩), h6⟩
    have hc := h6.cat
    simp only [Bool.and_eq_true, Bool.not_eq_true', beq_eq_false_iff_ne, ne_eq, Bool.and_eq_false_iff]
    refine ⟨hjk, ?_⟩
    by_cases e : j + 1 = k
    · right
      rw [hc]
      intro e2
      exact h4 ⟨e, e2⟩
    · exact Or.inl e
theorem LR.st2 {m : Mem} {ad : Nat → Nat → Nat} {nL : Nat} {l : Loc9} {ls ls1 : Array Slot} {lv : List (Nat × Value)} (h0 : l.length = nL) (h2 : ∀ (k : Nat) (v : AV), ldL l k = some v → ∃ rv : Value, (k, rv) ∈ lv ∧ VR m ad v rv) {k : Nat} {v : AV} {rv : Value} (hv : VR m ad v rv) (hk : k + 1 < nL)
    (h1 : lv_has ls1 nL ((k, rv) :: lv.filter (fun q => !(q.1 == k) && (!(q.1 == k + 1) && !(q.1 + 1 == k && q.2.category == 2))))) : LR m ad nL (stL2 l k v) ls1 := by
  refine ⟨by rw [stL2, len_setL, len_setL, len_cutL]; exact h0, _, h1, fun j w hj => ?_⟩
  rw [stL2, ldL_setL] at hj
  split at hj
  · cases hj
  · rename_i hn1
    rw [len_setL, len_cutL, h0] at hn1
    have hj1 : j ≠ k + 1 := fun e => hn1 ⟨e, hk⟩
    rw [ldL_setL] at hj
    split at hj
    · rename_i e
      cases hj
      rw [e.1]
      exact ⟨rv, List.mem_cons_self, hv⟩
    · rename_i hn
      obtain ⟨h3, h4⟩ := ldL_cutL hj
      obtain ⟨rw2, h5, h6⟩ := h2 j w h3
      have hlt := ldL_len hj
      have hjk : j ≠ k := fun e => hn ⟨e, e ▸ hlt⟩
      refine ⟨rw2, List.mem_cons_of_mem _ (List.mem_filter.mpr ⟨h5, ?_⟩), h6⟩
      have hc := h6.cat
      simp only [Bool.and_eq_true, Bool.not_eq_true', beq_eq_false_iff_ne, ne_eq, Bool.and_eq_false_iff]
      refine ⟨hjk, hj1, ?_⟩
      by_cases e : j + 1 = k
      · right
        rw [hc]
        intro e2
        exact h4 ⟨e, e2⟩
      · exact Or.inl e
/-- a method's first locals -/
theorem entL_at {m : Mem} {ad : Nat → Nat → Nat} : ∀ (n : Nat) (vs : List AV) (ws : List Value) (o : Nat), SR m ad vs ws → ∀ (k : Nat) (v : AV), ldL (entL vs n) k = some v → ∃ rv, (o + k, rv) ∈ lv_args o ws ∧ VR m ad v rv := by
  intro n
  induction n using Nat.strongRecOn with
  | ind n ih =>
    intro vs ws o hs k v hk
    cases n with
    | zero => cases k <;> cases hk
    | succ n =>
      match vs, ws, hs with
      | [], [], _ =>
        exfalso
        have key : ∀ n k, ldL (entL [] n) k = (none : Option AV) := by
          intro n
          induction n with
          | zero => intro k; cases k <;> rfl
          | succ n ih2 => intro k; cases k with
            | zero => rfl
            | succ k => exact ih2 k
        rw [key] at hk; cases hk
      | .inr (.inl x) :: r, w :: t, hs =>
        have hw : w = .long x := hs.1
        subst hw
        cases n with
        | zero =>
          cases k with
          | zero => cases hk; exact ⟨_, List.mem_cons_self, rfl⟩
          | succ k => cases k <;> cases hk
        | succ n =>
          cases k with
          | zero => cases hk; exact ⟨_, List.mem_cons_self, rfl⟩
          | succ k => cases k with
            | zero => cases hk
            | succ k =>
              obtain ⟨rv, h1, h2⟩ := ih n (by omega) r t (o + 2) hs.2 k v hk
              exact ⟨rv, List.mem_cons_of_mem _ (by rw [show o + (k + 1 + 1) = o + 2 + k by omega]; exact h1), h2⟩
      | .inl x :: r, w :: t, hs =>
        have hw : w = .int x := hs.1
        subst hw
        cases k with
        | zero => cases hk; exact ⟨_, List.mem_cons_self, rfl⟩
        | succ k =>
          obtain ⟨rv, h1, h2⟩ := ih n (by omega) r t (o + 1) hs.2 k v hk
          exact ⟨rv, List.mem_cons_of_mem _ (by rw [show o + (k + 1) = o + 1 + k by omega]; exact h1), h2⟩
      | .inr (.inr x) :: r, w :: t, hs =>
        have hc : w.category = 1 := hs.1.cat
        cases k with
        | zero => cases hk; exact ⟨_, List.mem_cons_self, hs.1⟩
        | succ k =>
          obtain ⟨rv, h1, h2⟩ := ih n (by omega) r t (o + 1) hs.2 k v hk
          refine ⟨rv, List.mem_cons_of_mem _ ?_, h2⟩
          rw [if_neg (by omega), show o + (k + 1) = o + 1 + k by omega]; exact h1
theorem len_entL : ∀ (n : Nat) (vs : List AV), (entL vs n).length = n := by
  intro n
  induction n using Nat.strongRecOn with
  | ind n ih =>
    intro vs
    cases n with
    | zero => rfl
    | succ n =>
      match vs with
      | [] => exact congrArg (· + 1) (ih n (by omega) [])
      | .inr (.inl x) :: r =>
        cases n with
        | zero => rfl
        | succ n => exact congrArg (· + 2) (ih n (by omega) r)
      | .inl x :: r => exact congrArg (· + 1) (ih n (by omega) r)
      | .inr (.inr x) :: r => exact congrArg (· + 1) (ih n (by omega) r)
