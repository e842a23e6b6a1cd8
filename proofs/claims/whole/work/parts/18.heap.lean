/-! The heap behind a store, behind a new thing -/
theorem cln_at {a : Nat} (h : a < 15) : (∀ x, x < (clT a).2.2 → ∀ y, y < (clT a).2.2 → x ≠ y → ((clT a).2.1 x).2.1 ≠ ((clT a).2.1 y).2.1) ∧ ∀ k, k < (clT a).2.2 → parseFieldDescriptor ((clT a).2.1 k).2.2.1 = some (tyT a k) := by
  match a, h with
  | 0, _ => exact cln_0
  | 1, _ => exact cln_1
  | 2, _ => exact cln_2
  | 3, _ => exact cln_3
  | 4, _ => exact cln_4
  | 5, _ => exact cln_5
  | 6, _ => exact cln_6
  | 7, _ => exact cln_7
  | 8, _ => exact cln_8
  | 9, _ => exact cln_9
  | 10, _ => exact cln_10
  | 11, _ => exact cln_11
  | 12, _ => exact cln_12
  | 13, _ => exact cln_13
  | 14, _ => exact cln_14
theorem vwC_at {a : Nat} (h : a < 15) : vwC[a]? = some (clT a) := by
  match a, h with
  | 0, _ => rfl
  | 1, _ => rfl
  | 2, _ => rfl
  | 3, _ => rfl
  | 4, _ => rfl
  | 5, _ => rfl
  | 6, _ => rfl
  | 7, _ => rfl
  | 8, _ => rfl
  | 9, _ => rfl
  | 10, _ => rfl
  | 11, _ => rfl
  | 12, _ => rfl
  | 13, _ => rfl
  | 14, _ => rfl
section CXs
variable {Γ : Gm} {M : Nat} {p : Program} {l9 : Launch} {s : State} {mm : MethodId} {args : Array Value} {meth : Method} {c9 : Code}
theorem CX.ex (C : CX M p l9 s mm args meth c9) : p.tables.exec = Jvm.exec := C.1
theorem CX.by (C : CX M p l9 s mm args meth c9) : c9.code = mB M := C.2.1
theorem CX.ml (C : CX M p l9 s mm args meth c9) : c9.maxLocals = mxT M := C.2.2.1
theorem CX.own (C : CX M p l9 s mm args meth c9) : s.vm.findClass (onm (mO M)) = some mm.cls := C.2.2.2.2.1
theorem CX.w (C : CX M p l9 s mm args meth c9) {w : Cond} (h : w ∈ lw_tbl) (hg : goodWord w = true) : w.before args s = true := C.2.2.2.2.2.1 w h hg
theorem CX.ws (C : CX M p l9 s mm args meth c9) : ∀ w ∈ lw_tbl.filter goodWord, w.before args s = true := fun w h => C.w (List.mem_filter.mp h).1 (List.mem_filter.mp h).2
end CXs
theorem up3_ne {α : Type} {f : Nat → Nat → Nat → α} {k j i a b c : Nat} {v : α} (h : a ≠ k ∨ b ≠ j ∨ c ≠ i) : up3 f k j i v a b c = f a b c := by
  unfold up3
  by_cases h1 : a = k
  · by_cases h2 : b = j
    · by_cases h3 : c = i
      · rcases h with h | h | h <;> contradiction
      · simp [h1, h2, h3]
    · simp [h1, h2]
  · simp [h1]
theorem up3_eq {α : Type} {f : Nat → Nat → Nat → α} {k j i : Nat} {v : α} : up3 f k j i v k j i = v := by simp [up3]
theorem upA_ne {α : Type} {f : Nat → Nat → Nat → α} {k j a b c : Nat} {v : Nat → α} (h : a ≠ k ∨ b ≠ j) : upA f k j v a b c = f a b c := by
  unfold upA
  by_cases h1 : a = k
  · by_cases h2 : b = j
    · rcases h with h | h <;> contradiction
    · simp [h1, h2]
  · simp [h1]
theorem upA_eq {α : Type} {f : Nat → Nat → Nat → α} {k j c : Nat} {v : Nat → α} : upA f k j v k j c = v c := by simp [upA]
theorem gf9_ne {m m2 : Mem} {k i c j : Nat} (h1 : mI m2 k j i = mI m k j i) (h2 : mJ m2 k j i = mJ m k j i) (h3 : mR m2 k j i = mR m k j i) : gf9 m2 k i c j = gf9 m k i c j := by
  unfold gf9
  split
  · rfl
  · split <;> simp only [h1, h2, h3]
section RPS
variable {Γ : Gm} {m m2 : Mem} {ad : Nat → Nat → Nat} {H H2 : Heap}
theorem Rep.lt (h : Rep Γ m ad H) {k j : Nat} (hk : k < 80) (hj : j < mK m k) : ad k j < H.size := by
  by_cases h1 : k < 15
  · obtain ⟨cell, h2, -⟩ := h.1 k j h1 hj
    exact (Array.getElem?_eq_some_iff.mp h2).1
  · exact (Array.getElem?_eq_some_iff.mp (h.2.1 k j (by omega) hk hj)).1
/-- a field is put -/
theorem Rep.put (h : Rep Γ m ad H) {a b j : Nat} (ha : a < 15) (hj : j < mK m a) (hK : mK m2 = mK m) {cell : Cell} {rv : Value} (h1 : H[ad a j]? = some cell) (h2 : H2[ad a j]? = some (cell.setSlot (Γ.1.2 a b) rv)) (h3 : ∀ q, q ≠ ad a j → H2[q]? = H[q]?) (hb : b < (clT a).2.2)
    (hap : ∀ x y, x < (clT a).2.2 → y < (clT a).2.2 → x ≠ y → Γ.1.2 a x ≠ Γ.1.2 a y)
    (hI : ∀ x y z, (x ≠ a ∨ y ≠ j ∨ z ≠ b) → mI m2 x y z = mI m x y z ∧ mJ m2 x y z = mJ m x y z ∧ mR m2 x y z = mR m x y z) (hv : VR m ad (gf9 m2 a b (fcd (tyT a b)) j) rv) : Rep Γ m2 ad H2 := by
  obtain ⟨r1, r2, r3, r4, r5, r6, r7⟩ := h
  have hx : Ex m ad m2 ad := Ex.same hK
  have hlt : ad a j < H.size := (Array.getElem?_eq_some_iff.mp h1).1
  refine ⟨?_, ?_, ?_, ?_, r5, ?_, ?_⟩
  · intro k j2 hk hj2
    rw [hK] at hj2
    by_cases e : k = a ∧ j2 = j
    · obtain ⟨rfl, rfl⟩ := e
      obtain ⟨cell2, q1, q2, q3, q4⟩ := r1 k j2 hk hj2
      cases Option.some.inj (h1.symm.trans q1)
      refine ⟨_, h2, q2, q3, fun i hi => ?_⟩
      obtain ⟨v0, g1, -⟩ := q4 b hb
      have hbs : Γ.1.2 k b < cell.slots.size := (Array.getElem?_eq_some_iff.mp g1).1
      by_cases ei : i = b
      · subst ei
        refine ⟨rv, ?_, hv.ex hx⟩
        show (cell.slots.setIfInBounds _ _)[_]? = _
        simp [Array.getElem?_setIfInBounds, hbs]
      · obtain ⟨v, g2, g3⟩ := q4 i hi
        refine ⟨v, ?_, ?_⟩
        · show (cell.slots.setIfInBounds _ _)[_]? = _
          rw [Array.getElem?_setIfInBounds, if_neg (fun e => hap i b hi hb ei e.symm)]
          exact g2
        · obtain ⟨e1, e2, e3⟩ := hI k j2 i (Or.inr (Or.inr ei))
          rw [gf9_ne e1 e2 e3]
          exact g3.ex hx
    · obtain ⟨cell2, q1, q2, q3, q4⟩ := r1 k j2 hk hj2
      have hne : ad k j2 ≠ ad a j := fun q => e (r4 k j2 a j (by omega) (by omega) hj2 hj q)
      refine ⟨cell2, by rw [h3 _ hne]; exact q1, q2, q3, fun i hi => ?_⟩
      obtain ⟨v, g2, g3⟩ := q4 i hi
      refine ⟨v, g2, ?_⟩
      obtain ⟨e1, e2, e3⟩ := hI k j2 i (by by_cases z : k = a
                                           · exact Or.inr (Or.inl (fun z2 => e ⟨z, z2⟩))
                                           · exact Or.inl z)
      rw [gf9_ne e1 e2 e3]
      exact g3.ex hx
  · intro k j2 hk1 hk2 hj2
    rw [hK] at hj2
    have hne : ad k j2 ≠ ad a j := fun q => by
      have := (r4 k j2 a j hk2 (by omega) hj2 hj q).1
      omega
    rw [h3 _ hne, r2 k j2 hk1 hk2 hj2]
    congr 1
    unfold aCl
    congr 1
    funext i
    obtain ⟨e1, e2, e3⟩ := hI k j2 i (Or.inl (by omega))
    rw [e1, e2]
  · intro k j2 hk hj2
    rw [hK] at hj2
    exact r3 k j2 hk hj2
  · intro k j1 k2 j2 hk hk2 hj1 hj2 q
    rw [hK] at hj1 hj2
    exact r4 k j1 k2 j2 hk hk2 hj1 hj2 q
  · intro k hk
    rw [hK]
    exact r6 k hk
  · intro i hi
    rw [(hI 99 0 i (Or.inl (by omega))).1]
    exact r7 i hi
/-- an array's places are written -/
theorem Rep.arr (h : Rep Γ m ad H) {a j : Nat} (ha1 : 15 ≤ a) (ha : a < 80) (hj : j < mK m a) (hK : mK m2 = mK m) (h2 : H2[ad a j]? = some (aCl Γ m2 a j)) (h3 : ∀ q, q ≠ ad a j → H2[q]? = H[q]?)
    (hI : ∀ x y z, (x ≠ a ∨ y ≠ j) → mI m2 x y z = mI m x y z ∧ mJ m2 x y z = mJ m x y z ∧ mR m2 x y z = mR m x y z) : Rep Γ m2 ad H2 := by
  obtain ⟨r1, r2, r3, r4, r5, r6, r7⟩ := h
  have hx : Ex m ad m2 ad := Ex.same hK
  refine ⟨?_, ?_, ?_, ?_, r5, ?_, ?_⟩
  · intro k j2 hk hj2
    rw [hK] at hj2
    obtain ⟨cell2, q1, q2, q3, q4⟩ := r1 k j2 hk hj2
    have hne : ad k j2 ≠ ad a j := fun q => by
      have := (r4 k j2 a j (by omega) (by omega) hj2 hj q).1
      omega
    refine ⟨cell2, by rw [h3 _ hne]; exact q1, q2, q3, fun i hi => ?_⟩
    obtain ⟨v, g2, g3⟩ := q4 i hi
    refine ⟨v, g2, ?_⟩
    obtain ⟨e1, e2, e3⟩ := hI k j2 i (Or.inl (by omega))
    rw [gf9_ne e1 e2 e3]
    exact g3.ex hx
  · intro k j2 hk1 hk2 hj2
    rw [hK] at hj2
    by_cases e : k = a ∧ j2 = j
    · obtain ⟨rfl, rfl⟩ := e
      exact h2
    · have hne : ad k j2 ≠ ad a j := fun q => e (r4 k j2 a j hk2 ha hj2 hj q)
      rw [h3 _ hne, r2 k j2 hk1 hk2 hj2]
      congr 1
      unfold aCl
      congr 1
      funext i
      obtain ⟨e1, e2, e3⟩ := hI k j2 i (by by_cases z : k = a
                                           · exact Or.inr (fun z2 => e ⟨z, z2⟩)
                                           · exact Or.inl z)
      rw [e1, e2]
  · intro k j2 hk hj2
    rw [hK] at hj2
    exact r3 k j2 hk hj2
  · intro k j1 k2 j2 hk hk2 hj1 hj2 q
    rw [hK] at hj1 hj2
    exact r4 k j1 k2 j2 hk hk2 hj1 hj2 q
  · intro k hk
    rw [hK]
    exact r6 k hk
  · intro i hi
    rw [(hI 99 0 i (Or.inl (by omega))).1]
    exact r7 i hi
def adN (ad : Nat → Nat → Nat) (k j q : Nat) : Nat → Nat → Nat := fun a b => if a = k ∧ b = j then q else ad a b
theorem adN_eq {ad : Nat → Nat → Nat} {k j q : Nat} : adN ad k j q k j = q := by simp [adN]
theorem adN_ne {ad : Nat → Nat → Nat} {k j q a b : Nat} (h : ¬ (a = k ∧ b = j)) : adN ad k j q a b = ad a b := by simp [adN, h]
theorem newM_I {m : Mem} {k n : Nat} : mI (newM m k n) = upA (mI m) k (mK m k) (fun _ => 0) := rfl
theorem newM_J {m : Mem} {k n : Nat} : mJ (newM m k n) = upA (mJ m) k (mK m k) (fun _ => 0) := rfl
theorem newM_R {m : Mem} {k n : Nat} : mR (newM m k n) = upA (mR m) k (mK m k) (fun _ => some none) := rfl
theorem newM_K {m : Mem} {k n a : Nat} : mK (newM m k n) a = if a = k then mK m k + 1 else mK m a := rfl
theorem Ex.new {m : Mem} {ad : Nat → Nat → Nat} {k n q : Nat} : Ex m ad (newM m k n) (adN ad k (mK m k) q) := by
  refine ⟨fun a => ?_, fun a b hb => ?_⟩
  · rw [newM_K]
    split
    · rename_i e; subst e; omega
    · exact Nat.le_refl _
  · exact adN_ne (fun e => by obtain ⟨rfl, rfl⟩ := e; omega)
/-- a thing comes: its cell is given -/
theorem Rep.new (h : Rep Γ m ad H) {k n : Nat} (hk : k < 80) (hB : gB Γ ≤ H.size) (h3 : ∀ q, q < H.size → H2[q]? = H[q]?)
    (ho : k < 15 → ∃ cell : Cell, H2[H.size]? = some cell ∧ cell.cls = Γ.1.1 k ∧ cell.vm = .none ∧ ∀ i, i < (clT k).2.2 → ∃ v, cell.slots[Γ.1.2 k i]? = some v ∧ VR (newM m k n) (adN ad k (mK m k) H.size) (gf9 (newM m k n) k i (fcd (tyT k i)) (mK m k)) v)
    (hr : 15 ≤ k → H2[H.size]? = some (aCl Γ (newM m k n) k (mK m k))) : Rep Γ (newM m k n) (adN ad k (mK m k) H.size) H2 := by
  have hlt := @Rep.lt Γ m ad H h
  obtain ⟨r1, r2, r3, r4, r5, r6, r7⟩ := h
  have hx : Ex m ad (newM m k n) (adN ad k (mK m k) H.size) := Ex.new
  have hold : ∀ a b, b < mK (newM m k n) a → ¬ (a = k ∧ b = mK m k) → b < mK m a := by
    intro a b hb he
    rw [newM_K] at hb
    split at hb
    · rename_i e; subst e
      have : b ≠ mK m a := fun z => he ⟨rfl, z⟩
      omega
    · exact hb
  have hpl : ∀ x y z, ¬ (x = k ∧ y = mK m k) → mI (newM m k n) x y z = mI m x y z ∧ mJ (newM m k n) x y z = mJ m x y z ∧ mR (newM m k n) x y z = mR m x y z := by
    intro x y z he
    have : x ≠ k ∨ y ≠ mK m k := by
      by_cases e : x = k
      · exact Or.inr (fun e2 => he ⟨e, e2⟩)
      · exact Or.inl e
    exact ⟨by rw [newM_I, upA_ne this], by rw [newM_J, upA_ne this], by rw [newM_R, upA_ne this]⟩
  refine ⟨?_, ?_, ?_, ?_, ?_, ?_, ?_⟩
  · intro a b ha hb
    by_cases e : a = k ∧ b = mK m k
    · obtain ⟨rfl, rfl⟩ := e
      rw [adN_eq]
      exact ho ha
    · have hb2 := hold a b hb e
      obtain ⟨cell2, q1, q2, q3, q4⟩ := r1 a b ha hb2
      rw [adN_ne e]
      refine ⟨cell2, by rw [h3 _ (hlt (by omega) hb2)]; exact q1, q2, q3, fun i hi => ?_⟩
      obtain ⟨v, g2, g3⟩ := q4 i hi
      obtain ⟨e1, e2, e3⟩ := hpl a b i e
      exact ⟨v, g2, by rw [gf9_ne e1 e2 e3]; exact g3.ex hx⟩
  · intro a b ha1 ha hb
    by_cases e : a = k ∧ b = mK m k
    · obtain ⟨rfl, rfl⟩ := e
      rw [adN_eq]
      exact hr ha1
    · have hb2 := hold a b hb e
      rw [adN_ne e, h3 _ (hlt ha hb2), r2 a b ha1 ha hb2]
      congr 1
      unfold aCl
      congr 1
      funext i
      obtain ⟨e1, e2, e3⟩ := hpl a b i e
      rw [e1, e2]
  · intro a b ha hb
    by_cases e : a = k ∧ b = mK m k
    · obtain ⟨rfl, rfl⟩ := e
      rw [adN_eq]; exact hB
    · rw [adN_ne e]
      exact r3 a b ha (hold a b hb e)
  · intro a b a2 b2 ha ha2 hb hb2 q
    by_cases e : a = k ∧ b = mK m k
    · by_cases e2 : a2 = k ∧ b2 = mK m k
      · exact ⟨e.1.trans e2.1.symm, e.2.trans e2.2.symm⟩
      · exfalso
        have := hlt ha2 (hold a2 b2 hb2 e2)
        rw [adN_ne e2, e.1, e.2, adN_eq] at q
        omega
    · by_cases e2 : a2 = k ∧ b2 = mK m k
      · exfalso
        have := hlt ha (hold a b hb e)
        rw [adN_ne e, e2.1, e2.2, adN_eq] at q
        omega
      · rw [adN_ne e, adN_ne e2] at q
        exact r4 a b a2 b2 ha ha2 (hold a b hb e) (hold a2 b2 hb2 e2) q
  · intro a b ha
    rw [adN_ne (fun e => by omega)]
    exact r5 a b ha
  · intro a ha
    rw [newM_K, if_neg (by omega)]
    exact r6 a ha
  · intro i hi
    rw [(hpl 99 0 i (fun e => by omega)).1]
    exact r7 i hi
theorem VR.df {m : Mem} {ad : Nat → Nat → Nat} {k n i : Nat} {t : FieldType} (hk : k < 80) (ht : fcd t < 4) : VR (newM m k n) ad (gf9 (newM m k n) k i (fcd t) (mK m k)) (defaultValue t) := by
  unfold gf9
  rw [if_neg (by omega)]
  have e1 : mI (newM m k n) k (mK m k) i = 0 := by first | rw [newM_I, upA_eq] | rw [newM_J, upA_eq]
  have e2 : mJ (newM m k n) k (mK m k) i = 0 := by first | rw [newM_I, upA_eq] | rw [newM_J, upA_eq]
  have e3 : mR (newM m k n) k (mK m k) i = some none := by rw [newM_R, upA_eq]
  cases t <;> first | (simp [fcd] at ht; done) | (simp only [fcd, e1, e2, e3]; rfl)
end RPS
