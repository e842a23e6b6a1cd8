/-! Arrays, new things, constants -/
theorem tyL_at (Γ : Gm) {t : Nat} (h : t ≤ 3) : (tyL Γ)[t]? = some (Γ.2.1 t, tyA t) := by
  match t, h with
  | 0, _ => rfl
  | 1, _ => rfl
  | 2, _ => rfl
  | 3, _ => rfl
theorem eK_one {L k : Nat} (h : k = 99 ∨ (90 ≤ k ∧ k ≤ 93)) : eKn L k = 1 := by
  unfold eKn
  rw [if_neg (by omega), if_neg (by omega), if_pos h]
section AS
variable {Γ : Gm} {M : Nat} {p : Program} {l9 : Launch} {e : Env} {R : Room} {s : State} {mm : MethodId} {args : Array Value} {below : List Frame} {meth : Method} {c9 : Code} {Q : State → Prop} {m m1 : Mem} {ad : Nat → Nat → Nat} {cells slots pc pc1 : Nat} {l l1 : Loc9} {st s1 : List AV} {H : Heap} {locs : List Loc} {ls : Array Slot} {sv : List Value}
/-- any array that may be read: its cell -/
theorem arr_at {k j : Nat} (hR : Rep Γ m ad H) (hK : KN Γ s H) (hj : j < mK m k) (ht : aTy k ≤ 3) (hk : okK k = true) : ∃ cell : Cell, H[ad k j]? = some cell ∧ s.isArrayOf cell (tyA (aTy k)) ∧ cell.vm ≠ .unknown ∧ cell.slots.size.toInt32 = Int32.ofNat (aLn m k j) ∧ (aLn m k j ≤ cell.slots.size) ∧ ((k < 80 → aTy k ≠ 3) → ∀ i, i < aLn m k j → cell.slots[i]? = some (.int (aGt m k j i))) := by
  have h20 := aTy_20 ht
  simp only [okK, Bool.or_eq_true, Bool.and_eq_true, decide_eq_true_eq, beq_iff_eq] at hk
  by_cases h80 : k < 80
  · refine ⟨_, hR.2.1 k j (by omega) h80 hj, ((hK.1.2 _ _ (tyL_at Γ ht)).1) _ _, (fun z => by cases z), ?_, ?_, ?_⟩
    · unfold aCl aLn; rw [arrV_size, if_neg (by omega), if_neg (by omega)]
    · unfold aCl aLn; rw [arrV_size, if_neg (by omega), if_neg (by omega)]; exact Nat.le_refl _
    · intro hn i hi
      unfold aLn at hi
      rw [if_neg (by omega), if_neg (by omega)] at hi
      unfold aCl aGt
      rw [arrV_read _ _ hi, if_neg (hn h80), if_pos h80]
  · have ea := hR.2.2.2.2.1 k j (by omega)
    rw [hR.2.2.2.2.2.1 k (by omega)] at hj
    rcases hk with ((hk | rfl) | hk) | rfl
    · exact absurd hk h80
    · have hj9 : j < 9 := hj
      obtain ⟨-, -, -, cell, g1, g2, g3, g4, g5, g6, -⟩ := hK.2.2.2.2.1.1 j hj9
      have elen : ∀ j, j < 9 → (strT.map List.length).getD j 0 = (nth9 strT j []).length := by decide +kernel
      have eel : ∀ j, j < 9 → strT.getD j [] = nth9 strT j [] := by decide +kernel
      rw [elen j hj9] at g4 g5 g6
      rw [ea]
      refine ⟨cell, g1, g2, g3, g5, g4, fun _ i hi => ?_⟩
      have hi2 : i < (nth9 strT j []).length := hi
      rw [g6 i hi2, eel j hj9]
      show some (Value.int ((nth9 strT j []).getD i 0)) = some (Value.int (roT 81 j i))
      have key : ∀ (L : List Int32) (i : Nat), L.getD i 0 = nth9 L i 0 := by
        intro L
        induction L with
        | nil => intro i; cases i <;> rfl
        | cons a r ih => intro i; cases i with
          | zero => rfl
          | succ i => rw [List.getD_cons_succ]; exact ih i
      rw [key]; rfl
    · obtain ⟨q, rfl⟩ : ∃ q, k = 90 + q := ⟨k - 90, by omega⟩
      have hj1 : j = 0 := by rw [eK_one (Or.inr hk)] at hj; omega
      subst hj1
      obtain ⟨-, cell, g1, g2, g3, g4, g5, g6, -⟩ := hK.2.2.2.2.2.1 q (by omega)
      have hl : aLn m (90 + q) 0 = 4 := by unfold aLn kLn; rw [if_neg (by omega), if_neg (by omega), if_pos (by omega)]
      have hty : aTy (90 + q) = 0 := by unfold aTy; rw [if_neg (by omega), if_neg (by omega), if_pos (by omega)]
      rw [ea, hl, hty]
      refine ⟨cell, g1, g2, g3, g5, g4, fun _ i hi => ?_⟩
      rw [g6 i hi]
      unfold aGt
      rw [if_neg (by omega), if_neg (by omega)]
    · have hj1 : j = 0 := by rw [eK_one (Or.inl rfl)] at hj; omega
      subst hj1
      obtain ⟨scr, g1, g2, g3, g4, g5⟩ := hK.2.2.2.2.2.2.2.2.2.2.1
      have hl : aLn m 99 0 = gL Γ := by
        unfold aLn; rw [if_pos rfl, hR.2.2.2.2.2.1 98 (by omega)]; rfl
      rw [ea, hl]
      refine ⟨scr, g1, g2, g3, by rw [g4], by rw [g4]; exact Nat.le_refl _, fun _ i hi => ?_⟩
      rw [g5 i hi]
      unfold aGt
      rw [if_neg (by omega), if_pos rfl, hR.2.2.2.2.2.2 i hi]
theorem VR.rf {a j : Nat} {w : Value} (h : VR m ad (vr a j) w) : w = .ref (ad a j) ∧ j < mK m a := h
theorem inR_lt {i : Int32} {n : Nat} (h : inR i n = true) : i.toNatClampNeg < n := by
  simp only [inR, Bool.and_eq_true, decide_eq_true_eq] at h
  exact h.2
theorem inR_w {i : Int32} {n k : Nat} (h : inR i n = true) (hk : n ≤ k) : ¬ (i < 0 ∨ k ≤ i.toNatClampNeg) := by
  have h1 := inR_in h
  have h2 := inR_lt h
  intro q
  rcases q with q | q
  · exact h1 (Or.inl q)
  · omega
theorem aTy_3 {k : Nat} (h : 80 ≤ k) (hk : okK k = true) : aTy k ≠ 3 := by
  simp only [okK, Bool.or_eq_true, Bool.and_eq_true, decide_eq_true_eq, beq_iff_eq] at hk
  unfold aTy
  rcases hk with ((hk | rfl) | hk) | rfl
  · omega
  · decide
  · rw [if_neg (by omega), if_neg (by omega), if_pos (by omega)]; decide
  · decide
theorem sd_iald (C : CX M p l9 s mm args meth c9) (hd : decode (mB M) pc = .ok (.iaload, 1)) (h : ald9 sF sN (fun t => t == 0) (pc + 1) l st m = Nx pc1 l1 s1 m1) (X : SX Γ M s m ad H locs l ls st sv) (k : NX Γ M p l9 e R s mm args below meth c9 Q m ad cells slots pc1 l1 s1 m1) : Wn Γ M p l9 e R s mm args below meth c9 Q H locs cells slots pc ls sv := by
  obtain ⟨i, a, j, r, rfl, ht, hk, hin, rfl, rfl, rfl, rfl⟩ := iv_ald h
  obtain ⟨hR, hK, hlo, hL, hS⟩ := X
  obtain ⟨w0, t0, rfl, hv0, hS1⟩ := hS.inv
  obtain ⟨w, t, rfl, hv, hS2⟩ := hS1.inv
  cases (show w0 = .int i from hv0)
  obtain ⟨rfl, hj⟩ := VR.rf hv
  have ht : aTy a = 0 := by simpa using ht
  obtain ⟨cell, g1, g2, g3, g4, g5, g6⟩ := arr_at (s := s) hR hK hj (by omega) hk
  rw [ht] at g2
  exact W.iald C.ex C.by g1 g2 g3 (inR_w hin g5) (g6 (fun _ => by omega) _ (inR_lt hin)) rfl rfl hd (k.here hR hK hlo hL ⟨rfl, hS2⟩)
theorem sd_bald (C : CX M p l9 s mm args meth c9) (hd : decode (mB M) pc = .ok (.baload, 1)) (h : ald9 sF sN (fun t => t == 1 || t == 2) (pc + 1) l st m = Nx pc1 l1 s1 m1) (X : SX Γ M s m ad H locs l ls st sv) (k : NX Γ M p l9 e R s mm args below meth c9 Q m ad cells slots pc1 l1 s1 m1) : Wn Γ M p l9 e R s mm args below meth c9 Q H locs cells slots pc ls sv := by
  obtain ⟨i, a, j, r, rfl, ht, hk, hin, rfl, rfl, rfl, rfl⟩ := iv_ald h
  obtain ⟨hR, hK, hlo, hL, hS⟩ := X
  obtain ⟨w0, t0, rfl, hv0, hS1⟩ := hS.inv
  obtain ⟨w, t, rfl, hv, hS2⟩ := hS1.inv
  cases (show w0 = .int i from hv0)
  obtain ⟨rfl, hj⟩ := VR.rf hv
  have ht : aTy a = 1 ∨ aTy a = 2 := by simpa using ht
  obtain ⟨cell, g1, g2, g3, g4, g5, g6⟩ := arr_at (s := s) hR hK hj (by omega) hk
  have kk := k.here (sv1 := .int (aGt m1 a j i.toNatClampNeg) :: t) hR hK hlo hL ⟨rfl, hS2⟩
  rcases ht with ht | ht
  · rw [ht] at g2
    exact W.bald C.ex C.by g1 g2 g3 (inR_w hin g5) (g6 (fun _ => by omega) _ (inR_lt hin)) rfl rfl hd kk
  · rw [ht] at g2
    exact W.zald C.ex C.by g1 g2 g3 (inR_w hin g5) (g6 (fun _ => by omega) _ (inR_lt hin)) rfl rfl hd kk
theorem sd_lald (C : CX M p l9 s mm args meth c9) (hd : decode (mB M) pc = .ok (.laload, 1)) (h : lald9 sF sN (pc + 1) l st m = Nx pc1 l1 s1 m1) (X : SX Γ M s m ad H locs l ls st sv) (k : NX Γ M p l9 e R s mm args below meth c9 Q m ad cells slots pc1 l1 s1 m1) : Wn Γ M p l9 e R s mm args below meth c9 Q H locs cells slots pc ls sv := by
  obtain ⟨i, a, j, r, rfl, h80, ht, hin, rfl, rfl, rfl, rfl⟩ := iv_lald h
  obtain ⟨hR, hK, hlo, hL, hS⟩ := X
  obtain ⟨w0, t0, rfl, hv0, hS1⟩ := hS.inv
  obtain ⟨w, t, rfl, hv, hS2⟩ := hS1.inv
  cases (show w0 = .int i from hv0)
  obtain ⟨rfl, hj⟩ := VR.rf hv
  have h20 : 20 ≤ a := aTy_20 (by omega)
  have g1 := hR.2.1 a j (by omega) h80 hj
  have g2 : s.isArrayOf (aCl Γ m1 a j) .long := by
    have := ((hK.1.2 _ _ (tyL_at Γ (t := aTy a) (by omega))).1) (kLn a) (fun i => if aTy a = 3 then .long (mJ m1 a j i) else .int (mI m1 a j i))
    rw [ht] at this
    unfold aCl
    rw [ht]
    exact this
  refine W.lald C.ex C.by g1 g2 (fun z => by cases z) (inR_w hin (by unfold aCl; rw [arrV_size]; exact Nat.le_refl _)) (v := .long (mJ m1 a j i.toNatClampNeg)) ?_ rfl rfl hd (k.here hR hK hlo hL ⟨rfl, hS2⟩)
  unfold aCl
  rw [arrV_read _ _ (inR_lt hin), if_pos ht]
theorem up3_nz {α : Type} {f : Nat → Nat → Nat → α} {k j i a b c : Nat} {v : α} (h : a ≠ k ∨ b ≠ j) : up3 f k j i v a b c = f a b c := up3_ne (h.elim Or.inl (fun z => Or.inr (Or.inl z)))
theorem aCl_set {Γ : Gm} {m m2 : Mem} {a j i : Nat} {v : Value} (h : ∀ x, (if aTy a = 3 then Value.long (mJ m2 a j x) else .int (mI m2 a j x)) = if x = i then v else (if aTy a = 3 then Value.long (mJ m a j x) else .int (mI m a j x))) : (aCl Γ m a j).setSlot i v = aCl Γ m2 a j := by
  unfold aCl
  rw [arrV_store]
  congr 1
  funext x
  rw [h x]
  rfl
theorem sd_fin {a j i : Nat} {v : Value} {t : List Value} {pc2 : Nat} {r : List AV} (ha1 : 15 ≤ a) (ha : a < 80) (hj : j < mK m a) (hKm : mK m1 = mK m ∧ mC m1 = mC m ∧ mS m1 = mS m) (hI : ∀ x y z, (x ≠ a ∨ y ≠ j) → mI m1 x y z = mI m x y z ∧ mJ m1 x y z = mJ m x y z ∧ mR m1 x y z = mR m x y z)
    (hset : (aCl Γ m a j).setSlot i v = aCl Γ m1 a j) (X : SX Γ M s m ad H locs l ls r t) (k : NX Γ M p l9 e R s mm args below meth c9 Q m ad cells slots pc2 l r m1) :
    ∀ H2 : Heap, H2[ad a j]? = some ((aCl Γ m a j).setSlot i v) → H2.size = H.size → (∀ q, q ≠ ad a j → H2[q]? = H[q]?) → W p l9 e R s mm args below meth c9 H2 (locs ++ [⟨ad a j, i⟩]) cells slots Q (F0 mm pc2 ls t) := by
  intro H2 e1 e2 e3
  obtain ⟨hR, hK, hlo, hL, hS⟩ := X
  rw [hset] at e1
  have hR2 : Rep Γ m1 ad H2 := hR.arr ha1 ha hj hKm.1 e1 e3 hI
  have hx : Ex m ad m1 ad := Ex.same hKm.1
  have kk := k ad H2 (locs ++ [⟨ad a j, i⟩]) ls t hx ⟨hR2, hK.kept (Nat.le_of_eq e2.symm) (fun q hq hn => e3 q (fun z => hn (by rw [z]; exact hR.2.2.1 a j ha hj))), fun q hq => by
    rcases List.mem_append.mp hq with hq | hq
    · exact hlo q hq
    · cases List.mem_singleton.mp hq
      exact hR.2.2.1 a j ha hj, hL.ex hx, hS.ex hx⟩
  rw [hKm.2.1, hKm.2.2] at kk
  simpa using kk
theorem aCl_of (hK : KN Γ s H) {a j : Nat} (ht : aTy a ≤ 3) : s.isArrayOf (aCl Γ m a j) (tyA (aTy a)) := ((hK.1.2 _ _ (tyL_at Γ ht)).1) _ _
theorem aCl_sz {a j : Nat} : (aCl Γ m a j).slots.size = kLn a := by unfold aCl; rw [arrV_size]
theorem sd_iast (C : CX M p l9 s mm args meth c9) (hd : decode (mB M) pc = .ok (.iastore, 1)) (h : iast9 sF sN (pc + 1) l st m = Nx pc1 l1 s1 m1) (X : SX Γ M s m ad H locs l ls st sv) (k : NX Γ M p l9 e R s mm args below meth c9 Q m ad cells slots pc1 l1 s1 m1) : Wn Γ M p l9 e R s mm args below meth c9 Q H locs cells slots pc ls sv := by
  obtain ⟨x, i, a, j, r, rfl, h80, ht, hin, rfl, rfl, rfl, rfl⟩ := iv_iast h
  obtain ⟨hR, hK, hlo, hL, hS⟩ := X
  obtain ⟨w0, t0, rfl, hv0, hS1⟩ := hS.inv
  obtain ⟨w1, t1, rfl, hv1, hS2⟩ := hS1.inv
  obtain ⟨w, t, rfl, hv, hS3⟩ := hS2.inv
  cases (show w0 = .int x from hv0)
  cases (show w1 = .int i from hv1)
  obtain ⟨rfl, hj⟩ := VR.rf hv
  have h20 : 20 ≤ a := aTy_20 (by omega)
  have g2 := aCl_of (m := m) (j := j) hK (a := a) (by omega)
  rw [ht] at g2
  refine W.iast C.ex C.by (hR.2.1 a j (by omega) h80 hj) g2 (fun z => by cases z) (inR_w hin (by rw [aCl_sz]; exact Nat.le_refl _)) rfl rfl hd ?_
  refine sd_fin (m1 := setI m a j i.toNatClampNeg x) (by omega) h80 hj ⟨rfl, rfl, rfl⟩ (fun x y z hz => ⟨up3_nz hz, rfl, rfl⟩) (aCl_set (fun y => ?_)) ⟨hR, hK, hlo, hL, hS3⟩ k
  simp only [if_neg (show ¬ aTy a = 3 by omega)]
  split
  · rename_i e; subst e; exact congrArg Value.int up3_eq
  · rename_i e; exact congrArg Value.int (up3_ne (Or.inr (Or.inr e)))
theorem sd_bast (C : CX M p l9 s mm args meth c9) (hd : decode (mB M) pc = .ok (.bastore, 1)) (h : bast9 sF sN (pc + 1) l st m = Nx pc1 l1 s1 m1) (X : SX Γ M s m ad H locs l ls st sv) (k : NX Γ M p l9 e R s mm args below meth c9 Q m ad cells slots pc1 l1 s1 m1) : Wn Γ M p l9 e R s mm args below meth c9 Q H locs cells slots pc ls sv := by
  obtain ⟨x, i, a, j, r, rfl, h80, hin, rfl, rfl, rfl, hm⟩ := iv_bast h
  obtain ⟨hR, hK, hlo, hL, hS⟩ := X
  obtain ⟨w0, t0, rfl, hv0, hS1⟩ := hS.inv
  obtain ⟨w1, t1, rfl, hv1, hS2⟩ := hS1.inv
  obtain ⟨w, t, rfl, hv, hS3⟩ := hS2.inv
  cases (show w0 = .int x from hv0)
  cases (show w1 = .int i from hv1)
  obtain ⟨rfl, hj⟩ := VR.rf hv
  rcases hm with ⟨ht, rfl⟩ | ⟨ht, rfl⟩
  · have h20 : 20 ≤ a := aTy_20 (by omega)
    have g2 := aCl_of (m := m) (j := j) hK (a := a) (by omega)
    rw [ht] at g2
    refine W.bast C.ex C.by (hR.2.1 a j (by omega) h80 hj) g2 (fun z => by cases z) (inR_w hin (by rw [aCl_sz]; exact Nat.le_refl _)) rfl rfl hd ?_
    refine sd_fin (m1 := setI m a j i.toNatClampNeg x.toInt8.toInt32) (by omega) h80 hj ⟨rfl, rfl, rfl⟩ (fun x y z hz => ⟨up3_nz hz, rfl, rfl⟩) (aCl_set (fun y => ?_)) ⟨hR, hK, hlo, hL, hS3⟩ k
    simp only [if_neg (show ¬ aTy a = 3 by omega)]
    split
    · rename_i e; subst e; exact congrArg Value.int up3_eq
    · rename_i e; exact congrArg Value.int (up3_ne (Or.inr (Or.inr e)))
  · have h20 : 20 ≤ a := aTy_20 (by omega)
    have g2 := aCl_of (m := m) (j := j) hK (a := a) (by omega)
    rw [ht] at g2
    refine W.zast C.ex C.by (hR.2.1 a j (by omega) h80 hj) g2 (fun z => by cases z) (inR_w hin (by rw [aCl_sz]; exact Nat.le_refl _)) rfl rfl hd ?_
    refine sd_fin (m1 := setI m a j i.toNatClampNeg (x &&& 1)) (by omega) h80 hj ⟨rfl, rfl, rfl⟩ (fun x y z hz => ⟨up3_nz hz, rfl, rfl⟩) (aCl_set (fun y => ?_)) ⟨hR, hK, hlo, hL, hS3⟩ k
    simp only [if_neg (show ¬ aTy a = 3 by omega)]
    split
    · rename_i e; subst e; exact congrArg Value.int up3_eq
    · rename_i e; exact congrArg Value.int (up3_ne (Or.inr (Or.inr e)))
theorem sd_last (C : CX M p l9 s mm args meth c9) (hd : decode (mB M) pc = .ok (.lastore, 1)) (h : last9 sF sN (pc + 1) l st m = Nx pc1 l1 s1 m1) (X : SX Γ M s m ad H locs l ls st sv) (k : NX Γ M p l9 e R s mm args below meth c9 Q m ad cells slots pc1 l1 s1 m1) : Wn Γ M p l9 e R s mm args below meth c9 Q H locs cells slots pc ls sv := by
  obtain ⟨x, i, a, j, r, rfl, h80, ht, hin, rfl, rfl, rfl, rfl⟩ := iv_last h
  obtain ⟨hR, hK, hlo, hL, hS⟩ := X
  obtain ⟨w0, t0, rfl, hv0, hS1⟩ := hS.inv
  obtain ⟨w1, t1, rfl, hv1, hS2⟩ := hS1.inv
  obtain ⟨w, t, rfl, hv, hS3⟩ := hS2.inv
  cases (show w0 = .long x from hv0)
  cases (show w1 = .int i from hv1)
  obtain ⟨rfl, hj⟩ := VR.rf hv
  have h20 : 20 ≤ a := aTy_20 (by omega)
  have g2 := aCl_of (m := m) (j := j) hK (a := a) (by omega)
  rw [ht] at g2
  refine W.last C.ex C.by (hR.2.1 a j (by omega) h80 hj) g2 (fun z => by cases z) (inR_w hin (by rw [aCl_sz]; exact Nat.le_refl _)) rfl rfl hd ?_
  refine sd_fin (m1 := setJ m a j i.toNatClampNeg x) (by omega) h80 hj ⟨rfl, rfl, rfl⟩ (fun x y z hz => ⟨rfl, up3_nz hz, rfl⟩) (aCl_set (fun y => ?_)) ⟨hR, hK, hlo, hL, hS3⟩ k
  simp only [if_pos ht]
  split
  · rename_i e; subst e; exact congrArg Value.long up3_eq
  · rename_i e; exact congrArg Value.long (up3_ne (Or.inr (Or.inr e)))
theorem sd_alen (C : CX M p l9 s mm args meth c9) (hd : decode (mB M) pc = .ok (.arraylength, 1)) {a j : Nat} {r : List AV} (ht : aTy a ≤ 3) (hk : okK a = true) (X : SX Γ M s m ad H locs l ls (vr a j :: r) sv) (k : NX Γ M p l9 e R s mm args below meth c9 Q m ad cells slots (pc + 1) l (vi (Int32.ofNat (aLn m a j)) :: r) m) : Wn Γ M p l9 e R s mm args below meth c9 Q H locs cells slots pc ls sv := by
  obtain ⟨hR, hK, hlo, hL, hS⟩ := X
  obtain ⟨w, t, rfl, hv, hS2⟩ := hS.inv
  obtain ⟨rfl, hj⟩ := VR.rf hv
  obtain ⟨cell, g1, g2, g3, g4, g5, g6⟩ := arr_at (s := s) hR hK hj ht hk
  exact W.alen C.ex C.by g1 g2 g4 rfl rfl hd (k.here hR hK hlo hL ⟨rfl, hS2⟩)
end AS
