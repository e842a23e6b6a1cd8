/-! The call feed -/
def bC (x s : Int32) : Int32 := i2b9 (i2b9 (ius9 x s))
def bM (x s : Int32) : Int32 := i2b9 (i2b9 (isr9 x s))
def pt (I : PI) (t : Nat) (b : Int32) : PI := up3 (up3 I 37 0 t b) 11 0 10 (nn (t + 1))
def pm (I : PI) (t : Nat) (b : Int32) : PI := up3 (up3 I 37 1 t b) 14 0 8 (nn (t + 1))
theorem itn_inv {β : Type} {step : Nat → β → β} (P : β → Prop) (h : ∀ k b, P b → P (step k b)) : ∀ n c b, P b → P (itn step n c b)
  | 0, _, _, hb => hb
  | n + 1, c, b, hb => itn_inv P h n (c + 1) (step c b) (h c b hb)
theorem put1 (d : Nat) (x s : Int32) (t : Nat) (I : PI) (J : PJ) (T : TL) (h : I 11 0 10 = nn t) (ht : t < 500) (hs : ¬ s < 0) : den d 18 3 [some (vr 11 0), some (vi x), some (vi s)] [] (MX I J T) = den d 18 3 [some (vr 11 0), some (vi x), some (vi (s + (-8)))] [] (MX (pt I t (bC x s)) J T) := by
  rw [b18_3, if_neg hs, h, if_neg (by rw [show (500 : Int32) = nn 500 from rfl, nn_le (by omega) (by omega)]; omega), if_pos (nn_inR ht (by omega)), nn_idx (by omega), nn_add1]
  rfl
theorem put4 (d : Nat) (x : Int32) (t : Nat) (I : PI) (J : PJ) (T : TL) (h : I 11 0 10 = nn t) (ht : t + 4 ≤ 500) : cal d 18 [vr 11 0, vi x] (MX I J T) = some (.inl none, MX (pt (pt (pt (pt I t (bC x 24)) (t + 1) (bC x 16)) (t + 2) (bC x 8)) (t + 3) (bC x 0)) J T) := by
  rw [c18, put1 d x 24 t I J T h (by omega) (by decide), show (24 + (-8) : Int32) = 16 from rfl, put1 d x 16 (t + 1) _ J T rfl (by omega) (by decide), show (16 + (-8) : Int32) = 8 from rfl, put1 d x 8 (t + 2) _ J T rfl (by omega) (by decide), show (8 + (-8) : Int32) = 0 from rfl, put1 d x 0 (t + 3) _ J T rfl (by omega) (by decide), show (0 + (-8) : Int32) = -8 from rfl, b18_3, if_pos (by decide)]
def arg5 (x1 x2 x3 x4 x5 : Int32) (k : Nat) : Int32 := if k < 4 then x1 else if k < 8 then x2 else if k < 12 then x3 else if k < 16 then x4 else x5
def feC (x1 x2 x3 x4 x5 : Int32) (t k : Nat) (I : PI) : PI := pt I (t + k) (bC (arg5 x1 x2 x3 x4 x5 k) (nn (24 - 8 * (k % 4))))
def feM (x1 x2 x3 x4 x5 : Int32) (t k : Nat) (I : PI) : PI := pm I (t + k) (bM (arg5 x1 x2 x3 x4 x5 k) (nn (24 - 8 * (k % 4))))
set_option maxRecDepth 20000 in
theorem feedC (d : Nat) (x1 x2 x3 x4 x5 : Int32) (t : Nat) (I : PI) (J : PJ) (T : TL) (h : I 11 0 10 = nn t) (ht : t + 20 ≤ 500) : cal (d + 1) 17 [vr 11 0, vi x1, vi x2, vi x3, vi x4, vi x5] (MX I J T) = some (.inl (some (vi (nn (t + 20)))), MX (itn (feC x1 x2 x3 x4 x5 t) 20 0 I) J T) := by
  rw [c17, h, show (20 : Int32) = nn 20 from rfl, show (500 : Int32) = nn 500 from rfl, nn_add, if_pos ((nn_le (by omega) (by omega)).mpr ht), put4 d x1 t I J T h (by omega)]
  refine (b17_20 d x1 x2 x3 x4 x5 _ J T).trans ?_
  rw [put4 d x2 (t + 4) _ J T rfl (by omega)]
  refine (b17_25 d x1 x2 x3 x4 x5 _ J T).trans ?_
  rw [put4 d x3 (t + 8) _ J T rfl (by omega)]
  refine (b17_30 d x1 x2 x3 x4 x5 _ J T).trans ?_
  rw [put4 d x4 (t + 12) _ J T rfl (by omega)]
  refine (b17_36 d x1 x2 x3 x4 x5 _ J T).trans ?_
  rw [put4 d x5 (t + 16) _ J T rfl (by omega)]
  exact b17_42 (d + 1) x1 x2 x3 x4 x5 _ J T
theorem sub8 : ∀ k : Fin 20, (24 - (8 * (irm9 (nn k.val) 4)) : Int32) = nn (24 - 8 * (k.val % 4)) := by decide
theorem feed1 (d : Nat) (x1 x2 x3 x4 x5 : Int32) (t k : Nat) (o7 : Option AV) (I : PI) (J : PJ) (T : TL) (h : I 14 0 8 = nn (t + k)) (ht : t + 20 ≤ 500) (hk : k < 20) : ∃ o : Option AV, den d 185 23 [some (vr 14 0), some (vi x1), some (vi x2), some (vi x3), some (vi x4), some (vi x5), some (vi (nn k)), o7] [] (MX I J T) = den d 185 23 [some (vr 14 0), some (vi x1), some (vi x2), some (vi x3), some (vi x4), some (vi x5), some (vi (nn (k + 1))), o] [] (MX (feM x1 x2 x3 x4 x5 t k I) J T) := by
  have e8 := sub8 ⟨k, hk⟩
  dsimp only at e8
  have last : ∀ y : Int32, arg5 x1 x2 x3 x4 x5 k = y → den d 185 76 [some (vr 14 0), some (vi x1), some (vi x2), some (vi x3), some (vi x4), some (vi x5), some (vi (nn k)), o7] [vi y] (MX I J T) = den d 185 23 [some (vr 14 0), some (vi x1), some (vi x2), some (vi x3), some (vi x4), some (vi x5), some (vi (nn (k + 1))), some (vi y)] [] (MX (feM x1 x2 x3 x4 x5 t k I) J T) := by
    intro y hy
    rw [b185_76, b185_78, h, if_pos (nn_inR (by omega) (by omega)), nn_idx (by omega), e8, b185_101, b185_114, nn_add1]
    have e9 : (up3 I 37 1 (t + k) (i2b9 (i2b9 (isr9 y (nn (24 - 8 * (k % 4))))))) 14 0 8 + 1 = nn (t + k + 1) := by
      show I 14 0 8 + 1 = _
      rw [h, nn_add1]
    rw [e9]
    unfold feM pm bM
    rw [hy]
  rw [b185_23, if_neg (by rw [show (20 : Int32) = nn 20 from rfl, nn_le (by omega) (by omega)]; omega), b185_30]
  by_cases h4 : k < 4
  · refine ⟨some (vi x1), ?_⟩
    rw [if_neg (by rw [show (4 : Int32) = nn 4 from rfl, nn_le (by omega) (by omega)]; omega), b185_36]
    exact last x1 (by unfold arg5; rw [if_pos h4])
  · rw [if_pos (by rw [show (4 : Int32) = nn 4 from rfl, nn_le (by omega) (by omega)]; omega), b185_40]
    by_cases h8 : k < 8
    · refine ⟨some (vi x2), ?_⟩
      rw [if_neg (by rw [show (8 : Int32) = nn 8 from rfl, nn_le (by omega) (by omega)]; omega), b185_47]
      exact last x2 (by unfold arg5; rw [if_neg h4, if_pos h8])
    · rw [if_pos (by rw [show (8 : Int32) = nn 8 from rfl, nn_le (by omega) (by omega)]; omega), b185_51]
      by_cases h12 : k < 12
      · refine ⟨some (vi x3), ?_⟩
        rw [if_neg (by rw [show (12 : Int32) = nn 12 from rfl, nn_le (by omega) (by omega)]; omega), b185_58]
        exact last x3 (by unfold arg5; rw [if_neg h4, if_neg h8, if_pos h12])
      · rw [if_pos (by rw [show (12 : Int32) = nn 12 from rfl, nn_le (by omega) (by omega)]; omega), b185_62]
        by_cases h16 : k < 16
        · refine ⟨some (vi x4), ?_⟩
          rw [if_neg (by rw [show (16 : Int32) = nn 16 from rfl, nn_le (by omega) (by omega)]; omega), b185_69]
          exact last x4 (by unfold arg5; rw [if_neg h4, if_neg h8, if_neg h12, if_pos h16])
        · refine ⟨some (vi x5), ?_⟩
          rw [if_pos (by rw [show (16 : Int32) = nn 16 from rfl, nn_le (by omega) (by omega)]; omega), b185_74]
          exact last x5 (by unfold arg5; rw [if_neg h4, if_neg h8, if_neg h12, if_neg h16])
theorem feedM_lp (d : Nat) (x1 x2 x3 x4 x5 : Int32) (t : Nat) (J : PJ) (T : TL) (ht : t + 20 ≤ 500) : ∀ (n k : Nat) (o7 : Option AV) (I : PI), k + n = 20 → I 14 0 8 = nn (t + k) → den d 185 23 [some (vr 14 0), some (vi x1), some (vi x2), some (vi x3), some (vi x4), some (vi x5), some (vi (nn k)), o7] [] (MX I J T) = some (.inl (some (vi (nn (t + 20)))), MX (itn (feM x1 x2 x3 x4 x5 t) n k I) J T) := by
  intro n
  induction n with
  | zero =>
    intro k o7 I hk h
    have : k = 20 := by omega
    subst this
    rw [b185_23, if_pos (by rw [show (20 : Int32) = nn 20 from rfl, nn_le (by omega) (by omega)]; omega), b185_117, h]
    rfl
  | succ n ih =>
    intro k o7 I hk h
    obtain ⟨o, e⟩ := feed1 d x1 x2 x3 x4 x5 t k o7 I J T h ht (by omega)
    rw [e]
    exact ih (k + 1) o _ (by omega) rfl
theorem by_eq (x : Int32) : bM x (nn 24) = bC x (nn 24) ∧ bM x (nn 16) = bC x (nn 16) ∧ bM x (nn 8) = bC x (nn 8) ∧ bM x (nn 0) = bC x (nn 0) := by
  have key : ∀ s : Nat, s ≤ 24 → ∀ (a b : Int32), a.toBitVec = x.toBitVec >>> s → b.toBitVec = x.toBitVec.sshiftRight s → i2b9 b = i2b9 a := by
    intro s hs a b ha hb
    unfold i2b9
    have : b.toInt8 = a.toInt8 := by
      apply Int8.toBitVec_inj.mp
      rw [Int32.toBitVec_toInt8, Int32.toBitVec_toInt8, ha, hb]
      apply BitVec.eq_of_getLsbD_eq
      intro i hi
      rw [BitVec.getLsbD_signExtend, BitVec.getLsbD_signExtend, BitVec.getLsbD_sshiftRight, BitVec.getLsbD_ushiftRight]
      have h1 : ¬ 32 ≤ i := by omega
      have h2 : s + i < 32 := by omega
      have h3 : i < 32 := by omega
      simp [hi, h1, h2, h3]
    rw [this]
  refine ⟨?_, ?_, ?_, ?_⟩
  · unfold bM bC; rw [key 24 (by omega) (ius9 x (nn 24)) (isr9 x (nn 24)) rfl rfl]
  · unfold bM bC; rw [key 16 (by omega) (ius9 x (nn 16)) (isr9 x (nn 16)) rfl rfl]
  · unfold bM bC; rw [key 8 (by omega) (ius9 x (nn 8)) (isr9 x (nn 8)) rfl rfl]
  · unfold bM bC; rw [key 0 (by omega) (ius9 x (nn 0)) (isr9 x (nn 0)) rfl rfl]
theorem by_k (x : Int32) (k : Nat) : bM x (nn (24 - 8 * (k % 4))) = bC x (nn (24 - 8 * (k % 4))) := by
  obtain ⟨h1, h2, h3, h4⟩ := by_eq x
  have : k % 4 = 0 ∨ k % 4 = 1 ∨ k % 4 = 2 ∨ k % 4 = 3 := by omega
  rcases this with h | h | h | h <;> rw [h]
  · exact h1
  · exact h2
  · exact h3
  · exact h4
/-- the tapes stay alike -/
theorem fe_tape (x1 x2 x3 x4 x5 : Int32) (t : Nat) : ∀ (n k : Nat) (I I2 : PI), (∀ i, I 37 0 i = I2 37 1 i) → ∀ i, (itn (feC x1 x2 x3 x4 x5 t) n k I) 37 0 i = (itn (feM x1 x2 x3 x4 x5 t) n k I2) 37 1 i
  | 0, _, _, _, h => h
  | n + 1, k, I, I2, h => fe_tape x1 x2 x3 x4 x5 t n (k + 1) _ _ (fun i => by
      show (if i = t + k then bC _ _ else I 37 0 i) = (if i = t + k then bM _ _ else I2 37 1 i)
      rw [h i, by_k])
theorem fe_37 (x1 x2 x3 x4 x5 : Int32) (t : Nat) (n k : Nat) (I : PI) (f : Nat → Int32) (h : I 37 0 = f) : (itn (feM x1 x2 x3 x4 x5 t) n k I) 37 0 = f := itn_inv (step := feM x1 x2 x3 x4 x5 t) (fun I => I 37 0 = f) (fun _ _ hb => hb) n k I h
theorem fe_t (x1 x2 x3 x4 x5 : Int32) (t : Nat) (n k : Nat) (I : PI) (x : Int32) (h : I 11 0 10 = x) : (itn (feM x1 x2 x3 x4 x5 t) n k I) 11 0 10 = x := itn_inv (step := feM x1 x2 x3 x4 x5 t) (fun I => I 11 0 10 = x) (fun _ _ hb => hb) n k I h
theorem fe_1 (x1 x2 x3 x4 x5 : Int32) (t : Nat) (n k : Nat) (I : PI) (f : Nat → Int32) (h : I 37 1 = f) : (itn (feC x1 x2 x3 x4 x5 t) n k I) 37 1 = f := itn_inv (step := feC x1 x2 x3 x4 x5 t) (fun I => I 37 1 = f) (fun _ _ hb => hb) n k I h
theorem fe_2 (x1 x2 x3 x4 x5 : Int32) (t : Nat) (n k : Nat) (I : PI) (x : Int32) (h : I 14 0 8 = x) : (itn (feC x1 x2 x3 x4 x5 t) n k I) 14 0 8 = x := itn_inv (step := feC x1 x2 x3 x4 x5 t) (fun I => I 14 0 8 = x) (fun _ _ hb => hb) n k I h
theorem fe_99 (x1 x2 x3 x4 x5 : Int32) (t : Nat) (n k : Nat) (I : PI) (f : Nat → Int32) (h : I 99 0 = f) : (itn (feC x1 x2 x3 x4 x5 t) n k I) 99 0 = f := itn_inv (step := feC x1 x2 x3 x4 x5 t) (fun I => I 99 0 = f) (fun _ _ hb => hb) n k I h
theorem fe_lM (x1 x2 x3 x4 x5 : Int32) (t : Nat) : ∀ (n k : Nat) (I : PI), I 14 0 8 = nn (t + k) → (itn (feM x1 x2 x3 x4 x5 t) n k I) 14 0 8 = nn (t + k + n)
  | 0, _, _, h => h
  | n + 1, k, I, h => by
    have := fe_lM x1 x2 x3 x4 x5 t n (k + 1) (feM x1 x2 x3 x4 x5 t k I) rfl
    rw [show t + k + (n + 1) = t + (k + 1) + n by omega]
    exact this
theorem fe_lC (x1 x2 x3 x4 x5 : Int32) (t : Nat) : ∀ (n k : Nat) (I : PI), I 11 0 10 = nn (t + k) → (itn (feC x1 x2 x3 x4 x5 t) n k I) 11 0 10 = nn (t + k + n)
  | 0, _, _, h => h
  | n + 1, k, I, h => by
    have := fe_lC x1 x2 x3 x4 x5 t n (k + 1) (feC x1 x2 x3 x4 x5 t k I) rfl
    rw [show t + k + (n + 1) = t + (k + 1) + n by omega]
    exact this
def RelX (I : PI) (J : PJ) (T : TL) : Prop := RelA I ∧ ∃ w h o : Nat, (0 < w → 0 < o) ∧ RelB I T.1 T.2.2.1 o ∧ RelW I w h ∧ RelM J w h ∧ RelC I J (w * h) o ∧ RelD I J (w * h) o ∧ RelO I (w * h) o ∧ RelK I w h ∧ RelP I T.2.2.1 w h o
def tpA (x1 x2 x3 x4 x5 : Int32) (t n k : Nat) (f : Nat → Int32) (i : Nat) : Int32 := if t + k ≤ i ∧ i < t + k + n then bC (arg5 x1 x2 x3 x4 x5 (i - t)) (nn (24 - 8 * ((i - t) % 4))) else f i
theorem tpA_C (x1 x2 x3 x4 x5 : Int32) (t : Nat) : ∀ (n k : Nat) (I : PI) (i : Nat), (itn (feC x1 x2 x3 x4 x5 t) n k I) 37 0 i = tpA x1 x2 x3 x4 x5 t n k (I 37 0) i
  | 0, k, I, i => by
    show I 37 0 i = _
    unfold tpA
    rw [if_neg (by omega)]
  | n + 1, k, I, i => by
    show (itn (feC x1 x2 x3 x4 x5 t) n (k + 1) (feC x1 x2 x3 x4 x5 t k I)) 37 0 i = _
    rw [tpA_C x1 x2 x3 x4 x5 t n (k + 1)]
    unfold tpA
    by_cases h : t + (k + 1) ≤ i ∧ i < t + (k + 1) + n
    · rw [if_pos h, if_pos (by omega)]
    · rw [if_neg h]
      show (if i = t + k then bC _ _ else I 37 0 i) = _
      by_cases h2 : i = t + k
      · rw [if_pos h2, if_pos (by omega)]
        subst h2
        rw [Nat.add_sub_cancel_left]
      · rw [if_neg h2, if_neg (by omega)]
theorem tpA_M (x1 x2 x3 x4 x5 : Int32) (t : Nat) : ∀ (n k : Nat) (I : PI) (i : Nat), (itn (feM x1 x2 x3 x4 x5 t) n k I) 37 1 i = tpA x1 x2 x3 x4 x5 t n k (I 37 1) i
  | 0, k, I, i => by
    show I 37 1 i = _
    unfold tpA
    rw [if_neg (by omega)]
  | n + 1, k, I, i => by
    show (itn (feM x1 x2 x3 x4 x5 t) n (k + 1) (feM x1 x2 x3 x4 x5 t k I)) 37 1 i = _
    rw [tpA_M x1 x2 x3 x4 x5 t n (k + 1)]
    unfold tpA
    by_cases h : t + (k + 1) ≤ i ∧ i < t + (k + 1) + n
    · rw [if_pos h, if_pos (by omega)]
    · rw [if_neg h]
      show (if i = t + k then bM _ _ else I 37 1 i) = _
      by_cases h2 : i = t + k
      · rw [if_pos h2, if_pos (by omega)]
        subst h2
        rw [Nat.add_sub_cancel_left, by_k]
      · rw [if_neg h2, if_neg (by omega)]
theorem feedCx (d : Nat) (x1 x2 x3 x4 x5 : Int32) (t : Nat) (I : PI) (J : PJ) (T : TL) (h : I 11 0 10 = nn t) (ht : t + 20 ≤ 500) : ∃ I1 : PI, cal (d + 1) 17 [vr 11 0, vi x1, vi x2, vi x3, vi x4, vi x5] (MX I J T) = some (.inl (some (vi (nn (t + 20)))), MX I1 J T) ∧ I1 11 0 10 = nn (t + 20) ∧ I1 14 0 8 = I 14 0 8 ∧ I1 37 1 = I 37 1 ∧ I1 99 0 = I 99 0 ∧ (∀ i, I1 37 0 i = tpA x1 x2 x3 x4 x5 t 20 0 (I 37 0) i) ∧ (RelX I J T → RelX I1 J T) :=
  ⟨_, feedC d x1 x2 x3 x4 x5 t I J T h ht, fe_lC x1 x2 x3 x4 x5 t 20 0 I h, fe_2 x1 x2 x3 x4 x5 t 20 0 I _ rfl, fe_1 x1 x2 x3 x4 x5 t 20 0 I _ rfl, fe_99 x1 x2 x3 x4 x5 t 20 0 I _ rfl, tpA_C x1 x2 x3 x4 x5 t 20 0 I, fun hX => itn_inv (step := feC x1 x2 x3 x4 x5 t) (fun I => RelX I J T) (fun _ _ hb => hb) 20 0 I hX⟩
theorem feedMx (d : Nat) (x1 x2 x3 x4 x5 : Int32) (t : Nat) (I : PI) (J : PJ) (T : TL) (h : I 14 0 8 = nn t) (ht : t + 20 ≤ 500) : ∃ I1 : PI, cal d 185 [vr 14 0, vi x1, vi x2, vi x3, vi x4, vi x5] (MX I J T) = some (.inl (some (vi (nn (t + 20)))), MX I1 J T) ∧ I1 14 0 8 = nn (t + 20) ∧ I1 11 0 10 = I 11 0 10 ∧ I1 37 0 = I 37 0 ∧ (∀ i, I1 37 1 i = tpA x1 x2 x3 x4 x5 t 20 0 (I 37 1) i) ∧ (RelX I J T → RelX I1 J T) := by
  refine ⟨itn (feM x1 x2 x3 x4 x5 t) 20 0 (up3 I 14 0 0 0), ?_, fe_lM x1 x2 x3 x4 x5 t 20 0 _ h, fe_t x1 x2 x3 x4 x5 t 20 0 _ _ rfl, fe_37 x1 x2 x3 x4 x5 t 20 0 _ _ rfl, tpA_M x1 x2 x3 x4 x5 t 20 0 _, fun hX => itn_inv (step := feM x1 x2 x3 x4 x5 t) (fun I => RelX I J T) (fun _ _ hb => hb) 20 0 _ hX⟩
  rw [c185, h, show (20 : Int32) = nn 20 from rfl, show (500 : Int32) = nn 500 from rfl, nn_add, if_pos ((nn_le (by omega) (by omega)).mpr ht), b185_20]
  exact feedM_lp d x1 x2 x3 x4 x5 t J T ht 20 0 none _ rfl h
theorem i2b9_b (x : Int32) : -128 ≤ i2b9 x ∧ i2b9 x ≤ 127 := by
  unfold i2b9
  rw [Int32.le_iff_toInt_le, Int32.le_iff_toInt_le, Int8.toInt_toInt32]
  have h1 := Int8.le_toInt x.toInt8
  have h2 := Int8.toInt_lt x.toInt8
  have h3 : (-128 : Int32).toInt = -128 := by decide
  have h4 : (127 : Int32).toInt = 127 := by decide
  omega
theorem call0 (L d : Nat) : Cl0 (Inv L) (d + 1) 8 400 := by
  intro m x1 x2 x3 x4 x5 hm
  obtain ⟨I, J, T, rfl, h⟩ := hm
  obtain ⟨hN, hT, hX⟩ := id h
  obtain ⟨t, ht, h1, h2, h3⟩ := hT
  by_cases hf : t + 20 ≤ 500
  · obtain ⟨I1, e1, f1, f2, f3, f4, f5, f6⟩ := feedCx d x1 x2 x3 x4 x5 t I J T h1 hf
    obtain ⟨I2, e2, g1, g2, g3, g4, g5⟩ := feedMx (d + 1) x1 x2 x3 x4 x5 t I1 J T (f2.trans h2) hf
    refine ⟨nn (t + 20), MX I1 J T, MX I2 J T, e1, fun i => congrFun f4 i, rfl, e2, ⟨I2, J, T, rfl, hN, ⟨t + 20, hf, g2.trans f1, g1, fun i => ?_⟩, g5 (f6 hX)⟩, Nat.le_add_right _ _, Nat.le_add_right _ _⟩
    have hL : I2 37 0 i = tpA x1 x2 x3 x4 x5 t 20 0 (I 37 0) i := by rw [g3, f5]
    refine ⟨?_, ?_⟩
    · rw [g3, f5, g4, f3]
      unfold tpA
      rw [(h3 i).1]
    · rw [hL]
      unfold tpA bC
      by_cases z : t + 0 ≤ i ∧ i < t + 0 + 20
      · rw [if_pos z]; exact i2b9_b _
      · rw [if_neg z]; exact (h3 i).2
  · refine ⟨-1, MX I J T, MX (up3 I 14 0 0 0) J T, ?_, fun _ => rfl, rfl, ?_, ⟨_, _, _, rfl, h⟩, Nat.le_add_right _ _, Nat.le_add_right _ _⟩
    · rw [c17, h1, show (20 : Int32) = nn 20 from rfl, show (500 : Int32) = nn 500 from rfl, nn_add, if_neg (fun z => hf ((nn_le (by omega) (by omega)).mp z))]
    · rw [c185, h2, show (20 : Int32) = nn 20 from rfl, show (500 : Int32) = nn 500 from rfl, nn_add, if_neg (fun z => hf ((nn_le (by omega) (by omega)).mp z)), b185_18]
