/-! The book: what is known of the worth that is read, from token to token -/
theorem okT_le {p : Nat → Int32} : ∀ k t, okT p k t → t ≤ k
  | 0, t, h => by have e : t = 0 := h; omega
  | k + 1, t, h => by
    rcases h with ⟨h1, h2, h3, h4, h5, h6⟩ | ⟨h1, h2, h3, h4⟩
    · have := okT_le k _ h6; omega
    · have := okT_le k _ h4; omega
theorem LVL_congr {X Y X' Y' : X2} {l : Nat} (h5 : X' 5 l = X 5 l) (h3 : X' 3 l = X 3 l) (h4 : X' 4 l = X 4 l) (h6 : X' 6 l = X 6 l) (g7 : Y' 7 l = Y 7 l) (g6 : Y' 6 l = Y 6 l) (g4 : Y' 4 l = Y 4 l) (g5 : Y' 5 l = Y 5 l) (h : LVL X Y l) : LVL X' Y' l := by
  unfold LVL at h ⊢
  rw [h5, h3, h4, h6, g7, g6, g4, g5]
  exact h
theorem pn_congr {Y Y' : X2} {l : Nat} (g7 : Y' 7 l = Y 7 l) (g6 : Y' 6 l = Y 6 l) (g4 : Y' 4 l = Y 4 l) (g5 : Y' 5 l = Y 5 l) : pnY Y' l = pnY Y l := by
  unfold pnY
  rw [g7, g6, g4, g5]
theorem pS_upd {Y Y' : X2} {op : Nat} (h : ∀ i, i < op → pnY Y' i = pnY Y i) : pSY Y' op + pnY Y op = pSY Y op + pnY Y' op := by
  rw [pSY_l, pSY_l, pSl_congr op h]
  omega
/-- one bracket's rows changed -/
theorem cur_lvl {X Y X' Y' : X2} {r fac op len t v : Nat} (h : CUR X Y r fac op len t v) (h06 : X' 0 6 = X 0 6) (h012 : X' 0 12 = X 0 12) (h1 : X' 1 = X 1) (h2 : X' 2 = X 2) (g2 : Y' 2 = Y 2) (g3 : Y' 3 = Y 3) (hl : ∀ l, l < op → LVL X' Y' l) (ho : LVL X' Y' op) (hz : Y' 4 0 = 0) : CUR X' Y' r fac op len t v := by
  obtain ⟨c1, c2, c3, c4, c5, c6, c7, c8, c9, c10, c11, c12⟩ := h
  refine ⟨by rw [h2]; exact c1, by rw [g3]; exact c2, by rw [g2]; exact c3, c4, c5, c6, c7, by rw [h1, g2]; exact c8, by rw [h06]; exact c9, by rw [h012]; exact c10, fun l hl2 => ?_, hz⟩
  by_cases z : l = op
  · rw [z]; exact ho
  · exact hl l (by omega)
theorem pX_1 (X : X2) (r len : Nat) (x : Int32) {i : Nat} (h : ¬ i = 40 * r + len) : pX X r len x 1 i = X 1 i := u2_i X 1 (40 * r + len) x h
theorem pX_1e (X : X2) (r len : Nat) (x : Int32) : pX X r len x 1 (40 * r + len) = x := u2_at X 1 (40 * r + len) x
theorem pX_2 (X : X2) (r len : Nat) (x : Int32) : pX X r len x 2 r = nn (len + 1) := u2_at _ 2 r _
theorem pX_2n (X : X2) (r len : Nat) (x : Int32) {k : Nat} (h : ¬ k = r) : pX X r len x 2 k = X 2 k := u2_i (u2 X 1 (40 * r + len) x) 2 r _ h
theorem pY_2 (Y : X2) (r len : Nat) (x : Int32) {i : Nat} (h : ¬ i = 48 * r + len) : pY Y r len x 2 i = Y 2 i := u2_i Y 2 (48 * r + len) x h
theorem pY_2e (Y : X2) (r len : Nat) (x : Int32) : pY Y r len x 2 (48 * r + len) = x := u2_at Y 2 (48 * r + len) x
theorem pY_3 (Y : X2) (r len : Nat) (x : Int32) : pY Y r len x 3 r = nn (len + 1) := u2_at _ 3 r _
theorem pY_3n (Y : X2) (r len : Nat) (x : Int32) {k : Nat} (h : ¬ k = r) : pY Y r len x 3 k = Y 3 k := u2_i (u2 Y 2 (48 * r + len) x) 3 r _ h
/-- a step told by both -/
theorem cur_push {X Y : X2} {r fac op len t v : Nat} (h : CUR X Y r fac op len t v) (a x : Int32) (hx : x = clsS a) {t' v' : Nat} (hv : v' ≤ fac) (h2 : len + 1 + t' = 2 * v') (hs : (a < 110 ∧ 0 ≤ a ∧ a ≤ 103 ∧ 1 ≤ t' ∧ t' - 1 < 20 ∧ t' - 1 = t) ∨ (110 ≤ a ∧ a ≤ 114 ∧ 1 ≤ t' ∧ t' + 1 = t)) : CUR (pX X r len x) (pY Y r len a) r fac op (len + 1) t' v' := by
  obtain ⟨c1, c2, c3, c4, c5, c6, c7, c8, c9, c10, c11, c12⟩ := h
  have e : ∀ i, i < len → (fun i => Y 2 (48 * r + i)) i = (fun i => pY Y r len a 2 (48 * r + i)) i := fun i hi => (pY_2 Y r len a (by omega)).symm
  refine ⟨pX_2 X r len x, pY_3 Y r len a, ?_, h2, hv, c6, c7, fun i hi => ?_, c9, c10, fun l hl => c11 l hl, c12⟩
  · have ea : (fun i => pY Y r len a 2 (48 * r + i)) len = a := pY_2e Y r len a
    rcases hs with ⟨s1, s2, s3, s4, s5, s6⟩ | ⟨s1, s2, s3, s4⟩
    · refine .inl ⟨by rw [ea]; exact s1, by rw [ea]; exact s2, by rw [ea]; exact s3, s4, s5, ?_⟩
      rw [s6]
      exact okT_congr len t e c3
    · refine .inr ⟨by rw [ea]; exact s1, by rw [ea]; exact s2, s3, ?_⟩
      rw [s4]
      exact okT_congr len t e c3
  · by_cases z : i = len
    · rw [z, pX_1e, pY_2e]; exact hx
    · rw [pX_1 X r len x (by omega), pY_2 Y r len a (by omega)]
      exact c8 i (by omega)
/-- what a step leaves alone -/
def KEP (X Y X' Y' : X2) (r : Nat) : Prop := X' 0 3 = X 0 3 ∧ X' 0 5 = X 0 5 ∧ X' 0 7 = X 0 7 ∧ X' 0 6 = X 0 6 ∧ X' 0 12 = X 0 12 ∧ X' 7 = X 7 ∧ (∀ k, ¬ k = r → X' 2 k = X 2 k) ∧ (∀ i, i < 40 * r → X' 1 i = X 1 i) ∧ Y' 1 = Y 1 ∧ (∀ k, ¬ k = r → Y' 3 k = Y 3 k) ∧ (∀ i, i < 48 * r → Y' 2 i = Y 2 i) ∧ Y' 4 = Y 4 ∧ Y' 5 = Y 5 ∧ X' 4 = X 4 ∧ X' 6 = X 6
theorem KEP_refl (X Y : X2) (r : Nat) : KEP X Y X Y r := ⟨rfl, rfl, rfl, rfl, rfl, rfl, fun _ _ => rfl, fun _ _ => rfl, rfl, fun _ _ => rfl, fun _ _ => rfl, rfl, rfl, rfl, rfl⟩
theorem KEP_trans {X Y X1 Y1 X3 Y3 : X2} {r : Nat} (h : KEP X Y X1 Y1 r) (g : KEP X1 Y1 X3 Y3 r) : KEP X Y X3 Y3 r := by
  obtain ⟨a1, a2, a3, a4, a5, a6, a7, a8, a9, a10, a11, a12, a13, a14, a15⟩ := h
  obtain ⟨b1, b2, b3, b4, b5, b6, b7, b8, b9, b10, b11, b12, b13, b14, b15⟩ := g
  exact ⟨b1.trans a1, b2.trans a2, b3.trans a3, b4.trans a4, b5.trans a5, b6.trans a6, fun k hk => (b7 k hk).trans (a7 k hk), fun i hi => (b8 i hi).trans (a8 i hi), b9.trans a9, fun k hk => (b10 k hk).trans (a10 k hk), fun i hi => (b11 i hi).trans (a11 i hi), b12.trans a12, b13.trans a13, b14.trans a14, b15.trans a15⟩
theorem KEP_push (X Y : X2) (r len : Nat) (x a : Int32) : KEP X Y (pX X r len x) (pY Y r len a) r :=
  ⟨rfl, rfl, rfl, rfl, rfl, rfl, fun _ hk => pX_2n X r len x hk, fun _ hi => pX_1 X r len x (by omega), rfl, fun _ hk => pY_3n Y r len a hk, fun _ hi => pY_2 Y r len a (by omega), rfl, rfl, rfl, rfl⟩
theorem okP_congr {p q : Nat → Int32} : ∀ k i t, (∀ x, i ≤ x → x < i + k → p x = q x) → okP p k i t → okP q k i t
  | 0, _, _, _, h => h
  | k + 1, i, t, he, h => by
    have e := he i (by omega) (by omega)
    rcases h with ⟨h1, h2, h3, h4, h5⟩ | ⟨h1, h2, h3, h4⟩
    · exact .inl ⟨by rw [← e]; exact h1, by rw [← e]; exact h2, by rw [← e]; exact h3, h4, okP_congr k (i + 1) _ (fun x a b => he x (by omega) (by omega)) h5⟩
    · exact .inr ⟨by rw [← e]; exact h1, by rw [← e]; exact h2, h3, okP_congr k (i + 1) _ (fun x a b => he x (by omega) (by omega)) h4⟩
theorem FIN_congr {X Y X' Y' : X2} {r : Nat} (h2 : ∀ k, ¬ k = r → X' 2 k = X 2 k) (h1 : ∀ i, i < 40 * r → X' 1 i = X 1 i) (g3 : ∀ k, ¬ k = r → Y' 3 k = Y 3 k) (g2 : ∀ i, i < 48 * r → Y' 2 i = Y 2 i) (h : FIN X Y r) : FIN X' Y' r := by
  intro k hk
  obtain ⟨len, l1, l2, l3, l4, l5⟩ := h k hk
  refine ⟨len, l1, by rw [h2 k (by omega)]; exact l2, by rw [g3 k (by omega)]; exact l3, ?_, fun i hi => ?_⟩
  · exact okP_congr len 0 0 (fun i _ hi => (g2 (48 * k + i) (by omega)).symm) l4
  · rw [h1 (40 * k + i) (by omega), g2 (48 * k + i) (by omega)]
    exact l5 i hi
theorem BAS_kep {X Y X' Y' : X2} {nc nm : Nat → Int64} {r o : Nat} (k : KEP X Y X' Y' r) (h : BAS X Y nc nm r o) : BAS X' Y' nc nm r o := by
  obtain ⟨a1, a2, a3, a4, a5, a6, a7, a8, a9, a10, a11, a12, a13, a14, a15⟩ := k
  obtain ⟨b1, b2, b3, b4, b5, b6⟩ := h
  exact ⟨FIN_congr a7 a8 a10 a11 b1, fun k h1 h2 => by rw [a10 k (by omega)]; exact b2 k h1 h2, by rw [a9]; exact b3, by rw [a6]; exact b4, b5, a1.trans b6⟩
/-- behind a factor's end and a term's: the reference -/
def efY (Y : X2) (r len op : Nat) : X2 := if Y 7 op = 0 then Y else pY Y r len 112
def etY (Y : X2) (r len op : Nat) : X2 := if Y 6 op = 0 then Y else pY Y r len (Y 6 op)
theorem cad0 {a : Int32} (h : a = 0) : cad a = -1 := by unfold cad; rw [if_pos h]
theorem cad_op {a : Int32} (h : a = 110 ∨ a = 111 ∨ a = 113 ∨ a = 114) : ¬ cad a = -1 ∧ cad a = clsS a ∧ 110 ≤ a ∧ a ≤ 114 := by
  rcases h with z | z | z | z <;> subst z <;> decide
/-- the end of a factor -/
theorem cur_ef {X Y : X2} {r fac op len t v : Nat} (h : CUR X Y r fac op len t v) (ht : t = pSY Y op + 1) : ∃ len' t', CUR (efX X r len op) (u2 (efY Y r len op) 7 op 0) r fac op len' t' v ∧ t' = pSY (u2 (efY Y r len op) 7 op 0) op + 1 ∧ KEP X Y (efX X r len op) (u2 (efY Y r len op) 7 op 0) r ∧ (X 5 op = 0 ∨ len < 40) ∧ (Y 7 op = 0 ∨ len < 48) ∧ (efX X r len op) 3 = X 3 ∧ (u2 (efY Y r len op) 7 op 0) 6 = Y 6 := by
  have hc := h
  obtain ⟨c1, c2, c3, c4, c5, c6, c7, c8, c9, c10, c11, c12⟩ := h
  obtain ⟨l1, l2, l3, l4, l5, l6, l7, l8⟩ := c11 op (Nat.le_refl op)
  by_cases z : Y 7 op = 0
  · have ex : efX X r len op = X := by unfold efX; rw [if_pos (l2.trans z)]
    have ey : u2 (efY Y r len op) 7 op 0 = Y := by unfold efY; rw [if_pos z]; exact u2_same Y 7 op z
    rw [ex, ey]
    exact ⟨len, t, hc, ht, KEP_refl X Y r, .inl (l2.trans z), .inl z, rfl, rfl⟩
  · have ex : efX X r len op = u2 (pX X r len 106) 5 op 0 := by unfold efX; rw [if_neg (fun q => z (l2.symm.trans q))]
    have ey : u2 (efY Y r len op) 7 op 0 = u2 (pY Y r len 112) 7 op 0 := by unfold efY; rw [if_neg z]
    rw [ex, ey]
    have hp : 1 ≤ pnY Y op := by unfold pnY; rw [if_neg z]; omega
    have hps : pSY Y op = pSl Y op + pnY Y op := pSY_l Y op
    have k1 := cur_push hc 112 106 (by decide) (t' := t - 1) (v' := v) c5 (by omega) (.inr ⟨by decide, by decide, by omega, by omega⟩)
    have o7 : ∀ l, ¬ l = op → (u2 (pY Y r len 112) 7 op 0) 7 l = Y 7 l := fun l hl => u2_i _ 7 op 0 hl
    have o5 : ∀ l, ¬ l = op → (u2 (pX X r len 106) 5 op 0) 5 l = X 5 l := fun l hl => u2_i _ 5 op 0 hl
    have n7 : (u2 (pY Y r len 112) 7 op 0) 7 op = 0 := u2_at _ 7 op 0
    have n5 : (u2 (pX X r len 106) 5 op 0) 5 op = 0 := u2_at _ 5 op 0
    refine ⟨len + 1, t - 1, ?_, ?_, ?_, .inr (by omega), .inr (by omega), rfl, rfl⟩
    · refine cur_lvl k1 rfl rfl rfl rfl rfl rfl (fun l hl => LVL_congr (X := X) (Y := Y) (o5 l (by omega)) rfl rfl rfl (o7 l (by omega)) rfl rfl rfl (c11 l (by omega))) ?_ c12
      refine ⟨.inl n7, n5.trans n7.symm, l3, l4, l5, l6, l7, l8⟩
    · have u := pS_upd (Y := Y) (Y' := u2 (pY Y r len 112) 7 op 0) (op := op) (fun i hi => pn_congr (o7 i (by omega)) rfl rfl rfl)
      have e1 : pnY (u2 (pY Y r len 112) 7 op 0) op + 1 = pnY Y op := by
        unfold pnY
        rw [n7, if_pos rfl, if_neg z]
        show 0 + (if Y 6 op = 0 then 0 else 1) + (if Y 4 op = 0 then 0 else if Y 5 op = 0 then 0 else 1) + 1 = 1 + (if Y 6 op = 0 then 0 else 1) + (if Y 4 op = 0 then 0 else if Y 5 op = 0 then 0 else 1)
        omega
      omega
    · exact ⟨rfl, rfl, rfl, rfl, rfl, rfl, fun k hk => pX_2n X r len 106 hk, fun i hi => pX_1 X r len 106 (by omega), rfl, fun k hk => pY_3n Y r len 112 hk, fun i hi => pY_2 Y r len 112 (by omega), rfl, rfl, rfl, rfl⟩
/-- the end of a term -/
theorem cur_et {X Y : X2} {r fac op len t v : Nat} (h : CUR X Y r fac op len t v) (ht : t = pSY Y op + 1) : ∃ len' t', CUR (etX X r len op) (u2 (etY Y r len op) 6 op 0) r fac op len' t' v ∧ t' = pSY (u2 (etY Y r len op) 6 op 0) op + 1 ∧ KEP X Y (etX X r len op) (u2 (etY Y r len op) 6 op 0) r ∧ (X 3 op = -1 ∨ len < 40) ∧ (Y 6 op = 0 ∨ len < 48) ∧ (u2 (etY Y r len op) 6 op 0) 7 = Y 7 := by
  have hc := h
  obtain ⟨c1, c2, c3, c4, c5, c6, c7, c8, c9, c10, c11, c12⟩ := h
  obtain ⟨l1, l2, l3, l4, l5, l6, l7, l8⟩ := c11 op (Nat.le_refl op)
  by_cases z : Y 6 op = 0
  · have ex : etX X r len op = X := by unfold etX; rw [if_pos (l4.trans (cad0 z))]
    have ey : u2 (etY Y r len op) 6 op 0 = Y := by unfold etY; rw [if_pos z]; exact u2_same Y 6 op z
    rw [ex, ey]
    exact ⟨len, t, hc, ht, KEP_refl X Y r, .inl (l4.trans (cad0 z)), .inl z, rfl⟩
  · obtain ⟨q1, q2, q3, q4⟩ := cad_op (a := Y 6 op) (by rcases l3 with y | y | y; exact absurd y z; exact .inl y; exact .inr (.inl y))
    have ex : etX X r len op = u2 (pX X r len (X 3 op)) 3 op (-1) := by unfold etX; rw [if_neg (fun q => q1 (l4.symm.trans q))]
    have ey : u2 (etY Y r len op) 6 op 0 = u2 (pY Y r len (Y 6 op)) 6 op 0 := by unfold etY; rw [if_neg z]
    rw [ex, ey]
    have hp : 1 ≤ pnY Y op := by unfold pnY; rw [if_neg z]; omega
    have hps : pSY Y op = pSl Y op + pnY Y op := pSY_l Y op
    have k1 := cur_push hc (Y 6 op) (X 3 op) (l4.trans q2) (t' := t - 1) (v' := v) c5 (by omega) (.inr ⟨q3, q4, by omega, by omega⟩)
    generalize hx : X 3 op = xa at *
    generalize hy : Y 6 op = ya at *
    have o7 : ∀ l, ¬ l = op → (u2 (pY Y r len ya) 6 op 0) 6 l = Y 6 l := fun l hl => u2_i _ 6 op 0 hl
    have o5 : ∀ l, ¬ l = op → (u2 (pX X r len xa) 3 op (-1)) 3 l = X 3 l := fun l hl => u2_i _ 3 op (-1) hl
    have n7 : (u2 (pY Y r len ya) 6 op 0) 6 op = 0 := u2_at _ 6 op 0
    have n5 : (u2 (pX X r len xa) 3 op (-1)) 3 op = -1 := u2_at _ 3 op (-1)
    refine ⟨len + 1, t - 1, ?_, ?_, ?_, .inr (by omega), .inr (by omega), rfl⟩
    · refine cur_lvl k1 rfl rfl rfl rfl rfl rfl (fun l hl => LVL_congr (X := X) (Y := Y) rfl (o5 l (by omega)) rfl rfl rfl (o7 l (by omega)) rfl rfl (c11 l (by omega))) ?_ c12
      refine ⟨l1, l2, .inl n7, n5.trans (cad0 n7).symm, l5, l6, l7, l8⟩
    · have u := pS_upd (Y := Y) (Y' := u2 (pY Y r len ya) 6 op 0) (op := op) (fun i hi => pn_congr rfl (o7 i (by omega)) rfl rfl)
      have e1 : pnY (u2 (pY Y r len ya) 6 op 0) op + 1 = pnY Y op := by
        unfold pnY
        rw [n7, if_pos rfl, hy, if_neg z]
        show (if Y 7 op = 0 then 0 else 1) + 0 + (if Y 4 op = 0 then 0 else if Y 5 op = 0 then 0 else 1) + 1 = (if Y 7 op = 0 then 0 else 1) + 1 + (if Y 4 op = 0 then 0 else if Y 5 op = 0 then 0 else 1)
        omega
      omega
    · exact ⟨rfl, rfl, rfl, rfl, rfl, rfl, fun k hk => pX_2n X r len xa hk, fun i hi => pX_1 X r len xa (by omega), rfl, fun k hk => pY_3n Y r len ya hk, fun i hi => pY_2 Y r len ya (by omega), rfl, rfl, rfl, rfl⟩
