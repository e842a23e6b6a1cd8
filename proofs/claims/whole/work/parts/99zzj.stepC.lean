/-! The book: the class takes a token -/
section CTS
variable (d : Nat) (I : PI) (J : PJ) (T : TL) (X : X2) (s8 : Nat → Int32)
theorem addC {r len : Nat} (x : Int32) (h7 : X 7 3 = nn (r + 1)) (hr : r < 6) (h2 : X 2 r = nn len) (hl : len < 40) : cal d 43 [vr 1 T.2.1, vi x] (MX (CM I T.2.1 X s8) J T) = some (.inl none, MX (CM I T.2.1 (pX X r len x) s8) J T) := by
  have r6 : inR (nn r) 6 = true := nn_inR hr (by omega)
  have r240 : inR (nn (r * 40 + len)) 240 = true := nn_inR (by omega) (by omega)
  rw [c43, CM_g1, h7, nn_sub1, nn_idx (by omega), CM_g21, h2, show (40 : Int32) = nn 40 from rfl, nn_mul, nn_add, if_neg (i32_nlt.mpr (nn_nonneg (by omega))), if_neg (by rw [show (6 : Int32) = nn 6 from rfl, nn_le (by omega) (by omega)]; omega), if_pos r6, if_neg (by rw [nn_le (by omega) (by omega)]; omega), if_pos r6, if_pos r240, if_pos r6, if_pos r6, nn_idx (by omega), nn_add1, CM_31, CM_21, Nat.mul_comm r 40]
  rfl
/-- behind a factor's end, a term's, a bracket's -/
def efX (X : X2) (r len op : Nat) : X2 := if X 5 op = 0 then X else u2 (pX X r len 106) 5 op 0
def etX (X : X2) (r len op : Nat) : X2 := if X 3 op = -1 then X else u2 (pX X r len (X 3 op)) 3 op (-1)
def clX (X : X2) (r len op : Nat) : X2 := u2 (if X 4 op = -1 then X else pX X r len (X 4 op)) 0 12 (nn (op - 1))
theorem endFC {r len op : Nat} (h7 : X 7 3 = nn (r + 1)) (hr : r < 6) (h2 : X 2 r = nn len) (h12 : X 0 12 = nn op) (hop : op ≤ 5) (hl : X 5 op = 0 ∨ len < 40) : cal (d + 1) 46 [vr 7 0] (MX (CM I T.2.1 X s8) J T) = some (.inl none, MX (CM I T.2.1 (efX X r len op) s8) J T) := by
  have r6 : inR (nn op) 6 = true := nn_inR (by omega) (by omega)
  unfold efX
  rw [c46, CM_g7, h12, if_pos r6, nn_idx (by omega), CM_g38]
  by_cases z : X 5 op = 0
  · rw [if_pos z, if_pos z]
  · rw [if_neg z, if_neg z, addC d I J T X s8 106 h7 hr h2 (hl.resolve_left z)]
    simp only [ret9]
    rw [b46_21, CM_g7, show (pX X r len 106) 0 12 = X 0 12 from rfl, h12, if_pos r6, nn_idx (by omega), CM_38]
theorem endTC {r len op : Nat} (h7 : X 7 3 = nn (r + 1)) (hr : r < 6) (h2 : X 2 r = nn len) (h12 : X 0 12 = nn op) (hop : op ≤ 5) (hl : X 3 op = -1 ∨ len < 40) : cal (d + 1) 47 [vr 7 0] (MX (CM I T.2.1 X s8) J T) = some (.inl none, MX (CM I T.2.1 (etX X r len op) s8) J T) := by
  have r6 : inR (nn op) 6 = true := nn_inR (by omega) (by omega)
  unfold etX
  rw [c47, CM_g7, h12, if_pos r6, nn_idx (by omega), CM_g21a]
  by_cases z : X 3 op = -1
  · rw [if_pos z, if_pos z]
  · rw [if_neg z, if_neg z, if_pos r6, addC d I J T X s8 (X 3 op) h7 hr h2 (hl.resolve_left z)]
    simp only [ret9]
    rw [b47_29, CM_g7, show (pX X r len (X 3 op)) 0 12 = X 0 12 from rfl, h12, if_pos r6, nn_idx (by omega), CM_21a]
theorem clsC {r len op : Nat} (h7 : X 7 3 = nn (r + 1)) (hr : r < 6) (h2 : X 2 r = nn len) (h12 : X 0 12 = nn op) (hop : op ≤ 5) (ho1 : 1 ≤ op) (hl : X 4 op = -1 ∨ len < 40) : cal (d + 1) 48 [vr 7 0] (MX (CM I T.2.1 X s8) J T) = some (.inl none, MX (CM I T.2.1 (clX X r len op) s8) J T) := by
  have r6 : inR (nn op) 6 = true := nn_inR (by omega) (by omega)
  have es : nn op - 1 = nn (op - 1) := nn_sub (b := 1) ho1
  unfold clX
  rw [c48, CM_g7, h12, if_pos r6, nn_idx (by omega), CM_g21c]
  by_cases z : X 4 op = -1
  · rw [if_pos z, if_pos z, CM_7, es]
  · rw [if_neg z, if_neg z, if_pos r6, addC d I J T X s8 (X 4 op) h7 hr h2 (hl.resolve_left z)]
    simp only [ret9]
    rw [b48_29, CM_g7, show (pX X r len (X 4 op)) 0 12 = X 0 12 from rfl, h12, CM_7, es]
/-- a bracket begins -/
def bgX (X : X2) (op : Nat) (h g : Int32) : X2 := u2 (u2 (u2 (u2 X 5 op 0) 3 op (-1)) 4 op h) 6 op g
theorem begC {op : Nat} (h12 : X 0 12 = nn op) (hop : op ≤ 5) (h g : Int32) : cal d 39 [vr 7 0, vi h, vi g] (MX (CM I T.2.1 X s8) J T) = some (.inl none, MX (CM I T.2.1 (bgX X op h (g &&& 1)) s8) J T) := by
  have r6 : inR (nn op) 6 = true := nn_inR (by omega) (by omega)
  rw [c39, CM_g7, h12, if_pos r6, if_pos r6, if_pos r6, if_pos r6, nn_idx (by omega), CM_38, CM_21a, CM_21c, CM_38c]
  rfl
/-- a fault -/
def flX (X : X2) (k p : Int32) : X2 := u2 (u2 X 0 3 k) 0 4 p
theorem failC (k : Int32) : cal d 34 [vr 7 0, vi k] (MX (CM I T.2.1 X s8) J T) = some (.inl none, MX (CM I T.2.1 (flX X k (s8 3)) s8) J T) := by
  rw [c34, CM_g8, CM_7, CM_7]
  rfl
theorem go1C (q : Int32) : cal (d + 1) 33 [vr 7 0, vi 1, vi q] (MX (CM I T.2.1 X s8) J T) = some (.inl none, MX (CM I T.2.1 (u2 X 0 5 q) s8) J T) := by
  rw [c33, if_neg (by decide), CM_7]
theorem go0C (q : Int32) : cal (d + 1) 33 [vr 7 0, vi 0, vi q] (MX (CM I T.2.1 X s8) J T) = some (.inl none, MX (CM I T.2.1 (flX X 1 (s8 3)) s8) J T) := by
  rw [c33, if_pos rfl, failC]
  simp only [ret9]
  rw [b33_17]
/-- a bracket opens -/
theorem openC {op : Nat} (h12 : X 0 12 = nn op) (hop : op ≤ 5) (h : Int32) : cal (d + 1) 42 [vr 7 0, vi h] (MX (CM I T.2.1 X s8) J T) = some (.inl none, MX (CM I T.2.1 (if op < 5 then u2 (bgX (u2 X 0 12 (nn (op + 1))) (op + 1) h (if h = -1 then 0 else 1)) 0 5 3 else flX X 5 (s8 3)) s8) J T) := by
  rw [c42, CM_g7, h12]
  by_cases z : op < 5
  · rw [if_pos (show nn op < 5 from (nn_lt (b := 5) (by omega) (by omega)).mpr z), if_pos z, nn_add1, CM_7]
    have e12 : (u2 X 0 12 (nn (op + 1))) 0 12 = nn (op + 1) := rfl
    by_cases y : h = -1
    · rw [if_pos y, begC d I J T (u2 X 0 12 (nn (op + 1))) s8 e12 (by omega), if_pos y]
      simp only [ret9]
      rw [b42_41, CM_7]
      rfl
    · rw [if_neg y, begC d I J T (u2 X 0 12 (nn (op + 1))) s8 e12 (by omega), if_neg y]
      simp only [ret9]
      rw [b42_41, CM_7]
      rfl
  · rw [if_neg (show ¬ nn op < 5 by rw [show (5 : Int32) = nn 5 from rfl, nn_lt (by omega) (by omega)]; exact z), if_neg z, failC]
    simp only [ret9]
    rw [b42_13]
end CTS
section CTT
variable (d : Nat) (I : PI) (J : PJ) (T : TL) (X : X2) (nc : Nat → Int64) (s8 : Nat → Int32) {y : Int64} {n j k s : Nat} {u : WD} {v : Nat} {c : Int32} {e : Nat}
theorem stp0C (hC : CTK s8 y n j k s u v c) (hk : TKE s u e) (h5 : X 0 5 = 0) : cal (d + 2) 32 [vr 7 0] (MX (CM I T.2.1 X s8) (JC J nc y) T) = some (.inl none, MX (CM I T.2.1 (if e = 1 then u2 X 0 5 1 else flX X 1 (nn j)) s8) (JC J nc y) T) := by
  have hy := hC.2.2.2.1
  have w1 := wrdC hk (w := 1) (by omega) (by omega) kcs.1
  rw [← hy] at w1
  rw [c32, CM_g7, h5, if_pos rfl, JC_4]
  by_cases z : e = 1
  · rw [if_neg (fun q => q (w1.mpr z)), if_pos z, go1C]
    simp only [ret9]
    rw [b32_64]
  · rw [if_pos (fun q => z (w1.mp q)), if_neg z, go0C, hC.2.2.1]
    simp only [ret9]
    rw [b32_64]
theorem stp2C (hC : CTK s8 y n j k s u v c) (hk : TKE s u e) (h5 : X 0 5 = 2) : cal (d + 2) 32 [vr 7 0] (MX (CM I T.2.1 X s8) (JC J nc y) T) = some (.inl none, MX (CM I T.2.1 (if e = 2 then u2 X 0 5 3 else flX X 1 (nn j)) s8) (JC J nc y) T) := by
  have hy := hC.2.2.2.1
  have w2 := wrdC hk (w := 2) (by omega) (by omega) kcs.2.1
  rw [← hy] at w2
  rw [c32, CM_g7, h5, if_neg (by decide), if_neg (by decide), if_pos rfl, JC_4]
  by_cases z : e = 2
  · rw [if_neg (fun q => q (w2.mpr z)), if_pos z, go1C]
    simp only [ret9]
    rw [b32_98]
  · rw [if_pos (fun q => z (w2.mp q)), if_neg z, go0C, hC.2.2.1]
    simp only [ret9]
    rw [b32_98]
/-- a name told again? -/
def TLD (w : Nat → WD) (o : Nat) (u : WD) : Prop := ∃ i, i < o ∧ wdR (w i) = wdR u
theorem tldC {o : Nat} (ho : o ≤ 6) (h7 : X 7 3 = nn o) {w : Nat → WD} (hw : ∀ i, i < o → WDok (w i) ∧ nc i = ll (wdC (w i))) (hu : WDok u) : cal d 37 [vr 7 0, vl (ll (wdC u))] (MX (CM I T.2.1 X s8) (JC J nc y) T) = some (.inl (some (vi (bi (TLD w o u)))), MX (CM I T.2.1 X s8) (JC J nc y) T) := by
  have loop : ∀ m i, i + m = o → (∀ x, x < i → ¬ wdR (w x) = wdR u) → den d 37 2 [some (vr 7 0), some (vl (ll (wdC u))), none, some (vi (nn i))] [] (MX (CM I T.2.1 X s8) (JC J nc y) T) = some (.inl (some (vi (bi (TLD w o u)))), MX (CM I T.2.1 X s8) (JC J nc y) T) := by
    intro m
    induction m with
    | zero =>
      intro i hi hx
      rw [b37_2, CM_g1, h7, if_pos ((nn_le (by omega) (by omega)).mpr (by omega)), bi0 (fun ⟨x, x1, x2⟩ => hx x (by omega) x2)]
    | succ m ih =>
      intro i hi hx
      obtain ⟨a1, a2⟩ := hw i (by omega)
      rw [b37_2, CM_g1, h7, if_neg (by rw [nn_le (by omega) (by omega)]; omega), if_neg (by rw [show (6 : Int32) = nn 6 from rfl, nn_le (by omega) (by omega)]; omega), if_pos (nn_inR (by omega) (by omega)), nn_idx (by omega), JC_42, a2]
      have f1 : (2 : Nat) ^ 40 = 1099511627776 := by decide
      have b1 := wdR_b a1
      have b2 := wdR_b hu
      by_cases z : wdR (w i) = wdR u
      · rw [if_neg (fun q => q (by rw [lg0, lw_eq a1 hu, z])), bi1 ⟨i, by omega, z⟩]
      · rw [if_pos (fun q => z ((ll_inj (by omega) (by omega)).mp ((lw_eq a1 hu).mp ((lg0 _ _).mp q)))), nn_add1]
        exact ih (i + 1) (by omega) (fun x h1 => by
          by_cases y : x = i
          · rw [y]; exact z
          · exact hx x (by omega))
  rw [c37]
  exact loop o 0 (by omega) (fun x h => absurd h (by omega))
/-- a name is taken -/
def nmX (X : X2) (o : Nat) : X2 := u2 (bgX (u2 (u2 (u2 (u2 X 2 o 0) 7 3 (nn (o + 1))) 0 6 0) 0 12 0) 0 (-1) 0) 0 5 2
theorem ownrC {o : Nat} (ho : o < 6) (h7 : X 7 3 = nn o) : cal d 38 [vr 1 T.2.1] (MX (CM I T.2.1 X s8) J T) = some (.inl none, MX (CM I T.2.1 (u2 (u2 X 2 o 0) 7 3 (nn (o + 1))) s8) J T) := by
  rw [c38, CM_g1, h7, if_neg (by rw [show (6 : Int32) = nn 6 from rfl, nn_le (by omega) (by omega)]; omega), if_pos (nn_inR ho (by omega)), nn_idx (by omega), nn_add1, CM_21, CM_1]
theorem stp1C_f (hC : CTK s8 y n j k s u v c) (hk : TKE s u e) (h5 : X 0 5 = 1) (hn : ¬ (s = 2 ∧ e = 0)) : cal (d + 2) 32 [vr 7 0] (MX (CM I T.2.1 X s8) (JC J nc y) T) = some (.inl none, MX (CM I T.2.1 (flX X 1 (nn j)) s8) (JC J nc y) T) := by
  have hy := hC.2.2.2.1
  have w1 := wrdC hk (w := 1) (by omega) (by omega) kcs.1
  have w2 := wrdC hk (w := 2) (by omega) (by omega) kcs.2.1
  have w0 := wrd0 hk
  have ws := stepC36 d (CM I T.2.1 X s8) (JC J nc y) T hk
  rw [← hy] at w1 w2 w0 ws
  have fin : den (d + 1) 35 38 [some (vr 7 0), some (vl y), none] [] (MX (CM I T.2.1 X s8) (JC J nc y) T) = some (.inl none, MX (CM I T.2.1 (flX X 1 (nn j)) s8) (JC J nc y) T) := by
    rw [b35_38, failC, hC.2.2.1]
    simp only [ret9]
    rw [b35_43, b35_123]
  have go : cal (d + 1) 35 [vr 7 0] (MX (CM I T.2.1 X s8) (JC J nc y) T) = some (.inl none, MX (CM I T.2.1 (flX X 1 (nn j)) s8) (JC J nc y) T) := by
    rw [c35, JC_4, b35_8]
    by_cases z : s = 2
    · have he : ¬ e = 0 := fun q => hn ⟨z, q⟩
      rw [if_neg (fun q => w0.mp q z), b35_14]
      by_cases z1 : e = 1
      · rw [if_pos (w1.mpr z1)]; exact fin
      · rw [if_neg (fun q => z1 (w1.mp q)), b35_22]
        by_cases z2 : e = 2
        · rw [if_pos (w2.mpr z2)]; exact fin
        · rw [if_neg (fun q => z2 (w2.mp q)), b35_30, ws]
          simp only [ret9]
          rw [b35_34, if_neg]
          · exact fin
          · have h8 := hk.2.2.1
            unfold stpK
            have : e = 3 ∨ e = 4 ∨ e = 5 ∨ e = 6 ∨ e = 7 ∨ e = 8 := by omega
            rcases this with q | q | q | q | q | q <;> subst q <;> decide
    · rw [if_pos (w0.mpr z)]; exact fin
  rw [c32, CM_g7, h5, if_neg (by decide), if_pos rfl, go]
  simp only [ret9]
  rw [b32_71]
theorem stp1C (hC : CTK s8 y n j k s u v c) (hk : TKE s u e) (h5 : X 0 5 = 1) (hs : s = 2) (he : e = 0) {o : Nat} (ho : o ≤ 6) (h7 : X 7 3 = nn o) {w : Nat → WD} (hw : ∀ i, i < o → WDok (w i) ∧ nc i = ll (wdC (w i))) :
    (TLD w o u → cal (d + 2) 32 [vr 7 0] (MX (CM I T.2.1 X s8) (JC J nc y) T) = some (.inl none, MX (CM I T.2.1 (flX X 3 (nn j)) s8) (JC J nc y) T)) ∧ (¬ TLD w o u → ¬ o < 6 → cal (d + 2) 32 [vr 7 0] (MX (CM I T.2.1 X s8) (JC J nc y) T) = some (.inl none, MX (CM I T.2.1 (flX X 5 (nn j)) s8) (JC J nc y) T)) ∧ (¬ TLD w o u → o < 6 → cal (d + 2) 32 [vr 7 0] (MX (CM I T.2.1 X s8) (JC J nc y) T) = some (.inl none, MX (CM I T.2.1 (nmX X o) s8) (JC J (wl nc o (ll (wdC u))) y) T)) := by
  have hy := hC.2.2.2.1
  have w1 := wrdC hk (w := 1) (by omega) (by omega) kcs.1
  have w2 := wrdC hk (w := 2) (by omega) (by omega) kcs.2.1
  have w0 := wrd0 hk
  have ws := stepC36 d (CM I T.2.1 X s8) (JC J nc y) T hk
  rw [← hy] at w1 w2 w0 ws
  rw [if_pos hs] at hy
  subst hy
  have wt := tldC d I J T X nc s8 (y := ll (wdC u)) ho h7 hw (hk.2.1 hs)
  have hcs : s8 3 = nn j := hC.2.2.1
  clear hC
  have st : cal (d + 1) 35 [vr 7 0] (MX (CM I T.2.1 X s8) (JC J nc (ll (wdC u))) T) = den (d + 1) 35 51 [some (vr 7 0), some (vl (ll (wdC u))), none] [vi (bi (TLD w o u))] (MX (CM I T.2.1 X s8) (JC J nc (ll (wdC u))) T) := by
    rw [c35, JC_4, b35_8, if_neg (fun q => w0.mp q hs), b35_14, if_neg (fun q => by have := w1.mp q; omega), b35_22, if_neg (fun q => by have := w2.mp q; omega), b35_30, ws]
    simp only [ret9]
    rw [b35_34, show stpK e = -1 by rw [he]; rfl, if_pos rfl, wt]
    simp only [ret9]
  refine ⟨fun z => ?_, fun z z6 => ?_, fun z z6 => ?_⟩
  · rw [c32, CM_g7, h5, if_neg (by decide), if_pos rfl, st, b35_51, bi1 z, if_neg (by decide), failC, hcs]
    simp only [ret9]
    rw [b35_59, b35_123]
    simp only [ret9]
    rw [b32_71]
  · rw [c32, CM_g7, h5, if_neg (by decide), if_pos rfl, st, b35_51, bi0 z, if_pos rfl, CM_g1, h7, if_neg (by rw [show (6 : Int32) = nn 6 from rfl, nn_lt (by omega) (by omega)]; exact z6), failC, hcs]
    simp only [ret9]
    rw [b35_79, b35_123]
    simp only [ret9]
    rw [b32_71]
  · rw [c32, CM_g7, h5, if_neg (by decide), if_pos rfl, st, b35_51, bi0 z, if_pos rfl, CM_g1, h7, if_pos (show nn o < 6 from (nn_lt (b := 6) (by omega) (by omega)).mpr z6), if_pos (nn_inR z6 (by omega)), nn_idx (by omega), JC_u, ownrC _ _ _ _ _ _ z6 h7]
    simp only [ret9]
    rw [b35_102, CM_7, CM_7, begC d I (JC J (wl nc o (ll (wdC u))) (ll (wdC u))) T (u2 (u2 (u2 (u2 X 2 o 0) 7 3 (nn (o + 1))) 0 6 0) 0 12 0) s8 (op := 0) rfl (by omega)]
    simp only [ret9]
    rw [b35_118, CM_7, b35_123]
    simp only [ret9]
    rw [b32_71]
    rfl
end CTT
