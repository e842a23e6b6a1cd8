/-! The book: the class takes a factor, and what stands behind one -/
section CTU
variable (d : Nat) (I : PI) (J : PJ) (T : TL) (X : X2) (nc : Nat → Int64) (s8 : Nat → Int32) {y : Int64} {n j k s : Nat} {u : WD} {v : Nat} {c : Int32} {e : Nat}
/-- the step that a token is -/
def tstep (s v e : Nat) : Int32 := if s = 3 then nn v else stpK e
theorem leafC {r len : Nat} {x : Int32} (h7 : X 7 3 = nn (r + 1)) (hr : r < 6) (h2 : X 2 r = nn len) (hl : len < 40) (h1 : ¬ x = -1) (ha : ¬ x = 107) (hb : ¬ x = 108) : cal (d + 1) 41 [vr 7 0, vi x] (MX (CM I T.2.1 X s8) J T) = some (.inl none, MX (CM I T.2.1 (u2 (pX X r len x) 0 5 5) s8) J T) := by
  rw [c41, if_pos h1, if_neg ha, if_pos hb, addC d I J T X s8 x h7 hr h2 hl]
  simp only [ret9]
  rw [b41_46, CM_7]
theorem aheadC {x : Int32} (ha : x = 107 ∨ x = 108) : cal (d + 1) 41 [vr 7 0, vi x] (MX (CM I T.2.1 X s8) J T) = some (.inl none, MX (CM I T.2.1 (u2 (u2 X 0 7 x) 0 5 4) s8) J T) := by
  rcases ha with z | z
  · rw [c41, if_pos (by rw [z]; decide), if_pos z, CM_7, CM_7]
  · rw [c41, if_pos (by rw [z]; decide), if_neg (by rw [z]; decide), if_neg (fun q => q z), CM_7, CM_7]
theorem bopenC {op : Nat} (h12 : X 0 12 = nn op) (hop : op ≤ 5) : cal (d + 2) 41 [vr 7 0, vi (-1)] (MX (CM I T.2.1 X s8) J T) = some (.inl none, MX (CM I T.2.1 (if op < 5 then u2 (bgX (u2 X 0 12 (nn (op + 1))) (op + 1) (-1) 0) 0 5 3 else flX X 5 (s8 3)) s8) J T) := by
  rw [c41, if_neg (fun q => q rfl), openC d I J T X s8 h12 hop (-1)]
  simp only [ret9]
  rw [b41_10]
  simp only [if_true]
/-- a factor's first token is good -/
def fgood (s v e : Nat) (c : Int32) : Prop := (s = 3 ∧ v ≤ 99) ∨ 3 ≤ e ∨ (s = 4 ∧ c = 40)
theorem stpK_ne {e : Nat} (h : 3 ≤ e) (h8 : e ≤ 8) : ¬ stpK e = -1 := by
  have : e = 3 ∨ e = 4 ∨ e = 5 ∨ e = 6 ∨ e = 7 ∨ e = 8 := by omega
  rcases this with q | q | q | q | q | q <;> subst q <;> decide
theorem stpK_e {e : Nat} (h : ¬ 3 ≤ e) : stpK e = -1 := by
  unfold stpK
  rw [if_neg (by omega), if_neg (by omega), if_neg (by omega), if_neg (by omega), if_neg (by omega), if_neg (by omega)]
theorem c32_3 (h5 : X 0 5 = 3) (y : Int64) : cal (d + 1) 32 [vr 7 0] (MX (CM I T.2.1 X s8) (JC J nc y) T) = ret9 (den (d + 1) 32) 32 102 105 [some (vr 7 0)] [] (cal d 40 [vr 7 0] (MX (CM I T.2.1 X s8) (JC J nc y) T)) := by
  rw [c32, CM_g7, h5, if_neg (by decide), if_neg (by decide), if_neg (by decide), if_pos rfl]
theorem fac40 (hC : CTK s8 y n j k s u v c) (hk : TKE s u e) (hv : s = 3 → v < 1000) {fac : Nat} (h6 : X 0 6 = nn fac) (hf : fac ≤ 20) (hg : fgood s v e c) : cal (d + 1) 40 [vr 7 0] (MX (CM I T.2.1 X s8) (JC J nc y) T) = (if fac < 20 then ret9 (den (d + 1) 40) 40 106 109 [some (vr 7 0), some (vi (tstep s v e))] [] (cal d 41 [vr 7 0, vi (tstep s v e)] (MX (CM I T.2.1 (u2 X 0 6 (nn (fac + 1))) s8) (JC J nc y) T)) else some (.inl none, MX (CM I T.2.1 (flX X 5 (nn j)) s8) (JC J nc y) T)) := by
  obtain ⟨k1, k2, k3, hy, k5, k6⟩ := hC
  have ws := stepC36 d (CM I T.2.1 X s8) (JC J nc y) T hk
  rw [← hy] at ws
  have hlt : (nn fac < (20 : Int32)) ↔ fac < 20 := nn_lt (b := 20) (by omega) (by omega)
  have e4 : s = 4 → e = 0 := fun z => by
    by_cases q : e = 0
    · exact q
    · have := hk.2.2.2.2 q; omega
  have e3 : s = 3 → e = 0 := fun z => by
    by_cases q : e = 0
    · exact q
    · have := hk.2.2.2.2 q; omega
  unfold tstep
  by_cases z : s = 3
  · have hv9 : v ≤ 99 := by
      have := e3 z
      rcases hg with g | g | g <;> omega
    rw [if_pos z] at k5
    rw [c40, CM_g8, k5, if_neg (nn_ne_neg (by omega)), if_pos (nn_ne_neg (by omega)), if_pos (show nn v ≤ 99 from (nn_le (b := 99) (by omega) (by omega)).mpr hv9), CM_g7, h6, if_pos z]
    by_cases q : fac < 20
    · rw [if_pos (hlt.mpr q), if_pos q, nn_add1, CM_7]
    · rw [if_neg (fun w => q (hlt.mp w)), if_neg q, failC, k3]
      simp only [ret9]
      rw [b40_91]
  · rw [if_neg z] at k5
    rw [c40, CM_g8, k5, if_pos rfl, JC_4, ws, if_neg z]
    simp only [ret9]
    rw [b40_31, CM_g8, k5, CM_g7, h6, if_pos (show (-1 : Int32) ≤ 99 by decide)]
    by_cases y3 : 3 ≤ e
    · rw [if_pos (stpK_ne y3 hk.2.2.1)]
      by_cases q : fac < 20
      · rw [if_pos (hlt.mpr q), if_pos q, nn_add1, CM_7]
        rfl
      · rw [if_neg (fun w => q (hlt.mp w)), if_neg q, failC, k3]
        simp only [ret9]
        rw [b40_91]
    · have g4 : s = 4 ∧ c = 40 := by
        rcases hg with g | g | g
        · omega
        · omega
        · exact g
      rw [if_pos g4.1] at k6
      rw [stpK_e y3, if_neg (fun w => w rfl), CM_g8, k6, if_pos g4.2]
      by_cases q : fac < 20
      · rw [if_pos (hlt.mpr q), if_pos q, nn_add1, CM_7]
        rfl
      · rw [if_neg (fun w => q (hlt.mp w)), if_neg q, failC, k3]
        simp only [ret9]
        rw [b40_91]
theorem stp3C_go (hC : CTK s8 y n j k s u v c) (hk : TKE s u e) (hv : s = 3 → v < 1000) (h5 : X 0 5 = 3) {fac : Nat} (h6 : X 0 6 = nn fac) (hf : fac < 20) (hg : fgood s v e c) {X' : X2} (h : cal (d + 2) 41 [vr 7 0, vi (tstep s v e)] (MX (CM I T.2.1 (u2 X 0 6 (nn (fac + 1))) s8) (JC J nc y) T) = some (.inl none, MX (CM I T.2.1 X' s8) (JC J nc y) T)) : cal (d + 4) 32 [vr 7 0] (MX (CM I T.2.1 X s8) (JC J nc y) T) = some (.inl none, MX (CM I T.2.1 X' s8) (JC J nc y) T) := by
  rw [c32_3 _ _ _ _ _ _ _ h5, fac40 (d + 2) I J T X nc s8 hC hk hv h6 (by omega) hg, if_pos hf, h]
  simp only [ret9]
  rw [b40_109]
  simp only [ret9]
  rw [b32_105]
theorem stp3C_5 (hC : CTK s8 y n j k s u v c) (hk : TKE s u e) (hv : s = 3 → v < 1000) (h5 : X 0 5 = 3) {fac : Nat} (h6 : X 0 6 = nn fac) (hf : fac = 20) (hg : fgood s v e c) : cal (d + 4) 32 [vr 7 0] (MX (CM I T.2.1 X s8) (JC J nc y) T) = some (.inl none, MX (CM I T.2.1 (flX X 5 (nn j)) s8) (JC J nc y) T) := by
  rw [c32_3 _ _ _ _ _ _ _ h5, fac40 (d + 2) I J T X nc s8 hC hk hv h6 (by omega) hg, if_neg (by omega)]
  simp only [ret9]
  rw [b32_105]
/-- no factor: a number too great, or no factor's token -/
theorem stp3C_f (hC : CTK s8 y n j k s u v c) (hk : TKE s u e) (hv : s = 3 → v < 1000) (h5 : X 0 5 = 3) (hg : ¬ fgood s v e c) : cal (d + 4) 32 [vr 7 0] (MX (CM I T.2.1 X s8) (JC J nc y) T) = some (.inl none, MX (CM I T.2.1 (flX X (if s = 3 then 4 else 1) (nn j)) s8) (JC J nc y) T) := by
  obtain ⟨k1, k2, k3, hy, k5, k6⟩ := hC
  have ws := stepC36 (d + 2) (CM I T.2.1 X s8) (JC J nc y) T hk
  rw [← hy] at ws
  rw [c32_3 _ _ _ _ _ _ _ h5]
  by_cases z : s = 3
  · have hv9 : ¬ v ≤ 99 := fun q => hg (.inl ⟨z, q⟩)
    have hv1 := hv z
    rw [if_pos z] at k5
    rw [c40, CM_g8, k5, if_neg (nn_ne_neg (by omega)), if_pos (nn_ne_neg (by omega)), if_neg (show ¬ nn v ≤ 99 by rw [show (99 : Int32) = nn 99 from rfl, nn_le (by omega) (by omega)]; exact hv9), failC, k3, if_pos z]
    simp only [ret9]
    rw [b40_74]
    simp only [ret9]
    rw [b32_105]
  · have y3 : ¬ 3 ≤ e := fun q => hg (.inr (.inl q))
    have g4 : ¬ (if s = 4 then c else 0) = 40 := by
      by_cases q : s = 4
      · rw [if_pos q]
        exact fun w => hg (.inr (.inr ⟨q, w⟩))
      · rw [if_neg q]; decide
    rw [if_neg z] at k5
    rw [c40, CM_g8, k5, if_pos rfl, JC_4, ws, if_neg z]
    simp only [ret9]
    rw [b40_31, CM_g8, k5, stpK_e y3, if_neg (fun w => w rfl), CM_g8, k6, if_neg g4, failC, k3]
    simp only [ret9]
    rw [b40_54]
    simp only [ret9]
    rw [b32_105]
/-- the bracket behind least and most -/
theorem stp4C (hC : CTK s8 y n j k s u v c) (h5 : X 0 5 = 4) {op : Nat} (h12 : X 0 12 = nn op) (hop : op ≤ 5) (h7 : ¬ X 0 7 = -1) : cal (d + 4) 32 [vr 7 0] (MX (CM I T.2.1 X s8) (JC J nc y) T) = some (.inl none, MX (CM I T.2.1 (if s = 4 ∧ c = 40 then (if op < 5 then u2 (bgX (u2 X 0 12 (nn (op + 1))) (op + 1) (X 0 7) 1) 0 5 3 else flX X 5 (nn j)) else flX X 1 (nn j)) s8) (JC J nc y) T) := by
  obtain ⟨k1, k2, k3, hy, k5, k6⟩ := hC
  rw [c32, CM_g7, h5, if_neg (by decide), if_neg (by decide), if_neg (by decide), if_neg (by decide), if_pos rfl, c44, CM_g8, k6]
  by_cases z : s = 4
  · rw [if_pos z]
    by_cases w : c = 40
    · rw [if_neg (fun q => q w), if_pos ⟨z, w⟩, CM_g7, openC (d + 1) I _ T X s8 h12 hop, if_neg h7, k3]
      simp only [ret9]
      rw [b44_20]
      simp only [ret9]
      rw [b32_112]
    · rw [if_pos w, if_neg (fun q => w q.2), failC, k3]
      simp only [ret9]
      rw [b44_28]
      simp only [ret9]
      rw [b32_112]
  · rw [if_neg z, if_pos (by decide), if_neg (fun q => z q.1), failC, k3]
    simp only [ret9]
    rw [b44_28]
    simp only [ret9]
    rw [b32_112]
/-- behind a factor -/
theorem c32_5 (h5 : X 0 5 = 5) (y : Int64) : cal (d + 1) 32 [vr 7 0] (MX (CM I T.2.1 X s8) (JC J nc y) T) = ret9 (den (d + 1) 32) 32 116 119 [some (vr 7 0)] [] (cal d 45 [vr 7 0] (MX (CM I T.2.1 X s8) (JC J nc y) T)) := by
  rw [c32, CM_g7, h5, if_neg (by decide), if_neg (by decide), if_neg (by decide), if_neg (by decide), if_neg (by decide)]
/-- the tail: the end, or no form -/
theorem tailC (hC : CTK s8 y n j k s u v c) (hj : s = 1 ↔ j = n) (hjn : j ≤ n) (hn : n ≤ 500) (x1 : Int32) {op : Nat} (h12 : X 0 12 = nn op) (hop : op ≤ 5) : ret9 (den (d + 2) 45) 45 174 177 [some (vr 7 0), some (vi x1)] [vr 7 0] (cal (d + 1) 49 [vr 8 0] (MX (CM I T.2.1 X s8) (JC J nc y) T)) = some (.inl none, MX (CM I T.2.1 (if s = 1 ∧ op = 0 then u2 X 0 5 6 else flX X 1 (nn j)) s8) (JC J nc y) T) := by
  obtain ⟨k1, k2, k3, hy, k5, k6⟩ := hC
  rw [c49, CM_g8, CM_g8, k3, k1]
  by_cases z : s = 1
  · rw [if_neg (by rw [nn_lt (by omega) (by omega)]; omega)]
    simp only [ret9]
    rw [b45_177, if_neg (by decide), CM_g7, h12]
    by_cases w : op = 0
    · rw [if_neg (show ¬ ¬ nn op = 0 from fun q => q (by rw [w]; rfl)), go1C, if_pos ⟨z, w⟩]
      simp only [ret9]
      rw [b45_197]
    · rw [if_pos (show ¬ nn op = 0 from fun q => w ((nn_inj (b := 0) (by omega) (by omega)).mp q)), go0C, if_neg (fun q => w q.2), k3]
      simp only [ret9]
      rw [b45_197]
  · rw [if_pos ((nn_lt (by omega) (by omega)).mpr (by omega))]
    simp only [ret9]
    rw [b45_177, if_pos rfl, go0C, if_neg (fun q => z q.1), k3]
    simp only [ret9]
    rw [b45_197]
/-- a star -/
theorem stp5C_star (hC : CTK s8 y n j k s u v c) (h5 : X 0 5 = 5) {X1 : X2} (h46 : cal (d + 2) 46 [vr 7 0] (MX (CM I T.2.1 X s8) (JC J nc y) T) = some (.inl none, MX (CM I T.2.1 X1 s8) (JC J nc y) T)) {op : Nat} (h12 : X1 0 12 = nn op) (hop : op ≤ 5) (hs : s = 4) (hc : c = 42) : cal (d + 4) 32 [vr 7 0] (MX (CM I T.2.1 X s8) (JC J nc y) T) = some (.inl none, MX (CM I T.2.1 (u2 (u2 X1 5 op 1) 0 5 3) s8) (JC J nc y) T) := by
  have k6 := hC.2.2.2.2.2
  rw [if_pos hs, hc] at k6
  rw [c32_5 _ _ _ _ _ _ _ h5, c45, h46, CM_g8, k6]
  simp only [ret9]
  rw [b45_12, if_neg (fun q => q rfl), CM_g7, h12, if_pos (nn_inR (by omega) (by omega)), nn_idx (by omega), CM_38, CM_7]
  simp only [ret9]
  rw [b32_119]
/-- no star -/
theorem stp5C_go (hC : CTK s8 y n j k s u v c) (h5 : X 0 5 = 5) {X1 X3 X4 : X2} (h46 : cal (d + 2) 46 [vr 7 0] (MX (CM I T.2.1 X s8) (JC J nc y) T) = some (.inl none, MX (CM I T.2.1 X1 s8) (JC J nc y) T)) (h47 : cal (d + 2) 47 [vr 7 0] (MX (CM I T.2.1 X1 s8) (JC J nc y) T) = some (.inl none, MX (CM I T.2.1 X3 s8) (JC J nc y) T)) (hs : ¬ (s = 4 ∧ c = 42)) (h38 : den (d + 3) 45 38 [some (vr 7 0), some (vi (if s = 4 then c else 0))] [] (MX (CM I T.2.1 X3 s8) (JC J nc y) T) = some (.inl none, MX (CM I T.2.1 X4 s8) (JC J nc y) T)) : cal (d + 4) 32 [vr 7 0] (MX (CM I T.2.1 X s8) (JC J nc y) T) = some (.inl none, MX (CM I T.2.1 X4 s8) (JC J nc y) T) := by
  have k6 := hC.2.2.2.2.2
  have hne : ¬ (if s = 4 then c else 0) = 42 := by
    by_cases z : s = 4
    · rw [if_pos z]; exact fun q => hs ⟨z, q⟩
    · rw [if_neg z]; decide
  rw [c32_5 _ _ _ _ _ _ _ h5, c45, h46, CM_g8, k6]
  simp only [ret9]
  rw [b45_12, if_pos hne, h47]
  simp only [ret9]
  rw [h38]
  simp only [ret9]
  rw [b32_119]
end CTU
section CTV
variable (d : Nat) (I : PI) (J : PJ) (T : TL) (X : X2) (s8 : Nat → Int32) {op : Nat}
theorem b38_pm (h12 : X 0 12 = nn op) (hop : op ≤ 5) {x : Int32} (hx : x = 43 ∨ x = 45) : den (d + 1) 45 38 [some (vr 7 0), some (vi x)] [] (MX (CM I T.2.1 X s8) J T) = some (.inl none, MX (CM I T.2.1 (u2 (u2 X 3 op (if x = 43 then 104 else 105)) 0 5 3) s8) J T) := by
  have r6 : inR (nn op) 6 = true := nn_inR (by omega) (by omega)
  rcases hx with z | z
  · rw [b45_38, if_pos z, if_neg (fun q => q z), CM_g7, h12, if_pos r6, nn_idx (by omega), CM_21a, CM_7, if_pos z]
  · have n1 : ¬ x = 43 := by rw [z]; decide
    rw [b45_38, if_neg n1, if_neg (fun q => q z), if_pos n1, CM_g7, h12, if_pos r6, nn_idx (by omega), CM_21a, CM_7, if_neg n1]
theorem b38_c (h12 : X 0 12 = nn op) (hop : op ≤ 5) (hm : ¬ X 6 op = 0) : den (d + 1) 45 38 [some (vr 7 0), some (vi 44)] [] (MX (CM I T.2.1 X s8) J T) = some (.inl none, MX (CM I T.2.1 (u2 (u2 X 6 op 0) 0 5 3) s8) J T) := by
  have r6 : inR (nn op) 6 = true := nn_inR (by omega) (by omega)
  rw [b45_38, if_neg (by decide), if_pos (by decide), if_neg (by decide), CM_g7, h12, if_pos r6, nn_idx (by omega), CM_g38c, if_neg hm, if_pos r6, CM_38c, CM_7]
theorem b38_e (h12 : X 0 12 = nn op) (hop : op ≤ 5) (h1 : 1 ≤ op) (hm : X 6 op = 0) {X3 : X2} (h48 : cal d 48 [vr 7 0] (MX (CM I T.2.1 X s8) J T) = some (.inl none, MX (CM I T.2.1 X3 s8) J T)) : den (d + 1) 45 38 [some (vr 7 0), some (vi 41)] [] (MX (CM I T.2.1 X s8) J T) = some (.inl none, MX (CM I T.2.1 X3 s8) J T) := by
  have r6 : inR (nn op) 6 = true := nn_inR (by omega) (by omega)
  have h0 : ¬ nn op ≤ 0 := by rw [le0 (by omega)]; omega
  rw [b45_38, if_neg (by decide), if_pos (by decide), if_pos (by decide), if_neg (by decide), CM_g7, h12, if_neg h0, if_pos r6, nn_idx (by omega), CM_g38c, if_neg (fun q => q hm), h48]
  simp only [ret9]
  rw [b45_145]
theorem b38_s (h12 : X 0 12 = 0) : den (d + 1) 45 38 [some (vr 7 0), some (vi 59)] [] (MX (CM I T.2.1 X s8) J T) = some (.inl none, MX (CM I T.2.1 (u2 X 0 5 0) s8) J T) := by
  rw [b45_38, if_neg (by decide), if_pos (by decide), if_pos (by decide), if_pos (by decide), if_neg (by decide), CM_g7, h12, if_neg (fun q => q rfl), CM_7]
theorem b38_f (h12 : X 0 12 = nn op) (hop : op ≤ 5) {x : Int32} (n1 : ¬ x = 43) (n2 : ¬ x = 45) (n3 : ¬ (x = 44 ∧ ¬ X 6 op = 0)) (n4 : ¬ (x = 41 ∧ 1 ≤ op ∧ X 6 op = 0)) (n5 : ¬ (x = 59 ∧ op = 0)) : den (d + 1) 45 38 [some (vr 7 0), some (vi x)] [] (MX (CM I T.2.1 X s8) J T) = ret9 (den (d + 1) 45) 45 174 177 [some (vr 7 0), some (vi x)] [vr 7 0] (cal d 49 [vr 8 0] (MX (CM I T.2.1 X s8) J T)) := by
  have r6 : inR (nn op) 6 = true := nn_inR (by omega) (by omega)
  have eo : (¬ nn op = 0) ↔ ¬ op = 0 := by rw [eq0n (by omega)]
  rw [b45_38, if_neg n1, if_pos n2]
  by_cases z4 : x = 44
  · have hm : X 6 op = 0 := by
      by_cases q : X 6 op = 0
      · exact q
      · exact absurd ⟨z4, q⟩ n3
    rw [if_neg (fun q => q z4), CM_g7, h12, if_pos r6, nn_idx (by omega), CM_g38c, if_pos hm, if_pos (by rw [z4]; decide), if_pos (by rw [z4]; decide)]
  · rw [if_pos z4]
    by_cases z1 : x = 41
    · rw [if_neg (fun q => q z1), CM_g7, h12]
      by_cases q0 : op = 0
      · rw [if_pos ((le0 (by omega)).mpr q0), if_pos (by rw [z1]; decide)]
      · have hm : ¬ X 6 op = 0 := fun q => n4 ⟨z1, by omega, q⟩
        rw [if_neg (by rw [le0 (by omega)]; exact q0), if_pos r6, nn_idx (by omega), CM_g38c, if_pos hm, if_pos (by rw [z1]; decide)]
    · rw [if_pos z1]
      by_cases z9 : x = 59
      · rw [if_neg (fun q => q z9), CM_g7, h12, if_pos (eo.mpr (fun q => n5 ⟨z9, q⟩))]
      · rw [if_pos z9]
end CTV
