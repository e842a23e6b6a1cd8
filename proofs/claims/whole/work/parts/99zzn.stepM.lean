/-! The book: the reference takes a factor -/
section RTU
variable (d : Nat) (I : PI) (J : PJ) (T : TL) (b : Nat) (Y : X2) (nm : Nat → Int64) (s14 : Nat → Int32) {y : Int64} {f : Nat → Int32} {n j k s : Nat} {u : WD} {v : Nat} {c : Int32} {e : Nat}
theorem hs_ne {s e : Nat} {u : WD} (hk : TKE s u e) (h : ¬ s = 2) : e = 0 := by
  by_cases q : e = 0
  · exact q
  · exact absurd (hk.2.2.2.2 q) h
theorem thgK_ne {e : Nat} (h3 : 3 ≤ e) (h6 : e ≤ 6) : ¬ thgK e = -1 := by
  have : e = 3 ∨ e = 4 ∨ e = 5 ∨ e = 6 := by omega
  rcases this with q | q | q | q <;> subst q <;> decide
theorem thgK_e {e : Nat} (h : ¬ (3 ≤ e ∧ e ≤ 6)) : thgK e = -1 := by
  unfold thgK
  rw [if_neg (by omega), if_neg (by omega), if_neg (by omega), if_neg (by omega)]
theorem thgK_s {e : Nat} (h3 : 3 ≤ e) (h6 : e ≤ 6) : thgK e = stpK e := by
  have : e = 3 ∨ e = 4 ∨ e = 5 ∨ e = 6 := by omega
  rcases this with q | q | q | q <;> subst q <;> decide
noncomputable def tnK (e : Nat) : Int32 := bi (e = 7 ∨ e = 8)
theorem f209_24 (hm : MTK s14 y j k s u v c) (hk : TKE s u e) : cal (d + 7) 209 [vr 14 0] (MX (MM I b Y s14) (JM J b nm y) (TF T b)) = den (d + 7) 209 24 [some (vr 14 0), some (vi (tnK e)), none] [] (MX (MM I b Y s14) (JM J b nm y) (TF T b)) := by
  obtain ⟨m1, m2, m3, m4, m5, m6⟩ := hm
  unfold tnK
  rw [c209, isWM (d + 1) _ _ _ hk m3 m4 (w := 7) (by omega) (by omega)]
  simp only [ret9]
  rw [b209_6]
  by_cases z : e = 7
  · rw [bi1 z, if_pos (by decide), b209_18, b209_23, bi1 (.inl z)]
  · rw [bi0 z, if_neg (by decide), b209_9, isWM (d + 1) _ _ _ hk m3 m4 (w := 8) (by omega) (by omega)]
    simp only [ret9]
    rw [b209_15]
    by_cases z8 : e = 8
    · rw [bi1 z8, if_neg (by decide), b209_18, b209_23, bi1 (.inr z8)]
    · rw [bi0 z8, if_pos rfl, b209_22, b209_23, bi0 (fun q => by omega)]
theorem f209_59 (hm : MTK s14 y j k s u v c) (hk : TKE s u e) (hg : s = 3 ∨ 3 ≤ e ∨ (s = 4 ∧ c = 40)) : cal (d + 7) 209 [vr 14 0] (MX (MM I b Y s14) (JM J b nm y) (TF T b)) = den (d + 7) 209 59 [some (vr 14 0), some (vi (tnK e)), none] [] (MX (MM I b Y s14) (JM J b nm y) (TF T b)) := by
  rw [f209_24 d I J T b Y nm s14 hm hk, b209_24, MM_g14]
  obtain ⟨m1, m2, m3, m4, m5, m6⟩ := hm
  have h4 := hk.1
  have h8 := hk.2.2.1
  rw [m3]
  by_cases z : s = 3
  · rw [if_pos (show nn s = 3 by rw [z]; rfl)]
  · rw [if_neg (show ¬ nn s = 3 from fun q => z ((nn_inj (b := 3) (by omega) (by omega)).mp q)), b209_32, thgM d _ _ _ hk m3 m4]
    simp only [ret9]
    rw [b209_36]
    by_cases t : 3 ≤ e ∧ e ≤ 6
    · rw [if_pos (thgK_ne t.1 t.2)]
    · rw [thgK_e t, if_neg (fun q => q rfl), b209_40]
      by_cases t7 : e = 7 ∨ e = 8
      · rw [if_pos (show ¬ tnK e = 0 by unfold tnK; rw [bi1 t7]; decide)]
      · rw [if_neg (show ¬ ¬ tnK e = 0 by unfold tnK; rw [bi0 t7]; exact fun q => q rfl), b209_44, sgnM (d + 6) _ _ _ h4 m3 m6 40]
        simp only [ret9]
        rw [b209_50, bi1 (by rcases hg with g | g | g; omega; omega; exact g), if_pos (by decide)]
theorem f209_53 (hm : MTK s14 y j k s u v c) (hk : TKE s u e) (hg : ¬ (s = 3 ∨ 3 ≤ e ∨ (s = 4 ∧ c = 40))) : cal (d + 7) 209 [vr 14 0] (MX (MM I b Y s14) (JM J b nm y) (TF T b)) = some (.inr (1, vr 13 0), MX (MM I b (flY Y 1 (nn j)) s14) (JM J b nm y) (TF T b)) := by
  rw [f209_24 d I J T b Y nm s14 hm hk, b209_24, MM_g14]
  obtain ⟨m1, m2, m3, m4, m5, m6⟩ := hm
  have h4 := hk.1
  have z : ¬ s = 3 := fun q => hg (.inl q)
  have z3 : ¬ 3 ≤ e := fun q => hg (.inr (.inl q))
  rw [m3, if_neg (show ¬ nn s = 3 from fun q => z ((nn_inj (b := 3) (by omega) (by omega)).mp q)), b209_32, thgM d _ _ _ hk m3 m4]
  simp only [ret9]
  rw [b209_36, thgK_e (by omega), if_neg (fun q => q rfl), b209_40, if_neg (show ¬ ¬ tnK e = 0 by unfold tnK; rw [bi0 (by omega)]; exact fun q => q rfl), b209_44, sgnM (d + 6) _ _ _ h4 m3 m6 40]
  simp only [ret9]
  rw [b209_50, bi0 (fun q => hg (.inr (.inr q))), if_neg (by decide), b209_53, stopM, m2]
  simp only [ret9]
  rw [b209_58]
theorem f209_4 (hm : MTK s14 y j k s u v c) (hk : TKE s u e) (hs : s = 3) (hv : ¬ v ≤ 99) (hv1 : v < 1000) : cal (d + 7) 209 [vr 14 0] (MX (MM I b Y s14) (JM J b nm y) (TF T b)) = some (.inr (1, vr 13 0), MX (MM I b (flY Y 4 (nn j)) s14) (JM J b nm y) (TF T b)) := by
  rw [f209_59 d I J T b Y nm s14 hm hk (.inl hs), b209_59, MM_g14]
  obtain ⟨m1, m2, m3, m4, m5, m6⟩ := hm
  rw [m3, if_neg (show ¬ ¬ nn s = 3 by rw [hs]; exact fun q => q rfl), b209_67, MM_g14, m5 hs, if_neg (show ¬ nn v ≤ 99 by rw [show (99 : Int32) = nn 99 from rfl, nn_le (by omega) (by omega)]; exact hv), b209_76, stopM, m2]
  simp only [ret9]
  rw [b209_81]
theorem f209_82 (hm : MTK s14 y j k s u v c) (hk : TKE s u e) (hg : fgood s v e c) : cal (d + 7) 209 [vr 14 0] (MX (MM I b Y s14) (JM J b nm y) (TF T b)) = den (d + 7) 209 82 [some (vr 14 0), some (vi (tnK e)), none] [] (MX (MM I b Y s14) (JM J b nm y) (TF T b)) := by
  rw [f209_59 d I J T b Y nm s14 hm hk (by rcases hg with g | g | g; exact .inl g.1; exact .inr (.inl g); exact .inr (.inr g)), b209_59, MM_g14]
  obtain ⟨m1, m2, m3, m4, m5, m6⟩ := hm
  have h4 := hk.1
  by_cases z : s = 3
  · have h9 : v ≤ 99 := by
      have := hs_ne hk (show ¬ s = 2 by omega)
      rcases hg with g | g | g <;> omega
    rw [m3, if_neg (show ¬ ¬ nn s = 3 by rw [z]; exact fun q => q rfl), b209_67, MM_g14, m5 z, if_pos (show nn v ≤ 99 from (nn_le (b := 99) (by omega) (by omega)).mpr h9)]
  · rw [m3, if_pos (show ¬ nn s = 3 from fun q => z ((nn_inj (b := 3) (by omega) (by omega)).mp q))]
theorem f209_5 (hm : MTK s14 y j k s u v c) (hk : TKE s u e) (hg : fgood s v e c) (h21 : s14 21 = nn 20) : cal (d + 7) 209 [vr 14 0] (MX (MM I b Y s14) (JM J b nm y) (TF T b)) = some (.inr (1, vr 13 0), MX (MM I b (flY Y 5 (nn j)) s14) (JM J b nm y) (TF T b)) := by
  rw [f209_82 d I J T b Y nm s14 hm hk hg, b209_82, MM_g14, h21, if_neg (fun q => q rfl), b209_91, stopM, hm.2.1]
  simp only [ret9]
  rw [b209_96]
theorem f209_97 (hm : MTK s14 y j k s u v c) (hk : TKE s u e) (hg : fgood s v e c) {fac : Nat} (h21 : s14 21 = nn fac) (hf : fac < 20) : cal (d + 7) 209 [vr 14 0] (MX (MM I b Y s14) (JM J b nm y) (TF T b)) = (if tnK e = 0 then den (d + 7) 209 139 [some (vr 14 0), some (vi (tnK e)), none] [] (MX (MM I b Y (wu s14 21 (nn (fac + 1)))) (JM J b nm y) (TF T b)) else den (d + 7) 209 111 [some (vr 14 0), some (vi (tnK e)), none] [] (MX (MM I b Y (wu s14 21 (nn (fac + 1)))) (JM J b nm y) (TF T b))) := by
  rw [f209_82 d I J T b Y nm s14 hm hk hg, b209_82, MM_g14, h21, if_pos (show ¬ nn fac = 20 from fun q => by have := (nn_inj (b := 20) (by omega) (by omega)).mp q; omega), b209_97, MM_g14, h21, nn_add1, MM_14]
/-- a bracket opens -/
theorem openM (hb : ∀ x, -128 ≤ f x ∧ f x ≤ 127) (hn : n ≤ 500) (hf : I 37 1 = f) (h9 : s14 9 = nn n) (hm : MTK s14 y j k s u v c) (hs4 : s ≤ 4) (hs : s = 4 ∧ c = 40) {op : Nat} (h20 : s14 20 = nn op) (hop : op < 5) (x : Int32) {j' k' s' : Nat} {u' : WD} {v' : Nat} {c' : Int32} (ht : TOK f n k j' k' s' u' v' c') : ∃ (s2 : Nat → Int32) (y2 : Int64), cal (d + 6) 211 [vr 14 0, vi x] (MX (MM I b Y s14) (JM J b nm y) T) = some (.inl none, MX (MM I b (bgY Y (op + 1) x) s2) (JM J b nm y2) T) ∧ MTK s2 y2 j' k' s' u' v' c' ∧ s2 20 = nn (op + 1) ∧ s2 21 = s14 21 ∧ ∀ x, ¬ (10 ≤ x ∧ x ≤ 21) → s2 x = s14 x := by
  obtain ⟨m1, m2, m3, m4, m5, m6⟩ := hm
  obtain ⟨s2, y2, e2, q2, o2⟩ := nxM (d + 4) I J T b Y s14 nm hf hb hn ht y h9 m1
  have g20 : s2 20 = nn op := (o2 20 (by omega)).trans h20
  refine ⟨wu s2 20 (nn (op + 1)), y2, ?_, MTK_w (by omega) q2, rfl, o2 21 (by omega), fun x hx => ?_⟩
  · rw [c211, sgnM (d + 5) _ _ _ hs4 m3 m6 40]
    simp only [ret9]
    rw [b211_6, bi1 hs, if_pos (by decide), MM_g14, h20, if_pos (show ¬ nn op = 5 from fun q => by have := (nn_inj (b := 5) (by omega) (by omega)).mp q; omega), e2]
    simp only [ret9]
    rw [b211_33, MM_g14, g20, nn_add1, MM_14, begM (d + 5) I _ T b Y (wu s2 20 (nn (op + 1))) (op := op + 1) rfl (by omega)]
    simp only [ret9]
    rw [b211_48]
  · unfold wu
    rw [if_neg (by omega)]
    exact o2 x (by omega)
theorem opM5 (hm : MTK s14 y j k s u v c) (hs4 : s ≤ 4) (hs : s = 4 ∧ c = 40) (h20 : s14 20 = nn 5) (x : Int32) : cal (d + 6) 211 [vr 14 0, vi x] (MX (MM I b Y s14) (JM J b nm y) T) = some (.inr (1, vr 13 0), MX (MM I b (flY Y 5 (nn j)) s14) (JM J b nm y) T) := by
  obtain ⟨m1, m2, m3, m4, m5, m6⟩ := hm
  rw [c211, sgnM (d + 5) _ _ _ hs4 m3 m6 40]
  simp only [ret9]
  rw [b211_6, bi1 hs, if_pos (by decide), MM_g14, h20, if_neg (fun q => q rfl), stopM, m2]
  simp only [ret9]
  rw [b211_28]
theorem opM1 (hm : MTK s14 y j k s u v c) (hs4 : s ≤ 4) (hs : ¬ (s = 4 ∧ c = 40)) (x : Int32) : cal (d + 6) 211 [vr 14 0, vi x] (MX (MM I b Y s14) (JM J b nm y) T) = some (.inr (1, vr 13 0), MX (MM I b (flY Y 1 (nn j)) s14) (JM J b nm y) T) := by
  obtain ⟨m1, m2, m3, m4, m5, m6⟩ := hm
  rw [c211, sgnM (d + 5) _ _ _ hs4 m3 m6 40]
  simp only [ret9]
  rw [b211_6, bi0 hs, if_neg (by decide), stopM, m2]
  simp only [ret9]
  rw [b211_14]
theorem K9_0 (d : Nat) (I : PI) (J : PJ) (T : TL) : K9 d (some (.inl (some (vi 0)), MX I J T)) = den (d + 8) 207 17 [some (vr 14 0), some (vi 1)] [] (MX I J T) := by
  show den (d + 8) 207 25 _ _ _ = _
  rw [b207_25, if_neg (fun q => q rfl)]
theorem K9_1 (d : Nat) (I : PI) (J : PJ) (T : TL) (b : Nat) : K9 d (some (.inl (some (vi 1)), MX I J (TF T b))) = K13 d (den (d + 7) 213 0 [some (vr 14 0)] [] (MX I J (TF T b))) := by
  show den (d + 8) 207 25 _ _ _ = _
  rw [b207_25, if_pos (by decide), c213, ← b213_0]
  rfl
theorem KA_0 (d : Nat) (act : Int32) (I : PI) (J : PJ) (T : TL) (b : Nat) : KA d act (some (.inl none, MX I J (TF T b))) = some (.inl (some (vi 0)), MX I J (TF T b)) := by
  show den (d + 7) 209 137 _ _ _ = _
  rw [b209_137]
theorem Q3_9 (d : Nat) (I : PI) (J : PJ) (T : TL) : Q3 d (MX I J T) = K7 d (K9 d (cal (d + 7) 209 [vr 14 0] (MX I J T))) := by
  unfold Q3 K9
  rw [b207_17, if_neg (by decide)]
end RTU
section RTV
variable {f : Nat → Int32} {n b : Nat} {Y : X2} {nm : Nat → Int64} {j k s : Nat} {u : WD} {v : Nat} {c : Int32} {e : Nat} {j' k' s' : Nat} {u' : WD} {v' : Nat} {c' : Int32} {op fac : Nat}
theorem tnK0 {e : Nat} (h : ¬ (e = 7 ∨ e = 8)) : tnK e = 0 := bi0 h
theorem tnK1 {e : Nat} (h : e = 7 ∨ e = 8) : tnK e = 1 := bi1 h
theorem rt3_leaf (hb : ∀ x, -128 ≤ f x ∧ f x ≤ 127) (hn : n ≤ 500) (hk : TKE s u e) (hg : (s = 3 ∧ v ≤ 99) ∨ (3 ≤ e ∧ e ≤ 6)) (hfac : fac < 20) {r len : Nat} (h1 : Y 1 0 = nn r) (hr : r < 6) (h3 : Y 3 r = nn len) (hl : len < 48) (ht : TOK f n k j' k' s' u' v' c') : RT f n b Q3 (Gd op fac) Y nm j k s u v c Q5 (Gd op (fac + 1)) (pY Y r len (tstep s v e)) nm j' k' s' u' v' c' := by
  intro d I J T s14 y hf h9 hm hG
  have hs4 := hk.1
  have hgg : fgood s v e c := by
    rcases hg with g | g
    · exact .inl g
    · exact .inr (.inl g.1)
  have h78 : ¬ (e = 7 ∨ e = 8) := by
    rcases hg with g | g
    · have := hs_ne hk (show ¬ s = 2 by omega); omega
    · omega
  have hc4 : ¬ (s = 4 ∧ c = 40) := by
    rcases hg with g | g
    · omega
    · have := hk.2.2.2.2 (show ¬ e = 0 by omega); omega
  have hm' := MTK_w (a := 21) (x := nn (fac + 1)) (by omega) hm
  obtain ⟨m1, m2, m3, m4, m5, m6⟩ := hm'
  obtain ⟨s2, y2, e2, q2, o2⟩ := nxM (d + 5) I J (TF T b) b (pY Y r len (tstep s v e)) (wu s14 21 (nn (fac + 1))) nm hf hb hn ht y h9 m1
  refine ⟨s2, y2, ?_, q2, ⟨(o2 20 (by omega)).trans hG.1, o2 21 (by omega)⟩, fun x hx => (o2 x (by omega)).trans (by unfold wu; rw [if_neg (by omega)])⟩
  rw [Q3_9, f209_97 d I J T b Y nm s14 hm hk hgg hG.2 hfac, tnK0 h78, if_pos rfl, b209_139, sgnM (d + 6) _ _ _ hs4 m3 m6 40]
  simp only [ret9]
  rw [b209_145, bi0 hc4, if_pos rfl, b209_155, MM_g14, m3]
  have fin : den (d + 7) 209 178 [some (vr 14 0), some (vi 0), none] [vi (tstep s v e), vr 12 b] (MX (MM I b Y (wu s14 21 (nn (fac + 1)))) (JM J b nm y) (TF T b)) = some (.inl (some (vi 1)), MX (MM I b (pY Y r len (tstep s v e)) s2) (JM J b nm y2) (TF T b)) := by
    rw [b209_178, addM (d + 6) I _ _ b Y _ (tstep s v e) h1 hr h3 hl]
    simp only [ret9]
    rw [b209_181, e2]
    simp only [ret9]
    rw [b209_185]
  have fin2 : den (d + 7) 209 (if s = 3 then 167 else 174) [some (vr 14 0), some (vi 0), none] [vr 12 b] (MX (MM I b Y (wu s14 21 (nn (fac + 1)))) (JM J b nm y) (TF T b)) = some (.inl (some (vi 1)), MX (MM I b (pY Y r len (tstep s v e)) s2) (JM J b nm y2) (TF T b)) := by
    by_cases z : s = 3
    · rw [if_pos z, b209_167, MM_g14, m5 z, ← fin]
      unfold tstep
      rw [if_pos z]
    · have g2 : 3 ≤ e ∧ e ≤ 6 := by
        rcases hg with g | g
        · exact absurd g.1 z
        · exact g
      rw [if_neg z, b209_174, thgM d _ _ _ hk m3 m4]
      simp only [ret9]
      rw [← fin]
      unfold tstep
      rw [if_neg z, thgK_s g2.1 g2.2]
  have sel : (if ¬ nn s = 3 then den (d + 7) 209 174 [some (vr 14 0), some (vi 0), none] [vr 12 b] (MX (MM I b Y (wu s14 21 (nn (fac + 1)))) (JM J b nm y) (TF T b)) else den (d + 7) 209 167 [some (vr 14 0), some (vi 0), none] [vr 12 b] (MX (MM I b Y (wu s14 21 (nn (fac + 1)))) (JM J b nm y) (TF T b))) = some (.inl (some (vi 1)), MX (MM I b (pY Y r len (tstep s v e)) s2) (JM J b nm y2) (TF T b)) := by
    by_cases z : s = 3
    · rw [if_pos z] at fin2
      rw [if_neg (show ¬ ¬ nn s = 3 by rw [z]; exact fun q => q rfl)]
      exact fin2
    · rw [if_neg z] at fin2
      rw [if_pos (show ¬ nn s = 3 from fun q => z ((nn_inj (b := 3) (by omega) (by omega)).mp q))]
      exact fin2
  rw [sel, K9_1]
  rfl
theorem rt3_ahead (hb : ∀ x, -128 ≤ f x ∧ f x ≤ 127) (hn : n ≤ 500) (hk : TKE s u e) (he : e = 7 ∨ e = 8) (hfac : fac < 20) (ht : TOK f n k j' k' s' u' v' c') : RT f n b Q3 (Gd op fac) Y nm j k s u v c (Q4 (if e = 7 then 113 else 114)) (Gd op (fac + 1)) Y nm j' k' s' u' v' c' := by
  intro d I J T s14 y hf h9 hm hG
  have hgg : fgood s v e c := .inr (.inl (by omega))
  have hm' := MTK_w (a := 21) (x := nn (fac + 1)) (by omega) hm
  obtain ⟨m1, m2, m3, m4, m5, m6⟩ := hm'
  obtain ⟨s2, y2, e2, q2, o2⟩ := nxM (d + 5) I J (TF T b) b Y (wu s14 21 (nn (fac + 1))) nm hf hb hn ht y h9 m1
  refine ⟨s2, y2, ?_, q2, ⟨(o2 20 (by omega)).trans hG.1, o2 21 (by omega)⟩, fun x hx => (o2 x (by omega)).trans (by unfold wu; rw [if_neg (by omega)])⟩
  rw [Q3_9, f209_97 d I J T b Y nm s14 hm hk hgg hG.2 hfac, tnK1 he, if_neg (by decide), b209_111, isWM (d + 1) _ _ _ hk m3 m4 (w := 7) (by omega) (by omega)]
  simp only [ret9]
  rw [b209_117]
  have fin : ∀ a : Int32, den (d + 7) 209 127 [some (vr 14 0), some (vi 1), none] [vi a] (MX (MM I b Y (wu s14 21 (nn (fac + 1)))) (JM J b nm y) (TF T b)) = KA d a (cal (d + 6) 211 [vr 14 0, vi a] (MX (MM I b Y s2) (JM J b nm y2) (TF T b))) := by
    intro a
    rw [b209_127, b209_128, e2]
    simp only [ret9]
    rw [b209_132]
    rfl
  by_cases z : e = 7
  · rw [bi1 z, if_neg (by decide), b209_120, fin, if_pos z]
    rfl
  · rw [bi0 z, if_pos rfl, b209_125, fin, if_neg z]
    rfl
theorem rt3_open (hb : ∀ x, -128 ≤ f x ∧ f x ≤ 127) (hn : n ≤ 500) (hk : TKE s u e) (hs : s = 4 ∧ c = 40) (hfac : fac < 20) (hop : op < 5) (ht : TOK f n k j' k' s' u' v' c') : RT f n b Q3 (Gd op fac) Y nm j k s u v c Q3 (Gd (op + 1) (fac + 1)) (bgY Y (op + 1) 0) nm j' k' s' u' v' c' := by
  intro d I J T s14 y hf h9 hm hG
  have hgg : fgood s v e c := .inr (.inr hs)
  have h78 : ¬ (e = 7 ∨ e = 8) := by
    have := hs_ne hk (show ¬ s = 2 by omega); omega
  have hm' := MTK_w (a := 21) (x := nn (fac + 1)) (by omega) hm
  obtain ⟨s2, y2, e2, q2, o20, o21, o2⟩ := openM d I J (TF T b) b Y nm (wu s14 21 (nn (fac + 1))) hb hn hf h9 hm' hk.1 hs (op := op) hG.1 hop 0 ht
  refine ⟨s2, y2, ?_, q2, ⟨o20, o21⟩, fun x hx => (o2 x hx).trans (by unfold wu; rw [if_neg (by omega)])⟩
  obtain ⟨m1, m2, m3, m4, m5, m6⟩ := hm'
  rw [Q3_9, f209_97 d I J T b Y nm s14 hm hk hgg hG.2 hfac, tnK0 h78, if_pos rfl, b209_139, sgnM (d + 6) _ _ _ hk.1 m3 m6 40]
  simp only [ret9]
  rw [b209_145, bi1 hs, if_neg (by decide), b209_148, e2]
  simp only [ret9]
  rw [b209_153, K9_0]
  rfl
theorem rf3_o5 (hk : TKE s u e) (hs : s = 4 ∧ c = 40) (hfac : fac < 20) (hop : op = 5) : RF f n b Q3 (Gd op fac) Y nm j k s u v c 5 := by
  intro d I J T s14 y hf h9 hm hG
  have hgg : fgood s v e c := .inr (.inr hs)
  have h78 : ¬ (e = 7 ∨ e = 8) := by
    have := hs_ne hk (show ¬ s = 2 by omega); omega
  have hm' := MTK_w (a := 21) (x := nn (fac + 1)) (by omega) hm
  refine ⟨Y, wu s14 21 (nn (fac + 1)), ?_, fun x hx => by unfold wu; rw [if_neg (by omega)]⟩
  have e2 := opM5 d I J (TF T b) b Y nm (wu s14 21 (nn (fac + 1))) hm' hk.1 hs (by show s14 20 = nn 5; rw [hG.1, hop]) 0
  obtain ⟨m1, m2, m3, m4, m5, m6⟩ := hm'
  rw [Q3_9, f209_97 d I J T b Y nm s14 hm hk hgg hG.2 hfac, tnK0 h78, if_pos rfl, b209_139, sgnM (d + 6) _ _ _ hk.1 m3 m6 40]
  simp only [ret9]
  rw [b209_145, bi1 hs, if_neg (by decide), b209_148, e2]
  rfl
theorem rf3_1 (hk : TKE s u e) (hg : ¬ (s = 3 ∨ 3 ≤ e ∨ (s = 4 ∧ c = 40))) : RF f n b Q3 (Gd op fac) Y nm j k s u v c 1 := by
  intro d I J T s14 y hf h9 hm hG
  refine ⟨Y, s14, ?_, fun x hx => rfl⟩
  rw [Q3_9, f209_53 d I J T b Y nm s14 hm hk hg]
  rfl
theorem rf3_4 (hk : TKE s u e) (hs : s = 3) (hv : ¬ v ≤ 99) (hv1 : v < 1000) : RF f n b Q3 (Gd op fac) Y nm j k s u v c 4 := by
  intro d I J T s14 y hf h9 hm hG
  refine ⟨Y, s14, ?_, fun x hx => rfl⟩
  rw [Q3_9, f209_4 d I J T b Y nm s14 hm hk hs hv hv1]
  rfl
theorem rf3_5 (hk : TKE s u e) (hg : fgood s v e c) (hfac : fac = 20) : RF f n b Q3 (Gd op fac) Y nm j k s u v c 5 := by
  intro d I J T s14 y hf h9 hm hG
  refine ⟨Y, s14, ?_, fun x hx => rfl⟩
  rw [Q3_9, f209_5 d I J T b Y nm s14 hm hk hg (by rw [hG.2, hfac])]
  rfl
theorem rt4_open (hb : ∀ x, -128 ≤ f x ∧ f x ≤ 127) (hn : n ≤ 500) (hs4 : s ≤ 4) (hs : s = 4 ∧ c = 40) (act : Int32) (hop : op < 5) (ht : TOK f n k j' k' s' u' v' c') : RT f n b (Q4 act) (Gd op fac) Y nm j k s u v c Q3 (Gd (op + 1) fac) (bgY Y (op + 1) act) nm j' k' s' u' v' c' := by
  intro d I J T s14 y hf h9 hm hG
  obtain ⟨s2, y2, e2, q2, o20, o21, o2⟩ := openM d I J (TF T b) b Y nm s14 hb hn hf h9 hm hs4 hs (op := op) hG.1 hop act ht
  refine ⟨s2, y2, ?_, q2, ⟨o20, o21.trans hG.2⟩, o2⟩
  unfold Q4
  rw [e2, KA_0, K9_0]
  rfl
theorem rf4_1 (hs4 : s ≤ 4) (hs : ¬ (s = 4 ∧ c = 40)) (act : Int32) : RF f n b (Q4 act) (Gd op fac) Y nm j k s u v c 1 := by
  intro d I J T s14 y hf h9 hm hG
  refine ⟨Y, s14, ?_, fun x hx => rfl⟩
  unfold Q4
  rw [opM1 d I J (TF T b) b Y nm s14 hm hs4 hs act]
  rfl
theorem rf4_5 (hs4 : s ≤ 4) (hs : s = 4 ∧ c = 40) (hop : op = 5) (act : Int32) : RF f n b (Q4 act) (Gd op fac) Y nm j k s u v c 5 := by
  intro d I J T s14 y hf h9 hm hG
  refine ⟨Y, s14, ?_, fun x hx => rfl⟩
  unfold Q4
  rw [opM5 d I J (TF T b) b Y nm s14 hm hs4 hs (by rw [hG.1, hop]) act]
  rfl
end RTV
