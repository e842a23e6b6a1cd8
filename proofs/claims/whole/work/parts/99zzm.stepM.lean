/-! The book: the reference takes a token -/
noncomputable def K7 (d : Nat) (r : Option Res9) : Option Res9 := ret9 (den (d + 9) 193) 193 119 122 [some (vr 14 0), some (vi 1)] [] r
noncomputable def K9 (d : Nat) (r : Option Res9) : Option Res9 := ret9 (den (d + 8) 207) 207 22 25 [some (vr 14 0), some (vi 1)] [] r
noncomputable def K13 (d : Nat) (r : Option Res9) : Option Res9 := ret9 (den (d + 8) 207) 207 32 35 [some (vr 14 0), some (vi 1)] [] r
noncomputable def KA (d : Nat) (act : Int32) (r : Option Res9) : Option Res9 := ret9 (den (d + 7) 209) 209 134 137 [some (vr 14 0), some (vi 1), some (vi act)] [] r
noncomputable def Q0 (d : Nat) (m : Mem) : Option Res9 := den (d + 9) 193 2 [some (vr 14 0), some (vi 1)] [] m
noncomputable def Q1 (d : Nat) (m : Mem) : Option Res9 := den (d + 9) 193 25 [some (vr 14 0), some (vi 1)] [] m
noncomputable def Q2 (d : Nat) (m : Mem) : Option Res9 := den (d + 9) 193 99 [some (vr 14 0), some (vi 1)] [] m
noncomputable def Q3 (d : Nat) (m : Mem) : Option Res9 := K7 d (den (d + 8) 207 17 [some (vr 14 0), some (vi 1)] [] m)
noncomputable def Q4 (act : Int32) (d : Nat) (m : Mem) : Option Res9 := K7 d (K9 d (KA d act (cal (d + 6) 211 [vr 14 0, vi act] m)))
noncomputable def Q5 (d : Nat) (m : Mem) : Option Res9 := K7 d (K13 d (den (d + 7) 213 0 [some (vr 14 0)] [] m))
theorem K7_thr (d : Nat) (m : Mem) : K7 d (some (.inr (1, vr 13 0), m)) = some (.inr (1, vr 13 0), m) := rfl
theorem K9_thr (d : Nat) (m : Mem) : K9 d (some (.inr (1, vr 13 0), m)) = some (.inr (1, vr 13 0), m) := rfl
theorem K13_thr (d : Nat) (m : Mem) : K13 d (some (.inr (1, vr 13 0), m)) = some (.inr (1, vr 13 0), m) := rfl
theorem KA_thr (d : Nat) (act : Int32) (m : Mem) : KA d act (some (.inr (1, vr 13 0), m)) = some (.inr (1, vr 13 0), m) := rfl
/-- a bracket begins -/
def bgY (Y : X2) (op : Nat) (x : Int32) : X2 := u2 (u2 (u2 (u2 Y 4 op x) 5 op 0) 6 op 0) 7 op 0
/-- a stop -/
def flY (Y : X2) (k p : Int32) : X2 := u2 (u2 Y 0 5 k) 0 6 p
section MTS
variable (d : Nat) (I : PI) (J : PJ) (T : TL) (b : Nat) (Y : X2) (s14 : Nat → Int32)
theorem addM {r len : Nat} (x : Int32) (h1 : Y 1 0 = nn r) (hr : r < 6) (h3 : Y 3 r = nn len) (hl : len < 48) : cal d 212 [vr 12 b, vi x] (MX (MM I b Y s14) J T) = some (.inl none, MX (MM I b (pY Y r len x) s14) J T) := by
  have r6 : inR (nn r) 6 = true := nn_inR hr (by omega)
  have r288 : inR (nn (48 * r + len)) 288 = true := nn_inR (by omega) (by omega)
  rw [c212, MM_g12, h1, nn_idx (by omega), MM_g21, h3, show (48 : Int32) = nn 48 from rfl, nn_mul, nn_add, if_pos r6, if_pos r288, if_pos r6, if_pos r6, nn_idx (by omega), nn_add1, MM_33, MM_21]
  rfl
theorem begM {op : Nat} (h20 : s14 20 = nn op) (hop : op ≤ 5) (x : Int32) : cal d 208 [vr 14 0, vi x] (MX (MM I b Y s14) J T) = some (.inl none, MX (MM I b (bgY Y op x) s14) J T) := by
  have r6 : inR (nn op) 6 = true := nn_inR (by omega) (by omega)
  rw [c208, MM_g14, h20, if_pos r6, if_pos r6, if_pos r6, if_pos r6, nn_idx (by omega), MM_21b, MM_21h, MM_21w, MM_38]
  rfl
theorem stopM (k : Int32) : cal d 203 [vr 14 0, vi k] (MX (MM I b Y s14) J T) = some (.inl (some (vr 13 0)), MX (MM I b (flY Y k (s14 12)) s14) J T) := by
  rw [c203, MM_g14, MM_13, MM_13]
  rfl
theorem nxM {f : Nat → Int32} {n : Nat} (nm : Nat → Int64) (hf : I 37 1 = f) (hb : ∀ x, -128 ≤ f x ∧ f x ≤ 127) (hn : n ≤ 500) {i j k s : Nat} {u : WD} {v : Nat} {c : Int32} (ht : TOK f n i j k s u v c) (y0 : Int64) (h9 : s14 9 = nn n) (h10 : s14 10 = nn i) : ∃ (s2 : Nat → Int32) (y : Int64), cal (d + 1) 189 [vr 14 0] (MX (MM I b Y s14) (JM J b nm y0) T) = some (.inl none, MX (MM I b Y s2) (JM J b nm y) T) ∧ MTK s2 y j k s u v c ∧ (∀ x, ¬ (10 ≤ x ∧ x ≤ 14) → s2 x = s14 x) :=
  nextM d (MI I b Y) (upA J 42 (b + 2) nm) T (f := f) (n := n) hf hb hn ht s14 y0 h9 h10
theorem tldM {y : Int64} {nm : Nat → Int64} {r : Nat} (hr : r ≤ 6) (h1 : Y 1 0 = nn r) {w : Nat → WD} {u : WD} (hw : ∀ i, i < r → WDok (w i) ∧ nm i = ll (wdR (w i))) (hu : WDok u) : cal d 206 [vr 12 b, vl (ll (wdR u))] (MX (MM I b Y s14) (JM J b nm y) T) = some (.inl (some (vi (bi (TLD w r u)))), MX (MM I b Y s14) (JM J b nm y) T) := by
  have loop : ∀ m i, i + m = r → (∀ x, x < i → ¬ wdR (w x) = wdR u) → den d 206 2 [some (vr 12 b), some (vl (ll (wdR u))), none, some (vi (nn i))] [] (MX (MM I b Y s14) (JM J b nm y) T) = some (.inl (some (vi (bi (TLD w r u)))), MX (MM I b Y s14) (JM J b nm y) T) := by
    intro m
    induction m with
    | zero =>
      intro i hi hx
      rw [b206_2, MM_g12, h1, if_pos ((nn_le (by omega) (by omega)).mpr (by omega)), bi0 (fun ⟨x, x1, x2⟩ => hx x (by omega) x2)]
    | succ m ih =>
      intro i hi hx
      obtain ⟨a1, a2⟩ := hw i (by omega)
      rw [b206_2, MM_g12, h1, if_neg (by rw [nn_le (by omega) (by omega)]; omega), if_pos (nn_inR (by omega) (by omega)), nn_idx (by omega), JM_42, a2]
      have f1 : (2 : Nat) ^ 40 = 1099511627776 := by decide
      have b1 := wdR_b a1
      have b2 := wdR_b hu
      by_cases z : wdR (w i) = wdR u
      · rw [if_neg (fun q => q (by rw [lg0, z])), bi1 ⟨i, by omega, z⟩]
      · rw [if_pos (fun q => z ((ll_inj (by omega) (by omega)).mp ((lg0 _ _).mp q))), nn_add1]
        exact ih (i + 1) (by omega) (fun x h1 => by
          by_cases y : x = i
          · rw [y]; exact z
          · exact hx x (by omega))
  rw [c206]
  exact loop r 0 (by omega) (fun x h => absurd h (by omega))
end MTS
/-- the reference goes from one token to the next -/
def RT (f : Nat → Int32) (n b : Nat) (K : Nat → Mem → Option Res9) (G : (Nat → Int32) → Prop) (Y : X2) (nm : Nat → Int64) (j k s : Nat) (u : WD) (v : Nat) (c : Int32) (K' : Nat → Mem → Option Res9) (G' : (Nat → Int32) → Prop) (Y' : X2) (nm' : Nat → Int64) (j' k' s' : Nat) (u' : WD) (v' : Nat) (c' : Int32) : Prop := ∀ (d : Nat) (I : PI) (J : PJ) (T : TL) (s14 : Nat → Int32) (y : Int64), I 37 1 = f → s14 9 = nn n → MTK s14 y j k s u v c → G s14 → ∃ (s14' : Nat → Int32) (y' : Int64), K d (MX (MM I b Y s14) (JM J b nm y) (TF T b)) = K' d (MX (MM I b Y' s14') (JM J b nm' y') (TF T b)) ∧ MTK s14' y' j' k' s' u' v' c' ∧ G' s14' ∧ ∀ x, ¬ (10 ≤ x ∧ x ≤ 21) → s14' x = s14 x
/-- the reference stops at a token -/
def RF (f : Nat → Int32) (n b : Nat) (K : Nat → Mem → Option Res9) (G : (Nat → Int32) → Prop) (Y : X2) (nm : Nat → Int64) (j k s : Nat) (u : WD) (v : Nat) (c : Int32) (kd : Int32) : Prop := ∀ (d : Nat) (I : PI) (J : PJ) (T : TL) (s14 : Nat → Int32) (y : Int64), I 37 1 = f → s14 9 = nn n → MTK s14 y j k s u v c → G s14 → ∃ (Y' : X2) (s14' : Nat → Int32), K d (MX (MM I b Y s14) (JM J b nm y) (TF T b)) = some (.inr (1, vr 13 0), MX (MM I b (flY Y' kd (nn j)) s14') (JM J b nm y) (TF T b)) ∧ ∀ x, ¬ (10 ≤ x ∧ x ≤ 21) → s14' x = s14 x
def Gt (_ : Nat → Int32) : Prop := True
def Gd (op fac : Nat) (s14 : Nat → Int32) : Prop := s14 20 = nn op ∧ s14 21 = nn fac
theorem Gd_o {op fac : Nat} {a c : Nat → Int32} (h : Gd op fac a) (o : ∀ x, ¬ (10 ≤ x ∧ x ≤ 14) → c x = a x) : Gd op fac c := ⟨(o 20 (by omega)).trans h.1, (o 21 (by omega)).trans h.2⟩
section RTS
variable {f : Nat → Int32} {n b : Nat} (hb : ∀ x, -128 ≤ f x ∧ f x ≤ 127) (hn : n ≤ 500) {Y : X2} {nm : Nat → Int64} {j k s : Nat} {u : WD} {v : Nat} {c : Int32} {e : Nat} {j' k' s' : Nat} {u' : WD} {v' : Nat} {c' : Int32}
theorem rt01 (hb : ∀ x, -128 ≤ f x ∧ f x ≤ 127) (hn : n ≤ 500) (hk : TKE s u e) (he : e = 1) (ht : TOK f n k j' k' s' u' v' c') : RT f n b Q0 Gt Y nm j k s u v c Q1 Gt Y nm j' k' s' u' v' c' := by
  intro d I J T s14 y hf h9 hm _
  obtain ⟨m1, m2, m3, m4, m5, m6⟩ := hm
  obtain ⟨s2, y2, e2, q2, o2⟩ := nxM (d + 7) I J (TF T b) b Y s14 nm hf hb hn ht y h9 m1
  refine ⟨s2, y2, ?_, q2, True.intro, fun x hx => o2 x (by omega)⟩
  show den (d + 9) 193 2 _ _ _ = den (d + 9) 193 25 _ _ _
  rw [b193_2, if_neg (by decide), isWM (d + 3) _ _ _ hk m3 m4 (w := 1) (by omega) (by omega)]
  simp only [ret9]
  rw [b193_12, bi1 he, if_pos (by decide), e2]
  simp only [ret9]
theorem rf0 (hk : TKE s u e) (he : ¬ e = 1) : RF f n b Q0 Gt Y nm j k s u v c 1 := by
  intro d I J T s14 y hf h9 hm _
  obtain ⟨m1, m2, m3, m4, m5, m6⟩ := hm
  refine ⟨Y, s14, ?_, fun x hx => rfl⟩
  show den (d + 9) 193 2 _ _ _ = _
  rw [b193_2, if_neg (by decide), isWM (d + 3) _ _ _ hk m3 m4 (w := 1) (by omega) (by omega)]
  simp only [ret9]
  rw [b193_12, bi0 he, if_neg (by decide), stopM, m2]
  simp only [ret9]
  rw [b193_20]
theorem rf1 (hk : TKE s u e) (hx : ¬ (s = 2 ∧ e = 0)) : RF f n b Q1 Gt Y nm j k s u v c 1 := by
  intro d I J T s14 y hf h9 hm _
  obtain ⟨m1, m2, m3, m4, m5, m6⟩ := hm
  refine ⟨Y, s14, ?_, fun x hx => rfl⟩
  show den (d + 9) 193 25 _ _ _ = _
  rw [b193_25, namM (d + 1) _ _ _ hk m3 m4]
  simp only [ret9]
  rw [b193_29, bi0 hx, if_neg (by decide), stopM, m2]
  simp only [ret9]
  rw [b193_37]
theorem rt12 (hb : ∀ x, -128 ≤ f x ∧ f x ≤ 127) (hn : n ≤ 500) (hk : TKE s u e) (hs : s = 2) (he : e = 0) {r : Nat} (hr : r < 6) (h1 : Y 1 0 = nn r) {w : Nat → WD} (hw : ∀ i, i < r → WDok (w i) ∧ nm i = ll (wdR (w i))) (htl : ¬ TLD w r u) (ht : TOK f n k j' k' s' u' v' c') : RT f n b Q1 Gt Y nm j k s u v c Q2 Gt Y (wl nm r (ll (wdR u))) j' k' s' u' v' c' := by
  intro d I J T s14 y hf h9 hm _
  obtain ⟨m1, m2, m3, m4, m5, m6⟩ := hm
  have ey := m4 hs
  subst ey
  obtain ⟨s2, y2, e2, q2, o2⟩ := nxM (d + 7) I J (TF T b) b Y s14 (wl nm r (ll (wdR u))) hf hb hn ht (ll (wdR u)) h9 m1
  refine ⟨s2, y2, ?_, q2, True.intro, fun x hx => o2 x (by omega)⟩
  show den (d + 9) 193 25 _ _ _ = den (d + 9) 193 99 _ _ _
  rw [b193_25, namM (d + 1) _ _ _ hk m3 m4]
  simp only [ret9]
  rw [b193_29, bi1 ⟨hs, he⟩, if_pos (by decide), JM_15, tldM (d + 8) I J (TF T b) b Y s14 (by omega) h1 hw (hk.2.1 hs), bi0 htl]
  simp only [ret9]
  rw [b193_49, if_pos rfl, MM_g12, h1, if_pos (show ¬ nn r = 6 from fun q => by have := (nn_inj (b := 6) (by omega) (by omega)).mp q; omega), if_pos (nn_inR hr (by omega)), nn_idx (by omega), JM_15, JM_u, e2]
  simp only [ret9]
theorem rf13 (hk : TKE s u e) (hs : s = 2) (he : e = 0) {r : Nat} (hr : r ≤ 6) (h1 : Y 1 0 = nn r) {w : Nat → WD} (hw : ∀ i, i < r → WDok (w i) ∧ nm i = ll (wdR (w i))) (htl : TLD w r u) : RF f n b Q1 Gt Y nm j k s u v c 3 := by
  intro d I J T s14 y hf h9 hm _
  obtain ⟨m1, m2, m3, m4, m5, m6⟩ := hm
  have ey := m4 hs
  subst ey
  refine ⟨Y, s14, ?_, fun x hx => rfl⟩
  show den (d + 9) 193 25 _ _ _ = _
  rw [b193_25, namM (d + 1) _ _ _ hk m3 m4]
  simp only [ret9]
  rw [b193_29, bi1 ⟨hs, he⟩, if_pos (by decide), JM_15, tldM (d + 8) I J (TF T b) b Y s14 (by omega) h1 hw (hk.2.1 hs), bi1 htl]
  simp only [ret9]
  rw [b193_49, if_neg (by decide), stopM, m2]
  simp only [ret9]
  rw [b193_57]
theorem rf15 (hk : TKE s u e) (hs : s = 2) (he : e = 0) {r : Nat} (hr : r = 6) (h1 : Y 1 0 = nn r) {w : Nat → WD} (hw : ∀ i, i < r → WDok (w i) ∧ nm i = ll (wdR (w i))) (htl : ¬ TLD w r u) : RF f n b Q1 Gt Y nm j k s u v c 5 := by
  intro d I J T s14 y hf h9 hm _
  obtain ⟨m1, m2, m3, m4, m5, m6⟩ := hm
  have ey := m4 hs
  subst ey
  refine ⟨Y, s14, ?_, fun x hx => rfl⟩
  show den (d + 9) 193 25 _ _ _ = _
  rw [b193_25, namM (d + 1) _ _ _ hk m3 m4]
  simp only [ret9]
  rw [b193_29, bi1 ⟨hs, he⟩, if_pos (by decide), JM_15, tldM (d + 8) I J (TF T b) b Y s14 (by omega) h1 hw (hk.2.1 hs), bi0 htl]
  simp only [ret9]
  rw [b193_49, if_pos rfl, MM_g12, h1, hr, if_neg (fun q => q rfl), stopM, m2]
  simp only [ret9]
  rw [b193_75]
theorem rf2 (hk : TKE s u e) (he : ¬ e = 2) : RF f n b Q2 Gt Y nm j k s u v c 1 := by
  intro d I J T s14 y hf h9 hm _
  obtain ⟨m1, m2, m3, m4, m5, m6⟩ := hm
  refine ⟨Y, s14, ?_, fun x hx => rfl⟩
  show den (d + 9) 193 99 _ _ _ = _
  rw [b193_99, isWM (d + 3) _ _ _ hk m3 m4 (w := 2) (by omega) (by omega)]
  simp only [ret9]
  rw [b193_105, bi0 he, if_neg (by decide), stopM, m2]
  simp only [ret9]
  rw [b193_113]
theorem MTK_w {s14 : Nat → Int32} {y : Int64} {a : Nat} {x : Int32} (ha : 20 ≤ a) (h : MTK s14 y j k s u v c) : MTK (wu s14 a x) y j k s u v c := by
  have e : ∀ i, i < 20 → wu s14 a x i = s14 i := fun i hi => by unfold wu; rw [if_neg (by omega)]
  unfold MTK at h ⊢
  rw [e 10 (by omega), e 12 (by omega), e 11 (by omega), e 14 (by omega), e 13 (by omega)]
  exact h
theorem rt23 (hb : ∀ x, -128 ≤ f x ∧ f x ≤ 127) (hn : n ≤ 500) (hk : TKE s u e) (he : e = 2) (ht : TOK f n k j' k' s' u' v' c') : RT f n b Q2 Gt Y nm j k s u v c Q3 (Gd 0 0) (bgY Y 0 0) nm j' k' s' u' v' c' := by
  intro d I J T s14 y hf h9 hm _
  obtain ⟨m1, m2, m3, m4, m5, m6⟩ := hm
  obtain ⟨s2, y2, e2, q2, o2⟩ := nxM (d + 7) I J (TF T b) b Y s14 nm hf hb hn ht y h9 m1
  refine ⟨wu (wu s2 20 0) 21 0, y2, ?_, MTK_w (by omega) (MTK_w (by omega) q2), ⟨rfl, rfl⟩, fun x hx => ?_⟩
  · show den (d + 9) 193 99 _ _ _ = K7 d _
    rw [b193_99, isWM (d + 3) _ _ _ hk m3 m4 (w := 2) (by omega) (by omega)]
    simp only [ret9]
    rw [b193_105, bi1 he, if_pos (by decide), e2]
    simp only [ret9]
    rw [b193_118, c207, MM_14, MM_14, begM (d + 7) I _ (TF T b) b Y (wu (wu s2 20 0) 21 0) (op := 0) rfl (by omega)]
    simp only [ret9]
    rw [b207_15]
    rfl
  · unfold wu
    rw [if_neg (by omega), if_neg (by omega)]
    exact o2 x (by omega)
end RTS
