/-! The book: the reference, behind a factor -/
theorem biand (p : Prop) : bi p &&& 1 = bi p := by
  by_cases h : p
  · rw [bi1 h]; rfl
  · rw [bi0 h]; rfl
section RTW
variable (d : Nat) (I : PI) (J : PJ) (T : TL) (b : Nat) (Y : X2) (s14 : Nat → Int32) {y : Int64} {j k s : Nat} {u : WD} {v : Nat} {c : Int32} {op r len : Nat}
theorem s213_0 (h20 : s14 20 = nn op) (hop : op ≤ 5) (h1 : Y 1 0 = nn r) (hr : r < 6) (h3 : Y 3 r = nn len) (hl : Y 7 op = 0 ∨ len < 48) : den (d + 1) 213 0 [some (vr 14 0)] [] (MX (MM I b Y s14) J (TF T b)) = den (d + 1) 213 21 [some (vr 14 0)] [] (MX (MM I b (efY Y r len op) s14) J (TF T b)) := by
  have r6 : inR (nn op) 6 = true := nn_inR (by omega) (by omega)
  unfold efY
  rw [b213_0, MM_g14, h20, if_pos r6, nn_idx (by omega), MM_g38]
  by_cases z : Y 7 op = 0
  · rw [if_pos z, if_pos z]
  · rw [if_neg z, if_neg z, b213_12, addM d I J (TF T b) b Y s14 112 h1 hr h3 (hl.resolve_left z)]
    simp only [ret9]
theorem s213_21 (hs4 : s ≤ 4) (h11 : s14 11 = nn s) (h13 : s14 13 = if s = 4 then c else 0) (h20 : s14 20 = nn op) (hop : op ≤ 5) : den (d + 1) 213 21 [some (vr 14 0)] [] (MX (MM I b Y s14) J (TF T b)) = den (d + 1) 213 36 [some (vr 14 0)] [] (MX (MM I b (u2 Y 7 op (bi (s = 4 ∧ c = 42))) s14) J (TF T b)) := by
  have r6 : inR (nn op) 6 = true := nn_inR (by omega) (by omega)
  rw [b213_21, sgnM d _ _ _ hs4 h11 h13 42]
  simp only [ret9]
  rw [b213_35, MM_g14, h20, if_pos r6, nn_idx (by omega), MM_38, biand]
theorem s213_36 (h20 : s14 20 = nn op) (hop : op ≤ 5) : den d 213 36 [some (vr 14 0)] [] (MX (MM I b Y s14) J (TF T b)) = (if Y 7 op = 0 then den d 213 54 [some (vr 14 0)] [] (MX (MM I b Y s14) J (TF T b)) else den d 213 48 [some (vr 14 0)] [] (MX (MM I b Y s14) J (TF T b))) := by
  rw [b213_36, MM_g14, h20, if_pos (nn_inR (by omega) (by omega)), nn_idx (by omega), MM_g38]
theorem s213_54 (h20 : s14 20 = nn op) (hop : op ≤ 5) (h1 : Y 1 0 = nn r) (hr : r < 6) (h3 : Y 3 r = nn len) (hl : Y 6 op = 0 ∨ len < 48) : den (d + 1) 213 54 [some (vr 14 0)] [] (MX (MM I b Y s14) J (TF T b)) = den (d + 1) 213 82 [some (vr 14 0)] [] (MX (MM I b (etY Y r len op) s14) J (TF T b)) := by
  have r6 : inR (nn op) 6 = true := nn_inR (by omega) (by omega)
  unfold etY
  rw [b213_54, MM_g14, h20, if_pos r6, nn_idx (by omega), MM_g21w]
  by_cases z : Y 6 op = 0
  · rw [if_pos z, if_pos z]
  · rw [if_neg z, if_neg z, b213_66, MM_g14, h20, if_pos r6, nn_idx (by omega), MM_g21w, addM d I J (TF T b) b Y s14 (Y 6 op) h1 hr h3 (hl.resolve_left z)]
    simp only [ret9]
/-- what a term's sign leaves waiting -/
noncomputable def wsg (s : Nat) (c : Int32) : Int32 := if bi (s = 4 ∧ c = 43) = 1 then 110 else if bi (s = 4 ∧ c = 45) = 1 then 111 else 0
theorem s213_82 (hs4 : s ≤ 4) (h11 : s14 11 = nn s) (h13 : s14 13 = if s = 4 then c else 0) (h20 : s14 20 = nn op) (hop : op ≤ 5) : den (d + 1) 213 82 [some (vr 14 0)] [] (MX (MM I b Y s14) J (TF T b)) = den (d + 1) 213 120 [some (vr 14 0)] [] (MX (MM I b (u2 Y 6 op (wsg s c)) s14) J (TF T b)) := by
  have r6 : inR (nn op) 6 = true := nn_inR (by omega) (by omega)
  rw [b213_82, sgnM d _ _ _ hs4 h11 h13 43]
  simp only [ret9]
  unfold wsg
  rw [b213_96, MM_g14, h20]
  by_cases z : s = 4 ∧ c = 43
  · rw [bi1 z, if_neg (by decide), b213_99, b213_119, if_pos r6, nn_idx (by omega), MM_21w, if_pos rfl]
  · rw [bi0 z, if_pos rfl, b213_104, sgnM d _ _ _ hs4 h11 h13 45, if_neg (by decide)]
    simp only [ret9]
    rw [b213_110]
    by_cases z2 : s = 4 ∧ c = 45
    · rw [bi1 z2, if_neg (by decide), b213_113, b213_119, if_pos r6, nn_idx (by omega), MM_21w, if_pos rfl]
    · rw [bi0 z2, if_pos rfl, b213_118, b213_119, if_pos r6, nn_idx (by omega), MM_21w, if_neg (by decide)]
theorem s213_120 (h20 : s14 20 = nn op) (hop : op ≤ 5) : den d 213 120 [some (vr 14 0)] [] (MX (MM I b Y s14) J (TF T b)) = (if Y 6 op = 0 then den d 213 138 [some (vr 14 0)] [] (MX (MM I b Y s14) J (TF T b)) else den d 213 132 [some (vr 14 0)] [] (MX (MM I b Y s14) J (TF T b))) := by
  rw [b213_120, MM_g14, h20, if_pos (nn_inR (by omega) (by omega)), nn_idx (by omega), MM_g21w]
/-- behind a star's missing, up to where the term's sign is told -/
theorem s213 (hs4 : s ≤ 4) (h11 : s14 11 = nn s) (h13 : s14 13 = if s = 4 then c else 0) (h20 : s14 20 = nn op) (hop : op ≤ 5) (h1 : Y 1 0 = nn r) (hr : r < 6) (h3 : Y 3 r = nn len) (hl : Y 7 op = 0 ∨ len < 48) (hns : ¬ (s = 4 ∧ c = 42)) {Ye : X2} (hYe : u2 (efY Y r len op) 7 op 0 = Ye) {len1 : Nat} (g1 : Ye 1 0 = nn r) (g3 : Ye 3 r = nn len1) (gl : Ye 6 op = 0 ∨ len1 < 48) : den (d + 1) 213 0 [some (vr 14 0)] [] (MX (MM I b Y s14) J (TF T b)) = den (d + 1) 213 120 [some (vr 14 0)] [] (MX (MM I b (u2 (etY Ye r len1 op) 6 op (wsg s c)) s14) J (TF T b)) := by
  rw [s213_0 d I J T b Y s14 h20 hop h1 hr h3 hl, s213_21 d I J T b _ s14 hs4 h11 h13 h20 hop, bi0 hns, hYe, s213_36 (d + 1) I J T b _ s14 h20 hop, if_pos (show Ye 7 op = 0 by rw [← hYe, u2_at]), s213_54 d I J T b _ s14 h20 hop g1 hr g3 gl, s213_82 d I J T b _ s14 hs4 h11 h13 h20 hop]
theorem K13_0 (d : Nat) (I : PI) (J : PJ) (T : TL) : K7 d (K13 d (some (.inl (some (vi 0)), MX I J T))) = Q3 d (MX I J T) := by
  show K7 d (den (d + 8) 207 35 _ _ _) = _
  rw [b207_35, if_neg (fun q => q rfl)]
  rfl
theorem K13_1 (d : Nat) (I : PI) (J : PJ) (T : TL) (b : Nat) : K7 d (K13 d (some (.inl (some (vi 1)), MX I J (TF T b)))) = ret9 (den (d + 9) 193) 193 138 141 [some (vr 14 0), some (vi 1)] [] (cal (d + 8) 210 [vr 14 0, vi 59] (MX (up3 I 12 b 0 ((I 12 b 0) + 1)) J (TF T b))) := by
  show K7 d (den (d + 8) 207 35 _ _ _) = _
  rw [b207_35, if_pos (by decide), b207_17, if_pos rfl]
  show den (d + 9) 193 122 _ _ _ = _
  rw [b193_122]
end RTW
/-- the reference is through -/
def RE (f : Nat → Int32) (n b : Nat) (K : Nat → Mem → Option Res9) (G : (Nat → Int32) → Prop) (Y : X2) (nm : Nat → Int64) (j k s : Nat) (u : WD) (v : Nat) (c : Int32) (Y' : X2) : Prop := ∀ (d : Nat) (I : PI) (J : PJ) (T : TL) (s14 : Nat → Int32) (y : Int64), I 37 1 = f → s14 9 = nn n → MTK s14 y j k s u v c → G s14 → ∃ s14' : Nat → Int32, K d (MX (MM I b Y s14) (JM J b nm y) (TF T b)) = some (.inl none, MX (MM I b Y' s14') (JM J b nm y) (TF T b)) ∧ ∀ x, ¬ (10 ≤ x ∧ x ≤ 21) → s14' x = s14 x
section RTX
variable {f : Nat → Int32} {n b : Nat} {Y Ye : X2} {nm : Nat → Int64} {j k s : Nat} {u : WD} {v : Nat} {c : Int32} {j' k' s' : Nat} {u' : WD} {v' : Nat} {c' : Int32} {op fac r len len1 : Nat}
theorem rt5_star (hb : ∀ x, -128 ≤ f x ∧ f x ≤ 127) (hn : n ≤ 500) (hs : s = 4 ∧ c = 42) (hop : op ≤ 5) (h1 : Y 1 0 = nn r) (hr : r < 6) (h3 : Y 3 r = nn len) (hl : Y 7 op = 0 ∨ len < 48) (hYe : u2 (efY Y r len op) 7 op 0 = Ye) (ht : TOK f n k j' k' s' u' v' c') : RT f n b Q5 (Gd op fac) Y nm j k s u v c Q3 (Gd op fac) (u2 Ye 7 op 1) nm j' k' s' u' v' c' := by
  intro d I J T s14 y hf h9 hm hG
  obtain ⟨m1, m2, m3, m4, m5, m6⟩ := hm
  obtain ⟨s2, y2, e2, q2, o2⟩ := nxM (d + 5) I J (TF T b) b (u2 Ye 7 op 1) s14 nm hf hb hn ht y h9 m1
  refine ⟨s2, y2, ?_, q2, Gd_o hG o2, fun x hx => o2 x (by omega)⟩
  have ey : u2 (efY Y r len op) 7 op 1 = u2 Ye 7 op 1 := by rw [← hYe, u2_u2]
  unfold Q5
  rw [s213_0 (d + 6) I _ T b Y s14 hG.1 hop h1 hr h3 hl, s213_21 (d + 6) I _ T b _ s14 (s := s) (c := c) (by omega) m3 m6 hG.1 hop, bi1 hs, ey, s213_36 (d + 7) I _ T b _ s14 hG.1 hop, if_neg (by rw [u2_at]; decide), b213_48, e2]
  simp only [ret9]
  rw [b213_52, K13_0]
theorem rt5_pm (hb : ∀ x, -128 ≤ f x ∧ f x ≤ 127) (hn : n ≤ 500) (hs : s = 4 ∧ (c = 43 ∨ c = 45)) (hop : op ≤ 5) (h1 : Y 1 0 = nn r) (hr : r < 6) (h3 : Y 3 r = nn len) (hl : Y 7 op = 0 ∨ len < 48) (hYe : u2 (efY Y r len op) 7 op 0 = Ye) (g1 : Ye 1 0 = nn r) (g3 : Ye 3 r = nn len1) (gl : Ye 6 op = 0 ∨ len1 < 48) (ht : TOK f n k j' k' s' u' v' c') : RT f n b Q5 (Gd op fac) Y nm j k s u v c Q3 (Gd op fac) (u2 (u2 (etY Ye r len1 op) 6 op 0) 6 op (if c = 43 then 110 else 111)) nm j' k' s' u' v' c' := by
  intro d I J T s14 y hf h9 hm hG
  obtain ⟨m1, m2, m3, m4, m5, m6⟩ := hm
  have ew : wsg s c = if c = 43 then 110 else 111 := by
    unfold wsg
    rcases hs.2 with z | z
    · rw [bi1 ⟨hs.1, z⟩, if_pos rfl, if_pos z]
    · have n1 : ¬ c = 43 := by rw [z]; decide
      rw [bi0 (fun q => n1 q.2), if_neg (by decide), bi1 ⟨hs.1, z⟩, if_pos rfl, if_neg n1]
  have w0 : ¬ (if c = 43 then (110 : Int32) else 111) = 0 := by
    by_cases z : c = 43
    · rw [if_pos z]; decide
    · rw [if_neg z]; decide
  rw [u2_u2]
  obtain ⟨s2, y2, e2, q2, o2⟩ := nxM (d + 5) I J (TF T b) b (u2 (etY Ye r len1 op) 6 op (if c = 43 then 110 else 111)) s14 nm hf hb hn ht y h9 m1
  refine ⟨s2, y2, ?_, q2, Gd_o hG o2, fun x hx => o2 x (by omega)⟩
  have ns : ¬ (s = 4 ∧ c = 42) := by
    rcases hs.2 with z | z <;> (rw [z]; exact fun q => absurd q.2 (by decide))
  unfold Q5
  rw [s213 (d + 6) I _ T b Y s14 (s := s) (c := c) (by omega) m3 m6 hG.1 hop h1 hr h3 hl ns hYe g1 g3 gl, ew, s213_120 (d + 7) I _ T b _ s14 hG.1 hop, if_neg (by rw [u2_at]; exact w0), b213_132, e2]
  simp only [ret9]
  rw [b213_136, K13_0]
theorem wsg0 (h : ¬ (s = 4 ∧ (c = 43 ∨ c = 45))) : wsg s c = 0 := by
  unfold wsg
  rw [bi0 (fun q => h ⟨q.1, .inl q.2⟩), if_neg (by decide), bi0 (fun q => h ⟨q.1, .inr q.2⟩), if_neg (by decide)]
/-- no star, no plus, no minus -/
theorem s213z (d : Nat) (I : PI) (J : PJ) (T : TL) (s14 : Nat → Int32) (hs4 : s ≤ 4) (h11 : s14 11 = nn s) (h13 : s14 13 = if s = 4 then c else 0) (h20 : s14 20 = nn op) (hop : op ≤ 5) (h1 : Y 1 0 = nn r) (hr : r < 6) (h3 : Y 3 r = nn len) (hl : Y 7 op = 0 ∨ len < 48) (hns : ¬ (s = 4 ∧ (c = 42 ∨ c = 43 ∨ c = 45))) (hYe : u2 (efY Y r len op) 7 op 0 = Ye) (g1 : Ye 1 0 = nn r) (g3 : Ye 3 r = nn len1) (gl : Ye 6 op = 0 ∨ len1 < 48) {Yt : X2} (hYt : u2 (etY Ye r len1 op) 6 op 0 = Yt) : den (d + 1) 213 0 [some (vr 14 0)] [] (MX (MM I b Y s14) J (TF T b)) = den (d + 1) 213 138 [some (vr 14 0)] [] (MX (MM I b Yt s14) J (TF T b)) := by
  rw [s213 d I J T b Y s14 hs4 h11 h13 h20 hop h1 hr h3 hl (fun q => hns ⟨q.1, .inl q.2⟩) hYe g1 g3 gl, wsg0 (fun q => hns ⟨q.1, .inr q.2⟩), hYt, s213_120 (d + 1) I J T b _ s14 h20 hop, if_pos (by rw [← hYt, u2_at])]
variable {Yt : X2}
theorem q5_0 (d : Nat) (I : PI) (J : PJ) (T : TL) (s14 : Nat → Int32) (hs4 : s ≤ 4) (h11 : s14 11 = nn s) (h13 : s14 13 = if s = 4 then c else 0) (h20 : s14 20 = nn 0) (h1 : Y 1 0 = nn r) (hr : r < 6) (h3 : Y 3 r = nn len) (hl : Y 7 0 = 0 ∨ len < 48) (hns : ¬ (s = 4 ∧ (c = 42 ∨ c = 43 ∨ c = 45))) (hYe : u2 (efY Y r len 0) 7 0 0 = Ye) (g1 : Ye 1 0 = nn r) (g3 : Ye 3 r = nn len1) (gl : Ye 6 0 = 0 ∨ len1 < 48) (hYt : u2 (etY Ye r len1 0) 6 0 0 = Yt) (t1 : Yt 1 0 = nn r) : Q5 d (MX (MM I b Y s14) J (TF T b)) = den (d + 9) 193 141 [some (vr 14 0), some (vi 1)] [vi (bi (s = 4 ∧ c = 59))] (MX (MM I b (u2 Yt 1 0 (nn (r + 1))) s14) J (TF T b)) := by
  unfold Q5
  rw [s213z (d + 6) I J T s14 (s := s) (c := c) hs4 h11 h13 h20 (by omega) h1 hr h3 hl hns hYe g1 g3 gl hYt, b213_138, MM_g14, h20, if_neg (fun q => q rfl), b213_145, K13_1, MM_g12, t1, nn_add1, MM_12, sgnM (d + 8) _ _ _ hs4 h11 h13 59]
  simp only [ret9]
theorem rt5_semi (hb : ∀ x, -128 ≤ f x ∧ f x ≤ 127) (hn : n ≤ 500) (hs : s = 4 ∧ c = 59) (h1 : Y 1 0 = nn r) (hr : r < 6) (h3 : Y 3 r = nn len) (hl : Y 7 0 = 0 ∨ len < 48) (hYe : u2 (efY Y r len 0) 7 0 0 = Ye) (g1 : Ye 1 0 = nn r) (g3 : Ye 3 r = nn len1) (gl : Ye 6 0 = 0 ∨ len1 < 48) (hYt : u2 (etY Ye r len1 0) 6 0 0 = Yt) (t1 : Yt 1 0 = nn r) (ht : TOK f n k j' k' s' u' v' c') : RT f n b Q5 (Gd 0 fac) Y nm j k s u v c Q0 Gt (u2 Yt 1 0 (nn (r + 1))) nm j' k' s' u' v' c' := by
  intro d I J T s14 y hf h9 hm hG
  obtain ⟨m1, m2, m3, m4, m5, m6⟩ := hm
  obtain ⟨s2, y2, e2, q2, o2⟩ := nxM (d + 7) I J (TF T b) b (u2 Yt 1 0 (nn (r + 1))) s14 nm hf hb hn ht y h9 m1
  refine ⟨s2, y2, ?_, q2, True.intro, fun x hx => o2 x (by omega)⟩
  rw [q5_0 d I _ T s14 (s := s) (c := c) (by omega) m3 m6 hG.1 h1 hr h3 hl (fun q => by rw [hs.2] at q; exact absurd q.2 (by decide)) hYe g1 g3 gl hYt t1, bi1 hs, b193_141, if_neg (by decide), e2]
  simp only [ret9]
  rw [b193_150]
  rfl
theorem re5 (hs : s = 1) (h1 : Y 1 0 = nn r) (hr : r < 6) (h3 : Y 3 r = nn len) (hl : Y 7 0 = 0 ∨ len < 48) (hYe : u2 (efY Y r len 0) 7 0 0 = Ye) (g1 : Ye 1 0 = nn r) (g3 : Ye 3 r = nn len1) (gl : Ye 6 0 = 0 ∨ len1 < 48) (hYt : u2 (etY Ye r len1 0) 6 0 0 = Yt) (t1 : Yt 1 0 = nn r) : RE f n b Q5 (Gd 0 fac) Y nm j k s u v c (u2 Yt 1 0 (nn (r + 1))) := by
  intro d I J T s14 y hf h9 hm hG
  obtain ⟨m1, m2, m3, m4, m5, m6⟩ := hm
  refine ⟨s14, ?_, fun x hx => rfl⟩
  rw [q5_0 d I _ T s14 (s := s) (c := c) (by omega) m3 m6 hG.1 h1 hr h3 hl (fun q => by omega) hYe g1 g3 gl hYt t1, bi0 (fun q => by omega), b193_141, if_pos rfl, b193_2, if_pos rfl, MM_g14, m3, if_pos (show nn s = 1 by rw [hs]; rfl)]
theorem rf5_0 (hs4 : s ≤ 4) (hs : ¬ s = 1) (hns : ¬ (s = 4 ∧ (c = 42 ∨ c = 43 ∨ c = 45))) (h59 : ¬ (s = 4 ∧ c = 59)) (h1 : Y 1 0 = nn r) (hr : r < 6) (h3 : Y 3 r = nn len) (hl : Y 7 0 = 0 ∨ len < 48) (hYe : u2 (efY Y r len 0) 7 0 0 = Ye) (g1 : Ye 1 0 = nn r) (g3 : Ye 3 r = nn len1) (gl : Ye 6 0 = 0 ∨ len1 < 48) (hYt : u2 (etY Ye r len1 0) 6 0 0 = Yt) (t1 : Yt 1 0 = nn r) : RF f n b Q5 (Gd 0 fac) Y nm j k s u v c 1 := by
  intro d I J T s14 y hf h9 hm hG
  obtain ⟨m1, m2, m3, m4, m5, m6⟩ := hm
  refine ⟨u2 Yt 1 0 (nn (r + 1)), s14, ?_, fun x hx => rfl⟩
  rw [q5_0 d I _ T s14 (s := s) (c := c) hs4 m3 m6 hG.1 h1 hr h3 hl hns hYe g1 g3 gl hYt t1, bi0 h59, b193_141, if_pos rfl, b193_2, if_pos rfl, MM_g14, m3, if_neg (show ¬ nn s = 1 from fun q => hs ((nn_inj (b := 1) (by omega) (by omega)).mp q)), stopM, m2]
  simp only [ret9]
  rw [b193_166]
/-- inside a bracket -/
theorem q5_1 (d : Nat) (I : PI) (J : PJ) (T : TL) (s14 : Nat → Int32) (hs4 : s ≤ 4) (h11 : s14 11 = nn s) (h13 : s14 13 = if s = 4 then c else 0) (h20 : s14 20 = nn op) (hop : op ≤ 5) (ho1 : 1 ≤ op) (h1 : Y 1 0 = nn r) (hr : r < 6) (h3 : Y 3 r = nn len) (hl : Y 7 op = 0 ∨ len < 48) (hns : ¬ (s = 4 ∧ (c = 42 ∨ c = 43 ∨ c = 45))) (hYe : u2 (efY Y r len op) 7 op 0 = Ye) (g1 : Ye 1 0 = nn r) (g3 : Ye 3 r = nn len1) (gl : Ye 6 op = 0 ∨ len1 < 48) (hYt : u2 (etY Ye r len1 op) 6 op 0 = Yt) : (¬ Yt 4 op = 0 → Yt 5 op = 0 → den (d + 1) 213 0 [some (vr 14 0)] [] (MX (MM I b Y s14) J (TF T b)) = den (d + 1) 213 177 [some (vr 14 0)] [vi (bi (s = 4 ∧ c = 44))] (MX (MM I b Yt s14) J (TF T b))) ∧ ((Yt 4 op = 0 ∨ ¬ Yt 5 op = 0) → den (d + 1) 213 0 [some (vr 14 0)] [] (MX (MM I b Y s14) J (TF T b)) = den (d + 1) 213 208 [some (vr 14 0)] [vi (bi (s = 4 ∧ c = 41))] (MX (MM I b Yt s14) J (TF T b))) := by
  have r6 : inR (nn op) 6 = true := nn_inR (by omega) (by omega)
  have n0 : ¬ nn op = 0 := by rw [eq0n (by omega)]; omega
  have st : den (d + 1) 213 0 [some (vr 14 0)] [] (MX (MM I b Y s14) J (TF T b)) = (if Yt 4 op = 0 then den (d + 1) 213 202 [some (vr 14 0)] [] (MX (MM I b Yt s14) J (TF T b)) else den (d + 1) 213 159 [some (vr 14 0)] [] (MX (MM I b Yt s14) J (TF T b))) := by
    rw [s213z d I J T s14 (s := s) (c := c) hs4 h11 h13 h20 hop h1 hr h3 hl hns hYe g1 g3 gl hYt, b213_138, MM_g14, h20, if_pos n0, b213_147, MM_g14, h20, if_pos r6, nn_idx (by omega), MM_g21b]
  have s159 : den (d + 1) 213 159 [some (vr 14 0)] [] (MX (MM I b Yt s14) J (TF T b)) = (if ¬ Yt 5 op = 0 then den (d + 1) 213 202 [some (vr 14 0)] [] (MX (MM I b Yt s14) J (TF T b)) else den (d + 1) 213 171 [some (vr 14 0)] [] (MX (MM I b Yt s14) J (TF T b))) := by
    rw [b213_159, MM_g14, h20, if_pos r6, nn_idx (by omega), MM_g21h]
  have s202 : den (d + 1) 213 202 [some (vr 14 0)] [] (MX (MM I b Yt s14) J (TF T b)) = den (d + 1) 213 208 [some (vr 14 0)] [vi (bi (s = 4 ∧ c = 41))] (MX (MM I b Yt s14) J (TF T b)) := by
    rw [b213_202, sgnM d _ _ _ hs4 h11 h13 41]
    simp only [ret9]
  constructor
  · intro z4 z5
    rw [st, if_neg z4, s159, if_neg (fun q => q z5), b213_171, sgnM d _ _ _ hs4 h11 h13 44]
    simp only [ret9]
  · intro z
    by_cases z4 : Yt 4 op = 0
    · rw [st, if_pos z4, s202]
    · rw [st, if_neg z4, s159, if_pos (z.resolve_left z4), s202]
theorem rt5_comma (hb : ∀ x, -128 ≤ f x ∧ f x ≤ 127) (hn : n ≤ 500) (hs : s = 4 ∧ c = 44) (hop : op ≤ 5) (ho1 : 1 ≤ op) (h1 : Y 1 0 = nn r) (hr : r < 6) (h3 : Y 3 r = nn len) (hl : Y 7 op = 0 ∨ len < 48) (hYe : u2 (efY Y r len op) 7 op 0 = Ye) (g1 : Ye 1 0 = nn r) (g3 : Ye 3 r = nn len1) (gl : Ye 6 op = 0 ∨ len1 < 48) (hYt : u2 (etY Ye r len1 op) 6 op 0 = Yt) (z4 : ¬ Yt 4 op = 0) (z5 : Yt 5 op = 0) (ht : TOK f n k j' k' s' u' v' c') : RT f n b Q5 (Gd op fac) Y nm j k s u v c Q3 (Gd op fac) (u2 Yt 5 op 1) nm j' k' s' u' v' c' := by
  intro d I J T s14 y hf h9 hm hG
  obtain ⟨m1, m2, m3, m4, m5, m6⟩ := hm
  obtain ⟨s2, y2, e2, q2, o2⟩ := nxM (d + 5) I J (TF T b) b Yt s14 nm hf hb hn ht y h9 m1
  refine ⟨s2, y2, ?_, q2, Gd_o hG o2, fun x hx => o2 x (by omega)⟩
  unfold Q5
  rw [(q5_1 (d + 6) I _ T s14 (s := s) (c := c) (by omega) m3 m6 hG.1 hop ho1 h1 hr h3 hl (fun q => by rw [hs.2] at q; exact absurd q.2 (by decide)) hYe g1 g3 gl hYt).1 z4 z5, bi1 hs, b213_177, if_pos (by decide), b213_186, e2]
  simp only [ret9]
  rw [b213_190, MM_g14, (o2 20 (by omega)).trans hG.1, if_pos (nn_inR (by omega) (by omega)), nn_idx (by omega), MM_21h, b213_200, K13_0]
theorem rf5_comma (hs4 : s ≤ 4) (hns : ¬ (s = 4 ∧ (c = 42 ∨ c = 43 ∨ c = 45))) (hs : ¬ (s = 4 ∧ c = 44)) (hop : op ≤ 5) (ho1 : 1 ≤ op) (h1 : Y 1 0 = nn r) (hr : r < 6) (h3 : Y 3 r = nn len) (hl : Y 7 op = 0 ∨ len < 48) (hYe : u2 (efY Y r len op) 7 op 0 = Ye) (g1 : Ye 1 0 = nn r) (g3 : Ye 3 r = nn len1) (gl : Ye 6 op = 0 ∨ len1 < 48) (hYt : u2 (etY Ye r len1 op) 6 op 0 = Yt) (z4 : ¬ Yt 4 op = 0) (z5 : Yt 5 op = 0) : RF f n b Q5 (Gd op fac) Y nm j k s u v c 1 := by
  intro d I J T s14 y hf h9 hm hG
  obtain ⟨m1, m2, m3, m4, m5, m6⟩ := hm
  refine ⟨Yt, s14, ?_, fun x hx => rfl⟩
  unfold Q5
  rw [(q5_1 (d + 6) I _ T s14 (s := s) (c := c) hs4 m3 m6 hG.1 hop ho1 h1 hr h3 hl hns hYe g1 g3 gl hYt).1 z4 z5, bi0 hs, b213_177, if_neg (by decide), b213_180, stopM, m2]
  simp only [ret9]
  rw [b213_185]
  rfl
theorem rt5_close (hb : ∀ x, -128 ≤ f x ∧ f x ≤ 127) (hn : n ≤ 500) (hs : s = 4 ∧ c = 41) (hop : op ≤ 5) (ho1 : 1 ≤ op) (h1 : Y 1 0 = nn r) (hr : r < 6) (h3 : Y 3 r = nn len) (hl : Y 7 op = 0 ∨ len < 48) (hYe : u2 (efY Y r len op) 7 op 0 = Ye) (g1 : Ye 1 0 = nn r) (g3 : Ye 3 r = nn len1) (gl : Ye 6 op = 0 ∨ len1 < 48) (hYt : u2 (etY Ye r len1 op) 6 op 0 = Yt) (t1 : Yt 1 0 = nn r) {len2 : Nat} (t3 : Yt 3 r = nn len2) (tl : Yt 4 op = 0 ∨ len2 < 48) (z : Yt 4 op = 0 ∨ ¬ Yt 5 op = 0) (ht : TOK f n k j' k' s' u' v' c') : RT f n b Q5 (Gd op fac) Y nm j k s u v c Q5 (Gd (op - 1) fac) (if Yt 4 op = 0 then Yt else pY Yt r len2 (Yt 4 op)) nm j' k' s' u' v' c' := by
  intro d I J T s14 y hf h9 hm hG
  obtain ⟨m1, m2, m3, m4, m5, m6⟩ := hm
  obtain ⟨s2, y2, e2, q2, o2⟩ := nxM (d + 5) I J (TF T b) b Yt s14 nm hf hb hn ht y h9 m1
  have g20 : s2 20 = nn op := (o2 20 (by omega)).trans hG.1
  have r6 : inR (nn op) 6 = true := nn_inR (by omega) (by omega)
  have es : nn op - 1 = nn (op - 1) := nn_sub (b := 1) ho1
  refine ⟨wu s2 20 (nn (op - 1)), y2, ?_, MTK_w (by omega) q2, ⟨rfl, (o2 21 (by omega)).trans hG.2⟩, fun x hx => by unfold wu; rw [if_neg (by omega)]; exact o2 x (by omega)⟩
  unfold Q5
  rw [(q5_1 (d + 6) I _ T s14 (s := s) (c := c) (by omega) m3 m6 hG.1 hop ho1 h1 hr h3 hl (fun q => by rw [hs.2] at q; exact absurd q.2 (by decide)) hYe g1 g3 gl hYt).2 z, bi1 hs, b213_208, if_pos (by decide), b213_217, e2]
  simp only [ret9]
  rw [b213_221, MM_g14, g20, if_pos r6, nn_idx (by omega), MM_g21b]
  by_cases z4 : Yt 4 op = 0
  · rw [if_pos z4, if_pos z4, b213_249, MM_g14, g20, es, MM_14]
  · rw [if_neg z4, if_neg z4, b213_233, MM_g14, g20, if_pos r6, nn_idx (by omega), MM_g21b, addM (d + 6) I _ (TF T b) b Yt s2 (Yt 4 op) t1 hr t3 (tl.resolve_left z4)]
    simp only [ret9]
    rw [b213_249, MM_g14, g20, es, MM_14]
theorem rf5_close (hs4 : s ≤ 4) (hns : ¬ (s = 4 ∧ (c = 42 ∨ c = 43 ∨ c = 45))) (hs : ¬ (s = 4 ∧ c = 41)) (hop : op ≤ 5) (ho1 : 1 ≤ op) (h1 : Y 1 0 = nn r) (hr : r < 6) (h3 : Y 3 r = nn len) (hl : Y 7 op = 0 ∨ len < 48) (hYe : u2 (efY Y r len op) 7 op 0 = Ye) (g1 : Ye 1 0 = nn r) (g3 : Ye 3 r = nn len1) (gl : Ye 6 op = 0 ∨ len1 < 48) (hYt : u2 (etY Ye r len1 op) 6 op 0 = Yt) (z : Yt 4 op = 0 ∨ ¬ Yt 5 op = 0) : RF f n b Q5 (Gd op fac) Y nm j k s u v c 1 := by
  intro d I J T s14 y hf h9 hm hG
  obtain ⟨m1, m2, m3, m4, m5, m6⟩ := hm
  refine ⟨Yt, s14, ?_, fun x hx => rfl⟩
  unfold Q5
  rw [(q5_1 (d + 6) I _ T s14 (s := s) (c := c) hs4 m3 m6 hG.1 hop ho1 h1 hr h3 hl hns hYe g1 g3 gl hYt).2 z, bi0 hs, b213_208, if_neg (by decide), b213_211, stopM, m2]
  simp only [ret9]
  rw [b213_216]
  rfl
end RTX
