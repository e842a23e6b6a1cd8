/-! The book: both read it, token by token -/
def CTt (n : Nat) (X : X2) (nc : Nat → Int64) (j k s : Nat) (u : WD) (v : Nat) (c : Int32) (X' : X2) (nc' : Nat → Int64) : Prop := ∀ (d : Nat) (I : PI) (J : PJ) (T : TL) (s8 : Nat → Int32) (y : Int64), CTK s8 y n j k s u v c → cal (d + 4) 32 [vr 7 0] (MX (CM I T.2.1 X s8) (JC J nc y) T) = some (.inl none, MX (CM I T.2.1 X' s8) (JC J nc' y) T)
def CRun (f : Nat → Int32) (n : Nat) (X : X2) (nc : Nat → Int64) (i m : Nat) (Xf : X2) (ncf : Nat → Int64) (rr : Int32) : Prop := ∀ (d : Nat) (I : PI) (J : PJ) (T : TL) (s8 : Nat → Int32) (y : Int64) (x1 : Int32) (x2 : Nat), I 37 0 = f → s8 1 = nn n → s8 2 = nn i → x2 ≤ m → ∃ (s8' : Nat → Int32) (y' : Int64), den (d + 6) 21 32 [some (vr 7 0), some (vi x1), some (vi (nn x2))] [] (MX (CM I T.2.1 X s8) (JC J nc y) T) = some (.inl (some (vi rr)), MX (CM I T.2.1 Xf s8') (JC J ncf y') T)
def RRun (f : Nat → Int32) (n b : Nat) (K : Nat → Mem → Option Res9) (G : (Nat → Int32) → Prop) (Y : X2) (nm : Nat → Int64) (j k s : Nat) (u : WD) (v : Nat) (c : Int32) (P : X2 → Prop) (out : Option AV ⊕ (Nat × AV)) : Prop := ∀ (d : Nat) (I : PI) (J : PJ) (T : TL) (s14 : Nat → Int32) (y : Int64), I 37 1 = f → s14 9 = nn n → MTK s14 y j k s u v c → G s14 → ∃ (Yf : X2) (nmf : Nat → Int64) (s14' : Nat → Int32) (y' : Int64), K d (MX (MM I b Y s14) (JM J b nm y) (TF T b)) = some (out, MX (MM I b Yf s14') (JM J b nmf y') (TF T b)) ∧ P Yf ∧ ∀ x, ¬ (10 ≤ x ∧ x ≤ 21) → s14' x = s14 x
/-- what both end with -/
def FNL (Xf : X2) (rr : Int32) (out : Option AV ⊕ (Nat × AV)) (Yf : X2) : Prop := (rr = 0 ∧ out = .inr (1, vr 13 0) ∧ Xf 0 3 = Yf 0 5 ∧ Xf 0 4 = Yf 0 6) ∨ (rr = 1 ∧ out = .inl none ∧ Xf 0 3 = 0 ∧ ∃ r, 1 ≤ r ∧ r ≤ 6 ∧ FIN Xf Yf r ∧ Xf 7 3 = nn r ∧ Yf 1 0 = nn r)
def JO (f : Nat → Int32) (n b : Nat) (K : Nat → Mem → Option Res9) (G : (Nat → Int32) → Prop) (X Y : X2) (nc nm : Nat → Int64) (i j k s : Nat) (u : WD) (v : Nat) (c : Int32) : Prop := ∃ (Xf : X2) (ncf : Nat → Int64) (rr : Int32) (out : Option AV ⊕ (Nat × AV)), CRun f n X nc i i Xf ncf rr ∧ RRun f n b K G Y nm j k s u v c (FNL Xf rr out) out
section JOS
variable {f : Nat → Int32} {n b : Nat} {X Y : X2} {nc nm : Nat → Int64} {i j k s : Nat} {u : WD} {v : Nat} {c : Int32}
theorem crun_step (hn : n ≤ 500) {X' : X2} {nc' : Nat → Int64} (hc : CTt n X nc j k s u v c X' nc') (h3 : X 0 3 = 0) (h5 : ¬ X 0 5 = 6) (ht : TOK f n i j k s u v c) {Xf : X2} {ncf : Nat → Int64} {rr : Int32} (hr : CRun f n X' nc' k (i + 1) Xf ncf rr) : CRun f n X nc i i Xf ncf rr := by
  intro d I J T s8 y x1 x2 hf h1 h2 hx
  have hij := TOK_b ht
  obtain ⟨s2, y2, e2, q2⟩ := advC (d + 3) (CI I T.2.1 X) (upA J 42 0 nc) T (f := f) (n := n) hf hn ht s8 y h1 h2
  obtain ⟨s3, y3, e3⟩ := hr d I J T s2 y2 x1 (x2 + 1) hf q2.1 q2.2.1 (by omega)
  refine ⟨s3, y3, ?_⟩
  have e2' : cal (d + 5) 26 [vr 8 0] (MX (CM I T.2.1 X s8) (JC J nc y) T) = some (.inl none, MX (CM I T.2.1 X s2) (JC J nc y2) T) := e2
  rw [b21_32, if_neg (show ¬ 500 < nn x2 by rw [show (500 : Int32) = nn 500 from rfl, nn_lt (by omega) (by omega)]; omega), CM_g7, CM_g7, h3, if_neg (fun q => q rfl), if_neg h5, e2']
  simp only [ret9]
  rw [b21_62, hc (d + 1) I J T s2 y2 q2]
  simp only [ret9]
  rw [b21_66, nn_add1]
  exact e3
theorem crun_mono {i m m' : Nat} (h : m' ≤ m) {Xf : X2} {ncf : Nat → Int64} {rr : Int32} (hr : CRun f n X nc i m Xf ncf rr) : CRun f n X nc i m' Xf ncf rr := fun d I J T s8 y x1 x2 hf h1 h2 hx => hr d I J T s8 y x1 x2 hf h1 h2 (by omega)
theorem crun_end0 (h3 : ¬ X 0 3 = 0) (m : Nat) : CRun f n X nc i m X nc 0 := by
  intro d I J T s8 y x1 x2 hf h1 h2 hx
  refine ⟨s8, y, ?_⟩
  rw [b21_32, CM_g7]
  by_cases z : 500 < nn x2
  · rw [if_pos z, if_pos h3]
  · rw [if_neg z, if_pos h3, if_pos h3]
theorem crun_end1 (h3 : X 0 3 = 0) (h5 : X 0 5 = 6) (m : Nat) : CRun f n X nc i m X nc 1 := by
  intro d I J T s8 y x1 x2 hf h1 h2 hx
  refine ⟨s8, y, ?_⟩
  rw [b21_32, CM_g7, CM_g7, h3]
  by_cases z : 500 < nn x2
  · rw [if_pos z, if_neg (fun q => q rfl)]
  · rw [if_neg z, if_neg (fun q => q rfl), if_pos h5, if_neg (fun q => q rfl)]
theorem jo_step (hn : n ≤ 500) {X' Y' : X2} {nc' nm' : Nat → Int64} {K K' : Nat → Mem → Option Res9} {G G' : (Nat → Int32) → Prop} {j' k' s' : Nat} {u' : WD} {v' : Nat} {c' : Int32} (hc : CTt n X nc j k s u v c X' nc') (h3 : X 0 3 = 0) (h5 : ¬ X 0 5 = 6) (ht : TOK f n i j k s u v c) (hik : i < k) (hr : RT f n b K G Y nm j k s u v c K' G' Y' nm' j' k' s' u' v' c') (hj : JO f n b K' G' X' Y' nc' nm' k j' k' s' u' v' c') : JO f n b K G X Y nc nm i j k s u v c := by
  obtain ⟨Xf, ncf, rr, out, j1, j2⟩ := hj
  refine ⟨Xf, ncf, rr, out, crun_step hn hc h3 h5 ht (crun_mono (by omega) j1), ?_⟩
  intro d I J T s14 y hf h9 hm hG
  obtain ⟨s2, y2, e2, q2, g2, o2⟩ := hr d I J T s14 y hf h9 hm hG
  obtain ⟨Yf, nmf, s3, y3, e3, p3, o3⟩ := j2 d I J T s2 y2 hf ((o2 9 (by omega)).trans h9) q2 g2
  exact ⟨Yf, nmf, s3, y3, e2.trans e3, p3, fun x hx => (o3 x hx).trans (o2 x hx)⟩
theorem jo_fault (hn : n ≤ 500) {X' : X2} {nc' : Nat → Int64} {K : Nat → Mem → Option Res9} {G : (Nat → Int32) → Prop} {kd : Int32} (hkd : ¬ kd = 0) (hc : CTt n X nc j k s u v c (flX X' kd (nn j)) nc') (h3 : X 0 3 = 0) (h5 : ¬ X 0 5 = 6) (ht : TOK f n i j k s u v c) (hr : RF f n b K G Y nm j k s u v c kd) : JO f n b K G X Y nc nm i j k s u v c := by
  refine ⟨flX X' kd (nn j), nc', 0, .inr (1, vr 13 0), crun_step hn hc h3 h5 ht (crun_end0 hkd _), ?_⟩
  intro d I J T s14 y hf h9 hm hG
  obtain ⟨Y', s2, e2, o2⟩ := hr d I J T s14 y hf h9 hm hG
  exact ⟨_, _, s2, y, e2, .inl ⟨rfl, rfl, rfl, rfl⟩, o2⟩
theorem jo_end (hn : n ≤ 500) {X' Y' : X2} {nc' : Nat → Int64} {K : Nat → Mem → Option Res9} {G : (Nat → Int32) → Prop} (hc : CTt n X nc j k s u v c X' nc') (h3 : X 0 3 = 0) (h5 : ¬ X 0 5 = 6) (ht : TOK f n i j k s u v c) (hr : RE f n b K G Y nm j k s u v c Y') (g3 : X' 0 3 = 0) (g5 : X' 0 5 = 6) (hF : ∃ r, 1 ≤ r ∧ r ≤ 6 ∧ FIN X' Y' r ∧ X' 7 3 = nn r ∧ Y' 1 0 = nn r) : JO f n b K G X Y nc nm i j k s u v c := by
  refine ⟨X', nc', 1, .inl none, crun_step hn hc h3 h5 ht (crun_end1 g3 g5 _), ?_⟩
  intro d I J T s14 y hf h9 hm hG
  obtain ⟨s2, e2, o2⟩ := hr d I J T s14 y hf h9 hm hG
  exact ⟨_, _, s2, y, e2, .inr ⟨rfl, rfl, g3, hF⟩, o2⟩
end JOS
/-- the states of both -/
def H0 (q : Int32) (X Y : X2) (nc nm : Nat → Int64) (r : Nat) : Prop := X 0 5 = q ∧ r ≤ 6 ∧ (r < 6 → Y 3 r = 0) ∧ BAS X Y nc nm r r
def H2 (X Y : X2) (nc nm : Nat → Int64) (r : Nat) : Prop := X 0 5 = 2 ∧ r < 6 ∧ Y 3 r = 0 ∧ BAS X Y nc nm r (r + 1) ∧ X 2 r = 0 ∧ X 0 6 = 0 ∧ X 0 12 = 0 ∧ X 5 0 = 0 ∧ X 3 0 = -1 ∧ X 4 0 = -1 ∧ X 6 0 = 0
def H3 (q : Int32) (X Y : X2) (nc nm : Nat → Int64) (r fac op len t v e : Nat) : Prop := X 0 5 = q ∧ r < 6 ∧ BAS X Y nc nm r (r + 1) ∧ CUR X Y r fac op len t v ∧ t = pSY Y op + e
def JP (f : Nat → Int32) (n b i : Nat) : Prop := ∀ (j k s : Nat) (u : WD) (v : Nat) (c : Int32), TOK f n i j k s u v c → (∀ X Y nc nm r, H0 0 X Y nc nm r → JO f n b Q0 Gt X Y nc nm i j k s u v c) ∧ (∀ X Y nc nm r, H0 1 X Y nc nm r → JO f n b Q1 Gt X Y nc nm i j k s u v c) ∧ (∀ X Y nc nm r, H2 X Y nc nm r → JO f n b Q2 Gt X Y nc nm i j k s u v c) ∧ (∀ X Y nc nm r fac op len t w, H3 3 X Y nc nm r fac op len t w 0 → JO f n b Q3 (Gd op fac) X Y nc nm i j k s u v c) ∧ (∀ act X Y nc nm r fac op len t w, (act = 113 ∨ act = 114) → X 0 7 = act - 6 → H3 4 X Y nc nm r fac op len t w 0 → JO f n b (Q4 act) (Gd op fac) X Y nc nm i j k s u v c) ∧ (∀ X Y nc nm r fac op len t w, H3 5 X Y nc nm r fac op len t w 1 → JO f n b Q5 (Gd op fac) X Y nc nm i j k s u v c)
section STP
variable {f : Nat → Int32} {n b : Nat} {X Y : X2} {nc nm : Nat → Int64} {i j k s : Nat} {u : WD} {v : Nat} {c : Int32} {e : Nat}
theorem jst0 (hb : ∀ x, -128 ≤ f x ∧ f x ≤ 127) (hn : n ≤ 500) (hP : ∀ k, i < k → k ≤ n → JP f n b k) (ht : TOK f n i j k s u v c) (hk : TKE s u e) {r : Nat} (h : H0 0 X Y nc nm r) : JO f n b Q0 Gt X Y nc nm i j k s u v c := by
  obtain ⟨h5, hr, hz, hB⟩ := h
  have hB2 := hB
  obtain ⟨b1, b2, b3, b4, b5, b6⟩ := hB
  have hij := TOK_b ht
  by_cases he : e = 1
  · have hs : s = 2 := hk.2.2.2.2 (by omega)
    obtain ⟨j', k', s', u', v', c', ht'⟩ := TOK_ex f hij.2.2.1
    refine jo_step hn (X' := u2 X 0 5 1) (nc' := nc) ?_ b6 (by rw [h5]; decide) ht (by omega) (rt01 hb hn hk he ht') ((hP k (by omega) hij.2.2.1 j' k' s' u' v' c' ht').2.1 _ Y nc nm r ⟨rfl, hr, hz, hB2⟩)
    intro d I J T s8 y hC
    have := stp0C (d + 2) I J T X nc s8 hC hk h5
    rw [if_pos he] at this
    exact this
  · refine jo_fault hn (X' := X) (nc' := nc) (kd := 1) (by decide) ?_ b6 (by rw [h5]; decide) ht (rf0 hk he)
    intro d I J T s8 y hC
    have := stp0C (d + 2) I J T X nc s8 hC hk h5
    rw [if_neg he] at this
    exact this
theorem jst1 (hb : ∀ x, -128 ≤ f x ∧ f x ≤ 127) (hn : n ≤ 500) (hP : ∀ k, i < k → k ≤ n → JP f n b k) (ht : TOK f n i j k s u v c) (hk : TKE s u e) {r : Nat} (h : H0 1 X Y nc nm r) : JO f n b Q1 Gt X Y nc nm i j k s u v c := by
  obtain ⟨h5, hr, hz, hB⟩ := h
  obtain ⟨b1, b2, b3, b4, b5, b6⟩ := hB
  have hij := TOK_b ht
  have n6 : ¬ X 0 5 = 6 := by rw [h5]; decide
  by_cases hx : s = 2 ∧ e = 0
  · obtain ⟨hs, he⟩ := hx
    obtain ⟨w, hw⟩ := b5
    have hwc : ∀ i, i < r → WDok (w i) ∧ nc i = ll (wdC (w i)) := fun i hi => ⟨(hw i hi).1, (hw i hi).2.1⟩
    have hwm : ∀ i, i < r → WDok (w i) ∧ nm i = ll (wdR (w i)) := fun i hi => ⟨(hw i hi).1, (hw i hi).2.2⟩
    by_cases htl : TLD w r u
    · refine jo_fault hn (X' := X) (nc' := nc) (kd := 3) (by decide) ?_ b6 n6 ht (rf13 hk hs he hr b3 hwm htl)
      intro d I J T s8 y hC
      exact (stp1C (d + 2) I J T X nc s8 hC hk h5 hs he hr b4 hwc).1 htl
    · by_cases h6 : r < 6
      · obtain ⟨j', k', s', u', v', c', ht'⟩ := TOK_ex f hij.2.2.1
        refine jo_step hn (X' := nmX X r) (nc' := wl nc r (ll (wdC u))) ?_ b6 n6 ht (by omega) (rt12 hb hn hk hs he h6 b3 hwm htl ht') ((hP k (by omega) hij.2.2.1 j' k' s' u' v' c' ht').2.2.1 _ Y _ _ r ?_)
        · intro d I J T s8 y hC
          exact (stp1C (d + 2) I J T X nc s8 hC hk h5 hs he hr b4 hwc).2.2 htl h6
        · have x2 : ∀ k, ¬ k = r → nmX X r 2 k = X 2 k := fun k hk => u2_i X 2 r 0 hk
          refine ⟨rfl, h6, hz h6, ⟨FIN_congr x2 (fun _ _ => rfl) (fun _ _ => rfl) (fun _ _ => rfl) b1, b2, b3, rfl, ⟨fun k => if k = r then u else w k, fun k hk2 => ?_⟩, b6⟩, u2_at X 2 r 0, rfl, rfl, rfl, rfl, rfl, rfl⟩
          dsimp only
          unfold wl
          by_cases z : k = r
          · rw [if_pos z, if_pos z, if_pos z]
            exact ⟨hk.2.1 hs, rfl, rfl⟩
          · rw [if_neg z, if_neg z, if_neg z]
            exact hw k (by omega)
      · refine jo_fault hn (X' := X) (nc' := nc) (kd := 5) (by decide) ?_ b6 n6 ht (rf15 hk hs he (by omega) b3 hwm htl)
        intro d I J T s8 y hC
        exact (stp1C (d + 2) I J T X nc s8 hC hk h5 hs he hr b4 hwc).2.1 htl h6
  · refine jo_fault hn (X' := X) (nc' := nc) (kd := 1) (by decide) ?_ b6 n6 ht (rf1 hk hx)
    intro d I J T s8 y hC
    exact stp1C_f (d + 2) I J T X nc s8 hC hk h5 hx
theorem jst2 (hb : ∀ x, -128 ≤ f x ∧ f x ≤ 127) (hn : n ≤ 500) (hP : ∀ k, i < k → k ≤ n → JP f n b k) (ht : TOK f n i j k s u v c) (hk : TKE s u e) {r : Nat} (h : H2 X Y nc nm r) : JO f n b Q2 Gt X Y nc nm i j k s u v c := by
  obtain ⟨h5, hr, hz, hB, x2, x6, x12, x50, x30, x40, x60⟩ := h
  have hB2 := hB
  obtain ⟨b1, b2, b3, b4, b5, b6⟩ := hB
  have hij := TOK_b ht
  have n6 : ¬ X 0 5 = 6 := by rw [h5]; decide
  by_cases he : e = 2
  · have hs : s = 2 := hk.2.2.2.2 (by omega)
    obtain ⟨j', k', s', u', v', c', ht'⟩ := TOK_ex f hij.2.2.1
    refine jo_step hn (X' := u2 X 0 5 3) (nc' := nc) ?_ b6 n6 ht (by omega) (rt23 hb hn hk he ht') ((hP k (by omega) hij.2.2.1 j' k' s' u' v' c' ht').2.2.2.1 _ _ nc nm r 0 0 0 0 0 ⟨rfl, hr, hB2, ⟨x2, hz, rfl, rfl, Nat.le_refl 0, by omega, by omega, fun i hi => absurd hi (by omega), x6, x12, fun l hl => ?_, rfl⟩, ?_⟩)
    · intro d I J T s8 y hC
      have := stp2C (d + 2) I J T X nc s8 hC hk h5
      rw [if_pos he] at this
      exact this
    · have e0 : l = 0 := by omega
      subst e0
      refine ⟨.inl rfl, x50, .inl rfl, x30.trans (cad0 rfl).symm, .inl rfl, x40.trans (cad0 rfl).symm, .inl rfl, x60.trans ?_⟩
      unfold cmm
      exact (bi0 (fun q => q.1 rfl)).symm
    · show 0 = pnY (bgY Y 0 0) 0 + 0
      unfold pnY
      rw [if_pos (show bgY Y 0 0 7 0 = 0 from rfl), if_pos (show bgY Y 0 0 6 0 = 0 from rfl), if_pos (show bgY Y 0 0 4 0 = 0 from rfl)]
  · refine jo_fault hn (X' := X) (nc' := nc) (kd := 1) (by decide) ?_ b6 n6 ht (rf2 hk he)
    intro d I J T s8 y hC
    have := stp2C (d + 2) I J T X nc s8 hC hk h5
    rw [if_neg he] at this
    exact this
end STP
