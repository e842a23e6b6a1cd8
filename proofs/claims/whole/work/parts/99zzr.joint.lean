/-! The book: behind a factor -/
theorem fin_more {X Y : X2} {r fac op len v : Nat} (h : CUR X Y r fac op len 1 v) (hF : FIN X Y r) : FIN X Y (r + 1) := by
  obtain ⟨c1, c2, c3, c4, c5, c6, c7, c8, c9, c10, c11, c12⟩ := h
  intro k hk
  by_cases z : k = r
  · subst z
    refine ⟨len, by omega, c1, c2, ?_, c8⟩
    have := okT_okP len 1 c3 0 rfl
    exact this
  · exact hF k (by omega)
theorem cur_down {X Y : X2} {r fac o len t v : Nat} (h : CUR X Y r fac (o + 1) len t v) : CUR (u2 X 0 12 (nn o)) Y r fac o len t v := by
  obtain ⟨c1, c2, c3, c4, c5, c6, c7, c8, c9, c10, c11, c12⟩ := h
  exact ⟨c1, c2, c3, c4, c5, c6, by omega, c8, c9, rfl, fun l hl => c11 l (by omega), c12⟩
/-- a star is told -/
theorem cur_star {X Y : X2} {r fac op len t v : Nat} (h : CUR X Y r fac op len t v) (ht : t = pSY Y op + 1) (h7 : Y 7 op = 0) : CUR (u2 X 5 op 1) (u2 Y 7 op 1) r fac op len t v ∧ t = pSY (u2 Y 7 op 1) op := by
  have hc := h
  obtain ⟨c1, c2, c3, c4, c5, c6, c7, c8, c9, c10, c11, c12⟩ := h
  obtain ⟨l1, l2, l3, l4, l5, l6, l7, l8⟩ := c11 op (Nat.le_refl op)
  have o7 : ∀ l, ¬ l = op → (u2 Y 7 op 1) 7 l = Y 7 l := fun l hl => u2_i Y 7 op 1 hl
  have o5 : ∀ l, ¬ l = op → (u2 X 5 op 1) 5 l = X 5 l := fun l hl => u2_i X 5 op 1 hl
  have n7 : (u2 Y 7 op 1) 7 op = 1 := u2_at Y 7 op 1
  have n5 : (u2 X 5 op 1) 5 op = 1 := u2_at X 5 op 1
  constructor
  · exact cur_lvl hc rfl rfl rfl rfl rfl rfl (fun l hl => LVL_congr (X := X) (Y := Y) (o5 l (by omega)) rfl rfl rfl (o7 l (by omega)) rfl rfl rfl (c11 l (by omega))) ⟨.inr n7, n5.trans n7.symm, l3, l4, l5, l6, l7, l8⟩ c12
  · have u := pS_upd (Y := Y) (Y' := u2 Y 7 op 1) (op := op) (fun i hi => pn_congr (o7 i (by omega)) rfl rfl rfl)
    have e1 : pnY (u2 Y 7 op 1) op = pnY Y op + 1 := by
      unfold pnY
      rw [n7, h7, if_pos rfl, if_neg (show ¬ (1 : Int32) = 0 by decide)]
      show 1 + (if Y 6 op = 0 then 0 else 1) + (if Y 4 op = 0 then 0 else if Y 5 op = 0 then 0 else 1) = 0 + (if Y 6 op = 0 then 0 else 1) + (if Y 4 op = 0 then 0 else if Y 5 op = 0 then 0 else 1) + 1
      omega
    omega
/-- a plus or minus is told -/
theorem cur_pm {X Y : X2} {r fac op len t v : Nat} (h : CUR X Y r fac op len t v) (ht : t = pSY Y op + 1) (h6 : Y 6 op = 0) {a x : Int32} (ha : a = 110 ∨ a = 111) (hx : x = cad a) : CUR (u2 X 3 op x) (u2 Y 6 op a) r fac op len t v ∧ t = pSY (u2 Y 6 op a) op := by
  have hc := h
  obtain ⟨c1, c2, c3, c4, c5, c6, c7, c8, c9, c10, c11, c12⟩ := h
  obtain ⟨l1, l2, l3, l4, l5, l6, l7, l8⟩ := c11 op (Nat.le_refl op)
  have o7 : ∀ l, ¬ l = op → (u2 Y 6 op a) 6 l = Y 6 l := fun l hl => u2_i Y 6 op a hl
  have o5 : ∀ l, ¬ l = op → (u2 X 3 op x) 3 l = X 3 l := fun l hl => u2_i X 3 op x hl
  have n7 : (u2 Y 6 op a) 6 op = a := u2_at Y 6 op a
  have n5 : (u2 X 3 op x) 3 op = x := u2_at X 3 op x
  have a0 : ¬ a = 0 := by rcases ha with q | q <;> (rw [q]; decide)
  constructor
  · exact cur_lvl hc rfl rfl rfl rfl rfl rfl (fun l hl => LVL_congr (X := X) (Y := Y) rfl (o5 l (by omega)) rfl rfl rfl (o7 l (by omega)) rfl rfl (c11 l (by omega))) ⟨l1, l2, .inr (by rw [n7]; exact ha), by rw [n5, n7]; exact hx, l5, l6, l7, l8⟩ c12
  · have u := pS_upd (Y := Y) (Y' := u2 Y 6 op a) (op := op) (fun i hi => pn_congr rfl (o7 i (by omega)) rfl rfl)
    have e1 : pnY (u2 Y 6 op a) op = pnY Y op + 1 := by
      unfold pnY
      rw [n7, h6, if_pos rfl, if_neg a0]
      show (if Y 7 op = 0 then 0 else 1) + 1 + (if Y 4 op = 0 then 0 else if Y 5 op = 0 then 0 else 1) = (if Y 7 op = 0 then 0 else 1) + 0 + (if Y 4 op = 0 then 0 else if Y 5 op = 0 then 0 else 1) + 1
      omega
    omega
/-- a comma is told -/
theorem cur_comma {X Y : X2} {r fac op len t v : Nat} (h : CUR X Y r fac op len t v) (ht : t = pSY Y op + 1) (h4 : ¬ Y 4 op = 0) (h5 : Y 5 op = 0) : CUR (u2 X 6 op 0) (u2 Y 5 op 1) r fac op len t v ∧ t = pSY (u2 Y 5 op 1) op := by
  have hc := h
  obtain ⟨c1, c2, c3, c4, c5, c6, c7, c8, c9, c10, c11, c12⟩ := h
  obtain ⟨l1, l2, l3, l4, l5, l6, l7, l8⟩ := c11 op (Nat.le_refl op)
  have o7 : ∀ l, ¬ l = op → (u2 Y 5 op 1) 5 l = Y 5 l := fun l hl => u2_i Y 5 op 1 hl
  have o5 : ∀ l, ¬ l = op → (u2 X 6 op 0) 6 l = X 6 l := fun l hl => u2_i X 6 op 0 hl
  have n7 : (u2 Y 5 op 1) 5 op = 1 := u2_at Y 5 op 1
  have n5 : (u2 X 6 op 0) 6 op = 0 := u2_at X 6 op 0
  constructor
  · refine cur_lvl hc rfl rfl rfl rfl rfl rfl (fun l hl => LVL_congr (X := X) (Y := Y) rfl rfl rfl (o5 l (by omega)) rfl rfl rfl (o7 l (by omega)) (c11 l (by omega))) ⟨l1, l2, l3, l4, l5, l6, .inr n7, ?_⟩ c12
    rw [n5, n7]
    unfold cmm
    rw [bi0 (fun q => absurd q.2 (by decide))]
  · have u := pS_upd (Y := Y) (Y' := u2 Y 5 op 1) (op := op) (fun i hi => pn_congr rfl rfl rfl (o7 i (by omega)))
    have e1 : pnY (u2 Y 5 op 1) op = pnY Y op + 1 := by
      unfold pnY
      rw [n7, h5, if_neg (show ¬ (1 : Int32) = 0 by decide), if_pos rfl, if_neg h4]
      show (if Y 7 op = 0 then 0 else 1) + (if Y 6 op = 0 then 0 else 1) + (if Y 4 op = 0 then 0 else 1) = (if Y 7 op = 0 then 0 else 1) + (if Y 6 op = 0 then 0 else 1) + 0 + 1
      rw [if_neg h4]
    omega
/-- a bracket is closed -/
theorem cur_close {X Y : X2} {r fac o len t v : Nat} (h : CUR X Y r fac (o + 1) len t v) (ht : t = pSY Y (o + 1) + 1) (h7 : Y 7 (o + 1) = 0) (h6 : Y 6 (o + 1) = 0) (hz : Y 4 (o + 1) = 0 ∨ ¬ Y 5 (o + 1) = 0) : ∃ len' t', CUR (clX X r len (o + 1)) (if Y 4 (o + 1) = 0 then Y else pY Y r len (Y 4 (o + 1))) r fac o len' t' v ∧ t' = pSY (if Y 4 (o + 1) = 0 then Y else pY Y r len (Y 4 (o + 1))) o + 1 ∧ (X 4 (o + 1) = -1 ∨ len < 40) ∧ (Y 4 (o + 1) = 0 ∨ len < 48) ∧ KEP X Y (if X 4 (o + 1) = -1 then X else pX X r len (X 4 (o + 1))) (if Y 4 (o + 1) = 0 then Y else pY Y r len (Y 4 (o + 1))) r := by
  have hc := h
  obtain ⟨c1, c2, c3, c4, c5, c6, c7, c8, c9, c10, c11, c12⟩ := h
  obtain ⟨l1, l2, l3, l4, l5, l6, l7, l8⟩ := c11 (o + 1) (Nat.le_refl _)
  have eS : pSY Y (o + 1) = pSY Y o + pnY Y (o + 1) := rfl
  unfold clX
  by_cases z : Y 4 (o + 1) = 0
  · have ex : X 4 (o + 1) = -1 := l6.trans (cad0 z)
    rw [if_pos z, if_pos ex]
    have ep : pnY Y (o + 1) = 0 := by
      unfold pnY
      rw [if_pos h7, if_pos h6, if_pos z]
    exact ⟨len, t, cur_down hc, by omega, .inl ex, .inl z, KEP_refl X Y r⟩
  · obtain ⟨q1, q2, q3, q4⟩ := cad_op (a := Y 4 (o + 1)) (by rcases l5 with y | y | y; exact absurd y z; exact .inr (.inr (.inl y)); exact .inr (.inr (.inr y)))
    have ex : ¬ X 4 (o + 1) = -1 := fun q => q1 (l6.symm.trans q)
    rw [if_neg z, if_neg ex]
    have ep : pnY Y (o + 1) = 1 := by
      unfold pnY
      rw [if_pos h7, if_pos h6, if_neg z, if_neg (hz.resolve_left z)]
    have cu := cur_push hc (Y 4 (o + 1)) (X 4 (o + 1)) (l6.trans q2) (t' := t - 1) (v' := v) c5 (by omega) (.inr ⟨q3, q4, by omega, by omega⟩)
    refine ⟨len + 1, t - 1, cur_down cu, ?_, .inr (by omega), .inr (by omega), KEP_push X Y r len _ _⟩
    rw [pSY_congr (Y := pY Y r len (Y 4 (o + 1))) (Z := Y) o (fun l _ => rfl)]
    omega
section ST5
variable {f : Nat → Int32} {n b : Nat} {X Y : X2} {nc nm : Nat → Int64} {i j k s : Nat} {u : WD} {v : Nat} {c : Int32}
theorem jst5 (hb : ∀ x, -128 ≤ f x ∧ f x ≤ 127) (hn : n ≤ 500) (hP : ∀ k, i < k → k ≤ n → JP f n b k) (ht : TOK f n i j k s u v c) (hs4 : s ≤ 4) {r fac op len t w : Nat} (h : H3 5 X Y nc nm r fac op len t w 1) : JO f n b Q5 (Gd op fac) X Y nc nm i j k s u v c := by
  obtain ⟨h5, hr, hB, hC, hp⟩ := h
  have hB2 := hB
  have hC2 := hC
  obtain ⟨b1, b2, b3, b4, b5, b6⟩ := hB
  obtain ⟨c1, c2, c3, c4, c5, c6, c7, c8, c9, c10, c11, c12⟩ := hC
  have hij := TOK_b ht
  have n6 : ¬ X 0 5 = 6 := by rw [h5]; decide
  obtain ⟨len1, t1, e1, e2, e3, e4, e5, e6, e7⟩ := cur_ef hC2 hp
  have h46 : ∀ (d : Nat) (I : PI) (J : PJ) (T : TL) (s8 : Nat → Int32), cal (d + 2) 46 [vr 7 0] (MX (CM I T.2.1 X s8) J T) = some (.inl none, MX (CM I T.2.1 (efX X r len op) s8) J T) := fun d I J T s8 => endFC (d + 1) I J T X s8 b4 hr c1 c10 c7 e4
  have hY7 : (u2 (efY Y r len op) 7 op 0) 7 op = 0 := u2_at _ 7 op 0
  generalize hX1 : efX X r len op = X1 at e1 e3 e6 h46
  generalize hYe : u2 (efY Y r len op) 7 op 0 = Ye at e1 e2 e3 e7 hY7
  have hB1 := BAS_kep e3 hB2
  have e1' := e1
  obtain ⟨d1, d2, d3, d4, d5, d6, d7, d8, d9, d10, d11, d12⟩ := e1'
  have g1 : Ye 1 0 = nn r := hB1.2.2.1
  have k5 : X1 0 5 = 5 := e3.2.1.trans h5
  by_cases hst : s = 4 ∧ c = 42
  · obtain ⟨j', k', s', u', v', c', ht'⟩ := TOK_ex f hij.2.2.1
    obtain ⟨q1, q2⟩ := cur_star e1 e2 hY7
    refine jo_step hn (X' := u2 (u2 X1 5 op 1) 0 5 3) (nc' := nc) ?_ b6 n6 ht (by omega) (rt5_star hb hn hst c7 b3 hr c2 e5 hYe ht') ((hP k (by omega) hij.2.2.1 j' k' s' u' v' c' ht').2.2.2.1 _ _ nc nm r fac op len1 t1 w ⟨rfl, hr, hB1, q1, q2⟩)
    intro d I J T s8 y hC
    exact stp5C_star d I J T X nc s8 hC h5 (h46 d I _ T s8) d10 c7 hst.1 hst.2
  · obtain ⟨len2, t2, f1, f2, f3, f4, f5, f6⟩ := cur_et e1 e2
    have h47 : ∀ (d : Nat) (I : PI) (J : PJ) (T : TL) (s8 : Nat → Int32), cal (d + 2) 47 [vr 7 0] (MX (CM I T.2.1 X1 s8) J T) = some (.inl none, MX (CM I T.2.1 (etX X1 r len1 op) s8) J T) := fun d I J T s8 => endTC (d + 1) I J T X1 s8 hB1.2.2.2.1 hr d1 d10 c7 f4
    have hY6 : (u2 (etY Ye r len1 op) 6 op 0) 6 op = 0 := u2_at _ 6 op 0
    generalize hXt : etX X1 r len1 op = Xt at f1 f3 h47
    generalize hYt : u2 (etY Ye r len1 op) 6 op 0 = Yt at f1 f2 f3 f6 hY6
    have hBt := BAS_kep f3 hB1
    have f1' := f1
    obtain ⟨a1, a2, a3, a4, a5, a6, a7, a8, a9, a10, a11, a12⟩ := f1'
    obtain ⟨l1, l2, l3, l4, l5, l6, l7, l8⟩ := a11 op (Nat.le_refl op)
    have t1e : Yt 1 0 = nn r := hBt.2.2.1
    have hY7t : Yt 7 op = 0 := by rw [f6]; exact hY7
    have k5t : Xt 0 5 = 5 := f3.2.1.trans k5
    by_cases hpm : s = 4 ∧ (c = 43 ∨ c = 45)
    · obtain ⟨j', k', s', u', v', c', ht'⟩ := TOK_ex f hij.2.2.1
      have hx : (if c = 43 then (104 : Int32) else 105) = cad (if c = 43 then 110 else 111) := by
        by_cases z : c = 43
        · rw [if_pos z, if_pos z]; rfl
        · rw [if_neg z, if_neg z]; rfl
      have ha : (if c = 43 then (110 : Int32) else 111) = 110 ∨ (if c = 43 then (110 : Int32) else 111) = 111 := by
        by_cases z : c = 43
        · rw [if_pos z]; exact .inl rfl
        · rw [if_neg z]; exact .inr rfl
      obtain ⟨q1, q2⟩ := cur_pm f1 f2 hY6 ha hx
      have rt := rt5_pm (b := b) (fac := fac) (nm := nm) (u := u) (v := v) (j := j) hb hn hpm c7 b3 hr c2 e5 hYe g1 d2 f5 ht'
      rw [hYt] at rt
      refine jo_step hn (X' := u2 (u2 Xt 3 op (if c = 43 then 104 else 105)) 0 5 3) (nc' := nc) ?_ b6 n6 ht (by omega) rt ((hP k (by omega) hij.2.2.1 j' k' s' u' v' c' ht').2.2.2.1 _ _ nc nm r fac op len2 t2 w ⟨rfl, hr, hBt, q1, q2⟩)
      intro d I J T s8 y hC
      refine stp5C_go d I J T X nc s8 hC h5 (h46 d I _ T s8) (h47 d I _ T s8) hst ?_
      rw [if_pos hpm.1]
      exact b38_pm (d + 2) I _ T Xt s8 a10 c7 hpm.2
    · have hns : ¬ (s = 4 ∧ (c = 42 ∨ c = 43 ∨ c = 45)) := by
        intro q
        rcases q.2 with z | z | z
        · exact hst ⟨q.1, z⟩
        · exact hpm ⟨q.1, .inl z⟩
        · exact hpm ⟨q.1, .inr z⟩
      -- the class's fault
      have flt : ¬ (s = 4 ∧ c = 44 ∧ ¬ Xt 6 op = 0) → ¬ (s = 4 ∧ c = 41 ∧ 1 ≤ op ∧ Xt 6 op = 0) → ¬ (s = 4 ∧ c = 59 ∧ op = 0) → CTt n X nc j k s u v c (if s = 1 ∧ op = 0 then u2 Xt 0 5 6 else flX Xt 1 (nn j)) nc := by
        intro z1 z2 z3 d I J T s8 y hC
        have x0 : ∀ m : Int32, ¬ m = 0 → (if s = 4 then c else 0) = m → s = 4 ∧ c = m := by
          intro m hm0 hm
          by_cases q : s = 4
          · rw [if_pos q] at hm; exact ⟨q, hm⟩
          · rw [if_neg q] at hm; exact absurd hm.symm hm0
        refine stp5C_go d I J T X nc s8 hC h5 (h46 d I _ T s8) (h47 d I _ T s8) hst ?_
        rw [b38_f (d + 2) I _ T Xt s8 a10 c7 (fun q => by obtain ⟨p1, p2⟩ := x0 43 (by decide) q; exact hpm ⟨p1, .inl p2⟩) (fun q => by obtain ⟨p1, p2⟩ := x0 45 (by decide) q; exact hpm ⟨p1, .inr p2⟩) (fun q => by obtain ⟨p1, p2⟩ := x0 44 (by decide) q.1; exact z1 ⟨p1, p2, q.2⟩) (fun q => by obtain ⟨p1, p2⟩ := x0 41 (by decide) q.1; exact z2 ⟨p1, p2, q.2⟩) (fun q => by obtain ⟨p1, p2⟩ := x0 59 (by decide) q.1; exact z3 ⟨p1, p2, q.2⟩)]
        exact tailC (d + 1) I J T Xt nc s8 hC hij.2.2.2.2 (by omega) hn _ a10 c7
      by_cases ho : op = 0
      · subst ho
        have hX6 : Xt 6 0 = 0 := by
          rw [l8, a12]
          unfold cmm
          rw [bi0 (fun q => q.1 rfl)]
        have t2e : t2 = 1 := by
          rw [f2]
          show pnY Yt 0 + 1 = 1
          unfold pnY
          rw [if_pos hY7t, if_pos hY6, if_pos a12]
        subst t2e
        have hF := fin_more f1 hBt.1
        by_cases h59 : s = 4 ∧ c = 59
        · obtain ⟨j', k', s', u', v', c', ht'⟩ := TOK_ex f hij.2.2.1
          refine jo_step hn (X' := u2 Xt 0 5 0) (nc' := nc) ?_ b6 n6 ht (by omega) (rt5_semi hb hn h59 b3 hr c2 e5 hYe g1 d2 f5 hYt t1e ht') ((hP k (by omega) hij.2.2.1 j' k' s' u' v' c' ht').1 _ (u2 Yt 1 0 (nn (r + 1))) nc nm (r + 1) ⟨rfl, by omega, fun q => hBt.2.1 (r + 1) (by omega) q, hF, fun k q1 q2 => hBt.2.1 k (by omega) q2, rfl, hBt.2.2.2.1, b5, hBt.2.2.2.2.2⟩)
          intro d I J T s8 y hC
          refine stp5C_go d I J T X nc s8 hC h5 (h46 d I _ T s8) (h47 d I _ T s8) hst ?_
          rw [if_pos h59.1, h59.2]
          exact b38_s (d + 2) I _ T Xt s8 a10
        · have ct := flt (fun q => q.2.2 hX6) (fun q => by omega) (fun q => h59 ⟨q.1, q.2.1⟩)
          by_cases h1 : s = 1
          · rw [if_pos ⟨h1, rfl⟩] at ct
            exact jo_end hn ct b6 n6 ht (re5 h1 b3 hr c2 e5 hYe g1 d2 f5 hYt t1e) hBt.2.2.2.2.2 rfl ⟨r + 1, by omega, by omega, hF, hBt.2.2.2.1, rfl⟩
          · rw [if_neg (fun q => h1 q.1)] at ct
            exact jo_fault hn (kd := 1) (by decide) ct b6 n6 ht (rf5_0 hs4 h1 hns h59 b3 hr c2 e5 hYe g1 d2 f5 hYt t1e)
      · have ho1 : 1 ≤ op := by omega
        by_cases z45 : ¬ Yt 4 op = 0 ∧ Yt 5 op = 0
        · have hX6 : Xt 6 op = 1 := by
            rw [l8]
            unfold cmm
            rw [bi1 z45]
          by_cases h44 : s = 4 ∧ c = 44
          · obtain ⟨j', k', s', u', v', c', ht'⟩ := TOK_ex f hij.2.2.1
            obtain ⟨q1, q2⟩ := cur_comma f1 f2 z45.1 z45.2
            refine jo_step hn (X' := u2 (u2 Xt 6 op 0) 0 5 3) (nc' := nc) ?_ b6 n6 ht (by omega) (rt5_comma hb hn h44 c7 ho1 b3 hr c2 e5 hYe g1 d2 f5 hYt z45.1 z45.2 ht') ((hP k (by omega) hij.2.2.1 j' k' s' u' v' c' ht').2.2.2.1 _ _ nc nm r fac op len2 t2 w ⟨rfl, hr, hBt, q1, q2⟩)
            intro d I J T s8 y hC
            refine stp5C_go d I J T X nc s8 hC h5 (h46 d I _ T s8) (h47 d I _ T s8) hst ?_
            rw [if_pos h44.1, h44.2]
            exact b38_c (d + 2) I _ T Xt s8 a10 c7 (by rw [hX6]; decide)
          · have ct := flt (fun q => h44 ⟨q.1, q.2.1⟩) (fun q => by rw [hX6] at q; exact absurd q.2.2.2 (by decide)) (fun q => ho q.2.2)
            rw [if_neg (fun q => ho q.2)] at ct
            exact jo_fault hn (kd := 1) (by decide) ct b6 n6 ht (rf5_comma hs4 hns h44 c7 ho1 b3 hr c2 e5 hYe g1 d2 f5 hYt z45.1 z45.2)
        · have z : Yt 4 op = 0 ∨ ¬ Yt 5 op = 0 := by
            by_cases q : Yt 4 op = 0
            · exact .inl q
            · exact .inr (fun q2 => z45 ⟨q, q2⟩)
          have hX6 : Xt 6 op = 0 := by
            rw [l8]
            unfold cmm
            rw [bi0 z45]
          by_cases h41 : s = 4 ∧ c = 41
          · obtain ⟨j', k', s', u', v', c', ht'⟩ := TOK_ex f hij.2.2.1
            obtain ⟨o, rfl⟩ : ∃ o, op = o + 1 := ⟨op - 1, by omega⟩
            obtain ⟨len3, t3, q1, q2, q3, q4, q5⟩ := cur_close f1 f2 hY7t hY6 z
            have hBc := BAS_kep q5 hBt
            have rt := rt5_close (b := b) (fac := fac) (nm := nm) (u := u) (v := v) (j := j) hb hn h41 c7 ho1 b3 hr c2 e5 hYe g1 d2 f5 hYt t1e a2 q4 z ht'
            have k5c : clX Xt r len2 (o + 1) 0 5 = 5 := by
              rw [← k5t]
              exact q5.2.1
            refine jo_step hn (X' := clX Xt r len2 (o + 1)) (nc' := nc) ?_ b6 n6 ht (by omega) rt ((hP k (by omega) hij.2.2.1 j' k' s' u' v' c' ht').2.2.2.2.2 _ _ nc nm r fac o len3 t3 w ⟨k5c, hr, hBc, q1, q2⟩)
            intro d I J T s8 y hC
            refine stp5C_go d I J T X nc s8 hC h5 (h46 d I _ T s8) (h47 d I _ T s8) hst ?_
            rw [if_pos h41.1, h41.2]
            exact b38_e (d + 2) I _ T Xt s8 a10 c7 ho1 hX6 (clsC (d + 1) I _ T Xt s8 hBt.2.2.2.1 hr a1 a10 c7 ho1 q3)
          · have ct := flt (fun q => q.2.2 hX6) (fun q => h41 ⟨q.1, q.2.1⟩) (fun q => ho q.2.2)
            rw [if_neg (fun q => ho q.2)] at ct
            exact jo_fault hn (kd := 1) (by decide) ct b6 n6 ht (rf5_close hs4 hns h41 c7 ho1 b3 hr c2 e5 hYe g1 d2 f5 hYt z)
end ST5
/-- both read any book alike -/
theorem joint {f : Nat → Int32} {n : Nat} (b : Nat) (hb : ∀ x, -128 ≤ f x ∧ f x ≤ 127) (hn : n ≤ 500) : ∀ m i, n < i + m → JP f n b i
  | 0, i, hm => by
    intro j k s u v c ht
    have := TOK_b ht
    omega
  | m + 1, i, hm => by
    have hP : ∀ k, i < k → k ≤ n → JP f n b k := fun k h1 h2 => joint b hb hn m k (by omega)
    intro j k s u v c ht
    obtain ⟨e, hk⟩ := TKE_ex ht
    exact ⟨fun X Y nc nm r h => jst0 hb hn hP ht hk h, fun X Y nc nm r h => jst1 hb hn hP ht hk h, fun X Y nc nm r h => jst2 hb hn hP ht hk h, fun X Y nc nm r fac op len t w h => jst3 hb hn hP ht hk h, fun act X Y nc nm r fac op len t w ha h7 h => jst4 hb hn hP ht hk.1 ha h7 h, fun X Y nc nm r fac op len t w h => jst5 hb hn hP ht hk.1 h⟩
