/-! The book: a factor -/
theorem cur_fac {X Y : X2} {r fac op len t v : Nat} (h : CUR X Y r fac op len t v) (hf : fac < 20) : CUR (u2 X 0 6 (nn (fac + 1))) Y r (fac + 1) op len t v := by
  obtain ⟨c1, c2, c3, c4, c5, c6, c7, c8, c9, c10, c11, c12⟩ := h
  exact ⟨c1, c2, c3, c4, by omega, by omega, c7, c8, rfl, c10, fun l hl => c11 l hl, c12⟩
theorem cur_open {X Y : X2} {r fac op len t v : Nat} (h : CUR X Y r fac op len t v) (ht : t = pSY Y op) (ho : op < 5) {act : Int32} (ha : act = 0 ∨ act = 113 ∨ act = 114) : CUR (bgX (u2 X 0 12 (nn (op + 1))) (op + 1) (cad act) (if cad act = -1 then 0 else 1)) (bgY Y (op + 1) act) r fac (op + 1) len t v ∧ t = pSY (bgY Y (op + 1) act) (op + 1) := by
  obtain ⟨c1, c2, c3, c4, c5, c6, c7, c8, c9, c10, c11, c12⟩ := h
  have a5 : ∀ l, ¬ l = op + 1 → bgX (u2 X 0 12 (nn (op + 1))) (op + 1) (cad act) (if cad act = -1 then 0 else 1) 5 l = X 5 l := fun l hl => u2_i X 5 (op + 1) 0 hl
  have a3 : ∀ l, ¬ l = op + 1 → bgX (u2 X 0 12 (nn (op + 1))) (op + 1) (cad act) (if cad act = -1 then 0 else 1) 3 l = X 3 l := fun l hl => u2_i X 3 (op + 1) (-1) hl
  have a4 : ∀ l, ¬ l = op + 1 → bgX (u2 X 0 12 (nn (op + 1))) (op + 1) (cad act) (if cad act = -1 then 0 else 1) 4 l = X 4 l := fun l hl => u2_i X 4 (op + 1) (cad act) hl
  have a6 : ∀ l, ¬ l = op + 1 → bgX (u2 X 0 12 (nn (op + 1))) (op + 1) (cad act) (if cad act = -1 then 0 else 1) 6 l = X 6 l := fun l hl => u2_i X 6 (op + 1) (if cad act = -1 then 0 else 1) hl
  have y7 : ∀ l, ¬ l = op + 1 → bgY Y (op + 1) act 7 l = Y 7 l := fun l hl => u2_i Y 7 (op + 1) 0 hl
  have y6 : ∀ l, ¬ l = op + 1 → bgY Y (op + 1) act 6 l = Y 6 l := fun l hl => u2_i Y 6 (op + 1) 0 hl
  have y5 : ∀ l, ¬ l = op + 1 → bgY Y (op + 1) act 5 l = Y 5 l := fun l hl => u2_i Y 5 (op + 1) 0 hl
  have y4 : ∀ l, ¬ l = op + 1 → bgY Y (op + 1) act 4 l = Y 4 l := fun l hl => u2_i Y 4 (op + 1) act hl
  have b5 : bgX (u2 X 0 12 (nn (op + 1))) (op + 1) (cad act) (if cad act = -1 then 0 else 1) 5 (op + 1) = 0 := u2_at X 5 (op + 1) 0
  have b3 : bgX (u2 X 0 12 (nn (op + 1))) (op + 1) (cad act) (if cad act = -1 then 0 else 1) 3 (op + 1) = -1 := u2_at X 3 (op + 1) (-1)
  have b4 : bgX (u2 X 0 12 (nn (op + 1))) (op + 1) (cad act) (if cad act = -1 then 0 else 1) 4 (op + 1) = cad act := u2_at X 4 (op + 1) (cad act)
  have b6 : bgX (u2 X 0 12 (nn (op + 1))) (op + 1) (cad act) (if cad act = -1 then 0 else 1) 6 (op + 1) = (if cad act = -1 then 0 else 1) := u2_at X 6 (op + 1) _
  have z7 : bgY Y (op + 1) act 7 (op + 1) = 0 := u2_at Y 7 (op + 1) 0
  have z6 : bgY Y (op + 1) act 6 (op + 1) = 0 := u2_at Y 6 (op + 1) 0
  have z5 : bgY Y (op + 1) act 5 (op + 1) = 0 := u2_at Y 5 (op + 1) 0
  have z4 : bgY Y (op + 1) act 4 (op + 1) = act := u2_at Y 4 (op + 1) act
  constructor
  · refine ⟨c1, c2, c3, c4, c5, c6, by omega, c8, c9, rfl, fun l hl => ?_, ?_⟩
    · by_cases z : l = op + 1
      · subst z
        refine ⟨.inl z7, b5.trans z7.symm, .inl z6, b3.trans (cad0 z6).symm, by rw [z4]; exact ha, by rw [b4, z4], .inl z5, ?_⟩
        rw [b6, z4, z5]
        unfold cmm
        rcases ha with q | q | q
        · rw [bi0 (fun w => w.1 q), if_pos (cad0 q)]
        · rw [bi1 ⟨by rw [q]; decide, rfl⟩, if_neg (by rw [q]; decide)]
        · rw [bi1 ⟨by rw [q]; decide, rfl⟩, if_neg (by rw [q]; decide)]
      · exact LVL_congr (a5 l z) (a3 l z) (a4 l z) (a6 l z) (y7 l z) (y6 l z) (y4 l z) (y5 l z) (c11 l (by omega))
    · rw [y4 0 (by omega)]; exact c12
  · show t = pSY (bgY Y (op + 1) act) op + pnY (bgY Y (op + 1) act) (op + 1)
    rw [pSY_congr op (fun l hl => pn_congr (y7 l (by omega)) (y6 l (by omega)) (y4 l (by omega)) (y5 l (by omega))), ← ht]
    unfold pnY
    simp [z7, z6, z5, z4]
theorem tst_b {s : Nat} {u : WD} {v e : Nat} (hk : TKE s u e) (hg : (s = 3 ∧ v ≤ 99) ∨ (3 ≤ e ∧ e ≤ 6)) : tstep s v e < 110 ∧ 0 ≤ tstep s v e ∧ tstep s v e ≤ 103 ∧ ¬ tstep s v e = -1 ∧ ¬ tstep s v e = 107 ∧ ¬ tstep s v e = 108 := by
  unfold tstep
  by_cases z : s = 3
  · rw [if_pos z]
    have hv : v ≤ 99 := by
      have := hs_ne hk (show ¬ s = 2 by omega)
      rcases hg with g | g <;> omega
    refine ⟨(nn_lt (b := 110) (by omega) (by omega)).mpr (by omega), nn_nonneg (by omega), (nn_le (b := 103) (by omega) (by omega)).mpr (by omega), nn_ne_neg (by omega), fun q => ?_, fun q => ?_⟩
    · have := (nn_inj (b := 107) (by omega) (by omega)).mp q; omega
    · have := (nn_inj (b := 108) (by omega) (by omega)).mp q; omega
  · rw [if_neg z]
    have h : 3 ≤ e ∧ e ≤ 6 := by
      rcases hg with g | g
      · exact absurd g.1 z
      · exact g
    have : e = 3 ∨ e = 4 ∨ e = 5 ∨ e = 6 := by omega
    rcases this with q | q | q | q <;> subst q <;> decide
section ST3
variable {f : Nat → Int32} {n b : Nat} {X Y : X2} {nc nm : Nat → Int64} {i j k s : Nat} {u : WD} {v : Nat} {c : Int32} {e : Nat}
theorem jst3 (hb : ∀ x, -128 ≤ f x ∧ f x ≤ 127) (hn : n ≤ 500) (hP : ∀ k, i < k → k ≤ n → JP f n b k) (ht : TOK f n i j k s u v c) (hk : TKE s u e) {r fac op len t w : Nat} (h : H3 3 X Y nc nm r fac op len t w 0) : JO f n b Q3 (Gd op fac) X Y nc nm i j k s u v c := by
  obtain ⟨h5, hr, hB, hC, hp⟩ := h
  have hB2 := hB
  have hC2 := hC
  obtain ⟨b1, b2, b3, b4, b5, b6⟩ := hB
  obtain ⟨c1, c2, c3, c4, c5, c6, c7, c8, c9, c10, c11, c12⟩ := hC
  have hij := TOK_b ht
  have n6 : ¬ X 0 5 = 6 := by rw [h5]; decide
  have hv1 : s = 3 → v < 1000 := fun q => nm99 ht q
  have h8 := hk.2.2.1
  have tl := okT_le len t c3
  by_cases hg : fgood s v e c
  · by_cases hf : fac < 20
    · by_cases g1 : (s = 3 ∧ v ≤ 99) ∨ (3 ≤ e ∧ e ≤ 6)
      · have hs2 : 2 ≤ s := by
          rcases g1 with g | g
          · omega
          · have := hk.2.2.2.2 (show ¬ e = 0 by omega); omega
        obtain ⟨a1, a2, a3, a4, a5, a6⟩ := tst_b hk g1
        obtain ⟨j', k', s', u', v', c', ht'⟩ := TOK_ex f hij.2.2.1
        have cu := cur_push (cur_fac hC2 hf) (tstep s v e) (tstep s v e) (clsS_lt a1).symm (t' := t + 1) (v' := w + 1) (by omega) (by omega) (.inl ⟨a1, a2, a3, by omega, by omega, by omega⟩)
        refine jo_step hn (X' := u2 (pX (u2 X 0 6 (nn (fac + 1))) r len (tstep s v e)) 0 5 5) (nc' := nc) ?_ b6 n6 ht (by omega) (rt3_leaf hb hn hk g1 hf b3 hr c2 (by omega) ht') ((hP k (by omega) hij.2.2.1 j' k' s' u' v' c' ht').2.2.2.2.2 _ _ nc nm r (fac + 1) op (len + 1) (t + 1) (w + 1) ⟨rfl, hr, ?_, cu, ?_⟩)
        · intro d I J T s8 y hC
          exact stp3C_go d I J T X nc s8 hC hk hv1 h5 c9 hf hg (leafC (d + 1) I _ T (u2 X 0 6 (nn (fac + 1))) s8 b4 hr c1 (by omega) a4 a5 a6)
        · have := BAS_kep (KEP_push (u2 X 0 6 (nn (fac + 1))) Y r len (tstep s v e) (tstep s v e)) (nc := nc) (nm := nm) (o := r + 1) hB2
          exact this
        · rw [hp, pSY_congr (Y := pY Y r len (tstep s v e)) (Z := Y) op (fun l _ => rfl)]
      · by_cases g2 : e = 7 ∨ e = 8
        · have hs2 : s = 2 := hk.2.2.2.2 (by omega)
          obtain ⟨j', k', s', u', v', c', ht'⟩ := TOK_ex f hij.2.2.1
          have cf := cur_fac hC2 hf
          have hts : tstep s v e = (if e = 7 then 113 else 114) - 6 := by
            unfold tstep
            rw [if_neg (by omega)]
            rcases g2 with q | q <;> subst q <;> rfl
          refine jo_step hn (X' := u2 (u2 (u2 X 0 6 (nn (fac + 1))) 0 7 (tstep s v e)) 0 5 4) (nc' := nc) ?_ b6 n6 ht (by omega) (rt3_ahead hb hn hk g2 hf ht') ((hP k (by omega) hij.2.2.1 j' k' s' u' v' c' ht').2.2.2.2.1 _ _ _ nc nm r (fac + 1) op len t w ?_ hts ⟨rfl, hr, hB2, cf, hp⟩)
          · intro d I J T s8 y hC
            refine stp3C_go d I J T X nc s8 hC hk hv1 h5 c9 hf hg (aheadC (d + 1) I _ T (u2 X 0 6 (nn (fac + 1))) s8 ?_)
            rw [hts]
            rcases g2 with q | q <;> subst q <;> decide
          · rcases g2 with q | q
            · rw [if_pos q]; exact .inl rfl
            · rw [if_neg (by omega)]; exact .inr rfl
        · have hs : s = 4 ∧ c = 40 := by
            rcases hg with g | g | g
            · exact absurd (.inl g) g1
            · omega
            · exact g
          have hts : tstep s v e = -1 := by
            unfold tstep
            rw [if_neg (by omega), stpK_e (by omega)]
          by_cases ho : op < 5
          · obtain ⟨j', k', s', u', v', c', ht'⟩ := TOK_ex f hij.2.2.1
            obtain ⟨o1, o2⟩ := cur_open (cur_fac hC2 hf) hp ho (act := 0) (.inl rfl)
            rw [show cad 0 = -1 from rfl, if_pos rfl] at o1
            refine jo_step hn (X' := u2 (bgX (u2 (u2 X 0 6 (nn (fac + 1))) 0 12 (nn (op + 1))) (op + 1) (-1) 0) 0 5 3) (nc' := nc) ?_ b6 n6 ht (by omega) (rt3_open hb hn hk hs hf ho ht') ((hP k (by omega) hij.2.2.1 j' k' s' u' v' c' ht').2.2.2.1 _ _ nc nm r (fac + 1) (op + 1) len t w ⟨rfl, hr, hB2, o1, o2⟩)
            intro d I J T s8 y hC
            refine stp3C_go d I J T X nc s8 hC hk hv1 h5 c9 hf hg ?_
            have := bopenC d I (JC J nc y) T (u2 X 0 6 (nn (fac + 1))) s8 (op := op) c10 c7
            rw [if_pos ho] at this
            rw [hts]
            exact this
          · refine jo_fault hn (X' := u2 X 0 6 (nn (fac + 1))) (nc' := nc) (kd := 5) (by decide) ?_ b6 n6 ht (rf3_o5 hk hs hf (by omega))
            intro d I J T s8 y hC
            refine stp3C_go d I J T X nc s8 hC hk hv1 h5 c9 hf hg ?_
            have := bopenC d I (JC J nc y) T (u2 X 0 6 (nn (fac + 1))) s8 (op := op) c10 c7
            rw [if_neg ho, hC.2.2.1] at this
            rw [hts]
            exact this
    · refine jo_fault hn (X' := X) (nc' := nc) (kd := 5) (by decide) ?_ b6 n6 ht (rf3_5 hk hg (by omega))
      intro d I J T s8 y hC
      exact stp3C_5 d I J T X nc s8 hC hk hv1 h5 c9 (by omega) hg
  · by_cases h3 : s = 3
    · have hv : ¬ v ≤ 99 := fun q => hg (.inl ⟨h3, q⟩)
      refine jo_fault hn (X' := X) (nc' := nc) (kd := 4) (by decide) ?_ b6 n6 ht (rf3_4 hk h3 hv (hv1 h3))
      intro d I J T s8 y hC
      have := stp3C_f d I J T X nc s8 hC hk hv1 h5 hg
      rw [if_pos h3] at this
      exact this
    · refine jo_fault hn (X' := X) (nc' := nc) (kd := 1) (by decide) ?_ b6 n6 ht (rf3_1 hk (fun q => ?_))
      · intro d I J T s8 y hC
        have := stp3C_f d I J T X nc s8 hC hk hv1 h5 hg
        rw [if_neg h3] at this
        exact this
      · rcases q with q | q | q
        · exact h3 q
        · exact hg (.inr (.inl q))
        · exact hg (.inr (.inr q))
theorem jst4 (hb : ∀ x, -128 ≤ f x ∧ f x ≤ 127) (hn : n ≤ 500) (hP : ∀ k, i < k → k ≤ n → JP f n b k) (ht : TOK f n i j k s u v c) (hs4 : s ≤ 4) {act : Int32} (ha : act = 113 ∨ act = 114) (h7 : X 0 7 = act - 6) {r fac op len t w : Nat} (h : H3 4 X Y nc nm r fac op len t w 0) : JO f n b (Q4 act) (Gd op fac) X Y nc nm i j k s u v c := by
  obtain ⟨h5, hr, hB, hC, hp⟩ := h
  have hB2 := hB
  have hC2 := hC
  obtain ⟨b1, b2, b3, b4, b5, b6⟩ := hB
  obtain ⟨c1, c2, c3, c4, c5, c6, c7, c8, c9, c10, c11, c12⟩ := hC
  have hij := TOK_b ht
  have n6 : ¬ X 0 5 = 6 := by rw [h5]; decide
  have hne : ¬ X 0 7 = -1 := by rw [h7]; rcases ha with q | q <;> subst q <;> decide
  have hcad : cad act = X 0 7 := by rw [h7]; rcases ha with q | q <;> subst q <;> rfl
  by_cases hs : s = 4 ∧ c = 40
  · by_cases ho : op < 5
    · obtain ⟨j', k', s', u', v', c', ht'⟩ := TOK_ex f hij.2.2.1
      obtain ⟨o1, o2⟩ := cur_open hC2 hp ho (act := act) (.inr ha)
      rw [hcad, if_neg hne] at o1
      refine jo_step hn (X' := u2 (bgX (u2 X 0 12 (nn (op + 1))) (op + 1) (X 0 7) 1) 0 5 3) (nc' := nc) ?_ b6 n6 ht (by omega) (rt4_open hb hn hs4 hs act ho ht') ((hP k (by omega) hij.2.2.1 j' k' s' u' v' c' ht').2.2.2.1 _ _ nc nm r fac (op + 1) len t w ⟨rfl, hr, hB2, o1, o2⟩)
      intro d I J T s8 y hC
      have := stp4C d I J T X nc s8 hC h5 c10 c7 hne
      rw [if_pos hs, if_pos ho] at this
      exact this
    · refine jo_fault hn (X' := X) (nc' := nc) (kd := 5) (by decide) ?_ b6 n6 ht (rf4_5 hs4 hs (by omega) act)
      intro d I J T s8 y hC
      have := stp4C d I J T X nc s8 hC h5 c10 c7 hne
      rw [if_pos hs, if_neg ho] at this
      exact this
  · refine jo_fault hn (X' := X) (nc' := nc) (kd := 1) (by decide) ?_ b6 n6 ht (rf4_1 hs4 hs act)
    intro d I J T s8 y hC
    have := stp4C d I J T X nc s8 hC h5 c10 c7 hne
    rw [if_neg hs] at this
    exact this
end ST3
