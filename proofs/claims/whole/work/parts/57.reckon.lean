/-! The class's reckoning of a worth -/
theorem i32lt {a b : Int32} : a < b ↔ a.toInt < b.toInt := Int32.lt_iff_toInt_lt
theorem i32le {a b : Int32} : a ≤ b ↔ a.toInt ≤ b.toInt := Int32.le_iff_toInt_le
/-- within the bounds of worths -/
def wb (a : Int32) : Prop := -10000 ≤ a ∧ a ≤ 10000
theorem wb_clp (v : Int32) : wb (clp v) := by
  unfold wb clp max9 min9
  have h1 : (-10000 : Int32) ≤ 10000 := by decide
  by_cases h : v < 10000
  · rw [if_pos h]
    by_cases h2 : -10000 < v
    · rw [if_pos h2]
      exact ⟨by rw [i32le]; rw [i32lt] at h2; omega, by rw [i32le]; rw [i32lt] at h; omega⟩
    · rw [if_neg h2]
      exact ⟨Int32.le_refl _, h1⟩
  · rw [if_neg h, if_pos (by decide)]
    exact ⟨h1, Int32.le_refl _⟩
theorem clp_id {v : Int32} (h : wb v) : clp v = v := by
  unfold clp max9 min9
  obtain ⟨h1, h2⟩ := h
  by_cases h : v < 10000
  · rw [if_pos h]
    by_cases h3 : -10000 < v
    · rw [if_pos h3]
    · rw [if_neg h3]
      apply Int32.toInt_inj.mp
      rw [i32lt] at h3
      rw [i32le] at h1
      omega
  · have e : v = 10000 := by
      apply Int32.toInt_inj.mp
      rw [i32lt] at h
      rw [i32le] at h2
      omega
    rw [e]
    decide
theorem wb_min {a b : Int32} (ha : wb a) (hb : wb b) : wb (min9 a b) := by
  unfold min9
  by_cases h : b < a
  · rw [if_pos h]; exact hb
  · rw [if_neg h]; exact ha
theorem wb_max {a b : Int32} (ha : wb a) (hb : wb b) : wb (max9 a b) := by
  unfold max9
  by_cases h : a < b
  · rw [if_pos h]; exact hb
  · rw [if_neg h]; exact ha
theorem wb_small {v : Int32} (h0 : 0 ≤ v) (h1 : v ≤ 103) : wb v := by
  unfold wb
  have e1 : (-10000 : Int32) ≤ 0 := by decide
  have e2 : (103 : Int32) ≤ 10000 := by decide
  exact ⟨Int32.le_trans e1 h0, Int32.le_trans h1 e2⟩
theorem act_cases {a : Int32} (h1 : 110 ≤ a) (h2 : a ≤ 114) : a = 110 ∨ a = 111 ∨ a = 112 ∨ a = 113 ∨ a = 114 := by
  obtain ⟨e, hl⟩ := nn_of (Int32.le_trans (show (0 : Int32) ≤ 110 by decide) h1)
  generalize a.toNatClampNeg = q at e hl
  subst e
  have q1 := (nn_le (a := 110) (by omega) hl).mp h1
  have q2 := (nn_le (b := 114) hl (by omega)).mp h2
  have : q = 110 ∨ q = 111 ∨ q = 112 ∨ q = 113 ∨ q = 114 := by omega
  rcases this with rfl | rfl | rfl | rfl | rfl
  · exact .inl rfl
  · exact .inr (.inl rfl)
  · exact .inr (.inr (.inl rfl))
  · exact .inr (.inr (.inr (.inl rfl)))
  · exact .inr (.inr (.inr (.inr rfl)))
theorem joinC (d : Nat) (act a b : Int32) (I : PI) (J : PJ) (T : TL) (h1 : 110 ≤ act) (h2 : act ≤ 114) (ha : wb a) (hb : wb b) : cal (d + 1) 64 [vi (act - 6), vi a, vi b] (MX I J T) = some (.inl (some (vi (clp (opM act a b)))), MX I J T) := by
  rw [c64]
  rcases act_cases h1 h2 with rfl | rfl | rfl | rfl | rfl
  · rw [if_pos (by decide), c65]
    exact b64_38 _ _ _ _ _ _ _ _
  · rw [if_neg (by decide), if_pos (by decide), c65]
    exact b64_45 _ _ _ _ _ _ _ _
  · rw [if_neg (by decide), if_neg (by decide), if_pos (by decide), c65]
    exact b64_52 _ _ _ _ _ _ _ _
  · rw [if_neg (by decide), if_neg (by decide), if_neg (by decide), if_pos (by decide)]
    rw [show opM 113 a b = min9 a b from rfl, clp_id (wb_min ha hb)]
  · rw [if_neg (by decide), if_neg (by decide), if_neg (by decide), if_neg (by decide)]
    rw [show opM 114 a b = max9 a b from rfl, clp_id (wb_max ha hb)]
theorem singleC (d : Nat) (act s wt f wa : Int32) (I : PI) (J : PJ) (T : TL) : cal d 66 [vi act, vi s, vi wt, vi f, vi wa] (MX I J T) = some (.inl (some (vi (sng s wt f wa act))), MX I J T) := by
  rw [c66]
  unfold sng
  by_cases h0 : act = 100
  · rw [if_pos h0, if_pos h0]
  · rw [if_neg h0, if_neg h0]
    by_cases h1 : act = 101
    · rw [if_pos h1, if_pos h1]
    · rw [if_neg h1, if_neg h1]
      by_cases h2 : act = 102
      · rw [if_pos h2, if_pos h2]
      · rw [if_neg h2, if_neg h2]
        by_cases h3 : act = 103
        · rw [if_pos h3, if_pos h3]
        · rw [if_neg h3, if_neg h3]
/-- the worth of a cell's data by steps -/
def VP (p : Nat → Int32) (len : Nat) (s wt f wa : Int32) : Int32 := (runM (sng s wt f wa) p len 0 []).headD 0
def wbL : List Int32 → Prop
  | [] => True
  | a :: r => wb a ∧ wbL r
theorem wb_sng {s wt f wa act : Int32} (hs : wb s) (hw : wb wt) (hf : wb f) (ha : wb wa) (h : wb act) : wb (sng s wt f wa act) := by
  unfold sng
  by_cases h0 : act = 100
  · rw [if_pos h0]; exact hs
  · rw [if_neg h0]
    by_cases h1 : act = 101
    · rw [if_pos h1]; exact hw
    · rw [if_neg h1]
      by_cases h2 : act = 102
      · rw [if_pos h2]; exact hf
      · rw [if_neg h2]
        by_cases h3 : act = 103
        · rw [if_pos h3]; exact ha
        · rw [if_neg h3]; exact h
theorem clsS_lt {x : Int32} (h : x < 110) : clsS x = x := by unfold clsS; rw [if_pos h]
theorem clsS_ge {x : Int32} (h : 110 ≤ x) : clsS x = x - 6 := by unfold clsS; rw [if_neg (i32_nlt.mpr h)]
theorem le103_lt {x : Int32} (h : x ≤ 103) : x < 104 := by
  rw [i32le] at h
  rw [i32lt]
  have e1 : (103 : Int32).toInt = 103 := rfl
  have e2 : (104 : Int32).toInt = 104 := rfl
  omega
theorem ge104 {x : Int32} (h1 : 110 ≤ x) (h2 : x ≤ 114) : ¬ x - 6 < 104 := by
  rcases act_cases h1 h2 with rfl | rfl | rfl | rfl | rfl <;> decide
theorem rkLp (d : Nat) {k g len : Nat} (s wt f wa x7 : Int32) (p : Nat → Int32) (I : PI) (J : PJ) (T : TL) (hk : k < 6) (hl : len ≤ 40) (hq : ∀ i, i < len → I 31 g (40 * k + i) = clsS (p i)) (hs : wb s) (hw : wb wt) (hf : wb f) (ha : wb wa) : ∀ (m i : Nat) (st : List Int32) (u : Nat → Int32) (o10 : Option AV), i + m = len → okP p m i st.length → st.length ≤ 20 → HS u st → wbL st → ∃ v : Nat → Int32, den (d + 2) 63 38 [some (vr 1 g), some (vi (nn k)), some (vi s), some (vi wt), some (vi f), some (vi wa), some (vi (nn st.length)), some (vi x7), some (vi (nn (40 * k + len))), some (vi (nn (40 * k + i))), o10] [] (MX (upA I 25 g u) J T) = some (.inl (some (vi ((runM (sng s wt f wa) p m i st).headD 0))), MX (upA I 25 g v) J T) := by
  intro m
  induction m with
  | zero =>
    intro i st u o10 hi hok h20 hu hwb
    have h1 : st.length = 1 := hok
    match st, h1, hu with
    | [a], _, hu =>
      refine ⟨u, ?_⟩
      rw [b63_38, if_pos ((nn_le (by omega) (by omega)).mpr (by omega))]
      have e : (upA I 25 g u) 25 g 0 = a := by
        unfold upA
        simp only [if_true]
        exact hu.1
      rw [e]
      rfl
  | succ m ih =>
    intro i st u o10 hi hok h20 hu hwb
    have eq : (upA I 25 g u) 31 g (40 * k + i) = clsS (p i) := hq i (by omega)
    rw [b63_38, if_neg (by rw [nn_le (by omega) (by omega)]; omega), b63_45, if_pos (nn_inR (by omega) (by omega)), nn_idx (by omega), eq, b63_54]
    rcases hok with ⟨a1, a2, a3, a4, a5⟩ | ⟨a1, a2, a3, a4⟩
    · rw [clsS_lt a1, if_pos (le103_lt a3), b63_103, if_neg (by rw [show (20 : Int32) = nn 20 from rfl, nn_le (by omega) (by omega)]; omega), singleC]
      simp only [ret9]
      rw [b63_127, if_pos (nn_inR (by omega) (by omega)), nn_idx (by omega), upA_up3, b63_131, nn_add1, nn_add1]
      obtain ⟨v, e⟩ := ih (i + 1) (sng s wt f wa (p i) :: st) (fun j => if j = st.length then sng s wt f wa (p i) else u j) (some (vi (p i))) (by omega) a5 (by exact a4) ⟨if_pos rfl, HS_up hu (Nat.le_refl _)⟩ ⟨wb_sng hs hw hf ha (wb_small a2 a3), hwb⟩
      refine ⟨v, e.trans ?_⟩
      rw [runM, show stpM (sng s wt f wa) (p i) st = sng s wt f wa (p i) :: st from by unfold stpM; rw [if_pos a1]]
    · match st, a3, a4, hu, h20, hwb with
      | y :: x :: r, a3, a4, hu, h20, hwb =>
        have hr : r.length + 2 ≤ 20 := h20
        have hy : u (r.length + 1) = y := hu.1
        have hx : u r.length = x := hu.2.1
        have ex : (upA I 25 g u) 25 g r.length = x := by
          unfold upA; simp only [if_true]; exact hx
        have ey : (upA I 25 g u) 25 g (r.length + 1) = y := by
          unfold upA; simp only [if_true]; exact hy
        rw [clsS_ge a1, if_neg (ge104 a1 a2), b63_61, if_neg (by
          show ¬ nn (r.length + 2) < 2
          rw [show (2 : Int32) = nn 2 from rfl, nn_lt (by omega) (by omega)]; omega)]
        rw [show nn (y :: x :: r).length + (-1) = nn (r.length + 1) from nn_m1 (r.length + 1), b63_70, nn_sub1, if_pos (nn_inR (by omega) (by omega)), if_pos (nn_inR (by omega) (by omega)), nn_idx (by omega), nn_idx (by omega), ex, ey, joinC d (p i) x y _ J T a1 a2 hwb.2.1 hwb.1]
        simp only [ret9]
        rw [b63_99, if_pos (nn_inR (by omega) (by omega)), nn_idx (by omega), upA_up3, b63_131, nn_add1]
        obtain ⟨v, e⟩ := ih (i + 1) (clp (opM (p i) x y) :: r) (fun j => if j = r.length then clp (opM (p i) x y) else u j) (some (vi (p i - 6))) (by omega) a4 (show r.length + 1 ≤ 20 by omega) ⟨if_pos rfl, HS_up hu.2.2 (Nat.le_refl _)⟩ ⟨wb_clp _, hwb.2.2⟩
        refine ⟨v, e.trans ?_⟩
        rw [runM, show stpM (sng s wt f wa) (p i) (y :: x :: r) = clp (opM (p i) x y) :: r from by unfold stpM; rw [if_neg (i32_nlt.mpr a1)]]
theorem reckC (d : Nat) {k g len o : Nat} (s wt f wa : Int32) (p : Nat → Int32) (I : PI) (J : PJ) (T : TL) (hk : k < o) (ho6 : o ≤ 6) (ho : I 1 g 3 = nn o) (hl : len ≤ 40) (hlen : I 21 (5 * g) k = nn len) (hq : ∀ i, i < len → I 31 g (40 * k + i) = clsS (p i)) (hok : okP p len 0 0) (hs : wb s) (hw : wb wt) (hf : wb f) (ha : wb wa) : ∃ v : Nat → Int32, cal (d + 2) 63 [vr 1 g, vi (nn k), vi s, vi wt, vi f, vi wa] (MX I J T) = some (.inl (some (vi (VP p len s wt f wa))), MX (upA I 25 g v) J T) := by
  obtain ⟨v, e⟩ := rkLp d s wt f wa (nn (40 * k)) p I J T (show k < 6 by omega) hl hq hs hw hf ha len 0 [] (I 25 g) none (by omega) hok (by decide) trivial trivial
  refine ⟨v, ?_⟩
  rw [upA_id] at e
  rw [c63, if_neg (nn_nlt0 (by omega)), ho, if_pos ((nn_lt (by omega) (by omega)).mpr hk), if_pos (nn_inR (by omega) (by omega)), nn_idx (by omega), hlen, show nn k * 40 = nn (40 * k) from by rw [show (40 : Int32) = nn 40 from rfl, nn_mul, Nat.mul_comm], nn_add]
  exact e
