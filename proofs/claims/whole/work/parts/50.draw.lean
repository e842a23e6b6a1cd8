/-! Giving a cell; the calls draw and corner -/
/-- the set of fields behind a giving -/
def gvJ (J : PJ) (c : Nat) (was v : Int32) : PJ := fun a b k => if a = 42 ∧ b = 1 ∧ k < 6 then (if was = nn k ∧ ¬ v = nn k then J 42 1 k &&& (lsh9 1 (nn c) ^^^ (-1)) else if v = nn k then (if was = nn k then (J 42 1 k &&& (lsh9 1 (nn c) ^^^ (-1))) ||| lsh9 1 (nn c) else J 42 1 k ||| lsh9 1 (nn c)) else J 42 1 k) else J a b k
theorem up3_same {α : Type} (f : Nat → Nat → Nat → α) (k j i : Nat) (v : α) : up3 f k j i v k j i = v := by
  unfold up3; simp
theorem up3_i {α : Type} (f : Nat → Nat → Nat → α) (k j i : Nat) (v : α) {c : Nat} (h : ¬ c = i) : up3 f k j i v k j c = f k j c := by
  unfold up3; simp [h]
theorem neg1_lt : (-1 : Int32) < 0 := by decide
theorem nn_nlt0 {k : Nat} (h : k < 2147483648) : ¬ nn k < 0 := i32_nlt.mpr (nn_nonneg h)
/-- give: the cell's former owner loses it, the new one has it -/
theorem give (d : Nat) {n o c : Nat} (v : Int32) (I : PI) (J : PJ) (T : TL) (hc : c < 64) (ho : o ≤ 6) (hw : ownr o (I 28 3 c)) (hv : ownr o v) : cal d 82 [vr 3 0, vi (nn c), vi v] (MX I J T) = some (.inl none, MX (up3 I 28 3 c v) (gvJ J c (I 28 3 c) v) T) := by
  have hx6 : inR (nn c) 64 = true := nn_inR hc (by omega)
  have hkk : (nn c).toNatClampNeg = c := nn_idx (by omega)
  rw [c82]
  simp only [hx6, hkk, if_true]
  rcases hw with hw | ⟨p, hp, hw⟩
  · rw [hw, if_pos neg1_lt]
    rcases hv with hv | ⟨q, hq, hv⟩
    · rw [hv, if_pos neg1_lt]
      have e : gvJ J c (-1) (-1) = J := by
        funext a b k
        unfold gvJ
        by_cases h : a = 42 ∧ b = 1 ∧ k < 6
        · rw [if_pos h]
          have hk : ¬ (-1 : Int32) = nn k := fun z => nn_ne_neg (by omega) z.symm
          simp [hk, h.1, h.2.1]
        · rw [if_neg h]
      rw [e]
    · have h6 : inR (nn q) 6 = true := nn_inR (by omega) (by omega)
      rw [hv, if_neg (nn_nlt0 (by omega)), if_neg (by rw [show (6 : Int32) = nn 6 from rfl, nn_le (by omega) (by omega)]; omega), if_pos h6, if_pos h6, nn_idx (by omega)]
      have e : gvJ J c (-1) (nn q) = up3 J 42 1 q (J 42 1 q ||| lsh9 1 (nn c)) := by
        funext a b k
        unfold gvJ
        by_cases h : a = 42 ∧ b = 1 ∧ k < 6
        · obtain ⟨rfl, rfl, h6⟩ := h
          have hk : ¬ (-1 : Int32) = nn k := fun z => nn_ne_neg (by omega) z.symm
          rw [if_pos ⟨rfl, rfl, h6⟩, if_neg (fun z => hk z.1)]
          by_cases hqk : k = q
          · subst hqk; rw [if_pos rfl, if_neg hk, up3_same]
          · rw [if_neg (by rw [nn_inj (by omega) (by omega)]; omega), up3_i _ _ _ _ _ hqk]
        · rw [if_neg h]
          unfold up3
          by_cases h1 : a = 42
          · by_cases h2 : b = 1
            · have h3 : ¬ k = q := by
                intro z; exact h ⟨h1, h2, by omega⟩
              simp [h1, h2, h3]
            · simp [h1, h2]
          · simp [h1]
      rw [e]
  · have hp6 : inR (nn p) 6 = true := nn_inR (by omega) (by omega)
    have hpp : (nn p).toNatClampNeg = p := nn_idx (by omega)
    rw [hw, if_neg (nn_nlt0 (by omega)), if_neg (by rw [show (6 : Int32) = nn 6 from rfl, nn_le (by omega) (by omega)]; omega), if_pos hp6, if_pos hp6, hpp]
    rcases hv with hv | ⟨q, hq, hv⟩
    · rw [hv, if_pos neg1_lt]
      have e : gvJ J c (nn p) (-1) = up3 J 42 1 p (J 42 1 p &&& (lsh9 1 (nn c) ^^^ (-1))) := by
        funext a b k
        unfold gvJ
        by_cases h : a = 42 ∧ b = 1 ∧ k < 6
        · obtain ⟨rfl, rfl, h6⟩ := h
          have hk : ¬ (-1 : Int32) = nn k := fun z => nn_ne_neg (by omega) z.symm
          rw [if_pos ⟨rfl, rfl, h6⟩]
          by_cases hqk : k = p
          · subst hqk; rw [if_pos ⟨rfl, hk⟩, up3_same]
          · rw [if_neg (fun z => by have := z.1; rw [nn_inj (by omega) (by omega)] at this; omega), if_neg hk, up3_i _ _ _ _ _ hqk]
        · rw [if_neg h]
          unfold up3
          by_cases h1 : a = 42
          · by_cases h2 : b = 1
            · have h3 : ¬ k = p := by
                intro z; exact h ⟨h1, h2, by omega⟩
              simp [h1, h2, h3]
            · simp [h1, h2]
          · simp [h1]
      rw [e]
    · have h6 : inR (nn q) 6 = true := nn_inR (by omega) (by omega)
      rw [hv, if_neg (nn_nlt0 (by omega)), if_neg (by rw [show (6 : Int32) = nn 6 from rfl, nn_le (by omega) (by omega)]; omega), if_pos h6, if_pos h6, nn_idx (by omega)]
      have e : gvJ J c (nn p) (nn q) = up3 (up3 J 42 1 p (J 42 1 p &&& (lsh9 1 (nn c) ^^^ (-1)))) 42 1 q ((up3 J 42 1 p (J 42 1 p &&& (lsh9 1 (nn c) ^^^ (-1)))) 42 1 q ||| lsh9 1 (nn c)) := by
        funext a b k
        unfold gvJ
        by_cases h : a = 42 ∧ b = 1 ∧ k < 6
        · obtain ⟨rfl, rfl, h6⟩ := h
          rw [if_pos ⟨rfl, rfl, h6⟩]
          by_cases hqk : k = q
          · subst hqk
            rw [if_neg (fun z => z.2 rfl), if_pos rfl, up3_same]
            by_cases hpk : p = k
            · subst hpk; rw [if_pos rfl, up3_same]
            · rw [if_neg (by rw [nn_inj (by omega) (by omega)]; exact hpk), up3_i _ _ _ _ _ (fun z => hpk z.symm)]
          · rw [up3_i _ _ _ _ _ hqk]
            have hvk : ¬ nn q = nn k := by rw [nn_inj (by omega) (by omega)]; omega
            by_cases hpk : p = k
            · subst hpk; rw [if_pos ⟨rfl, hvk⟩, up3_same]
            · rw [if_neg (fun z => by have := z.1; rw [nn_inj (by omega) (by omega)] at this; exact hpk this), if_neg hvk, up3_i _ _ _ _ _ (fun z => hpk z.symm)]
        · rw [if_neg h]
          unfold up3
          by_cases h1 : a = 42
          · by_cases h2 : b = 1
            · have h3 : ¬ k = p := by
                intro z; exact h ⟨h1, h2, by omega⟩
              have h4 : ¬ k = q := by
                intro z; exact h ⟨h1, h2, by omega⟩
              simp [h1, h2, h3, h4]
            · simp [h1, h2]
          · simp [h1]
      rw [e]
theorem relD_give {I : PI} {J : PJ} {n o c : Nat} {v : Int32} (hD : RelD I J n o) (hc : c < n) (hn : n ≤ 64) (hv : ownr o v) : RelD (up3 (up3 I 28 3 c v) 28 7 c v) (gvJ J c (I 28 3 c) v) n o := by
  obtain ⟨q1, q2⟩ := hD
  refine ⟨?_, ?_⟩
  · intro i hi
    obtain ⟨r1, r2⟩ := q1 i hi
    refine ⟨?_, ?_⟩
    · show (if i = c then v else I 28 3 i) = (if i = c then v else I 28 7 i)
      rw [r1]
    · show ownr o (if i = c then v else I 28 7 i)
      by_cases h : i = c
      · rw [if_pos h]; exact hv
      · rw [if_neg h]; exact r2
  · intro k hk i hi
    have hw := (q1 c hc).1
    have hb := q2 k hk i hi
    have hbc := q2 k hk c (by omega)
    show bt (if (42 = 42 ∧ 1 = 1 ∧ k < 6) then _ else _) i = true ↔ (i < n ∧ (if i = c then v else I 28 7 i) = nn k)
    rw [if_pos ⟨rfl, rfl, hk⟩, hw]
    by_cases h1 : I 28 7 c = nn k
    · by_cases h2 : v = nn k
      · rw [if_neg (fun z => z.2 h2), if_pos h2, if_pos h1, bt_or, bt_and, bt_not, bt_bit (by omega)]
        by_cases h : i = c
        · subst h; simp [hc, h2]
        · simp [h, hi, hb]
      · rw [if_pos ⟨h1, h2⟩, bt_and, bt_not, bt_bit (by omega)]
        by_cases h : i = c
        · subst h; simp [h2]
        · simp [h, hi, hb]
    · by_cases h2 : v = nn k
      · rw [if_neg (fun z => h1 z.1), if_pos h2, if_neg h1, bt_or, bt_bit (by omega)]
        by_cases h : i = c
        · subst h; simp [hc, h2]
        · simp [h, hb]
      · rw [if_neg (fun z => h1 z.1), if_neg h2]
        by_cases h : i = c
        · subst h
          rw [if_pos rfl, hb]
          simp [h1, h2]
        · rw [if_neg h, hb]
theorem call11 (L d : Nat) : Cl11 (Inv L) (d + 3) 8 400 := by
  intro m x v hm
  obtain ⟨I, J, T, rfl, h⟩ := hm
  obtain ⟨hN, hT, hA, w, h0, o, hwo, hB, hW, hM, hC, hD, hO, hK, hP⟩ := id h
  have hn := relW_le hW
  obtain ⟨ho, ho6⟩ := relB_o hB
  have hno : 0 < w * h0 → 0 < o := fun z => hwo (pos_l z)
  have e1 := cellC (d + 2) x I J T hW.2.2.1
  have e3 := ownC (d + 1) v I J T hW.2.2.1 (by omega) ho
  have deny : ∀ t : Int32, ¬ t = 4 → cal (d + 3) 81 [vr 11 0, vi x, vi v] (MX I J T) = some (.inl (some (vi 0)), MX (up3 I 11 0 15 t) J T) → cal (d + 3) 235 [vr 14 0, vi x, vi v] (MX (up3 I 11 0 15 t) J T) = some (.inl (some (vi 0)), MX (up3 (up3 (up3 (up3 I 11 0 15 t) 14 0 0 0) 14 0 1 t) 14 0 2 (-1)) J T) → Ok2 (Inv L) (d + 3) 8 400 81 235 [vi x, vi v] (MX I J T) :=
    fun t ht q1 q2 => ⟨0, MX (up3 I 11 0 15 t) J T, _, q1, fun _ => rfl, rfl, q2, ⟨_, _, _, rfl, rel_tr t ht h⟩, Nat.le_add_right _ _, Nat.le_add_right _ _⟩
  by_cases hx : cl (w * h0) x
  · obtain ⟨k, hk, rfl⟩ := cl_of (by omega) hx
    have hx6 : inR (nn k) 64 = true := nn_inR (by omega) (by omega)
    have hkk : (nn k).toNatClampNeg = k := nn_idx (by omega)
    have hq := (hD.1 k hk).1
    have hwn : ownr o (I 28 3 k) := by rw [hq]; exact (hD.1 k hk).2
    have e5 : ∀ t : Int32, cal (d + 2) 221 [vr 14 0, vi (nn k)] (MX (up3 (up3 I 11 0 15 t) 14 0 0 0) J T) = _ := fun t => cellM (d + 2) (nn k) (up3 (up3 I 11 0 15 t) 14 0 0 0) J T hW.2.2.2.2.2.1
    have e4 : ∀ t : Int32, cal (d + 2) 225 [vr 14 0, vi v] (MX (up3 (up3 I 11 0 15 t) 14 0 0 0) J T) = _ := fun t => ownM (d + 2) v (up3 (up3 I 11 0 15 t) 14 0 0 0) J T hW.2.2.2.2.2.1 (by omega) hB hno
    by_cases hsame : I 28 7 k = v
    · have hs3 : I 28 3 k = v := hq.trans hsame
      have hs7 : (up3 (up3 I 11 0 15 5) 14 0 0 0) 28 7 k = v := hsame
      by_cases hv : v = -1
      · refine deny 5 (by decide) ?_ ?_
        · simp only [c81, e1, bi1 hx, ret9, b81_8, j10, if_false, if_pos hv, hx6, hkk, if_true, hs3, not_true_eq_false, c69, b81_51, true_or, j00]
        · simp only [c235, e5, bi1 hx, ret9, b235_10, j10, if_false, if_pos hv, hx6, hkk, if_true, hs7, not_true_eq_false, c222, b235_47, true_or, j00]
      · have hw : ol (w * h0) o v := by
          refine ⟨by omega, ?_⟩
          rcases (hD.1 k hk).2 with z | ⟨q, hq2, z⟩
          · exact absurd (hsame.symm.trans z) hv
          · rw [← hsame, z]; exact cl_nn (by omega) hq2
        refine deny 5 (by decide) ?_ ?_
        · simp only [c81, e1, bi1 hx, ret9, b81_8, j10, if_false, if_neg hv, e3, bi1 hw, b81_24, not_false_eq_true, hx6, hkk, if_true, hs3, not_true_eq_false, c69, b81_51, true_or, j00]
        · simp only [c235, e5, bi1 hx, ret9, b235_10, j10, if_false, if_neg hv, e4, bi1 hw, b235_23, not_false_eq_true, hx6, hkk, if_true, hs7, not_true_eq_false, c222, b235_47, true_or, j00]
    · have hs3 : ¬ I 28 3 k = v := by rw [hq]; exact hsame
      have hs7 : ¬ (up3 (up3 (up3 I 28 3 k v) 11 0 15 0) 14 0 0 0) 28 7 k = v := hsame
      have go : ownr o v → cal (d + 3) 81 [vr 11 0, vi (nn k), vi v] (MX I J T) = some (.inl (some (vi 1)), MX (up3 (up3 I 28 3 k v) 11 0 15 0) (gvJ J k (I 28 3 k) v) T) → cal (d + 3) 235 [vr 14 0, vi (nn k), vi v] (MX (up3 (up3 I 28 3 k v) 11 0 15 0) (gvJ J k (I 28 3 k) v) T) = some (.inl (some (vi 1)), MX (up3 (up3 (up3 (up3 (up3 (up3 I 28 3 k v) 11 0 15 0) 14 0 0 0) 28 7 k v) 14 0 1 0) 14 0 2 (-1)) (gvJ J k (I 28 3 k) v) T) → Ok2 (Inv L) (d + 3) 8 400 81 235 [vi (nn k), vi v] (MX I J T) := by
        intro hv q1 q2
        refine ⟨1, _, _, q1, fun _ => rfl, rfl, q2, ⟨_, _, _, rfl, ?_⟩, Nat.le_add_right _ _, Nat.le_add_right _ _⟩
        have hh : Rel L (up3 (up3 I 28 3 k v) 28 7 k v) (gvJ J k (I 28 3 k) v) T := ⟨hN, hT, hA, w, h0, o, hwo, hB, hW, hM, hC, relD_give hD hk hn hv, hO, hK, hP⟩
        exact rel_tr 0 (by decide) hh
      have e6 := cellM (d + 2) (nn k) (up3 (up3 (up3 I 28 3 k v) 11 0 15 0) 14 0 0 0) (gvJ J k (I 28 3 k) v) T hW.2.2.2.2.2.1
      have e7 := ownM (d + 2) v (up3 (up3 (up3 I 28 3 k v) 11 0 15 0) 14 0 0 0) (gvJ J k (I 28 3 k) v) T hW.2.2.2.2.2.1 (by omega) hB hno
      by_cases hv : v = -1
      · have eg := give (n := w * h0) (d + 2) v I J T (show k < 64 by omega) ho6 hwn (.inl hv)
        refine go (.inl hv) ?_ ?_
        · simp only [c81, e1, bi1 hx, ret9, b81_8, j10, if_false, if_pos hv, hx6, hkk, if_true, if_pos hs3, eg, b81_61, c71, b81_65, or_true, j11]
        · simp only [c235, e6, bi1 hx, ret9, b235_10, j10, if_false, if_pos hv, hx6, hkk, if_true, if_pos hs7, c223, b235_59, or_true, j11]
      · by_cases hw : ol (w * h0) o v
        · have hw2 : ownr o v := by
            obtain ⟨q, hq, e⟩ := cl_of (by omega) hw.2
            exact .inr ⟨q, hq, e⟩
          have eg := give (n := w * h0) (d + 2) v I J T (show k < 64 by omega) ho6 hwn hw2
          refine go hw2 ?_ ?_
          · simp only [c81, e1, bi1 hx, ret9, b81_8, j10, if_false, if_neg hv, e3, bi1 hw, b81_24, not_false_eq_true, hx6, hkk, if_true, if_pos hs3, eg, b81_61, c71, b81_65, or_true, j11]
          · simp only [c235, e6, bi1 hx, ret9, b235_10, j10, if_false, if_neg hv, e7, bi1 hw, b235_23, not_false_eq_true, hx6, hkk, if_true, if_pos hs7, c223, b235_59, or_true, j11]
        · refine deny 1 (by decide) ?_ ?_
          · simp only [c81, e1, bi1 hx, ret9, b81_8, j10, if_false, if_neg hv, e3, bi0 hw, b81_24, not_true_eq_false, c69, b81_32, true_or, if_true, j00]
          · simp only [c235, e5, bi1 hx, ret9, b235_10, j10, if_false, if_neg hv, e4, bi0 hw, b235_23, not_true_eq_false, c222, b235_31, true_or, if_true, j00]
  · have e5 := cellM (d + 2) x (up3 (up3 I 11 0 15 1) 14 0 0 0) J T hW.2.2.2.2.2.1
    refine deny 1 (by decide) ?_ ?_
    · simp only [c81, e1, bi0 hx, ret9, b81_8, if_true, c69, b81_32, true_or, j00]
    · simp only [c235, e5, bi0 hx, ret9, b235_10, if_true, c222, b235_31, true_or, j00]
