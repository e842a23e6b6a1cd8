/-! The call corner -/
theorem cornersC (d : Nat) {w h : Nat} (I : PI) (J : PJ) (T : TL) (hW : RelW I w h) (hp : 0 < w * h) : cal (d + 1) 160 [vr 5 0] (MX I J T) = some (.inl (some (vi (nn ((w + 1) * (h + 1))))), MX I J T) := by
  have hn := relW_le hW
  rw [c160, stC d I J T hW.2.2.1 (by omega), bi1 hp]
  refine (b160_4 (d + 1) 1 I J T).trans ?_
  rw [if_neg (by decide), hW.1, hW.2.1, nn_add1, nn_add1, nn_mul]
theorem corners0 (d : Nat) {w h : Nat} (I : PI) (J : PJ) (T : TL) (hW : RelW I w h) (hp : ¬ 0 < w * h) : cal (d + 1) 160 [vr 5 0] (MX I J T) = some (.inl (some (vi 0)), MX I J T) := by
  have hn := relW_le hW
  rw [c160, stC d I J T hW.2.2.1 (by omega), bi0 hp]
  refine (b160_4 (d + 1) 0 I J T).trans ?_
  rw [if_pos rfl]
def told (f : Nat → Int32) (i k : Nat) (x : Int32) : Prop := ∃ t, i ≤ t ∧ t < k ∧ f t = x
theorem isToldC (d : Nat) {k : Nat} (x : Int32) (I : PI) (J : PJ) (T : TL) (hk : I 2 0 5 = nn k) (hk4 : k ≤ 4) : ∀ j i, i + j = k → den d 162 2 [some (vr 2 0), some (vi x), some (vi (nn i))] [] (MX I J T) = some (.inl (some (vi (bi (told (I 20 0) i k x)))), MX I J T) := by
  intro j
  induction j with
  | zero =>
    intro i hi
    rw [b162_2, hk, if_pos ((nn_le (by omega) (by omega)).mpr (by omega)), bi0 (fun ⟨t, h1, h2, _⟩ => by omega)]
  | succ j ih =>
    intro i hi
    rw [b162_2, hk, if_neg (by rw [nn_le (by omega) (by omega)]; omega), if_neg (by rw [show (4 : Int32) = nn 4 from rfl, nn_le (by omega) (by omega)]; omega), if_pos (nn_inR (by omega) (by omega)), nn_idx (by omega)]
    by_cases h : I 20 0 i = x
    · rw [if_neg (fun z => z h), bi1 ⟨i, Nat.le_refl i, by omega, h⟩]
    · rw [if_pos h, nn_add1, ih (i + 1) (by omega)]
      congr 4
      by_cases h2 : told (I 20 0) (i + 1) k x
      · rw [bi1 h2]
        obtain ⟨t, q1, q2, q3⟩ := h2
        rw [bi1 ⟨t, by omega, q2, q3⟩]
      · rw [bi0 h2, bi0 (fun ⟨t, q1, q2, q3⟩ => h2 ⟨t, by
          rcases Nat.eq_or_lt_of_le q1 with z | z
          · subst z; exact absurd q3 h
          · exact z, q2, q3⟩)]
theorem isToldM (d : Nat) {k : Nat} (x : Int32) (I : PI) (J : PJ) (T : TL) (hk : I 14 0 27 = nn k) (hk4 : k < 4) : ∀ j i, i + j = k → den (d + 1) 274 55 [some (vr 14 0), some (vi x), some (vi (nn i))] [] (MX I J T) = if bi (told (I 20 1) i k x) = 1 then some (.inl (some (vi (-1))), MX (up3 (up3 I 14 0 1 5) 14 0 2 (-1)) J T) else some (.inl (some (vi (nn (k + 1)))), MX (up3 (up3 (up3 (up3 I 20 1 k x) 14 0 27 (nn (k + 1))) 14 0 1 0) 14 0 2 (-1)) J T) := by
  intro j
  induction j with
  | zero =>
    intro i hi
    rw [bi0 (fun ⟨t, h1, h2, _⟩ => by omega), if_neg (by decide)]
    rw [b274_55, hk, if_pos ((nn_le (by omega) (by omega)).mpr (by omega)), if_pos (nn_inR hk4 (by omega)), nn_idx (by omega), nn_add1, c215]
    exact b274_113 _ _ _ _ _ _ _
  | succ j ih =>
    intro i hi
    rw [b274_55, hk, if_neg (by rw [nn_le (by omega) (by omega)]; omega), if_pos (nn_inR (by omega) (by omega)), nn_idx (by omega)]
    by_cases h : I 20 1 i = x
    · rw [if_neg (fun z => z h), bi1 ⟨i, Nat.le_refl i, by omega, h⟩, if_pos rfl, c187]
      exact b274_78 _ _ _ _ _ _ _
    · rw [if_pos h, nn_add1, ih (i + 1) (by omega)]
      congr 2
      by_cases h2 : told (I 20 1) (i + 1) k x
      · rw [bi1 h2]
        obtain ⟨t, q1, q2, q3⟩ := h2
        rw [bi1 ⟨t, by omega, q2, q3⟩]
      · rw [bi0 h2, bi0 (fun ⟨t, q1, q2, q3⟩ => h2 ⟨t, by
          rcases Nat.eq_or_lt_of_le q1 with z | z
          · subst z; exact absurd q3 h
          · exact z, q2, q3⟩)]
theorem call28 (L d : Nat) : Cl28 (Inv L) (d + 3) 8 400 := by
  intro m x hm
  obtain ⟨I, J, T, rfl, h⟩ := hm
  obtain ⟨hN, hT, hA, w, h0, o, hwo, hB, hW, hM, hC, hD, hO, hK, hP⟩ := id h
  have hn := relW_le hW
  obtain ⟨k, hk4, hk1, hk2, hk3, hk5⟩ := hK
  have deny : ∀ t : Int32, ¬ t = 4 → cal (d + 3) 159 [vr 11 0, vi x] (MX I J T) = some (.inl (some (vi (-1))), MX (up3 I 11 0 15 t) J T) → cal (d + 3) 274 [vr 14 0, vi x] (MX (up3 I 11 0 15 t) J T) = some (.inl (some (vi (-1))), MX (up3 (up3 (up3 (up3 I 11 0 15 t) 14 0 0 0) 14 0 1 t) 14 0 2 (-1)) J T) → Ok2 (Inv L) (d + 3) 8 400 159 274 [vi x] (MX I J T) :=
    fun t ht q1 q2 => ⟨-1, MX (up3 I 11 0 15 t) J T, _, q1, fun _ => rfl, rfl, q2, ⟨_, _, _, rfl, rel_tr t ht h⟩, Nat.le_add_right _ _, Nat.le_add_right _ _⟩
  by_cases hp : 0 < w * h0
  · have hz : ∀ t : Int32, ¬ (up3 I 11 0 15 t) 14 0 24 = 0 := by
      intro t z
      have z2 : I 14 0 24 = 0 := z
      rw [hW.2.2.2.2.2.1, eq0n (by omega)] at z2
      omega
    have hwh : (w + 1) * (h0 + 1) ≤ 81 := by
      rcases hW.2.2.2.2.2.2 with ⟨rfl, rfl⟩ | ⟨a1, a2, a3, a4⟩
      · omega
      · exact Nat.mul_le_mul (show w + 1 ≤ 9 by omega) (show h0 + 1 ≤ 9 by omega)
    have eC := cornersC (d + 1) I J T hW hp
    have eM : ∀ t : Int32, ((up3 I 11 0 15 t) 14 0 22 + 1) * ((up3 I 11 0 15 t) 14 0 23 + 1) = nn ((w + 1) * (h0 + 1)) := by
      intro t
      show (I 14 0 22 + 1) * (I 14 0 23 + 1) = _
      rw [hW.2.2.2.1, hW.2.2.2.2.1, nn_add1, nn_add1, nn_mul]
    by_cases h1 : x < 0
    · refine deny 1 (by decide) ?_ ?_
      · rw [c159, if_pos h1, c20]; exact b159_20 _ _ _ _ _ _
      · rw [c274, if_neg (hz 1), if_pos h1, c187]; exact b274_38 _ _ _ _ _ _
    · obtain ⟨ex, hx31⟩ := nn_of (i32_nlt.mp h1)
      generalize x.toNatClampNeg = c at ex hx31
      subst ex
      by_cases h2 : c < (w + 1) * (h0 + 1)
      · have hlt : nn c < nn ((w + 1) * (h0 + 1)) := (nn_lt hx31 (by omega)).mpr h2
        by_cases h3 : k = 4
        · subst h3
          refine deny 3 (by decide) ?_ ?_
          · rw [c159, if_neg h1, eC]
            refine (b159_12 (d + 2) (nn c) (nn c) _ I J T).trans ?_
            rw [if_pos hlt, c161, hk1, if_neg (by decide)]
            refine (b159_28 (d + 2) (nn c) 1 I J T).trans ?_
            rw [if_neg (by decide), c20]
            exact b159_36 _ _ _ _ _ _
          · rw [c274, if_neg (hz 3), if_neg h1, eM, if_pos hlt]
            have hk7 : (up3 I 11 0 15 3) 14 0 27 = 4 := hk2
            rw [hk7, if_neg (by decide), c187]
            exact b274_52 _ _ _ _ _ _
        · have hk44 : k < 4 := by omega
          have e27 : ∀ t : Int32, ¬ (up3 I 11 0 15 t) 14 0 27 = 4 := by
            intro t z
            have z2 : I 14 0 27 = nn 4 := z
            rw [hk2, nn_inj (by omega) (by omega)] at z2
            exact h3 z2
          have eT := isToldC (d + 2) (nn c) I J T hk1 hk4 k 0 (by omega)
          have same : told (I 20 0) 0 k (nn c) ↔ told (I 20 1) 0 k (nn c) := by
            constructor
            · intro ⟨t, q1, q2, q3⟩; exact ⟨t, q1, q2, by rw [← (hk5 t q2).1]; exact q3⟩
            · intro ⟨t, q1, q2, q3⟩; exact ⟨t, q1, q2, by rw [(hk5 t q2).1]; exact q3⟩
          by_cases ht : told (I 20 0) 0 k (nn c)
          · refine deny 5 (by decide) ?_ ?_
            · rw [c159, if_neg h1, eC]
              refine (b159_12 (d + 2) (nn c) (nn c) _ I J T).trans ?_
              rw [if_pos hlt, c161, hk1, if_pos (show nn k < 4 from (nn_lt (b := 4) (by omega) (by omega)).mpr hk44)]
              refine (b159_28 (d + 2) (nn c) 0 I J T).trans ?_
              rw [if_pos rfl, c162]
              rw [show (0 : Int32) = nn 0 from rfl, eT, bi1 ht]
              refine (b159_45 (d + 2) (nn c) 1 I J T).trans ?_
              rw [if_neg (by decide), c20]
              exact b159_53 _ _ _ _ _ _
            · rw [c274, if_neg (hz 5), if_neg h1, eM, if_pos hlt, if_pos (e27 5)]
              have eL := isToldM (d + 2) (nn c) (up3 (up3 I 11 0 15 5) 14 0 0 0) J T hk2 hk44 k 0 (by omega)
              refine eL.trans ?_
              have : told ((up3 (up3 I 11 0 15 5) 14 0 0 0) 20 1) 0 k (nn c) := same.mp ht
              rw [bi1 this, if_pos rfl]
          · refine ⟨nn (k + 1), MX (up3 (up3 (up3 I 20 0 k (nn c)) 2 0 5 (nn (k + 1))) 11 0 15 0) J T, MX (up3 (up3 (up3 (up3 (up3 (up3 (up3 (up3 I 20 0 k (nn c)) 2 0 5 (nn (k + 1))) 11 0 15 0) 14 0 0 0) 20 1 k (nn c)) 14 0 27 (nn (k + 1))) 14 0 1 0) 14 0 2 (-1)) J T, ?_, fun _ => rfl, rfl, ?_, ⟨_, _, _, rfl, ?_⟩, Nat.le_add_right _ _, Nat.le_add_right _ _⟩
            · rw [c159, if_neg h1, eC]
              refine (b159_12 (d + 2) (nn c) (nn c) _ I J T).trans ?_
              rw [if_pos hlt, c161, hk1, if_pos (show nn k < 4 from (nn_lt (b := 4) (by omega) (by omega)).mpr hk44)]
              refine (b159_28 (d + 2) (nn c) 0 I J T).trans ?_
              rw [if_pos rfl, c162]
              rw [show (0 : Int32) = nn 0 from rfl, eT, bi0 ht]
              refine (b159_45 (d + 2) (nn c) 0 I J T).trans ?_
              rw [if_pos rfl, c163, hk1, if_neg (by rw [show (4 : Int32) = nn 4 from rfl, nn_le (by omega) (by omega)]; omega), if_pos (nn_inR hk44 (by omega)), nn_idx (by omega), nn_add1]
              refine (b159_62 (d + 2) (nn c) _ J T).trans ?_
              rw [c51]
              exact b159_73 _ _ _ _ _ _
            · have e24 : ¬ (up3 (up3 (up3 I 20 0 k (nn c)) 2 0 5 (nn (k + 1))) 11 0 15 0) 14 0 24 = 0 := hz 0
              have e22 : ((up3 (up3 (up3 I 20 0 k (nn c)) 2 0 5 (nn (k + 1))) 11 0 15 0) 14 0 22 + 1) * ((up3 (up3 (up3 I 20 0 k (nn c)) 2 0 5 (nn (k + 1))) 11 0 15 0) 14 0 23 + 1) = nn ((w + 1) * (h0 + 1)) := eM 0
              have e28 : ¬ (up3 (up3 (up3 I 20 0 k (nn c)) 2 0 5 (nn (k + 1))) 11 0 15 0) 14 0 27 = 4 := e27 0
              rw [c274, if_neg e24, if_neg h1, e22, if_pos hlt, if_pos e28]
              have eL := isToldM (d + 2) (nn c) (up3 (up3 (up3 (up3 I 20 0 k (nn c)) 2 0 5 (nn (k + 1))) 11 0 15 0) 14 0 0 0) J T hk2 hk44 k 0 (by omega)
              refine eL.trans ?_
              have : ¬ told ((up3 (up3 (up3 (up3 I 20 0 k (nn c)) 2 0 5 (nn (k + 1))) 11 0 15 0) 14 0 0 0) 20 1) 0 k (nn c) := fun z => ht (same.mpr z)
              rw [bi0 this, if_neg (by decide)]
            · have hK' : RelK (up3 (up3 (up3 (up3 I 20 0 k (nn c)) 2 0 5 (nn (k + 1))) 20 1 k (nn c)) 14 0 27 (nn (k + 1))) w h0 := by
                refine ⟨k + 1, by omega, rfl, rfl, fun z => ?_, fun i hi => ?_⟩
                · rw [z, Nat.zero_mul] at hp; omega
                · by_cases hik : i = k
                  · subst hik
                    refine ⟨?_, c, h2, ?_⟩
                    · show (if i = i then nn c else I 20 0 i) = (if i = i then nn c else I 20 1 i)
                      rw [if_pos rfl, if_pos rfl]
                    · show (if i = i then nn c else I 20 1 i) = nn c
                      rw [if_pos rfl]
                  · have := hk5 i (by omega)
                    refine ⟨?_, ?_⟩
                    · show (if i = k then nn c else I 20 0 i) = (if i = k then nn c else I 20 1 i)
                      rw [if_neg hik, if_neg hik]; exact this.1
                    · show ∃ p, p < _ ∧ (if i = k then nn c else I 20 1 i) = nn p
                      rw [if_neg hik]; exact this.2
              have hh : Rel L (up3 (up3 (up3 (up3 I 20 0 k (nn c)) 2 0 5 (nn (k + 1))) 20 1 k (nn c)) 14 0 27 (nn (k + 1))) J T := ⟨hN, hT, hA, w, h0, o, hwo, hB, hW, hM, hC, hD, hO, hK', hP⟩
              exact rel_tr 0 (by decide) hh
      · have hlt : ¬ nn c < nn ((w + 1) * (h0 + 1)) := fun z => h2 ((nn_lt hx31 (by omega)).mp z)
        refine deny 1 (by decide) ?_ ?_
        · rw [c159, if_neg h1, eC]
          refine (b159_12 (d + 2) (nn c) (nn c) _ I J T).trans ?_
          rw [if_neg hlt, c20]
          exact b159_20 _ _ _ _ _ _
        · rw [c274, if_neg (hz 1), if_neg h1, eM, if_neg hlt, c187]
          exact b274_38 _ _ _ _ _ _
  · refine deny 1 (by decide) ?_ ?_
    · rw [c159]
      by_cases h1 : x < 0
      · rw [if_pos h1, c20]; exact b159_20 _ _ _ _ _ _
      · rw [if_neg h1, corners0 (d + 1) I J T hW hp]
        refine (b159_12 (d + 2) x x 0 I J T).trans ?_
        rw [if_neg h1, c20]
        exact b159_20 _ _ _ _ _ _
    · have z2 : (up3 I 11 0 15 1) 14 0 24 = 0 := by
        show I 14 0 24 = 0
        rw [hW.2.2.2.2.2.1, eq0n (by omega)]
        omega
      rw [c274, if_pos z2, c187]
      exact b274_38 _ _ _ _ _ _
