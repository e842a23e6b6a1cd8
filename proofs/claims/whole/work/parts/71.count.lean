/-! The call count (printed in part by program: wip/gen/gen71.py) -/
theorem ct_app (f : Nat → Bool) : ∀ k m c a, ct f (k + m) c a = ct f m (c + k) (ct f k c a)
  | 0, m, c, a => by rw [Nat.zero_add]; rfl
  | k + 1, m, c, a => by
    rw [show k + 1 + m = (k + m) + 1 by omega]
    show ct f (k + m) (c + 1) _ = ct f m (c + (k + 1)) (ct f k (c + 1) _)
    rw [ct_app f k m (c + 1), show c + 1 + k = c + (k + 1) by omega]
theorem ct_false (f : Nat → Bool) : ∀ k c a, (∀ i, c ≤ i → f i = false) → ct f k c a = a
  | 0, _, _, _ => rfl
  | k + 1, c, a, h => by
    show ct f k (c + 1) (if f c = true then a + 1 else a) = a
    rw [h c (Nat.le_refl c), if_neg (by decide)]
    exact ct_false f k (c + 1) a (fun i hi => h i (by omega))
theorem ct_trunc {f : Nat → Bool} {n : Nat} (hn : n ≤ 64) (h : ∀ i, n ≤ i → f i = false) : ct f 64 0 0 = ct f n 0 0 := by
  rw [show 64 = n + (64 - n) by omega, ct_app, Nat.zero_add]
  exact ct_false f (64 - n) n _ h
def OWN (J : PJ) : Int64 := itn (fun k a => a ||| J 42 1 k) 6 0 0
theorem own_bt (J : PJ) (i : Nat) : ∀ k c a, bt (itn (fun k a => a ||| J 42 1 k) k c a) i = true ↔ (bt a i = true ∨ ∃ q, c ≤ q ∧ q < c + k ∧ bt (J 42 1 q) i = true)
  | 0, c, a => by
    show bt a i = true ↔ _
    constructor
    · intro h; exact .inl h
    · intro h
      rcases h with h | ⟨q, h1, h2, _⟩
      · exact h
      · omega
  | k + 1, c, a => by
    show bt (itn (fun k a => a ||| J 42 1 k) k (c + 1) (a ||| J 42 1 c)) i = true ↔ _
    rw [own_bt J i k (c + 1), bt_or, Bool.or_eq_true]
    constructor
    · intro h
      rcases h with (h | h) | ⟨q, h1, h2, h3⟩
      · exact .inl h
      · exact .inr ⟨c, by omega, by omega, h⟩
      · exact .inr ⟨q, by omega, by omega, h3⟩
    · intro h
      rcases h with h | ⟨q, h1, h2, h3⟩
      · exact .inl (.inl h)
      · rcases Nat.eq_or_lt_of_le h1 with z | z
        · subst z; exact .inl (.inr h3)
        · exact .inr ⟨q, by omega, by omega, h3⟩
theorem ownedC (d : Nat) (I : PI) (J : PJ) (T : TL) : cal d 101 [vr 3 0] (MX I J T) = some (.inl (some (vl (OWN J))), MX I J T) := by
  rw [c101]
  have key := for_up (n := 6) (Lp := fun c (a : Int64) => den d 101 4 [some (vr 3 0), some (vl a), none, some (vi (nn c))] [] (MX I J T)) (step := fun k a => a ||| J 42 1 k) (by
    intro c a hc
    rw [b101_4, if_neg (by rw [show (6 : Int32) = nn 6 from rfl, nn_le (by omega) (by omega)]; omega), if_pos (nn_inR hc (by omega)), nn_idx (by omega), nn_add1]) 6 0 0 (by omega)
  refine Eq.trans key ?_
  rw [b101_4, if_pos (by decide)]
  rfl
/-- whose cells are owned -/
theorem OWN_iff {I : PI} {J : PJ} {n o : Nat} (hD : RelD I J n o) (ho6 : o ≤ 6) {c : Nat} (hc : c < 64) : bt (OWN J) c = true ↔ (c < n ∧ ¬ I 28 7 c = -1) := by
  unfold OWN
  rw [own_bt, bt_zero]
  constructor
  · intro h
    rcases h with h | ⟨q, h1, h2, h3⟩
    · exact absurd h (by decide)
    · obtain ⟨a1, a2⟩ := (hD.2 q (by omega) c hc).mp h3
      exact ⟨a1, by rw [a2]; exact nn_ne_neg (by omega)⟩
  · intro ⟨h1, h2⟩
    rcases (hD.1 c h1).2 with z | ⟨k, hk, z⟩
    · exact absurd z h2
    · exact .inr ⟨k, by omega, by omega, (hD.2 k (by omega) c hc).mpr ⟨h1, z⟩⟩
theorem keptC (d : Nat) {n : Nat} (I : PI) (J : PJ) (T : TL) (hn : I 5 0 9 = nn n) (hn6 : n ≤ 64) : cal d 174 [vr 5 0] (MX I J T) = some (.inl (some (vi (nn (ct (fun c => decide (¬ I 28 2 c = -1)) n 0 0)))), MX I J T) := by
  rw [c174]
  have key := for_up (n := n) (Lp := fun c (a : Nat) => den d 174 4 [some (vr 5 0), some (vi (nn a)), some (vi (nn c))] [] (MX I J T)) (step := fun c a => if decide (¬ I 28 2 c = -1) = true then a + 1 else a) (by
    intro c a hc
    rw [b174_4, hn, if_neg (by rw [nn_le (by omega) (by omega)]; omega), if_pos (nn_inR (by omega) (by omega)), nn_idx (by omega)]
    by_cases hb : I 28 2 c = -1
    · rw [if_pos hb, if_neg (fun z => (of_decide_eq_true z) hb), nn_add1]
    · rw [if_neg hb, if_pos (decide_eq_true hb), nn_add1, nn_add1]) n 0 0 (by omega)
  refine Eq.trans key ?_
  rw [b174_4, hn, if_pos (Int32.le_refl _), ct_itn]
/-- what the reference counts -/
def CV (I : PI) (n : Nat) (ow x : Int32) : Int32 := if x = 0 then ow else if x = 1 then nn n else if x = 2 then nn (ct (fun c => decide (¬ I 39 0 c = 0)) n 0 0) else if x = 3 then nn (ct (fun c => decide (¬ I 28 6 c = -1)) n 0 0) else if x = 4 then nn (ct (fun c => decide (I 28 7 c = -1)) n 0 0) else if x = 5 then I 14 0 27 else if x = 6 then (if n = 0 then 0 else I 14 0 25) else if x = 7 then (if n = 0 then 0 else I 14 0 26) else if x = 8 then I 14 0 8 else -1
theorem cntb_86 (d : Nat) {n : Nat} (x : Int32) (b : Nat) (I : PI) (J : PJ) (T : TL) (hn : I 14 0 24 = nn n) (hn6 : n ≤ 64) : den d 279 86 [some (vr 14 0), some (vi x), some (vi 0), some (vi 0)] [] (MX I J (TB T b)) = some (.inl (some (vi (nn (ct (fun c => decide (¬ I 39 0 c = 0)) n 0 0)))), MX I J (TB T b)) := by
  have key := for_up (n := n) (Lp := fun c (a : Nat) => den d 279 86 [some (vr 14 0), some (vi x), some (vi (nn a)), some (vi (nn c))] [] (MX I J (TB T b))) (step := fun c a => if decide (¬ I 39 0 c = 0) = true then a + 1 else a) (by
    intro c a hc
    rw [b279b_86, hn, if_neg (by rw [nn_le (by omega) (by omega)]; omega), b279b_94, if_pos (nn_inR (by omega) (by omega)), nn_idx (by omega)]
    by_cases hb : I 39 0 c = 0
    · rw [if_pos hb, b279b_108, b279b_109, b279b_111, b279b_114, if_neg (fun z => (of_decide_eq_true z) hb), nn_add1, Int32.add_zero]
    · rw [if_neg hb, b279b_104, b279b_109, b279b_111, b279b_114, if_pos (decide_eq_true hb), nn_add1, nn_add1]) n 0 0 (by omega)
  refine Eq.trans key ?_
  rw [b279b_86, hn, if_pos (Int32.le_refl _), b279b_117, ct_itn]
theorem cntb_121 (d : Nat) {n : Nat} (x : Int32) (b : Nat) (I : PI) (J : PJ) (T : TL) (hn : I 14 0 24 = nn n) (hn6 : n ≤ 64) : den d 279 121 [some (vr 14 0), some (vi x), some (vi 0), some (vi 0)] [] (MX I J (TB T b)) = some (.inl (some (vi (nn (ct (fun c => decide (¬ I 28 6 c = -1)) n 0 0)))), MX I J (TB T b)) := by
  have key := for_up (n := n) (Lp := fun c (a : Nat) => den d 279 121 [some (vr 14 0), some (vi x), some (vi (nn a)), some (vi (nn c))] [] (MX I J (TB T b))) (step := fun c a => if decide (¬ I 28 6 c = -1) = true then a + 1 else a) (by
    intro c a hc
    rw [b279b_121, hn, if_neg (by rw [nn_le (by omega) (by omega)]; omega), b279b_129, if_pos (nn_inR (by omega) (by omega)), nn_idx (by omega)]
    by_cases hb : I 28 6 c = -1
    · rw [if_pos hb, b279b_144, b279b_145, b279b_147, b279b_150, if_neg (fun z => (of_decide_eq_true z) hb), nn_add1, Int32.add_zero]
    · rw [if_neg hb, b279b_140, b279b_145, b279b_147, b279b_150, if_pos (decide_eq_true hb), nn_add1, nn_add1]) n 0 0 (by omega)
  refine Eq.trans key ?_
  rw [b279b_121, hn, if_pos (Int32.le_refl _), b279b_153, ct_itn]
theorem cntb_157 (d : Nat) {n : Nat} (x : Int32) (b : Nat) (I : PI) (J : PJ) (T : TL) (hn : I 14 0 24 = nn n) (hn6 : n ≤ 64) : den d 279 157 [some (vr 14 0), some (vi x), some (vi 0), some (vi 0)] [] (MX I J (TB T b)) = some (.inl (some (vi (nn (ct (fun c => decide (I 28 7 c = -1)) n 0 0)))), MX I J (TB T b)) := by
  have key := for_up (n := n) (Lp := fun c (a : Nat) => den d 279 157 [some (vr 14 0), some (vi x), some (vi (nn a)), some (vi (nn c))] [] (MX I J (TB T b))) (step := fun c a => if decide (I 28 7 c = -1) = true then a + 1 else a) (by
    intro c a hc
    rw [b279b_157, hn, if_neg (by rw [nn_le (by omega) (by omega)]; omega), b279b_165, if_pos (nn_inR (by omega) (by omega)), nn_idx (by omega)]
    by_cases hb : I 28 7 c = -1
    · rw [if_neg (fun z => z hb), b279b_176, b279b_181, b279b_183, b279b_186, if_pos (decide_eq_true hb), nn_add1, nn_add1]
    · rw [if_pos hb, b279b_180, b279b_181, b279b_183, b279b_186, if_neg (fun z => hb (of_decide_eq_true z)), nn_add1, Int32.add_zero]) n 0 0 (by omega)
  refine Eq.trans key ?_
  rw [b279b_157, hn, if_pos (Int32.le_refl _), b279b_189, ct_itn]
theorem countMb (d : Nat) {n : Nat} (x : Int32) (b : Nat) (I : PI) (J : PJ) (T : TL) (hn : I 14 0 24 = nn n) (hn6 : n ≤ 64) : cal d 279 [vr 14 0, vi x] (MX I J (TB T b)) = some (.inl (some (vi (CV I n (I 12 b 0) x))), MX (up3 I 14 0 0 0) J (TB T b)) := by
  have hn' : (up3 I 14 0 0 0) 14 0 24 = nn n := hn
  have hz : ¬ (up3 I 14 0 0 0) 14 0 24 = 0 ↔ ¬ n = 0 := by
    rw [hn', eq0n (by omega)]
  rw [c279b, b279b_7]
  unfold CV
  by_cases h0 : x = 0
  · rw [if_pos h0, if_pos h0, b279b_71, b279b_78]
    rfl
  · rw [if_neg h0, if_neg h0]
    by_cases h1 : x = 1
    · rw [if_pos h1, if_pos h1, hn']
    · rw [if_neg h1, if_neg h1]
      by_cases h2 : x = 2
      · rw [if_pos h2, if_pos h2, cntb_86 d x b (up3 I 14 0 0 0) J T hn' hn6]
        rfl
      · rw [if_neg h2, if_neg h2]
        by_cases h3 : x = 3
        · rw [if_pos h3, if_pos h3, cntb_121 d x b (up3 I 14 0 0 0) J T hn' hn6]
          rfl
        · rw [if_neg h3, if_neg h3]
          by_cases h4 : x = 4
          · rw [if_pos h4, if_pos h4, cntb_157 d x b (up3 I 14 0 0 0) J T hn' hn6]
            rfl
          · rw [if_neg h4, if_neg h4]
            by_cases h5 : x = 5
            · rw [if_pos h5, if_pos h5]
              rfl
            · rw [if_neg h5, if_neg h5]
              by_cases h6 : x = 6
              · rw [if_pos h6, if_pos h6]
                by_cases hq : n = 0
                · rw [if_neg (fun z => hz.mp z hq), if_pos hq, b279b_203, b279b_211]
                · rw [if_pos (hz.mpr hq), if_neg hq, b279b_207, b279b_211]
                  rfl
              · rw [if_neg h6, if_neg h6]
                by_cases h7 : x = 7
                · rw [if_pos h7, if_pos h7]
                  by_cases hq : n = 0
                  · rw [if_neg (fun z => hz.mp z hq), if_pos hq, b279b_219, b279b_227]
                  · rw [if_pos (hz.mpr hq), if_neg hq, b279b_223, b279b_227]
                    rfl
                · rw [if_neg h7, if_neg h7]
                  by_cases h8 : x = 8
                  · rw [if_pos h8, if_pos h8]
                    rfl
                  · rw [if_neg h8, if_neg h8]
theorem cntn_86 (d : Nat) {n : Nat} (x : Int32) (I : PI) (J : PJ) (T : TL) (hn : I 14 0 24 = nn n) (hn6 : n ≤ 64) : den d 279 86 [some (vr 14 0), some (vi x), some (vi 0), some (vi 0)] [] (MX I J (TN T)) = some (.inl (some (vi (nn (ct (fun c => decide (¬ I 39 0 c = 0)) n 0 0)))), MX I J (TN T)) := by
  have key := for_up (n := n) (Lp := fun c (a : Nat) => den d 279 86 [some (vr 14 0), some (vi x), some (vi (nn a)), some (vi (nn c))] [] (MX I J (TN T))) (step := fun c a => if decide (¬ I 39 0 c = 0) = true then a + 1 else a) (by
    intro c a hc
    rw [b279n_86, hn, if_neg (by rw [nn_le (by omega) (by omega)]; omega), b279n_94, if_pos (nn_inR (by omega) (by omega)), nn_idx (by omega)]
    by_cases hb : I 39 0 c = 0
    · rw [if_pos hb, b279n_108, b279n_109, b279n_111, b279n_114, if_neg (fun z => (of_decide_eq_true z) hb), nn_add1, Int32.add_zero]
    · rw [if_neg hb, b279n_104, b279n_109, b279n_111, b279n_114, if_pos (decide_eq_true hb), nn_add1, nn_add1]) n 0 0 (by omega)
  refine Eq.trans key ?_
  rw [b279n_86, hn, if_pos (Int32.le_refl _), b279n_117, ct_itn]
theorem cntn_121 (d : Nat) {n : Nat} (x : Int32) (I : PI) (J : PJ) (T : TL) (hn : I 14 0 24 = nn n) (hn6 : n ≤ 64) : den d 279 121 [some (vr 14 0), some (vi x), some (vi 0), some (vi 0)] [] (MX I J (TN T)) = some (.inl (some (vi (nn (ct (fun c => decide (¬ I 28 6 c = -1)) n 0 0)))), MX I J (TN T)) := by
  have key := for_up (n := n) (Lp := fun c (a : Nat) => den d 279 121 [some (vr 14 0), some (vi x), some (vi (nn a)), some (vi (nn c))] [] (MX I J (TN T))) (step := fun c a => if decide (¬ I 28 6 c = -1) = true then a + 1 else a) (by
    intro c a hc
    rw [b279n_121, hn, if_neg (by rw [nn_le (by omega) (by omega)]; omega), b279n_129, if_pos (nn_inR (by omega) (by omega)), nn_idx (by omega)]
    by_cases hb : I 28 6 c = -1
    · rw [if_pos hb, b279n_144, b279n_145, b279n_147, b279n_150, if_neg (fun z => (of_decide_eq_true z) hb), nn_add1, Int32.add_zero]
    · rw [if_neg hb, b279n_140, b279n_145, b279n_147, b279n_150, if_pos (decide_eq_true hb), nn_add1, nn_add1]) n 0 0 (by omega)
  refine Eq.trans key ?_
  rw [b279n_121, hn, if_pos (Int32.le_refl _), b279n_153, ct_itn]
theorem cntn_157 (d : Nat) {n : Nat} (x : Int32) (I : PI) (J : PJ) (T : TL) (hn : I 14 0 24 = nn n) (hn6 : n ≤ 64) : den d 279 157 [some (vr 14 0), some (vi x), some (vi 0), some (vi 0)] [] (MX I J (TN T)) = some (.inl (some (vi (nn (ct (fun c => decide (I 28 7 c = -1)) n 0 0)))), MX I J (TN T)) := by
  have key := for_up (n := n) (Lp := fun c (a : Nat) => den d 279 157 [some (vr 14 0), some (vi x), some (vi (nn a)), some (vi (nn c))] [] (MX I J (TN T))) (step := fun c a => if decide (I 28 7 c = -1) = true then a + 1 else a) (by
    intro c a hc
    rw [b279n_157, hn, if_neg (by rw [nn_le (by omega) (by omega)]; omega), b279n_165, if_pos (nn_inR (by omega) (by omega)), nn_idx (by omega)]
    by_cases hb : I 28 7 c = -1
    · rw [if_neg (fun z => z hb), b279n_176, b279n_181, b279n_183, b279n_186, if_pos (decide_eq_true hb), nn_add1, nn_add1]
    · rw [if_pos hb, b279n_180, b279n_181, b279n_183, b279n_186, if_neg (fun z => hb (of_decide_eq_true z)), nn_add1, Int32.add_zero]) n 0 0 (by omega)
  refine Eq.trans key ?_
  rw [b279n_157, hn, if_pos (Int32.le_refl _), b279n_189, ct_itn]
theorem countMn (d : Nat) {n : Nat} (x : Int32) (I : PI) (J : PJ) (T : TL) (hn : I 14 0 24 = nn n) (hn6 : n ≤ 64) : cal d 279 [vr 14 0, vi x] (MX I J (TN T)) = some (.inl (some (vi (CV I n (0) x))), MX (up3 I 14 0 0 0) J (TN T)) := by
  have hn' : (up3 I 14 0 0 0) 14 0 24 = nn n := hn
  have hz : ¬ (up3 I 14 0 0 0) 14 0 24 = 0 ↔ ¬ n = 0 := by
    rw [hn', eq0n (by omega)]
  rw [c279n, b279n_7]
  unfold CV
  by_cases h0 : x = 0
  · rw [if_pos h0, if_pos h0, b279n_67, b279n_78]
  · rw [if_neg h0, if_neg h0]
    by_cases h1 : x = 1
    · rw [if_pos h1, if_pos h1, hn']
    · rw [if_neg h1, if_neg h1]
      by_cases h2 : x = 2
      · rw [if_pos h2, if_pos h2, cntn_86 d x (up3 I 14 0 0 0) J T hn' hn6]
        rfl
      · rw [if_neg h2, if_neg h2]
        by_cases h3 : x = 3
        · rw [if_pos h3, if_pos h3, cntn_121 d x (up3 I 14 0 0 0) J T hn' hn6]
          rfl
        · rw [if_neg h3, if_neg h3]
          by_cases h4 : x = 4
          · rw [if_pos h4, if_pos h4, cntn_157 d x (up3 I 14 0 0 0) J T hn' hn6]
            rfl
          · rw [if_neg h4, if_neg h4]
            by_cases h5 : x = 5
            · rw [if_pos h5, if_pos h5]
              rfl
            · rw [if_neg h5, if_neg h5]
              by_cases h6 : x = 6
              · rw [if_pos h6, if_pos h6]
                by_cases hq : n = 0
                · rw [if_neg (fun z => hz.mp z hq), if_pos hq, b279n_203, b279n_211]
                · rw [if_pos (hz.mpr hq), if_neg hq, b279n_207, b279n_211]
                  rfl
              · rw [if_neg h6, if_neg h6]
                by_cases h7 : x = 7
                · rw [if_pos h7, if_pos h7]
                  by_cases hq : n = 0
                  · rw [if_neg (fun z => hz.mp z hq), if_pos hq, b279n_219, b279n_227]
                  · rw [if_pos (hz.mpr hq), if_neg hq, b279n_223, b279n_227]
                    rfl
                · rw [if_neg h7, if_neg h7]
                  by_cases h8 : x = 8
                  · rw [if_pos h8, if_pos h8]
                    rfl
                  · rw [if_neg h8, if_neg h8]
theorem call31 (L d : Nat) : Cl31 (Inv L) (d + 2) 8 400 := by
  intro m x hm
  obtain ⟨I, J, T, rfl, h⟩ := hm
  obtain ⟨hN, hT, hA, w, h0, o, hwo, hB, hW, hM, hC, hD, hO, hK, hP⟩ := id h
  have hn := relW_le hW
  obtain ⟨ho, ho6⟩ := relB_o hB
  have em : cal (d + 2) 279 [vr 14 0, vi x] (MX I J T) = some (.inl (some (vi (CV I (w * h0) (nn o) x))), MX (up3 I 14 0 0 0) J T) := by
    rcases id hB with ⟨z1, z2, z3⟩ | ⟨b, z1, z2, z3, z4, z5, -⟩
    · have e := countMn (d + 2) x I J T hW.2.2.2.2.2.1 hn
      rw [TNe z2] at e
      rw [z1]
      exact e
    · have e := countMb (d + 2) x b I J T hW.2.2.2.2.2.1 hn
      rw [TBe z1, z5] at e
      exact e
  refine ⟨CV I (w * h0) (nn o) x, MX I J T, MX (up3 I 14 0 0 0) J T, ?_, fun _ => rfl, rfl, em, ⟨_, _, _, rfl, h⟩, Nat.le_add_right _ _, Nat.le_add_right _ _⟩
  rw [c173]
  unfold CV
  by_cases h0' : x = 0
  · rw [if_pos h0', if_pos h0', ho]
  rw [if_neg h0', if_neg h0']
  by_cases h1 : x = 1
  · rw [if_pos h1, if_pos h1, hW.2.2.1]
  rw [if_neg h1, if_neg h1]
  by_cases h2 : x = 2
  · rw [if_pos h2, if_pos h2, bitC]
    refine (b173_81 _ _ _ _ _ _).trans ?_
    rw [ct_trunc hn (fun i hi => by
      by_cases h64 : i < 64
      · cases hb : bt (J 5 0 13) i with
        | false => rfl
        | true => have := ((hC.1 i h64).mp hb).1; omega
      · exact bt_ge _ (by omega)), ct_congr (g := fun c => decide (¬ I 39 0 c = 0)) (w * h0) 0 0 (fun i _ hi => by
      have := hC.1 i (by omega)
      cases hb : bt (J 5 0 13) i with
      | true => exact (decide_eq_true (this.mp hb).2).symm
      | false =>
        refine (decide_eq_false (fun z => ?_)).symm
        rw [this.mpr ⟨by omega, z⟩] at hb
        exact absurd hb (by decide))]
  rw [if_neg h2, if_neg h2]
  by_cases h3 : x = 3
  · rw [if_pos h3, if_pos h3, keptC (d + 1) I J T hW.2.2.1 hn]
    refine (b173_89 _ _ _ _ _ _).trans ?_
    rw [ct_congr (g := fun c => decide (¬ I 28 6 c = -1)) (w * h0) 0 0 (fun i _ hi => by
      rw [(hC.2 i (by omega)).2.2.2.2.2.1])]
  rw [if_neg h3, if_neg h3]
  by_cases h4 : x = 4
  · rw [if_pos h4, if_pos h4, ownedC]
    refine (b173_104 _ _ _ _ _ _ _).trans ?_
    rw [bitC]
    refine (b173_112 _ _ _ _ _ _).trans ?_
    have hbit : ∀ i, bt (J 5 0 12 &&& (OWN J ^^^ (-1))) i = decide (i < w * h0 ∧ I 28 7 i = -1) := by
      intro i
      by_cases h64 : i < 64
      · rw [bt_and, bt_not, (hM i h64).1]
        have := OWN_iff hD ho6 h64
        by_cases hin : i < w * h0
        · by_cases hw : I 28 7 i = -1
          · have : bt (OWN J) i = false := by
              cases hb : bt (OWN J) i with
              | false => rfl
              | true => exact absurd hw (this.mp hb).2
            simp [hin, hw, h64, this]
          · have := this.mpr ⟨hin, hw⟩
            simp [hin, hw, h64, this]
        · simp [hin]
      · rw [bt_ge _ (by omega)]
        exact (decide_eq_false (fun z => by omega)).symm
    rw [ct_trunc hn (fun i hi => by rw [hbit]; exact decide_eq_false (fun z => by omega)), ct_congr (g := fun c => decide (I 28 7 c = -1)) (w * h0) 0 0 (fun i _ hi => by
      rw [hbit]
      have : i < w * h0 := by omega
      simp [this])]
  rw [if_neg h4, if_neg h4]
  obtain ⟨k, hk4, hk1, hk2, -⟩ := hK
  by_cases h5 : x = 5
  · rw [if_pos h5, if_pos h5, hk1, hk2]
  rw [if_neg h5, if_neg h5]
  by_cases h6 : x = 6
  · rw [if_pos h6, if_pos h6]
    rcases hO.2 with ⟨z1, z2, z3⟩ | ⟨z1, z2, z3, z4, z5⟩
    · rw [if_pos z1, z2]
    · rw [if_neg (by omega), z2]
  rw [if_neg h6, if_neg h6]
  by_cases h7 : x = 7
  · rw [if_pos h7, if_pos h7]
    rcases hO.2 with ⟨z1, z2, z3⟩ | ⟨z1, z2, z3, z4, z5⟩
    · rw [if_pos z1, z3]
    · rw [if_neg (by omega), z4]
  rw [if_neg h7, if_neg h7]
  by_cases h8 : x = 8
  · rw [if_pos h8, if_pos h8]
    obtain ⟨t, t1, t2, t3, -⟩ := hT
    rw [t2, t3]
  rw [if_neg h8, if_neg h8]
