theorem eBd_congr {ws v : Nat → Int32} {w h : Nat} (hw : 1 ≤ w) (e : ∀ c, c < w * h → ws c = v c) : eBd ws w h = eBd v w h ∧ sBd ws w h = sBd v w h := by
  constructor
  · funext c
    unfold eBd
    have mx : c % (w + 1) < w + 1 := Nat.mod_lt _ (by omega)
    generalize c % (w + 1) = x at mx
    generalize c / (w + 1) = y
    by_cases z : 1 ≤ y ∧ y < h ∧ x < w
    · obtain ⟨y', rfl⟩ : ∃ y', y = y' + 1 := ⟨y - 1, by omega⟩
      have a1 : w * (y' + 1) + x < w * h := by
        have : w * (y' + 1 + 1) ≤ w * h := Nat.mul_le_mul_left w (by omega)
        rw [Nat.mul_succ] at this
        omega
      have a2 : w * y' + x < w * h := by
        have : w * y' ≤ w * (y' + 1) := Nat.mul_le_mul_left w (by omega)
        omega
      rw [show y' + 1 - 1 = y' by omega, e _ a1, e _ a2]
    · rw [decide_eq_false (fun q => z ⟨q.1, q.2.1, q.2.2.1⟩), decide_eq_false (fun q => z ⟨q.1, q.2.1, q.2.2.1⟩)]
  · funext c
    unfold sBd
    generalize c % (w + 1) = x
    generalize c / (w + 1) = y
    by_cases z : 1 ≤ x ∧ x < w ∧ y < h
    · have a1 : w * y + x < w * h := by
        have : w * (y + 1) ≤ w * h := Nat.mul_le_mul_left w (by omega)
        rw [Nat.mul_succ] at this
        omega
      rw [e _ a1, e _ (show w * y + x - 1 < w * h by omega)]
    · rw [decide_eq_false (fun q => z ⟨q.1, q.2.1, q.2.2.1⟩), decide_eq_false (fun q => z ⟨q.1, q.2.1, q.2.2.1⟩)]
theorem call30 (L d : Nat) : Cl30 (Inv L) (d + 6) 8 400 := by
  intro m hm
  obtain ⟨I, J, T, rfl, h⟩ := hm
  obtain ⟨hN, hT, hA, w, h0, o, hwo, hB, hW, hM, hC, hD, hO, hK, hP⟩ := id h
  have hn := relW_le hW
  have n9 : I 5 0 9 = nn (w * h0) := hW.2.2.1
  have n24 : I 14 0 24 = nn (w * h0) := hW.2.2.2.2.2.1
  obtain ⟨t, ht4, k1, k2, k3, k4⟩ := id hK
  rcases Nat.eq_zero_or_pos (w * h0) with hz | hp
  · have z9 : I 5 0 9 ≤ 0 := by rw [n9, hz]; decide
    have z24 : (up3 I 11 0 15 1) 14 0 24 = 0 := by show I 14 0 24 = 0; rw [n24, hz]; rfl
    refine ⟨-1, MX (up3 I 11 0 15 1) J T, MX (up3 (up3 (up3 (up3 I 11 0 15 1) 14 0 0 0) 14 0 1 1) 14 0 2 (-1)) J T, ?_, fun _ => rfl, rfl, ?_, ⟨_, _, _, rfl, rel_tr 1 (by decide) h⟩, Nat.le_add_right _ _, Nat.le_add_right _ _⟩
    · simp only [c165, c74, if_pos z9, ret9, b165_7, j00, not_true_eq_false, if_false, c20, b165_15]
    · rw [c276, if_neg (fun z => z z24), c187]
      simp only [ret9]
      rw [b276_17]
  · have z9 : ¬ I 5 0 9 ≤ 0 := by rw [n9, le0 (by omega)]; omega
    have hg := relGW hW hp
    obtain ⟨-, -, hw1, hw8, hh1, hh8⟩ := id hg
    have hNN := N81 hw8 hh8
    by_cases ht0 : t = 0
    · have e5 : I 2 0 5 = 0 := by rw [k1, ht0]; rfl
      have e27 : (up3 I 11 0 15 5) 14 0 27 = 0 := by show I 14 0 27 = 0; rw [k2, ht0]; rfl
      have z24 : ¬ (up3 I 11 0 15 5) 14 0 24 = 0 := by show ¬ I 14 0 24 = 0; rw [n24, eq0n (by omega)]; omega
      refine ⟨-1, MX (up3 I 11 0 15 5) J T, MX (up3 (up3 (up3 (up3 I 11 0 15 5) 14 0 0 0) 14 0 1 5) 14 0 2 (-1)) J T, ?_, fun _ => rfl, rfl, ?_, ⟨_, _, _, rfl, rel_tr 5 (by decide) h⟩, Nat.le_add_right _ _, Nat.le_add_right _ _⟩
      · rw [c165, c74, if_neg z9]
        simp only [ret9]
        rw [b165_7, if_pos (by decide), e5, if_neg (fun q => q rfl), c20]
        simp only [ret9]
        rw [b165_31]
      · rw [c276, if_pos z24, if_neg (fun q => q e27), c187]
        simp only [ret9]
        rw [b276_30]
    · have e5 : ¬ I 2 0 5 = 0 := by rw [k1, eq0n (by omega)]; exact ht0
      have hws : ∀ c, c < w * h0 → I 28 3 c = I 28 7 c := fun c hc => (hD.1 c hc).1
      have ht1 : 1 ≤ t := by omega
      have hcor0 : ∀ k, k < t → I 20 1 k = nn (I 20 1 k).toNatClampNeg ∧ (I 20 1 k).toNatClampNeg < (w + 1) * (h0 + 1) := fun k hk => by
        obtain ⟨a, p, p1, p2⟩ := k4 k hk
        rw [p2, nn_idx (by omega)]
        exact ⟨rfl, p1⟩
      generalize hcc : (fun k => (I 20 1 k).toNatClampNeg) = cor
      have hcR : ∀ k, k < t → I 20 1 k = nn (cor k) ∧ cor k < (w + 1) * (h0 + 1) := fun k hk => by rw [← hcc]; exact hcor0 k hk
      have hcC : ∀ k, k < t → I 20 0 k = nn (cor k) ∧ cor k < (w + 1) * (h0 + 1) := fun k hk => by rw [(k4 k hk).1]; exact hcR k hk
      -- the reference, whatever the class left
      have RM : ∀ (I1 : PI), GW I1 w h0 → I1 14 0 24 = nn (w * h0) → I1 14 0 27 = nn t → I1 20 1 = I 20 1 → I1 28 7 = I 28 7 → ∃ (le2 : Nat → Int32) (vr' : Nat → Nat), cal (d + 6) 276 [vr 14 0] (MX I1 J T) = some (.inl (some (vi (if vr' (cor 0) < 1000000 then nn (vr' (cor 0)) else -1))), MX (up3 (up3 (upA (up3 I1 14 0 0 0) 36 0 le2) 14 0 1 (if vr' (cor 0) < 1000000 then 0 else 6)) 14 0 2 (-1)) J T) ∧ RPG (AJd (eBd (I 28 7) w h0) (sBd (I 28 7) w h0) (w + 1)) cor t ((w + 1) * (h0 + 1)) 1000000 (2 ^ t - 1) vr' := by
        intro I1 g1 m24 m27 i20 i7
        obtain ⟨le2, vr', p3, p4, p5, e, q⟩ := setsR (d + 3) (up3 I1 14 0 0 0) J T (w := w) (h := h0) g1 ht1 ht4 m27 (fun k hk => by show I1 20 1 k = _ ∧ _; rw [i20]; exact hcR k hk) (2 ^ t - 1) 1 ((up3 I1 14 0 0 0) 36 0) (fun _ _ => 0) none none none (by have := Nat.pow_pos (n := t) (show 0 < 2 by omega); omega) (Nat.le_refl 1) (fun P a b => absurd b (by omega))
        rw [upA_id] at e
        change RPG (AJd (eBd (I1 28 7) w h0) (sBd (I1 28 7) w h0) (w + 1)) cor t ((w + 1) * (h0 + 1)) 1000000 (2 ^ t - 1) vr' at q
        rw [i7] at q
        refine ⟨le2, vr', ?_, q⟩
        have eN : (I1 14 0 22 + 1) * (I1 14 0 23 + 1) = nn ((w + 1) * (h0 + 1)) := by rw [g1.1, g1.2.1, nn_add1, nn_add1, nn_mul]
        rw [c276, if_pos (by rw [m24, eq0n (by omega)]; omega), if_pos (by rw [m27, eq0n (by omega)]; omega), eN]
        refine Eq.trans e ?_
        by_cases z : vr' (cor 0) < 1000000
        · rw [if_pos z, if_pos z, if_pos z, c215]
          simp only [ret9]
          rw [b276_252]
        · rw [if_neg z, if_neg z, if_neg z, c187]
          simp only [ret9]
          rw [b276_244]
      by_cases ht2 : 2 ≤ t
      · -- the class
        obtain ⟨wy, ew, qw⟩ := waysC (d + 3) I J T (ws := I 28 7) hW.1 hW.2.1 hw8 hh8 hws
        obtain ⟨lc, vc, el, ql⟩ := groupsD (d + 1) (upA I 29 0 wy) J T (ws := I 28 7) (w := w) (h := h0) hW hp hw8 hh8 ht2 ht4 k1 hcC qw (2 ^ (t - 1) - 1) 1 ((upA I 29 0 wy) 35 0) (fun _ _ => 0) (by have := Nat.pow_pos (n := t - 1) (show 0 < 2 by omega); omega) (Nat.le_refl 1) (fun P a b => absurd b (by omega))
        rw [upA_id] at el
        have ti := tb_ish ⟨t - 1, by omega⟩
        dsimp only at ti
        have hp8 : 2 ^ (t - 1) ≤ 8 ∧ 2 ≤ 2 ^ (t - 1) := by
          have := pw4 (show t - 1 < 4 by omega); omega
        have e166 : cal (d + 5) 166 [vr 2 0] (MX I J T) = some (.inl (some (vi (if vc (cor (t - 1)) < 1000 then nn (vc (cor (t - 1))) else -1))), MX (upA (upA I 29 0 wy) 35 0 lc) J T) := by
          rw [c166, k1, if_neg (by rw [show (2 : Int32) = nn 2 from rfl, nn_lt (by omega) (by omega)]; omega), if_pos (show nn t ≤ 4 from (nn_le (b := 4) (by omega) (by omega)).mpr ht4), ew]
          simp only [ret9]
          have e5' : (upA I 29 0 wy) 2 0 5 = nn t := k1
          rw [b166_22, e5', show nn t - 1 = nn (t - 1) from nn_sub (b := 1) (by omega), ti, show nn (2 ^ (t - 1)) - 1 = nn (2 ^ (t - 1) - 1) from nn_sub (b := 1) (by omega)]
          exact el
        have hA' : ∀ u v, AJd (eBd (I 28 7) w h0) (sBd (I 28 7) w h0) (w + 1) u v → u < (w + 1) * (h0 + 1) ∧ v < (w + 1) * (h0 + 1) := fun u v q => by
          rcases q with ⟨q1, q2⟩ | ⟨q1, q2⟩ | ⟨q1, q2⟩ | ⟨q1, q2⟩
          · have := e_lt q1; omega
          · have := e_lt q1; omega
          · have := s_lt q1; omega
          · have := s_lt q1; omega
        have DQ := fun (vr' : Nat → Nat) (q : RPG (AJd (eBd (I 28 7) w h0) (sBd (I 28 7) w h0) (w + 1)) cor t ((w + 1) * (h0 + 1)) 1000000 (2 ^ t - 1) vr') => dq (AJ_s (eBd (I 28 7) w h0) (sBd (I 28 7) w h0) (w + 1)) hA' hNN (fun k hk => (hcR k hk).2) ht2 ht4 ql q
        by_cases zc : vc (cor (t - 1)) < 1000
        · obtain ⟨lr, vr', er, qr⟩ := RM (up3 (upA (upA I 29 0 wy) 35 0 lc) 11 0 15 0) hg n24 k2 rfl rfl
          rcases DQ vr' qr with ⟨-, y2, y3⟩ | ⟨y1, -⟩
          · rw [if_pos y2, if_pos y2] at er
            refine ⟨nn (vc (cor (t - 1))), MX (up3 (upA (upA I 29 0 wy) 35 0 lc) 11 0 15 0) J T, MX (up3 (up3 (upA (up3 (up3 (upA (upA I 29 0 wy) 35 0 lc) 11 0 15 0) 14 0 0 0) 36 0 lr) 14 0 1 0) 14 0 2 (-1)) J T, ?_, fun _ => rfl, rfl, by rw [er, y3], ⟨_, _, _, rfl, hN, hT, ⟨hA.1, rfl, rfl, hA.2.2.2⟩, w, h0, o, hwo, hB, hW, hM, hC, hD, hO, hK, hP⟩, Nat.le_add_right _ _, Nat.le_add_right _ _⟩
            rw [c165, c74, if_neg z9]
            simp only [ret9]
            rw [b165_7, if_pos (by decide), if_pos e5, e166, if_pos zc]
            simp only [ret9]
            rw [b165_39, if_pos (nn_ne_neg (by omega)), c51]
            simp only [ret9]
            rw [b165_59]
          · exact absurd zc y1
        · obtain ⟨lr, vr', er, qr⟩ := RM (up3 (upA (upA I 29 0 wy) 35 0 lc) 11 0 15 6) hg n24 k2 rfl rfl
          rcases DQ vr' qr with ⟨y1, -⟩ | ⟨-, y2⟩
          · exact absurd y1 zc
          · rw [if_neg y2, if_neg y2] at er
            refine ⟨-1, MX (up3 (upA (upA I 29 0 wy) 35 0 lc) 11 0 15 6) J T, MX (up3 (up3 (upA (up3 (up3 (upA (upA I 29 0 wy) 35 0 lc) 11 0 15 6) 14 0 0 0) 36 0 lr) 14 0 1 6) 14 0 2 (-1)) J T, ?_, fun _ => rfl, rfl, er, ⟨_, _, _, rfl, hN, hT, ⟨hA.1, rfl, rfl, hA.2.2.2⟩, w, h0, o, hwo, hB, hW, hM, hC, hD, hO, hK, hP⟩, Nat.le_add_right _ _, Nat.le_add_right _ _⟩
            rw [c165, c74, if_neg z9]
            simp only [ret9]
            rw [b165_7, if_pos (by decide), if_pos e5, e166, if_neg zc]
            simp only [ret9]
            rw [b165_39, if_neg (fun q => q rfl), c20]
            simp only [ret9]
            rw [b165_51]
      · have ht1' : t = 1 := by omega
        obtain ⟨lr, vr', er, qr⟩ := RM (up3 I 11 0 15 0) hg n24 k2 rfl rfl
        have h0' : vr' (cor 0) = 0 := by
          have := (qr (cor 0) (hcR 0 (by omega)).2).2.2 0 (by rw [ht1']; exact BG_1 _ cor 1 (k := 0) (by omega) rfl)
          omega
        rw [h0', if_pos (by omega), if_pos (by omega)] at er
        refine ⟨0, MX (up3 I 11 0 15 0) J T, MX (up3 (up3 (upA (up3 (up3 I 11 0 15 0) 14 0 0 0) 36 0 lr) 14 0 1 0) 14 0 2 (-1)) J T, ?_, fun _ => rfl, rfl, er, ⟨_, _, _, rfl, hN, hT, ⟨hA.1, rfl, rfl, hA.2.2.2⟩, w, h0, o, hwo, hB, hW, hM, hC, hD, hO, hK, hP⟩, Nat.le_add_right _ _, Nat.le_add_right _ _⟩
        rw [c165, c74, if_neg z9]
        simp only [ret9]
        rw [b165_7, if_pos (by decide), if_pos e5, c166, k1, if_pos (show nn t < 2 from (nn_lt (b := 2) (by omega) (by omega)).mpr (by omega))]
        simp only [ret9]
        rw [b165_39, if_pos (by decide), c51]
        simp only [ret9]
        rw [b165_59]
