/-! What bars a drawing: the reference; the call bars -/
theorem up3_up3 {α : Type} (f : Nat → Nat → Nat → α) (k j i : Nat) (u v : α) : up3 (up3 f k j i u) k j i v = up3 f k j i v := by
  funext a b c
  unfold up3
  by_cases h1 : a = k
  · by_cases h2 : b = j
    · by_cases h3 : c = i <;> simp [h1, h2, h3]
    · simp [h1, h2]
  · simp [h1]
theorem hm_14 (I : PI) (Q S : Nat → Int32) (i : Nat) (v : Int32) : HM (up3 I 14 0 i v) Q S = up3 (HM I Q S) 14 0 i v := by
  unfold HM
  funext a b c
  unfold up3 upA
  by_cases h1 : a = 14
  · subst h1; simp
  · simp [h1]
theorem hm_hm (I : PI) (Q S Q2 S2 : Nat → Int32) : HM (HM I Q S) Q2 S2 = HM I Q2 S2 := by
  unfold HM
  funext a b c
  unfold upA
  by_cases h1 : a = 39
  · subst h1
    by_cases h2 : b = 1 <;> simp [h2]
  · by_cases h3 : a = 28
    · subst h3
      by_cases h2 : b = 8 <;> simp [h2]
    · simp [h1, h3]
section BARM
variable (d : Nat) {w h o b : Nat} (I : PI) (J : PJ) (T : TL)
theorem barM {v a : Nat} (hg : GW I w h) (hn : I 14 0 24 = nn (w * h)) (hob : I 12 b 0 = nn o) (ho6 : o ≤ 6) (hB : BS (I 28 7) (I 28 6) (I 39 0) w h o (I 14 0 25) v a) : ∃ (Q S : Nat → Int32) (x : Int32), cal (d + 3) 251 [vr 14 0] (MX I J (TB T b)) = some (.inl (some (vi (nn v))), MX (up3 (HM I Q S) 14 0 42 x) J (TB T b)) ∧ (¬ v = 0 → x = nn a) := by
  obtain ⟨g1, g2, hw1, hw8, hh1, hh8⟩ := id hg
  have h64 : w * h ≤ 64 := Nat.mul_le_mul hw8 hh8
  have st1 : ∀ s, s ≤ w * h → (∀ c, c < s → ¬ B1 (I 28 7) (I 39 0) c) → den (d + 3) 251 5 [some (vr 14 0)] [] (MX (up3 I 14 0 42 (nn 0)) J (TB T b)) = den (d + 3) 251 5 [some (vr 14 0)] [] (MX (up3 I 14 0 42 (nn s)) J (TB T b)) := fun s hs hno =>
    for_find (s := s) (Lp := fun c => den (d + 3) 251 5 [some (vr 14 0)] [] (MX (up3 I 14 0 42 (nn c)) J (TB T b))) (fun c hc => by
      have hr : inR (nn c) 64 = true := nn_inR (by omega) (by omega)
      rw [b251_5]
      show (if I 14 0 24 ≤ nn c then _ else (if inR (nn c) 64 = true then (if ¬ I 28 7 (nn c).toNatClampNeg = -1 then den (d + 3) 251 5 [some (vr 14 0)] [] (MX (up3 (up3 I 14 0 42 (nn c)) 14 0 42 (nn c + 1)) J (TB T b)) else (if inR (nn c) 64 = true then (if ¬ I 39 0 (nn c).toNatClampNeg = 0 then den (d + 3) 251 5 [some (vr 14 0)] [] (MX (up3 (up3 I 14 0 42 (nn c)) 14 0 42 (nn c + 1)) J (TB T b)) else _) else none)) else none)) = _
      rw [hn, if_neg (by rw [nn_le (by omega) (by omega)]; omega), if_pos hr, nn_idx (by omega), up3_up3, nn_add1]
      by_cases z : I 28 7 c = -1
      · rw [if_neg (fun y => y z), if_pos hr, if_pos (fun y => hno c hc ⟨z, y⟩)]
      · rw [if_pos z]) s 0 (by omega)
  have st2 : ∀ s, s ≤ w * h → (∀ c, c < s → ¬ B2 (I 28 7) (I 28 6) c) → den (d + 3) 251 61 [some (vr 14 0)] [] (MX (up3 I 14 0 42 (nn 0)) J (TB T b)) = den (d + 3) 251 61 [some (vr 14 0)] [] (MX (up3 I 14 0 42 (nn s)) J (TB T b)) := fun s hs hno =>
    for_find (s := s) (Lp := fun c => den (d + 3) 251 61 [some (vr 14 0)] [] (MX (up3 I 14 0 42 (nn c)) J (TB T b))) (fun c hc => by
      have hr : inR (nn c) 64 = true := nn_inR (by omega) (by omega)
      rw [b251_61]
      show (if I 14 0 24 ≤ nn c then _ else (if inR (nn c) 64 = true then (if I 28 6 (nn c).toNatClampNeg = -1 then den (d + 3) 251 61 [some (vr 14 0)] [] (MX (up3 (up3 I 14 0 42 (nn c)) 14 0 42 (nn c + 1)) J (TB T b)) else (if inR (nn c) 64 = true then (if inR (nn c) 64 = true then (if I 28 7 (nn c).toNatClampNeg = I 28 6 (nn c).toNatClampNeg then den (d + 3) 251 61 [some (vr 14 0)] [] (MX (up3 (up3 I 14 0 42 (nn c)) 14 0 42 (nn c + 1)) J (TB T b)) else _) else none) else none)) else none)) = _
      rw [hn, if_neg (by rw [nn_le (by omega) (by omega)]; omega), if_pos hr, nn_idx (by omega), up3_up3, nn_add1]
      by_cases z : I 28 6 c = -1
      · rw [if_pos z]
      · rw [if_neg z, if_pos hr, if_pos hr, if_pos]
        apply Classical.byContradiction
        intro y
        exact hno c hc ⟨z, y⟩) s 0 (by omega)
  have hgk : ∀ (k : Nat) (Q S : Nat → Int32), k < o → ∃ Q2 S2 : Nat → Int32, den (d + 3) 251 126 [some (vr 14 0)] [] (MX (up3 (HM I Q S) 14 0 42 (nn k)) J (TB T b)) = den (d + 3) 251 152 [some (vr 14 0)] [vi (bi (HT w h (FL (I 28 7) k)))] (MX (up3 (HM I Q2 S2) 14 0 42 (nn k)) J (TB T b)) := fun k Q S hk => by
    obtain ⟨Q2, S2, e⟩ := hangM d (w := w) (h := h) (up3 (HM I Q S) 14 0 42 (nn k)) J (TB T b) 7 (nn k) hg hn (by omega)
    refine ⟨Q2, S2, ?_⟩
    rw [b251_126]
    show (if I 12 b 0 ≤ nn k then _ else ret9 _ _ _ _ _ _ (cal (d + 2) 252 [vr 14 0, vr 28 7, vi (nn k)] _)) = _
    rw [hob, if_neg (by rw [nn_le (by omega) (by omega)]; omega), e]
    simp only [ret9]
    rw [hm_14, hm_hm]
    rfl
  have st3 : ∀ m k s (Q S : Nat → Int32), k + m = s → s ≤ o → (∀ k, k < s → HT w h (FL (I 28 7) k)) → ∃ Q2 S2 : Nat → Int32, den (d + 3) 251 126 [some (vr 14 0)] [] (MX (up3 (HM I Q S) 14 0 42 (nn k)) J (TB T b)) = den (d + 3) 251 126 [some (vr 14 0)] [] (MX (up3 (HM I Q2 S2) 14 0 42 (nn s)) J (TB T b)) := by
    intro m
    induction m with
    | zero =>
      intro k s Q S hk hs _
      exact ⟨Q, S, by rw [← hk]; rfl⟩
    | succ m ih =>
      intro k s Q S hk hs hno
      obtain ⟨Q2, S2, e⟩ := hgk k Q S (by omega)
      obtain ⟨Q3, S3, e3⟩ := ih (k + 1) s Q2 S2 (by omega) hs hno
      refine ⟨Q3, S3, e.trans (Eq.trans ?_ e3)⟩
      rw [b251_152, bi1 (hno k (by omega)), if_pos (by decide)]
      show den (d + 3) 251 126 [some (vr 14 0)] [] (MX (up3 (up3 (HM I Q2 S2) 14 0 42 (nn k)) 14 0 42 (nn k + 1)) J (TB T b)) = _
      rw [up3_up3, nn_add1]
  have st4 : ∀ (Q S : Nat → Int32) s, I 14 0 25 = 2 → s ≤ w * h → (∀ c, c < s → ¬ B4 (I 28 7) w h c) → den (d + 3) 251 175 [some (vr 14 0)] [] (MX (up3 (HM I Q S) 14 0 42 (nn 0)) J (TB T b)) = den (d + 3) 251 175 [some (vr 14 0)] [] (MX (up3 (HM I Q S) 14 0 42 (nn s)) J (TB T b)) := fun Q S s hwd hs hno =>
    for_find (s := s) (Lp := fun c => den (d + 3) 251 175 [some (vr 14 0)] [] (MX (up3 (HM I Q S) 14 0 42 (nn c)) J (TB T b))) (fun c hc => by
      have hr : inR (nn c) 64 = true := nn_inR (by omega) (by omega)
      have es := squareM (d + 1) (w := w) (h := h) (c := c) (up3 (HM I Q S) 14 0 42 (nn c)) J (TB T b) hg (by omega)
      rw [b251_175]
      show (if I 14 0 24 ≤ nn c then _ else (if ¬ I 14 0 25 = 2 then _ else (if inR (nn c) 64 = true then (if I 28 7 (nn c).toNatClampNeg = -1 then den (d + 3) 251 175 [some (vr 14 0)] [] (MX (up3 (up3 (HM I Q S) 14 0 42 (nn c)) 14 0 42 (nn c + 1)) J (TB T b)) else ret9 _ _ _ _ _ _ (cal (d + 2) 253 [vr 14 0, vi (nn c)] _)) else none))) = _
      rw [hn, if_neg (by rw [nn_le (by omega) (by omega)]; omega), if_neg (fun z => z hwd), if_pos hr, nn_idx (by omega), up3_up3, nn_add1]
      by_cases z : I 28 7 c = -1
      · rw [if_pos z]
      · have hcv : COV w h (fun i => decide ((up3 (HM I Q S) 14 0 42 (nn c)) 28 7 i = (up3 (HM I Q S) 14 0 42 (nn c)) 28 7 c)) c := Classical.byContradiction (fun y => hno c hc ⟨z, y⟩)
        rw [if_neg z, es, bi1 hcv]
        simp only [ret9]
        rw [b251_215, if_pos (by decide)]
        show den (d + 3) 251 175 [some (vr 14 0)] [] (MX (up3 (up3 (HM I Q S) 14 0 42 (nn c)) 14 0 42 (nn c + 1)) J (TB T b)) = _
        rw [up3_up3, nn_add1]) s 0 (by omega)
  have fin1 : non9 (B1 (I 28 7) (I 39 0)) (w * h) → cal (d + 3) 251 [vr 14 0] (MX I J (TB T b)) = den (d + 3) 251 61 [some (vr 14 0)] [] (MX (up3 I 14 0 42 (nn 0)) J (TB T b)) := fun q1 => by
    rw [c251]
    refine (st1 (w * h) (Nat.le_refl _) q1).trans ?_
    rw [b251_5]
    show (if I 14 0 24 ≤ nn (w * h) then den (d + 3) 251 61 [some (vr 14 0)] [] (MX (up3 (up3 I 14 0 42 (nn (w * h))) 14 0 42 0) J (TB T b)) else _) = _
    rw [hn, if_pos (Int32.le_refl _), up3_up3]
    rfl
  have fin2 : non9 (B2 (I 28 7) (I 28 6)) (w * h) → den (d + 3) 251 61 [some (vr 14 0)] [] (MX (up3 I 14 0 42 (nn 0)) J (TB T b)) = den (d + 3) 251 126 [some (vr 14 0)] [] (MX (up3 (HM I (I 28 8) (I 39 1)) 14 0 42 (nn 0)) J (TB T b)) := fun q2 => by
    refine (st2 (w * h) (Nat.le_refl _) q2).trans ?_
    rw [b251_61]
    show (if I 14 0 24 ≤ nn (w * h) then den (d + 3) 251 126 [some (vr 14 0)] [] (MX (up3 (up3 I 14 0 42 (nn (w * h))) 14 0 42 0) J (TB T b)) else _) = _
    rw [hn, if_pos (Int32.le_refl _), up3_up3, hm_id]
    rfl
  have fin3 : non9 (B3 (I 28 7) w h) o → ∃ Q S : Nat → Int32, den (d + 3) 251 126 [some (vr 14 0)] [] (MX (up3 (HM I (I 28 8) (I 39 1)) 14 0 42 (nn 0)) J (TB T b)) = den (d + 3) 251 175 [some (vr 14 0)] [] (MX (up3 (HM I Q S) 14 0 42 (nn 0)) J (TB T b)) := fun q3 => by
    obtain ⟨Q2, S2, e⟩ := st3 o 0 o (I 28 8) (I 39 1) (by omega) (Nat.le_refl _) (fun k hk => Classical.byContradiction (fun y => q3 k hk y))
    refine ⟨Q2, S2, e.trans ?_⟩
    rw [b251_126]
    show (if I 12 b 0 ≤ nn o then den (d + 3) 251 175 [some (vr 14 0)] [] (MX (up3 (up3 (HM I Q2 S2) 14 0 42 (nn o)) 14 0 42 0) J (TB T b)) else _) = _
    rw [hob, if_pos (Int32.le_refl _), up3_up3]
    rfl
  rcases hB with ⟨rfl, q1⟩ | ⟨rfl, q1, q2⟩ | ⟨rfl, q1, q2, q3⟩ | ⟨rfl, q1, q2, q3, q4, q5⟩ | ⟨rfl, q1, q2, q3, q4⟩
  · obtain ⟨a1, a2, a3⟩ := q1
    refine ⟨I 28 8, I 39 1, nn a, ?_, fun _ => rfl⟩
    rw [c251, hm_id]
    refine (st1 a (by omega) a3).trans ?_
    have hr : inR (nn a) 64 = true := nn_inR (by omega) (by omega)
    rw [b251_5]
    show (if I 14 0 24 ≤ nn a then _ else (if inR (nn a) 64 = true then (if ¬ I 28 7 (nn a).toNatClampNeg = -1 then _ else (if inR (nn a) 64 = true then (if ¬ I 39 0 (nn a).toNatClampNeg = 0 then _ else _) else none)) else none)) = _
    rw [hn, if_neg (by rw [nn_le (by omega) (by omega)]; omega), if_pos hr, nn_idx (by omega), if_neg (fun z => z a2.1), if_pos hr, if_neg (fun z => z a2.2)]
    rfl
  · obtain ⟨a1, a2, a3⟩ := q2
    refine ⟨I 28 8, I 39 1, nn a, ?_, fun _ => rfl⟩
    rw [hm_id]
    refine (fin1 q1).trans ((st2 a (by omega) a3).trans ?_)
    have hr : inR (nn a) 64 = true := nn_inR (by omega) (by omega)
    rw [b251_61]
    show (if I 14 0 24 ≤ nn a then _ else (if inR (nn a) 64 = true then (if I 28 6 (nn a).toNatClampNeg = -1 then _ else (if inR (nn a) 64 = true then (if inR (nn a) 64 = true then (if I 28 7 (nn a).toNatClampNeg = I 28 6 (nn a).toNatClampNeg then _ else _) else none) else none)) else none)) = _
    rw [hn, if_neg (by rw [nn_le (by omega) (by omega)]; omega), if_pos hr, nn_idx (by omega), if_neg a2.1, if_pos hr, if_pos hr, if_neg a2.2]
    rfl
  · obtain ⟨a1, a2, a3⟩ := q3
    obtain ⟨Q2, S2, e2⟩ := st3 a 0 a (I 28 8) (I 39 1) (by omega) (by omega) (fun k hk => Classical.byContradiction (fun y => a3 k hk y))
    obtain ⟨Q3, S3, e3⟩ := hgk a Q2 S2 a1
    refine ⟨Q3, S3, nn a, (fin1 q1).trans ((fin2 q2).trans (e2.trans (e3.trans ?_))), fun _ => rfl⟩
    rw [b251_152, bi0 a2, if_neg (by decide)]
    rfl
  · obtain ⟨a1, a2, a3⟩ := q5
    obtain ⟨Q2, S2, e2⟩ := fin3 q3
    have hr : inR (nn a) 64 = true := nn_inR (by omega) (by omega)
    have es := squareM (d + 1) (w := w) (h := h) (c := a) (up3 (HM I Q2 S2) 14 0 42 (nn a)) J (TB T b) hg a1
    have hcv : ¬ COV w h (fun i => decide ((up3 (HM I Q2 S2) 14 0 42 (nn a)) 28 7 i = (up3 (HM I Q2 S2) 14 0 42 (nn a)) 28 7 a)) a := a2.2
    refine ⟨Q2, S2, nn a, (fin1 q1).trans ((fin2 q2).trans (e2.trans ((st4 Q2 S2 a q4 (by omega) a3).trans ?_))), fun _ => rfl⟩
    rw [b251_175]
    show (if I 14 0 24 ≤ nn a then _ else (if ¬ I 14 0 25 = 2 then _ else (if inR (nn a) 64 = true then (if I 28 7 (nn a).toNatClampNeg = -1 then _ else ret9 _ _ _ _ _ _ (cal (d + 2) 253 [vr 14 0, vi (nn a)] _)) else none))) = _
    rw [hn, if_neg (by rw [nn_le (by omega) (by omega)]; omega), if_neg (fun z => z q4), if_pos hr, nn_idx (by omega), if_neg a2.1, es, bi0 hcv]
    simp only [ret9]
    rw [b251_215, if_neg (by decide)]
    rfl
  · obtain ⟨Q2, S2, e2⟩ := fin3 q3
    by_cases hwd : I 14 0 25 = 2
    · refine ⟨Q2, S2, nn (w * h), (fin1 q1).trans ((fin2 q2).trans (e2.trans ((st4 Q2 S2 (w * h) hwd (Nat.le_refl _) (q4 hwd)).trans ?_))), fun z => absurd rfl z⟩
      rw [b251_175]
      show (if I 14 0 24 ≤ nn (w * h) then _ else _) = _
      rw [hn, if_pos (Int32.le_refl _)]
      rfl
    · refine ⟨Q2, S2, nn 0, (fin1 q1).trans ((fin2 q2).trans (e2.trans ?_)), fun z => absurd rfl z⟩
      rw [b251_175]
      show (if I 14 0 24 ≤ nn 0 then _ else (if ¬ I 14 0 25 = 2 then _ else _)) = _
      rw [if_pos hwd]
      by_cases z : I 14 0 24 ≤ nn 0
      · rw [if_pos z]; rfl
      · rw [if_neg z]; rfl
end BARM
theorem relO_wd {I : PI} {n o : Nat} (hO : RelO I n o) (hp : 0 < n) : I 5 0 10 = I 14 0 25 := by
  rcases hO.2 with z | z
  · omega
  · exact z.2.1
theorem call15 (L d : Nat) : Cl15 (Inv L) (d + 5) 8 400 := by
  intro m hm
  obtain ⟨I, J, T, rfl, h⟩ := hm
  obtain ⟨hN, hT, hA, w, h0, o, hwo, hB, hW, hM, hC, hD, hO, hK, hP⟩ := id h
  have hn := relW_le hW
  obtain ⟨ho, ho6⟩ := relB_o hB
  have hno : 0 < w * h0 → 0 < o := fun z => hwo (pos_l z)
  have n9 : I 5 0 9 = nn (w * h0) := hW.2.2.1
  have n24 : I 14 0 24 = nn (w * h0) := hW.2.2.2.2.2.1
  rcases Nat.eq_zero_or_pos (w * h0) with hz | hp
  · have z9 : I 5 0 9 ≤ 0 := by rw [n9, hz]; decide
    have z24 : (up3 I 11 0 15 1) 14 0 24 = 0 := by show I 14 0 24 = 0; rw [n24, hz]; rfl
    refine ⟨-1, MX (up3 I 11 0 15 1) J T, MX (up3 (up3 (up3 (up3 I 11 0 15 1) 14 0 0 0) 14 0 1 1) 14 0 2 (-1)) J T, ?_, fun _ => rfl, rfl, ?_, ⟨_, _, _, rfl, rel_tr 1 (by decide) h⟩, Nat.le_add_right _ _, Nat.le_add_right _ _⟩
    · simp only [c104, c74, if_pos z9, ret9, b104_7, j00, not_true_eq_false, if_false, c20, b104_15]
    · rw [c250, if_neg (fun z => z z24), c187]
      simp only [ret9, b250_17]
  · have z9 : ¬ I 5 0 9 ≤ 0 := by rw [n9, le0 (by omega)]; omega
    obtain ⟨b, hmb⟩ := relmb hB (hno hp)
    have hob : I 12 b 0 = nn o := (relVN hB hW hO hp hmb).2.2.2.1
    obtain ⟨v, a, hv4, hBS⟩ := BS_ex (I 28 7) (I 28 6) (I 39 0) w h0 o (I 5 0 10)
    have ec := barC d I J T hW hp hM hC hD ho6 hBS
    generalize hx : (if v = 0 then (-2 : Int32) else nn a) = x at ec
    have hg := relGW hW hp
    rw [relO_wd hO hp] at hBS
    obtain ⟨Q, S, y, em, hy⟩ := barM (d + 1) (w := w) (h := h0) (o := o) (b := b) (v := v) (a := a) (up3 (up3 (up3 (up3 I 3 0 3 x) 11 0 13 x) 11 0 15 0) 14 0 0 0) J T hg n24 hob ho6 hBS
    rw [TBe hmb] at em
    have z24 : ¬ (up3 (up3 (up3 I 3 0 3 x) 11 0 13 x) 11 0 15 0) 14 0 24 = 0 := by show ¬ I 14 0 24 = 0; rw [n24, eq0n (by omega)]; omega
    have hvx : (if v = 0 then (-2 : Int32) else y) = x := by
      rw [← hx]
      by_cases z : v = 0
      · rw [if_pos z, if_pos z]
      · rw [if_neg z, if_neg z, hy z]
    refine ⟨nn v, MX (up3 (up3 (up3 I 3 0 3 x) 11 0 13 x) 11 0 15 0) J T, MX (up3 (up3 (up3 (up3 (HM (up3 (up3 (up3 (up3 I 3 0 3 x) 11 0 13 x) 11 0 15 0) 14 0 0 0) Q S) 14 0 42 y) 14 0 28 x) 14 0 1 0) 14 0 2 (-1)) J T, ?_, fun _ => rfl, rfl, ?_, ⟨_, _, _, rfl, hN, hT, ⟨hA.1, rfl, rfl, rfl, hA.2.2.2.2⟩, w, h0, o, hwo, hB, hW, hM, hC, hD, hO, hK, hP⟩, Nat.le_add_right _ _, Nat.le_add_right _ _⟩
    · simp only [c104, c74, if_neg z9, ret9, b104_7, j10, not_false_eq_true, if_true, ec, b104_23, c51, b104_40]
      rfl
    · rw [c250, if_pos z24, em]
      simp only [ret9]
      rw [b250_22]
      by_cases z : v = 0
      · rw [if_pos z] at hvx
        subst z
        rw [if_neg (fun q => q rfl), c215, hvx]
        simp only [ret9, b250_45]
      · rw [if_neg z] at hvx
        rw [if_pos (by rw [eq0n (by omega)]; exact z), c215]
        simp only [ret9, b250_45]
        rw [show (up3 (HM (up3 (up3 (up3 (up3 I 3 0 3 x) 11 0 13 x) 11 0 15 0) 14 0 0 0) Q S) 14 0 42 y) 14 0 42 = y from rfl, hvx]
