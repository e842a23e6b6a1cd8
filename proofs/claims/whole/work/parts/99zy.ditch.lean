/-! Ditches: the reference spreads lengths -/
theorem lvl_dec {u v : Nat} {cur : Nat → Nat} (h : lvB u v cur = true) : ∃ x, (x = u ∨ x = v) ∧ lvl u v cur x < cur x := by
  have z := of_decide_eq_true h
  unfold lvl
  by_cases z1 : cur v + 1 < cur u
  · rw [if_pos z1]
    exact ⟨u, .inl rfl, by rw [upN_s]; exact z1⟩
  · rw [if_neg z1, if_pos (by omega)]
    exact ⟨v, .inr rfl, by rw [upN_s]; omega⟩
theorem sQ_le2 {f g : Nat → Nat} : ∀ n, (∀ c, c < n → f c ≤ g c) → sQ f n ≤ sQ g n
  | 0, _ => Nat.le_refl _
  | n + 1, h => by
    have h1 := sQ_le2 n (fun c hc => h c (by omega))
    have h2 := h n (by omega)
    show sQ f n + f n ≤ sQ g n + g n
    omega
theorem sQ_lt2 {f g : Nat → Nat} {x : Nat} : ∀ n, (∀ c, c < n → f c ≤ g c) → x < n → f x < g x → sQ f n < sQ g n
  | 0, _, hx, _ => absurd hx (by omega)
  | n + 1, h, hx, hl => by
    show sQ f n + f n < sQ g n + g n
    by_cases z : x = n
    · subst z
      have := sQ_le2 x (fun c hc => h c (by omega))
      omega
    · have h1 := sQ_lt2 n (fun c hc => h c (by omega)) (by omega) hl
      have h2 := h n (by omega)
      omega
section RND
variable (eB sB : Nat → Bool) (W1 : Nat) {N : Nat}
theorem stp_t (he : ∀ c, eB c = true → c + 1 < N) (hsB : ∀ c, sB c = true → c + W1 < N) (c : Nat) (p : CF) (h : (stp2 eB sB W1 c p).2 = true) : p.2 = true ∨ ∃ x, x < N ∧ (stp2 eB sB W1 c p).1 x < p.1 x := by
  rw [stp2_es] at h ⊢
  have h1 : (stpE eB c p).2 = true → p.2 = true ∨ ∃ x, x < N ∧ (stpE eB c p).1 x < p.1 x := by
    unfold stpE
    by_cases z : eB c = true
    · rw [if_pos z]
      intro y
      rw [Bool.or_eq_true] at y
      rcases y with y | y
      · exact .inl y
      · obtain ⟨x, x1, x2⟩ := lvl_dec y
        have := he c z
        exact .inr ⟨x, by omega, x2⟩
    · rw [if_neg z]; exact fun y => .inl y
  have hm : ∀ x, (stpE eB c p).1 x ≤ p.1 x := by
    intro x
    unfold stpE
    by_cases z : eB c = true
    · rw [if_pos z]; exact lvl_m _ _ _ _
    · rw [if_neg z]; exact Nat.le_refl _
  generalize stpE eB c p = q at h h1 hm ⊢
  unfold stpS at h ⊢
  by_cases z : sB c = true
  · rw [if_pos z] at h ⊢
    rw [Bool.or_eq_true] at h
    rcases h with y | y
    · rcases h1 y with a | ⟨x, x1, x2⟩
      · exact .inl a
      · exact .inr ⟨x, x1, Nat.lt_of_le_of_lt (lvl_m _ _ _ _) x2⟩
    · obtain ⟨x, x1, x2⟩ := lvl_dec y
      have := hsB c z
      exact .inr ⟨x, by omega, Nat.lt_of_lt_of_le x2 (hm x)⟩
  · rw [if_neg z] at h ⊢
    exact h1 h
theorem rnd_t (he : ∀ c, eB c = true → c + 1 < N) (hsB : ∀ c, sB c = true → c + W1 < N) (sg : Nat → Nat) : ∀ m i (p : CF), (rnd eB sB W1 sg m i p).2 = true → p.2 = true ∨ ∃ x, x < N ∧ (rnd eB sB W1 sg m i p).1 x < p.1 x
  | 0, i, p, h => .inl h
  | m + 1, i, p, h => by
    rcases rnd_t he hsB sg m (i + 1) (stp2 eB sB W1 (sg i) p) h with a | ⟨x, x1, x2⟩
    · rcases stp_t eB sB W1 he hsB (sg i) p a with b | ⟨x, x1, x2⟩
      · exact .inl b
      · exact .inr ⟨x, x1, Nat.lt_of_le_of_lt (rnd_m eB sB W1 sg m (i + 1) _ x) x2⟩
    · exact .inr ⟨x, x1, Nat.lt_of_lt_of_le x2 (stp_m eB sB W1 (sg i) p x)⟩
end RND
section DRM
variable (d : Nat) (I : PI) (J : PJ) (T : TL) {w h : Nat}
theorem brdM (hg : GW I w h) {c k : Nat} (hc : c < (w + 1) * (h + 1)) (hk : k < 2) : cal (d + 1) 278 [vr 14 0, vi (nn c), vi (nn k)] (MX I J T) = some (.inl (some (vi (b01 (if k = 0 then eBd (I 28 7) w h c else sBd (I 28 7) w h c)))), MX I J T) := by
  obtain ⟨hw, hh, hw1, hw8, hh1, hh8⟩ := id hg
  have hN := N81 hw8 hh8
  have h64 : w * h ≤ 64 := Nat.mul_le_mul hw8 hh8
  have mx : c % (w + 1) < w + 1 := Nat.mod_lt _ (by omega)
  have my : c / (w + 1) < h + 1 := Nat.div_lt_of_lt_mul hc
  have e1 : I 14 0 22 + 1 = nn (w + 1) := by rw [hw, nn_add1]
  have w0 : ¬ nn (w + 1) = 0 := by rw [eq0n (by omega)]; omega
  rw [c278, e1, if_neg w0, if_neg w0, nn_rem (by omega) (by omega), nn_div (by omega) (by omega)]
  unfold eBd sBd
  generalize c % (w + 1) = x at mx
  generalize c / (w + 1) = y at my
  have hkk : k = 0 ∨ k = 1 := by omega
  rcases hkk with rfl | rfl
  · rw [if_pos (show nn 0 = 0 from rfl), inM, hh, show nn h - 1 = nn (h - 1) from nn_sub (b := 1) hh1, if_pos rfl]
    simp only [ret9]
    rw [b278_97]
    by_cases z1 : 1 ≤ y ∧ y < h
    · rw [bi1 ⟨(nn_le (a := 1) (by omega) (by omega)).mpr z1.1, (nn_le (by omega) (by omega)).mpr (by omega)⟩, if_neg (by decide), hw]
      by_cases z2 : x < w
      · obtain ⟨y', rfl⟩ : ∃ y', y = y' + 1 := ⟨y - 1, by omega⟩
        have a1 : w * (y' + 1) + x < w * h := by
          have : w * (y' + 1 + 1) ≤ w * h := Nat.mul_le_mul_left w (by omega)
          rw [Nat.mul_succ] at this
          omega
        have a2 : w * y' + x < w * h := by
          have : w * y' ≤ w * (y' + 1) := Nat.mul_le_mul_left w (by omega)
          omega
        rw [if_neg (by rw [nn_le (by omega) (by omega)]; omega), nn_sub1, nn_mul, nn_mul, nn_add, nn_add, if_pos (nn_inR (by omega) (by omega)), if_pos (nn_inR (by omega) (by omega)), nn_idx (by omega), nn_idx (by omega), show y' + 1 - 1 = y' by omega]
        by_cases z3 : I 28 7 (w * (y' + 1) + x) = I 28 7 (w * y' + x)
        · rw [if_pos z3, decide_eq_false (fun q => q.2.2.2 z3)]; rfl
        · rw [if_neg z3, decide_eq_true ⟨z1.1, z1.2, z2, z3⟩]; rfl
      · rw [if_pos ((nn_le (by omega) (by omega)).mpr (by omega)), decide_eq_false (fun q => z2 q.2.2.1)]; rfl
    · rw [bi0 (fun q => z1 ⟨(nn_le (a := 1) (by omega) (by omega)).mp q.1, by have := (nn_le (by omega) (by omega)).mp q.2; omega⟩), if_pos rfl, decide_eq_false (fun q => z1 ⟨q.1, q.2.1⟩)]; rfl
  · rw [if_neg (by decide), inM, hw, show nn w - 1 = nn (w - 1) from nn_sub (b := 1) hw1, if_neg (show ¬ 1 = 0 by omega)]
    simp only [ret9]
    rw [b278_34]
    by_cases z1 : 1 ≤ x ∧ x < w
    · rw [bi1 ⟨(nn_le (a := 1) (by omega) (by omega)).mpr z1.1, (nn_le (by omega) (by omega)).mpr (by omega)⟩, if_neg (by decide), hh]
      by_cases z2 : y < h
      · obtain ⟨x', rfl⟩ : ∃ x', x = x' + 1 := ⟨x - 1, by omega⟩
        have a1 : w * y + (x' + 1) < w * h := by
          have : w * (y + 1) ≤ w * h := Nat.mul_le_mul_left w (by omega)
          rw [Nat.mul_succ] at this
          omega
        rw [if_neg (by rw [nn_le (by omega) (by omega)]; omega), hw, nn_mul, nn_add, show w * y + (x' + 1) = w * y + x' + 1 by omega, nn_sub1, if_pos (nn_inR (by omega) (by omega)), if_pos (nn_inR (by omega) (by omega)), nn_idx (by omega), nn_idx (by omega), show w * y + x' + 1 - 1 = w * y + x' by omega]
        by_cases z3 : I 28 7 (w * y + x' + 1) = I 28 7 (w * y + x')
        · rw [if_pos z3, decide_eq_false (fun q => q.2.2.2 z3)]; rfl
        · rw [if_neg z3, decide_eq_true ⟨z1.1, z1.2, z2, z3⟩]; rfl
      · rw [if_pos ((nn_le (by omega) (by omega)).mpr (by omega)), decide_eq_false (fun q => z2 q.2.2.1)]; rfl
    · rw [bi0 (fun q => z1 ⟨(nn_le (a := 1) (by omega) (by omega)).mp q.1, by have := (nn_le (by omega) (by omega)).mp q.2; omega⟩), if_pos rfl, decide_eq_false (fun q => z1 ⟨q.1, q.2.1⟩)]; rfl
/-- one side -/
theorem sideM {S N u v : Nat} (hS : S < 16) (hN : N ≤ 81) (hu : u < N) (hv : v < N) (x2 x4 x5 : Int32) {le : Nat → Int32} {p : CF} (hR : ROWd 1000000 S N le p.1) : ∃ le2 : Nat → Int32, den d 277 93 [some (vr 14 0), some (vi (nn S)), some (vi x2), some (vi (b01 p.2)), some (vi x4), some (vi x5), some (vi (nn (81 * S + u))), some (vi (nn (81 * S + v)))] [] (MX (upA I 36 0 le) J T) = den d 277 167 [some (vr 14 0), some (vi (nn S)), some (vi x2), some (vi (b01 (p.2 || lvB u v p.1))), some (vi x4), some (vi x5), some (vi (nn (81 * S + u))), some (vi (nn (81 * S + v)))] [] (MX (upA I 36 0 le2) J T) ∧ ROWd 1000000 S N le2 (lvl u v p.1) ∧ FRMd S le le2 := by
  obtain ⟨cur, f⟩ := p
  dsimp only at hR ⊢
  have r1 : inR (nn (81 * S + u)) 1296 = true := nn_inR (by omega) (by omega)
  have r2 : inR (nn (81 * S + v)) 1296 = true := nn_inR (by omega) (by omega)
  have b1 := (hR u hu).2
  have b2 := (hR v hv).2
  have e1 : (upA I 36 0 le) 36 0 (81 * S + u) = nn (cur u) := (hR u hu).1
  have e2 : (upA I 36 0 le) 36 0 (81 * S + v) = nn (cur v) := (hR v hv).1
  unfold lvB lvl
  rw [b277_93, if_pos r1, if_pos r2, nn_idx (by omega), nn_idx (by omega), e1, e2, nn_add1]
  by_cases z1 : cur u + 1 < cur v
  · obtain ⟨a, b⟩ := ROW_up hN hv (show cur u + 1 ≤ 1000000 by omega) hR
    have a1 := a u hu
    have a2 := a v hv
    rw [upN_o _ _ (show ¬ u = v by intro y; rw [y] at z1; omega)] at a1
    rw [upN_s] at a2
    have e1' : (upA I 36 0 (wu le (81 * S + v) (nn (cur u + 1)))) 36 0 (81 * S + u) = nn (cur u) := a1.1
    have e2' : (upA I 36 0 (wu le (81 * S + v) (nn (cur u + 1)))) 36 0 (81 * S + v) = nn (cur u + 1) := a2.1
    refine ⟨wu le (81 * S + v) (nn (cur u + 1)), ?_, by rw [if_neg (by omega), if_pos z1]; exact a, b⟩
    rw [if_neg (by rw [nn_le (by omega) (by omega)]; omega), b277_112, if_pos r1, if_pos r2, nn_idx (by omega), nn_idx (by omega), e1, nn_add1, upA_up3, b277_128, b277_130, if_pos r2, if_pos r1, nn_idx (by omega), nn_idx (by omega)]
    show (if (upA I 36 0 (wu le (81 * S + v) (nn (cur u + 1)))) 36 0 (81 * S + u) ≤ (upA I 36 0 (wu le (81 * S + v) (nn (cur u + 1)))) 36 0 (81 * S + v) + 1 then den d 277 167 _ _ (MX (upA I 36 0 (wu le (81 * S + v) (nn (cur u + 1)))) J T) else _) = _
    rw [e1', e2', nn_add1, if_pos ((nn_le (by omega) (by omega)).mpr (by omega)), decide_eq_true (.inr z1), Bool.or_true]
    rfl
  · rw [if_pos ((nn_le (by omega) (by omega)).mpr (by omega)), b277_130, if_pos r2, if_pos r1, nn_idx (by omega), nn_idx (by omega), e1, e2, nn_add1]
    by_cases z2 : cur v + 1 < cur u
    · obtain ⟨a, b⟩ := ROW_up hN hu (show cur v + 1 ≤ 1000000 by omega) hR
      refine ⟨wu le (81 * S + u) (nn (cur v + 1)), ?_, by rw [if_pos z2]; exact a, b⟩
      rw [if_neg (by rw [nn_le (by omega) (by omega)]; omega), b277_149, if_pos r2, if_pos r1, nn_idx (by omega), nn_idx (by omega), e2, nn_add1, upA_up3, b277_165, decide_eq_true (.inl z2), Bool.or_true]
      rfl
    · refine ⟨le, ?_, by rw [if_neg z2, if_neg z1]; exact hR, FRM_r S le⟩
      rw [if_pos ((nn_le (by omega) (by omega)).mpr (by omega)), decide_eq_false (by omega), Bool.or_false]
end DRM
