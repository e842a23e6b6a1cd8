/-! Ditches: the class joins groups -/
theorem tb_sub : ∀ S P : Fin 8, (nn P.val &&& (nn S.val ^^^ -1) = 0) ↔ P.val &&& S.val = P.val := by decide
theorem tb_xor : ∀ S P : Fin 16, nn S.val ^^^ nn P.val = nn (S.val ^^^ P.val) := by decide
theorem tb_ish : ∀ i : Fin 5, ish9 1 (nn i.val) = nn (2 ^ i.val) := by decide
theorem min_nn {a b : Nat} (ha : a < 2147483648) (hb : b < 2147483648) : min9 (nn a) (nn b) = nn (min a b) := by
  unfold min9
  by_cases z : b < a
  · rw [if_pos ((nn_lt hb ha).mpr z), Nat.min_eq_right (by omega)]
  · rw [if_neg (fun y => z ((nn_lt hb ha).mp y)), Nat.min_eq_left (by omega)]
theorem m81 (g : Nat) : nn g * 81 = nn (81 * g) := by rw [show (81 : Int32) = nn 81 from rfl, nn_mul, Nat.mul_comm]
section DJN
variable (d : Nat) (I : PI) (J : PJ) (T : TL) {w h : Nat} {ws : Nat → Int32}
theorem join2 {g p q N : Nat} (hg : g < 8) (hp8 : p < 8) (hq8 : q < 8) (hpg : ¬ p = g) (hqg : ¬ q = g) (hN : N ≤ 81) {vp vq : Nat → Nat} : ∀ m c (le : Nat → Int32) (cur : Nat → Nat), c + m = N → ROWd 1000 g N le cur → ROWd 1000 p N le vp → ROWd 1000 q N le vq → ∃ le2 : Nat → Int32, den d 170 12 [some (vr 2 0), some (vi (nn (81 * g))), some (vi (nn (81 * p))), some (vi (nn (81 * q))), some (vi (nn N)), some (vi (nn c))] [] (MX (upA I 35 0 le) J T) = some (.inl none, MX (upA I 35 0 le2) J T) ∧ ROWd 1000 g N le2 (fun x => if c ≤ x ∧ x < N then min (cur x) (vp x + vq x) else cur x) ∧ FRMd g le le2 := by
  intro m
  induction m with
  | zero =>
    intro c le cur hc hR hP hQ
    refine ⟨le, ?_, fun x hx => ?_, FRM_r g le⟩
    · rw [b170_12, if_pos ((nn_le (by omega) (by omega)).mpr (by omega))]
    · dsimp only
      rw [if_neg (by omega)]; exact hR x hx
  | succ m ih =>
    intro c le cur hc hR hP hQ
    have r1 : inR (nn (81 * g + c)) 648 = true := nn_inR (by omega) (by omega)
    have r2 : inR (nn (81 * p + c)) 648 = true := nn_inR (by omega) (by omega)
    have r3 : inR (nn (81 * q + c)) 648 = true := nn_inR (by omega) (by omega)
    have e1 : (upA I 35 0 le) 35 0 (81 * g + c) = nn (cur c) := (hR c (by omega)).1
    have e2 : (upA I 35 0 le) 35 0 (81 * p + c) = nn (vp c) := (hP c (by omega)).1
    have e3 : (upA I 35 0 le) 35 0 (81 * q + c) = nn (vq c) := (hQ c (by omega)).1
    have b1 := (hR c (by omega)).2
    have b2 := (hP c (by omega)).2
    have b3 := (hQ c (by omega)).2
    obtain ⟨a, b⟩ := ROW_up hN (show c < N by omega) (show min (cur c) (vp c + vq c) ≤ 1000 by omega) hR
    obtain ⟨le2, e, q1, q2⟩ := ih (c + 1) _ _ (by omega) a (FRM_row hN hpg b hP) (FRM_row hN hqg b hQ)
    refine ⟨le2, ?_, fun x hx => ?_, FRM_t b q2⟩
    · rw [b170_12, if_neg (by rw [nn_le (by omega) (by omega)]; omega), nn_add, nn_add, nn_add, if_pos r1, if_pos r2, if_pos r3, if_pos r1, nn_idx (by omega), nn_idx (by omega), nn_idx (by omega), e1, e2, e3, nn_add, min_nn (by omega) (by omega), upA_up3, nn_add1]
      exact e
    · have := q1 x hx
      dsimp only at this ⊢
      by_cases z : x = c
      · rw [z, if_neg (by omega), upN_s] at this
        rw [z, if_pos (by omega)]
        exact this
      · by_cases y : c ≤ x
        · rw [if_pos (by omega), upN_o _ _ z] at this
          rw [if_pos (by omega)]
          exact this
        · rw [if_neg (by omega), upN_o _ _ z] at this
          rw [if_neg (by omega)]
          exact this
theorem fill1 {g N : Nat} (hg : g < 8) (hN : N ≤ 81) : ∀ m c (le : Nat → Int32), c + m = 81 → (∀ x, x < c → le (81 * g + x) = 1000) → ∃ le2 : Nat → Int32, den d 169 7 [some (vr 2 0), some (vi (nn g)), some (vi (nn (81 * g))), some (vi (nn c))] [] (MX (upA I 35 0 le) J T) = den d 169 32 [some (vr 2 0), some (vi (nn g)), some (vi (nn (81 * g))), some (vi (nn 0))] [] (MX (upA I 35 0 le2) J T) ∧ ROWd 1000 g N le2 (fun _ => 1000) ∧ FRMd g le le2 := by
  intro m
  induction m with
  | zero =>
    intro c le hc hl
    refine ⟨le, ?_, fun x hx => ⟨hl x (by omega), Nat.le_refl _⟩, FRM_r g le⟩
    rw [show c = 81 by omega, b169_7, if_pos (by decide)]
    rfl
  | succ m ih =>
    intro c le hc hl
    obtain ⟨le2, e, q1, q2⟩ := ih (c + 1) (wu le (81 * g + c) 1000) (by omega) (fun x hx => by
      unfold wu
      by_cases z : x = c
      · rw [if_pos (by rw [z])]
      · rw [if_neg (by omega)]; exact hl x (by omega))
    refine ⟨le2, ?_, q1, FRM_t (fun i hi => by unfold wu; rw [if_neg (by omega)]) q2⟩
    rw [b169_7, if_neg (by rw [show (81 : Int32) = nn 81 from rfl, nn_le (by omega) (by omega)]; omega), nn_add, if_pos (nn_inR (by omega) (by omega)), nn_idx (by omega), upA_up3, nn_add1]
    exact e
theorem oneD {S N t : Nat} (hS : S < 8) (hN : N ≤ 81) {cor : Nat → Nat} (ht2 : 2 ≤ t) (ht4 : t ≤ 4) (h5 : I 2 0 5 = nn t) (hc : ∀ k, k < t → I 20 0 k = nn (cor k) ∧ cor k < N) : ∀ m i (le : Nat → Int32) (cur : Nat → Nat), i + m = t - 1 → ROWd 1000 S N le cur → ∃ (le2 : Nat → Int32), den d 169 32 [some (vr 2 0), some (vi (nn S)), some (vi (nn (81 * S))), some (vi (nn i))] [] (MX (upA I 35 0 le) J T) = den d 169 76 [some (vr 2 0), some (vi (nn S)), some (vi (nn (81 * S))), some (vi 1)] [] (MX (upA I 35 0 le2) J T) ∧ (∃ cur2 : Nat → Nat, ROWd 1000 S N le2 cur2 ∧ ∀ c, c < N → (cur2 c = cur c ∧ ∀ k, i ≤ k → k < t - 1 → S = 2 ^ k → ¬ c = cor k) ∨ (cur2 c = 0 ∧ ∃ k, i ≤ k ∧ k < t - 1 ∧ S = 2 ^ k ∧ c = cor k)) ∧ FRMd S le le2 := by
  intro m
  induction m with
  | zero =>
    intro i le cur hi hR
    have e5 : (upA I 35 0 le) 2 0 5 = nn t := h5
    refine ⟨le, ?_, ⟨cur, hR, fun c hc => .inl ⟨rfl, fun k h1 h2 => absurd h2 (by omega)⟩⟩, FRM_r S le⟩
    rw [b169_32, e5, show nn t - 1 = nn (t - 1) from nn_sub (b := 1) (by omega), if_pos ((nn_le (by omega) (by omega)).mpr (by omega))]
  | succ m ih =>
    intro i le cur hi hR
    have e5 : (upA I 35 0 le) 2 0 5 = nn t := h5
    have ti := tb_ish ⟨i, by omega⟩
    dsimp only at ti
    have hpw : 2 ^ i ≤ 8 := by
      have := pw4 (show i < 4 by omega); omega
    have e20 : (upA I 35 0 le) 20 0 i = nn (cor i) := (hc i (by omega)).1
    have hci := (hc i (by omega)).2
    rw [b169_32, e5, show nn t - 1 = nn (t - 1) from nn_sub (b := 1) (by omega), if_neg (by rw [nn_le (by omega) (by omega)]; omega), if_neg (by rw [show (4 : Int32) = nn 4 from rfl, nn_le (by omega) (by omega)]; omega), ti, nn_add1]
    by_cases z : S = 2 ^ i
    · rw [if_neg (fun y => y (by rw [z])), if_pos (nn_inR (by omega) (by omega)), nn_idx (by omega), e20, nn_add, if_pos (nn_inR (by omega) (by omega)), nn_idx (by omega), upA_up3]
      obtain ⟨a, b⟩ := ROW_up hN hci (show 0 ≤ 1000 by omega) hR
      obtain ⟨le2, e, ⟨cur2, q1, q2⟩, q3⟩ := ih (i + 1) _ _ (by omega) a
      refine ⟨le2, e, ⟨cur2, q1, fun c hcN => ?_⟩, FRM_t b q3⟩
      rcases q2 c hcN with ⟨y1, y2⟩ | ⟨y1, k, k1, k2, k3, k4⟩
      · by_cases x : c = cor i
        · rw [x, upN_s] at y1
          exact .inr ⟨by rw [x]; exact y1, i, by omega, by omega, z, x⟩
        · rw [upN_o _ _ x] at y1
          refine .inl ⟨y1, fun k k1 k2 k3 => ?_⟩
          by_cases u : k = i
          · subst u; exact x
          · exact y2 k (by omega) k2 k3
      · exact .inr ⟨y1, k, by omega, k2, k3, k4⟩
    · rw [if_pos (fun y => z ((nn_inj (by omega) (by omega)).mp y))]
      obtain ⟨le2, e, ⟨cur2, q1, q2⟩, q3⟩ := ih (i + 1) le cur (by omega) hR
      refine ⟨le2, e, ⟨cur2, q1, fun c hcN => ?_⟩, q3⟩
      rcases q2 c hcN with ⟨y1, y2⟩ | ⟨y1, k, k1, k2, k3, k4⟩
      · refine .inl ⟨y1, fun k k1 k2 k3 => ?_⟩
        by_cases u : k = i
        · subst u; exact absurd k3 z
        · exact y2 k (by omega) k2 k3
      · exact .inr ⟨y1, k, by omega, k2, k3, k4⟩
end DJN
