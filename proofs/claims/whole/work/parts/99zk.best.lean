/-! The best of few cells: the class's hopes -/
def HG (I : PI) (a b : Nat → Int32) : PI := upA (upA I 26 0 a) 23 0 b
theorem hg_a (I : PI) (a b : Nat → Int32) (i : Nat) (v : Int32) : up3 (HG I a b) 26 0 i v = HG I (wu a i v) b := by
  unfold HG
  funext x y z
  unfold up3 upA wu
  by_cases h1 : x = 26
  · subst h1; simp
    by_cases h2 : y = 0
    · subst h2; simp
    · simp [h2]
  · simp [h1]
theorem hg_b (I : PI) (a b : Nat → Int32) (i : Nat) (v : Int32) : up3 (HG I a b) 23 0 i v = HG I a (wu b i v) := upA_up3 _ _ _ _ _ _
theorem max_min : max9 0 (-2147483648) = 0 := by decide
section HPS
variable (d : Nat) (I : PI) (J : PJ) (T : TL) {w h o : Nat} {kp wt : Nat → Int32}
/-- one owner after the other at one cell -/
theorem hopeIn (h10 : I 4 0 10 = nn o) (ho3 : o ≤ 3) (hkp : ∀ c, c < w * h → I 28 2 c = kp c) (h64 : w * h ≤ 64) {c a : Nat} (hc : c < w * h) (ha : a < 9) (hce : I 22 0 a = nn c) (b : Nat → Int32) : ∀ m k (g : Int32) (A : Nat → Int32) (o4 : Option AV), k + m = o → ∃ (A2 : Nat → Int32) (o5 : Option AV), den (d + 1) 137 32 [some (vr 4 0), some (vi (nn a)), some (vi g), some (vi (nn k)), o4] [] (MX (HG I A b) J T) = den (d + 1) 137 32 [some (vr 4 0), some (vi (nn a)), some (vi (itn (fun k g => max9 g (pcF kp (I 34 0) k c)) m k g)), some (vi (nn o)), o5] [] (MX (HG I A2 b) J T) ∧ (∀ q, k ≤ q → q < o → A2 (10 * q + a) = A (10 * q + a + 1) + max9 0 (pcF kp (I 34 0) q c)) ∧ (∀ i, (∀ q, k ≤ q → q < o → ¬ i = 10 * q + a) → A2 i = A i) := by
  intro m
  induction m with
  | zero =>
    intro k g A o4 hk
    exact ⟨A, o4, by rw [show k = o by omega, itn_z], fun q h1 h2 => absurd h2 (by omega), fun i _ => rfl⟩
  | succ m ih =>
    intro k g A o4 hk
    have e10 : (HG I A b) 4 0 10 = nn o := h10
    have ec : (HG I A b) 22 0 a = nn c := hce
    have ek : (HG I A b) 28 2 c = kp c := hkp c hc
    have r9 : inR (nn a) 9 = true := nn_inR ha (by omega)
    have r64 : inR (nn c) 64 = true := nn_inR (by omega) (by omega)
    have eA : ∀ i, (HG I A b) 26 0 i = A i := fun i => rfl
    have my : cal d 138 [vr 4 0, vi (nn k), vi (nn c)] (MX (HG I A b) J T) = some (.inl (some (vi (bi (may9 kp k c)))), MX (HG I A b) J T) := by
      rw [c138, if_pos r64, if_pos r64, nn_idx (by omega), ek]
      by_cases z : kp c = -1
      · rw [if_pos z, bi1 (.inl z)]
      · rw [if_neg z]
        by_cases y : kp c = nn k
        · rw [if_neg (fun q => q y), bi1 (.inr y)]
        · rw [if_pos y, bi0 (fun q => by rcases q with q | q; exact z q; exact y q)]
    have fin : ∀ (v : Int32), v = pcF kp (I 34 0) k c → ∃ (A2 : Nat → Int32) (o5 : Option AV), den (d + 1) 137 32 [some (vr 4 0), some (vi (nn a)), some (vi (max9 g v)), some (vi (nn (k + 1))), some (vi v)] [] (MX (HG I (wu A (10 * k + a) (A (10 * k + a + 1) + max9 0 v)) b) J T) = den (d + 1) 137 32 [some (vr 4 0), some (vi (nn a)), some (vi (itn (fun k g => max9 g (pcF kp (I 34 0) k c)) (m + 1) k g)), some (vi (nn o)), o5] [] (MX (HG I A2 b) J T) ∧ (∀ q, k ≤ q → q < o → A2 (10 * q + a) = A (10 * q + a + 1) + max9 0 (pcF kp (I 34 0) q c)) ∧ (∀ i, (∀ q, k ≤ q → q < o → ¬ i = 10 * q + a) → A2 i = A i) := by
      intro v hv
      obtain ⟨A2, o5, e, q2, q3⟩ := ih (k + 1) (max9 g v) (wu A (10 * k + a) (A (10 * k + a + 1) + max9 0 v)) (some (vi v)) (by omega)
      refine ⟨A2, o5, ?_, fun q h1 h2 => ?_, fun i hi => ?_⟩
      · rw [e, itn_su, hv]
      · by_cases y : q = k
        · subst y
          rw [q3 _ (fun q2 u1 u2 u3 => by omega)]
          unfold wu
          rw [if_pos rfl, hv]
        · rw [q2 q (by omega) h2]
          unfold wu
          rw [if_neg (by omega)]
      · rw [q3 i (fun q2 u1 u2 => hi q2 (by omega) u2)]
        unfold wu
        rw [if_neg (hi k (by omega) (by omega))]
    rw [b137_32, e10, if_neg (by rw [nn_le (by omega) (by omega)]; omega), if_pos r9, nn_idx (by omega), ec, my]
    simp only [ret9]
    rw [b137_51]
    have i1 : nn k * 10 + nn a + 1 = nn (10 * k + a + 1) := by rw [i10, nn_add1]
    by_cases y : may9 kp k c
    · have pc := priceC d (k := k) (c := c) (HG I A b) J T (by omega) (by omega)
      rw [bi1 y, if_neg (by decide), if_pos r9, nn_idx (by omega), ec, pc]
      simp only [ret9]
      rw [b137_68, i1, i10, if_pos (nn_inR (by omega) (by omega)), if_pos (nn_inR (by omega) (by omega)), nn_idx (by omega), nn_idx (by omega), eA, hg_a, nn_add1]
      exact fin _ (pcF_1 kp (I 34 0) y).symm
    · rw [bi0 y, if_pos rfl, i1, i10, if_pos (nn_inR (by omega) (by omega)), if_pos (nn_inR (by omega) (by omega)), nn_idx (by omega), nn_idx (by omega), eA, hg_a, nn_add1]
      exact fin _ (pcF_0 kp (I 34 0) y).symm
theorem hopesF (h9s : I 4 0 9 = nn (cn (NWt wt) (w * h))) (h10 : I 4 0 10 = nn o) (ho3 : o ≤ 3) (hkp : ∀ c, c < w * h → I 28 2 c = kp c) (h64 : w * h ≤ 64) (h9 : cn (NWt wt) (w * h) ≤ 9) (hce : ∀ c, c < w * h → wt c = 0 → I 22 0 (cn (NWt wt) c) = nn c) : ∃ A B : Nat → Int32, cal (d + 1) 137 [vr 4 0] (MX I J T) = some (.inl none, MX (HG I A B) J T) ∧ HPO (HG I A B) kp wt (w * h) o := by
  have lp : ∀ c (A B : Nat → Int32) (o2 o3 o4 : Option AV), c ≤ w * h → (∀ c2, c ≤ c2 → c2 ≤ w * h → B (cn (NWt wt) c2) = ii (GG kp wt (I 34 0) (w * h) o c2) ∧ ∀ k, k < o → A (10 * k + cn (NWt wt) c2) = ii (HP kp wt (I 34 0) (w * h) k c2)) → ∃ A2 B2 : Nat → Int32, den (d + 1) 137 23 [some (vr 4 0), some (vi (ii ((cn (NWt wt) c : Int) - 1))), o2, o3, o4] [] (MX (HG I A B) J T) = some (.inl none, MX (HG I A2 B2) J T) ∧ HPO (HG I A2 B2) kp wt (w * h) o := by
    intro c
    induction c with
    | zero =>
      intro A B o2 o3 o4 hc hH
      refine ⟨A, B, ?_, fun c2 h2 => hH c2 (by omega) h2⟩
      rw [b137_23, if_pos (show ii ((cn (NWt wt) 0 : Int) - 1) < 0 from (by decide : (-1 : Int32) < 0))]
    | succ c ih =>
      intro A B o2 o3 o4 hc hH
      have hsu := cn_succ (NWt wt) c
      have hmono := cn_mono2 (NWt wt) hc
      by_cases z : wt c = 0
      · rw [if_pos (show NWt wt c = true from decide_eq_true z)] at hsu
        have e1 : ii ((cn (NWt wt) (c + 1) : Int) - 1) = nn (cn (NWt wt) c) := by
          rw [hsu, show ((cn (NWt wt) c + 1 : Nat) : Int) - 1 = (cn (NWt wt) c : Int) by omega, ii_nat]
        obtain ⟨A2, o5, e2, q2, q2'⟩ := hopeIn d I J T (kp := kp) h10 ho3 hkp h64 (show c < w * h by omega) (show cn (NWt wt) c < 9 by omega) (hce c (by omega) z) B o 0 (-2147483648) A o4 (by omega)
        have hHc := hH (c + 1) (Nat.le_refl _) hc
        have hG : GRT kp (I 34 0) o c = itn (fun k g => max9 g (pcF kp (I 34 0) k c)) o 0 (-2147483648) := rfl
        have e10 : (HG I A2 B) 4 0 10 = nn o := h10
        have eB : ∀ i, (HG I A2 B) 23 0 i = B i := fun i => rfl
        obtain ⟨A3, B3, e3, q3⟩ := ih A2 (wu B (cn (NWt wt) c) (B (cn (NWt wt) c + 1) + GRT kp (I 34 0) o c)) (some (vi (GRT kp (I 34 0) o c))) (some (vi (nn o))) o5 (by omega) (fun c2 h1 h2 => by
          have hm2 := cn_mono2 (NWt wt) h2
          by_cases y : c2 = c
          · subst y
            constructor
            · unfold wu
              rw [if_pos rfl, ← hsu, hHc.1, GG_s kp wt (I 34 0) (w * h) o c2, ← ii_add]
              unfold grF
              rw [if_pos z, ii_of]
            · intro k hk
              rw [q2 k (by omega) hk, show 10 * k + cn (NWt wt) c2 + 1 = 10 * k + cn (NWt wt) (c2 + 1) by omega, hHc.2 k hk, HP_s kp wt (I 34 0) (w * h) k c2, ← ii_add]
              congr 1
              unfold hpF
              by_cases x : may9 kp k c2
              · rw [if_pos ⟨z, x⟩, pcF_1 kp (I 34 0) x, ii_of]
              · rw [if_neg (fun u => x u.2), pcF_0 kp (I 34 0) x, max_min]
                rfl
          · have hm3 := cn_mono2 (NWt wt) (show c + 1 ≤ c2 by omega)
            have hh := hH c2 (by omega) h2
            constructor
            · unfold wu
              rw [if_neg (by omega)]
              exact hh.1
            · intro k hk
              rw [q2' _ (fun q u1 u2 u3 => by omega)]
              exact hh.2 k hk)
        refine ⟨A3, B3, ?_, q3⟩
        rw [e1, b137_23, if_neg (i32_nlt.mpr (nn_nonneg (by omega))), show (0 : Int32) = nn 0 from rfl, e2, ← hG, b137_32, e10, if_pos (Int32.le_refl _), nn_add1, if_pos (nn_inR (by omega) (by omega)), if_pos (nn_inR (by omega) (by omega)), nn_idx (by omega), nn_idx (by omega), eB, hg_b, ← ii_nat, show (-1 : Int32) = ii (-1) from rfl, ii_add]
        exact e3
      · rw [show NWt wt c = false from decide_eq_false z, if_neg (by decide)] at hsu
        have hcc : cn (NWt wt) (c + 1) = cn (NWt wt) c := by omega
        have hz1 : GG kp wt (I 34 0) (w * h) o c = GG kp wt (I 34 0) (w * h) o (c + 1) := by
          rw [GG_s kp wt (I 34 0) (w * h) o c]; unfold grF; rw [if_neg z, Int.add_zero]
        have hz2 : ∀ k, HP kp wt (I 34 0) (w * h) k c = HP kp wt (I 34 0) (w * h) k (c + 1) := fun k => by
          rw [HP_s kp wt (I 34 0) (w * h) k c]; unfold hpF; rw [if_neg (fun u => z u.1), Int.add_zero]
        rw [hcc]
        exact ih A B o2 o3 o4 (by omega) (fun c2 h1 h2 => by
          by_cases y : c2 = c
          · subst y
            have hh := hH (c2 + 1) (Nat.le_refl _) hc
            rw [hcc] at hh
            rw [hz1]
            exact ⟨hh.1, fun k hk => by rw [hz2 k]; exact hh.2 k hk⟩
          · exact hH c2 (by omega) h2)
  have e9 : ∀ A B : Nat → Int32, (HG I A B) 4 0 9 = nn (cn (NWt wt) (w * h)) := fun A B => h9s
  rw [c137, fill26]
  simp only [ret9]
  rw [b137_8, fill23]
  simp only [ret9]
  have ef : fl (fl I 26 0 30 0) 23 0 10 0 = HG I (fun i => if i < 30 then 0 else I 26 0 i) (fun i => if i < 10 then 0 else I 23 0 i) := rfl
  rw [ef, b137_16, e9, ← ii_nat, show (1 : Int32) = ii 1 from rfl, ii_sub]
  refine lp (w * h) _ _ none none none (Nat.le_refl _) (fun c2 h1 h2 => ?_)
  have hcn : c2 = w * h := by omega
  subst hcn
  constructor
  · rw [if_pos (by omega)]
    unfold GG
    rw [Int.sub_self]
    rfl
  · intro k hk
    rw [if_pos (by omega)]
    unfold HP
    rw [Int.sub_self]
    rfl
end HPS
