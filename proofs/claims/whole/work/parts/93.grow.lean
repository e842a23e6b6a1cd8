/-! Growing: the class's taking, a round, all rounds, the call -/
/-- what stays when owner k takes -/
def TK1 (wt pr : Nat → Int32) (w h k : Nat) (ws : Nat → Int32) : Nat → Int32 := match PK ws wt pr w h k with
  | none => ws
  | some c => wu ws c (nn k)
def TKb (wt pr : Nat → Int32) (w h k : Nat) (ws : Nat → Int32) : Bool := (PK ws wt pr w h k).isSome
theorem NR_iff {ws wt : Nat → Int32} {w h k c : Nat} : NR ws wt w h k c = true ↔ (B1 ws wt c ∧ ∃ e, adj w h c e ∧ FL ws k e = true) := by
  unfold NR B1
  rw [Bool.and_eq_true, Bool.and_eq_true, decide_eq_true_iff, decide_eq_true_iff]
  refine and_congr_right (fun _ => ?_)
  rw [← nbI_adj]
  simp only [Bool.or_eq_true, or_assoc]
theorem PK_in {ws wt pr : Nat → Int32} {w h k q : Nat} (e : PK ws wt pr w h k = some q) : q < w * h ∧ NR ws wt w h k q = true :=
  pkn_in (w * h) 0 none (by omega) (fun _ z => by cases z) q e
section TAKEC
variable (d : Nat) {w h o : Nat} (I : PI) (J : PJ) (T : TL)
theorem pickC (N : Nat → Bool) (near : Int64) {k : Nat} (hk : k < 6) (hn : I 5 0 9 = nn (w * h)) (h64 : w * h ≤ 64) (hN : ∀ c, c < w * h → bt near c = N c) : ∀ m c (b : Option Nat) (x5 : Int32), c + m = w * h → (∀ q, b = some q → q < w * h ∧ x5 = I 34 0 (64 * k + q)) → ∃ y5 : Int32, den (d + 1) 119 28 [some (vr 3 0), some (vi (nn k)), some (vl near), none, some (vi (oi b)), some (vi x5), some (vi (nn c))] [] (MX I J T) = den (d + 1) 119 28 [some (vr 3 0), some (vi (nn k)), some (vl near), none, some (vi (oi (itn (pkS (I 34 0) k N) m c b))), some (vi y5), some (vi (nn (w * h)))] [] (MX I J T) := by
  intro m
  induction m with
  | zero =>
    intro c b x5 hc hb
    have : c = w * h := by omega
    subst this
    exact ⟨x5, rfl⟩
  | succ m ih =>
    intro c b x5 hc hb
    have pc := priceC d (k := k) (c := c) I J T hk (by omega)
    by_cases hz : N c = true
    · have hbt : ¬ lg_cmp (lus9 near (nn c) &&& 1) 0 = 0 := by
        rw [bit0 near (show c < 64 by omega), hN c (by omega), hz]; decide
      have go : pkS (I 34 0) k N c b = some c → ∃ y5 : Int32, den (d + 1) 119 86 [some (vr 3 0), some (vi (nn k)), some (vl near), none, some (vi (nn c)), some (vi x5), some (vi (nn c))] [vi (I 34 0 (64 * k + c))] (MX I J T) = den (d + 1) 119 28 [some (vr 3 0), some (vi (nn k)), some (vl near), none, some (vi (oi (itn (pkS (I 34 0) k N) (m + 1) c b))), some (vi y5), some (vi (nn (w * h)))] [] (MX I J T) := by
        intro e
        obtain ⟨y5, e2⟩ := ih (c + 1) (some c) (I 34 0 (64 * k + c)) (by omega) (fun q z => by cases z; exact ⟨by omega, rfl⟩)
        refine ⟨y5, ?_⟩
        rw [b119_86, nn_add1, itn_su, e]
        exact e2
      cases b with
      | none =>
        obtain ⟨y5, e⟩ := go (by unfold pkS; rw [if_pos hz])
        refine ⟨y5, ?_⟩
        rw [b119_28, hn, if_neg (by rw [nn_le (by omega) (by omega)]; omega), if_neg hbt, if_pos oi_n, pc]
        simp only [ret9]
        exact e
      | some q =>
        obtain ⟨hq, hx⟩ := hb q rfl
        by_cases hl : I 34 0 (64 * k + c) ≤ x5
        · obtain ⟨y5, e⟩ := ih (c + 1) (some q) x5 (by omega) hb
          refine ⟨y5, ?_⟩
          rw [b119_28, hn, if_neg (by rw [nn_le (by omega) (by omega)]; omega), if_neg hbt, if_neg (oi_s (by omega)), pc]
          simp only [ret9]
          rw [b119_67, if_pos hl, nn_add1, itn_su, show pkS (I 34 0) k N c (some q) = some q by
            unfold pkS
            rw [if_pos hz]
            show (if I 34 0 (64 * k + q) < I 34 0 (64 * k + c) then some c else some q) = some q
            rw [if_neg (i32_nlt.mpr (by rw [← hx]; exact hl))]]
          exact e
        · obtain ⟨y5, e⟩ := go (by
            unfold pkS
            rw [if_pos hz]
            show (if I 34 0 (64 * k + q) < I 34 0 (64 * k + c) then some c else some q) = some c
            rw [if_pos]
            exact Classical.byContradiction (fun y => hl (by rw [hx]; exact i32_nlt.mp y)))
          refine ⟨y5, ?_⟩
          rw [b119_28, hn, if_neg (by rw [nn_le (by omega) (by omega)]; omega), if_neg hbt, if_neg (oi_s (by omega)), pc]
          simp only [ret9]
          rw [b119_67, if_neg hl, pc]
          simp only [ret9]
          exact e
    · have hbt : lg_cmp (lus9 near (nn c) &&& 1) 0 = 0 := by
        rw [bit0 near (show c < 64 by omega), hN c (by omega)]
        cases z : N c with
        | false => rfl
        | true => exact absurd z hz
      obtain ⟨y5, e⟩ := ih (c + 1) b x5 (by omega) hb
      refine ⟨y5, ?_⟩
      rw [b119_28, hn, if_neg (by rw [nn_le (by omega) (by omega)]; omega), if_pos hbt, nn_add1, itn_su, show pkS (I 34 0) k N c b = b by unfold pkS; rw [if_neg hz]]
      exact e
theorem takeC {ws a : Nat → Int32} {f : Nat → Int64} (hW : RelW I w h) (hp : 0 < w * h) (hM : RelM J w h) (hC : RelC I J (w * h) o) (ho6 : o ≤ 6) {k : Nat} (hk : k < o) (hR : DR ws a f (w * h) o) : ∃ (a2 : Nat → Int32) (f2 : Nat → Int64), cal (d + 3) 119 [vr 3 0, vi (nn k)] (MX (upA I 28 3 a) (upA J 42 1 f) T) = some (.inl (some (vi (if TKb (I 39 0) (I 34 0) w h k ws = true then 1 else 0))), MX (upA I 28 3 a2) (upA J 42 1 f2) T) ∧ DR (TK1 (I 39 0) (I 34 0) w h k ws) a2 f2 (w * h) o := by
  have h64 := relW_le hW
  obtain ⟨-, -, hw1, hw8, hh1, hh8⟩ := relGW hW hp
  have hn : I 5 0 9 = nn (w * h) := hW.2.2.1
  have hfl : ∀ c, bt (f k) c = true → c < w * h := fun c hc => ((hR.2 k (by omega) c (bt_64 hc)).mp hc).1
  have hfb := free_bt (I := upA (upA I 28 3 a) 28 7 ws) (J := upA J 42 1 f) hM (show RelC (upA (upA I 28 3 a) 28 7 ws) (upA J 42 1 f) (w * h) o from hC) (show RelD (upA (upA I 28 3 a) 28 7 ws) (upA J 42 1 f) (w * h) o from hR) ho6
  have hbs := bt_bs (J := upA J 42 1 f) (w := w) (h := h) hM hw1 hw8 h64 hfl
  have hfe : ∀ e, e < w * h → (bt (f k) e = FL ws k e) := fun e he => by
    have z := hR.2 k (by omega) e (by omega)
    unfold FL
    by_cases y : ws e = nn k
    · rw [decide_eq_true y, z.mpr ⟨he, y⟩]
    · rw [decide_eq_false y]
      cases q : bt (f k) e with
      | false => rfl
      | true => exact absurd (z.mp q).2 y
  have hN : ∀ c, c < w * h → bt (bsJ (upA J 42 1 f) w (f k) &&& ((((upA J 42 1 f) 5 0 12) &&& (((upA J 42 1 f) 5 0 13) ^^^ (-1))) &&& (OWN (upA J 42 1 f) ^^^ (-1)))) c = NR ws (I 39 0) w h k c := by
    intro c hc
    have : (bt (bsJ (upA J 42 1 f) w (f k) &&& ((((upA J 42 1 f) 5 0 12) &&& (((upA J 42 1 f) 5 0 13) ^^^ (-1))) &&& (OWN (upA J 42 1 f) ^^^ (-1)))) c = true) ↔ NR ws (I 39 0) w h k c = true := by
      rw [bt_and, Bool.and_eq_true, NR_iff, hfb c, hbs c]
      constructor
      · intro ⟨⟨_, e, q1, q2⟩, _, _, q3⟩
        exact ⟨q3, e, q1, by rw [← hfe e (adj_lt hw1 hc q1)]; exact q2⟩
      · intro ⟨q3, e, q1, q2⟩
        exact ⟨⟨hc, e, q1, by rw [hfe e (adj_lt hw1 hc q1)]; exact q2⟩, by omega, hc, q3⟩
    exact Bool.eq_iff_iff.mpr this
  obtain ⟨y5, ep⟩ := pickC (d + 2) (w := w) (h := h) (upA I 28 3 a) (upA J 42 1 f) T (NR ws (I 39 0) w h k) _ (show k < 6 by omega) hn h64 hN (w * h) 0 none 0 (by omega) (fun _ z => by cases z)
  have e0 : cal (d + 3) 119 [vr 3 0, vi (nn k)] (MX (upA I 28 3 a) (upA J 42 1 f) T) = den (d + 3) 119 28 [some (vr 3 0), some (vi (nn k)), some (vl (bsJ (upA J 42 1 f) w (f k) &&& ((((upA J 42 1 f) 5 0 12) &&& (((upA J 42 1 f) 5 0 13) ^^^ (-1))) &&& (OWN (upA J 42 1 f) ^^^ (-1))))), none, some (vi (oi (PK ws (I 39 0) (I 34 0) w h k))), some (vi y5), some (vi (nn (w * h)))] [] (MX (upA I 28 3 a) (upA J 42 1 f) T) := by
    refine Eq.trans ?_ ep
    rw [c119, if_pos (nn_inR (by omega) (by omega)), nn_idx (by omega), besideC (d + 1) (w := w) _ (upA I 28 3 a) (upA J 42 1 f) T hW.1]
    simp only [ret9]
    rw [b119_13, freeC]
    simp only [ret9]
    rw [b119_17]
    rfl
  cases e : PK ws (I 39 0) (I 34 0) w h k with
  | none =>
    refine ⟨a, f, ?_, ?_⟩
    · rw [e0, e, b119_28]
      show (if I 5 0 9 ≤ _ then _ else _) = _
      rw [hn, if_pos (Int32.le_refl _), if_neg (fun z => z oi_n), if_neg (by unfold TKb; rw [e]; decide)]
    · unfold TK1
      rw [e]
      exact hR
  | some q =>
    obtain ⟨q1, q2⟩ := PK_in e
    obtain ⟨f2, e3, r3⟩ := giveR (d + 2) (nn k) I J T hR q1 h64 ho6 (.inr ⟨k, hk, rfl⟩)
    refine ⟨wu a q (nn k), f2, ?_, ?_⟩
    · rw [e0, e, b119_28]
      show (if I 5 0 9 ≤ _ then _ else _) = _
      rw [hn, if_pos (Int32.le_refl _), if_pos (oi_s (by omega)), oi_e, e3]
      simp only [ret9]
      rw [b119_109, if_pos (by unfold TKb; rw [e]; rfl)]
    · unfold TK1
      rw [e]
      exact r3
end TAKEC
