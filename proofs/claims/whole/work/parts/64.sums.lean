/-! The reference's values; sums; the calls sum, envies, votes -/
theorem upA_34_27 {α : Type} (I : Nat → Nat → Nat → α) (P v : Nat → α) (i : Nat) (x : α) : up3 (upA (upA I 34 1 P) 27 0 v) 34 1 i x = upA (upA I 34 1 (fun j => if j = i then x else P j)) 27 0 v := by
  funext a b c
  unfold up3 upA
  by_cases h1 : a = 34
  · subst h1
    by_cases h2 : b = 1
    · by_cases h3 : c = i <;> simp [h2, h3]
    · simp [h2]
  · simp [h1]
/-- what the reference needs for all values -/
def VN (I : PI) (w h o b : Nat) : Prop := GW I w h ∧ I 14 0 24 = nn (w * h) ∧ o ≤ 6 ∧ I 12 b 0 = nn o ∧ ∀ k, k < o → ∃ p len, p < 64 ∧ I 21 10 k = nn p ∧ len ≤ 40 ∧ I 21 (b + 12) k = nn len ∧ okP (fun i => I 33 b (48 * k + i)) len 0 0
def vdone (I : PI) (w h b k c : Nat) (W : Nat → Int32) : Prop := ∀ k2 c2, c2 < w * h → (k2 < k ∨ (k2 = k ∧ c2 < c)) → W (64 * k2 + c2) = VAL I b w h k2 c2
theorem valIn (d : Nat) {w h o b k : Nat} (I : PI) (J : PJ) (T : TL) (hv : VN I w h o b) (hk : k < o) : ∀ (m c : Nat) (W g : Nat → Int32), c + m = w * h → vdone I w h b k c W → ∃ (W2 g2 : Nat → Int32) (o2 : Option AV), den (d + 4) 238 15 [some (vr 14 0), some (vi (nn k)), some (vi (nn c))] [] (MX (upA (upA I 34 1 W) 27 0 g) J (TB T b)) = den (d + 4) 238 2 [some (vr 14 0), some (vi (nn (k + 1))), o2] [] (MX (upA (upA I 34 1 W2) 27 0 g2) J (TB T b)) ∧ vdone I w h b (k + 1) 0 W2 := by
  obtain ⟨hg, hn24, ho6, hob, hpk⟩ := id hv
  have h64 : w * h ≤ 64 := Nat.mul_le_mul hg.2.2.2.1 hg.2.2.2.2.2
  obtain ⟨p, len, p1, p2, p3, p4, p5⟩ := hpk k hk
  intro m
  induction m with
  | zero =>
    intro c W g hc hd
    have hc0 : c = w * h := by omega
    refine ⟨W, g, some (vi (nn c)), ?_, ?_⟩
    · rw [b238_15]
      show (if I 14 0 24 ≤ _ then _ else _) = _
      rw [hn24, if_pos ((nn_le (by omega) (by omega)).mpr (by omega)), nn_add1]
    · intro k2 c2 h1 h2
      exact hd k2 c2 h1 (by omega)
  | succ m ih =>
    intro c W g hc hd
    have hcn : c < w * h := by omega
    obtain ⟨g3, e3⟩ := valM d (upA (upA I 34 1 W) 27 0 g) J T (w := w) (h := h) (k := k) (c := c) (p := p) (b := b) (len := len) hg (by omega) hcn p1 p2 p3 p4 p5
    obtain ⟨W2, g2, o2, e2, d2⟩ := ih (c + 1) (fun j => if j = 64 * k + c then VAL I b w h k c else W j) g3 (by omega) (by
      intro k2 c2 h1 h2
      show (if 64 * k2 + c2 = 64 * k + c then _ else _) = _
      by_cases e : 64 * k2 + c2 = 64 * k + c
      · rw [if_pos e]
        have a1 : k2 = k := by omega
        have a2 : c2 = c := by omega
        rw [a1, a2]
      · rw [if_neg e]
        exact hd k2 c2 h1 (by omega))
    refine ⟨W2, g2, o2, ?_, d2⟩
    rw [b238_15]
    show (if I 14 0 24 ≤ _ then _ else _) = _
    rw [hn24, if_neg (by rw [nn_le (by omega) (by omega)]; omega), e3, upA_upA]
    simp only [ret9]
    rw [b238_39, show (64 : Int32) * nn k + nn c = nn (64 * k + c) from by rw [show (64 : Int32) = nn 64 from rfl, nn_mul, nn_add], if_pos (nn_inR (by omega) (by omega)), nn_idx (by omega), upA_34_27, nn_add1]
    exact e2
theorem valOut (d : Nat) {w h o b : Nat} (I : PI) (J : PJ) (T : TL) (hv : VN I w h o b) : ∀ (m k : Nat) (W g : Nat → Int32) (o2 : Option AV), k + m = o → vdone I w h b k 0 W → ∃ W2 g2 : Nat → Int32, den (d + 4) 238 2 [some (vr 14 0), some (vi (nn k)), o2] [] (MX (upA (upA I 34 1 W) 27 0 g) J (TB T b)) = some (.inl none, MX (upA (upA I 34 1 W2) 27 0 g2) J (TB T b)) ∧ vdone I w h b o 0 W2 := by
  obtain ⟨hg, hn24, ho6, hob, hpk⟩ := id hv
  intro m
  induction m with
  | zero =>
    intro k W g o2 hk hd
    have : k = o := by omega
    subst this
    refine ⟨W, g, ?_, hd⟩
    rw [b238_2]
    show (if I 12 b 0 ≤ _ then _ else _) = _
    rw [hob, if_pos (Int32.le_refl _)]
  | succ m ih =>
    intro k W g o2 hk hd
    obtain ⟨W3, g3, o3, e3, d3⟩ := valIn d I J T hv (show k < o by omega) (w * h) 0 W g (by omega) hd
    obtain ⟨W2, g2, e2, d2⟩ := ih (k + 1) W3 g3 o3 (by omega) d3
    refine ⟨W2, g2, ?_, d2⟩
    rw [b238_2]
    show (if I 12 b 0 ≤ _ then _ else _) = _
    rw [hob, if_neg (by rw [nn_le (by omega) (by omega)]; omega)]
    exact e3.trans e2
theorem valuesM (d : Nat) {w h o b : Nat} (I : PI) (J : PJ) (T : TL) (hv : VN I w h o b) : ∃ W g : Nat → Int32, cal (d + 4) 238 [vr 14 0] (MX I J (TB T b)) = some (.inl none, MX (upA (upA I 34 1 W) 27 0 g) J (TB T b)) ∧ ∀ k, k < o → ∀ c, c < w * h → W (64 * k + c) = VAL I b w h k c := by
  obtain ⟨W, g, e, dn⟩ := valOut d I J T hv o 0 (I 34 1) (I 27 0) none (by omega) (fun k2 c2 h1 h2 => by omega)
  refine ⟨W, g, ?_, fun k hk c hc => dn k c hc (.inl hk)⟩
  rw [c238]
  rw [upA_id, upA_id] at e
  exact e
theorem relVN {I : PI} {g : Nat} {mb : OR} {w h o b : Nat} (hB : RelB I g mb o) (hW : RelW I w h) (hO : RelO I (w * h) o) (hp : 0 < w * h) (hmb : mb = ro 12 b) : VN I w h o b := by
  have hn := relW_le hW
  rcases id hB with ⟨z1, z2, -⟩ | ⟨b3, z1, z2, z3, z4, z5, z6⟩
  · rw [hmb] at z2; cases z2
  · have : b = b3 := by
      rw [hmb] at z1
      exact (Prod.mk.inj (Option.some.inj (Option.some.inj z1))).2
    subst this
    refine ⟨relGW hW hp, hW.2.2.2.2.2.1, z3, z5, fun k hk => ?_⟩
    obtain ⟨len, l1, l2, l3, l4, l5⟩ := z6 k hk
    obtain ⟨r1, r2, r3, r4⟩ := hO.1 k hk
    obtain ⟨p, p1, p2⟩ := r3 hp
    exact ⟨p, len, by omega, p2, l1, l3, l4⟩
/-- the sum of an owner's prices over the cells that are x's -/
def SU (ws pr : Nat → Int32) (n o : Nat) (x : Int32) : Int32 := sm (fun c => if ws c = x then pr (64 * o + c) else 0) n 0 0
theorem SU_congr {ws ws2 pr pr2 : Nat → Int32} {n o : Nat} {x : Int32} (h1 : ∀ c, c < n → ws c = ws2 c) (h2 : ∀ c, c < n → pr (64 * o + c) = pr2 (64 * o + c)) : SU ws pr n o x = SU ws2 pr2 n o x :=
  sm_congr n 0 0 (fun i _ hi => by
    have hi2 : i < n := by omega
    rw [h1 i hi2, h2 i hi2])
theorem sumF (d : Nat) {n o : Nat} (f : Int64) (ws : Nat → Int32) (x : Int32) (I : PI) (J : PJ) (T : TL) (hn : I 5 0 9 = nn n) (hn6 : n ≤ 64) (ho : o < 6) (hf : ∀ c, c < n → (bt f c = true ↔ ws c = x)) : cal (d + 1) 86 [vr 0 0, vi (nn o), vl f] (MX I J T) = some (.inl (some (vi (SU ws (I 34 0) n o x))), MX I J T) := by
  rw [c86]
  have key := for_up (n := n) (Lp := fun c (a : Int32) => den (d + 1) 86 6 [some (vr 0 0), some (vi (nn o)), some (vl f), none, some (vi a), some (vi (nn c))] [] (MX I J T)) (step := fun c a => a + (if ws c = x then I 34 0 (64 * o + c) else 0)) (by
    intro c a hc
    rw [b86_6, hn, if_neg (by rw [nn_le (by omega) (by omega)]; omega)]
    by_cases hb : ws c = x
    · rw [if_neg (fun z => absurd ((hf c hc).mpr hb) (by rw [(bit0 f (by omega)).mp z]; decide)), priceC d I J T ho (by omega)]
      simp only [ret9]
      rw [b86_41, if_pos hb, nn_add1]
    · have hz : bt f c = false := by
        cases z : bt f c with
        | false => rfl
        | true => exact absurd ((hf c hc).mp z) hb
      rw [if_pos ((bit0 f (by omega)).mpr hz), if_neg hb, nn_add1, Int32.add_zero]) n 0 0 (by omega)
  refine Eq.trans key ?_
  rw [b86_6, hn, if_pos (Int32.le_refl _), sm_itn]
  rfl
theorem sumM (d : Nat) {n o : Nat} (x : Int32) (I : PI) (J : PJ) (T : TL) (hn : I 14 0 24 = nn n) (hn6 : n ≤ 64) (ho : o < 6) : cal d 239 [vr 14 0, vi (nn o), vi x] (MX I J T) = some (.inl (some (vi (SU (I 28 7) (I 34 1) n o x))), MX I J T) := by
  rw [c239]
  have key := for_up (n := n) (Lp := fun c (a : Int32) => den d 239 5 [some (vr 14 0), some (vi (nn o)), some (vi x), some (vi a), some (vi (nn c))] [] (MX I J T)) (step := fun c a => a + (if I 28 7 c = x then I 34 1 (64 * o + c) else 0)) (by
    intro c a hc
    rw [b239_5, hn, if_neg (by rw [nn_le (by omega) (by omega)]; omega), if_pos (nn_inR (by omega) (by omega)), nn_idx (by omega)]
    by_cases hb : I 28 7 c = x
    · rw [if_neg (fun z => z hb), show (64 : Int32) * nn o + nn c = nn (64 * o + c) from by rw [show (64 : Int32) = nn 64 from rfl, nn_mul, nn_add], if_pos (nn_inR (by omega) (by omega)), nn_idx (by omega), if_pos hb, nn_add1]
    · rw [if_pos hb, if_neg hb, nn_add1]) n 0 0 (by omega)
  refine Eq.trans key ?_
  rw [b239_5, hn, if_pos (Int32.le_refl _), sm_itn]
  rfl
theorem sumOfC (d : Nat) {n o k : Nat} (I : PI) (J : PJ) (T : TL) (hn : I 5 0 9 = nn n) (hn6 : n ≤ 64) (hk : k < 6) (hD : RelD I J n o) : cal (d + 2) 85 [vr 0 0, vi (nn k)] (MX I J T) = some (.inl (some (vi (SU (I 28 7) (I 34 0) n k (nn k)))), MX I J T) := by
  rw [c85, if_pos (nn_inR hk (by omega)), nn_idx (by omega), sumF d (J 42 1 k) (I 28 7) (nn k) I J T hn hn6 hk (fun c hc => by
    rw [hD.2 k hk c (by omega)]
    exact ⟨fun z => z.2, fun z => ⟨hc, z⟩⟩)]
  exact b85_14 _ _ _ _ _ _
theorem call13 (L d : Nat) : Cl13 (Inv L) (d + 5) 8 400 := by
  intro m x hm
  obtain ⟨I, J, T, rfl, h⟩ := hm
  obtain ⟨hN, hT, hA, w, h0, o, hwo, hB, hW, hM, hC, hD, hO, hK, hP⟩ := id h
  have hn := relW_le hW
  obtain ⟨ho, ho6⟩ := relB_o hB
  have hno : 0 < w * h0 → 0 < o := fun z => hwo (pos_l z)
  have e1 := ownC (d + 3) x I J T hW.2.2.1 (by omega) ho
  have e2 := ownM (d + 4) x (up3 I 14 0 0 0) J T hW.2.2.2.2.2.1 (by omega) hB hno
  by_cases hx : ol (w * h0) o x
  · obtain ⟨k, hk, rfl⟩ := cl_of (by omega) hx.2
    obtain ⟨b, hmb⟩ : ∃ b, T.2.2.1 = ro 12 b := by
      rcases hB with ⟨z1, -⟩ | ⟨b, z1, -⟩
      · omega
      · exact ⟨b, z1⟩
    have hvn : VN (up3 I 14 0 0 0) w h0 o b := relVN hB hW hO hx.1 hmb
    obtain ⟨W, g, ev, hWv⟩ := valuesM d (up3 I 14 0 0 0) J T hvn
    rw [TBe hmb] at ev
    have es := sumOfC (d + 2) (k := k) I J T hW.2.2.1 hn (by omega) hD
    have em := sumM (d + 4) (o := k) (nn k) (upA (upA (up3 I 14 0 0 0) 34 1 W) 27 0 g) J T hW.2.2.2.2.2.1 hn (by omega)
    have eq : SU ((upA (upA (up3 I 14 0 0 0) 34 1 W) 27 0 g) 28 7) ((upA (upA (up3 I 14 0 0 0) 34 1 W) 27 0 g) 34 1) (w * h0) k (nn k) = SU (I 28 7) (I 34 0) (w * h0) k (nn k) := by
      apply SU_congr
      · intro c hc; rfl
      · intro c hc
        show W (64 * k + c) = _
        rw [hWv k hk c hc, hP b hmb k hk c hc]
        rfl
    refine ⟨SU (I 28 7) (I 34 0) (w * h0) k (nn k), MX I J T, MX (upA (upA (up3 I 14 0 0 0) 34 1 W) 27 0 g) J T, ?_, fun _ => rfl, rfl, ?_, ⟨_, _, _, rfl, h⟩, Nat.le_add_right _ _, Nat.le_add_right _ _⟩
    · simp only [c84, e1, bi1 hx, ret9, b84_8, j10, if_false, es, b84_19]
    · simp only [c237, e2, bi1 hx, ret9, b237_10, j10, not_false_eq_true, if_true, ev, b237_20, em, eq, b237_26]
  · refine ⟨-2147483648, MX I J T, MX (up3 I 14 0 0 0) J T, ?_, fun _ => rfl, rfl, ?_, ⟨_, _, _, rfl, h⟩, Nat.le_add_right _ _, Nat.le_add_right _ _⟩
    · simp only [c84, e1, bi0 hx, ret9, b84_8, if_true, j00]
    · simp only [c237, e2, bi0 hx, ret9, b237_10, j00, not_true_eq_false, if_false]
