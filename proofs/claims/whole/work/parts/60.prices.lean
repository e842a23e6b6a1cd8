/-! The class's prices, of all owners; the call door -/
theorem upA4 {α : Type} (I : Nat → Nat → Nat → α) (g : Nat) (A v B v2 : Nat → α) : upA (upA (upA (upA I 34 0 A) 25 g v) 34 0 B) 25 g v2 = upA (upA I 34 0 B) 25 g v2 := by
  funext a b c
  unfold upA
  by_cases h1 : a = 34
  · subst h1
    by_cases h2 : b = 0 <;> simp [h2]
  · by_cases h3 : a = 25
    · subst h3
      by_cases h4 : b = g <;> simp [h4]
    · simp [h1, h3]
def PG (I : PI) (set : Int64) (V : Nat → Nat → Int32) (n k j : Nat) : Int32 := if j / 64 < k ∧ j % 64 < n ∧ bt set (j % 64) = true then V (j / 64) (j % 64) else I 34 0 j
theorem PG_zero (I : PI) (set : Int64) (V : Nat → Nat → Int32) (n : Nat) : PG I set V n 0 = I 34 0 := by
  funext j
  unfold PG
  rw [if_neg (by omega)]
theorem PF_PG (I I2 : PI) (set : Int64) (V : Nat → Nat → Int32) (n k : Nat) (hn : n ≤ 64) (hI : I2 34 0 = PG I set V n k) : PF I2 set k (V k) n = PG I set V n (k + 1) := by
  funext j
  unfold PF
  rw [hI]
  unfold PG
  by_cases hk : j / 64 = k
  · have e : j - 64 * k = j % 64 := by omega
    rw [e]
    by_cases hc : j % 64 < n ∧ bt set (j % 64) = true
    · rw [if_pos ⟨by omega, by omega, hc.2⟩, if_pos ⟨by omega, hc⟩, hk]
    · rw [if_neg (fun z => hc ⟨by omega, z.2.2⟩), if_neg (fun z => hc z.2), if_neg (fun z => hc z.2)]
  · rw [if_neg (fun z => hk (by omega))]
    by_cases hc : j / 64 < k ∧ j % 64 < n ∧ bt set (j % 64) = true
    · rw [if_pos hc, if_pos ⟨by omega, hc.2⟩]
    · rw [if_neg hc, if_neg (fun z => hc ⟨by omega, z.2⟩)]
theorem priceAllLp (d : Nat) {w h o : Nat} (set : Int64) (p0 len : Nat → Nat) (p : Nat → Nat → Int32) (wt : Nat → Int32) (I : PI) (J : PJ) (T : TL) (hn : w * h ≤ 64) (ho6 : o ≤ 6) (ho : I 1 T.1 3 = nn o) (hcp : ∀ k, k < o → CP I J T.1 w h k (p0 k) (len k) (p k) wt) : ∀ (m k : Nat) (v : Nat → Int32), k + m = o → ∃ v2 : Nat → Int32, den (d + 4) 56 2 [some (vr 5 0), some (vl set), none, some (vi (nn k))] [] (MX (upA (upA I 34 0 (PG I set (fun k => VC I w h (p0 k) (len k) (p k) wt) (w * h) k)) 25 T.1 v) J T) = some (.inl none, MX (upA (upA I 34 0 (PG I set (fun k => VC I w h (p0 k) (len k) (p k) wt) (w * h) o)) 25 T.1 v2) J T) := by
  intro m
  induction m with
  | zero =>
    intro k v hk
    have : k = o := by omega
    subst this
    refine ⟨v, ?_⟩
    rw [b56_2]
    show (if I 1 T.1 3 ≤ _ then _ else _) = _
    rw [ho, if_pos (Int32.le_refl _)]
  | succ m ih =>
    intro k v hk
    rw [b56_2]
    show ∃ v2, (if I 1 T.1 3 ≤ _ then _ else _) = _
    rw [ho, if_neg (by rw [nn_le (by omega) (by omega)]; omega)]
    obtain ⟨v3, e⟩ := priceTo d set (p k) wt (upA (upA I 34 0 (PG I set (fun k => VC I w h (p0 k) (len k) (p k) wt) (w * h) k)) 25 T.1 v) J T (hcp k (by omega))
    rw [e]
    simp only [ret9]
    rw [b56_19, upA4, nn_add1]
    have e2 : PF (upA (upA I 34 0 (PG I set (fun k => VC I w h (p0 k) (len k) (p k) wt) (w * h) k)) 25 T.1 v) set k (VC (upA (upA I 34 0 (PG I set (fun k => VC I w h (p0 k) (len k) (p k) wt) (w * h) k)) 25 T.1 v) w h (p0 k) (len k) (p k) wt) (w * h) = PG I set (fun k => VC I w h (p0 k) (len k) (p k) wt) (w * h) (k + 1) :=
      PF_PG I _ set (fun k => VC I w h (p0 k) (len k) (p k) wt) (w * h) k hn rfl
    rw [e2]
    exact ih (k + 1) v3 (by omega)
theorem priceAll (d : Nat) {w h o : Nat} (set : Int64) (p0 len : Nat → Nat) (p : Nat → Nat → Int32) (wt : Nat → Int32) (I : PI) (J : PJ) (T : TL) (hn : w * h ≤ 64) (ho6 : o ≤ 6) (ho : I 1 T.1 3 = nn o) (hcp : ∀ k, k < o → CP I J T.1 w h k (p0 k) (len k) (p k) wt) : ∃ v : Nat → Int32, cal (d + 4) 56 [vr 5 0, vl set] (MX I J T) = some (.inl none, MX (upA (upA I 34 0 (PG I set (fun k => VC I w h (p0 k) (len k) (p k) wt) (w * h) o)) 25 T.1 v) J T) := by
  obtain ⟨v, e⟩ := priceAllLp d set p0 len p wt I J T hn ho6 ho hcp o 0 (I 25 T.1) (by omega)
  refine ⟨v, ?_⟩
  rw [c56]
  rw [PG_zero, upA_id, upA_id] at e
  exact e
theorem wb9 {x : Int32} (h0 : 0 ≤ x) (h9 : x ≤ 9) : wb x := wb_small h0 (Int32.le_trans h9 (by decide))
/-- what the class needs, out of what holds between two calls -/
theorem relCP {I : PI} {J : PJ} {g : Nat} {mb : OR} {w h o : Nat} (hB : RelB I g mb o) (hW : RelW I w h) (hM : RelM J w h) (hC : RelC I J (w * h) o) (hO : RelO I (w * h) o) (hp : 0 < w * h) {k : Nat} (hk : k < o) : ∃ b p0 len, mb = ro 12 b ∧ I 21 10 k = nn p0 ∧ p0 < w * h ∧ I 21 (b + 12) k = nn len ∧ len ≤ 40 ∧ CP I J g w h k p0 len (fun i => I 33 b (48 * k + i)) (I 39 0) := by
  have hn := relW_le hW
  obtain ⟨g1, g2, g3, g4, g5, g6⟩ := relGW hW hp
  obtain ⟨ho, ho6⟩ := relB_o hB
  rcases hB with ⟨h1, -⟩ | ⟨b, h1, h2, h3, h4, h5, h6⟩
  · omega
  · obtain ⟨len, l1, l2, l3, l4, l5⟩ := h6 k hk
    obtain ⟨r1, r2, r3, r4⟩ := hO.1 k hk
    obtain ⟨p0, q1, q2⟩ := r3 hp
    refine ⟨b, p0, len, h1, q2, q1, l3, l1, ⟨hW.1, hW.2.2.1, g3, g4, g5, g6⟩, hM, hC.1, ⟨o, hk, h3, h4⟩, ⟨l1, l2, l5, l4⟩, ⟨by omega, r1.trans q2⟩, fun c hc => ?_⟩
    obtain ⟨a1, a2, a3, a4, a5, a6, a7⟩ := hC.2 c hc
    rw [a2, a4]
    exact ⟨wb9 a3.1 a3.2, wb9 a5.1 a5.2⟩
/-- the class's value is the reference's, where their data are alike -/
theorem VC_VAL {I I2 : PI} {b w h k c p0 len : Nat} (h4 : I2 28 4 c = I 28 0 c) (h5 : I2 28 5 c = I 28 1 c) (h10 : I2 21 10 k = nn p0) (hp0 : p0 < 64) (hl : I2 21 (b + 12) k = nn len) (hl4 : len ≤ 40) : VC I w h p0 len (fun i => I2 33 b (48 * k + i)) (I2 39 0) c = VAL I2 b w h k c := by
  unfold VC VP VAL
  rw [h4, h5, h10, hl, nn_idx (by omega), nn_idx (by omega)]
theorem call6 (L d : Nat) : Cl6 (Inv L) (d + 5) 8 400 := by
  intro m x y hm
  obtain ⟨I, J, T, rfl, h⟩ := hm
  obtain ⟨hN, hT, hA, w, h0, o, hwo, hB, hW, hM, hC, hD, hO, hK, hP⟩ := id h
  have hn := relW_le hW
  obtain ⟨ho, ho6⟩ := relB_o hB
  have hno : 0 < w * h0 → 0 < o := fun z => hwo (pos_l z)
  have e1 := ownC (d + 3) x I J T hW.2.2.1 (by omega) ho
  have e2 := cellC (d + 4) y I J T hW.2.2.1
  have e3 := ownM (d + 4) x (up3 (up3 I 11 0 15 1) 14 0 0 0) J T hW.2.2.2.2.2.1 (by omega) hB hno
  have e4 := cellM (d + 4) y (up3 (up3 I 11 0 15 1) 14 0 0 0) J T hW.2.2.2.2.2.1
  have deny : ∀ t : Int32, ¬ t = 4 → cal (d + 5) 72 [vr 11 0, vi x, vi y] (MX I J T) = some (.inl (some (vi 0)), MX (up3 I 11 0 15 t) J T) → cal (d + 5) 224 [vr 14 0, vi x, vi y] (MX (up3 I 11 0 15 t) J T) = some (.inl (some (vi 0)), MX (up3 (up3 (up3 (up3 I 11 0 15 t) 14 0 0 0) 14 0 1 t) 14 0 2 (-1)) J T) → Ok2 (Inv L) (d + 5) 8 400 72 224 [vi x, vi y] (MX I J T) :=
    fun t ht q1 q2 => ⟨0, MX (up3 I 11 0 15 t) J T, _, q1, fun _ => rfl, rfl, q2, ⟨_, _, _, rfl, rel_tr t ht h⟩, Nat.le_add_right _ _, Nat.le_add_right _ _⟩
  by_cases hx : ol (w * h0) o x
  · by_cases hy : cl (w * h0) y
    · obtain ⟨k, hk, rfl⟩ := cl_of (by omega) hx.2
      obtain ⟨c, hc, rfl⟩ := cl_of (by omega) hy
      have hk6 : inR (nn k) 6 = true := nn_inR (by omega) (by omega)
      have hkk : (nn k).toNatClampNeg = k := nn_idx (by omega)
      obtain ⟨b, p0, len, r1, r2, r3, r4, r5, r6⟩ := relCP hB hW hM hC hO hx.1 hk
      have hg5 : ¬ 5 * T.1 = 3 ∧ ¬ 5 * T.1 = 10 := by rcases relN_g hN with z | z <;> omega
      have hcp : CP (up3 I 21 3 k (nn c)) J T.1 w h0 k c len (fun i => I 33 b (48 * k + i)) (I 39 0) := by
        obtain ⟨s1, s2, s3, s4, ⟨s5, s6, s7, s8⟩, s9, s10⟩ := r6
        refine ⟨s1, s2, s3, s4, ⟨s5, ?_, s7, s8⟩, ⟨by omega, ?_⟩, s10⟩
        · rw [up3_j I 21 hg5.1]; exact s6
        · show (if k = k then nn c else I 21 3 k) = nn c
          rw [if_pos rfl]
      obtain ⟨v, ev⟩ := priceTo d (J 5 0 12) (fun i => I 33 b (48 * k + i)) (I 39 0) (up3 I 21 3 k (nn c)) J T hcp
      generalize hPq : PF (up3 I 21 3 k (nn c)) (J 5 0 12) k (VC (up3 I 21 3 k (nn c)) w h0 c len (fun i => I 33 b (48 * k + i)) (I 39 0)) (w * h0) = Pq at ev
      have hB2 : RelB (up3 (up3 (upA (upA (up3 I 21 3 k (nn c)) 34 0 Pq) 25 T.1 v) 11 0 15 0) 14 0 0 0) T.1 T.2.2.1 o := relB_21 hN hB 3 k (nn c) (by omega)
      have e5 := ownM (d + 4) (nn k) (up3 (up3 (upA (upA (up3 I 21 3 k (nn c)) 34 0 Pq) 25 T.1 v) 11 0 15 0) 14 0 0 0) J T hW.2.2.2.2.2.1 (by omega) hB2 hno
      have e6 := cellM (d + 4) (nn c) (up3 (up3 (upA (upA (up3 I 21 3 k (nn c)) 34 0 Pq) 25 T.1 v) 11 0 15 0) 14 0 0 0) J T hW.2.2.2.2.2.1
      refine ⟨1, MX (up3 (upA (upA (up3 I 21 3 k (nn c)) 34 0 Pq) 25 T.1 v) 11 0 15 0) J T, MX (up3 (up3 (up3 (up3 (up3 (upA (upA (up3 I 21 3 k (nn c)) 34 0 Pq) 25 T.1 v) 11 0 15 0) 14 0 0 0) 21 10 k (nn c)) 14 0 1 0) 14 0 2 (-1)) J T, ?_, fun _ => rfl, rfl, ?_, ⟨_, _, _, rfl, ?_⟩, Nat.le_add_right _ _, Nat.le_add_right _ _⟩
      · simp only [c72, e1, bi1 hx, ret9, b72_8, j10, if_false, e2, bi1 hy, b72_19, not_false_eq_true, if_true, c75, hk6, hkk, ev, b75_16, b72_37, c71, b72_41, or_true, j11]
      · simp only [c224, e5, bi1 hx, ret9, b224_10, j10, if_false, e6, bi1 hy, b224_18, not_false_eq_true, if_true, hk6, hkk, c223, b224_38, or_true, j11]
      · have hB3 : RelB (up3 (upA (upA (up3 I 21 3 k (nn c)) 34 0 Pq) 25 T.1 v) 21 10 k (nn c)) T.1 T.2.2.1 o := relB_21 (I := upA (upA (up3 I 21 3 k (nn c)) 34 0 Pq) 25 T.1 v) hN (relB_21 hN hB 3 k (nn c) (by omega)) 10 k (nn c) (by omega)
        have hO3 : RelO (up3 (upA (upA (up3 I 21 3 k (nn c)) 34 0 Pq) 25 T.1 v) 21 10 k (nn c)) (w * h0) o := by
          obtain ⟨q1, q2⟩ := hO
          refine ⟨?_, q2⟩
          intro i hi
          obtain ⟨s1, s2, s3, s4⟩ := q1 i hi
          refine ⟨?_, s2, fun z => ?_, s4⟩
          · show (if i = k then nn c else I 21 3 i) = (if i = k then nn c else I 21 10 i)
            rw [s1]
          · show ∃ p, p < w * h0 ∧ (if i = k then nn c else I 21 10 i) = nn p
            by_cases hik : i = k
            · rw [if_pos hik]; exact ⟨c, hc, rfl⟩
            · rw [if_neg hik]; exact s3 z
        have hP3 : RelP (up3 (upA (upA (up3 I 21 3 k (nn c)) 34 0 Pq) 25 T.1 v) 21 10 k (nn c)) T.2.2.1 w h0 o := by
          intro b2 hb2 k2 hk2 c2 hc2
          have hbb : b2 = b := by
            rw [r1] at hb2
            exact (Prod.mk.inj (Option.some.inj (Option.some.inj hb2))).2.symm
          subst hbb
          have hq2 : Pq (64 * k2 + c2) = PF (up3 I 21 3 k (nn c)) (J 5 0 12) k (VC (up3 I 21 3 k (nn c)) w h0 c len (fun i => I 33 b2 (48 * k + i)) (I 39 0)) (w * h0) (64 * k2 + c2) := by rw [hPq]
          refine Eq.trans (show _ = Pq (64 * k2 + c2) from rfl) (hq2.trans ?_)
          unfold PF
          by_cases hkk2 : k2 = k
          · subst hkk2
            have hall : bt (J 5 0 12) c2 = true := by
              rw [(hM c2 (by omega)).1]; exact decide_eq_true hc2
            rw [Nat.add_sub_cancel_left, if_pos ⟨by omega, by omega, hall⟩]
            have hcc := hC.2 c2 hc2
            refine VC_VAL (I2 := up3 (upA (upA (up3 I 21 3 k2 (nn c)) 34 0 Pq) 25 T.1 v) 21 10 k2 (nn c)) hcc.2.1.symm hcc.2.2.2.1.symm ?_ (by omega) ?_ r5
            · show (if k2 = k2 then nn c else I 21 10 k2) = nn c
              rw [if_pos rfl]
            · rw [up3_j _ 21 (show ¬ b2 + 12 = 10 by omega)]
              show up3 I 21 3 k2 (nn c) 21 (b2 + 12) k2 = nn len
              rw [up3_j _ 21 (show ¬ b2 + 12 = 3 by omega)]
              exact r4
          · rw [if_neg (by omega)]
            show I 34 0 (64 * k2 + c2) = _
            rw [hP b2 r1 k2 hk2 c2 hc2]
            refine (VAL_congr (I := I) (I' := up3 (upA (upA (up3 I 21 3 k (nn c)) 34 0 Pq) 25 T.1 v) 21 10 k (nn c)) rfl rfl ?_ rfl rfl ?_).symm
            · show (if k2 = k then nn c else I 21 10 k2) = I 21 10 k2
              rw [if_neg hkk2]
            · intro j hj
              rw [up3_j _ 21 (show ¬ j = 10 by omega)]
              show up3 I 21 3 k (nn c) 21 j = I 21 j
              rw [up3_j _ 21 (show ¬ j = 3 by omega)]
        have hh : Rel L (up3 (upA (upA (up3 I 21 3 k (nn c)) 34 0 Pq) 25 T.1 v) 21 10 k (nn c)) J T := ⟨hN, hT, hA, w, h0, o, hwo, hB3, hW, hM, hC, hD, hO3, hK, hP3⟩
        exact rel_tr 0 (by decide) hh
    · refine deny 1 (by decide) ?_ ?_
      · simp only [c72, e1, bi1 hx, ret9, b72_8, j10, if_false, e2, bi0 hy, b72_19, not_true_eq_false, c69, b72_27, true_or, if_true, j00]
      · simp only [c224, e3, bi1 hx, ret9, b224_10, j10, if_false, e4, bi0 hy, b224_18, not_true_eq_false, c222, b224_26, true_or, if_true, j00]
  · refine deny 1 (by decide) ?_ ?_
    · simp only [c72, e1, bi0 hx, ret9, b72_8, if_true, c69, b72_27, true_or, j00]
    · simp only [c224, e3, bi0 hx, ret9, b224_10, if_true, c222, b224_26, true_or, j00]
