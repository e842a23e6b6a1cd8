/-! Blocks of methods 257, 264 without a book (printed by program: wip/gen/blk.py, mode n); the call grow -/
set_option maxRecDepth 100000 in
theorem c257n (d : Nat) (I : PI) (J : PJ) (T : TL) : cal (d + 1) 257 [vr 14 0] (MX I J (TN T)) = (if ¬ (I 14 0 24) = 0 then ret9 (den (d + 1) 257) 257 19 22 [some (vr 14 0), none, none, none] [] (cal d 238 [vr 14 0] (MX (up3 I 14 0 0 0) J (TN T))) else ret9 (den (d + 1) 257) 257 14 17 [some (vr 14 0), none, none, none] [] (cal d 187 [vr 14 0, vi 1] (MX (up3 I 14 0 0 0) J (TN T)))) :=
  ((bx_eq [24, 52, 112, 120, 167] (d + 1) 257 9 0 _ _ _).symm.trans rfl : _ = (if decide (¬ (I 14 0 24) = 0) = true then ret9 (den (d + 1) 257) 257 19 22 [some (vr 14 0), none, none, none] [] (cal d 238 [vr 14 0] (MX (up3 I 14 0 0 0) J (TN T))) else ret9 (den (d + 1) 257) 257 14 17 [some (vr 14 0), none, none, none] [] (cal d 187 [vr 14 0, vi 1] (MX (up3 I 14 0 0 0) J (TN T))))).trans (by simp only [ite_dec])
set_option maxRecDepth 100000 in
theorem b257n_17 (d : Nat) (v : Int32) (I : PI) (J : PJ) (T : TL) : den d 257 17 [some (vr 14 0), none, none, none] [vi v] (MX I J (TN T)) = some (.inl (some (vi v)), MX I J (TN T)) :=
  (bx_eq [24, 52, 112, 120, 167] d 257 1 17 _ _ _).symm.trans rfl
set_option maxRecDepth 100000 in
theorem c264n (d : Nat) (x1 : Int32) (I : PI) (J : PJ) (T : TL) : cal (d + 1) 264 [vr 14 0, vi x1] (MX I J (TN T)) = (if ¬ (I 14 0 24) = 0 then den (d + 1) 264 22 [some (vr 14 0), some (vi x1), some (vi 0), some (vi 0), none, none, none, none, none, none, none, none, none, none, none] [] (MX (up3 I 14 0 0 0) J (TN T)) else ret9 (den (d + 1) 264) 264 14 17 [some (vr 14 0), some (vi x1), none, none, none, none, none, none, none, none, none, none, none, none, none] [] (cal d 241 [vr 14 0, vi 1] (MX (up3 I 14 0 0 0) J (TN T)))) :=
  ((bx_eq [22, 85, 110, 154, 172, 339, 377] (d + 1) 264 10 0 _ _ _).symm.trans rfl : _ = (if decide (¬ (I 14 0 24) = 0) = true then den (d + 1) 264 22 [some (vr 14 0), some (vi x1), some (vi 0), some (vi 0), none, none, none, none, none, none, none, none, none, none, none] [] (MX (up3 I 14 0 0 0) J (TN T)) else ret9 (den (d + 1) 264) 264 14 17 [some (vr 14 0), some (vi x1), none, none, none, none, none, none, none, none, none, none, none, none, none] [] (cal d 241 [vr 14 0, vi 1] (MX (up3 I 14 0 0 0) J (TN T))))).trans (by simp only [ite_dec])
set_option maxRecDepth 100000 in
theorem b264n_17 (d : Nat) (x1 : Int32) (v : Int32) (I : PI) (J : PJ) (T : TL) : den d 264 17 [some (vr 14 0), some (vi x1), none, none, none, none, none, none, none, none, none, none, none, none, none] [vi v] (MX I J (TN T)) = some (.inl (some (vi v)), MX I J (TN T)) :=
  (bx_eq [22, 85, 110, 154, 172, 339, 377] d 264 1 17 _ _ _).symm.trans rfl
theorem cn_cut {f : Nat → Bool} {n : Nat} (h : ∀ c, n ≤ c → f c = false) : ∀ k, cn f (n + k) = cn f n
  | 0 => rfl
  | k + 1 => by
    rw [← Nat.add_assoc, cn_succ, cn_cut h k, h (n + k) (by omega), if_neg Bool.false_ne_true]; omega
/-- the first c cells are as kept -/
def KV (kp W : Nat → Int32) (c : Nat) : Nat → Int32 := fun i => if i < c then kp i else W i
theorem KV_su (kp W : Nat → Int32) (c : Nat) : (fun i => if i = c then kp c else KV kp W c i) = KV kp W (c + 1) := by
  funext i
  unfold KV
  by_cases h : i = c
  · subst h; rw [if_pos rfl, if_pos (by omega)]
  · rw [if_neg h]
    by_cases h2 : i < c
    · rw [if_pos h2, if_pos (by omega)]
    · rw [if_neg h2, if_neg (by omega)]
def LB (ws wt : Nat → Int32) (c : Nat) : Bool := decide (ws c = -1 ∧ wt c = 0)
section GROWM
variable (d : Nat) {w h o b : Nat} (I : PI) (J : PJ) (T : TL)
theorem keptM (hn : I 14 0 24 = nn (w * h)) (h64 : w * h ≤ 64) (W : Nat → Int32) : ∀ m c, c + m = w * h → den d 257 24 [some (vr 14 0), some (vi (nn c)), none, none] [] (MX (upA I 28 7 (KV (I 28 6) W c)) J (TB T b)) = den d 257 52 [some (vr 14 0), some (vi 0), none, none] [] (MX (upA I 28 7 (KV (I 28 6) W (w * h))) J (TB T b)) := by
  intro m
  induction m with
  | zero =>
    intro c hc
    have : c = w * h := by omega
    subst this
    rw [b257_24]
    show (if I 14 0 24 ≤ _ then _ else _) = _
    rw [hn, if_pos (Int32.le_refl _)]
  | succ m ih =>
    intro c hc
    have hr : inR (nn c) 64 = true := nn_inR (by omega) (by omega)
    rw [b257_24]
    show (if I 14 0 24 ≤ _ then _ else (if inR (nn c) 64 = true then (if inR (nn c) 64 = true then den d 257 24 [some (vr 14 0), some (vi (nn c + 1)), none, none] [] (MX (up3 (upA I 28 7 (KV (I 28 6) W c)) 28 7 (Int32.toNatClampNeg (nn c)) (I 28 6 (Int32.toNatClampNeg (nn c)))) J (TB T b)) else none) else none)) = _
    rw [hn, if_neg (by rw [nn_le (by omega) (by omega)]; omega), if_pos hr, if_pos hr, nn_idx (by omega), upA_up3, KV_su, nn_add1]
    exact ih (c + 1) (by omega)
theorem doorM (dr : Nat → Nat) (ho : I 12 b 0 = nn o) (ho6 : o ≤ 6) (h64 : w * h ≤ 64) (hd : ∀ k, k < o → I 21 10 k = nn (dr k) ∧ dr k < w * h) : ∀ m k (ws : Nat → Int32), k + m = o → den d 257 52 [some (vr 14 0), some (vi (nn k)), none, none] [] (MX (upA I 28 7 ws) J (TB T b)) = den d 257 112 [some (vr 14 0), some (vi 1), none, none] [] (MX (upA I 28 7 (itn (DO1 (I 39 0) dr) m k ws)) J (TB T b)) := by
  intro m
  induction m with
  | zero =>
    intro k ws hk
    rw [b257_52]
    show (if I 12 b 0 ≤ _ then _ else _) = _
    rw [ho, if_pos ((nn_le (by omega) (by omega)).mpr (by omega)), itn_z]
  | succ m ih =>
    intro k ws hk
    obtain ⟨d1, d2⟩ := hd k (by omega)
    have hr : inR (nn k) 6 = true := nn_inR (by omega) (by omega)
    have hr2 : inR (nn (dr k)) 64 = true := nn_inR (by omega) (by omega)
    rw [b257_52]
    show (if I 12 b 0 ≤ _ then _ else (if inR (nn k) 6 = true then (if inR (I 21 10 (Int32.toNatClampNeg (nn k))) 64 = true then (if ¬ ws (Int32.toNatClampNeg (I 21 10 (Int32.toNatClampNeg (nn k)))) = (-1) then den d 257 52 [some (vr 14 0), some (vi (nn k + 1)), none, none] [] (MX (upA I 28 7 ws) J (TB T b)) else (if inR (nn k) 6 = true then (if inR (I 21 10 (Int32.toNatClampNeg (nn k))) 64 = true then (if ¬ (I 39 0 (Int32.toNatClampNeg (I 21 10 (Int32.toNatClampNeg (nn k))))) = 0 then den d 257 52 [some (vr 14 0), some (vi (nn k + 1)), none, none] [] (MX (upA I 28 7 ws) J (TB T b)) else (if inR (nn k) 6 = true then (if inR (I 21 10 (Int32.toNatClampNeg (nn k))) 64 = true then den d 257 52 [some (vr 14 0), some (vi (nn k + 1)), none, none] [] (MX (up3 (upA I 28 7 ws) 28 7 (Int32.toNatClampNeg (I 21 10 (Int32.toNatClampNeg (nn k)))) (nn k)) J (TB T b)) else none) else none)) else none) else none)) else none) else none)) = _
    rw [ho, if_neg (by rw [nn_le (by omega) (by omega)]; omega), if_pos hr, nn_idx (by omega), d1, if_pos hr2, nn_idx (by omega), if_pos hr, if_pos hr2, nn_add1, upA_up3, itn_su]
    by_cases z1 : ws (dr k) = -1
    · rw [if_neg (fun y => y z1)]
      by_cases z2 : I 39 0 (dr k) = 0
      · rw [if_neg (fun y => y z2), if_pos hr, if_pos hr2, show DO1 (I 39 0) dr k ws = wu ws (dr k) (nn k) by unfold DO1; rw [if_pos ⟨z1, z2⟩]]
        exact ih (k + 1) _ (by omega)
      · rw [if_pos z2, show DO1 (I 39 0) dr k ws = ws by unfold DO1; rw [if_neg (fun y => z2 y.2)]]
        exact ih (k + 1) _ (by omega)
    · rw [if_pos z1, show DO1 (I 39 0) dr k ws = ws by unfold DO1; rw [if_neg (fun y => z1 y.1)]]
      exact ih (k + 1) _ (by omega)
theorem leftM (hn : I 14 0 24 = nn (w * h)) (h64 : w * h ≤ 64) : ∀ m c, c + m = w * h → den (d + 1) 257 167 [some (vr 14 0), some (vi 0), some (vi (nn (cn (LB (I 28 7) (I 39 0)) c))), some (vi (nn c))] [] (MX I J (TB T b)) = some (.inl (some (vi (nn (cn (LB (I 28 7) (I 39 0)) (w * h))))), MX (up3 (up3 I 14 0 1 0) 14 0 2 (-1)) J (TB T b)) := by
  intro m
  induction m with
  | zero =>
    intro c hc
    have : c = w * h := by omega
    subst this
    rw [b257_167, hn, if_pos (Int32.le_refl _), c215]
    simp only [ret9]
    rw [b257_213]
  | succ m ih =>
    intro c hc
    have hr : inR (nn c) 64 = true := nn_inR (by omega) (by omega)
    have e := ih (c + 1) (by omega)
    rw [cn_succ] at e
    rw [b257_167, hn, if_neg (by rw [nn_le (by omega) (by omega)]; omega), if_pos hr, nn_idx (by omega), if_pos hr, nn_add1]
    by_cases z1 : I 28 7 c = -1
    · rw [if_neg (fun y => y z1)]
      by_cases z2 : I 39 0 c = 0
      · rw [if_pos (show LB (I 28 7) (I 39 0) c = true from decide_eq_true ⟨z1, z2⟩)] at e
        rw [if_neg (fun y => y z2), nn_add1]
        exact e
      · rw [if_neg (fun y => z2 (of_decide_eq_true y).2)] at e
        rw [if_pos z2, show (0 : Int32) = nn 0 from rfl, nn_add]
        exact e
    · rw [if_neg (fun y => z1 (of_decide_eq_true y).1)] at e
      rw [if_pos z1, show (0 : Int32) = nn 0 from rfl, nn_add]
      exact e
end GROWM
theorem call19 (L d : Nat) : Cl19 (Inv L) (d + 6) 8 400 := by
  intro m hm
  obtain ⟨I, J, T, rfl, h⟩ := hm
  obtain ⟨hN, hT, hA, w, h0, o, hwo, hB, hW, hM, hC, hD, hO, hK, hP⟩ := id h
  have hn := relW_le hW
  obtain ⟨ho, ho6⟩ := relB_o hB
  have hno : 0 < w * h0 → 0 < o := fun z => hwo (pos_l z)
  have n9 : I 5 0 9 = nn (w * h0) := hW.2.2.1
  have n24 : I 14 0 24 = nn (w * h0) := hW.2.2.2.2.2.1
  rcases Nat.eq_zero_or_pos (w * h0) with hz | hp
  · have z9 : I 5 0 9 ≤ 0 := by rw [n9, hz]; decide
    have z24 : (up3 I 11 0 15 1) 14 0 24 = 0 := by show I 14 0 24 = 0; rw [n24, hz]; rfl
    refine ⟨-1, MX (up3 I 11 0 15 1) J T, MX (up3 (up3 (up3 (up3 I 11 0 15 1) 14 0 0 0) 14 0 1 1) 14 0 2 (-1)) J T, ?_, fun _ => rfl, rfl, ?_, ⟨_, _, _, rfl, rel_tr 1 (by decide) h⟩, Nat.le_add_right _ _, Nat.le_add_right _ _⟩
    · simp only [c115, c74, if_pos z9, ret9, b115_7, j00, not_true_eq_false, if_false, c20, b115_15]
    · rcases hB with ⟨q1, q2, -⟩ | ⟨b, q1, -⟩
      · rw [← TNe q2, c257n, if_neg (fun z => z z24), c187]
        simp only [ret9, b257n_17]
      · rw [← TBe q1, c257, if_neg (fun z => z z24), c187]
        simp only [ret9, b257_17]
  · have z9 : ¬ I 5 0 9 ≤ 0 := by rw [n9, le0 (by omega)]; omega
    obtain ⟨b, hmb⟩ := relmb hB (hno hp)
    have hg := relGW hW hp
    have hdr : ∀ k, k < o → I 21 10 k = nn (I 21 10 k).toNatClampNeg ∧ (I 21 10 k).toNatClampNeg < w * h0 := fun k hk => by
      obtain ⟨p0, p1, p2⟩ := (hO.1 k hk).2.2.1 hp
      rw [p2, nn_idx (by omega)]
      exact ⟨rfl, p1⟩
    -- the class: wiped, kept, doors
    obtain ⟨a1, f1, e1, r1⟩ := wipeR (d + 3) (w * h0) o I J T (KW (I 28 6) (I 28 7) (w * h0) 0) hn (KW_0 _ _ _)
    obtain ⟨a2, f2, e2, r2⟩ := keptR (d + 3) (o := o) (I 28 6) (I 28 7) I J T n9 hn ho6 (fun c hc => ⟨(hC.2 c hc).2.2.2.2.2.1, (hC.2 c hc).2.2.2.2.2.2⟩) (w * h0) 0 a1 f1 (by omega) r1
    obtain ⟨a3, f3, e3, r3⟩ := doorR (d + 3) (n := w * h0) (I 39 0) (fun k => (I 21 10 k).toNatClampNeg) I J T ho hn ho6 (fun k hk => ⟨(hO.1 k hk).1.trans (hdr k hk).1, (hdr k hk).2⟩) (fun c hc => ((hC.1 c (by omega)).trans ⟨fun z => z.2, fun z => ⟨hc, z⟩⟩)) o 0 _ a2 f2 none (by omega) r2
    have k2 : ∀ (W g : Nat → Int32) (I1 : PI) (J1 : PJ), I1 14 0 24 = nn (w * h0) → I1 12 b 0 = nn o → I1 28 6 = I 28 6 → I1 28 7 = I 28 7 → I1 39 0 = I 39 0 → I1 21 = I 21 → den (d + 6) 257 24 [some (vr 14 0), some (vi 0), none, none] [] (MX I1 J1 (TB T b)) = den (d + 6) 257 112 [some (vr 14 0), some (vi 1), none, none] [] (MX (upA I1 28 7 (itn (DO1 (I 39 0) (fun k => (I 21 10 k).toNatClampNeg)) o 0 (KW (I 28 6) (I 28 7) (w * h0) (w * h0)))) J1 (TB T b)) := by
      intro W g I1 J1 i24 i12 i6 i7 i39 i21
      have k1 := keptM (d + 6) (w := w) (h := h0) (b := b) I1 J1 T i24 hn (I 28 7) (w * h0) 0 (by omega)
      have k3 := doorM (d + 6) (w := w) (h := h0) (o := o) (b := b) I1 J1 T (fun k => (I 21 10 k).toNatClampNeg) i12 ho6 hn (by rw [i21]; exact hdr) o 0 (KV (I1 28 6) (I 28 7) (w * h0)) (by omega)
      rw [i6, i39, show KV (I 28 6) (I 28 7) (w * h0) = KW (I 28 6) (I 28 7) (w * h0) (w * h0) by rw [KW_n]; rfl] at k3
      rw [i6, show KV (I 28 6) (I 28 7) 0 = I1 28 7 by rw [i7]; rfl, upA_id, show KV (I 28 6) (I 28 7) (w * h0) = KW (I 28 6) (I 28 7) (w * h0) (w * h0) by rw [KW_n]; rfl] at k1
      exact k1.trans k3
    generalize itn (DO1 (I 39 0) (fun k => (I 21 10 k).toNatClampNeg)) o 0 (KW (I 28 6) (I 28 7) (w * h0) (w * h0)) = ws at k2 r3
    obtain ⟨ws2, a4, f4, e4, r4, k4⟩ := rounds (d + 1) I J T hW hp hM hC ho ho6 (w * h0) 0 ws a3 f3 none (cn_le _ _) (by omega) r3
    -- the reference
    have hvn : VN (up3 (up3 (upA I 28 3 a4) 11 0 15 0) 14 0 0 0) w h0 o b := relVN hB hW hO hp hmb
    obtain ⟨W, g, ev, hWv⟩ := valuesM (d + 1) (up3 (up3 (upA I 28 3 a4) 11 0 15 0) 14 0 0 0) (upA J 42 1 f4) T hvn
    have hpr : ∀ k, k < o → ∀ c, c < w * h0 → W (64 * k + c) = I 34 0 (64 * k + c) := fun k hk c hc => by
      rw [hWv k hk c hc, hP b hmb k hk c hc]
      rfl
    have hob : I 12 b 0 = nn o := hvn.2.2.2.1
    generalize hI2 : upA (upA (up3 (up3 (upA I 28 3 a4) 11 0 15 0) 14 0 0 0) 34 1 W) 27 0 g = I2 at ev
    have i6 : I2 28 6 = I 28 6 := by rw [← hI2]; rfl
    have i7 : I2 28 7 = I 28 7 := by rw [← hI2]; rfl
    have i34 : I2 34 1 = W := by rw [← hI2]; rfl
    have i24 : I2 14 0 24 = nn (w * h0) := by rw [← hI2]; exact n24
    have i12 : I2 12 b 0 = nn o := by rw [← hI2]; exact hob
    have i39 : I2 39 0 = I 39 0 := by rw [← hI2]; rfl
    have i21 : I2 21 = I 21 := by rw [← hI2]; rfl
    have ig : GW I2 w h0 := by rw [← hI2]; exact hg
    have k3 := k2 W g I2 (upA J 42 1 f4) i24 i12 i6 i7 i39 i21
    have k6 := k4 (d + 3) b I2 (upA J 42 1 f4) T none none ⟨ig, i24, i12, i39, by rw [i34]; exact hpr⟩
    have k5 := leftM (d + 5) (w := w) (h := h0) (b := b) (upA I2 28 7 ws2) (upA J 42 1 f4) T i24 hn (w * h0) 0 (by omega)
    change den (d + 5 + 1) 257 167 [some (vr 14 0), some (vi 0), some (vi 0), some (vi 0)] [] (MX (upA I2 28 7 ws2) (upA J 42 1 f4) (TB T b)) = some (.inl (some (vi (nn (cn (LB ws2 (I2 39 0)) (w * h0))))), MX (up3 (up3 (upA I2 28 7 ws2) 14 0 1 0) 14 0 2 (-1)) (upA J 42 1 f4) (TB T b)) at k5
    rw [i39] at k5
    have hfb := free_bt (I := upA (upA I 28 3 a4) 28 7 ws2) (J := upA J 42 1 f4) hM (show RelC (upA (upA I 28 3 a4) 28 7 ws2) (upA J 42 1 f4) (w * h0) o from hC) (show RelD (upA (upA I 28 3 a4) 28 7 ws2) (upA J 42 1 f4) (w * h0) o from r4) ho6
    have hcnt : ct (bt ((((upA J 42 1 f4) 5 0 12) &&& (((upA J 42 1 f4) 5 0 13) ^^^ (-1))) &&& (OWN (upA J 42 1 f4) ^^^ (-1)))) 64 0 0 = cn (LB ws2 (I 39 0)) (w * h0) := by
      generalize (((upA J 42 1 f4) 5 0 12) &&& (((upA J 42 1 f4) 5 0 13) ^^^ (-1))) &&& (OWN (upA J 42 1 f4) ^^^ (-1)) = U at hfb
      have e64 : 64 = w * h0 + (64 - w * h0) := by omega
      rw [ct_cn, e64, cn_cut (fun c hc => by
        cases z : bt U c with
        | false => rfl
        | true => have := ((hfb c).mp z).2.1; omega)]
      refine cn_congr (fun c hc => ?_)
      apply Bool.eq_iff_iff.mpr
      rw [hfb c]
      unfold LB
      rw [decide_eq_true_iff]
      exact ⟨fun z => z.2.2, fun z => ⟨by omega, hc, z⟩⟩
    refine ⟨nn (cn (LB ws2 (I 39 0)) (w * h0)), MX (up3 (upA I 28 3 a4) 11 0 15 0) (upA J 42 1 f4) T, MX (up3 (up3 (upA (upA (upA (up3 (up3 (upA I 28 3 a4) 11 0 15 0) 14 0 0 0) 34 1 W) 27 0 g) 28 7 ws2) 14 0 1 0) 14 0 2 (-1)) (upA J 42 1 f4) T, ?_, fun _ => rfl, rfl, ?_, ⟨_, _, _, rfl, hN, hT, ⟨hA.1, rfl, rfl, hA.2.2.2⟩, w, h0, o, hwo, hB, hW, hM, hC, r4, hO, hK, hP⟩, Nat.le_add_right _ _, Nat.le_add_right _ _⟩
    · simp only [c115, c74, if_neg z9, ret9, b115_7, j10, not_false_eq_true, if_true, c116]
      rw [e1]
      simp only [ret9]
      rw [b116_4, c117, show (some (vi 0) : Option AV) = some (vi (nn 0)) from rfl, e2]
      simp only [ret9]
      rw [b116_8, c118, show (some (vi 0) : Option AV) = some (vi (nn 0)) from rfl, e3]
      simp only [ret9]
      rw [b116_12, show (some (vi 0) : Option AV) = some (vi (nn 0)) from rfl, e4]
      simp only [ret9]
      rw [b115_23, freeC]
      simp only [ret9]
      rw [b115_31, bitC, hcnt]
      simp only [ret9]
      rw [b115_34, c51]
      simp only [ret9]
      rw [b115_37]
    · have z24 : ¬ (up3 (upA I 28 3 a4) 11 0 15 0) 14 0 24 = 0 := by show ¬ I 14 0 24 = 0; rw [n24, eq0n (by omega)]; omega
      rw [← TBe hmb, c257, if_pos z24, ev]
      simp only [ret9]
      rw [b257_22, k3, k6, k5, ← hI2]
