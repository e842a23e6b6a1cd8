/-! The call cell -/
theorem relCPf {I : PI} {J : PJ} {g : Nat} {mb : OR} {w h o b : Nat} (hB : RelB I g mb o) (hW : RelW I w h) (hM : RelM J w h) (hC : RelC I J (w * h) o) (hO : RelO I (w * h) o) (hp : 0 < w * h) (hmb : mb = ro 12 b) {k : Nat} (hk : k < o) : CP I J g w h k (I 21 10 k).toNatClampNeg (I 21 (b + 12) k).toNatClampNeg (fun i => I 33 b (48 * k + i)) (I 39 0) ∧ I 21 10 k = nn (I 21 10 k).toNatClampNeg ∧ (I 21 10 k).toNatClampNeg < w * h ∧ I 21 (b + 12) k = nn (I 21 (b + 12) k).toNatClampNeg ∧ (I 21 (b + 12) k).toNatClampNeg ≤ 40 := by
  have hn := relW_le hW
  obtain ⟨b2, p0, len, r1, r2, r3, r4, r5, r6⟩ := relCP hB hW hM hC hO hp hk
  have hbb : b2 = b := by
    rw [r1] at hmb
    exact (Prod.mk.inj (Option.some.inj (Option.some.inj hmb))).2
  subst hbb
  rw [r2, r4, nn_idx (by omega), nn_idx (by omega)]
  exact ⟨r6, rfl, r3, rfl, r5⟩
theorem nearW_eq {f f2 : Nat → Int32} {w h c : Nat} (hff : ∀ e, adj w h c e → (f e = 0 ↔ f2 e = 0)) : nearW f w h c = nearW f2 w h c := by
  have : nearW f w h c = true ↔ nearW f2 w h c = true := by
    rw [nearW_iff, nearW_iff]
    constructor
    · intro ⟨e, h1, h2⟩; exact ⟨e, h1, fun z => h2 ((hff e h1).mpr z)⟩
    · intro ⟨e, h1, h2⟩; exact ⟨e, h1, fun z => h2 ((hff e h1).mp z)⟩
  cases h1 : nearW f w h c with
  | true => exact (this.mp h1).symm
  | false =>
    cases h2 : nearW f2 w h c with
    | true => rw [this.mpr h2] at h1; exact absurd h1 (by decide)
    | false => rfl
/-- the water behind a cell's change -/
def wtJ (J : PJ) (c : Nat) (x : Int32) : PJ := up3 J 5 0 13 (if x = 0 then (J 5 0 13) &&& ((lsh9 1 (nn c)) ^^^ (-1)) else (J 5 0 13) ||| (lsh9 1 (nn c)))
theorem bt_wtJ (J : PJ) {c : Nat} (hc : c < 64) (x : Int32) (i : Nat) (hi : i < 64) : bt (wtJ J c x 5 0 13) i = true ↔ (if i = c then ¬ x = 0 else bt (J 5 0 13) i = true) := by
  show bt (if x = 0 then _ else _) i = true ↔ _
  by_cases hx : x = 0
  · rw [if_pos hx, bt_and, bt_not, bt_bit hc]
    by_cases h : i = c
    · simp [h, hx]
    · simp [h, hi]
  · rw [if_neg hx, bt_or, bt_bit hc]
    by_cases h : i = c
    · simp [h, hx]
    · simp [h]
theorem changeC (d : Nat) {w h o c : Nat} (s wt x : Int32) (p0 len : Nat → Nat) (p : Nat → Nat → Int32) (wf : Nat → Int32) (I : PI) (J : PJ) (T : TL) (hn : w * h ≤ 64) (ho6 : o ≤ 6) (ho : I 1 T.1 3 = nn o) (hc : c < w * h) (hw : I 5 0 7 = nn w) (hcp : ∀ k, k < o → CP (up3 (up3 I 28 0 c s) 28 1 c wt) (wtJ J c x) T.1 w h k (p0 k) (len k) (p k) wf) : ∃ v : Nat → Int32, cal (d + 5) 70 [vr 5 0, vi (nn c), vi s, vi wt, vi x] (MX I J T) = some (.inl none, MX (upA (upA (up3 (up3 I 28 0 c s) 28 1 c wt) 34 0 (PG (up3 (up3 I 28 0 c s) 28 1 c wt) (lsh9 1 (nn c) ||| bsJ (wtJ J c x) w (lsh9 1 (nn c))) (fun k => VC (up3 (up3 I 28 0 c s) 28 1 c wt) w h (p0 k) (len k) (p k) wf) (w * h) o)) 25 T.1 v) (wtJ J c x) T) := by
  obtain ⟨v, e⟩ := priceAll d (lsh9 1 (nn c) ||| bsJ (wtJ J c x) w (lsh9 1 (nn c))) p0 len p wf (up3 (up3 I 28 0 c s) 28 1 c wt) (wtJ J c x) T hn ho6 ho hcp
  refine ⟨v, ?_⟩
  have hc6 : inR (nn c) 64 = true := nn_inR (by omega) (by omega)
  have hb := besideC (d + 3) (w := w) (lsh9 1 (nn c)) (up3 (up3 I 28 0 c s) 28 1 c wt) (wtJ J c x) T hw
  have key : cal (d + 5) 70 [vr 5 0, vi (nn c), vi s, vi wt, vi x] (MX I J T) = ret9 (den (d + 5) 70) 70 54 57 [some (vr 5 0), some (vi (nn c)), some (vi s), some (vi wt), some (vi x)] [vl (lsh9 1 (nn c)), vr 5 0] (cal (d + 4) 58 [vr 5 0, vl (lsh9 1 (nn c))] (MX (up3 (up3 I 28 0 c s) 28 1 c wt) (wtJ J c x) T)) := by
    rw [c70, if_pos hc6, if_pos hc6, nn_idx (by omega)]
    unfold wtJ
    by_cases hx : x = 0
    · rw [if_pos hx, if_pos hx]
    · rw [if_neg hx, if_neg hx]
  rw [key, hb]
  simp only [ret9]
  rw [b70_57, e]
  simp only [ret9]
  exact b70_61 _ _ _ _ _ _ _ _
theorem bl9_01 (z : Int32) : bl9 z = 0 ∨ bl9 z = 1 := by
  unfold bl9
  by_cases h : z = 0
  · simp [h]
  · simp [h]
theorem call5 (L d : Nat) : Cl5 (Inv L) (d + 6) 8 400 := by
  intro m x s wt z4 hm
  obtain ⟨I, J, T, rfl, h⟩ := hm
  have h01 := bl9_01 z4
  generalize bl9 z4 = wa at h01 ⊢
  obtain ⟨hN, hT, hA, w, h0, o, hwo, hB, hW, hM, hC, hD, hO, hK, hP⟩ := id h
  have hn := relW_le hW
  obtain ⟨ho, ho6⟩ := relB_o hB
  have hno : 0 < w * h0 → 0 < o := fun z => hwo (pos_l z)
  have e1 := cellC (d + 5) x I J T hW.2.2.1
  have e2 : ∀ t : Int32, cal (d + 5) 221 [vr 14 0, vi x] (MX (up3 (up3 I 11 0 15 t) 14 0 0 0) J T) = _ := fun t => cellM (d + 5) x (up3 (up3 I 11 0 15 t) 14 0 0 0) J T hW.2.2.2.2.2.1
  have deny : ∀ t : Int32, ¬ t = 4 → cal (d + 6) 67 [vr 11 0, vi x, vi s, vi wt, vi wa] (MX I J T) = some (.inl (some (vi 0)), MX (up3 I 11 0 15 t) J T) → cal (d + 6) 220 [vr 14 0, vi x, vi s, vi wt, vi wa] (MX (up3 I 11 0 15 t) J T) = some (.inl (some (vi 0)), MX (up3 (up3 (up3 (up3 I 11 0 15 t) 14 0 0 0) 14 0 1 t) 14 0 2 (-1)) J T) → Ok2 (Inv L) (d + 6) 8 400 67 220 [vi x, vi s, vi wt, vi wa] (MX I J T) :=
    fun t ht q1 q2 => ⟨0, MX (up3 I 11 0 15 t) J T, _, q1, fun _ => rfl, rfl, q2, ⟨_, _, _, rfl, rel_tr t ht h⟩, Nat.le_add_right _ _, Nat.le_add_right _ _⟩
  by_cases hx : cl (w * h0) x
  · by_cases hs : (0 : Int32) ≤ s ∧ s ≤ 9
    · have hs1 : ¬ s < 0 := i32_nlt.mpr hs.1
      have hs2 : ¬ 9 < s := i32_nlt.mpr hs.2
      by_cases hw : (0 : Int32) ≤ wt ∧ wt ≤ 9
      · have hw1 : ¬ wt < 0 := i32_nlt.mpr hw.1
        obtain ⟨c, hc, rfl⟩ := cl_of (by omega) hx
        have hx6 : inR (nn c) 64 = true := nn_inR (by omega) (by omega)
        have hkk : (nn c).toNatClampNeg = c := nn_idx (by omega)
        have hp : 0 < w * h0 := by omega
        obtain ⟨b, hmb⟩ : ∃ b, T.2.2.1 = ro 12 b := by
          rcases hB with ⟨z1, -⟩ | ⟨b, z1, -⟩
          · have := hno hp; omega
          · exact ⟨b, z1⟩
        have hgw := relGW hW hp
        have hcpf := fun k (hk : k < o) => relCPf hB hW hM hC hO hp hmb hk
        have hcp : ∀ k, k < o → CP (up3 (up3 I 28 0 c s) 28 1 c wt) (wtJ J c wa) T.1 w h0 k (I 21 10 k).toNatClampNeg (I 21 (b + 12) k).toNatClampNeg (fun i => I 33 b (48 * k + i)) (up3 I 39 0 c wa 39 0) := by
          intro k hk
          obtain ⟨s1, s2, s3, s4, s5, s6, s7⟩ := (hcpf k hk).1
          refine ⟨s1, s2, ?_, s4, s5, s6, ?_⟩
          · intro i hi
            rw [bt_wtJ J (by omega) wa i hi]
            show _ ↔ (i < w * h0 ∧ ¬ (if i = c then wa else I 39 0 i) = 0)
            by_cases hic : i = c
            · rw [if_pos hic, if_pos hic]
              constructor
              · intro z; exact ⟨by omega, z⟩
              · intro z; exact z.2
            · rw [if_neg hic, if_neg hic]; exact s3 i hi
          · intro i hi
            refine ⟨?_, ?_⟩
            · show wb (if i = c then s else I 28 0 i)
              by_cases hic : i = c
              · rw [if_pos hic]; exact wb9 hs.1 hs.2
              · rw [if_neg hic]; exact (s7 i hi).1
            · show wb (if i = c then wt else I 28 1 i)
              by_cases hic : i = c
              · rw [if_pos hic]; exact wb9 hw.1 hw.2
              · rw [if_neg hic]; exact (s7 i hi).2
        obtain ⟨v, ev⟩ := changeC d s wt wa (fun k => (I 21 10 k).toNatClampNeg) (fun k => (I 21 (b + 12) k).toNatClampNeg) (fun k i => I 33 b (48 * k + i)) (up3 I 39 0 c wa 39 0) I J T hn ho6 ho hc hW.1 hcp
        generalize hPq : PG (up3 (up3 I 28 0 c s) 28 1 c wt) (lsh9 1 (nn c) ||| bsJ (wtJ J c wa) w (lsh9 1 (nn c))) (fun k => VC (up3 (up3 I 28 0 c s) 28 1 c wt) w h0 (I 21 10 k).toNatClampNeg (I 21 (b + 12) k).toNatClampNeg (fun i => I 33 b (48 * k + i)) (up3 I 39 0 c wa 39 0)) (w * h0) o = Pq at ev
        have hand : wa &&& 1 = wa := by rcases h01 with z | z <;> rw [z] <;> rfl
        have e5 := cellM (d + 5) (nn c) (up3 (up3 (upA (upA (up3 (up3 I 28 0 c s) 28 1 c wt) 34 0 Pq) 25 T.1 v) 11 0 15 0) 14 0 0 0) (wtJ J c wa) T hW.2.2.2.2.2.1
        refine ⟨1, MX (up3 (upA (upA (up3 (up3 I 28 0 c s) 28 1 c wt) 34 0 Pq) 25 T.1 v) 11 0 15 0) (wtJ J c wa) T, MX (up3 (up3 (up3 (up3 (up3 (up3 (up3 (upA (upA (up3 (up3 I 28 0 c s) 28 1 c wt) 34 0 Pq) 25 T.1 v) 11 0 15 0) 14 0 0 0) 28 4 c s) 28 5 c wt) 39 0 c wa) 14 0 1 0) 14 0 2 (-1)) (wtJ J c wa) T, ?_, fun _ => rfl, rfl, ?_, ⟨_, _, _, rfl, ?_⟩, Nat.le_add_right _ _, Nat.le_add_right _ _⟩
        · simp only [c67, e1, bi1 hx, ret9, b67_8, j10, not_false_eq_true, if_true, if_neg hs1, if_neg hs2, if_neg hw1, if_pos hw.2, ev, b67_55, c71, b67_59, or_true, j11]
        · simp only [c220, e5, bi1 hx, ret9, b220_10, j10, not_false_eq_true, if_true, inM, bi1 hs, b220_26, if_false, bi1 hw, b220_36, hx6, hkk, hand, c223, b220_71, or_true, j11]
        · have hC3 : RelC (up3 (up3 (up3 (upA (upA (up3 (up3 I 28 0 c s) 28 1 c wt) 34 0 Pq) 25 T.1 v) 28 4 c s) 28 5 c wt) 39 0 c wa) (wtJ J c wa) (w * h0) o := by
            refine ⟨?_, ?_⟩
            · intro i hi
              rw [bt_wtJ J (by omega) wa i hi]
              show _ ↔ (i < w * h0 ∧ ¬ (if i = c then wa else I 39 0 i) = 0)
              by_cases hic : i = c
              · rw [if_pos hic, if_pos hic]
                constructor
                · intro z; exact ⟨by omega, z⟩
                · intro z; exact z.2
              · rw [if_neg hic, if_neg hic]; exact hC.1 i hi
            · intro i hi
              obtain ⟨a1, a2, a3, a4, a5, a6, a7⟩ := hC.2 i hi
              show ((if i = c then wa else I 39 0 i) = 0 ∨ (if i = c then wa else I 39 0 i) = 1) ∧ (if i = c then s else I 28 0 i) = (if i = c then s else I 28 4 i) ∧ (0 ≤ (if i = c then s else I 28 4 i) ∧ (if i = c then s else I 28 4 i) ≤ 9) ∧ (if i = c then wt else I 28 1 i) = (if i = c then wt else I 28 5 i) ∧ (0 ≤ (if i = c then wt else I 28 5 i) ∧ (if i = c then wt else I 28 5 i) ≤ 9) ∧ _
              by_cases hic : i = c
              · simp only [if_pos hic]
                exact ⟨h01, trivial, hs, trivial, hw, a6, a7⟩
              · simp only [if_neg hic]
                exact ⟨a1, a2, a3, a4, a5, a6, a7⟩
          have hP3 : RelP (up3 (up3 (up3 (upA (upA (up3 (up3 I 28 0 c s) 28 1 c wt) 34 0 Pq) 25 T.1 v) 28 4 c s) 28 5 c wt) 39 0 c wa) T.2.2.1 w h0 o := by
            intro b2 hb2 k2 hk2 c2 hc2
            have hbb : b2 = b := by
              rw [hmb] at hb2
              exact (Prod.mk.inj (Option.some.inj (Option.some.inj hb2))).2.symm
            subst hbb
            obtain ⟨-, f1, f2, f3, f4⟩ := hcpf k2 hk2
            have hq2 : Pq (64 * k2 + c2) = PG (up3 (up3 I 28 0 c s) 28 1 c wt) (lsh9 1 (nn c) ||| bsJ (wtJ J c wa) w (lsh9 1 (nn c))) (fun k => VC (up3 (up3 I 28 0 c s) 28 1 c wt) w h0 (I 21 10 k).toNatClampNeg (I 21 (b2 + 12) k).toNatClampNeg (fun i => I 33 b2 (48 * k + i)) (up3 I 39 0 c wa 39 0)) (w * h0) o (64 * k2 + c2) := by rw [hPq]
            refine Eq.trans (show _ = Pq (64 * k2 + c2) from rfl) (hq2.trans ?_)
            unfold PG
            have d1 : (64 * k2 + c2) / 64 = k2 := by omega
            have d2 : (64 * k2 + c2) % 64 = c2 := by omega
            rw [d1, d2]
            have hcc := hC.2 c2 hc2
            have hM2 : RelM (wtJ J c wa) w h0 := hM
            have hfb : ∀ i, bt (lsh9 1 (nn c)) i = true → i < w * h0 := by
              intro i hi
              rw [bt_bit (by omega)] at hi
              have := of_decide_eq_true hi
              omega
            by_cases hset : bt (lsh9 1 (nn c) ||| bsJ (wtJ J c wa) w (lsh9 1 (nn c))) c2 = true
            · rw [if_pos ⟨hk2, hc2, hset⟩]
              refine VC_VAL (I := up3 (up3 I 28 0 c s) 28 1 c wt) (I2 := up3 (up3 (up3 (upA (upA (up3 (up3 I 28 0 c s) 28 1 c wt) 34 0 Pq) 25 T.1 v) 28 4 c s) 28 5 c wt) 39 0 c wa) ?_ ?_ f1 (by omega) f3 f4
              · show (if c2 = c then s else I 28 4 c2) = (if c2 = c then s else I 28 0 c2)
                rw [hcc.2.1]
              · show (if c2 = c then wt else I 28 5 c2) = (if c2 = c then wt else I 28 1 c2)
                rw [hcc.2.2.2.1]
            · rw [if_neg (fun z => hset z.2.2)]
              show I 34 0 (64 * k2 + c2) = _
              rw [hP b2 hmb k2 hk2 c2 hc2]
              have hcne : ¬ c2 = c := by
                intro z
                apply hset
                rw [bt_or, bt_bit (by omega), z]
                simp
              have hnadj : ¬ adj w h0 c2 c := by
                intro z
                apply hset
                rw [bt_or, Bool.or_eq_true]
                exact .inr ((bt_bs hM2 hgw.2.2.1 hgw.2.2.2.1 hn hfb c2).mpr ⟨hc2, c, z, by rw [bt_bit (by omega)]; exact decide_eq_true rfl⟩)
              unfold VAL
              have g4 : (up3 (up3 (up3 (upA (upA (up3 (up3 I 28 0 c s) 28 1 c wt) 34 0 Pq) 25 T.1 v) 28 4 c s) 28 5 c wt) 39 0 c wa) 28 4 c2 = I 28 4 c2 := by
                show (if c2 = c then s else I 28 4 c2) = _
                rw [if_neg hcne]
              have g5 : (up3 (up3 (up3 (upA (upA (up3 (up3 I 28 0 c s) 28 1 c wt) 34 0 Pq) 25 T.1 v) 28 4 c s) 28 5 c wt) 39 0 c wa) 28 5 c2 = I 28 5 c2 := by
                show (if c2 = c then wt else I 28 5 c2) = _
                rw [if_neg hcne]
              have g6 : nearW ((up3 (up3 (up3 (upA (upA (up3 (up3 I 28 0 c s) 28 1 c wt) 34 0 Pq) 25 T.1 v) 28 4 c s) 28 5 c wt) 39 0 c wa) 39 0) w h0 c2 = nearW (I 39 0) w h0 c2 := by
                apply nearW_eq
                intro e he
                have : ¬ e = c := fun z => hnadj (z ▸ he)
                show (if e = c then wa else I 39 0 e) = 0 ↔ _
                rw [if_neg this]
              rw [g4, g5, g6]
              rfl
          have hh : Rel L (up3 (up3 (up3 (upA (upA (up3 (up3 I 28 0 c s) 28 1 c wt) 34 0 Pq) 25 T.1 v) 28 4 c s) 28 5 c wt) 39 0 c wa) (wtJ J c wa) T := ⟨hN, hT, hA, w, h0, o, hwo, hB, hW, hM, hC3, hD, hO, hK, hP3⟩
          exact rel_tr 0 (by decide) hh
      · refine deny 2 (by decide) ?_ ?_
        · by_cases hw1 : wt < 0
          · simp only [c67, e1, bi1 hx, ret9, b67_8, j10, not_false_eq_true, if_true, if_neg hs1, if_neg hs2, if_pos hw1, c69, b67_42, true_or]
          · have hw2 : ¬ wt ≤ 9 := fun z => hw ⟨i32_nlt.mp hw1, z⟩
            simp only [c67, e1, bi1 hx, ret9, b67_8, j10, not_false_eq_true, if_true, if_neg hs1, if_neg hs2, if_neg hw1, if_neg hw2, c69, b67_42, true_or]
        · simp only [c220, e2, bi1 hx, ret9, b220_10, j10, not_false_eq_true, if_true, inM, bi1 hs, b220_26, if_false, bi0 hw, b220_36, j00, not_true_eq_false, c222, b220_44, true_or]
    · refine deny 2 (by decide) ?_ ?_
      · by_cases hs1 : s < 0
        · simp only [c67, e1, bi1 hx, ret9, b67_8, j10, not_false_eq_true, if_true, if_pos hs1, c69, b67_42, true_or]
        · have hs2 : 9 < s := i32_nle.mp (fun z => hs ⟨i32_nlt.mp hs1, z⟩)
          simp only [c67, e1, bi1 hx, ret9, b67_8, j10, not_false_eq_true, if_true, if_neg hs1, if_pos hs2, c69, b67_42, true_or]
      · simp only [c220, e2, bi1 hx, ret9, b220_10, j10, not_false_eq_true, if_true, inM, bi0 hs, b220_26, j00, c222, b220_44, true_or]
  · refine deny 1 (by decide) ?_ ?_
    · simp only [c67, e1, bi0 hx, ret9, b67_8, not_true_eq_false, if_false, c69, b67_16, true_or, if_true, j00]
    · simp only [c220, e2, bi0 hx, ret9, b220_10, not_true_eq_false, if_false, c222, b220_18, true_or, if_true, j00]
