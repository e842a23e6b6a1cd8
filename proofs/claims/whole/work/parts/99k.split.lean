/-! Splitting a field: what is sought; the class's search -/
def prtP (F : Nat → Bool) (s : Nat) : Nat → Bool := fun c => F c && s.testBit (cn F c)
def rstP (F : Nat → Bool) (s : Nat) : Nat → Bool := fun c => F c && !s.testBit (cn F c)
def BDR (w h : Nat) (F : Nat → Bool) (s : Nat) : Nat := sQ (fun c => if rstP F s c = true then nb4 w h (prtP F s) c else 0) (w * h)
def WC (w h : Nat) (F : Nat → Bool) (S : Nat → Int32) (lo hi : Int32) (s : Nat) (st : Nat × Nat) : Prop := (lo ≤ S s ∧ S s ≤ hi) ∧ (st.1 = 0 ∨ BDR w h F s < st.2 ∨ (BDR w h F s = st.2 ∧ pcq s < pcq st.1)) ∧ HT w h (prtP F s) ∧ HT w h (rstP F s)
noncomputable def wgh (w h : Nat) (F : Nat → Bool) (S : Nat → Int32) (lo hi : Int32) (s : Nat) (st : Nat × Nat) : Nat × Nat := @ite _ (WC w h F S lo hi s st) (Classical.propDecidable _) (s, BDR w h F s) st
theorem wgh1 {w h : Nat} {F : Nat → Bool} {S : Nat → Int32} {lo hi : Int32} {s : Nat} {st : Nat × Nat} (z : WC w h F S lo hi s st) : wgh w h F S lo hi s st = (s, BDR w h F s) := by unfold wgh; rw [if_pos z]
theorem wgh0 {w h : Nat} {F : Nat → Bool} {S : Nat → Int32} {lo hi : Int32} {s : Nat} {st : Nat × Nat} (z : ¬ WC w h F S lo hi s st) : wgh w h F S lo hi s st = st := by unfold wgh; rw [if_neg z]
theorem BDR_le (w h : Nat) (F : Nat → Bool) (s : Nat) : BDR w h F s ≤ 4 * (w * h) := sQ_le4 _ _ _ _ _
def SSC (sf : Nat → Int32) (st : Nat × Nat) : Prop := sf 7 = nn st.1 ∧ st.1 < 4096 ∧ st.2 ≤ 256 ∧ (¬ st.1 = 0 → sf 5 = nn st.2 ∧ sf 6 = nn (pcq st.1))
theorem pcq_le (s : Nat) : pcq s ≤ 12 := by unfold pcq; omega
section SPLC
variable (d : Nat) {w h : Nat} (I : PI) (J : PJ) (T : TL) {f : Int64}
theorem weighC (hW : RelW I w h) (hp : 0 < w * h) (hM : RelM J w h) (hf3 : J 9 0 3 = f) (hf : ∀ c, bt f c = true → c < w * h) {s : Nat} (hs : s < 4096) {x : Int64} (hx : PT f s x) (S : Nat → Int32) (lo hi : Int32) (hlo : lo ≤ S s) (hhi : S s ≤ hi) (sf : Nat → Int32) (st : Nat × Nat) (hS : SSC sf st) : ∃ sf2 : Nat → Int32, cal (d + 2) 156 [vr 9 0, vi (nn s), vl x] (MX (upA I 9 0 sf) J T) = some (.inl none, MX (upA I 9 0 sf2) J T) ∧ SSC sf2 (wgh w h (bt f) S lo hi s st) ∧ sf2 4 = sf 4 := by
  have h64 := relW_le hW
  obtain ⟨-, -, hw1, hw8, hh1, hh8⟩ := relGW hW hp
  obtain ⟨t1, t2, t3, t4⟩ := id hS
  have hxp : ∀ c, bt x c = prtP (bt f) s c := fun c => hx c
  have hrb : ∀ c, bt (f &&& (x ^^^ -1)) c = rstP (bt f) s c := by
    intro c
    rw [bt_and, bt_not, hx c]
    unfold rstP
    cases hfc : bt f c with
    | false => rfl
    | true =>
      rw [decide_eq_true (bt_64 hfc), Bool.true_and, Bool.true_and, Bool.true_and, Bool.true_and]
  have hxl : ∀ c, bt x c = true → c < w * h := fun c hc => by
    rw [hx c] at hc
    exact hf c (Bool.and_eq_true_iff.mp hc).1
  have hrl : ∀ c, bt (f &&& (x ^^^ -1)) c = true → c < w * h := fun c hc => by
    rw [bt_and] at hc
    exact hf c (Bool.and_eq_true_iff.mp hc).1
  have ex : bt x = prtP (bt f) s := funext hxp
  have er : bt (f &&& (x ^^^ -1)) = rstP (bt f) s := funext hrb
  have sd := sidesC d (w := w) (h := h) x (f &&& (x ^^^ -1)) (upA I 9 0 sf) J T hW.1 hM hw1 hw8 h64 hxl hrl
  rw [ex, er] at sd
  change cal (d + 1) 102 [vr 5 0, vl x, vl (f &&& (x ^^^ -1))] (MX (upA I 9 0 sf) J T) = some (.inl (some (vi (nn (BDR w h (bt f) s)))), MX (upA I 9 0 sf) J T) at sd
  have hg1 := hangC (d + 1) (w := w) (h := h) x (upA I 9 0 sf) J T hW.1 hW.2.2.1 hp hM hw1 hw8 h64 hxl
  have hg2 := hangC (d + 1) (w := w) (h := h) (f &&& (x ^^^ -1)) (upA I 9 0 sf) J T hW.1 hW.2.2.1 hp hM hw1 hw8 h64 hrl
  rw [ex] at hg1
  rw [er] at hg2
  have hB := BDR_le w h (bt f) s
  generalize hBB : BDR w h (bt f) s = B at sd hB
  have hpc := pcq_le s
  have hpc2 := pcq_le st.1
  have e0 : cal (d + 2) 156 [vr 9 0, vi (nn s), vl x] (MX (upA I 9 0 sf) J T) = den (d + 2) 156 28 [some (vr 9 0), some (vi (nn s)), some (vl x), none, some (vl (f &&& (x ^^^ -1))), none, some (vi (nn B)), none, none] [vi (nn (pcq s))] (MX (upA I 9 0 sf) J T) := by
    rw [c156, hf3, sd]
    simp only [ret9]
    rw [b156_22, bitIC (d + 1) hs]
    simp only [ret9]
  have no : ¬ WC w h (bt f) S lo hi s st → SSC sf (wgh w h (bt f) S lo hi s st) := fun z => by rw [wgh0 z]; exact hS
  have go : (st.1 = 0 ∨ B < st.2 ∨ (B = st.2 ∧ pcq s < pcq st.1)) → ∃ sf2 : Nat → Int32, ret9 (den (d + 2) 156) 156 81 84 [some (vr 9 0), some (vi (nn s)), some (vl x), none, some (vl (f &&& (x ^^^ -1))), none, some (vi (nn B)), some (vi (nn (pcq s))), some (vi 1)] [] (cal (d + 1) 109 [vr 5 0, vl x] (MX (upA I 9 0 sf) J T)) = some (.inl none, MX (upA I 9 0 sf2) J T) ∧ SSC sf2 (wgh w h (bt f) S lo hi s st) ∧ sf2 4 = sf 4 := by
    intro hc
    rw [hg1]
    simp only [ret9]
    rw [b156_84]
    by_cases z1 : HT w h (prtP (bt f) s)
    · rw [bi1 z1, if_neg (by decide), hg2]
      simp only [ret9]
      rw [b156_96]
      by_cases z2 : HT w h (rstP (bt f) s)
      · rw [bi1 z2, if_neg (by decide)]
        refine ⟨wu (wu (wu sf 7 (nn s)) 5 (nn B)) 6 (nn (pcq s)), ?_, ?_, rfl⟩
        · rw [show up3 (upA I 9 0 sf) 9 0 7 (nn s) = upA I 9 0 (wu sf 7 (nn s)) from upA_up3 _ _ _ _ _ _, show up3 (upA I 9 0 (wu sf 7 (nn s))) 9 0 5 (nn B) = upA I 9 0 (wu (wu sf 7 (nn s)) 5 (nn B)) from upA_up3 _ _ _ _ _ _, show up3 (upA I 9 0 (wu (wu sf 7 (nn s)) 5 (nn B))) 9 0 6 (nn (pcq s)) = upA I 9 0 (wu (wu (wu sf 7 (nn s)) 5 (nn B)) 6 (nn (pcq s))) from upA_up3 _ _ _ _ _ _]
        · rw [wgh1 ⟨⟨hlo, hhi⟩, by rw [hBB]; exact hc, z1, z2⟩]
          exact ⟨rfl, hs, by rw [hBB]; show B ≤ 256; omega, fun _ => ⟨by rw [hBB]; rfl, rfl⟩⟩
      · rw [bi0 z2, if_pos rfl]
        exact ⟨sf, rfl, no (fun q => z2 q.2.2.2), rfl⟩
    · rw [bi0 z1, if_pos rfl]
      exact ⟨sf, rfl, no (fun q => z1 q.2.2.1), rfl⟩
  rw [e0, b156_28]
  show ∃ sf2 : Nat → Int32, (if sf 7 = 0 then _ else (if nn B < sf 5 then _ else (if ¬ nn B = sf 5 then _ else (if sf 6 ≤ nn (pcq s) then _ else _)))) = _ ∧ _
  by_cases z0 : st.1 = 0
  · rw [if_pos (by rw [t1, z0]; rfl)]
    exact go (.inl z0)
  · obtain ⟨t5, t6⟩ := t4 z0
    rw [if_neg (by rw [t1, eq0n (by omega)]; exact z0), t5, t6]
    have m1 : (nn B < nn st.2) ↔ B < st.2 := nn_lt (by omega) (by omega)
    have m2 : (nn B = nn st.2) ↔ B = st.2 := nn_inj (by omega) (by omega)
    have m3 : (nn (pcq st.1) ≤ nn (pcq s)) ↔ pcq st.1 ≤ pcq s := nn_le (by omega) (by omega)
    by_cases z1 : B < st.2
    · rw [if_pos (m1.mpr z1)]
      exact go (.inr (.inl z1))
    · rw [if_neg (fun y => z1 (m1.mp y))]
      by_cases z2 : B = st.2
      · rw [if_neg (fun y => y (m2.mpr z2))]
        by_cases z3 : pcq st.1 ≤ pcq s
        · rw [if_pos (m3.mpr z3)]
          refine ⟨sf, rfl, no (fun q => ?_), rfl⟩
          rcases q.2.1 with y | y | y
          · exact z0 y
          · rw [hBB] at y; exact z1 y
          · omega
        · rw [if_neg (fun y => z3 (m3.mp y))]
          exact go (.inr (.inr ⟨z2, by omega⟩))
      · rw [if_pos (fun y => z2 (m2.mp y))]
        refine ⟨sf, rfl, no (fun q => ?_), rfl⟩
        rcases q.2.1 with y | y | y
        · exact z0 y
        · rw [hBB] at y; exact z1 y
        · rw [hBB] at y; exact z2 y.1
theorem min11 {r : Nat} (h : r < 12) : min9 (nn r) 11 = nn r := by
  unfold min9
  by_cases z : (11 : Int32) < nn r
  · have := (nn_lt (a := 11) (by omega) (by omega)).mp z
    omega
  · rw [if_neg z]
theorem searchC (hW : RelW I w h) (hp : 0 < w * h) (hM : RelM J w h) (hf3 : J 9 0 3 = f) (hf : ∀ c, bt f c = true → c < w * h) (lo hi : Int32) (V : Nat → Int32) {m : Nat} (hm2 : 2 ≤ m) (hm12 : m ≤ 12) (hV : ∀ i, i < m → I 24 0 i = V i ∧ I 24 1 i = sm V i 0 0) : ∀ k s (x : Int64) (sf : Nat → Int32) (st : Nat × Nat) (o8 : Option AV), s + 1 + k = 2 ^ m - 1 → PT f s x → SSC sf st → ∃ sf2 : Nat → Int32, den (d + 3) 155 23 [some (vr 9 0), some (vi lo), some (vi hi), some (vi (nn (2 ^ m - 1))), some (vl x), none, some (vi (SV V m s)), some (vi (nn (s + 1))), o8] [] (MX (upA I 9 0 sf) J T) = some (.inl (some (vi (bi (¬ (itn (wgh w h (bt f) (SV V m) lo hi) k (s + 1) st).1 = 0)))), MX (upA I 9 0 sf2) J T) ∧ SSC sf2 (itn (wgh w h (bt f) (SV V m) lo hi) k (s + 1) st) := by
  have hpw : 2 ^ m ≤ 4096 := by
    have := Nat.pow_le_pow_right (show 0 < 2 by omega) hm12
    exact this
  intro k
  induction k with
  | zero =>
    intro s x sf st o8 hk hx hS
    refine ⟨sf, ?_, hS⟩
    rw [b155_23, if_pos ((nn_le (by omega) (by omega)).mpr (by omega)), b155_102]
    show (if sf 7 = 0 then _ else _) = _
    rw [hS.1, itn_z]
    have := hS.2.1
    by_cases z : st.1 = 0
    · rw [if_pos (by rw [z]; rfl), b155_113, b155_114, if_pos (.inl rfl), bi0 (fun y => y z)]
    · rw [if_neg (by rw [eq0n (by omega)]; exact z), b155_109, b155_114, if_pos (.inr rfl), bi1 z]
  | succ k ih =>
    intro s x sf st o8 hk hx hS
    obtain ⟨r, hr1, hr2, hr3⟩ : ∃ r, r < m ∧ s.testBit r = false ∧ ∀ j, j < r → s.testBit j = true := by
      have hex : ∃ c, c < m ∧ (!s.testBit c) = true := by
        apply Classical.byContradiction
        intro z
        have hall : ∀ c, c < m → s.testBit c = true := fun c hc => by
          cases y : s.testBit c with
          | true => rfl
          | false => exact absurd ⟨c, hc, by rw [y]; rfl⟩ z
        have : s = 2 ^ m - 1 := by
          apply Nat.eq_of_testBit_eq
          intro i
          rw [Nat.testBit_two_pow_sub_one]
          by_cases hi : i < m
          · rw [hall i hi, decide_eq_true hi]
          · rw [decide_eq_false hi]
            exact tb_big (Nat.lt_of_lt_of_le (show s < 2 ^ m by omega) (Nat.pow_le_pow_right (by omega) (by omega)))
        omega
      obtain ⟨r, h1, h2, h3⟩ := least_ex (fun c => !s.testBit c) m hex
      have h2' : s.testBit r = false := by
        cases y : s.testBit r with
        | false => rfl
        | true => rw [y] at h2; cases h2
      refine ⟨r, h1, h2', fun j hj => ?_⟩
      have := h3 j hj
      cases y : s.testBit j with
      | true => rfl
      | false => rw [y] at this; cases this
    have b1 : (s + 1).testBit r = true := by rw [tb_inc, hr2, decide_eq_true hr3]; rfl
    have b2 : ∀ j, j < r → (s + 1).testBit j = false := fun j hj => by
      rw [tb_inc, hr3 j hj, decide_eq_true (fun q hq => hr3 q (by omega))]; rfl
    have lc := leastC (d + 1) (f := Int32.toInt64 (nn (s + 1))) (s := r) (upA I 9 0 sf) J T (by rw [bt_i2l (by omega), b1, decide_eq_true (by omega)]; rfl) (fun j hj => by rw [bt_i2l (by omega), b2 j hj, Bool.and_false])
    have hri : inR (nn r) 12 = true := nn_inR (by omega) (by omega)
    have hx2 := PT_inc hx
    have e0 : ∃ p8 : Option AV, den (d + 3) 155 23 [some (vr 9 0), some (vi lo), some (vi hi), some (vi (nn (2 ^ m - 1))), some (vl x), none, some (vi (SV V m s)), some (vi (nn (s + 1))), o8] [] (MX (upA I 9 0 sf) J T) = den (d + 3) 155 76 [some (vr 9 0), some (vi lo), some (vi hi), some (vi (nn (2 ^ m - 1))), some (vl ((x - f) &&& f)), none, some (vi (SV V m (s + 1))), some (vi (nn (s + 1))), some (vi (nn r))] [] (MX (upA I 9 0 sf) J T) := by
      refine ⟨none, ?_⟩
      rw [b155_23, if_neg (by rw [nn_le (by omega) (by omega)]; omega), b155_29, lc]
      simp only [ret9]
      rw [b155_35, min11 (by omega), b155_42, if_pos hri, if_pos hri, nn_idx (by omega)]
      show den (d + 3) 155 62 [some (vr 9 0), some (vi lo), some (vi hi), some (vi (nn (2 ^ m - 1))), some (vl x), none, some (vi (SV V m s + (I 24 0 r - I 24 1 r))), some (vi (nn (s + 1))), some (vi (nn r))] [] (MX (upA I 9 0 sf) J T) = _
      rw [(hV r hr1).1, (hV r hr1).2, ← SV_step hr3 hr2 m hr1, b155_62, hf3]
    obtain ⟨-, e0⟩ := e0
    have nx : ∀ (sf3 : Nat → Int32) (st3 : Nat × Nat), SSC sf3 st3 → ∃ sf2 : Nat → Int32, den (d + 3) 155 96 [some (vr 9 0), some (vi lo), some (vi hi), some (vi (nn (2 ^ m - 1))), some (vl ((x - f) &&& f)), none, some (vi (SV V m (s + 1))), some (vi (nn (s + 1))), some (vi (nn r))] [] (MX (upA I 9 0 sf3) J T) = some (.inl (some (vi (bi (¬ (itn (wgh w h (bt f) (SV V m) lo hi) k (s + 1 + 1) st3).1 = 0)))), MX (upA I 9 0 sf2) J T) ∧ SSC sf2 (itn (wgh w h (bt f) (SV V m) lo hi) k (s + 1 + 1) st3) := by
      intro sf3 st3 h3
      obtain ⟨sf2, e2, q2⟩ := ih (s + 1) _ sf3 st3 (some (vi (nn r))) (by omega) hx2 h3
      refine ⟨sf2, ?_, q2⟩
      rw [b155_96, b155_99, nn_add1]
      exact e2
    rw [e0, itn_su]
    by_cases z1 : SV V m (s + 1) < lo
    · rw [b155_76, if_pos z1, wgh0 (fun y => i32_nlt.mpr y.1.1 z1)]
      exact nx sf st hS
    · by_cases z2 : hi < SV V m (s + 1)
      · rw [b155_76, if_neg z1, b155_82, if_pos z2, wgh0 (fun y => i32_nlt.mpr y.1.2 z2)]
        exact nx sf st hS
      · obtain ⟨sf3, e3, q3, -⟩ := weighC d I J T hW hp hM hf3 hf (show s + 1 < 4096 by omega) hx2 (SV V m) lo hi (i32_nlt.mp z1) (i32_nlt.mp z2) sf st hS
        rw [b155_76, if_neg z1, b155_82, if_neg z2, b155_88, e3]
        simp only [ret9]
        exact nx sf3 _ q3
end SPLC
