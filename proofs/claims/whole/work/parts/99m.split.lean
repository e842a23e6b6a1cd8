/-! Splitting a field: the reference -/
def SMM (I : PI) (sd rw Q S : Nat → Int32) : PI := upA (upA (HM I Q S) 28 11 sd) 28 12 rw
theorem smm_sd (I : PI) (sd rw Q S : Nat → Int32) (i : Nat) (v : Int32) : up3 (SMM I sd rw Q S) 28 11 i v = SMM I (wu sd i v) rw Q S := by
  unfold SMM
  funext a b c
  unfold up3 upA wu
  by_cases h1 : a = 28
  · subst h1; simp
    by_cases h2 : b = 11
    · subst h2; simp
    · simp [h2]
  · simp [h1]
theorem smm_rw (I : PI) (sd rw Q S : Nat → Int32) (i : Nat) (v : Int32) : up3 (SMM I sd rw Q S) 28 12 i v = SMM I sd (wu rw i v) Q S := upA_up3 _ _ _ _ _ _
theorem smm_hm (I : PI) (sd rw Q S Q2 S2 : Nat → Int32) : HM (SMM I sd rw Q S) Q2 S2 = SMM I sd rw Q2 S2 := by
  unfold SMM HM
  funext a b c
  unfold upA
  by_cases h1 : a = 28
  · subst h1; simp
    by_cases h2 : b = 12
    · simp [h2]
    · by_cases h3 : b = 11
      · simp [h3]
      · by_cases h4 : b = 8
        · simp [h4]
        · simp [h2, h3, h4]
  · simp [h1]
    by_cases h5 : a = 39
    · subst h5; simp
      by_cases h6 : b = 1
      · simp [h6]
      · simp [h6]
    · simp [h5]
theorem nb4_at (w h : Nat) (g P : Nat → Bool) (c : Nat) : (if g c = true then nb4 w h P c else 0) = atS w h (fun a b => if g a = true ∧ P b = true then 1 else 0) c 1 + atS w h (fun a b => if g a = true ∧ P b = true then 1 else 0) c 0 + atS w h (fun a b => if g a = true ∧ P b = true then 1 else 0) c 2 + atS w h (fun a b => if g a = true ∧ P b = true then 1 else 0) c 3 := by
  unfold nb4 nbI atS
  by_cases z : g c = true
  · rw [if_pos z]
    cases nb w h c 0 <;> cases nb w h c 1 <;> cases nb w h c 2 <;> cases nb w h c 3 <;> simp [z]
  · rw [if_neg z]
    cases nb w h c 0 <;> cases nb w h c 1 <;> cases nb w h c 2 <;> cases nb w h c 3 <;> simp [z]
theorem sQ_add4 (a b c e : Nat → Nat) (n : Nat) : sQ (fun i => a i + b i + c i + e i) n = sQ a n + sQ b n + sQ c n + sQ e n := by
  rw [sQ_add (fun i => a i + b i + c i) e, sQ_add (fun i => a i + b i) c, sQ_add a b]
theorem swapG {w h : Nat} (hw1 : 1 ≤ w) (g P : Nat → Bool) : sQ (fun c => if g c = true then nb4 w h P c else 0) (w * h) = sQ (fun c => if P c = true then nb4 w h g c else 0) (w * h) := by
  have e : ∀ g P : Nat → Bool, sQ (fun c => if g c = true then nb4 w h P c else 0) (w * h) = sQ (fun c => atS w h (fun a b => if g a = true ∧ P b = true then 1 else 0) c 1) (w * h) + sQ (fun c => atS w h (fun a b => if g a = true ∧ P b = true then 1 else 0) c 0) (w * h) + sQ (fun c => atS w h (fun a b => if g a = true ∧ P b = true then 1 else 0) c 2) (w * h) + sQ (fun c => atS w h (fun a b => if g a = true ∧ P b = true then 1 else 0) c 3) (w * h) := by
    intro g P
    rw [← sQ_add4]
    exact sQ_congr _ (fun c _ => nb4_at w h g P c)
  have hsw : (fun a b => if P a = true ∧ g b = true then 1 else 0 : Nat → Nat → Nat) = fun a b => (fun a b => if g a = true ∧ P b = true then 1 else 0 : Nat → Nat → Nat) b a := by
    funext a b
    by_cases h1 : P a = true <;> by_cases h2 : g b = true <;> simp [h1, h2]
  have hsw2 : (fun a b => if g a = true ∧ P b = true then 1 else 0 : Nat → Nat → Nat) = fun a b => (fun a b => if P a = true ∧ g b = true then 1 else 0 : Nat → Nat → Nat) b a := by
    funext a b
    by_cases h1 : P b = true <;> by_cases h2 : g a = true <;> simp [h1, h2]
  have a1 := at_10 (h := h) hw1 (fun a b => if g a = true ∧ P b = true then 1 else 0)
  have a2 := at_10 (h := h) hw1 (fun a b => if P a = true ∧ g b = true then 1 else 0)
  have a3 := at_23 (w := w) (h := h) (fun a b => if g a = true ∧ P b = true then 1 else 0)
  have a4 := at_23 (w := w) (h := h) (fun a b => if P a = true ∧ g b = true then 1 else 0)
  rw [← hsw] at a1 a3
  rw [← hsw2] at a2 a4
  rw [e g P, e P g]
  omega
section SPLM
variable (d : Nat) {w h : Nat} (I : PI) (J : PJ) (T : TL) {k m : Nat} {F : Nat → Bool}
theorem rowLp (hn : I 14 0 24 = nn (w * h)) (h64 : w * h ≤ 64) (hF : ∀ c, c < w * h → (F c = true ↔ I 28 7 c = nn k)) (lo hi x4 : Int32) : ∀ q c (sd rw Q S : Nat → Int32), c + q = w * h → (∀ e, e < c → sd e = -1) → (∀ e, e < c → F e = true → rw (cn F e) = nn e) → ∃ sd2 rw2 : Nat → Int32, den d 271 78 [some (vr 14 0), some (vi (nn k)), some (vi lo), some (vi hi), some (vi x4), some (vi (nn (cn F c))), some (vi (nn c)), none, none, none, none, none, none, none] [] (MX (SMM I sd rw Q S) J T) = den d 271 136 [some (vr 14 0), some (vi (nn k)), some (vi lo), some (vi hi), some (vi x4), some (vi (nn (cn F (w * h)))), some (vi (nn 0)), some (vi (nn 0)), some (vi (nn 1)), none, none, none, none, none] [] (MX (SMM I sd2 rw2 Q S) J T) ∧ (∀ e, e < w * h → sd2 e = -1) ∧ (∀ e, e < w * h → F e = true → rw2 (cn F e) = nn e) := by
  intro q
  induction q with
  | zero =>
    intro c sd rw Q S hc h1 h2
    have : c = w * h := by omega
    subst this
    refine ⟨sd, rw, ?_, h1, h2⟩
    rw [b271_78]
    show (if I 14 0 24 ≤ _ then _ else _) = _
    rw [hn, if_pos (Int32.le_refl _), b271_127, b271_130, b271_133]
    rfl
  | succ q ih =>
    intro c sd rw Q S hc h1 h2
    have hr : inR (nn c) 64 = true := nn_inR (by omega) (by omega)
    have hle := cn_le F c
    have hsu := cn_succ F c
    have e0 : den d 271 78 [some (vr 14 0), some (vi (nn k)), some (vi lo), some (vi hi), some (vi x4), some (vi (nn (cn F c))), some (vi (nn c)), none, none, none, none, none, none, none] [] (MX (SMM I sd rw Q S) J T) = (if I 28 7 c = nn k then den d 271 109 [some (vr 14 0), some (vi (nn k)), some (vi lo), some (vi hi), some (vi x4), some (vi (nn (cn F c))), some (vi (nn c)), none, none, none, none, none, none, none] [] (MX (SMM I (wu sd c (-1)) rw Q S) J T) else den d 271 106 [some (vr 14 0), some (vi (nn k)), some (vi lo), some (vi hi), some (vi x4), some (vi (nn (cn F c))), some (vi (nn c)), none, none, none, none, none, none, none] [] (MX (SMM I (wu sd c (-1)) rw Q S) J T)) := by
      rw [b271_78]
      show (if I 14 0 24 ≤ _ then _ else _) = _
      rw [hn, if_neg (by rw [nn_le (by omega) (by omega)]; omega), b271_87, if_pos hr, nn_idx (by omega), smm_sd, b271_95, if_pos hr, nn_idx (by omega)]
      rfl
    have h1' : ∀ e, e < c + 1 → wu sd c (-1) e = -1 := fun e he => by
      unfold wu
      by_cases z : e = c
      · rw [if_pos z]
      · rw [if_neg z]; exact h1 e (by omega)
    rw [e0]
    by_cases z : F c = true
    · rw [if_pos z] at hsu
      obtain ⟨sd2, rw2, e2, q1, q2⟩ := ih (c + 1) (wu sd c (-1)) (wu rw (cn F c) (nn c)) Q S (by omega) h1' (fun e he hfe => by
        unfold wu
        by_cases y : e = c
        · rw [if_pos (by rw [y]), y]
        · have := cn_mono2 F (show e + 1 ≤ c by omega)
          rw [cn_succ, if_pos hfe] at this
          rw [if_neg (by omega)]
          exact h2 e (by omega) hfe)
      refine ⟨sd2, rw2, ?_, q1, q2⟩
      rw [if_pos ((hF c (by omega)).mp z), b271_109, if_pos (nn_inR (by omega) (by omega)), nn_idx (by omega), smm_rw, b271_118, nn_add1, ← hsu, b271_121, b271_124, nn_add1]
      exact e2
    · rw [if_neg z, Nat.add_zero] at hsu
      obtain ⟨sd2, rw2, e2, q1, q2⟩ := ih (c + 1) (wu sd c (-1)) rw Q S (by omega) h1' (fun e he hfe => by
        by_cases y : e = c
        · rw [y] at hfe; exact absurd hfe z
        · exact h2 e (by omega) hfe)
      refine ⟨sd2, rw2, ?_, q1, q2⟩
      rw [if_neg (fun y => z ((hF c (by omega)).mpr y)), b271_106, b271_121, b271_124, nn_add1]
      rw [hsu] at e2
      exact e2
/-- the sides are as the number s says -/
def SDok (w h : Nat) (F : Nat → Bool) (s : Nat) (sd : Nat → Int32) : Prop := ∀ e, e < w * h → sd e = if F e = true then (if s.testBit (cn F e) = true then 1 else 0) else -1
theorem l1Lp (h64 : w * h ≤ 64) (hk : k < 6) (hm : cn F (w * h) = m) (hm12 : m ≤ 12) {V rw : Nat → Int32} (hrw : ∀ e, e < w * h → F e = true → rw (cn F e) = nn e) (hV : ∀ e, e < w * h → F e = true → I 34 1 (64 * k + e) = V (cn F e)) {s : Nat} (hs : s < 4096) (lo hi x5 x6 x7 : Int32) (o11 o12 o13 : Option AV) : ∀ q c (sd Q S : Nat → Int32), c + q = w * h → (∀ e, e < w * h → sd e = if F e = true then (if e < c then (if s.testBit (cn F e) = true then 1 else 0) else sd e) else -1) → ∃ sd2 : Nat → Int32, den d 271 153 [some (vr 14 0), some (vi (nn k)), some (vi lo), some (vi hi), some (vi (nn m)), some (vi x5), some (vi x6), some (vi x7), some (vi (nn s)), some (vi (sm (fun i => if s.testBit i = true then V i else 0) (cn F c) 0 0)), some (vi (nn (cn F c))), o11, o12, o13] [] (MX (SMM I sd rw Q S) J T) = den d 271 222 [some (vr 14 0), some (vi (nn k)), some (vi lo), some (vi hi), some (vi (nn m)), some (vi x5), some (vi x6), some (vi x7), some (vi (nn s)), some (vi (SV V m s)), some (vi (nn m)), o11, o12, o13] [] (MX (SMM I sd2 rw Q S) J T) ∧ SDok w h F s sd2 := by
  intro q
  induction q with
  | zero =>
    intro c sd Q S hc h1
    have : c = w * h := by omega
    subst this
    refine ⟨sd, ?_, fun e he => ?_⟩
    · rw [hm, b271_153, if_pos (Int32.le_refl _)]
      rfl
    · have := h1 e he
      rw [if_pos he] at this
      exact this
  | succ q ih =>
    intro c sd Q S hc h1
    have hsu := cn_succ F c
    have hmono := cn_mono2 F (show c + 1 ≤ w * h by omega)
    by_cases z : F c = true
    · rw [if_pos z] at hsu
      have hrc := hrw c (by omega) z
      have hr : inR (nn (cn F c)) 64 = true := nn_inR (by omega) (by omega)
      have hr2 : inR (nn c) 64 = true := nn_inR (by omega) (by omega)
      have hb := shr_tb hs (show cn F c < 12 by omega)
      obtain ⟨sd2, e2, q2⟩ := ih (c + 1) (wu sd c (if s.testBit (cn F c) = true then 1 else 0)) Q S (by omega) (fun e he => by
        have h1e := h1 e he
        unfold wu
        by_cases y : e = c
        · subst y
          rw [if_pos rfl, if_pos z, if_pos (show e < e + 1 by omega)]
        · rw [if_neg y]
          by_cases hfe : F e = true
          · rw [if_pos hfe]
            rw [if_pos hfe] at h1e
            by_cases hec : e < c + 1
            · rw [if_pos hec]
              rw [if_pos (show e < c by omega)] at h1e
              exact h1e
            · rw [if_neg hec]
          · rw [if_neg hfe]
            rw [if_neg hfe] at h1e
            exact h1e)
      refine ⟨sd2, ?_, q2⟩
      rw [b271_153, if_neg (by rw [nn_le (by omega) (by omega)]; omega), b271_160, if_pos hr, nn_idx (by omega)]
      show (if inR (rw (cn F c)) 64 = true then den d 271 179 _ _ (MX (up3 (SMM I sd rw Q S) 28 11 (Int32.toNatClampNeg (rw (cn F c))) _) J T) else none) = _
      rw [hrc, if_pos hr2, nn_idx (by omega), smm_sd, hb, b271_179, hb]
      rw [hsu, sm_end, Nat.zero_add] at e2
      by_cases y : s.testBit (cn F c) = true
      · rw [if_pos y] at e2
        rw [if_pos y]
        rw [if_neg (fun x => x rfl), b271_192, if_pos hr, nn_idx (by omega)]
        show (if inR (64 * nn k + rw (cn F c)) 384 = true then den d 271 213 _ [vi (I 34 1 (Int32.toNatClampNeg (64 * nn k + rw (cn F c)))), _] _ else none) = _
        rw [hrc, show (64 : Int32) = nn 64 from rfl, nn_mul, nn_add, if_pos (nn_inR (by omega) (by omega)), nn_idx (by omega), hV c (by omega) z, b271_213, b271_216, b271_219, nn_add1]
        rw [if_pos y] at e2
        exact e2
      · rw [if_neg y] at e2
        rw [if_neg y]
        rw [if_pos (by decide), b271_212, b271_213, b271_216, b271_219, nn_add1]
        rw [if_neg y] at e2
        exact e2
    · rw [if_neg z, Nat.add_zero] at hsu
      obtain ⟨sd2, e2, q2⟩ := ih (c + 1) sd Q S (by omega) (fun e he => by
        have h1e := h1 e he
        by_cases hfe : F e = true
        · rw [if_pos hfe]
          rw [if_pos hfe] at h1e
          by_cases hec : e < c + 1
          · rw [if_pos hec]
            have : ¬ e = c := fun y => z (by rw [← y]; exact hfe)
            rw [if_pos (show e < c by omega)] at h1e
            exact h1e
          · rw [if_neg hec]
        · rw [if_neg hfe]
          rw [if_neg hfe] at h1e
          exact h1e)
      rw [hsu] at e2
      exact ⟨sd2, e2, q2⟩
end SPLM
