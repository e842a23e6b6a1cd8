/-! Ditches: the class's least length -/
section DLL
variable (d : Nat) (I : PI) (J : PJ) (T : TL) {w h : Nat} {ws : Nat → Int32}
theorem partsD (hW : RelW I w h) (hp : 0 < w * h) (hw8 : w ≤ 8) (hh8 : h ≤ 8) {A : Nat → Nat → Prop} {cor : Nat → Nat} {t S : Nat} (hS : S < 8) {val : Nat → Nat → Nat} (hV : ∀ P, SBG P S → RPG A cor t ((w + 1) * (h + 1)) 1000 P (val P)) : ∀ m p (le : Nat → Int32) (cur : Nat → Nat), p + m = S → 1 ≤ p → ROWd 1000 S ((w + 1) * (h + 1)) le cur → (∀ P, SBG P S → ROWd 1000 P ((w + 1) * (h + 1)) le (val P)) → (∀ c, c < (w + 1) * (h + 1) → cur c < 1000 → IG A cor t S c (cur c)) → (∀ P, P < p → SBG P S → ∀ c, c < (w + 1) * (h + 1) → cur c ≤ val P c + val (S ^^^ P) c) → ∃ (le2 : Nat → Int32) (cur2 : Nat → Nat), den (d + 3) 169 76 [some (vr 2 0), some (vi (nn S)), some (vi (nn (81 * S))), some (vi (nn p))] [] (MX (upA I 35 0 le) J T) = some (.inl none, MX (upA I 35 0 le2) J T) ∧ ROWd 1000 S ((w + 1) * (h + 1)) le2 cur2 ∧ FRMd S le le2 ∧ (∀ c, c < (w + 1) * (h + 1) → cur2 c ≤ cur c) ∧ (∀ c, c < (w + 1) * (h + 1) → cur2 c < 1000 → IG A cor t S c (cur2 c)) ∧ (∀ P, SBG P S → ∀ c, c < (w + 1) * (h + 1) → cur2 c ≤ val P c + val (S ^^^ P) c) := by
  have hN := N81 hw8 hh8
  intro m
  induction m with
  | zero =>
    intro p le cur hpm hp1 hR hP hs hc
    refine ⟨le, cur, ?_, hR, FRM_r S le, fun c _ => Nat.le_refl _, hs, fun P hPS => hc P (by have := hPS.2.2.1; omega) hPS⟩
    rw [show p = S by omega, b169_76, if_pos (Int32.le_refl _)]
  | succ m ih =>
    intro p le cur hpm hp1 hR hP hs hc
    have ts := tb_sub ⟨S, hS⟩ ⟨p, by omega⟩
    have tx := tb_xor ⟨S, by omega⟩ ⟨p, by omega⟩
    dsimp only at ts tx
    rw [b169_76, if_neg (by rw [nn_le (by omega) (by omega)]; omega), nn_add1]
    by_cases z : p &&& S = p
    · have hPS : SBG p S := ⟨by omega, by omega, by omega, z⟩
      obtain ⟨⟨-, x2, x3, -⟩, x5⟩ := SBG_x hPS
      have hQS := (SBG_x hPS).1
      rw [if_neg (fun y => y (ts.mpr z)), m81, tx, m81]
      have cc := cornersC d (upA I 35 0 le) J T (w := w) (h := h) hW hp
      obtain ⟨le1, e1, q1, q2⟩ := join2 (d + 2) I J T (g := S) (p := p) (q := S ^^^ p) hS (by omega) (by omega) (by omega) (by omega) hN ((w + 1) * (h + 1)) 0 le cur (by omega) hR (hP p hPS) (hP _ hQS)
      have q1' : ROWd 1000 S ((w + 1) * (h + 1)) le1 (fun x => if 0 ≤ x ∧ x < (w + 1) * (h + 1) then min (cur x) (val p x + val (S ^^^ p) x) else cur x) := q1
      have hval : ∀ c, c < (w + 1) * (h + 1) → (fun x => if 0 ≤ x ∧ x < (w + 1) * (h + 1) then min (cur x) (val p x + val (S ^^^ p) x) else cur x) c = min (cur c) (val p c + val (S ^^^ p) c) := fun c hcN => if_pos ⟨by omega, hcN⟩
      generalize (fun x => if 0 ≤ x ∧ x < (w + 1) * (h + 1) then min (cur x) (val p x + val (S ^^^ p) x) else cur x) = cur1 at q1' hval
      obtain ⟨le2, cur2, e2, r1, r2, r3, r4, r5⟩ := ih (p + 1) le1 cur1 (by omega) (by omega) q1' (fun P hPP => FRM_row hN (by have := hPP.2.2.1; omega) q2 (hP P hPP)) (fun c hcN hlt => by
        rw [hval c hcN] at hlt ⊢
        by_cases y : cur c ≤ val p c + val (S ^^^ p) c
        · rw [Nat.min_eq_left y] at hlt ⊢
          exact hs c hcN hlt
        · rw [Nat.min_eq_right (by omega)] at hlt ⊢
          exact .inr ⟨p, hPS, val p c, val (S ^^^ p) c, (hV p hPS c hcN).2.1 (by omega), (hV _ hQS c hcN).2.1 (by omega), rfl⟩) (fun P hPp hPP c hcN => by
        rw [hval c hcN]
        by_cases y : P = p
        · subst y; exact Nat.min_le_right _ _
        · exact Nat.le_trans (Nat.min_le_left _ _) (hc P (by omega) hPP c hcN))
      refine ⟨le2, cur2, ?_, r1, FRM_t q2 r2, fun c hcN => Nat.le_trans (r3 c hcN) (by rw [hval c hcN]; exact Nat.min_le_left _ _), r4, r5⟩
      rw [c170, cc]
      simp only [ret9]
      rw [b170_7]
      refine (congrArg (ret9 (den (d + 2 + 1) 169) 169 101 104 _ _) e1).trans ?_
      simp only [ret9]
      rw [b169_104, nn_add1]
      exact e2
    · rw [if_pos (fun y => z (ts.mp y))]
      exact ih (p + 1) le cur (by omega) (by omega) hR hP hs (fun P hPp hPP => by
        by_cases y : P = p
        · subst y; exact absurd hPP.2.2.2 z
        · exact hc P (by omega) hPP)
theorem joinD (hW : RelW I w h) (hp : 0 < w * h) (hw8 : w ≤ 8) (hh8 : h ≤ 8) {A : Nat → Nat → Prop} {cor : Nat → Nat} {t S : Nat} (ht2 : 2 ≤ t) (ht4 : t ≤ 4) (hS0 : 0 < S) (hSt : S < 2 ^ (t - 1)) (h5 : I 2 0 5 = nn t) (hcor : ∀ k, k < t → I 20 0 k = nn (cor k) ∧ cor k < (w + 1) * (h + 1)) {val : Nat → Nat → Nat} (hV : ∀ P, SBG P S → RPG A cor t ((w + 1) * (h + 1)) 1000 P (val P)) {le : Nat → Int32} (hP : ∀ P, SBG P S → ROWd 1000 P ((w + 1) * (h + 1)) le (val P)) : ∃ (le2 : Nat → Int32) (ini : Nat → Nat), cal (d + 3) 169 [vr 2 0, vi (nn S)] (MX (upA I 35 0 le) J T) = some (.inl none, MX (upA I 35 0 le2) J T) ∧ ROWd 1000 S ((w + 1) * (h + 1)) le2 ini ∧ FRMd S le le2 ∧ RIG A cor t ((w + 1) * (h + 1)) 1000 S ini := by
  have hN := N81 hw8 hh8
  have hp8 : 2 ^ (t - 1) ≤ 8 := by
    have := pw4 (show t - 1 < 4 by omega); omega
  have hS8 : S < 8 := by omega
  obtain ⟨le1, e1, q1, f1⟩ := fill1 (d + 3) I J T (g := S) (N := (w + 1) * (h + 1)) hS8 hN 81 0 le (by omega) (fun x hx => absurd hx (by omega))
  obtain ⟨le2, e2, ⟨cur2, q2, q2'⟩, f2⟩ := oneD (d + 3) I J T (S := S) (N := (w + 1) * (h + 1)) hS8 hN ht2 ht4 h5 hcor (t - 1) 0 le1 _ (by omega) q1
  obtain ⟨le3, cur3, e3, q3, f3, m3, s3, p3⟩ := partsD d I J T hW hp hw8 hh8 (A := A) (cor := cor) (t := t) hS8 hV (S - 1) 1 le2 cur2 (by omega) (by omega) q2 (fun P hPP => FRM_row hN (by have := hPP.2.2.1; omega) (FRM_t f1 f2) (hP P hPP)) (fun c hcN hlt => by
    rcases q2' c hcN with ⟨y1, y2⟩ | ⟨y1, k, k1, k2, k3, k4⟩
    · rw [y1] at hlt; exact absurd hlt (by show ¬ 1000 < 1000; omega)
    · exact .inl ⟨k, by omega, k3, k4, y1⟩) (fun P hP1 hPP => by have := hPP.2.1; omega)
  refine ⟨le3, cur3, ?_, q3, FRM_t (FRM_t f1 f2) f3, fun v hv => ⟨(q3 v hv).2, s3 v hv, fun n hn => ?_⟩⟩
  · rw [c169, m81]
    exact e1.trans (e2.trans e3)
  · rcases hn with ⟨k, k1, k2, k3, k4⟩ | ⟨P, hPP, n1, n2, b1, b2, b3⟩
    · have hk1 : k < t - 1 := by
        apply Classical.byContradiction
        intro y
        have := Nat.pow_le_pow_right (show 0 < 2 by omega) (show t - 1 ≤ k by omega)
        omega
      have a := m3 v hv
      rcases q2' v hv with ⟨y1, y2⟩ | ⟨y1, -⟩
      · exact absurd k3 (y2 k (by omega) hk1 k2)
      · omega
    · have a := p3 P hPP v hv
      have b := (hV P hPP v hv).2.2 n1 b1
      have c := (hV _ (SBG_x hPP).1 v hv).2.2 n2 b2
      omega
theorem groupsD (hW : RelW I w h) (hp : 0 < w * h) (hw8 : w ≤ 8) (hh8 : h ≤ 8) {cor : Nat → Nat} {t : Nat} (ht2 : 2 ≤ t) (ht4 : t ≤ 4) (h5 : I 2 0 5 = nn t) (hcor : ∀ k, k < t → I 20 0 k = nn (cor k) ∧ cor k < (w + 1) * (h + 1)) (hwy : ∀ c, c < (w + 1) * (h + 1) → I 29 0 c = cdw (eBd ws w h c) (sBd ws w h c)) : ∀ m g (le : Nat → Int32) (val : Nat → Nat → Nat), g + m = 2 ^ (t - 1) → 1 ≤ g → (∀ P, 0 < P → P < g → ROWd 1000 P ((w + 1) * (h + 1)) le (val P) ∧ RPG (AJd (eBd ws w h) (sBd ws w h) (w + 1)) cor t ((w + 1) * (h + 1)) 1000 P (val P)) → ∃ (le2 : Nat → Int32) (vc : Nat → Nat), den (d + 4) 166 37 [some (vr 2 0), some (vi (nn (t - 1))), some (vi (nn (2 ^ (t - 1) - 1))), some (vi (nn g))] [] (MX (upA I 35 0 le) J T) = some (.inl (some (vi (if vc (cor (t - 1)) < 1000 then nn (vc (cor (t - 1))) else -1))), MX (upA I 35 0 le2) J T) ∧ RPG (AJd (eBd ws w h) (sBd ws w h) (w + 1)) cor t ((w + 1) * (h + 1)) 1000 (2 ^ (t - 1) - 1) vc := by
  have hN := N81 hw8 hh8
  have hp8 : 2 ^ (t - 1) ≤ 8 ∧ 2 ≤ 2 ^ (t - 1) := by
    have := pw4 (show t - 1 < 4 by omega); omega
  have hA : ∀ u v, AJd (eBd ws w h) (sBd ws w h) (w + 1) u v → u < (w + 1) * (h + 1) ∧ v < (w + 1) * (h + 1) := fun u v q => by
    rcases q with ⟨q1, q2⟩ | ⟨q1, q2⟩ | ⟨q1, q2⟩ | ⟨q1, q2⟩
    · have := e_lt q1; omega
    · have := e_lt q1; omega
    · have := s_lt q1; omega
    · have := s_lt q1; omega
  intro m
  induction m with
  | zero =>
    intro g le val hg hg1 hv
    obtain ⟨a, b⟩ := hv (2 ^ (t - 1) - 1) (by omega) (by omega)
    have hc := hcor (t - 1) (by omega)
    have e20 : (upA I 35 0 le) 20 0 (t - 1) = nn (cor (t - 1)) := hc.1
    have eL : (upA I 35 0 le) 35 0 (81 * (2 ^ (t - 1) - 1) + cor (t - 1)) = nn (val (2 ^ (t - 1) - 1) (cor (t - 1))) := (a _ hc.2).1
    have bL := (a _ hc.2).2
    have hc2 := hc.2
    refine ⟨le, val (2 ^ (t - 1) - 1), ?_, b⟩
    rw [b166_37, if_pos ((nn_lt (by omega) (by omega)).mpr (by omega)), if_pos (nn_inR (by omega) (by omega)), nn_idx (by omega), e20, m81, nn_add, if_pos (nn_inR (by omega) (by omega)), nn_idx (by omega), eL]
    by_cases z : val (2 ^ (t - 1) - 1) (cor (t - 1)) < 1000
    · rw [if_neg (by rw [show (1000 : Int32) = nn 1000 from rfl, nn_le (by omega) (by omega)]; omega), if_pos z]
    · rw [if_pos (show (1000 : Int32) ≤ nn _ from (nn_le (a := 1000) (by omega) (by omega)).mpr (by omega)), if_neg z]
  | succ m ih =>
    intro g le val hg hg1 hv
    obtain ⟨le1, ini, e1, q1, f1, r1⟩ := joinD d I J T hW hp hw8 hh8 (A := AJd (eBd ws w h) (sBd ws w h) (w + 1)) ht2 ht4 (show 0 < g by omega) (by omega) h5 hcor (val := val) (le := le) (fun P hPP => (hv P hPP.2.1 hPP.2.2.1).2) (fun P hPP => (hv P hPP.2.1 hPP.2.2.1).1)
    obtain ⟨le2, cur, e2, q2, f2, s2⟩ := settleC (d + 1) I J T (ws := ws) hW hp hw8 hh8 (show g < 8 by omega) hwy q1
    have hrp := RPG_of (AJd (eBd ws w h) (sBd ws w h) (w + 1)) cor t hA (fun k hk => (hcor k hk).2) r1 s2
    obtain ⟨le3, vc, e3, q3⟩ := ih (g + 1) le2 (fun P => if P = g then cur else val P) (by omega) (by omega) (fun P h0 hPg => by
      by_cases z : P = g
      · rw [if_pos z, z]; exact ⟨q2, hrp⟩
      · rw [if_neg z]
        have := hv P h0 (by omega)
        exact ⟨FRM_row hN z (FRM_t f1 f2) this.1, this.2⟩)
    refine ⟨le3, vc, ?_, q3⟩
    rw [b166_37, if_neg (by rw [nn_lt (by omega) (by omega)]; omega), e1]
    simp only [ret9]
    rw [b166_47, m81, e2]
    simp only [ret9]
    rw [b166_55, nn_add1]
    exact e3
end DLL
