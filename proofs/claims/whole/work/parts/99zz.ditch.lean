/-! Ditches: the reference's rounds and groups -/
section DRN
variable (d : Nat) (I : PI) (J : PJ) (T : TL) {w h : Nat}
theorem wayM (hg : GW I w h) {S : Nat} (hS : S < 16) {c : Nat} (hc : c < (w + 1) * (h + 1)) (x2 : Int32) {k : Nat} (hk : k < 2) {le : Nat → Int32} {p : CF} (hR : ROWd 1000000 S ((w + 1) * (h + 1)) le p.1) (o6 o7 : Option AV) : ∃ (le2 : Nat → Int32) (p6 p7 : Option AV), den (d + 2) 277 34 [some (vr 14 0), some (vi (nn S)), some (vi x2), some (vi (b01 p.2)), some (vi (nn c)), some (vi (nn k)), o6, o7] [] (MX (upA I 36 0 le) J T) = den (d + 2) 277 34 [some (vr 14 0), some (vi (nn S)), some (vi x2), some (vi (b01 (if k = 0 then stpE (eBd (I 28 7) w h) c p else stpS (sBd (I 28 7) w h) (w + 1) c p).2)), some (vi (nn c)), some (vi (nn (k + 1))), p6, p7] [] (MX (upA I 36 0 le2) J T) ∧ ROWd 1000000 S ((w + 1) * (h + 1)) le2 (if k = 0 then stpE (eBd (I 28 7) w h) c p else stpS (sBd (I 28 7) w h) (w + 1) c p).1 ∧ FRMd S le le2 := by
  obtain ⟨hw, hh, hw1, hw8, hh1, hh8⟩ := id hg
  have hN := N81 hw8 hh8
  have bm := brdM d (k := k) (upA I 36 0 le) J T hg hc hk
  have e22 : (upA I 36 0 le) 14 0 22 = nn w := hw
  have i1 : 81 * nn S + nn c = nn (81 * S + c) := by rw [show (81 : Int32) = nn 81 from rfl, nn_mul, nn_add]
  have go : ∀ (u : Nat) (f : Bool), den (d + 2) 277 93 [some (vr 14 0), some (vi (nn S)), some (vi x2), some (vi (b01 f)), some (vi (nn c)), some (vi (nn k)), some (vi (nn (81 * S + c))), some (vi (nn (81 * S + u)))] [] (MX (upA I 36 0 le) J T) = den (d + 2) 277 93 [some (vr 14 0), some (vi (nn S)), some (vi x2), some (vi (b01 f)), some (vi (nn c)), some (vi (nn k)), some (vi (nn (81 * S + c))), some (vi (nn (81 * S + u)))] [] (MX (upA I 36 0 le) J T) := fun _ _ => rfl
  have hkk : k = 0 ∨ k = 1 := by omega
  rcases hkk with rfl | rfl
  · rw [if_pos rfl] at bm
    change cal (d + 1) 278 _ _ = some (.inl (some (vi (b01 (eBd (I 28 7) w h c)))), _) at bm
    have e0 : den (d + 2) 277 34 [some (vr 14 0), some (vi (nn S)), some (vi x2), some (vi (b01 p.2)), some (vi (nn c)), some (vi (nn 0)), o6, o7] [] (MX (upA I 36 0 le) J T) = den (d + 2) 277 57 [some (vr 14 0), some (vi (nn S)), some (vi x2), some (vi (b01 p.2)), some (vi (nn c)), some (vi (nn 0)), o6, o7] [vi (b01 (eBd (I 28 7) w h c))] (MX (upA I 36 0 le) J T) := by
      rw [b277_34, if_neg (by decide), b277_40, if_pos (by decide), b277_53, b277_54]
      show ret9 _ _ _ _ _ _ (cal (d + 1) 278 [vr 14 0, vi (nn c), vi (nn 0)] _) = _
      rw [bm]
      simp only [ret9]
    rw [e0, b277_57, if_pos rfl]
    unfold stpE
    by_cases hE : eBd (I 28 7) w h c = true
    · obtain ⟨le2, e, q1, q2⟩ := sideM (d + 2) I J T hS hN hc (e_lt hE) x2 (nn c) (nn 0) hR
      refine ⟨le2, some (vi (nn (81 * S + c))), some (vi (nn (81 * S + (c + 1)))), ?_, by rw [if_pos hE]; exact q1, q2⟩
      rw [if_pos hE, hE, if_pos (by decide), b277_63, i1, b277_72, if_pos (by decide), b277_89, b277_90, nn_add1]
      refine Eq.trans e ?_
      rw [b277_167, b277_170, nn_add1]
    · have hE' : eBd (I 28 7) w h c = false := Bool.eq_false_iff.mpr hE
      refine ⟨le, o6, o7, ?_, by rw [if_neg hE]; exact hR, FRM_r S le⟩
      rw [if_neg hE, hE', if_neg (fun y => y rfl), b277_60, b277_167, b277_170, nn_add1]
  · rw [if_neg (by omega)] at bm
    change cal (d + 1) 278 _ _ = some (.inl (some (vi (b01 (sBd (I 28 7) w h c)))), _) at bm
    have e0 : den (d + 2) 277 34 [some (vr 14 0), some (vi (nn S)), some (vi x2), some (vi (b01 p.2)), some (vi (nn c)), some (vi (nn 1)), o6, o7] [] (MX (upA I 36 0 le) J T) = den (d + 2) 277 57 [some (vr 14 0), some (vi (nn S)), some (vi x2), some (vi (b01 p.2)), some (vi (nn c)), some (vi (nn 1)), o6, o7] [vi (b01 (sBd (I 28 7) w h c))] (MX (upA I 36 0 le) J T) := by
      rw [b277_34, if_neg (by decide), b277_40, if_neg (by decide), b277_49, b277_54]
      show ret9 _ _ _ _ _ _ (cal (d + 1) 278 [vr 14 0, vi (nn c), vi (nn 1)] _) = _
      rw [bm]
      simp only [ret9]
    rw [e0, b277_57, if_neg (show ¬ 1 = 0 by omega)]
    unfold stpS
    by_cases hE : sBd (I 28 7) w h c = true
    · obtain ⟨le2, e, q1, q2⟩ := sideM (d + 2) I J T hS hN hc (s_lt hE) x2 (nn c) (nn 1) hR
      refine ⟨le2, some (vi (nn (81 * S + c))), some (vi (nn (81 * S + (c + (w + 1))))), ?_, by rw [if_pos hE]; exact q1, q2⟩
      rw [if_pos hE, hE, if_pos (by decide), b277_63, i1, b277_72, if_neg (by decide), b277_80, e22, b277_90, nn_add1, nn_add, show 81 * S + c + (w + 1) = 81 * S + (c + (w + 1)) by omega]
      refine Eq.trans e ?_
      rw [b277_167, b277_170, nn_add1]
    · have hE' : sBd (I 28 7) w h c = false := Bool.eq_false_iff.mpr hE
      refine ⟨le, o6, o7, ?_, by rw [if_neg hE]; exact hR, FRM_r S le⟩
      rw [if_neg hE, hE', if_neg (fun y => y rfl), b277_60, b277_167, b277_170, nn_add1]
theorem roundR (hg : GW I w h) {S : Nat} (hS : S < 16) : ∀ m c (le : Nat → Int32) (p : CF) (o5 o6 o7 : Option AV), c + m = (w + 1) * (h + 1) → ROWd 1000000 S ((w + 1) * (h + 1)) le p.1 → ∃ (le2 : Nat → Int32) (p5 p6 p7 : Option AV), den (d + 2) 277 25 [some (vr 14 0), some (vi (nn S)), some (vi (nn ((w + 1) * (h + 1)))), some (vi (b01 p.2)), some (vi (nn c)), o5, o6, o7] [] (MX (upA I 36 0 le) J T) = den (d + 2) 277 16 [some (vr 14 0), some (vi (nn S)), some (vi (nn ((w + 1) * (h + 1)))), some (vi (b01 (rnd (eBd (I 28 7) w h) (sBd (I 28 7) w h) (w + 1) (fun i => i) m c p).2)), some (vi (nn ((w + 1) * (h + 1)))), p5, p6, p7] [] (MX (upA I 36 0 le2) J T) ∧ ROWd 1000000 S ((w + 1) * (h + 1)) le2 (rnd (eBd (I 28 7) w h) (sBd (I 28 7) w h) (w + 1) (fun i => i) m c p).1 ∧ FRMd S le le2 := by
  obtain ⟨hw, hh, hw1, hw8, hh1, hh8⟩ := id hg
  have hN := N81 hw8 hh8
  intro m
  induction m with
  | zero =>
    intro c le p o5 o6 o7 hc hR
    refine ⟨le, o5, o6, o7, ?_, hR, FRM_r S le⟩
    rw [show c = (w + 1) * (h + 1) by omega, b277_25, if_pos (Int32.le_refl _), b277_179]
    rfl
  | succ m ih =>
    intro c le p o5 o6 o7 hc hR
    obtain ⟨le1, a6, a7, e1, q1, f1⟩ := wayM d I J T hg hS (show c < (w + 1) * (h + 1) by omega) (nn ((w + 1) * (h + 1))) (k := 0) (by omega) hR o6 o7
    rw [if_pos rfl] at e1 q1
    obtain ⟨le2, b6, b7, e2, q2, f2⟩ := wayM d I J T hg hS (show c < (w + 1) * (h + 1) by omega) (nn ((w + 1) * (h + 1))) (k := 1) (by omega) q1 a6 a7
    rw [if_neg (show ¬ 1 = 0 by omega), ← stp2_es] at e2 q2
    obtain ⟨le3, c5, c6, c7, e3, q3, f3⟩ := ih (c + 1) le2 _ (some (vi (nn 2))) b6 b7 (by omega) q2
    refine ⟨le3, c5, c6, c7, ?_, q3, FRM_t (FRM_t f1 f2) f3⟩
    rw [b277_25, if_neg (by rw [nn_le (by omega) (by omega)]; omega), b277_31]
    refine Eq.trans e1 (Eq.trans e2 ?_)
    rw [b277_34, if_pos (by decide), b277_173, b277_176, nn_add1]
    exact e3
theorem spreadM (hg : GW I w h) {S : Nat} (hS : S < 16) {le : Nat → Int32} {ini : Nat → Nat} (hR : ROWd 1000000 S ((w + 1) * (h + 1)) le ini) : ∃ (le2 : Nat → Int32) (cur : Nat → Nat), cal (d + 2) 277 [vr 14 0, vi (nn S)] (MX (upA I 36 0 le) J T) = some (.inl none, MX (upA I 36 0 le2) J T) ∧ ROWd 1000000 S ((w + 1) * (h + 1)) le2 cur ∧ FRMd S le le2 ∧ SPR (AJd (eBd (I 28 7) w h) (sBd (I 28 7) w h) (w + 1)) ((w + 1) * (h + 1)) 1000000 ini cur := by
  obtain ⟨hw, hh, hw1, hw8, hh1, hh8⟩ := id hg
  have hN := N81 hw8 hh8
  have eN : ∀ le : Nat → Int32, ((upA I 36 0 le) 14 0 22 + 1) * ((upA I 36 0 le) 14 0 23 + 1) = nn ((w + 1) * (h + 1)) := fun le => by
    show (I 14 0 22 + 1) * (I 14 0 23 + 1) = _
    rw [hw, hh, nn_add1, nn_add1, nn_mul]
  have lp : ∀ b (le : Nat → Int32) (cur : Nat → Nat) (f : Bool) (o4 o5 o6 o7 : Option AV), sQ cur ((w + 1) * (h + 1)) ≤ b → ROWd 1000000 S ((w + 1) * (h + 1)) le cur → (∀ v, cur v ≤ ini v) → SND (AJd (eBd (I 28 7) w h) (sBd (I 28 7) w h) (w + 1)) ((w + 1) * (h + 1)) 1000000 ini cur → (f = false → ∀ u v, AJd (eBd (I 28 7) w h) (sBd (I 28 7) w h) (w + 1) u v → cur v ≤ cur u + 1) → ∃ (le2 : Nat → Int32) (cur2 : Nat → Nat), den (d + 2) 277 16 [some (vr 14 0), some (vi (nn S)), some (vi (nn ((w + 1) * (h + 1)))), some (vi (b01 f)), o4, o5, o6, o7] [] (MX (upA I 36 0 le) J T) = some (.inl none, MX (upA I 36 0 le2) J T) ∧ ROWd 1000000 S ((w + 1) * (h + 1)) le2 cur2 ∧ FRMd S le le2 ∧ SPR (AJd (eBd (I 28 7) w h) (sBd (I 28 7) w h) (w + 1)) ((w + 1) * (h + 1)) 1000000 ini cur2 := by
    have fin : ∀ (le : Nat → Int32) (cur : Nat → Nat) (o4 o5 o6 o7 : Option AV), ROWd 1000000 S ((w + 1) * (h + 1)) le cur → (∀ v, cur v ≤ ini v) → SND (AJd (eBd (I 28 7) w h) (sBd (I 28 7) w h) (w + 1)) ((w + 1) * (h + 1)) 1000000 ini cur → (∀ u v, AJd (eBd (I 28 7) w h) (sBd (I 28 7) w h) (w + 1) u v → cur v ≤ cur u + 1) → ∃ (le2 : Nat → Int32) (cur2 : Nat → Nat), den (d + 2) 277 16 [some (vr 14 0), some (vi (nn S)), some (vi (nn ((w + 1) * (h + 1)))), some (vi (b01 false)), o4, o5, o6, o7] [] (MX (upA I 36 0 le) J T) = some (.inl none, MX (upA I 36 0 le2) J T) ∧ ROWd 1000000 S ((w + 1) * (h + 1)) le2 cur2 ∧ FRMd S le le2 ∧ SPR (AJd (eBd (I 28 7) w h) (sBd (I 28 7) w h) (w + 1)) ((w + 1) * (h + 1)) 1000000 ini cur2 := by
      intro le cur o4 o5 o6 o7 hR h1 h2 h3
      refine ⟨le, cur, ?_, hR, FRM_r S le, fun v _ => h1 v, h2, fun u v k hu hv hwk => ?_⟩
      · rw [b277_16, if_pos (show b01 false = 0 from rfl), b277_182]
      · have a := lev_wk h3 k u v hwk
        have b := h1 u
        omega
    intro b
    induction b with
    | zero =>
      intro le cur f o4 o5 o6 o7 hb hR h1 h2 h3
      cases f with
      | false => exact fin le cur o4 o5 o6 o7 hR h1 h2 (h3 rfl)
      | true =>
        obtain ⟨le1, p5, p6, p7, e1, q1, f1⟩ := roundR d I J T hg hS ((w + 1) * (h + 1)) 0 le (cur, false) o5 o6 o7 (by omega) hR
        have rm := rnd_m (eBd (I 28 7) w h) (sBd (I 28 7) w h) (w + 1) (fun i => i) ((w + 1) * (h + 1)) 0 (cur, false)
        have ra := fun u v => rnd_A (N := (w + 1) * (h + 1)) (eBd (I 28 7) w h) (sBd (I 28 7) w h) (w + 1) (fun _ => e_lt) (fun _ => s_lt) (by omega) (sg := fun i => i) (fun c hc => ⟨c, hc, rfl⟩) (cur, false) (u := u) (v := v)
        have rs := rnd_snd (N := (w + 1) * (h + 1)) (inf := 1000000) (ini := ini) (eBd (I 28 7) w h) (sBd (I 28 7) w h) (w + 1) (fun _ => e_lt) (fun _ => s_lt) (fun i => i) ((w + 1) * (h + 1)) 0 (cur, false) h2
        have rf := rnd_f (eBd (I 28 7) w h) (sBd (I 28 7) w h) (w + 1) (fun i => i) ((w + 1) * (h + 1)) 0 (cur, false)
        have rt := rnd_t (N := (w + 1) * (h + 1)) (eBd (I 28 7) w h) (sBd (I 28 7) w h) (w + 1) (fun _ => e_lt) (fun _ => s_lt) (fun i => i) ((w + 1) * (h + 1)) 0 (cur, false)
        generalize rnd (eBd (I 28 7) w h) (sBd (I 28 7) w h) (w + 1) (fun i => i) ((w + 1) * (h + 1)) 0 (cur, false) = p at *
        dsimp only at rm ra rt
        have hp2 : p.2 = false := by
          cases y : p.2 with
          | false => rfl
          | true =>
            rcases rt y with a | ⟨x, x1, x2⟩
            · cases a
            · have := sQ_lt2 ((w + 1) * (h + 1)) (fun c _ => rm c) x1 x2
              omega
        rw [hp2] at e1
        obtain ⟨le2, cur2, e2, q2, f2, s2⟩ := fin le1 p.1 (some (vi (nn ((w + 1) * (h + 1))))) p5 p6 p7 q1 (fun v => Nat.le_trans (rm v) (h1 v)) rs (fun u v huv => by
          obtain ⟨-, y⟩ := rf hp2
          have := ra u v huv
          rw [y] at this ⊢
          exact this)
        refine ⟨le2, cur2, ?_, q2, FRM_t f1 f2, s2⟩
        rw [b277_16, if_neg (by decide), b277_20, b277_22]
        exact e1.trans e2
    | succ b ih =>
      intro le cur f o4 o5 o6 o7 hb hR h1 h2 h3
      cases f with
      | false => exact fin le cur o4 o5 o6 o7 hR h1 h2 (h3 rfl)
      | true =>
        obtain ⟨le1, p5, p6, p7, e1, q1, f1⟩ := roundR d I J T hg hS ((w + 1) * (h + 1)) 0 le (cur, false) o5 o6 o7 (by omega) hR
        have rm := rnd_m (eBd (I 28 7) w h) (sBd (I 28 7) w h) (w + 1) (fun i => i) ((w + 1) * (h + 1)) 0 (cur, false)
        have ra := fun u v => rnd_A (N := (w + 1) * (h + 1)) (eBd (I 28 7) w h) (sBd (I 28 7) w h) (w + 1) (fun _ => e_lt) (fun _ => s_lt) (by omega) (sg := fun i => i) (fun c hc => ⟨c, hc, rfl⟩) (cur, false) (u := u) (v := v)
        have rs := rnd_snd (N := (w + 1) * (h + 1)) (inf := 1000000) (ini := ini) (eBd (I 28 7) w h) (sBd (I 28 7) w h) (w + 1) (fun _ => e_lt) (fun _ => s_lt) (fun i => i) ((w + 1) * (h + 1)) 0 (cur, false) h2
        have rf := rnd_f (eBd (I 28 7) w h) (sBd (I 28 7) w h) (w + 1) (fun i => i) ((w + 1) * (h + 1)) 0 (cur, false)
        have rt := rnd_t (N := (w + 1) * (h + 1)) (eBd (I 28 7) w h) (sBd (I 28 7) w h) (w + 1) (fun _ => e_lt) (fun _ => s_lt) (fun i => i) ((w + 1) * (h + 1)) 0 (cur, false)
        generalize rnd (eBd (I 28 7) w h) (sBd (I 28 7) w h) (w + 1) (fun i => i) ((w + 1) * (h + 1)) 0 (cur, false) = p at *
        dsimp only at rm ra rt
        have key : ∃ (le2 : Nat → Int32) (cur2 : Nat → Nat), den (d + 2) 277 16 [some (vr 14 0), some (vi (nn S)), some (vi (nn ((w + 1) * (h + 1)))), some (vi (b01 p.2)), some (vi (nn ((w + 1) * (h + 1)))), p5, p6, p7] [] (MX (upA I 36 0 le1) J T) = some (.inl none, MX (upA I 36 0 le2) J T) ∧ ROWd 1000000 S ((w + 1) * (h + 1)) le2 cur2 ∧ FRMd S le1 le2 ∧ SPR (AJd (eBd (I 28 7) w h) (sBd (I 28 7) w h) (w + 1)) ((w + 1) * (h + 1)) 1000000 ini cur2 := by
          have hcl : p.2 = false → ∀ u v, AJd (eBd (I 28 7) w h) (sBd (I 28 7) w h) (w + 1) u v → p.1 v ≤ p.1 u + 1 := fun hb u v huv => by
            obtain ⟨-, y⟩ := rf hb
            have := ra u v huv
            rw [y] at this ⊢
            exact this
          cases y : p.2 with
          | false => exact fin le1 p.1 _ p5 p6 p7 q1 (fun v => Nat.le_trans (rm v) (h1 v)) rs (hcl y)
          | true =>
            rcases rt y with a | ⟨x, x1, x2⟩
            · cases a
            · have := sQ_lt2 ((w + 1) * (h + 1)) (fun c _ => rm c) x1 x2
              exact ih le1 p.1 true _ p5 p6 p7 (by omega) q1 (fun v => Nat.le_trans (rm v) (h1 v)) rs (fun z => by cases z)
        obtain ⟨le2, cur2, e2, q2, f2, s2⟩ := key
        refine ⟨le2, cur2, ?_, q2, FRM_t f1 f2, s2⟩
        rw [b277_16, if_neg (by decide), b277_20, b277_22]
        exact e1.trans e2
  obtain ⟨le2, cur2, e2, q2, f2, s2⟩ := lp (sQ ini ((w + 1) * (h + 1))) le ini true none none none none (Nat.le_refl _) hR (fun v => Nat.le_refl _) (fun v hv hlt => ⟨v, 0, hv, rfl, rfl⟩) (fun y => by cases y)
  refine ⟨le2, cur2, ?_, q2, f2, s2⟩
  rw [c277, eN, b277_14]
  exact e2
end DRN
