/-! Ditches: the class levels and joins -/
def ROWd (inf g N : Nat) (le : Nat → Int32) (cur : Nat → Nat) : Prop := ∀ c, c < N → le (81 * g + c) = nn (cur c) ∧ cur c ≤ inf
def FRMd (g : Nat) (le le2 : Nat → Int32) : Prop := ∀ i, ¬ (81 * g ≤ i ∧ i < 81 * g + 81) → le2 i = le i
theorem FRM_r (g : Nat) (le : Nat → Int32) : FRMd g le le := fun _ _ => rfl
theorem FRM_t {g : Nat} {a b c : Nat → Int32} (h1 : FRMd g a b) (h2 : FRMd g b c) : FRMd g a c := fun i hi => (h2 i hi).trans (h1 i hi)
theorem FRM_row {inf g p N : Nat} {le le2 : Nat → Int32} {v : Nat → Nat} (hN : N ≤ 81) (hp : ¬ p = g) (hF : FRMd g le le2) (hR : ROWd inf p N le v) : ROWd inf p N le2 v := fun c hc => by
  have := hR c hc
  rw [hF (81 * p + c) (by omega)]
  exact this
theorem ROW_up {inf g N : Nat} {le : Nat → Int32} {cur : Nat → Nat} (hN : N ≤ 81) {u x : Nat} (hu : u < N) (hx : x ≤ inf) (h : ROWd inf g N le cur) : ROWd inf g N (wu le (81 * g + u) (nn x)) (upN cur u x) ∧ FRMd g le (wu le (81 * g + u) (nn x)) := by
  refine ⟨fun c hc => ?_, fun i hi => ?_⟩
  · unfold wu
    by_cases z : c = u
    · rw [if_pos (by rw [z]), z, upN_s]; exact ⟨rfl, hx⟩
    · rw [if_neg (by omega), upN_o _ _ z]; exact h c hc
  · unfold wu
    rw [if_neg (by omega)]
section DLV
variable (d : Nat) (I : PI) (J : PJ) (T : TL) {w h : Nat} {ws : Nat → Int32}
theorem levC {g N u v : Nat} (hg : g < 8) (hN : N ≤ 81) (hu : u < N) (hv : v < N) {le : Nat → Int32} {cur : Nat → Nat} (hR : ROWd 1000 g N le cur) : ∃ le2 : Nat → Int32, cal d 172 [vr 2 0, vi (nn (81 * g + u)), vi (nn (81 * g + v))] (MX (upA I 35 0 le) J T) = some (.inl (some (vi (b01 (lvB u v cur)))), MX (upA I 35 0 le2) J T) ∧ ROWd 1000 g N le2 (lvl u v cur) ∧ FRMd g le le2 := by
  have r1 : inR (nn (81 * g + u)) 648 = true := nn_inR (by omega) (by omega)
  have r2 : inR (nn (81 * g + v)) 648 = true := nn_inR (by omega) (by omega)
  have e1 : (upA I 35 0 le) 35 0 (81 * g + u) = nn (cur u) := (hR u hu).1
  have e2 : (upA I 35 0 le) 35 0 (81 * g + v) = nn (cur v) := (hR v hv).1
  have b1 := (hR u hu).2
  have b2 := (hR v hv).2
  rw [c172, if_pos r1, if_pos r2, nn_idx (by omega), nn_idx (by omega), e1, e2, nn_add1, nn_add1]
  unfold lvB lvl
  by_cases z1 : cur v + 1 < cur u
  · rw [if_neg (by rw [nn_le (by omega) (by omega)]; omega), if_pos r2, if_pos r1, if_pos z1, decide_eq_true (.inl z1), upA_up3]
    obtain ⟨a, b⟩ := ROW_up hN hu (show cur v + 1 ≤ 1000 by omega) hR
    exact ⟨_, rfl, a, b⟩
  · rw [if_pos ((nn_le (by omega) (by omega)).mpr (by omega)), if_pos r2, if_pos r1, if_neg z1]
    by_cases z2 : cur u + 1 < cur v
    · rw [if_neg (by rw [nn_le (by omega) (by omega)]; omega), if_pos r1, if_pos r2, if_pos z2, decide_eq_true (.inr z2), upA_up3]
      obtain ⟨a, b⟩ := ROW_up hN hv (show cur u + 1 ≤ 1000 by omega) hR
      exact ⟨_, rfl, a, b⟩
    · rw [if_pos ((nn_le (by omega) (by omega)).mpr (by omega)), if_neg z2, decide_eq_false (by omega)]
      exact ⟨le, rfl, hR, FRM_r g le⟩
/-- one corner's two ways, in a round -/
theorem cornC {eB sB : Nat → Bool} {g N W : Nat} (hg : g < 8) (hN : N ≤ 81) (h7 : I 5 0 7 = nn W) (hW8 : W ≤ 8) (he : ∀ c, eB c = true → c + 1 < N) (hsB : ∀ c, sB c = true → c + (W + 1) < N) (hwy : ∀ c, c < N → I 29 0 c = cdw (eB c) (sB c)) {c : Nat} (hc : c < N) (x2 x4 x5 : Int32) {le : Nat → Int32} {p : CF} (hR : ROWd 1000 g N le p.1) : ∃ le2 : Nat → Int32, (if ((upA I 35 0 le) 29 0 c &&& 1) = 0 then (if inR (nn c) 81 = true then (if ((upA I 35 0 le) 29 0 c &&& 2) = 0 then den (d + 1) 171 28 [some (vr 2 0), some (vi (nn (81 * g))), some (vi x2), some (vi (b01 p.2)), some (vi x4), some (vi (x5 + 1)), some (vi (nn c))] [] (MX (upA I 35 0 le) J T) else ret9 (den (d + 1) 171) 171 115 118 [some (vr 2 0), some (vi (nn (81 * g))), some (vi x2), some (vi (b01 p.2)), some (vi x4), some (vi x5), some (vi (nn c))] [vi (b01 p.2)] (cal d 172 [vr 2 0, vi (nn (81 * g) + nn c), vi (((nn (81 * g) + nn c) + (upA I 35 0 le) 5 0 7) + 1)] (MX (upA I 35 0 le) J T))) else none) else ret9 (den (d + 1) 171) 171 78 81 [some (vr 2 0), some (vi (nn (81 * g))), some (vi x2), some (vi (b01 p.2)), some (vi x4), some (vi x5), some (vi (nn c))] [vi (b01 p.2)] (cal d 172 [vr 2 0, vi (nn (81 * g) + nn c), vi ((nn (81 * g) + nn c) + 1)] (MX (upA I 35 0 le) J T))) = den (d + 1) 171 28 [some (vr 2 0), some (vi (nn (81 * g))), some (vi x2), some (vi (b01 (stp2 eB sB (W + 1) c p).2)), some (vi x4), some (vi (x5 + 1)), some (vi (nn c))] [] (MX (upA I 35 0 le2) J T) ∧ ROWd 1000 g N le2 (stp2 eB sB (W + 1) c p).1 ∧ FRMd g le le2 := by
  have ew : ∀ le : Nat → Int32, (upA I 35 0 le) 29 0 c = cdw (eB c) (sB c) := fun le => hwy c hc
  have e7 : ∀ le : Nat → Int32, (upA I 35 0 le) 5 0 7 = nn W := fun le => h7
  have r81 : inR (nn c) 81 = true := nn_inR (by omega) (by omega)
  obtain ⟨t1, t2⟩ := cdw_t (eB c) (sB c)
  have i1 : nn (81 * g) + nn c = nn (81 * g + c) := nn_add _ _
  have i2 : nn (81 * g) + nn c + 1 = nn (81 * g + (c + 1)) := by rw [nn_add, nn_add1]; rfl
  have i3' : nn (81 * g) + nn c + nn W + 1 = nn (81 * g + (c + (W + 1))) := by
    rw [nn_add, nn_add, nn_add1, show 81 * g + c + W + 1 = 81 * g + (c + (W + 1)) by omega]
  rw [stp2_es, ew, e7, i2, i3', i1, if_pos r81]
  by_cases hE : eB c = true
  · rw [if_neg (fun y => by rw [t1.mp y] at hE; cases hE), show stpE eB c p = (lvl c (c + 1) p.1, p.2 || lvB c (c + 1) p.1) by unfold stpE; rw [if_pos hE]]
    obtain ⟨le1, e1, q1, q2⟩ := levC d I J T hg hN hc (he c hE) hR
    by_cases hS : sB c = true
    · rw [show stpS sB (W + 1) c (lvl c (c + 1) p.1, p.2 || lvB c (c + 1) p.1) = (lvl c (c + (W + 1)) (lvl c (c + 1) p.1), (p.2 || lvB c (c + 1) p.1) || lvB c (c + (W + 1)) (lvl c (c + 1) p.1)) by unfold stpS; rw [if_pos hS]]
      obtain ⟨le2, e2, q3, q4⟩ := levC d I J T hg hN hc (hsB c hS) q1
      refine ⟨le2, ?_, q3, FRM_t q2 q4⟩
      rw [e1]
      simp only [ret9]
      rw [b171_81, if_pos r81, nn_idx (by omega), ew, if_neg (fun y => by rw [t2.mp y] at hS; cases hS), e7, i3', i1, e2]
      simp only [ret9]
      rw [b171_118, b01_or, b01_or]
    · have hS' : sB c = false := Bool.eq_false_iff.mpr hS
      rw [show stpS sB (W + 1) c (lvl c (c + 1) p.1, p.2 || lvB c (c + 1) p.1) = (lvl c (c + 1) p.1, p.2 || lvB c (c + 1) p.1) by unfold stpS; rw [if_neg hS]]
      refine ⟨le1, ?_, q1, q2⟩
      rw [e1]
      simp only [ret9]
      rw [b171_81, if_pos r81, nn_idx (by omega), ew, if_pos (t2.mpr hS'), b01_or]
  · have hE' : eB c = false := Bool.eq_false_iff.mpr hE
    rw [if_pos (t1.mpr hE'), show stpE eB c p = p by unfold stpE; rw [if_neg hE]]
    by_cases hS : sB c = true
    · rw [if_neg (fun y => by rw [t2.mp y] at hS; cases hS), show stpS sB (W + 1) c p = (lvl c (c + (W + 1)) p.1, p.2 || lvB c (c + (W + 1)) p.1) by unfold stpS; rw [if_pos hS]]
      obtain ⟨le2, e, q1, q2⟩ := levC d I J T hg hN hc (hsB c hS) hR
      refine ⟨le2, ?_, q1, q2⟩
      rw [e]
      simp only [ret9]
      rw [b171_118, b01_or]
    · have hS' : sB c = false := Bool.eq_false_iff.mpr hS
      rw [if_pos (t2.mpr hS'), show stpS sB (W + 1) c p = p by unfold stpS; rw [if_neg hS]]
      exact ⟨le, rfl, hR, FRM_r g le⟩
/-- a round of the class -/
def sgC (N rr i : Nat) : Nat := if rr % 2 = 0 then i else N - 1 - i
theorem sg_sur (N rr : Nat) : ∀ c, c < N → ∃ j, j < N ∧ sgC N rr j = c := fun c hc => by
  unfold sgC
  by_cases z : rr % 2 = 0
  · exact ⟨c, hc, if_pos z⟩
  · exact ⟨N - 1 - c, by omega, by rw [if_neg z]; omega⟩
theorem par1 : ∀ r : Fin 90, (nn r.val &&& 1 = 0) ↔ r.val % 2 = 0 := by decide
theorem roundD {eB sB : Nat → Bool} {g N W : Nat} (hg : g < 8) (hN : N ≤ 81) (h7 : I 5 0 7 = nn W) (hW8 : W ≤ 8) (he : ∀ c, eB c = true → c + 1 < N) (hsB : ∀ c, sB c = true → c + (W + 1) < N) (hwy : ∀ c, c < N → I 29 0 c = cdw (eB c) (sB c)) {rr : Nat} (hr : rr < 90) : ∀ m i (le : Nat → Int32) (p : CF) (o6 : Option AV), i + m = N → ROWd 1000 g N le p.1 → ∃ (le2 : Nat → Int32) (p6 : Option AV), den (d + 1) 171 28 [some (vr 2 0), some (vi (nn (81 * g))), some (vi (nn N)), some (vi (b01 p.2)), some (vi (nn rr)), some (vi (nn i)), o6] [] (MX (upA I 35 0 le) J T) = den (d + 1) 171 13 [some (vr 2 0), some (vi (nn (81 * g))), some (vi (nn N)), some (vi (b01 (rnd eB sB (W + 1) (sgC N rr) m i p).2)), some (vi (nn (rr + 1))), some (vi (nn N)), p6] [] (MX (upA I 35 0 le2) J T) ∧ ROWd 1000 g N le2 (rnd eB sB (W + 1) (sgC N rr) m i p).1 ∧ FRMd g le le2 := by
  have hpar := par1 ⟨rr, hr⟩
  dsimp only at hpar
  intro m
  induction m with
  | zero =>
    intro i le p o6 hi hR
    refine ⟨le, o6, ?_, hR, FRM_r g le⟩
    rw [show i = N by omega, b171_28, if_pos (Int32.le_refl _), nn_add1]
    rfl
  | succ m ih =>
    intro i le p o6 hi hR
    have hsg : sgC N rr i < N := by unfold sgC; split <;> omega
    obtain ⟨le1, e1, q1, q2⟩ := cornC d I J T hg hN h7 hW8 he hsB hwy hsg (nn N) (nn rr) (nn i) hR
    obtain ⟨le2, p6, e2, q3, q4⟩ := ih (i + 1) le1 (stp2 eB sB (W + 1) (sgC N rr i) p) (some (vi (nn (sgC N rr i)))) (by omega) q1
    refine ⟨le2, p6, ?_, q3, FRM_t q2 q4⟩
    refine Eq.trans ?_ e2
    rw [nn_add1] at e1
    refine Eq.trans ?_ e1
    rw [b171_28, if_neg (by rw [nn_le (by omega) (by omega)]; omega), nn_add1]
    by_cases z : rr % 2 = 0
    · rw [if_neg (fun y => y (hpar.mpr z)), if_pos (nn_inR (by omega) (by omega)), nn_idx (by omega), show sgC N rr i = i by unfold sgC; rw [if_pos z]]
    · have ec : nn N - 1 - nn i = nn (sgC N rr i) := by
        unfold sgC
        rw [if_neg z, show nn N - 1 = nn (N - 1) from nn_sub (b := 1) (by omega), nn_sub (by omega)]
      rw [if_pos (fun y => z (hpar.mp y)), ec, if_pos (nn_inR (by omega) (by omega)), nn_idx (by omega)]
/-- rounds till nothing changes, or enough of them -/
theorem settleC (hW : RelW I w h) (hp : 0 < w * h) (hw8 : w ≤ 8) (hh8 : h ≤ 8) {g : Nat} (hg : g < 8) (hwy : ∀ c, c < (w + 1) * (h + 1) → I 29 0 c = cdw (eBd ws w h c) (sBd ws w h c)) {le : Nat → Int32} {ini : Nat → Nat} (hR : ROWd 1000 g ((w + 1) * (h + 1)) le ini) : ∃ (le2 : Nat → Int32) (cur : Nat → Nat), cal (d + 2) 171 [vr 2 0, vi (nn (81 * g))] (MX (upA I 35 0 le) J T) = some (.inl none, MX (upA I 35 0 le2) J T) ∧ ROWd 1000 g ((w + 1) * (h + 1)) le2 cur ∧ FRMd g le le2 ∧ SPR (AJd (eBd ws w h) (sBd ws w h) (w + 1)) ((w + 1) * (h + 1)) 1000 ini cur := by
  have hN := N81 hw8 hh8
  generalize hNN : (w + 1) * (h + 1) = N at *
  have he : ∀ c, eBd ws w h c = true → c + 1 < N := fun c hc => by rw [← hNN]; exact e_lt hc
  have hsB : ∀ c, sBd ws w h c = true → c + (w + 1) < N := fun c hc => by rw [← hNN]; exact s_lt hc
  have hA : ∀ u v, AJd (eBd ws w h) (sBd ws w h) (w + 1) u v → u < N ∧ v < N := fun u v q => by
    rcases q with ⟨q1, q2⟩ | ⟨q1, q2⟩ | ⟨q1, q2⟩ | ⟨q1, q2⟩
    · have := he u q1; omega
    · have := he v q1; omega
    · have := hsB u q1; omega
    · have := hsB v q1; omega
  have lp : ∀ m rr (le : Nat → Int32) (cur : Nat → Nat) (b : Bool) (o5 o6 : Option AV), rr + m = N + 1 → ROWd 1000 g N le cur → (∀ v, cur v ≤ ini v) → SND (AJd (eBd ws w h) (sBd ws w h) (w + 1)) N 1000 ini cur → (∀ k u v, k ≤ rr → WKd (AJd (eBd ws w h) (sBd ws w h) (w + 1)) k u v → cur v ≤ ini u + k) → (b = false → ∀ u v, AJd (eBd ws w h) (sBd ws w h) (w + 1) u v → cur v ≤ cur u + 1) → ∃ (le2 : Nat → Int32) (cur2 : Nat → Nat), den (d + 2) 171 13 [some (vr 2 0), some (vi (nn (81 * g))), some (vi (nn N)), some (vi (b01 b)), some (vi (nn rr)), o5, o6] [] (MX (upA I 35 0 le) J T) = some (.inl none, MX (upA I 35 0 le2) J T) ∧ ROWd 1000 g N le2 cur2 ∧ FRMd g le le2 ∧ SPR (AJd (eBd ws w h) (sBd ws w h) (w + 1)) N 1000 ini cur2 := by
    intro m
    induction m with
    | zero =>
      intro rr le cur b o5 o6 hm hR h1 h2 h3 h4
      refine ⟨le, cur, ?_, hR, FRM_r g le, fun v _ => h1 v, h2, fun u v k hu hv hwk => ?_⟩
      · rw [b171_13, if_pos ((nn_lt (by omega) (by omega)).mpr (by omega))]
      · obtain ⟨k2, k3, k4, k5⟩ := wk_s hA hu hwk
        have := h3 k2 u v (by omega) k5
        omega
    | succ m ih =>
      intro rr le cur b o5 o6 hm hR h1 h2 h3 h4
      rw [b171_13, if_neg (by rw [nn_lt (by omega) (by omega)]; omega)]
      cases b with
      | false =>
        refine ⟨le, cur, by rw [if_pos (show b01 false = 0 from rfl)], hR, FRM_r g le, fun v _ => h1 v, h2, fun u v k hu hv hwk => ?_⟩
        have a := lev_wk (h4 rfl) k u v hwk
        have b := h1 u
        omega
      | true =>
        rw [if_neg (by decide)]
        obtain ⟨le1, p6, e1, q1, q2⟩ := roundD (d + 1) I J T (eB := eBd ws w h) (sB := sBd ws w h) (W := w) hg hN hW.1 hw8 he hsB hwy (show rr < 90 by omega) N 0 le (cur, false) o6 (by omega) hR
        have rm := rnd_m (eBd ws w h) (sBd ws w h) (w + 1) (sgC N rr) N 0 (cur, false)
        have ra := fun u v => rnd_A (eBd ws w h) (sBd ws w h) (w + 1) he hsB (by omega) (sg_sur N rr) (cur, false) (u := u) (v := v)
        have rs := rnd_snd (inf := 1000) (ini := ini) (eBd ws w h) (sBd ws w h) (w + 1) he hsB (sgC N rr) N 0 (cur, false) h2
        have rf := rnd_f (eBd ws w h) (sBd ws w h) (w + 1) (sgC N rr) N 0 (cur, false)
        generalize rnd (eBd ws w h) (sBd ws w h) (w + 1) (sgC N rr) N 0 (cur, false) = p at *
        dsimp only at rm ra
        obtain ⟨le2, cur2, e2, q3, q4, q5⟩ := ih (rr + 1) le1 p.1 p.2 (some (vi (nn N))) p6 (by omega) q1 (fun v => Nat.le_trans (rm v) (h1 v)) rs (fun k u v hk hwk => by
          cases k with
          | zero =>
            have := h3 0 u v (by omega) hwk
            have := rm v
            omega
          | succ k =>
            obtain ⟨x, x1, x2⟩ := hwk
            have a := h3 k u x (by omega) x1
            have b := ra x v x2
            omega) (fun hb u v huv => by
          obtain ⟨-, y⟩ := rf hb
          have := ra u v huv
          rw [y] at this ⊢
          exact this)
        refine ⟨le2, cur2, ?_, q3, FRM_t q2 q4, q5⟩
        refine Eq.trans ?_ e2
        exact e1
  obtain ⟨le2, cur2, e2, q3, q4, q5⟩ := lp (N + 1) 0 le ini true none none (by omega) hR (fun v => Nat.le_refl _) (fun v hv hlt => ⟨v, 0, hv, rfl, rfl⟩) (fun k u v hk hwk => by
    have hk0 : k = 0 := by omega
    subst hk0
    have : u = v := hwk
    subst this
    exact Nat.le_refl _) (fun y => by cases y)
  refine ⟨le2, cur2, ?_, q3, q4, q5⟩
  have cc := cornersC d (upA I 35 0 le) J T (w := w) (h := h) hW hp
  rw [c171, cc, hNN]
  simp only [ret9]
  rw [b171_7]
  exact e2
end DLV
