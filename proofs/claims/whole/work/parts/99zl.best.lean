/-! The best of few cells: the class's search -/
theorem runM_wb {g : Int32 → Int32} {p : Nat → Int32} (hg : ∀ a : Int32, 0 ≤ a → a ≤ 103 → wb (g a)) : ∀ m i (st : List Int32), okP p m i st.length → wbL st → wbL (runM g p m i st)
  | 0, _, st, _, h => h
  | m + 1, i, st, hk, h => by
    show wbL (runM g p m (i + 1) (stpM g (p i) st))
    rcases hk with ⟨h1, h2, h3, h4, h5⟩ | ⟨h1, h2, h3, h4⟩
    · have e : stpM g (p i) st = g (p i) :: st := by unfold stpM; rw [if_pos h1]
      rw [e]
      exact runM_wb hg m (i + 1) (g (p i) :: st) h5 ⟨hg _ h2 h3, h⟩
    · match st, h, h3, h4 with
      | [], _, h3, _ => exact absurd h3 (by show ¬ 2 ≤ 0; omega)
      | [_], _, h3, _ => exact absurd h3 (by show ¬ 2 ≤ 1; omega)
      | b :: a :: r, h, _, h4 =>
        have e : stpM g (p i) (b :: a :: r) = clp (opM (p i) a b) :: r := by unfold stpM; rw [if_neg (i32_nlt.mpr h1)]
        rw [e]
        exact runM_wb hg m (i + 1) (clp (opM (p i) a b) :: r) h4 ⟨wb_clp _, h.2.2⟩
theorem wb_head {st : List Int32} (h : wbL st) : wb (st.headD 0) := by
  cases st with
  | nil => exact ⟨by decide, by decide⟩
  | cons a r => exact h.1
theorem relPB {I : PI} {J : PJ} {g : Nat} {mb : OR} {w h o : Nat} (hB : RelB I g mb o) (hW : RelW I w h) (hC : RelC I J (w * h) o) (hO : RelO I (w * h) o) (hP : RelP I mb w h o) (hp : 0 < w * h) (ho : 0 < o) : PB (I 34 0) (w * h) o := by
  obtain ⟨b, hmb⟩ := relmb hB ho
  obtain ⟨v1, v2, v3, v4, v5⟩ := relVN hB hW hO hp hmb
  obtain ⟨-, -, hw1, hw8, hh1, hh8⟩ := id v1
  intro k hk c hc
  obtain ⟨p, len, p1, p2, p3, p4, p5⟩ := v5 k hk
  have hcc := hC.2 c hc
  rw [hP b hmb k hk c hc]
  unfold VAL
  rw [p2, p4, nn_idx (by omega), nn_idx (by omega)]
  refine wb_head (runM_wb (fun a h0 h1 => wb_sng (wb9 hcc.2.2.1.1 hcc.2.2.1.2) (wb9 hcc.2.2.2.2.1.1 hcc.2.2.2.2.1.2) (dst_le hw1 hw8 hh8 hc p1) ?_ (wb_small h0 h1)) len 0 [] p5 trivial)
  split
  · exact ⟨by decide, by decide⟩
  · exact ⟨by decide, by decide⟩
theorem fm_id (I : PI) : FM I (I 22 1) (I 22 2) (I 22 3) (I 4 0) = I := by
  unfold FM
  rw [upA_id, upA_id, upA_id, upA_id]
/-- the class's memory behind a search -/
def SRm (I : PI) (cv no : Int32) (ce s1 A B pk fd wo sf : Nat → Int32) : PI := FM (HG (upA (upA (fl (up3 (up3 (up3 I 4 0 11 cv) 4 0 12 0) 4 0 10 no) 22 3 9 0) 22 0 ce) 4 0 s1) A B) pk fd wo sf
noncomputable def RES (I : PI) (w h o : Nat) (cv : Int32) : BST := foB (fun v => LAW v (I 28 6) (I 39 0) w h o (I 5 0 10)) (BE (I 34 0) (w * h) o cv) (fun v => SHO v (I 34 0) (I 21 4) (w * h) o) (fun v => TS v (I 34 0) (w * h) o) (I 39 0) o (w * h) 0 (fun _ => -1) none
theorem DR_congr {ws ws2 a : Nat → Int32} {f : Nat → Int64} {n o : Nat} (h : ∀ c, c < n → ws c = ws2 c) (hD : DR ws a f n o) : DR ws2 a f n o := by
  refine ⟨fun c hc => by rw [← h c hc]; exact hD.1 c hc, fun k hk c hc => ?_⟩
  rw [hD.2 k hk c hc]
  constructor
  · exact fun y => ⟨y.1, by rw [← h c y.1]; exact y.2⟩
  · exact fun y => ⟨y.1, by rw [h c y.1]; exact y.2⟩
section SRC
variable (d : Nat) (I : PI) (J : PJ) (T : TL) {w h o : Nat} {cv : Int32}
theorem searchB {mb : OR} {g : Nat} (hB : RelB I g mb o) (hW : RelW I w h) (hp : 0 < w * h) (hM : RelM J w h) (hC : RelC I J (w * h) o) (hO : RelO I (w * h) o) (hP : RelP I mb w h o) (hob : I 1 T.1 3 = nn o) (ho1 : 1 ≤ o) (ho3 : o ≤ 3) (h9 : cn (NWt (I 39 0)) (w * h) ≤ 9) (hcv : cv = 0 ∨ cv = 1) : ∃ (ce s1 A B pk fd wo sf : Nat → Int32) (ff : Nat → Int64), (RES I w h o cv = none → cal (d + 15) 135 [vr 4 0, vi cv] (MX I J T) = some (.inl (some (vi 0)), MX (SRm I cv (nn o) ce s1 A B pk fd wo sf) (upA J 41 0 ff) T)) ∧ (∀ q, RES I w h o cv = some q → ∃ (a : Nat → Int32) (f : Nat → Int64), cal (d + 15) 135 [vr 4 0, vi cv] (MX I J T) = some (.inl (some (vi 1)), MX (upA (SRm I cv (nn o) ce s1 A B pk fd wo sf) 28 3 a) (upA (upA J 41 0 ff) 42 1 f) T) ∧ DR q.2.2.2 a f (w * h) o ∧ sf 15 = q.2.2.1) := by
  have h64 := relW_le hW
  have hmin : min9 (nn o) 3 = nn o := by
    unfold min9
    rw [if_neg (by rw [show (3 : Int32) = nn 3 from rfl, nn_lt (by omega) (by omega)]; omega)]
  have hPB := relPB hB hW hC hO hP hp (by omega)
  have hkeep : ∀ c, c < w * h → I 28 2 c = I 28 6 c := fun c hc => (hC.2 c hc).2.2.2.2.2.1
  have hmay : ∀ c, c < w * h → I 39 0 c = 0 → ∃ k, k < o ∧ may9 (I 28 6) k c := fun c hc _ => by
    rcases (hC.2 c hc).2.2.2.2.2.2 with z | ⟨k, k1, k2⟩
    · exact ⟨0, by omega, .inl z⟩
    · exact ⟨k, k1, .inr k2⟩
  -- up to the cells
  have e0 : cal (d + 15) 135 [vr 4 0, vi cv] (MX I J T) = den (d + 15) 135 44 [some (vr 4 0), some (vi cv), none] [] (MX (fl (up3 (up3 (up3 I 4 0 11 cv) 4 0 12 0) 4 0 10 (nn o)) 22 3 9 0) (upA J 41 0 (fun i => if i < 3 then 0 else J 41 0 i)) T) := by
    rcases hcv with rfl | rfl
    · rw [c135z0, hob, hmin, fill41]
      simp only [ret9]
      rw [b135_36, fill22]
      simp only [ret9]
      rfl
    · rw [c135z1, hob, hmin, fill41]
      simp only [ret9]
      rw [b135_36, fill22]
      simp only [ret9]
      rfl
  generalize hI2 : fl (up3 (up3 (up3 I 4 0 11 cv) 4 0 12 0) 4 0 10 (nn o)) 22 3 9 0 = I2 at e0
  obtain ⟨ce, s1, ec, qc1, qc2⟩ := cellsF (d + 13) I2 (upA J 41 0 (fun i => if i < 3 then 0 else J 41 0 i)) T (w := w) (h := h) (o := o) (by rw [← hI2]; exact hW.2.2.1) h64 (by rw [← hI2]; exact hC) (by rw [← hI2]; exact h9)
  have i39 : I2 39 0 = I 39 0 := by rw [← hI2]; rfl
  have i286 : I2 28 6 = I 28 6 := by rw [← hI2]; rfl
  rw [i39, i286] at ec qc2
  have e40 : ∀ i, I2 4 0 i = (if i = 10 then nn o else if i = 12 then 0 else if i = 11 then cv else I 4 0 i) := fun i => by rw [← hI2]; rfl
  by_cases hnk : NKW (I 28 6) (I 39 0) (w * h)
  · obtain ⟨q9, qce⟩ := qc2 hnk
    have s10 : s1 10 = nn o := by rw [qc1 10 (by omega), e40]; rfl
    have s11 : s1 11 = cv := by rw [qc1 11 (by omega), e40]; rfl
    have s12 : s1 12 = 0 := by rw [qc1 12 (by omega), e40]; rfl
    obtain ⟨A, B, eh, qh⟩ := hopesF (d + 13) (upA (upA I2 22 0 ce) 4 0 s1) (upA J 41 0 (fun i => if i < 3 then 0 else J 41 0 i)) T (w := w) (h := h) (o := o) (kp := I 28 6) (wt := I 39 0) q9 s10 ho3 (fun c hc => by rw [← hI2]; exact hkeep c hc) h64 h9 qce
    generalize hI4 : HG (upA (upA I2 22 0 ce) 4 0 s1) A B = I4 at eh qh
    have i40 : I4 4 0 = s1 := by rw [← hI4]; rfl
    have iW : RelW I4 w h := by rw [← hI4, ← hI2]; exact hW
    have i34 : I4 34 0 = I 34 0 := by rw [← hI4, ← hI2]; rfl
    have i21 : I4 21 4 = I 21 4 := by rw [← hI4, ← hI2]; rfl
    have i282 : I4 28 2 = I 28 2 := by rw [← hI4, ← hI2]; rfl
    have i220 : I4 22 0 = ce := by rw [← hI4]; rfl
    have i510 : I4 5 0 10 = I 5 0 10 := by rw [← hI4, ← hI2]; rfl
    have i223 : ∀ i, i < 9 → I4 22 3 i = 0 := fun i hi => by
      rw [← hI4, ← hI2]
      show (if i < 9 then (0 : Int32) else _) = 0
      rw [if_pos hi]
    have hX : BCX I4 J w h o (I 28 6) (I 39 0) (fun v => LAW v (I 28 6) (I 39 0) w h o (I 5 0 10)) := by
      refine ⟨iW, hp, hM, ho3, by rw [i34]; exact hPB, fun k hk => by rw [i21, (hO.1 k hk).2.1]; exact (hO.1 k hk).2.2.2, hmay, qh, h9, fun c hc => by rw [i282]; exact hkeep c hc, fun c hc hw => by rw [i220]; exact qce c hc hw, fun ws hok => by rw [i510]; exact OKP_law (by omega) hnk hok, ?_⟩
      intro c k hc hk hm v hv hL
      refine hL.2.1 c hc ⟨fun y => hm (.inl y), fun y => hm (.inr ?_)⟩
      rw [← hv, y]
    obtain ⟨pk2, fd2, wo2, sf2, ff2, ed, qd⟩ := descF (d + 9 - cn (NWt (I 39 0)) (w * h)) I4 J T (cv := cv) hX (w * h) 0 (cn (NWt (I 39 0)) (w * h)) (fun _ => -1) none (I4 22 1) (I4 22 2) (I4 22 3) (I4 4 0) (fun i => if i < 3 then 0 else J 41 0 i) (by omega) (by show 0 + _ = _; omega) ⟨fun i hi => absurd hi (by omega), fun i _ => rfl⟩ ⟨⟨fun j x hj hx => by
        rw [i223 _ (by omega)]
        unfold SU
        rw [sm_congr (g := fun _ => 0) _ 0 0 (fun i _ _ => if_neg (fun y => nn_ne_neg (a := x) (by omega) y.symm)), sm_zero], fun x hx i hi => by
        show bt (if x < 3 then 0 else J 41 0 x) i = true ↔ (i < w * h ∧ (-1 : Int32) = nn x)
        rw [if_pos (by omega), bt_zero]
        exact ⟨fun y => (by cases y), fun y => absurd y.2 (fun z => nn_ne_neg (a := x) (by omega) z.symm)⟩⟩, fun i hi => absurd hi (by omega), ⟨by rw [i40]; exact q9, by rw [i40]; exact s10, by rw [i40]; exact s11⟩, by show I4 4 0 12 = 0; rw [i40]; exact s12⟩
    rw [fm_id] at ed
    have hRES : RES I w h o cv = foB (fun v => LAW v (I 28 6) (I 39 0) w h o (I 5 0 10)) (BE (I4 34 0) (w * h) o cv) (fun v => SHO v (I4 34 0) (I4 21 4) (w * h) o) (fun v => TS v (I4 34 0) (w * h) o) (I 39 0) o (w * h) 0 (fun _ => -1) none := by rw [i34, i21]; rfl
    rw [← hRES] at qd
    obtain ⟨-, qd2, qd3, qd4⟩ := qd
    rw [show d + 9 - cn (NWt (I 39 0)) (w * h) + 5 + cn (NWt (I 39 0)) (w * h) = d + 14 by omega] at ed
    have e1 : cal (d + 15) 135 [vr 4 0, vi cv] (MX I J T) = den (d + 15) 135 62 [some (vr 4 0), some (vi cv), none] [] (MX (FM I4 pk2 fd2 wo2 sf2) (upA J 41 0 ff2) T) := by
      rw [e0, b135_44, ec]
      simp only [ret9]
      rw [b135_48, bi1 hnk, if_pos (by decide), eh]
      simp only [ret9]
      rw [b135_57]
      refine (congrArg (ret9 (den (d + 14 + 1) 135) 135 59 62 _ _) ed).trans ?_
      simp only [ret9]
    have e12 : (FM I4 pk2 fd2 wo2 sf2) 4 0 12 = sf2 12 := rfl
    have hSR : SRm I cv (nn o) ce s1 A B pk2 fd2 wo2 sf2 = FM I4 pk2 fd2 wo2 sf2 := by
      unfold SRm
      rw [hI2, hI4]
    refine ⟨ce, s1, A, B, pk2, fd2, wo2, sf2, ff2, fun hR => ?_, fun q hR => ?_⟩
    · rw [hR] at qd4
      have z12 : sf2 12 = 0 := qd4
      rw [hSR, e1, b135_62, e12, z12, if_pos rfl, if_pos (.inl rfl)]
    · rw [hR] at qd4
      obtain ⟨z12, z13, z14, z15, zfd⟩ := qd4
      have hpre : PRE (I 39 0) o (w * h) q.2.2.2 := foB_P (w * h) 0 (fun _ => -1) none (by omega) ⟨fun i hi => absurd hi (by omega), fun i _ => rfl⟩ (fun q hq => by cases hq) q hR
      obtain ⟨a0, f0, ew, qw⟩ := wipeR (d + 13) (w * h) o (FM I4 pk2 fd2 wo2 sf2) (upA J 41 0 ff2) T (fun i => if i < 0 then q.2.2.2 i else -1) h64 (fun c _ => if_neg (by omega))
      have lpG : ∀ r c (a : Nat → Int32) (f : Nat → Int64), c + r = w * h → DR (fun i => if i < c then q.2.2.2 i else -1) a f (w * h) o → ∃ (a2 : Nat → Int32) (f2 : Nat → Int64), den (d + 15) 135 78 [some (vr 4 0), some (vi cv), some (vi (nn (cn (NWt (I 39 0)) c)))] [] (MX (upA (FM I4 pk2 fd2 wo2 sf2) 28 3 a) (upA (upA J 41 0 ff2) 42 1 f) T) = some (.inl (some (vi 1)), MX (upA (FM I4 pk2 fd2 wo2 sf2) 28 3 a2) (upA (upA J 41 0 ff2) 42 1 f2) T) ∧ DR q.2.2.2 a2 f2 (w * h) o := by
        intro r
        induction r with
        | zero =>
          intro c a f hc hD
          have hcn : c = w * h := by omega
          subst hcn
          have e9 : (upA (FM I4 pk2 fd2 wo2 sf2) 28 3 a) 4 0 9 = nn (cn (NWt (I 39 0)) (w * h)) := qd3.1
          have e12' : (upA (FM I4 pk2 fd2 wo2 sf2) 28 3 a) 4 0 12 = 1 := z12
          refine ⟨a, f, ?_, DR_congr (fun i hi => if_pos hi) hD⟩
          rw [b135_78, e9, if_pos (Int32.le_refl _), e12', if_pos (.inr rfl)]
        | succ r ih =>
          intro c a f hc hD
          have hsu := cn_succ (NWt (I 39 0)) c
          have hmono := cn_mono2 (NWt (I 39 0)) (show c + 1 ≤ w * h by omega)
          by_cases z : I 39 0 c = 0
          · rw [if_pos (show NWt (I 39 0) c = true from decide_eq_true z)] at hsu
            have e9 : (upA (FM I4 pk2 fd2 wo2 sf2) 28 3 a) 4 0 9 = nn (cn (NWt (I 39 0)) (w * h)) := qd3.1
            have ece : (upA (FM I4 pk2 fd2 wo2 sf2) 28 3 a) 22 0 (cn (NWt (I 39 0)) c) = nn c := by
              show I4 22 0 (cn (NWt (I 39 0)) c) = nn c
              rw [i220]; exact qce c (by omega) z
            have efd : (upA (FM I4 pk2 fd2 wo2 sf2) 28 3 a) 22 2 (cn (NWt (I 39 0)) c) = q.2.2.2 c := zfd c (by omega) z
            have r9 : inR (nn (cn (NWt (I 39 0)) c)) 9 = true := nn_inR (by omega) (by omega)
            obtain ⟨k, k1, k2⟩ := (hpre.1 c (by omega)).1 z
            obtain ⟨f2, eg, qg⟩ := giveR (d + 14) (q.2.2.2 c) (FM I4 pk2 fd2 wo2 sf2) (upA J 41 0 ff2) T hD (show c < w * h by omega) h64 (by omega) (.inr ⟨k, k1, k2⟩)
            obtain ⟨a3, f3, e3, q3⟩ := ih (c + 1) _ f2 (by omega) (DR_congr (fun i hi => by
              unfold wu
              by_cases y : i = c
              · rw [y, if_pos rfl, if_pos (by omega)]
              · rw [if_neg y]
                dsimp only
                by_cases x : i < c
                · rw [if_pos x, if_pos (by omega)]
                · rw [if_neg x, if_neg (by omega)]) qg)
            refine ⟨a3, f3, ?_, q3⟩
            rw [b135_78, e9, if_neg (by rw [nn_le (by omega) (by omega)]; omega), if_pos r9, if_pos r9, nn_idx (by omega), ece, efd, eg]
            simp only [ret9]
            rw [b135_105, nn_add1, ← hsu]
            exact e3
          · rw [show NWt (I 39 0) c = false from decide_eq_false z, if_neg (by decide)] at hsu
            have hcc : cn (NWt (I 39 0)) c = cn (NWt (I 39 0)) (c + 1) := by omega
            rw [hcc]
            refine ih (c + 1) a f (by omega) (DR_congr (fun i hi => ?_) hD)
            by_cases y : i = c
            · rw [y, if_neg (by omega), if_pos (by omega), (hpre.1 c (by omega)).2 z]
            · by_cases x : i < c
              · rw [if_pos x, if_pos (by omega)]
              · rw [if_neg x, if_neg (by omega)]
      obtain ⟨a2, f2, e3, q3⟩ := lpG (w * h) 0 a0 f0 (by omega) qw
      refine ⟨a2, f2, ?_, q3, z15⟩
      rw [hSR, e1, b135_62, e12, z12, if_neg (by decide), ew]
      simp only [ret9]
      rw [b135_76]
      exact e3
  · have hR : RES I w h o cv = none := by
      unfold RES
      have hex : ∃ i, i < w * h ∧ ¬ I 39 0 i = 0 ∧ ¬ I 28 6 i = -1 := by
        apply Classical.byContradiction
        intro y
        exact hnk (fun i hi hw => Classical.byContradiction (fun x => y ⟨i, hi, hw, x⟩))
      obtain ⟨i, i1, i2, i3⟩ := hex
      exact foB_bad _ _ _ _ (I 39 0) o (i := i) (x := -1) (fun v hv hL => hL.2.1 i i1 ⟨i3, fun y => i3 (by rw [← y]; exact hv)⟩) none (w * h) 0 _ (.inr i2) rfl
    refine ⟨ce, s1, (upA (upA I2 22 0 ce) 4 0 s1) 26 0, (upA (upA I2 22 0 ce) 4 0 s1) 23 0, (upA (upA I2 22 0 ce) 4 0 s1) 22 1, (upA (upA I2 22 0 ce) 4 0 s1) 22 2, (upA (upA I2 22 0 ce) 4 0 s1) 22 3, (upA (upA I2 22 0 ce) 4 0 s1) 4 0, (fun i => if i < 3 then 0 else J 41 0 i), fun _ => ?_, fun q hq => by rw [hR] at hq; cases hq⟩
    have hSR : SRm I cv (nn o) ce s1 ((upA (upA I2 22 0 ce) 4 0 s1) 26 0) ((upA (upA I2 22 0 ce) 4 0 s1) 23 0) ((upA (upA I2 22 0 ce) 4 0 s1) 22 1) ((upA (upA I2 22 0 ce) 4 0 s1) 22 2) ((upA (upA I2 22 0 ce) 4 0 s1) 22 3) ((upA (upA I2 22 0 ce) 4 0 s1) 4 0) = upA (upA I2 22 0 ce) 4 0 s1 := by
      unfold SRm
      rw [hI2]
      generalize upA (upA I2 22 0 ce) 4 0 s1 = I3
      have : HG I3 (I3 26 0) (I3 23 0) = I3 := by
        unfold HG
        rw [upA_id, upA_id]
      rw [this, fm_id]
    rw [hSR, e0, b135_44, ec]
    simp only [ret9]
    rw [b135_48, bi0 hnk, if_neg (fun y => y rfl)]
end SRC
