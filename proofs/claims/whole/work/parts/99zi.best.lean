/-! The best of few cells: the class's descent -/
/-- all that the class's search takes as given -/
def BCX (I : PI) (J : PJ) (w h o : Nat) (kp wt : Nat → Int32) (K : (Nat → Int32) → Prop) : Prop := RelW I w h ∧ 0 < w * h ∧ RelM J w h ∧ o ≤ 3 ∧ PB (I 34 0) (w * h) o ∧ (∀ k, k < o → 0 ≤ I 21 4 k ∧ I 21 4 k ≤ 1000000) ∧ (∀ c, c < w * h → wt c = 0 → ∃ k, k < o ∧ may9 kp k c) ∧ HPO I kp wt (w * h) o ∧ cn (NWt wt) (w * h) ≤ 9 ∧ (∀ c, c < w * h → I 28 2 c = kp c) ∧ (∀ c, c < w * h → wt c = 0 → I 22 0 (cn (NWt wt) c) = nn c) ∧ (∀ ws, OKP kp wt o (w * h) ws → (K ws ↔ ∀ k, k < o → LFP w h (I 5 0 10) (FL ws k))) ∧ (∀ c k, c < w * h → k < o → ¬ may9 kp k c → ∀ v : Nat → Int32, v c = nn k → ¬ K v)
/-- what the class holds, at a cell -/
def FI (I : PI) (wt : Nat → Int32) (n o : Nat) (cv : Int32) (ws : Nat → Int32) (c : Nat) (st : BST) (pk fd wo sf : Nat → Int32) (ff : Nat → Int64) : Prop := WOk (I 34 0) ws wo ff n o ∧ (∀ i, i < c → wt i = 0 → pk (cn (NWt wt) i) = ws i) ∧ (sf 9 = nn (cn (NWt wt) n) ∧ sf 10 = nn o ∧ sf 11 = cv) ∧ FSt wt n sf fd st
section DSC
variable (d : Nat) (I : PI) (J : PJ) (T : TL) {w h o : Nat} {kp wt : Nat → Int32} {K : (Nat → Int32) → Prop} {cv : Int32}
theorem mayF (hX : BCX I J w h o kp wt K) {c k : Nat} (hc : c < w * h) (hk : k < o) (pk fd wo sf : Nat → Int32) (J1 : PJ) : cal d 138 [vr 4 0, vi (nn k), vi (nn c)] (MX (FM I pk fd wo sf) J1 T) = some (.inl (some (vi (bi (may9 kp k c)))), MX (FM I pk fd wo sf) J1 T) := by
  have h64 := relW_le hX.1
  have ho3 := hX.2.2.2.1
  have hr : inR (nn c) 64 = true := nn_inR (by omega) (by omega)
  have e : (FM I pk fd wo sf) 28 2 c = kp c := hX.2.2.2.2.2.2.2.2.2.1 c hc
  rw [c138, if_pos hr, if_pos hr, nn_idx (by omega), e]
  by_cases z : kp c = -1
  · rw [if_pos z, bi1 (.inl z)]
  · rw [if_neg z]
    by_cases y : kp c = nn k
    · rw [if_neg (fun q => q y), bi1 (.inr y)]
    · rw [if_pos y, bi0 (fun q => by rcases q with q | q; exact z q; exact y q)]
theorem noHope (hX : BCX I J w h o kp wt K) {q : Int32 × Int32 × Int32 × (Nat → Int32)} (hq : q.1 = 0) {r c : Nat} {ws : Nat → Int32} (hc : c + r = w * h) (hw : ∀ i, c ≤ i → ws i = -1) (hn : ¬ (shH kp wt (I 34 0) (I 21 4) (w * h) o ws c < q.2.1.toInt ∨ (shH kp wt (I 34 0) (I 21 4) (w * h) o ws c = q.2.1.toInt ∧ q.2.2.1.toInt < toH kp wt (I 34 0) (w * h) o ws c))) : foB K (BE (I 34 0) (w * h) o cv) (fun v => SHO v (I 34 0) (I 21 4) (w * h) o) (fun v => TS v (I 34 0) (w * h) o) wt o r c ws (some q) = some q := by
  obtain ⟨hW, hp, hM, ho3, hP, hh, hm, hH, h9, hkc, hcel, hKl, hbad⟩ := hX
  have h64 := relW_le hW
  refine foB_hl K _ _ _ wt o (n := w * h) (may := may9 kp) (HLs kp wt (I 34 0) (I 21 4) (w * h) o q.2.1.toInt q.2.2.1.toInt) (some q) ?_ ?_ ?_ hbad r c ws hc ⟨hw, by omega⟩
  · intro ws hl y
    have sb := shH_b kp wt (I 34 0) (I 21 4) (w * h) o hP h64 (by omega) hh ws (Nat.le_refl _)
    have tb := sI_abs (f := fun k => suI (I 34 0) (w * h) ws k (nn k)) (m := 640000) o (fun k hk => by have := suI_b (I 34 0) (w * h) o hP ws hk (nn k); omega)
    have gb := GG_b (kp := kp) (wt := wt) hP hm (Nat.le_refl (w * h))
    have tt : -2147483648 ≤ toH kp wt (I 34 0) (w * h) o ws (w * h) ∧ toH kp wt (I 34 0) (w * h) o ws (w * h) < 2147483648 := by unfold toH; omega
    rcases y with y | ⟨-, y | ⟨y1, y2⟩⟩
    · rw [hq] at y; exact BE_nn _ _ (by omega) _ _ y
    · rw [SHO_ii kp wt (I 34 0) (I 21 4) (w * h) o hP h64 hh, i32lt, ii_toInt (by omega) (by omega)] at y
      have := hl.2
      omega
    · rw [SHO_ii kp wt (I 34 0) (I 21 4) (w * h) o hP h64 hh] at y1
      have y3 := congrArg Int32.toInt y1
      rw [ii_toInt (by omega) (by omega)] at y3
      rw [TS_ii kp wt (I 34 0) (w * h) o, i32lt, ii_toInt tt.1 tt.2] at y2
      have := hl.2
      omega
  · intro c ws k hc hl hw hk hmy
    exact HL_dry kp wt (I 34 0) (I 21 4) (w * h) o hP (by omega) hc hl hw hk hmy
  · intro c ws hc hl hw
    exact HL_wet kp wt (I 34 0) (I 21 4) (w * h) o hP hc hl hw
theorem descF (hX : BCX I J w h o kp wt K) : ∀ r c e (ws : Nat → Int32) (st : BST) (pk fd wo sf : Nat → Int32) (ff : Nat → Int64), c + r = w * h → cn (NWt wt) c + e = cn (NWt wt) (w * h) → OKP kp wt o c ws → FI I wt (w * h) o cv ws c st pk fd wo sf ff → ∃ (pk2 fd2 wo2 sf2 : Nat → Int32) (ff2 : Nat → Int64), cal (d + 5 + e) 139 [vr 4 0, vi (nn (cn (NWt wt) c))] (MX (FM I pk fd wo sf) (upA J 41 0 ff) T) = some (.inl none, MX (FM I pk2 fd2 wo2 sf2) (upA J 41 0 ff2) T) ∧ FI I wt (w * h) o cv ws c (foB K (BE (I 34 0) (w * h) o cv) (fun v => SHO v (I 34 0) (I 21 4) (w * h) o) (fun v => TS v (I 34 0) (w * h) o) wt o r c ws st) pk2 fd2 wo2 sf2 ff2 := by
  obtain ⟨hW, hp, hM, ho3, hP, hh, hm, hH, h9, hkc, hcel, hKl, hbad⟩ := id hX
  have h64 := relW_le hW
  -- what stands before a descent goes on
  have gate : ∀ r c e (ws : Nat → Int32) (st : BST) (pk fd wo sf : Nat → Int32) (ff : Nat → Int64), c + r = w * h → OKP kp wt o c ws → FI I wt (w * h) o cv ws c st pk fd wo sf ff → ∀ A : Option Res9, A = (if (FM I pk fd wo sf) 4 0 9 ≤ nn (cn (NWt wt) c) then ret9 (den (d + 5 + e) 139) 139 38 41 [some (vr 4 0), some (vi (nn (cn (NWt wt) c))), none, none] [] (cal (d + 4 + e) 141 [vr 4 0] (MX (FM I pk fd wo sf) (upA J 41 0 ff) T)) else (if nn (cn (NWt wt) c) < 9 then (if inR (nn (cn (NWt wt) c)) 9 = true then den (d + 5 + e) 139 51 [some (vr 4 0), some (vi (nn (cn (NWt wt) c))), some (vi ((FM I pk fd wo sf) 22 0 (Int32.toNatClampNeg (nn (cn (NWt wt) c))))), some (vi 0)] [] (MX (FM I pk fd wo sf) (upA J 41 0 ff) T) else none) else ret9 (den (d + 5 + e) 139) 139 38 41 [some (vr 4 0), some (vi (nn (cn (NWt wt) c))), none, none] [] (cal (d + 4 + e) 141 [vr 4 0] (MX (FM I pk fd wo sf) (upA J 41 0 ff) T)))) → (∃ (pk2 fd2 wo2 sf2 : Nat → Int32) (ff2 : Nat → Int64), A = some (.inl none, MX (FM I pk2 fd2 wo2 sf2) (upA J 41 0 ff2) T) ∧ FI I wt (w * h) o cv ws c (foB K (BE (I 34 0) (w * h) o cv) (fun v => SHO v (I 34 0) (I 21 4) (w * h) o) (fun v => TS v (I 34 0) (w * h) o) wt o r c ws st) pk2 fd2 wo2 sf2 ff2) → ∃ (pk2 fd2 wo2 sf2 : Nat → Int32) (ff2 : Nat → Int64), cal (d + 5 + e) 139 [vr 4 0, vi (nn (cn (NWt wt) c))] (MX (FM I pk fd wo sf) (upA J 41 0 ff) T) = some (.inl none, MX (FM I pk2 fd2 wo2 sf2) (upA J 41 0 ff2) T) ∧ FI I wt (w * h) o cv ws c (foB K (BE (I 34 0) (w * h) o cv) (fun v => SHO v (I 34 0) (I 21 4) (w * h) o) (fun v => TS v (I 34 0) (w * h) o) wt o r c ws st) pk2 fd2 wo2 sf2 ff2 := by
    intro r c e ws st pk fd wo sf ff hc hO hF A hA hgo
    obtain ⟨f1, f2, f3, f4⟩ := id hF
    have e12 : (FM I pk fd wo sf) 4 0 12 = sf 12 := rfl
    have e13 : (FM I pk fd wo sf) 4 0 13 = sf 13 := rfl
    have hdd : d + 5 + e = (d + 4 + e) + 1 := by omega
    rw [hdd] at hA ⊢
    rw [c139, ← hA, e12, e13]
    cases st with
    | none =>
      have h12 : sf 12 = 0 := f4
      rw [if_pos h12]
      exact hgo
    | some q =>
      obtain ⟨s12, s13, s14, s15, sfd⟩ := id f4
      rw [if_neg (by rw [s12]; decide), s13]
      by_cases z : q.1 = 0
      · rw [if_neg (fun y => y z)]
        have hf := hopeF (d + 4 + e) I J T ho3 h64 hP hh hm hH h9 ws pk fd wo sf ff f3.2.1 f1 (show c ≤ w * h by omega)
        rw [s14, s15] at hf
        rw [hf]
        simp only [ret9]
        rw [b139_19, ← hA]
        by_cases y : shH kp wt (I 34 0) (I 21 4) (w * h) o ws c < q.2.1.toInt ∨ (shH kp wt (I 34 0) (I 21 4) (w * h) o ws c = q.2.1.toInt ∧ q.2.2.1.toInt < toH kp wt (I 34 0) (w * h) o ws c)
        · rw [bi1 y, if_pos (by decide)]
          exact hgo
        · rw [bi0 y, if_neg (fun x => x rfl), noHope I J (cv := cv) hX z hc hO.2 y]
          exact ⟨pk, fd, wo, sf, ff, rfl, hF⟩
      · rw [if_pos z]
        exact hgo
  intro r
  induction r with
  | zero =>
    intro c e ws st pk fd wo sf ff hc he hO hF
    have hcn : c = w * h := by omega
    have he0 : e = 0 := by rw [hcn] at he; omega
    subst he0
    refine gate 0 c 0 ws st pk fd wo sf ff hc hO hF _ rfl ?_
    obtain ⟨f1, f2, f3, f4⟩ := id hF
    have e9 : (FM I pk fd wo sf) 4 0 9 = nn (cn (NWt wt) (w * h)) := f3.1
    subst hcn
    obtain ⟨fd2, sf2, e1, q1, q2⟩ := weighF d I J T ho3 (wt := wt) hW hp hM h9 ws pk fd wo sf ff f3.2.1 f3.2.2 f1 st f4 f2 (K := K) (hKl ws hO)
    refine ⟨pk, fd2, wo, sf2, ff, ?_, f1, f2, ⟨by rw [q2 9 (by omega)]; exact f3.1, by rw [q2 10 (by omega)]; exact f3.2.1, by rw [q2 11 (by omega)]; exact f3.2.2⟩, q1⟩
    rw [e9, if_pos (Int32.le_refl _)]
    show ret9 _ _ _ _ _ _ (cal (d + 4) 141 _ _) = _
    rw [e1]
    simp only [ret9]
    rw [b139_41]
  | succ r ih =>
    intro c e ws st pk fd wo sf ff hc he hO hF
    have hsu := cn_succ (NWt wt) c
    have hmono := cn_mono2 (NWt wt) (show c + 1 ≤ w * h by omega)
    by_cases hw : wt c = 0
    · rw [if_pos (show NWt wt c = true from decide_eq_true hw)] at hsu
      obtain ⟨e2, rfl⟩ : ∃ e2, e = e2 + 1 := ⟨e - 1, by omega⟩
      refine gate (r + 1) c (e2 + 1) ws st pk fd wo sf ff hc hO hF _ rfl ?_
      have e9 : (FM I pk fd wo sf) 4 0 9 = nn (cn (NWt wt) (w * h)) := hF.2.2.1.1
      have e22 : (FM I pk fd wo sf) 22 0 (cn (NWt wt) c) = nn c := hcel c (by omega) hw
      have r9 : inR (nn (cn (NWt wt) c)) 9 = true := nn_inR (by omega) (by omega)
      rw [e9, if_neg (by rw [nn_le (by omega) (by omega)]; omega), if_pos (show nn (cn (NWt wt) c) < 9 from (nn_lt (b := 9) (by omega) (by omega)).mpr (by omega)), if_pos r9, nn_idx (by omega), e22, foB_dry K _ _ _ wt o hw]
      have lp : ∀ m k (st : BST) (pk fd wo sf : Nat → Int32) (ff : Nat → Int64), k + m = o → FI I wt (w * h) o cv ws c st pk fd wo sf ff → ∃ (pk2 fd2 wo2 sf2 : Nat → Int32) (ff2 : Nat → Int64), den (d + 5 + (e2 + 1)) 139 51 [some (vr 4 0), some (vi (nn (cn (NWt wt) c))), some (vi (nn c)), some (vi (nn k))] [] (MX (FM I pk fd wo sf) (upA J 41 0 ff) T) = some (.inl none, MX (FM I pk2 fd2 wo2 sf2) (upA J 41 0 ff2) T) ∧ FI I wt (w * h) o cv ws c (itn (fun k st => foB K (BE (I 34 0) (w * h) o cv) (fun v => SHO v (I 34 0) (I 21 4) (w * h) o) (fun v => TS v (I 34 0) (w * h) o) wt o r (c + 1) (wu ws c (nn k)) st) m k st) pk2 fd2 wo2 sf2 ff2 := by
        intro m
        induction m with
        | zero =>
          intro k st pk fd wo sf ff hk hF
          have e10 : (FM I pk fd wo sf) 4 0 10 = nn o := hF.2.2.1.2.1
          refine ⟨pk, fd, wo, sf, ff, ?_, by rw [itn_z]; exact hF⟩
          show den (d + 5 + e2 + 1) 139 51 _ _ _ = _
          rw [b139_51, e10, if_pos ((nn_le (by omega) (by omega)).mpr (by omega))]
        | succ m ihm =>
          intro k st pk fd wo sf ff hk hF
          have hko : k < o := by omega
          have e10 : (FM I pk fd wo sf) 4 0 10 = nn o := hF.2.2.1.2.1
          have my := mayF (d + 5 + e2) I J T hX (show c < w * h by omega) hko pk fd wo sf (upA J 41 0 ff)
          show ∃ (pk2 fd2 wo2 sf2 : Nat → Int32) (ff2 : Nat → Int64), den (d + 5 + e2 + 1) 139 51 _ _ _ = _ ∧ _
          rw [b139_51, e10, if_neg (by rw [nn_le (by omega) (by omega)]; omega), my, itn_su]
          simp only [ret9]
          rw [b139_65]
          by_cases y : may9 kp k c
          · have hwc : ws c = -1 := hO.2 c (by omega)
            rw [bi1 y, if_neg (by decide), if_pos r9, nn_idx (by omega), fm_pk]
            obtain ⟨wo2, t1, t2⟩ := turnF (d + 4 + e2) I J T ho3 (show c < 64 by omega) hko 1 (wu pk (cn (NWt wt) c) (nn k)) fd sf ff hF.2.2.1.2.1 wo
            have hWon := WOk_on h64 ho3 (show c < w * h by omega) hko hwc hF.1 t2
            obtain ⟨pk3, fd3, wo3, sf3, ff3, d1, d2⟩ := ih (c + 1) e2 (wu ws c (nn k)) st (wu pk (cn (NWt wt) c) (nn k)) fd wo2 sf _ (by omega) (by omega) (OKP_dry hO hw hko y) ⟨hWon, fun i hi hwi => by
              unfold wu
              by_cases z : i = c
              · rw [z, if_pos rfl, if_pos rfl]
              · have hlt := cn_mono2 (NWt wt) (show i + 1 ≤ c by omega)
                rw [cn_succ, if_pos (show NWt wt i = true from decide_eq_true hwi)] at hlt
                rw [if_neg (by omega), if_neg z]
                exact hF.2.1 i (by omega) hwi, hF.2.2.1, hF.2.2.2⟩
            obtain ⟨wo4, u1, u2⟩ := turnF (d + 4 + e2) I J T ho3 (show c < 64 by omega) hko (-1) pk3 fd3 sf3 ff3 d2.2.2.1.2.1 wo3
            have hWoff := WOk_off h64 ho3 (show c < w * h by omega) hko hwc d2.1 u2
            obtain ⟨pk5, fd5, wo5, sf5, ff5, g1, g2⟩ := ihm (k + 1) _ pk3 fd3 wo4 sf3 _ (by omega) ⟨hWoff, fun i hi hwi => by
              rw [d2.2.1 i (by omega) hwi]
              unfold wu
              rw [if_neg (by omega)], d2.2.2.1, d2.2.2.2⟩
            refine ⟨pk5, fd5, wo5, sf5, ff5, ?_, g2⟩
            rw [show d + 5 + e2 = d + 4 + e2 + 1 by omega, t1]
            simp only [ret9]
            rw [b139_82, nn_add1, ← hsu]
            rw [show d + 5 + e2 = d + 4 + e2 + 1 by omega] at d1
            rw [d1]
            simp only [ret9]
            rw [b139_89, u1]
            simp only [ret9]
            rw [b139_96, nn_add1]
            rw [show d + 5 + (e2 + 1) = d + 4 + e2 + 1 + 1 by omega] at g1
            exact g1
          · rw [bi0 y, if_pos rfl, nn_add1, foB_bad K _ _ _ wt o (i := c) (x := nn k) (hbad c k (by omega) hko y) st r (c + 1) _ (.inl (by omega)) (by unfold wu; rw [if_pos rfl])]
            exact ihm (k + 1) st pk fd wo sf ff (by omega) hF
      exact lp o 0 st pk fd wo sf ff (by omega) hF
    · rw [show NWt wt c = false from decide_eq_false hw, if_neg (by decide), Nat.add_zero] at hsu
      obtain ⟨pk2, fd2, wo2, sf2, ff2, e1, q1⟩ := ih (c + 1) e ws st pk fd wo sf ff (by omega) (by omega) (OKP_wet hO hw) ⟨hF.1, fun i hi hwi => by
        by_cases z : i = c
        · rw [z] at hwi; exact absurd hwi hw
        · exact hF.2.1 i (by omega) hwi, hF.2.2⟩
      refine ⟨pk2, fd2, wo2, sf2, ff2, by rw [show cn (NWt wt) c = cn (NWt wt) (c + 1) by omega]; exact e1, ?_⟩
      rw [foB_wet K _ _ _ wt o hw]
      exact ⟨q1.1, fun i hi hwi => q1.2.1 i (by omega) hwi, q1.2.2⟩
end DSC
