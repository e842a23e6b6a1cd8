/-! The best of few cells: the class weighs a drawing -/
noncomputable def BE (pr : Nat → Int32) (n o : Nat) (cv : Int32) (v : Nat → Int32) : Int32 := if cv = 0 then 0 else PRS v pr n o
def FSt (wt : Nat → Int32) (n : Nat) (sf fd : Nat → Int32) (st : BST) : Prop := match st with
  | none => sf 12 = 0
  | some q => sf 12 = 1 ∧ sf 13 = q.1 ∧ sf 14 = q.2.1 ∧ sf 15 = q.2.2.1 ∧ ∀ i, i < n → wt i = 0 → fd (cn (NWt wt) i) = q.2.2.2 i
def HPO (I : PI) (kp wt : Nat → Int32) (n o : Nat) : Prop := ∀ c, c ≤ n → I 23 0 (cn (NWt wt) c) = ii (GG kp wt (I 34 0) n o c) ∧ ∀ k, k < o → I 26 0 (10 * k + cn (NWt wt) c) = ii (HP kp wt (I 34 0) n k c)
theorem mx0_add (x v : Int32) : x + mx0 v = if v ≤ 0 then x + 0 else x + v := by
  unfold mx0
  by_cases z : v ≤ 0
  · rw [if_pos z, if_pos z]
  · rw [if_neg z, if_neg z]
section WGH
variable (d : Nat) (I : PI) (J : PJ) (T : TL) {o : Nat}
theorem GG_b {kp wt pr : Nat → Int32} {n : Nat} (hP : PB pr n o) (hm : ∀ c, c < n → wt c = 0 → ∃ k, k < o ∧ may9 kp k c) {c : Nat} (hc : c ≤ n) : -(20000 * (n : Int)) ≤ GG kp wt pr n o c ∧ GG kp wt pr n o c ≤ 20000 * (n : Int) := by
  have key : ∀ m, m ≤ n → -(10000 * (m : Int)) ≤ sI (grF kp wt pr o) m ∧ sI (grF kp wt pr o) m ≤ 10000 * (m : Int) := fun m hmn => sI_abs m (fun c hc => by
    unfold grF
    by_cases z : wt c = 0
    · rw [if_pos z]
      exact (GRT_b kp pr n o hP (by omega) (hm c (by omega) z)).2
    · rw [if_neg z]; omega)
  have h1 := key n (Nat.le_refl n)
  have h2 := key c hc
  unfold GG
  omega
theorem hopeF (ho3 : o ≤ 3) {kp wt : Nat → Int32} {n : Nat} (hn : n ≤ 64) (hP : PB (I 34 0) n o) (hh : ∀ k, k < o → 0 ≤ I 21 4 k ∧ I 21 4 k ≤ 1000000) (hm : ∀ c, c < n → wt c = 0 → ∃ k, k < o ∧ may9 kp k c) (hH : HPO I kp wt n o) (h9 : cn (NWt wt) n ≤ 9) (ws : Nat → Int32) (pk fd wo sf : Nat → Int32) (ff : Nat → Int64) (h10 : sf 10 = nn o) (hW : WOk (I 34 0) ws wo ff n o) {c : Nat} (hc : c ≤ n) : cal d 140 [vr 4 0, vi (nn (cn (NWt wt) c))] (MX (FM I pk fd wo sf) (upA J 41 0 ff) T) = some (.inl (some (vi (bi (shH kp wt (I 34 0) (I 21 4) n o ws c < (sf 14).toInt ∨ (shH kp wt (I 34 0) (I 21 4) n o ws c = (sf 14).toInt ∧ (sf 15).toInt < toH kp wt (I 34 0) n o ws c))))), MX (FM I pk fd wo sf) (upA J 41 0 ff) T) := by
  have e10 : (FM I pk fd wo sf) 4 0 10 = nn o := h10
  have hmono := cn_mono2 (NWt wt) hc
  obtain ⟨hg, hk26⟩ := hH c hc
  have gb := GG_b hP hm hc
  have lp : ∀ m k (o5 o6 : Option AV), k + m = o → den d 140 12 [some (vr 4 0), some (vi (nn (cn (NWt wt) c))), some (vi (ii (GG kp wt (I 34 0) n o c + sI (fun k => suI (I 34 0) n ws k (nn k)) k))), some (vi (ii (sI (fun k => mxI ((I 21 4 k).toInt - suI (I 34 0) n ws k (nn k) - HP kp wt (I 34 0) n k c)) k))), some (vi (nn k)), o5, o6] [] (MX (FM I pk fd wo sf) (upA J 41 0 ff) T) = some (.inl (some (vi (bi (shH kp wt (I 34 0) (I 21 4) n o ws c < (sf 14).toInt ∨ (shH kp wt (I 34 0) (I 21 4) n o ws c = (sf 14).toInt ∧ (sf 15).toInt < toH kp wt (I 34 0) n o ws c))))), MX (FM I pk fd wo sf) (upA J 41 0 ff) T) := by
    intro m
    induction m with
    | zero =>
      intro k o5 o6 hk
      have hko : k = o := by omega
      subst hko
      have sb := shH_b kp wt (I 34 0) (I 21 4) n k hP hn (by omega) hh ws hc
      have tb := sI_abs (f := fun k => suI (I 34 0) n ws k (nn k)) (m := 640000) k (fun q hq => by have := suI_b (I 34 0) n k hP ws hq (nn q); omega)
      have e14 : (FM I pk fd wo sf) 4 0 14 = sf 14 := rfl
      have e15 : (FM I pk fd wo sf) 4 0 15 = sf 15 := rfl
      rw [b140_12, e10, if_pos (Int32.le_refl _), e14, e15]
      change (if ii (shH kp wt (I 34 0) (I 21 4) n k ws c) < sf 14 then _ else (if ¬ ii (shH kp wt (I 34 0) (I 21 4) n k ws c) = sf 14 then _ else (if ii (toH kp wt (I 34 0) n k ws c) ≤ sf 15 then _ else _))) = _
      have tt : -2147483648 ≤ toH kp wt (I 34 0) n k ws c ∧ toH kp wt (I 34 0) n k ws c < 2147483648 := by unfold toH; omega
      have m1 : (ii (shH kp wt (I 34 0) (I 21 4) n k ws c) < sf 14) ↔ shH kp wt (I 34 0) (I 21 4) n k ws c < (sf 14).toInt := by rw [i32lt, ii_toInt (by omega) (by omega)]
      have m2 : (ii (shH kp wt (I 34 0) (I 21 4) n k ws c) = sf 14) ↔ shH kp wt (I 34 0) (I 21 4) n k ws c = (sf 14).toInt := by
        constructor
        · intro y; rw [← y, ii_toInt (by omega) (by omega)]
        · intro y; rw [y, ii_of]
      have m3 : (ii (toH kp wt (I 34 0) n k ws c) ≤ sf 15) ↔ toH kp wt (I 34 0) n k ws c ≤ (sf 15).toInt := by rw [i32le, ii_toInt tt.1 tt.2]
      by_cases z1 : shH kp wt (I 34 0) (I 21 4) n k ws c < (sf 14).toInt
      · rw [if_pos (m1.mpr z1), bi1 (.inl z1)]
      · rw [if_neg (fun y => z1 (m1.mp y))]
        by_cases z2 : shH kp wt (I 34 0) (I 21 4) n k ws c = (sf 14).toInt
        · rw [if_neg (fun y => y (m2.mpr z2))]
          by_cases z3 : toH kp wt (I 34 0) n k ws c ≤ (sf 15).toInt
          · rw [if_pos (m3.mpr z3), bi0 (fun y => by rcases y with y | y; exact z1 y; omega)]
          · rw [if_neg (fun y => z3 (m3.mp y)), bi1 (.inr ⟨z2, by omega⟩)]
        · rw [if_pos (fun y => z2 (m2.mp y)), bi0 (fun y => by rcases y with y | y; exact z1 y; exact z2 y.1)]
    | succ m ih =>
      intro k o5 o6 hk
      have hko : k < o := by omega
      have hb := suI_b (I 34 0) n o hP ws hko (nn k)
      have hpb := HP_b kp wt (I 34 0) n o hP hko hc
      have h1 : (0 : Int) ≤ (I 21 4 k).toInt := i32le.mp (hh k hko).1
      have h2 : (I 21 4 k).toInt ≤ 1000000 := i32le.mp (hh k hko).2
      have ew : (FM I pk fd wo sf) 22 3 (3 * k + k) = ii (suI (I 34 0) n ws k (nn k)) := by
        show wo (3 * k + k) = _
        rw [hW.1 k k hko hko, SU_ii]
      have e26 : (FM I pk fd wo sf) 26 0 (10 * k + cn (NWt wt) c) = ii (HP kp wt (I 34 0) n k c) := hk26 k hko
      have e21 : (FM I pk fd wo sf) 21 4 k = ii (I 21 4 k).toInt := (ii_of _).symm
      rw [b140_12, e10, if_neg (by rw [nn_le (by omega) (by omega)]; omega), i3, i10, if_pos (nn_inR (by omega) (by omega)), if_pos (nn_inR (by omega) (by omega)), if_pos (nn_inR (by omega) (by omega)), nn_idx (by omega), nn_idx (by omega), nn_idx (by omega), ew, e26, e21, ii_sub, ii_sub, nn_add1, ii_add]
      have s1 : GG kp wt (I 34 0) n o c + sI (fun k => suI (I 34 0) n ws k (nn k)) k + suI (I 34 0) n ws k (nn k) = GG kp wt (I 34 0) n o c + sI (fun k => suI (I 34 0) n ws k (nn k)) (k + 1) := by
        show _ = _ + (sI _ k + suI (I 34 0) n ws k (nn k))
        omega
      rw [s1]
      have s2 : sI (fun k => mxI ((I 21 4 k).toInt - suI (I 34 0) n ws k (nn k) - HP kp wt (I 34 0) n k c)) (k + 1) = sI (fun k => mxI ((I 21 4 k).toInt - suI (I 34 0) n ws k (nn k) - HP kp wt (I 34 0) n k c)) k + mxI ((I 21 4 k).toInt - suI (I 34 0) n ws k (nn k) - HP kp wt (I 34 0) n k c) := rfl
      have mm : (ii ((I 21 4 k).toInt - suI (I 34 0) n ws k (nn k) - HP kp wt (I 34 0) n k c) ≤ 0) ↔ (I 21 4 k).toInt - suI (I 34 0) n ws k (nn k) - HP kp wt (I 34 0) n k c ≤ 0 := ii_le (b := 0) (by omega) (by omega) (by omega) (by omega)
      have ih1 := ih (k + 1)
      rw [s2] at ih1
      by_cases z : (I 21 4 k).toInt - suI (I 34 0) n ws k (nn k) - HP kp wt (I 34 0) n k c ≤ 0
      · rw [if_pos (mm.mpr z), show (0 : Int32) = ii 0 from rfl, ii_add]
        rw [show mxI ((I 21 4 k).toInt - suI (I 34 0) n ws k (nn k) - HP kp wt (I 34 0) n k c) = 0 by unfold mxI; rw [if_pos z]] at ih1
        exact ih1 _ _ (by omega)
      · rw [if_neg (fun y => z (mm.mp y)), ii_add]
        rw [show mxI ((I 21 4 k).toInt - suI (I 34 0) n ws k (nn k) - HP kp wt (I 34 0) n k c) = (I 21 4 k).toInt - suI (I 34 0) n ws k (nn k) - HP kp wt (I 34 0) n k c by unfold mxI; rw [if_neg z]] at ih1
        exact ih1 _ _ (by omega)
  have e23 : (FM I pk fd wo sf) 23 0 (cn (NWt wt) c) = ii (GG kp wt (I 34 0) n o c + 0) := by rw [Int.add_zero]; exact hg
  rw [c140, if_pos (nn_inR (by omega) (by omega)), nn_idx (by omega), e23]
  exact lp o 0 none none (by omega)
variable {w h : Nat}
theorem weighF (ho3 : o ≤ 3) {wt : Nat → Int32} (hW : RelW I w h) (hp : 0 < w * h) (hM : RelM J w h) (h9 : cn (NWt wt) (w * h) ≤ 9) (ws : Nat → Int32) (pk fd wo sf : Nat → Int32) (ff : Nat → Int64) (h10 : sf 10 = nn o) {cv : Int32} (h11 : sf 11 = cv) (hO : WOk (I 34 0) ws wo ff (w * h) o) (st : BST) (hS : FSt wt (w * h) sf fd st) (hpk : ∀ i, i < w * h → wt i = 0 → pk (cn (NWt wt) i) = ws i) {K : (Nat → Int32) → Prop} (hK : K ws ↔ ∀ k, k < o → LFP w h (I 5 0 10) (FL ws k)) : ∃ fd2 sf2 : Nat → Int32, cal (d + 4) 141 [vr 4 0] (MX (FM I pk fd wo sf) (upA J 41 0 ff) T) = some (.inl none, MX (FM I pk fd2 wo sf2) (upA J 41 0 ff) T) ∧ FSt wt (w * h) sf2 fd2 (upB K (BE (I 34 0) (w * h) o cv) (fun v => SHO v (I 34 0) (I 21 4) (w * h) o) (fun v => TS v (I 34 0) (w * h) o) ws st) ∧ (∀ i, i < 12 → sf2 i = sf i) := by
  have e10 : (FM I pk fd wo sf) 4 0 10 = nn o := h10
  have h64 := relW_le hW
  have ev := envyF (d + 3) I J T ho3 h64 ws pk fd wo sf ff h10 hO
  have lw := lawF d I J T ho3 hW hp hM ws pk fd wo sf ff h10 hO
  -- up to the comparison
  have lp : ∀ m k (x1 x2 x3 : Int32) (o5 o6 : Option AV), k + m = o → ∃ p5 p6 : Option AV, den (d + 4) 141 23 [some (vr 4 0), some (vi x1), some (vi x2), some (vi x3), some (vi (nn k)), o5, o6] [] (MX (FM I pk fd wo sf) (upA J 41 0 ff) T) = den (d + 4) 141 23 [some (vr 4 0), some (vi x1), some (vi (sm (fun k => mx0 (I 21 4 k - SU ws (I 34 0) (w * h) k (nn k))) m k x2)), some (vi (sm (fun k => SU ws (I 34 0) (w * h) k (nn k)) m k x3)), some (vi (nn o)), p5, p6] [] (MX (FM I pk fd wo sf) (upA J 41 0 ff) T) := by
    intro m
    induction m with
    | zero =>
      intro k x1 x2 x3 o5 o6 hk
      refine ⟨o5, o6, ?_⟩
      rw [show k = o by omega]
      rfl
    | succ m ih =>
      intro k x1 x2 x3 o5 o6 hk
      have ew : (FM I pk fd wo sf) 22 3 (3 * k + k) = SU ws (I 34 0) (w * h) k (nn k) := hO.1 k k (by omega) (by omega)
      have e21 : (FM I pk fd wo sf) 21 4 k = I 21 4 k := rfl
      obtain ⟨p5, p6, e⟩ := ih (k + 1) x1 (x2 + mx0 (I 21 4 k - SU ws (I 34 0) (w * h) k (nn k))) (x3 + SU ws (I 34 0) (w * h) k (nn k)) (some (vi (SU ws (I 34 0) (w * h) k (nn k)))) (some (vi (I 21 4 k - SU ws (I 34 0) (w * h) k (nn k)))) (by omega)
      refine ⟨p5, p6, ?_⟩
      refine Eq.trans ?_ e
      rw [b141_23, e10, if_neg (by rw [nn_le (by omega) (by omega)]; omega), i3, if_pos (nn_inR (by omega) (by omega)), if_pos (nn_inR (by omega) (by omega)), nn_idx (by omega), nn_idx (by omega), ew, e21, nn_add1, mx0_add]
      by_cases z : I 21 4 k - SU ws (I 34 0) (w * h) k (nn k) ≤ 0
      · rw [if_pos z, if_pos z]
      · rw [if_neg z, if_neg z]
  have e0 : ∃ p5 p6 : Option AV, cal (d + 4) 141 [vr 4 0] (MX (FM I pk fd wo sf) (upA J 41 0 ff) T) = den (d + 4) 141 23 [some (vr 4 0), some (vi (BE (I 34 0) (w * h) o cv ws)), some (vi (SHO ws (I 34 0) (I 21 4) (w * h) o)), some (vi (TS ws (I 34 0) (w * h) o)), some (vi (nn o)), p5, p6] [] (MX (FM I pk fd wo sf) (upA J 41 0 ff) T) := by
    have e11 : (FM I pk fd wo sf) 4 0 11 = cv := h11
    obtain ⟨p5, p6, e⟩ := lp o 0 (BE (I 34 0) (w * h) o cv ws) 0 0 none none (by omega)
    refine ⟨p5, p6, ?_⟩
    refine Eq.trans ?_ e
    rw [c141, e11]
    unfold BE
    by_cases z : cv = 0
    · rw [if_pos z, if_pos z]
      rfl
    · rw [if_neg z, if_neg z, ev]
      simp only [ret9]
      rw [b141_11]
      rfl
  obtain ⟨p5, p6, e0⟩ := e0
  generalize hE : BE (I 34 0) (w * h) o cv ws = E at e0
  generalize hSS : SHO ws (I 34 0) (I 21 4) (w * h) o = S at e0
  generalize hTT : TS ws (I 34 0) (w * h) o = TT at e0
  have e12 : (FM I pk fd wo sf) 4 0 12 = sf 12 := rfl
  have go : BTT st E S TT → ∃ fd2 sf2 : Nat → Int32, ret9 (den (d + 4) 141) 141 104 107 [some (vr 4 0), some (vi E), some (vi S), some (vi TT), some (vi (nn o)), p5, p6] [] (cal (d + 3) 144 [vr 4 0] (MX (FM I pk fd wo sf) (upA J 41 0 ff) T)) = some (.inl none, MX (FM I pk fd2 wo sf2) (upA J 41 0 ff) T) ∧ FSt wt (w * h) sf2 fd2 (upB K (BE (I 34 0) (w * h) o cv) (fun v => SHO v (I 34 0) (I 21 4) (w * h) o) (fun v => TS v (I 34 0) (w * h) o) ws st) ∧ (∀ i, i < 12 → sf2 i = sf i) := by
    intro hb
    rw [lw]
    simp only [ret9]
    rw [b141_107]
    by_cases z : ∀ k, k < o → LFP w h (I 5 0 10) (FL ws k)
    · rw [bi1 z, if_pos (by decide), upB1 K _ _ _ ⟨by rw [hE, hSS, hTT]; exact hb, hK.mpr z⟩]
      rw [hE, hSS, hTT, fm_sf, fm_sf, fm_sf, fm_sf, fm_fd]
      refine ⟨_, _, rfl, ⟨rfl, rfl, rfl, rfl, ?_⟩, ?_⟩
      · intro i hi hw
        have hmo := cn_mono2 (NWt wt) (show i + 1 ≤ w * h by omega)
        rw [cn_succ, if_pos (show NWt wt i = true from decide_eq_true hw)] at hmo
        show _ = ws i
        rw [← hpk i hi hw]
        unfold va_cpy
        rw [if_pos ⟨by omega, by omega⟩]
        show pk (0 + (cn (NWt wt) i - 0)) = _
        rw [Nat.zero_add, Nat.sub_zero]
      · intro i hi
        unfold wu
        rw [if_neg (by omega), if_neg (by omega), if_neg (by omega), if_neg (by omega)]
    · rw [bi0 z, if_neg (fun y => y rfl), upB0 K _ _ _ (fun y => z (hK.mp y.2))]
      exact ⟨fd, sf, rfl, hS, fun _ _ => rfl⟩
  rw [e0, b141_23, e10, if_pos (Int32.le_refl _), e12]
  cases st with
  | none =>
    have h12 : sf 12 = 0 := hS
    rw [if_pos h12]
    exact go trivial
  | some q =>
    obtain ⟨s12, s13, s14, s15, sfd⟩ := id hS
    rw [if_neg (by rw [s12]; decide), c143]
    have e13 : (FM I pk fd wo sf) 4 0 13 = q.1 := s13
    have e14 : (FM I pk fd wo sf) 4 0 14 = q.2.1 := s14
    have e15 : (FM I pk fd wo sf) 4 0 15 = q.2.2.1 := s15
    have no : ¬ BTT (some q) E S TT → ∃ fd2 sf2 : Nat → Int32, (some (Sum.inl none, MX (FM I pk fd wo sf) (upA J 41 0 ff) T) : Option Res9) = some (.inl none, MX (FM I pk fd2 wo sf2) (upA J 41 0 ff) T) ∧ FSt wt (w * h) sf2 fd2 (upB K (BE (I 34 0) (w * h) o cv) (fun v => SHO v (I 34 0) (I 21 4) (w * h) o) (fun v => TS v (I 34 0) (w * h) o) ws (some q)) ∧ (∀ i, i < 12 → sf2 i = sf i) := by
      intro hb
      rw [upB0 K _ _ _ (fun y => hb (by have := y.1; rw [hE, hSS, hTT] at this; exact this))]
      exact ⟨fd, sf, rfl, hS, fun _ _ => rfl⟩
    rw [e13, e14, e15]
    by_cases z1 : E = q.1
    · rw [if_pos z1]
      by_cases z2 : S < q.2.1
      · rw [if_pos z2]
        simp only [ret9]
        rw [b141_100, if_neg (by decide)]
        exact go (.inr ⟨z1, .inl z2⟩)
      · rw [if_neg z2]
        by_cases z3 : S = q.2.1
        · rw [if_neg (fun y => y z3)]
          by_cases z4 : TT ≤ q.2.2.1
          · rw [if_pos z4]
            simp only [ret9]
            rw [b141_100, if_pos rfl]
            refine no (fun y => ?_)
            rcases y with y | ⟨-, y | y⟩
            · rw [z1] at y; exact Int32.lt_irrefl y
            · exact z2 y
            · exact i32_nlt.mpr z4 y.2
          · rw [if_neg z4]
            simp only [ret9]
            rw [b141_100, if_neg (by decide)]
            exact go (.inr ⟨z1, .inr ⟨z3, i32_nle.mp z4⟩⟩)
        · rw [if_pos z3]
          simp only [ret9]
          rw [b141_100, if_pos rfl]
          refine no (fun y => ?_)
          rcases y with y | ⟨-, y | y⟩
          · rw [z1] at y; exact Int32.lt_irrefl y
          · exact z2 y
          · exact z3 y.1
    · rw [if_neg z1]
      by_cases z2 : q.1 ≤ E
      · rw [if_pos z2]
        simp only [ret9]
        rw [b141_100, if_pos rfl]
        refine no (fun y => ?_)
        rcases y with y | ⟨y, -⟩
        · exact i32_nlt.mpr z2 y
        · exact z1 y
      · rw [if_neg z2]
        simp only [ret9]
        rw [b141_100, if_neg (by decide)]
        exact go (.inl (i32_nle.mp z2))
end WGH
