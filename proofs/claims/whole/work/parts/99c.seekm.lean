/-! Seeking a move: the reference -/
def MMM (I : PI) (ws gf Q S : Nat → Int32) : PI := upA (upA (HM I Q S) 28 7 ws) 14 0 gf
theorem mm_g (I : PI) (ws gf Q S : Nat → Int32) (i : Nat) (v : Int32) : up3 (MMM I ws gf Q S) 14 0 i v = MMM I ws (wu gf i v) Q S := upA_up3 _ _ _ _ _ _
theorem mm_ws (I : PI) (ws gf Q S : Nat → Int32) (i : Nat) (v : Int32) : up3 (MMM I ws gf Q S) 28 7 i v = MMM I (wu ws i v) gf Q S := by
  unfold MMM
  funext a b c
  unfold up3 upA wu
  by_cases h1 : a = 14
  · subst h1; simp
  · simp [h1]
    by_cases h2 : a = 28
    · subst h2; simp
      by_cases h3 : b = 7
      · simp [h3]
      · simp [h3]
    · simp [h2]
theorem mm_hm (I : PI) (ws gf Q S Q2 S2 : Nat → Int32) : HM (MMM I ws gf Q S) Q2 S2 = MMM I ws gf Q2 S2 := by
  unfold MMM HM
  funext a b c
  unfold upA
  by_cases h1 : a = 14
  · subst h1; simp
  · simp [h1]
    by_cases h2 : a = 28
    · subst h2; simp
      by_cases h3 : b = 7
      · simp [h3]
      · by_cases h4 : b = 8
        · simp [h4]
        · simp [h3, h4]
    · simp [h2]
      by_cases h5 : a = 39
      · subst h5; simp
        by_cases h6 : b = 1
        · simp [h6]
        · simp [h6]
      · simp [h5]
theorem mm_id (I : PI) : MMM I (I 28 7) (I 14 0) (I 28 8) (I 39 1) = I := by
  unfold MMM
  rw [hm_id, upA_id, upA_id]
def GFok (I : PI) (gf : Nat → Int32) : Prop := ∀ i, (i < 42 ∨ 47 < i) → gf i = I 14 0 i
theorem gf_up {I : PI} {gf : Nat → Int32} (h : GFok I gf) {j : Nat} (v : Int32) (h1 : 42 ≤ j) (h2 : j ≤ 47) : GFok I (wu gf j v) := by
  intro i hi
  unfold wu
  rw [if_neg (by omega)]
  exact h i hi
def SMq (gf : Nat → Int32) (k : Nat) : Option Nat → Prop
  | none => gf 46 = -1 ∧ gf 47 = nn k
  | some e => gf 46 = nn e
def SM (gf : Nat → Int32) (st : MVT) : Prop := gf 43 = st.1 ∧ gf 44 = st.2.1 ∧ match st.2.2 with
  | none => gf 45 = -1
  | some (c, k, q) => gf 45 = nn c ∧ SMq gf k q
abbrev KM (I : PI) (w h o : Nat) : (Nat → Int32) → Prop := fun v => LAW v (I 28 6) (I 39 0) w h o (I 14 0 25)
abbrev SHM (I : PI) (n o : Nat) : (Nat → Int32) → Int32 := fun v => SHO v (I 34 1) (I 21 11) n o
abbrev TTM (I : PI) (n o : Nat) : (Nat → Int32) → Int32 := fun v => TS v (I 34 1) n o
theorem SM_42 {gf : Nat → Int32} {st : MVT} (h : SM gf st) (v : Int32) : SM (wu gf 42 v) st := h
section SEEKM
variable (d : Nat) {w h o b : Nat} (I : PI) (J : PJ) (T : TL)
def RX (I : PI) (w h o b : Nat) : Prop := GW I w h ∧ I 14 0 24 = nn (w * h) ∧ I 12 b 0 = nn o ∧ o ≤ 6
theorem looksM (hX : RX I w h o b) (v gf Q S : Nat → Int32) (st : MVT) (c k : Nat) (q : Option Nat) (x3 : Int32) (hq : q = none → x3 = nn k) (hS : SM gf st) (hG : GFok I gf) : ∃ gf2 Q2 S2 : Nat → Int32, cal (d + 4) 261 [vr 14 0, vi (nn c), vi (oi q), vi x3] (MX (MMM I v gf Q S) J (TB T b)) = some (.inl none, MX (MMM I v gf2 Q2 S2) J (TB T b)) ∧ SM gf2 (lk (KM I w h o v) (SHM I (w * h) o v) (TTM I (w * h) o v) (c, k, q) st) ∧ GFok I gf2 := by
  obtain ⟨hg, hn, hob, ho6⟩ := hX
  have h64 : w * h ≤ 64 := Nat.mul_le_mul hg.2.2.2.1 hg.2.2.2.2.2
  have g22 : gf 22 = I 14 0 22 := hG 22 (by omega)
  have g23 : gf 23 = I 14 0 23 := hG 23 (by omega)
  have g24 : gf 24 = nn (w * h) := (hG 24 (by omega)).trans hn
  have g25 : gf 25 = I 14 0 25 := hG 25 (by omega)
  have hg2 : GW (MMM I v gf Q S) w h := ⟨g22.trans hg.1, g23.trans hg.2.1, hg.2.2⟩
  have sM := shoM (d + 2) (n := w * h) (o := o) (b := b) (MMM I v gf Q S) J T g24 h64 hob ho6
  have tM := totM (d + 2) (n := w * h) (o := o) (b := b) (MMM I v gf Q S) J T g24 h64 hob ho6
  change cal (d + 3) 244 [vr 14 0] (MX (MMM I v gf Q S) J (TB T b)) = some (.inl (some (vi (SHM I (w * h) o v))), MX (MMM I v gf Q S) J (TB T b)) at sM
  change cal (d + 3) 243 [vr 14 0] (MX (MMM I v gf Q S) J (TB T b)) = some (.inl (some (vi (TTM I (w * h) o v))), MX (MMM I v gf Q S) J (TB T b)) at tM
  generalize hS2 : SHM I (w * h) o v = S2 at sM
  generalize hT2 : TTM I (w * h) o v = T2 at tM
  have e0 : cal (d + 4) 261 [vr 14 0, vi (nn c), vi (oi q), vi x3] (MX (MMM I v gf Q S) J (TB T b)) = (if S2 < gf 43 then ret9 (den (d + 4) 261) 261 52 55 [some (vr 14 0), some (vi (nn c)), some (vi (oi q)), some (vi x3), some (vi S2), some (vi T2), some (vi 1)] [] (cal (d + 3) 251 [vr 14 0] (MX (MMM I v gf Q S) J (TB T b))) else (if ¬ S2 = gf 43 then some (.inl none, MX (MMM I v gf Q S) J (TB T b)) else (if T2 ≤ gf 44 then some (.inl none, MX (MMM I v gf Q S) J (TB T b)) else ret9 (den (d + 4) 261) 261 52 55 [some (vr 14 0), some (vi (nn c)), some (vi (oi q)), some (vi x3), some (vi S2), some (vi T2), some (vi 1)] [] (cal (d + 3) 251 [vr 14 0] (MX (MMM I v gf Q S) J (TB T b)))))) := by
    rw [c261, sM]
    simp only [ret9]
    rw [b261_4, tM]
    simp only [ret9]
    rw [b261_10]
    rfl
  have yes : BTR st.1 st.2.1 S2 T2 → ∃ gf2 Q2 S3 : Nat → Int32, ret9 (den (d + 4) 261) 261 52 55 [some (vr 14 0), some (vi (nn c)), some (vi (oi q)), some (vi x3), some (vi S2), some (vi T2), some (vi 1)] [] (cal (d + 3) 251 [vr 14 0] (MX (MMM I v gf Q S) J (TB T b))) = some (.inl none, MX (MMM I v gf2 Q2 S3) J (TB T b)) ∧ SM gf2 (lk (KM I w h o v) S2 T2 (c, k, q) st) ∧ GFok I gf2 := by
    intro hb
    obtain ⟨r, a, -, hBS⟩ := BS_ex v (I 28 6) (I 39 0) w h o (I 14 0 25)
    obtain ⟨Q2, S3, x, em, -⟩ := barM d (w := w) (h := h) (o := o) (b := b) (v := r) (a := a) (MMM I v gf Q S) J T hg2 g24 hob ho6 (show BS v (I 28 6) (I 39 0) w h o (gf 25) r a by rw [g25]; exact hBS)
    have hlaw := BS_law hBS
    rw [mm_hm, mm_g] at em
    by_cases z : r = 0
    · refine ⟨wu (wu (wu (wu (wu (wu gf 42 x) 43 S2) 44 T2) 45 (nn c)) 46 (oi q)) 47 x3, Q2, S3, ?_, ?_, ?_⟩
      · rw [em]
        simp only [ret9]
        rw [b261_55, if_pos (by rw [z]; rfl), mm_g, mm_g, mm_g, mm_g, mm_g]
      · rw [lk1 hb (hlaw.mp z)]
        refine ⟨rfl, rfl, rfl, ?_⟩
        cases q with
        | none => exact ⟨rfl, hq rfl⟩
        | some e => exact rfl
      · exact gf_up (gf_up (gf_up (gf_up (gf_up (gf_up hG _ (by omega) (by omega)) _ (by omega) (by omega)) _ (by omega) (by omega)) _ (by omega) (by omega)) _ (by omega) (by omega)) _ (by omega) (by omega)
    · have hr5 : r ≤ 4 := by
        rcases hBS with y | y | y | y | y <;> omega
      refine ⟨wu gf 42 x, Q2, S3, ?_, ?_, gf_up hG _ (by omega) (by omega)⟩
      · rw [em]
        simp only [ret9]
        rw [b261_55, if_neg (by rw [eq0n (by omega)]; exact z)]
      · rw [lk0 (fun y => z (hlaw.mpr y.2))]
        exact SM_42 hS x
  have no : ¬ BTR st.1 st.2.1 S2 T2 → SM gf (lk (KM I w h o v) S2 T2 (c, k, q) st) := fun hb => by
    rw [lk0 (fun y => hb y.1)]; exact hS
  rw [e0]
  obtain ⟨t1, t2, -⟩ := id hS
  rw [t1, t2]
  by_cases z1 : S2 < st.1
  · rw [if_pos z1]
    exact yes (.inl z1)
  · rw [if_neg z1]
    by_cases z2 : S2 = st.1
    · rw [if_neg (fun y => y z2)]
      by_cases z3 : T2 ≤ st.2.1
      · rw [if_pos z3]
        refine ⟨gf, Q, S, rfl, no ?_, hG⟩
        intro y
        rcases y with y | y
        · exact z1 y
        · exact i32_nlt.mpr z3 y.2
      · rw [if_neg z3]
        exact yes (.inr ⟨z2, Classical.byContradiction (fun q => z3 (i32_nlt.mp q))⟩)
    · rw [if_pos z2]
      refine ⟨gf, Q, S, rfl, no ?_, hG⟩
      intro y
      rcases y with y | y
      · exact z1 y
      · exact z2 y.1
theorem wu_wu (ws : Nat → Int32) (c : Nat) (x y : Int32) : wu (wu ws c x) c y = wu ws c y := by
  funext i
  unfold wu
  by_cases h : i = c <;> simp [h]
theorem wu_self (ws : Nat → Int32) (c : Nat) : wu ws c (ws c) = ws := by
  funext i
  unfold wu
  by_cases h : i = c
  · rw [if_pos h, h]
  · rw [if_neg h]
theorem ex_ex {ws : Nat → Int32} {c e : Nat} (hce : ¬ e = c) : ex (ex ws c e) c e = ws := by
  funext i
  have e1 : ex ws c e c = ws e := by rw [ex_at, if_neg (fun z => hce z.symm), if_pos rfl]
  have e2 : ex ws c e e = ws c := by rw [ex_at, if_pos rfl]
  rw [ex_at (ws := ex ws c e), e1, e2]
  by_cases h1 : i = e
  · rw [if_pos h1, h1]
  · rw [if_neg h1]
    by_cases h2 : i = c
    · rw [if_pos h2, h2]
    · rw [if_neg h2, ex_at, if_neg h1, if_neg h2]
theorem inA (hX : RX I w h o b) (ws : Nat → Int32) {c : Nat} (hc : c < w * h) (hwt : I 39 0 c = 0) : ∀ m k (x : Int32) (gf Q S : Nat → Int32) (st : MVT), k + m = o → SM gf st → GFok I gf → ∃ gf2 Q2 S2 : Nat → Int32, den (d + 5) 260 52 [some (vr 14 0), some (vi (nn c)), some (vi (ws c)), some (vi (nn k))] [] (MX (MMM I (wu ws c x) gf Q S) J (TB T b)) = den (d + 5) 260 23 [some (vr 14 0), some (vi (nn (c + 1))), some (vi (ws c)), some (vi (nn o))] [] (MX (MMM I ws gf2 Q2 S2) J (TB T b)) ∧ SM gf2 (itn (s1 ws (I 39 0) (KM I w h o) (SHM I (w * h) o) (TTM I (w * h) o) c) m k st) ∧ GFok I gf2 := by
  obtain ⟨hg, hn, hob, ho6⟩ := id hX
  have h64 : w * h ≤ 64 := Nat.mul_le_mul hg.2.2.2.1 hg.2.2.2.2.2
  have hr : inR (nn c) 64 = true := nn_inR (by omega) (by omega)
  intro m
  induction m with
  | zero =>
    intro k x gf Q S st hk hS hG
    refine ⟨gf, Q, S, ?_, hS, hG⟩
    rw [b260_52]
    show (if I 12 b 0 ≤ _ then _ else _) = _
    rw [hob, if_pos ((nn_le (by omega) (by omega)).mpr (by omega)), if_pos hr, nn_idx (by omega), mm_ws, wu_wu, wu_self, nn_add1, show k = o by omega]
  | succ m ih =>
    intro k x gf Q S st hk hS hG
    by_cases z : nn k = ws c
    · obtain ⟨gf2, Q2, S2, e2, q2, r2⟩ := ih (k + 1) x gf Q S st (by omega) hS hG
      refine ⟨gf2, Q2, S2, ?_, ?_, r2⟩
      · rw [b260_52]
        show (if I 12 b 0 ≤ _ then _ else _) = _
        rw [hob, if_neg (by rw [nn_le (by omega) (by omega)]; omega), if_neg (fun y => y z), nn_add1]
        exact e2
      · rw [itn_su, show s1 ws (I 39 0) (KM I w h o) (SHM I (w * h) o) (TTM I (w * h) o) c k st = st by unfold s1; rw [if_neg (fun y => y.2 z.symm)]]
        exact q2
    · obtain ⟨gf3, Q3, S3, e3, q3, r3⟩ := looksM d I J T hX (wu ws c (nn k)) gf Q S st c k none (nn k) (fun _ => rfl) hS hG
      obtain ⟨gf2, Q2, S2, e2, q2, r2⟩ := ih (k + 1) (nn k) gf3 Q3 S3 _ (by omega) q3 r3
      refine ⟨gf2, Q2, S2, ?_, ?_, r2⟩
      · rw [b260_52]
        show (if I 12 b 0 ≤ _ then _ else _) = _
        rw [hob, if_neg (by rw [nn_le (by omega) (by omega)]; omega), if_pos z, if_pos hr, nn_idx (by omega), mm_ws, wu_wu]
        change ret9 _ _ _ _ _ _ (cal (d + 4) 261 [vr 14 0, vi (nn c), vi (oi none), vi (nn k)] _) = _
        rw [e3]
        simp only [ret9]
        rw [b260_85, nn_add1]
        exact e2
      · rw [itn_su, show s1 ws (I 39 0) (KM I w h o) (SHM I (w * h) o) (TTM I (w * h) o) c k st = lk (KM I w h o (wu ws c (nn k))) (SHM I (w * h) o (wu ws c (nn k))) (TTM I (w * h) o (wu ws c (nn k))) (c, k, none) st by unfold s1; rw [if_pos ⟨hwt, fun y => z y.symm⟩]]
        exact q2
theorem outA (hX : RX I w h o b) (ws : Nat → Int32) : ∀ m c (gf Q S : Nat → Int32) (st : MVT) (o2 o3 : Option AV), c + m = w * h → SM gf st → GFok I gf → ∃ (gf2 Q2 S2 : Nat → Int32) (p2 p3 : Option AV), den (d + 5) 260 23 [some (vr 14 0), some (vi (nn c)), o2, o3] [] (MX (MMM I ws gf Q S) J (TB T b)) = den (d + 5) 260 106 [some (vr 14 0), some (vi (nn 0)), p2, p3] [] (MX (MMM I ws gf2 Q2 S2) J (TB T b)) ∧ SM gf2 (itn (fun c st => itn (s1 ws (I 39 0) (KM I w h o) (SHM I (w * h) o) (TTM I (w * h) o) c) o 0 st) m c st) ∧ GFok I gf2 := by
  obtain ⟨hg, hn, hob, ho6⟩ := id hX
  have h64 : w * h ≤ 64 := Nat.mul_le_mul hg.2.2.2.1 hg.2.2.2.2.2
  intro m
  induction m with
  | zero =>
    intro c gf Q S st o2 o3 hc hS hG
    refine ⟨gf, Q, S, o2, o3, ?_, hS, hG⟩
    rw [b260_23]
    show (if gf 24 ≤ _ then _ else _) = _
    rw [hG 24 (by omega), hn, if_pos ((nn_le (by omega) (by omega)).mpr (by omega))]
    rfl
  | succ m ih =>
    intro c gf Q S st o2 o3 hc hS hG
    have hr : inR (nn c) 64 = true := nn_inR (by omega) (by omega)
    by_cases z : I 39 0 c = 0
    · obtain ⟨gf3, Q3, S3, e3, q3, r3⟩ := inA d I J T hX ws (show c < w * h by omega) z o 0 (ws c) gf Q S st (by omega) hS hG
      obtain ⟨gf2, Q2, S2, p2, p3, e2, q2, r2⟩ := ih (c + 1) gf3 Q3 S3 _ (some (vi (ws c))) (some (vi (nn o))) (by omega) q3 r3
      refine ⟨gf2, Q2, S2, p2, p3, ?_, q2, r2⟩
      rw [b260_23]
      show (if gf 24 ≤ _ then _ else (if inR (nn c) 64 = true then (if I 39 0 (nn c).toNatClampNeg = 0 then (if inR (nn c) 64 = true then den (d + 5) 260 52 [some (vr 14 0), some (vi (nn c)), some (vi (ws (nn c).toNatClampNeg)), some (vi (nn 0))] [] _ else none) else _) else none)) = _
      rw [hG 24 (by omega), hn, if_neg (by rw [nn_le (by omega) (by omega)]; omega), if_pos hr, nn_idx (by omega), if_pos z, if_pos hr]
      rw [wu_self] at e3
      exact e3.trans e2
    · obtain ⟨gf2, Q2, S2, p2, p3, e2, q2, r2⟩ := ih (c + 1) gf Q S st o2 o3 (by omega) hS hG
      refine ⟨gf2, Q2, S2, p2, p3, ?_, ?_, r2⟩
      · rw [b260_23]
        show (if gf 24 ≤ _ then _ else (if inR (nn c) 64 = true then (if I 39 0 (nn c).toNatClampNeg = 0 then _ else _) else none)) = _
        rw [hG 24 (by omega), hn, if_neg (by rw [nn_le (by omega) (by omega)]; omega), if_pos hr, nn_idx (by omega), if_neg z, nn_add1]
        exact e2
      · rw [itn_su, itn_id (b := st) o 0 (fun k _ _ => by unfold s1; rw [if_neg (fun y => z y.1)])]
        exact q2
theorem inB (hX : RX I w h o b) (ws : Nat → Int32) {c : Nat} (hc : c < w * h) : ∀ m e (gf Q S : Nat → Int32) (st : MVT) (o3 : Option AV), e + m = w * h → c < e → SM gf st → GFok I gf → ∃ gf2 Q2 S2 : Nat → Int32, den (d + 5) 260 118 [some (vr 14 0), some (vi (nn c)), some (vi (nn e)), o3] [] (MX (MMM I ws gf Q S) J (TB T b)) = den (d + 5) 260 106 [some (vr 14 0), some (vi (nn (c + 1))), some (vi (nn (w * h))), o3] [] (MX (MMM I ws gf2 Q2 S2) J (TB T b)) ∧ SM gf2 (itn (s2 ws (I 39 0) (KM I w h o) (SHM I (w * h) o) (TTM I (w * h) o) c) m e st) ∧ GFok I gf2 := by
  obtain ⟨hg, hn, hob, ho6⟩ := id hX
  have h64 : w * h ≤ 64 := Nat.mul_le_mul hg.2.2.2.1 hg.2.2.2.2.2
  have hr : inR (nn c) 64 = true := nn_inR (by omega) (by omega)
  intro m
  induction m with
  | zero =>
    intro e gf Q S st o3 he hce hS hG
    refine ⟨gf, Q, S, ?_, hS, hG⟩
    rw [b260_118]
    show (if gf 24 ≤ _ then _ else _) = _
    rw [hG 24 (by omega), hn, if_pos ((nn_le (by omega) (by omega)).mpr (by omega)), nn_add1, show e = w * h by omega]
  | succ m ih =>
    intro e gf Q S st o3 he hce hS hG
    have hr2 : inR (nn e) 64 = true := nn_inR (by omega) (by omega)
    have head : ∀ X, (if ¬ I 39 0 c = 0 then den (d + 5) 260 118 [some (vr 14 0), some (vi (nn c)), some (vi (nn (e + 1))), o3] [] (MX (MMM I ws gf Q S) J (TB T b)) else (if ¬ I 39 0 e = 0 then den (d + 5) 260 118 [some (vr 14 0), some (vi (nn c)), some (vi (nn (e + 1))), o3] [] (MX (MMM I ws gf Q S) J (TB T b)) else (if ¬ ws c = ws e then ret9 (den (d + 5) 260) 260 165 168 [some (vr 14 0), some (vi (nn c)), some (vi (nn e)), o3] [] (cal (d + 4) 262 [vr 14 0, vi (nn c), vi (nn e)] (MX (MMM I ws gf Q S) J (TB T b))) else den (d + 5) 260 118 [some (vr 14 0), some (vi (nn c)), some (vi (nn (e + 1))), o3] [] (MX (MMM I ws gf Q S) J (TB T b))))) = X → den (d + 5) 260 118 [some (vr 14 0), some (vi (nn c)), some (vi (nn e)), o3] [] (MX (MMM I ws gf Q S) J (TB T b)) = X := by
      intro X hx
      rw [b260_118]
      show (if gf 24 ≤ _ then _ else (if inR (nn c) 64 = true then (if ¬ I 39 0 (nn c).toNatClampNeg = 0 then den (d + 5) 260 118 [some (vr 14 0), some (vi (nn c)), some (vi (nn e + 1)), o3] [] (MX (MMM I ws gf Q S) J (TB T b)) else (if inR (nn e) 64 = true then (if ¬ I 39 0 (nn e).toNatClampNeg = 0 then den (d + 5) 260 118 [some (vr 14 0), some (vi (nn c)), some (vi (nn e + 1)), o3] [] (MX (MMM I ws gf Q S) J (TB T b)) else (if inR (nn c) 64 = true then (if inR (nn e) 64 = true then (if ¬ ws (nn c).toNatClampNeg = ws (nn e).toNatClampNeg then ret9 (den (d + 5) 260) 260 165 168 [some (vr 14 0), some (vi (nn c)), some (vi (nn e)), o3] [] (cal (d + 4) 262 [vr 14 0, vi (nn c), vi (nn e)] (MX (MMM I ws gf Q S) J (TB T b))) else den (d + 5) 260 118 [some (vr 14 0), some (vi (nn c)), some (vi (nn e + 1)), o3] [] (MX (MMM I ws gf Q S) J (TB T b))) else none) else none)) else none)) else none)) = _
      rw [hG 24 (by omega), hn, if_neg (by rw [nn_le (by omega) (by omega)]; omega), if_pos hr, if_pos hr2, if_pos hr, if_pos hr2, nn_idx (by omega), nn_idx (by omega), nn_add1]
      exact hx
    by_cases z : I 39 0 c = 0 ∧ I 39 0 e = 0 ∧ ¬ ws c = ws e
    · have ex1 : ∀ (v gf Q S : Nat → Int32), cal (d + 4) 262 [vr 14 0, vi (nn c), vi (nn e)] (MX (MMM I v gf Q S) J (TB T b)) = some (.inl none, MX (MMM I (ex v c e) gf Q S) J (TB T b)) := by
        intro v gf Q S
        rw [c262, if_pos hr, if_pos hr2, if_pos hr, if_pos hr2, nn_idx (by omega), nn_idx (by omega)]
        show some (Sum.inl none, MX (up3 (up3 (MMM I v gf Q S) 28 7 c (v e)) 28 7 e (v c)) J (TB T b)) = _
        rw [mm_ws, mm_ws]
        rfl
      obtain ⟨gf3, Q3, S3, e3, q3, r3⟩ := looksM d I J T hX (ex ws c e) gf Q S st c (ws e).toNatClampNeg (some e) (-1) (fun y => by cases y) hS hG
      obtain ⟨gf2, Q2, S2, e2, q2, r2⟩ := ih (e + 1) gf3 Q3 S3 _ o3 (by omega) (by omega) q3 r3
      refine ⟨gf2, Q2, S2, head _ ?_, ?_, r2⟩
      · rw [if_neg (fun y => y z.1), if_neg (fun y => y z.2.1), if_pos z.2.2, ex1]
        simp only [ret9]
        rw [b260_168]
        change ret9 _ _ _ _ _ _ (cal (d + 4) 261 [vr 14 0, vi (nn c), vi (oi (some e)), vi (-1)] _) = _
        rw [e3]
        simp only [ret9]
        rw [b260_175, ex1, ex_ex (by omega)]
        simp only [ret9]
        rw [b260_181, nn_add1]
        exact e2
      · rw [itn_su, show s2 ws (I 39 0) (KM I w h o) (SHM I (w * h) o) (TTM I (w * h) o) c e st = lk (KM I w h o (ex ws c e)) (SHM I (w * h) o (ex ws c e)) (TTM I (w * h) o (ex ws c e)) (c, (ws e).toNatClampNeg, some e) st by unfold s2; rw [if_pos z]]
        exact q2
    · obtain ⟨gf2, Q2, S2, e2, q2, r2⟩ := ih (e + 1) gf Q S st o3 (by omega) (by omega) hS hG
      refine ⟨gf2, Q2, S2, head _ ?_, ?_, r2⟩
      · by_cases z1 : I 39 0 c = 0
        · rw [if_neg (fun y => y z1)]
          by_cases z2 : I 39 0 e = 0
          · rw [if_neg (fun y => y z2), if_neg (fun y => z ⟨z1, z2, y⟩)]
            exact e2
          · rw [if_pos z2]; exact e2
        · rw [if_pos z1]; exact e2
      · rw [itn_su, show s2 ws (I 39 0) (KM I w h o) (SHM I (w * h) o) (TTM I (w * h) o) c e st = st by unfold s2; rw [if_neg z]]
        exact q2
theorem outB (hX : RX I w h o b) (ws : Nat → Int32) : ∀ m c (gf Q S : Nat → Int32) (st : MVT) (o2 o3 : Option AV), c + m = w * h → SM gf st → GFok I gf → ∃ (gf2 Q2 S2 : Nat → Int32), den (d + 5) 260 106 [some (vr 14 0), some (vi (nn c)), o2, o3] [] (MX (MMM I ws gf Q S) J (TB T b)) = (if gf2 45 = -1 then some (.inl (some (vi 0)), MX (MMM I ws gf2 Q2 S2) J (TB T b)) else some (.inl (some (vi 1)), MX (MMM I ws gf2 Q2 S2) J (TB T b))) ∧ SM gf2 (itn (fun c st => itn (s2 ws (I 39 0) (KM I w h o) (SHM I (w * h) o) (TTM I (w * h) o) c) (w * h - (c + 1)) (c + 1) st) m c st) ∧ GFok I gf2 := by
  obtain ⟨hg, hn, hob, ho6⟩ := id hX
  have h64 : w * h ≤ 64 := Nat.mul_le_mul hg.2.2.2.1 hg.2.2.2.2.2
  intro m
  induction m with
  | zero =>
    intro c gf Q S st o2 o3 hc hS hG
    refine ⟨gf, Q, S, ?_, hS, hG⟩
    rw [b260_106]
    show (if gf 24 ≤ _ then (if gf 45 = -1 then _ else _) else _) = _
    rw [hG 24 (by omega), hn, if_pos ((nn_le (by omega) (by omega)).mpr (by omega))]
  | succ m ih =>
    intro c gf Q S st o2 o3 hc hS hG
    obtain ⟨gf3, Q3, S3, e3, q3, r3⟩ := inB d I J T hX ws (show c < w * h by omega) (w * h - (c + 1)) (c + 1) gf Q S st o3 (by omega) (by omega) hS hG
    obtain ⟨gf2, Q2, S2, e2, q2, r2⟩ := ih (c + 1) gf3 Q3 S3 _ (some (vi (nn (w * h)))) o3 (by omega) q3 r3
    refine ⟨gf2, Q2, S2, ?_, q2, r2⟩
    rw [b260_106]
    show (if gf 24 ≤ _ then _ else _) = _
    rw [hG 24 (by omega), hn, if_neg (by rw [nn_le (by omega) (by omega)]; omega), nn_add1]
    exact e3.trans e2
end SEEKM
