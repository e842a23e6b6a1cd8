/-! Seeking a move: what is sought; the class -/
abbrev MVT : Type := Int32 × Int32 × Option (Nat × Nat × Option Nat)
def BTR (S T S2 T2 : Int32) : Prop := S2 < S ∨ (S2 = S ∧ T < T2)
noncomputable def lk (law : Prop) (S2 T2 : Int32) (mv : Nat × Nat × Option Nat) (st : MVT) : MVT := @ite _ (BTR st.1 st.2.1 S2 T2 ∧ law) (Classical.propDecidable _) (S2, T2, some mv) st
theorem lk1 {law : Prop} {S2 T2 : Int32} {mv : Nat × Nat × Option Nat} {st : MVT} (h : BTR st.1 st.2.1 S2 T2) (hl : law) : lk law S2 T2 mv st = (S2, T2, some mv) := by unfold lk; rw [if_pos ⟨h, hl⟩]
theorem lk0 {law : Prop} {S2 T2 : Int32} {mv : Nat × Nat × Option Nat} {st : MVT} (h : ¬ (BTR st.1 st.2.1 S2 T2 ∧ law)) : lk law S2 T2 mv st = st := by unfold lk; rw [if_neg h]
section SEEK
variable (ws wt : Nat → Int32) (K : (Nat → Int32) → Prop) (SH TT : (Nat → Int32) → Int32)
noncomputable def s1 (c k : Nat) (st : MVT) : MVT := if wt c = 0 ∧ ¬ ws c = nn k then lk (K (wu ws c (nn k))) (SH (wu ws c (nn k))) (TT (wu ws c (nn k))) (c, k, none) st else st
noncomputable def s2 (c e : Nat) (st : MVT) : MVT := if wt c = 0 ∧ wt e = 0 ∧ ¬ ws c = ws e then lk (K (ex ws c e)) (SH (ex ws c e)) (TT (ex ws c e)) (c, (ws e).toNatClampNeg, some e) st else st
noncomputable def SK1 (n o : Nat) : MVT := itn (fun c st => itn (s1 ws wt K SH TT c) o 0 st) n 0 (SH ws, TT ws, none)
noncomputable def SK (n o : Nat) : MVT := itn (fun c st => itn (s2 ws wt K SH TT c) (n - (c + 1)) (c + 1) st) n 0 (SK1 ws wt K SH TT n o)
end SEEK
def SC (sf : Nat → Int32) (st : MVT) : Prop := sf 6 = st.1 ∧ sf 7 = st.2.1 ∧ match st.2.2 with
  | none => sf 8 = -1
  | some (c, k, q) => sf 8 = nn c ∧ sf 9 = nn k ∧ sf 10 = oi q
section SEEKC
variable (d : Nat) {w h o : Nat} (I : PI) (J : PJ) (T : TL)
theorem sbC {f t : Nat} (x y : Int32) (hf : f < 6) (ht : t < 6) : cal (d + 1) 126 [vr 6 0, vi (nn f), vi x, vi (nn t), vi y] (MX I J T) = some (.inl (some (vi (SB (I 6 0 4) (I 21 4) (I 21 6) f x t y))), MX I J T) := by
  have hrf : inR (nn f) 6 = true := nn_inR hf (by omega)
  have hrt : inR (nn t) 6 = true := nn_inR ht (by omega)
  rw [c126, if_pos hrf, nn_idx (by omega), lackC d I J T f _ hf]
  simp only [ret9]
  rw [b126_18, if_pos hrt, nn_idx (by omega), lackC d I J T t _ ht]
  simp only [ret9]
  rw [b126_33, if_pos hrf, nn_idx (by omega), lackC d I J T f _ hf]
  simp only [ret9]
  rw [b126_50, if_pos hrt, nn_idx (by omega), lackC d I J T t _ ht]
  simp only [ret9]
  rw [b126_68]
  rfl
theorem impC {f t : Nat} (x y : Int32) (hf : f < 6) (ht : t < 6) : cal (d + 2) 125 [vr 6 0, vi (nn f), vi x, vi (nn t), vi y] (MX I J T) = some (.inl (some (vi (bi (BTR (I 6 0 6) (I 6 0 7) (SB (I 6 0 4) (I 21 4) (I 21 6) f x t y) (I 6 0 5 + x + y))))), MX I J T) := by
  rw [c125, sbC d I J T x y hf ht]
  simp only [ret9]
  rw [b125_9]
  generalize SB (I 6 0 4) (I 21 4) (I 21 6) f x t y = s
  by_cases z1 : s < I 6 0 6
  · rw [if_pos z1, bi1 (.inl z1)]
  · rw [if_neg z1]
    by_cases z2 : s = I 6 0 6
    · rw [if_neg (fun y => y z2)]
      by_cases z3 : I 6 0 5 + x + y ≤ I 6 0 7
      · rw [if_pos z3, bi0]
        intro q
        rcases q with q | q
        · exact z1 q
        · exact i32_nlt.mpr z3 q.2
      · rw [if_neg z3, bi1]
        refine .inr ⟨z2, Classical.byContradiction (fun q => z3 (i32_nlt.mp q))⟩
    · rw [if_pos z2, bi0]
      intro q
      rcases q with q | q
      · exact z1 q
      · exact z2 q.1
theorem holdC {f t : Nat} (x y : Int32) (hf : f < 6) (ht : t < 6) : cal (d + 2) 129 [vr 6 0, vi (nn f), vi x, vi (nn t), vi y] (MX I J T) = some (.inl none, MX (up3 (up3 I 6 0 6 (SB (I 6 0 4) (I 21 4) (I 21 6) f x t y)) 6 0 7 (I 6 0 5 + x + y)) J T) := by
  rw [c129, sbC d I J T x y hf ht]
  simp only [ret9]
  rw [b129_10]
def CSX (ws : Nat → Int32) (I : PI) (J : PJ) (T : TL) (w h o : Nat) : Prop := RelW I w h ∧ 0 < w * h ∧ RelM J w h ∧ RelC I J (w * h) o ∧ DR ws (I 28 3) (J 42 1) (w * h) o ∧ I 1 T.1 3 = nn o ∧ o ≤ 6 ∧ LAW ws (I 28 6) (I 39 0) w h o (I 5 0 10) ∧ ∀ k, k < o → I 21 6 k = SU ws (I 34 0) (w * h) k (nn k)
theorem SB_congr {sh : Int32} {had su su2 : Nat → Int32} {f t : Nat} {x y : Int32} (h1 : su f = su2 f) (h2 : su t = su2 t) : SB sh had su f x t y = SB sh had su2 f x t y := by
  unfold SB
  rw [h1, h2]
theorem FL_dr {ws a : Nat → Int32} {g : Nat → Int64} {n o k : Nat} (hD : DR ws a g n o) (h64 : n ≤ 64) (hk : k < 6) {c : Nat} (hc : c < n) : bt (g k) c = FL ws k c :=
  FL_bt (I := upA (upA (fun _ _ _ => 0) 28 3 a) 28 7 ws) (J := upA (fun _ _ _ => 0) 42 1 g) hD h64 hk hc
theorem fld_dr {ws a : Nat → Int32} {g : Nat → Int64} {n o k : Nat} (hD : DR ws a g n o) (hk : k < 6) : ∀ c, bt (g k) c = true → c < n := fun c hc => ((hD.2 k hk c (bt_64 hc)).mp hc).1
theorem FL_x {ws a : Nat → Int32} {g : Nat → Int64} {n o f : Nat} (hD : DR ws a g n o) (h64 : n ≤ 64) (hf : f < 6) {ws2 : Nat → Int32} {X : Int64} (hX : ∀ i, i < n → FL ws2 f i = (FL ws f i ^^ bt X i)) (hX2 : ∀ i, bt X i = true → i < n) : (∀ i, i < n → FL ws2 f i = bt (g f ^^^ X) i) ∧ (∀ i, bt (g f ^^^ X) i = true → i < n) := by
  constructor
  · intro i hi
    rw [hX i hi, bt_xor, FL_dr hD h64 hf hi]
  · intro i hi
    rw [bt_xor] at hi
    cases z : bt X i with
    | true => exact hX2 i z
    | false =>
      rw [z, Bool.xor_false] at hi
      exact fld_dr hD hf i hi
theorem law_two {ws ws2 kp wt : Nat → Int32} {wd : Int32} {f t : Nat} {P Q : Nat → Bool} (hw : 1 ≤ w) (ho6 : o ≤ 6) (hf : f < o) (ht : t < o) (hL : LAW ws kp wt w h o wd) (hr0 : ∀ c, c < w * h → ownr o (ws c)) (hr : ∀ c, c < w * h → ownr o (ws2 c)) (hb1 : non9 (B1 ws2 wt) (w * h)) (hb2 : non9 (B2 ws2 kp) (w * h)) (hk : ∀ k, k < o → ¬ k = f → ¬ k = t → ∀ i, i < w * h → FL ws2 k i = FL ws k i) (hP : ∀ i, i < w * h → FL ws2 f i = P i) (hQ : ∀ i, i < w * h → FL ws2 t i = Q i) : LAW ws2 kp wt w h o wd ↔ (LFP w h wd P ∧ LFP w h wd Q) := by
  rw [LAW_iff ho6 hr]
  have hL2 := ((LAW_iff ho6 hr0).mp hL).2.2
  constructor
  · intro z
    exact ⟨(LFP_iff hw hP).mp (z.2.2 f hf), (LFP_iff hw hQ).mp (z.2.2 t ht)⟩
  · intro z
    refine ⟨hb1, hb2, fun k hk2 => ?_⟩
    by_cases e1 : k = f
    · subst e1; exact (LFP_iff hw hP).mpr z.1
    · by_cases e2 : k = t
      · subst e2; exact (LFP_iff hw hQ).mpr z.2
      · exact (LFP_iff hw (hk k hk2 e1 e2)).mpr (hL2 k hk2)
theorem one1 {ws kp wt : Nat → Int32} {wd : Int32} {c f t : Nat} (hw : 1 ≤ w) (ho6 : o ≤ 6) (hf : f < o) (ht : t < o) (hft : ¬ f = t) (hL : LAW ws kp wt w h o wd) (hr : ∀ c, c < w * h → ownr o (ws c)) (hk : kp c = -1) (hc : ws c = nn f) {P Q : Nat → Bool} (hP : ∀ i, i < w * h → FL (wu ws c (nn t)) f i = P i) (hQ : ∀ i, i < w * h → FL (wu ws c (nn t)) t i = Q i) : LAW (wu ws c (nn t)) kp wt w h o wd ↔ (LFP w h wd P ∧ LFP w h wd Q) := by
  refine law_two hw ho6 hf ht hL hr ?_ ?_ ?_ ?_ hP hQ
  · intro i hi
    unfold wu
    by_cases e : i = c
    · rw [if_pos e]; exact .inr ⟨t, ht, rfl⟩
    · rw [if_neg e]; exact hr i hi
  · intro i hi z
    unfold B1 wu at z
    by_cases e : i = c
    · rw [if_pos e] at z; exact nn_ne_neg (by omega) z.1
    · rw [if_neg e] at z; exact hL.1 i hi z
  · intro i hi z
    unfold B2 wu at z
    by_cases e : i = c
    · rw [e] at z; exact z.1 hk
    · rw [if_neg e] at z; exact hL.2.1 i hi z
  · intro k hk2 e1 e2 i hi
    unfold FL wu
    by_cases e : i = c
    · rw [if_pos e, e, hc, decide_eq_false (nn_ne (by omega) (by omega) (fun z => e2 z.symm)), decide_eq_false (nn_ne (by omega) (by omega) (fun z => e1 z.symm))]
    · rw [if_neg e]
theorem xor1 {ws : Nat → Int32} {c f t n : Nat} (hf : f < 6) (ht : t < 6) (hft : ¬ f = t) (hc64 : c < 64) (hc : ws c = nn f) : (∀ i, i < n → FL (wu ws c (nn t)) f i = (FL ws f i ^^ bt (lsh9 1 (nn c)) i)) ∧ (∀ i, i < n → FL (wu ws c (nn t)) t i = (FL ws t i ^^ bt (lsh9 1 (nn c)) i)) := by
  constructor
  · intro i hi
    rw [bt_bit hc64]
    unfold FL wu
    by_cases e : i = c
    · rw [if_pos e, e, hc, decide_eq_false (nn_ne ht hf (fun z => hft z.symm)), decide_eq_true rfl, decide_eq_true rfl]
      rfl
    · rw [if_neg e, decide_eq_false e, Bool.xor_false]
  · intro i hi
    rw [bt_bit hc64]
    unfold FL wu
    by_cases e : i = c
    · rw [if_pos e, e, hc, decide_eq_false (nn_ne hf ht hft), decide_eq_true rfl, decide_eq_true rfl]
      rfl
    · rw [if_neg e, decide_eq_false e, Bool.xor_false]
theorem upA_6 (sf : Nat → Int32) (i : Nat) (v : Int32) : up3 (upA I 6 0 sf) 6 0 i v = upA I 6 0 (wu sf i v) := upA_up3 _ _ _ _ _ _
/-- the drawing's measures -/
abbrev SHf (I : PI) (n o : Nat) : (Nat → Int32) → Int32 := fun v => SHO v (I 34 0) (I 21 4) n o
abbrev TTf (I : PI) (n o : Nat) : (Nat → Int32) → Int32 := fun v => TS v (I 34 0) n o
abbrev KKf (I : PI) (w h o : Nat) : (Nat → Int32) → Prop := fun v => LAW v (I 28 6) (I 39 0) w h o (I 5 0 10)
def S45 (ws : Nat → Int32) (I : PI) (w h o : Nat) (sf : Nat → Int32) : Prop := sf 4 = SHf I (w * h) o ws ∧ sf 5 = TTf I (w * h) o ws
theorem own1 {ws : Nat → Int32} (hC : CSX ws I J T w h o) {c f k : Nat} (hc : c < w * h) (hkp : I 28 6 c = -1) (hwt : I 39 0 c = 0) (hf : f < o) (hws : ws c = nn f) (hk : k < o) (sf : Nat → Int32) (st : MVT) (hS : SC sf st) (h45 : S45 ws I w h o sf) (o5 : Option AV) : ∃ (sf2 : Nat → Int32) (p5 : Option AV), den (d + 4) 124 23 [some (vr 6 0), some (vi (nn c)), some (vi (nn f)), some (vi (I 34 0 (64 * f + c))), some (vi (nn k)), o5] [] (MX (upA I 6 0 sf) J T) = den (d + 4) 124 23 [some (vr 6 0), some (vi (nn c)), some (vi (nn f)), some (vi (I 34 0 (64 * f + c))), some (vi (nn (k + 1))), p5] [] (MX (upA I 6 0 sf2) J T) ∧ SC sf2 (s1 ws (I 39 0) (KKf I w h o) (SHf I (w * h) o) (TTf I (w * h) o) c k st) ∧ S45 ws I w h o sf2 := by
  obtain ⟨hW, hp, hM, hCC, hD, ho, ho6, hL, hsu⟩ := hC
  have h64 := relW_le hW
  obtain ⟨-, -, hw1, hw8, hh1, hh8⟩ := relGW hW hp
  by_cases hfk : f = k
  · subst hfk
    refine ⟨sf, o5, ?_, ?_, h45⟩
    · rw [b124_23]
      show (if I 1 T.1 3 ≤ _ then _ else _) = _
      rw [ho, if_neg (by rw [nn_le (by omega) (by omega)]; omega), if_pos rfl, nn_add1]
    · unfold s1
      rw [if_neg (fun z => z.2 hws)]
      exact hS
  · obtain ⟨x1, x2⟩ := xor1 (n := w * h) (ws := ws) (show f < 6 by omega) (show k < 6 by omega) hfk (show c < 64 by omega) hws
    have hbit : ∀ i, bt (lsh9 1 (nn c)) i = true → i < w * h := fun i hi => by
      rw [bt_bit (by omega)] at hi
      rw [of_decide_eq_true hi]; exact hc
    obtain ⟨y1, y2⟩ := FL_x hD h64 (show f < 6 by omega) x1 hbit
    obtain ⟨z1, z2⟩ := FL_x hD h64 (show k < 6 by omega) x2 hbit
    have hlaw := one1 (h := h) hw1 ho6 hf hk hfk hL (fun c hc => (hD.1 c hc).2) hkp hws y1 z1
    have u1 := SU_1f (pr := I 34 0) hc (show f < 6 by omega) (show k < 6 by omega) hfk hws
    have u2 := SU_1t (pr := I 34 0) hc (show f < 6 by omega) (show k < 6 by omega) hfk hws
    have u3 : ∀ q, q < o → ¬ q = f → ¬ q = k → SU (wu ws c (nn k)) (I 34 0) (w * h) q (nn q) = SU ws (I 34 0) (w * h) q (nn q) := fun q hq e1 e2 => SU_1k hc (by omega) (by omega) (by omega) e1 e2 hws
    have eS := SHO_two (had := I 21 4) hfk hf hk u1 u2 u3
    have eT := TS_two hfk hf hk u1 u2 u3
    have im := impC (d + 1) (upA I 6 0 sf) J T (f := f) (t := k) (-I 34 0 (64 * f + c)) (I 34 0 (64 * k + c)) (by omega) (by omega)
    have hl := holdC (d + 1) (upA I 6 0 sf) J T (f := f) (t := k) (-I 34 0 (64 * f + c)) (I 34 0 (64 * k + c)) (by omega) (by omega)
    have lw := law2C d (lsh9 1 (nn c)) (upA I 6 0 sf) J T (f := f) (t := k) hW hp hM (by omega) (by omega) y2 z2
    have eSB : SB (sf 4) (I 21 4) (I 21 6) f (-I 34 0 (64 * f + c)) k (I 34 0 (64 * k + c)) = SHf I (w * h) o (wu ws c (nn k)) := by
      show _ = SHO _ _ _ _ _
      rw [eS, h45.1]
      exact SB_congr (hsu f hf) (hsu k hk)
    have eTT : sf 5 + -I 34 0 (64 * f + c) + I 34 0 (64 * k + c) = TTf I (w * h) o (wu ws c (nn k)) := by
      show _ = TS _ _ _ _
      rw [eT, h45.2]
    change cal (d + 3) 125 [vr 6 0, vi (nn f), vi (-I 34 0 (64 * f + c)), vi (nn k), vi (I 34 0 (64 * k + c))] (MX (upA I 6 0 sf) J T) = some (.inl (some (vi (bi (BTR (sf 6) (sf 7) (SB (sf 4) (I 21 4) (I 21 6) f (-I 34 0 (64 * f + c)) k (I 34 0 (64 * k + c))) (sf 5 + -I 34 0 (64 * f + c) + I 34 0 (64 * k + c)))))), MX (upA I 6 0 sf) J T) at im
    change cal (d + 3) 129 [vr 6 0, vi (nn f), vi (-I 34 0 (64 * f + c)), vi (nn k), vi (I 34 0 (64 * k + c))] (MX (upA I 6 0 sf) J T) = some (.inl none, MX (up3 (up3 (upA I 6 0 sf) 6 0 6 (SB (sf 4) (I 21 4) (I 21 6) f (-I 34 0 (64 * f + c)) k (I 34 0 (64 * k + c)))) 6 0 7 (sf 5 + -I 34 0 (64 * f + c) + I 34 0 (64 * k + c))) J T) at hl
    rw [eSB, eTT, hS.1, hS.2.1] at im
    rw [eSB, eTT] at hl
    change cal (d + 3) 127 [vr 6 0, vi (nn f), vi (nn k), vl (lsh9 1 (nn c))] (MX (upA I 6 0 sf) J T) = some (.inl (some (vi (bi (LFP w h (I 5 0 10) (bt (J 42 1 f ^^^ lsh9 1 (nn c))) ∧ LFP w h (I 5 0 10) (bt (J 42 1 k ^^^ lsh9 1 (nn c))))))), MX (upA I 6 0 sf) J T) at lw
    rw [bi_congr hlaw.symm] at lw
    have pc := priceC (d + 3) (k := k) (c := c) (upA I 6 0 sf) J T (by omega) (by omega)
    have hs1 : s1 ws (I 39 0) (KKf I w h o) (SHf I (w * h) o) (TTf I (w * h) o) c k st = lk (KKf I w h o (wu ws c (nn k))) (SHf I (w * h) o (wu ws c (nn k))) (TTf I (w * h) o (wu ws c (nn k))) (c, k, none) st := by
      unfold s1
      rw [if_pos ⟨hwt, by rw [hws]; exact nn_ne (by omega) (by omega) hfk⟩]
    have e0 : den (d + 4) 124 23 [some (vr 6 0), some (vi (nn c)), some (vi (nn f)), some (vi (I 34 0 (64 * f + c))), some (vi (nn k)), o5] [] (MX (upA I 6 0 sf) J T) = den (d + 4) 124 67 [some (vr 6 0), some (vi (nn c)), some (vi (nn f)), some (vi (I 34 0 (64 * f + c))), some (vi (nn k)), some (vi (I 34 0 (64 * k + c)))] [vi (bi (BTR st.1 st.2.1 (SHf I (w * h) o (wu ws c (nn k))) (TTf I (w * h) o (wu ws c (nn k)))))] (MX (upA I 6 0 sf) J T) := by
      rw [b124_23]
      show (if I 1 T.1 3 ≤ _ then _ else _) = _
      rw [ho, if_neg (by rw [nn_le (by omega) (by omega)]; omega), if_neg (nn_ne (by omega) (by omega) (fun z => hfk z.symm)), pc]
      simp only [ret9]
      rw [b124_54]
      show ret9 _ _ _ _ _ _ (cal (d + 3) 125 [vr 6 0, vi (nn f), vi (-I 34 0 (64 * f + c)), vi (nn k), vi (I 34 0 (64 * k + c))] (MX (upA I 6 0 sf) J T)) = _
      rw [im]
      simp only [ret9]
      rfl
    rw [e0]
    generalize SHf I (w * h) o (wu ws c (nn k)) = S2 at hl hs1
    generalize TTf I (w * h) o (wu ws c (nn k)) = T2 at hl hs1
    by_cases q1 : BTR st.1 st.2.1 S2 T2
    · by_cases q2 : KKf I w h o (wu ws c (nn k))
      · refine ⟨wu (wu (wu (wu (wu sf 6 S2) 7 T2) 8 (nn c)) 9 (nn k)) 10 (-1), some (vi (I 34 0 (64 * k + c))), ?_, ?_, h45⟩
        · rw [bi1 q1, b124_67, if_neg (by decide), lw, bi1 q2]
          simp only [ret9]
          rw [b124_80, if_neg (by decide), hl]
          simp only [ret9]
          rw [b124_94, upA_6, upA_6, upA_6, upA_6, upA_6, nn_add1]
        · rw [hs1, lk1 q1 q2]
          exact ⟨rfl, rfl, rfl, rfl, rfl⟩
      · refine ⟨sf, some (vi (I 34 0 (64 * k + c))), ?_, ?_, h45⟩
        · rw [bi1 q1, b124_67, if_neg (by decide), lw, bi0 q2]
          simp only [ret9]
          rw [b124_80, if_pos rfl, nn_add1]
        · rw [hs1, lk0 (fun z => q2 z.2)]
          exact hS
    · refine ⟨sf, some (vi (I 34 0 (64 * k + c))), ?_, ?_, h45⟩
      · rw [bi0 q1, b124_67, if_pos rfl, nn_add1]
      · rw [hs1, lk0 (fun z => q1 z.1)]
        exact hS
end SEEKC
