/-! Seeking a move: the class's exchanges, the whole search -/
section SEEKX
variable (d : Nat) {w h o : Nat} (I : PI) (J : PJ) (T : TL)
theorem ex_at {ws : Nat → Int32} {c e : Nat} (i : Nat) : ex ws c e i = if i = e then ws c else if i = c then ws e else ws i := rfl
theorem two1 {ws kp wt : Nat → Int32} {wd : Int32} {c e f t : Nat} (hw : 1 ≤ w) (ho6 : o ≤ 6) (hc : c < w * h) (he : e < w * h) (hf : f < o) (ht : t < o) (hL : LAW ws kp wt w h o wd) (hr : ∀ c, c < w * h → ownr o (ws c)) (hk : kp c = -1) (hke : kp e = -1) (hcf : ws c = nn f) (het : ws e = nn t) {P Q : Nat → Bool} (hP : ∀ i, i < w * h → FL (ex ws c e) f i = P i) (hQ : ∀ i, i < w * h → FL (ex ws c e) t i = Q i) : LAW (ex ws c e) kp wt w h o wd ↔ (LFP w h wd P ∧ LFP w h wd Q) := by
  refine law_two hw ho6 hf ht hL hr ?_ ?_ ?_ ?_ hP hQ
  · intro i hi
    rw [ex_at]
    by_cases e1 : i = e
    · rw [if_pos e1]; exact hr c hc
    · rw [if_neg e1]
      by_cases e2 : i = c
      · rw [if_pos e2]; exact hr e he
      · rw [if_neg e2]; exact hr i hi
  · intro i hi z
    unfold B1 at z
    rw [ex_at] at z
    by_cases e1 : i = e
    · rw [if_pos e1, hcf] at z; exact nn_ne_neg (by omega) z.1
    · rw [if_neg e1] at z
      by_cases e2 : i = c
      · rw [if_pos e2, het] at z; exact nn_ne_neg (by omega) z.1
      · rw [if_neg e2] at z; exact hL.1 i hi z
  · intro i hi z
    unfold B2 at z
    rw [ex_at] at z
    by_cases e1 : i = e
    · rw [e1] at z; exact z.1 hke
    · rw [if_neg e1] at z
      by_cases e2 : i = c
      · rw [e2] at z; exact z.1 hk
      · rw [if_neg e2] at z; exact hL.2.1 i hi z
  · intro k hk2 n1 n2 i hi
    unfold FL
    rw [ex_at]
    by_cases e1 : i = e
    · rw [if_pos e1, e1, hcf, het, decide_eq_false (nn_ne (by omega) (by omega) (fun z => n2 z.symm)), decide_eq_false (nn_ne (by omega) (by omega) (fun z => n1 z.symm))]
    · rw [if_neg e1]
      by_cases e2 : i = c
      · rw [if_pos e2, e2, hcf, het, decide_eq_false (nn_ne (by omega) (by omega) (fun z => n2 z.symm)), decide_eq_false (nn_ne (by omega) (by omega) (fun z => n1 z.symm))]
      · rw [if_neg e2]
theorem xor2 {ws : Nat → Int32} {c e f t : Nat} (hf : f < 6) (ht : t < 6) (hft : ¬ f = t) (hc64 : c < 64) (he64 : e < 64) (hce : ¬ e = c) (hc : ws c = nn f) (he : ws e = nn t) : (∀ i, FL (ex ws c e) f i = (FL ws f i ^^ bt (lsh9 1 (nn c) ||| lsh9 1 (nn e)) i)) ∧ (∀ i, FL (ex ws c e) t i = (FL ws t i ^^ bt (lsh9 1 (nn c) ||| lsh9 1 (nn e)) i)) := by
  have n1 := decide_eq_false (nn_ne hf ht hft)
  have n2 := decide_eq_false (nn_ne ht hf (fun z => hft z.symm))
  constructor
  · intro i
    rw [bt_or, bt_bit hc64, bt_bit he64]
    unfold FL
    rw [ex_at]
    by_cases e1 : i = e
    · rw [if_pos e1, e1, hc, he, n2, decide_eq_true rfl, decide_eq_false hce, decide_eq_true rfl]; rfl
    · rw [if_neg e1, decide_eq_false e1]
      by_cases e2 : i = c
      · rw [if_pos e2, e2, hc, he, n2, decide_eq_true rfl, decide_eq_true rfl]; rfl
      · rw [if_neg e2, decide_eq_false e2, Bool.or_false, Bool.xor_false]
  · intro i
    rw [bt_or, bt_bit hc64, bt_bit he64]
    unfold FL
    rw [ex_at]
    by_cases e1 : i = e
    · rw [if_pos e1, e1, hc, he, n1, decide_eq_true rfl, decide_eq_false hce, decide_eq_true rfl]; rfl
    · rw [if_neg e1, decide_eq_false e1]
      by_cases e2 : i = c
      · rw [if_pos e2, e2, hc, he, n1, decide_eq_true rfl, decide_eq_true rfl]; rfl
      · rw [if_neg e2, decide_eq_false e2, Bool.or_false, Bool.xor_false]
theorem mayC {ws : Nat → Int32} (hC : CSX ws I J T w h o) (sf : Nat → Int32) {c : Nat} (hc : c < w * h) : cal (d + 1) 123 [vr 6 0, vi (nn c)] (MX (upA I 6 0 sf) J T) = some (.inl (some (vi (bi (I 39 0 c = 0 ∧ I 28 6 c = -1)))), MX (upA I 6 0 sf) J T) := by
  obtain ⟨hW, hp, hM, hCC, hD, ho, ho6, hL, hsu⟩ := hC
  have h64 := relW_le hW
  have hr : inR (nn c) 64 = true := nn_inR (by omega) (by omega)
  have wc := watC d (upA I 6 0 sf) J T (c := c) (by omega)
  have hw := hCC.1 c (by omega)
  rw [c123, wc]
  simp only [ret9]
  rw [b123_8]
  show (if ¬ bi _ = 0 then _ else (if inR (nn c) 64 = true then (if ¬ I 28 2 (nn c).toNatClampNeg = -1 then _ else (if inR (nn c) 64 = true then (if I 28 3 (nn c).toNatClampNeg = -1 then _ else _) else none)) else none)) = _
  rw [nn_idx (by omega), (hCC.2 c hc).2.2.2.2.2.1, (hD.1 c hc).1]
  by_cases z : I 39 0 c = 0
  · rw [bi0 (fun y => (hw.mp y).2 z), if_neg (fun y => y rfl), if_pos hr]
    by_cases z2 : I 28 6 c = -1
    · rw [if_neg (fun y => y z2), if_pos hr, if_neg (fun y => hL.1 c hc ⟨y, z⟩), bi1 ⟨z, z2⟩]
    · rw [if_pos z2, bi0 (fun y => z2 y.2)]
  · rw [bi1 (hw.mpr ⟨hc, z⟩), if_pos (by decide), bi0 (fun y => z y.1)]
theorem itn_id {β : Type} {f : Nat → β → β} {b : β} : ∀ k c, (∀ i, c ≤ i → i < c + k → f i b = b) → itn f k c b = b
  | 0, _, _ => rfl
  | k + 1, c, h => by rw [itn_su, h c (by omega) (by omega)]; exact itn_id k (c + 1) (fun i h1 h2 => h i (by omega) (by omega))
theorem skip1 {ws : Nat → Int32} (hC : CSX ws I J T w h o) {c k : Nat} (hc : c < w * h) (hm : ¬ (I 39 0 c = 0 ∧ I 28 6 c = -1)) (st : MVT) : s1 ws (I 39 0) (KKf I w h o) (SHf I (w * h) o) (TTf I (w * h) o) c k st = st := by
  obtain ⟨hW, hp, hM, hCC, hD, ho, ho6, hL, hsu⟩ := hC
  unfold s1
  by_cases z : I 39 0 c = 0 ∧ ¬ ws c = nn k
  · rw [if_pos z, lk0]
    intro ⟨_, y⟩
    have hk : ¬ I 28 6 c = -1 := fun x => hm ⟨z.1, x⟩
    have e1 : ws c = I 28 6 c := Classical.byContradiction (fun x => hL.2.1 c hc ⟨hk, x⟩)
    refine y.2.1 c hc ⟨hk, ?_⟩
    unfold wu
    rw [if_pos rfl, ← e1]
    exact fun x => z.2 x.symm
  · rw [if_neg z]
theorem skip2 {ws : Nat → Int32} (hC : CSX ws I J T w h o) {c e : Nat} (hc : c < w * h) (he : e < w * h) (hce : ¬ e = c) (hm : ¬ ((I 39 0 c = 0 ∧ I 28 6 c = -1) ∧ (I 39 0 e = 0 ∧ I 28 6 e = -1))) (st : MVT) : s2 ws (I 39 0) (KKf I w h o) (SHf I (w * h) o) (TTf I (w * h) o) c e st = st := by
  obtain ⟨hW, hp, hM, hCC, hD, ho, ho6, hL, hsu⟩ := hC
  unfold s2
  by_cases z : I 39 0 c = 0 ∧ I 39 0 e = 0 ∧ ¬ ws c = ws e
  · rw [if_pos z, lk0]
    intro ⟨_, y⟩
    by_cases hk : I 28 6 c = -1
    · have hk2 : ¬ I 28 6 e = -1 := fun x => hm ⟨⟨z.1, hk⟩, z.2.1, x⟩
      have e1 : ws e = I 28 6 e := Classical.byContradiction (fun x => hL.2.1 e he ⟨hk2, x⟩)
      refine y.2.1 e he ⟨hk2, ?_⟩
      rw [ex_at, if_pos rfl, ← e1]
      exact z.2.2
    · have e1 : ws c = I 28 6 c := Classical.byContradiction (fun x => hL.2.1 c hc ⟨hk, x⟩)
      refine y.2.1 c hc ⟨hk, ?_⟩
      rw [ex_at, if_neg (fun x => hce x.symm), if_pos rfl, ← e1]
      exact fun x => z.2.2 x.symm
  · rw [if_neg z]
theorem ownsC {ws : Nat → Int32} (hC : CSX ws I J T w h o) {c : Nat} (hc : c < w * h) (hm : I 39 0 c = 0 ∧ I 28 6 c = -1) (sf : Nat → Int32) (st : MVT) (hS : SC sf st) (h45 : S45 ws I w h o sf) : ∃ sf2 : Nat → Int32, cal (d + 4) 124 [vr 6 0, vi (nn c)] (MX (upA I 6 0 sf) J T) = some (.inl none, MX (upA I 6 0 sf2) J T) ∧ SC sf2 (itn (s1 ws (I 39 0) (KKf I w h o) (SHf I (w * h) o) (TTf I (w * h) o) c) o 0 st) ∧ S45 ws I w h o sf2 := by
  obtain ⟨hW, hp, hM, hCC, hD, ho, ho6, hL, hsu⟩ := id hC
  have h64 := relW_le hW
  have hown : ∃ f, f < o ∧ ws c = nn f := by
    rcases (hD.1 c hc).2 with z | z
    · exact absurd ⟨z, hm.1⟩ (hL.1 c hc)
    · exact z
  obtain ⟨f, hf, hws⟩ := hown
  have lp : ∀ m k (sf : Nat → Int32) (st : MVT) (o5 : Option AV), k + m = o → SC sf st → S45 ws I w h o sf → ∃ sf2 : Nat → Int32, den (d + 4) 124 23 [some (vr 6 0), some (vi (nn c)), some (vi (nn f)), some (vi (I 34 0 (64 * f + c))), some (vi (nn k)), o5] [] (MX (upA I 6 0 sf) J T) = some (.inl none, MX (upA I 6 0 sf2) J T) ∧ SC sf2 (itn (s1 ws (I 39 0) (KKf I w h o) (SHf I (w * h) o) (TTf I (w * h) o) c) m k st) ∧ S45 ws I w h o sf2 := by
    intro m
    induction m with
    | zero =>
      intro k sf st o5 hk hS h45
      refine ⟨sf, ?_, hS, h45⟩
      rw [b124_23]
      show (if I 1 T.1 3 ≤ _ then _ else _) = _
      rw [ho, if_pos ((nn_le (by omega) (by omega)).mpr (by omega))]
    | succ m ih =>
      intro k sf st o5 hk hS h45
      obtain ⟨sf3, p5, e3, q3, r3⟩ := own1 d I J T hC hc hm.2 hm.1 hf hws (show k < o by omega) sf st hS h45 o5
      obtain ⟨sf2, e2, q2, r2⟩ := ih (k + 1) sf3 _ p5 (by omega) q3 r3
      exact ⟨sf2, e3.trans e2, q2, r2⟩
  obtain ⟨sf2, e2, q2, r2⟩ := lp o 0 sf st none (by omega) hS h45
  refine ⟨sf2, ?_, q2, r2⟩
  have pc := priceC (d + 3) (k := f) (c := c) (upA I 6 0 sf) J T (by omega) (by omega)
  rw [c124, if_pos (nn_inR (by omega) (by omega)), nn_idx (by omega)]
  show ret9 _ _ _ _ [some (vr 6 0), some (vi (nn c)), some (vi (I 28 3 c)), none, none, none] _ (cal (d + 3) 80 [vr 5 0, vi (I 28 3 c), vi (nn c)] _) = _
  rw [(hD.1 c hc).1, hws, pc]
  simp only [ret9]
  rw [b124_19]
  exact e2
end SEEKX
