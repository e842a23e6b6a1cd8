/-! Moves: sums and laws behind a change of one or two cells -/
theorem sm_acc (f : Nat → Int32) : ∀ k c a x, sm f k c (a + x) = sm f k c a + x
  | 0, _, _, _ => rfl
  | k + 1, c, a, x => by
    show sm f k (c + 1) (a + x + f c) = sm f k (c + 1) (a + f c) + x
    rw [show a + x + f c = a + f c + x by rw [Int32.add_assoc, Int32.add_comm x, Int32.add_assoc], sm_acc f k]
theorem sm_su (f : Nat → Int32) (k c : Nat) (a : Int32) : sm f (k + 1) c a = sm f k (c + 1) a + f c := by
  show sm f k (c + 1) (a + f c) = _
  rw [sm_acc]
theorem sm_one {f g : Nat → Int32} {q : Nat} (h : ∀ i, ¬ i = q → g i = f i) : ∀ k c a, c ≤ q → q < c + k → sm g k c a = sm f k c a - f q + g q
  | 0, c, a, h1, h2 => by omega
  | k + 1, c, a, h1, h2 => by
    rw [sm_su, sm_su]
    by_cases e : c = q
    · subst e
      rw [sm_congr (f := g) (g := f) k (c + 1) a (fun i hi _ => h i (by omega))]
      generalize sm f k (c + 1) a = s
      rw [Int32.add_sub_cancel]
    · rw [sm_one h k (c + 1) a (by omega) (by omega), h c e]
      generalize sm f k (c + 1) a = s
      generalize f c = x
      generalize f q = y
      generalize g q = z
      rw [Int32.sub_eq_add_neg, Int32.sub_eq_add_neg, Int32.add_assoc s, Int32.add_assoc s, Int32.add_assoc s, Int32.add_assoc s, Int32.add_comm (-y + z) x, Int32.add_assoc]
theorem sm_two {f g : Nat → Int32} {p q : Nat} (hpq : ¬ p = q) (h : ∀ i, ¬ i = p → ¬ i = q → g i = f i) {k : Nat} (hp : p < k) (hq : q < k) (a : Int32) : sm g k 0 a = sm f k 0 a - f p - f q + g p + g q := by
  have e1 := sm_one (f := f) (g := fun i => if i = p then g p else f i) (q := p) (fun i hi => if_neg hi) k 0 a (by omega) (by omega)
  have e2 := sm_one (f := fun i => if i = p then g p else f i) (g := g) (q := q) (fun i hi => by
    by_cases z : i = p
    · rw [if_pos z, z]
    · rw [if_neg z]; exact h i z hi) k 0 a (by omega) (by omega)
  rw [if_pos rfl] at e1
  rw [if_neg (fun z => hpq z.symm)] at e2
  rw [e2, e1]
  generalize sm f k 0 a = s
  generalize f p = x
  generalize f q = y
  generalize g p = z
  generalize g q = u
  rw [Int32.sub_eq_add_neg, Int32.sub_eq_add_neg, Int32.sub_eq_add_neg, Int32.add_assoc (s + -x), Int32.add_comm z, ← Int32.add_assoc]
section MOVE
variable {ws pr had : Nat → Int32} {n o : Nat}
theorem SU_upd {c : Nat} (hc : c < n) (v : Int32) (k : Nat) (x : Int32) : SU (wu ws c v) pr n k x = SU ws pr n k x - (if ws c = x then pr (64 * k + c) else 0) + (if v = x then pr (64 * k + c) else 0) := by
  unfold SU
  rw [sm_one (f := fun i => if ws i = x then pr (64 * k + i) else 0) (g := fun i => if wu ws c v i = x then pr (64 * k + i) else 0) (q := c) (fun i hi => by unfold wu; rw [if_neg hi]) n 0 0 (by omega) (by omega)]
  unfold wu
  rw [if_pos rfl]
theorem nn_ne {a b : Nat} (ha : a < 6) (hb : b < 6) (h : ¬ a = b) : ¬ nn a = nn b := fun z => h ((nn_inj (by omega) (by omega)).mp z)
theorem sub0 (x : Int32) : x - 0 = x := Int32.sub_zero x
theorem SU_1f {c f t : Nat} (hc : c < n) (hf : f < 6) (ht : t < 6) (hft : ¬ f = t) (hw : ws c = nn f) : SU (wu ws c (nn t)) pr n f (nn f) = SU ws pr n f (nn f) + -pr (64 * f + c) := by
  rw [SU_upd hc, if_pos hw, if_neg (nn_ne ht hf (fun z => hft z.symm)), Int32.add_zero, Int32.sub_eq_add_neg]
theorem SU_1t {c f t : Nat} (hc : c < n) (hf : f < 6) (ht : t < 6) (hft : ¬ f = t) (hw : ws c = nn f) : SU (wu ws c (nn t)) pr n t (nn t) = SU ws pr n t (nn t) + pr (64 * t + c) := by
  rw [SU_upd hc, if_neg (by rw [hw]; exact nn_ne hf ht hft), if_pos rfl, sub0]
theorem SU_1k {c f t k : Nat} (hc : c < n) (hf : f < 6) (ht : t < 6) (hk : k < 6) (h1 : ¬ k = f) (h2 : ¬ k = t) (hw : ws c = nn f) : SU (wu ws c (nn t)) pr n k (nn k) = SU ws pr n k (nn k) := by
  rw [SU_upd hc, if_neg (by rw [hw]; exact nn_ne hf hk (fun z => h1 z.symm)), if_neg (nn_ne ht hk (fun z => h2 z.symm)), sub0, Int32.add_zero]
/-- two cells exchanged -/
def ex (ws : Nat → Int32) (c e : Nat) : Nat → Int32 := wu (wu ws c (ws e)) e (ws c)
theorem SU_2f {c e f t : Nat} (hc : c < n) (he : e < n) (hce : ¬ e = c) (hf : f < 6) (ht : t < 6) (hft : ¬ f = t) (hw : ws c = nn f) (hw2 : ws e = nn t) : SU (ex ws c e) pr n f (nn f) = SU ws pr n f (nn f) + (pr (64 * f + e) - pr (64 * f + c)) := by
  unfold ex
  rw [SU_upd he, hw2, SU_1f hc hf ht hft hw, hw, if_pos rfl, if_neg (by unfold wu; rw [if_neg hce, hw2]; exact nn_ne ht hf (fun z => hft z.symm)), sub0, Int32.add_assoc, Int32.add_comm (-pr _), Int32.sub_eq_add_neg]
theorem SU_2t {c e f t : Nat} (hc : c < n) (he : e < n) (hce : ¬ e = c) (hf : f < 6) (ht : t < 6) (hft : ¬ f = t) (hw : ws c = nn f) (hw2 : ws e = nn t) : SU (ex ws c e) pr n t (nn t) = SU ws pr n t (nn t) + (pr (64 * t + c) - pr (64 * t + e)) := by
  unfold ex
  rw [SU_upd he, hw2, SU_1t hc hf ht hft hw, hw, if_neg (nn_ne hf ht hft), if_pos (by unfold wu; rw [if_neg hce, hw2]), Int32.add_zero, Int32.sub_eq_add_neg, Int32.sub_eq_add_neg, Int32.add_assoc]
theorem SU_2k {c e f t k : Nat} (hc : c < n) (he : e < n) (hce : ¬ e = c) (hf : f < 6) (ht : t < 6) (hk : k < 6) (h1 : ¬ k = f) (h2 : ¬ k = t) (hw : ws c = nn f) (hw2 : ws e = nn t) : SU (ex ws c e) pr n k (nn k) = SU ws pr n k (nn k) := by
  unfold ex
  rw [SU_upd he, hw2, SU_1k hc hf ht hk h1 h2 hw, hw, if_neg (nn_ne hf hk (fun z => h1 z.symm)), if_neg (by unfold wu; rw [if_neg hce, hw2]; exact nn_ne ht hk (fun z => h2 z.symm)), sub0, Int32.add_zero]
/-- what is short behind a change of two sums -/
def SB (sh : Int32) (had su : Nat → Int32) (f : Nat) (x : Int32) (t : Nat) (y : Int32) : Int32 := sh - mx0 (had f - su f) - mx0 (had t - su t) + mx0 (had f - (su f + x)) + mx0 (had t - (su t + y))
theorem SHO_two {ws2 : Nat → Int32} {f t : Nat} {x y : Int32} (hft : ¬ f = t) (hf : f < o) (ht : t < o) (h1 : SU ws2 pr n f (nn f) = SU ws pr n f (nn f) + x) (h2 : SU ws2 pr n t (nn t) = SU ws pr n t (nn t) + y) (h3 : ∀ k, k < o → ¬ k = f → ¬ k = t → SU ws2 pr n k (nn k) = SU ws pr n k (nn k)) : SHO ws2 pr had n o = SB (SHO ws pr had n o) had (fun k => SU ws pr n k (nn k)) f x t y := by
  unfold SHO SB
  have e : sm (fun k => mx0 (had k - SU ws2 pr n k (nn k))) o 0 0 = sm (fun k => if k < o then mx0 (had k - SU ws2 pr n k (nn k)) else mx0 (had k - SU ws pr n k (nn k))) o 0 0 := sm_congr _ _ _ (fun i _ hi => by rw [if_pos (by omega)])
  rw [e, sm_two hft (f := fun k => mx0 (had k - SU ws pr n k (nn k))) (g := fun k => if k < o then mx0 (had k - SU ws2 pr n k (nn k)) else mx0 (had k - SU ws pr n k (nn k))) (fun i a1 a2 => by
    by_cases z : i < o
    · rw [if_pos z, h3 i z a1 a2]
    · rw [if_neg z]) hf ht]
  dsimp only
  rw [if_pos hf, if_pos ht, h1, h2]
theorem TS_two {ws2 : Nat → Int32} {f t : Nat} {x y : Int32} (hft : ¬ f = t) (hf : f < o) (ht : t < o) (h1 : SU ws2 pr n f (nn f) = SU ws pr n f (nn f) + x) (h2 : SU ws2 pr n t (nn t) = SU ws pr n t (nn t) + y) (h3 : ∀ k, k < o → ¬ k = f → ¬ k = t → SU ws2 pr n k (nn k) = SU ws pr n k (nn k)) : TS ws2 pr n o = TS ws pr n o + x + y := by
  unfold TS
  have e : sm (fun k => SU ws2 pr n k (nn k)) o 0 0 = sm (fun k => if k < o then SU ws2 pr n k (nn k) else SU ws pr n k (nn k)) o 0 0 := sm_congr _ _ _ (fun i _ hi => by rw [if_pos (by omega)])
  rw [e, sm_two hft (f := fun k => SU ws pr n k (nn k)) (g := fun k => if k < o then SU ws2 pr n k (nn k) else SU ws pr n k (nn k)) (fun i a1 a2 => by
    by_cases z : i < o
    · rw [if_pos z, h3 i z a1 a2]
    · rw [if_neg z]) hf ht]
  rw [if_pos hf, if_pos ht, h1, h2]
  generalize sm (fun k => SU ws pr n k (nn k)) o 0 0 = s
  generalize SU ws pr n f (nn f) = a
  generalize SU ws pr n t (nn t) = b
  rw [Int32.sub_eq_add_neg, Int32.sub_eq_add_neg, Int32.add_assoc s, Int32.add_assoc s, Int32.add_assoc s, Int32.add_assoc s]
  congr 1
  rw [Int32.add_comm (-a) (-b), Int32.add_assoc (-b), ← Int32.add_assoc (-a), Int32.add_left_neg, Int32.zero_add, Int32.add_comm b y, ← Int32.add_assoc, Int32.add_comm (-b) x, Int32.add_assoc, Int32.add_comm y b, Int32.add_assoc x, ← Int32.add_assoc (-b), Int32.add_left_neg, Int32.zero_add]
end MOVE
/-! laws of fields -/
def LFP (w h : Nat) (wd : Int32) (P : Nat → Bool) : Prop := HT w h P ∧ (wd = 2 → ∀ c, c < w * h → P c = true → COV w h P c)
theorem LFP_iff {w h : Nat} {wd : Int32} {P Q : Nat → Bool} (hw : 1 ≤ w) (e : ∀ c, c < w * h → P c = Q c) : LFP w h wd P ↔ LFP w h wd Q := by
  unfold LFP
  rw [HT_iff hw e]
  refine and_congr_right (fun _ => ⟨fun z y c hc hq => ?_, fun z y c hc hq => ?_⟩)
  · exact COV_congr hw e (z y c hc (by rw [e c hc]; exact hq))
  · exact COV_congr hw (fun i hi => (e i hi).symm) (z y c hc (by rw [← e c hc]; exact hq))
theorem LAW_iff {ws kp wt : Nat → Int32} {w h o : Nat} {wd : Int32} (ho6 : o ≤ 6) (hr : ∀ c, c < w * h → ownr o (ws c)) : LAW ws kp wt w h o wd ↔ (non9 (B1 ws wt) (w * h) ∧ non9 (B2 ws kp) (w * h) ∧ ∀ k, k < o → LFP w h wd (FL ws k)) := by
  unfold LAW LFP
  refine and_congr_right (fun _ => and_congr_right (fun _ => ⟨fun ⟨z1, z2⟩ k hk => ⟨?_, ?_⟩, fun z => ⟨?_, ?_⟩⟩))
  · exact Classical.byContradiction (fun y => z1 k hk y)
  · intro y c hc hp
    have hc2 : ws c = nn k := of_decide_eq_true hp
    have := z2 y c hc
    apply Classical.byContradiction
    intro x
    refine this ⟨by rw [hc2]; exact nn_ne_neg (by omega), fun q => x ?_⟩
    rw [hc2] at q
    exact q
  · intro k hk y
    exact y (z k hk).1
  · intro y c hc ⟨q1, q2⟩
    rcases hr c hc with x | ⟨k, hk, x⟩
    · exact q1 x
    · apply q2
      have := (z k hk).2 y c hc (decide_eq_true x)
      rw [x]
      exact this
theorem law1C (d : Nat) {w h : Nat} (f : Int64) (I : PI) (J : PJ) (T : TL) (hW : RelW I w h) (hp : 0 < w * h) (hM : RelM J w h) (hf : ∀ c, bt f c = true → c < w * h) : cal (d + 2) 128 [vr 5 0, vl f] (MX I J T) = some (.inl (some (vi (bi (LFP w h (I 5 0 10) (bt f))))), MX I J T) := by
  have h64 := relW_le hW
  obtain ⟨-, -, hw1, hw8, hh1, hh8⟩ := relGW hW hp
  rw [c128, hangC (d + 1) (w := w) (h := h) f I J T hW.1 hW.2.2.1 hp hM hw1 hw8 h64 hf]
  simp only [ret9]
  rw [b128_5]
  by_cases z1 : HT w h (bt f)
  · rw [bi1 z1, if_neg (by decide)]
    by_cases z2 : I 5 0 10 = 2
    · rw [if_neg (fun y => y z2), thinC d (w := w) f I J T hW.1]
      simp only [ret9]
      rw [b128_21]
      have tb := th_bt (J := J) (f := f) hM hw1 hw8 h64 hf
      by_cases z3 : thJ J w f = 0
      · rw [if_neg (fun y => y ((lg0 _ _).mpr z3)), bi1 ⟨z1, fun _ c hc hq => Classical.byContradiction (fun x => by
          have := (tb c).mpr ⟨hq, x⟩
          rw [z3, bt_zero] at this
          cases this)⟩]
      · rw [if_pos (fun y => z3 ((lg0 _ _).mp y)), bi0]
        intro y
        apply z3
        rw [eq0_bt]
        intro c hc
        cases x : bt (thJ J w f) c with
        | false => rfl
        | true =>
          obtain ⟨x1, x2⟩ := (tb c).mp x
          exact absurd (y.2 z2 c (hf c x1) x1) x2
    · rw [if_pos z2, bi1 ⟨z1, fun y => absurd y z2⟩]
  · rw [bi0 z1, if_pos rfl, bi0 (fun y => z1 y.1)]
theorem law2C (d : Nat) {w h f t : Nat} (x : Int64) (I : PI) (J : PJ) (T : TL) (hW : RelW I w h) (hp : 0 < w * h) (hM : RelM J w h) (hf : f < 6) (ht : t < 6) (h1 : ∀ c, bt (J 42 1 f ^^^ x) c = true → c < w * h) (h2 : ∀ c, bt (J 42 1 t ^^^ x) c = true → c < w * h) : cal (d + 3) 127 [vr 6 0, vi (nn f), vi (nn t), vl x] (MX I J T) = some (.inl (some (vi (bi (LFP w h (I 5 0 10) (bt (J 42 1 f ^^^ x)) ∧ LFP w h (I 5 0 10) (bt (J 42 1 t ^^^ x)))))), MX I J T) := by
  rw [c127, if_pos (nn_inR hf (by omega)), nn_idx (by omega), law1C d _ I J T hW hp hM h1]
  simp only [ret9]
  rw [b127_18]
  by_cases z1 : LFP w h (I 5 0 10) (bt (J 42 1 f ^^^ x))
  · rw [bi1 z1, if_neg (by decide), if_pos (nn_inR ht (by omega)), nn_idx (by omega), law1C d _ I J T hW hp hM h2]
    simp only [ret9]
    rw [b127_39]
    by_cases z2 : LFP w h (I 5 0 10) (bt (J 42 1 t ^^^ x))
    · rw [bi1 z2, if_neg (by decide), bi1 ⟨z1, z2⟩]
    · rw [bi0 z2, if_pos rfl, bi0 (fun y => z2 y.2)]
  · rw [bi0 z1, if_pos rfl, bi0 (fun y => z1 y.1)]
