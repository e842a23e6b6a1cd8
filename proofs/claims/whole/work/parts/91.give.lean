/-! A drawing as a function; giving cells; kept cells and doors -/
def wu (ws : Nat → Int32) (c : Nat) (v : Int32) : Nat → Int32 := fun i => if i = c then v else ws i
/-- the class's arrays a, f hold the drawing ws -/
def DR (ws a : Nat → Int32) (f : Nat → Int64) (n o : Nat) : Prop := (∀ c, c < n → a c = ws c ∧ ownr o (ws c)) ∧ ∀ k, k < 6 → ∀ c, c < 64 → (bt (f k) c = true ↔ (c < n ∧ ws c = nn k))
theorem DR_rel {I : PI} {J : PJ} {n o : Nat} : DR (I 28 7) (I 28 3) (J 42 1) n o ↔ RelD I J n o := Iff.rfl
theorem gv_upA (J : PJ) (c : Nat) (x v : Int32) : gvJ J c x v = upA J 42 1 (gvJ J c x v 42 1) := by
  funext a b k
  unfold upA
  by_cases h1 : a = 42
  · by_cases h2 : b = 1
    · subst h1; subst h2; simp
    · unfold gvJ; simp [h1, h2]
  · unfold gvJ; simp [h1]
theorem giveR (d : Nat) {n o c : Nat} {ws a : Nat → Int32} {f : Nat → Int64} (v : Int32) (I : PI) (J : PJ) (T : TL) (hR : DR ws a f n o) (hc : c < n) (hn : n ≤ 64) (ho6 : o ≤ 6) (hv : ownr o v) : ∃ f2 : Nat → Int64, cal d 82 [vr 3 0, vi (nn c), vi v] (MX (upA I 28 3 a) (upA J 42 1 f) T) = some (.inl none, MX (upA I 28 3 (wu a c v)) (upA J 42 1 f2) T) ∧ DR (wu ws c v) (wu a c v) f2 n o := by
  have e := give d (n := n) v (upA I 28 3 a) (upA J 42 1 f) T (show c < 64 by omega) ho6 (show ownr o (a c) by rw [(hR.1 c hc).1]; exact (hR.1 c hc).2) hv
  have r := relD_give (I := upA (upA I 28 3 a) 28 7 ws) (J := upA J 42 1 f) (v := v) (show RelD (upA (upA I 28 3 a) 28 7 ws) (upA J 42 1 f) n o from hR) hc hn hv
  refine ⟨gvJ (upA J 42 1 f) c (a c) v 42 1, ?_, r⟩
  rw [e, gv_upA, upA_upA, upA_up3]
  rfl
theorem wipeR (d : Nat) (n o : Nat) (I : PI) (J : PJ) (T : TL) (ws : Nat → Int32) (hn : n ≤ 64) (hw : ∀ c, c < n → ws c = -1) : ∃ (a : Nat → Int32) (f : Nat → Int64), cal (d + 1) 14 [vr 3 0] (MX I J T) = some (.inl none, MX (upA I 28 3 a) (upA J 42 1 f) T) ∧ DR ws a f n o := by
  refine ⟨_, _, wipeC d I J T, ?_, ?_⟩
  · intro c hc
    dsimp only
    rw [hw c hc, if_pos (show c < 64 by omega)]
    exact ⟨rfl, .inl rfl⟩
  · intro k hk c hc
    dsimp only
    rw [if_pos hk, bt_zero]
    constructor
    · intro z; cases z
    · intro ⟨h1, h2⟩
      rw [hw c h1] at h2
      exact absurd h2.symm (nn_ne_neg (by omega))
/-- the kept cells up to c -/
def KW (kp W : Nat → Int32) (n c : Nat) : Nat → Int32 := fun i => if i < c then kp i else if i < n then -1 else W i
theorem KW_0 (kp W : Nat → Int32) (n : Nat) : ∀ c, c < n → KW kp W n 0 c = -1 := by
  intro c hc
  unfold KW
  rw [if_neg (by omega), if_pos hc]
theorem KW_skip {kp W : Nat → Int32} {n c : Nat} (hc : c < n) (hk : kp c = -1) : KW kp W n (c + 1) = KW kp W n c := by
  funext i
  unfold KW
  by_cases h : i = c
  · subst h; rw [if_pos (by omega), if_neg (by omega), if_pos hc, hk]
  · by_cases h2 : i < c
    · rw [if_pos (by omega), if_pos h2]
    · rw [if_neg (by omega), if_neg h2]
theorem KW_upd {kp W : Nat → Int32} {n c : Nat} : KW kp W n (c + 1) = wu (KW kp W n c) c (kp c) := by
  funext i
  unfold KW wu
  by_cases h : i = c
  · subst h; rw [if_pos (by omega), if_pos rfl]
  · rw [if_neg h]
    dsimp only
    by_cases h2 : i < c
    · rw [if_pos (by omega), if_pos h2]
    · rw [if_neg (by omega), if_neg h2]
theorem KW_n (kp W : Nat → Int32) (n : Nat) : KW kp W n n = fun i => if i < n then kp i else W i := by
  funext i
  unfold KW
  by_cases h : i < n
  · rw [if_pos h, if_pos h]
  · rw [if_neg h, if_neg h, if_neg h]
theorem keptR (d : Nat) {n o : Nat} (kp W : Nat → Int32) (I : PI) (J : PJ) (T : TL) (hn9 : I 5 0 9 = nn n) (hn : n ≤ 64) (ho6 : o ≤ 6) (hk : ∀ c, c < n → I 28 2 c = kp c ∧ ownr o (kp c)) : ∀ m c (a : Nat → Int32) (f : Nat → Int64), c + m = n → DR (KW kp W n c) a f n o → ∃ (a2 : Nat → Int32) (f2 : Nat → Int64), den (d + 1) 117 2 [some (vr 3 0), some (vi (nn c))] [] (MX (upA I 28 3 a) (upA J 42 1 f) T) = some (.inl none, MX (upA I 28 3 a2) (upA J 42 1 f2) T) ∧ DR (KW kp W n n) a2 f2 n o := by
  intro m
  induction m with
  | zero =>
    intro c a f hc hR
    have : c = n := by omega
    subst this
    refine ⟨a, f, ?_, hR⟩
    rw [b117_2]
    show (if I 5 0 9 ≤ _ then _ else _) = _
    rw [hn9, if_pos (Int32.le_refl _)]
  | succ m ih =>
    intro c a f hc hR
    have hr : inR (nn c) 64 = true := nn_inR (by omega) (by omega)
    obtain ⟨k1, k2⟩ := hk c (by omega)
    by_cases hz : kp c = -1
    · obtain ⟨a2, f2, e, r⟩ := ih (c + 1) a f (by omega) (by rw [KW_skip (by omega) hz]; exact hR)
      refine ⟨a2, f2, ?_, r⟩
      rw [b117_2]
      show (if I 5 0 9 ≤ _ then _ else (if inR (nn c) 64 = true then (if I 28 2 (nn c).toNatClampNeg = -1 then _ else _) else none)) = _
      rw [hn9, if_neg (by rw [nn_le (by omega) (by omega)]; omega), if_pos hr, nn_idx (by omega), k1, if_pos hz, nn_add1]
      exact e
    · obtain ⟨f3, e3, r3⟩ := giveR d (kp c) I J T hR (show c < n by omega) hn ho6 k2
      rw [← KW_upd] at r3
      obtain ⟨a2, f2, e, r⟩ := ih (c + 1) (wu a c (kp c)) f3 (by omega) r3
      refine ⟨a2, f2, ?_, r⟩
      rw [b117_2]
      show (if I 5 0 9 ≤ _ then _ else (if inR (nn c) 64 = true then (if I 28 2 (nn c).toNatClampNeg = -1 then _ else (if inR (nn c) 64 = true then ret9 _ _ _ _ _ _ (cal d 82 [vr 3 0, vi (nn c), vi (I 28 2 (nn c).toNatClampNeg)] _) else none)) else none)) = _
      rw [hn9, if_neg (by rw [nn_le (by omega) (by omega)]; omega), if_pos hr, nn_idx (by omega), k1, if_neg hz, if_pos hr, e3]
      simp only [ret9]
      rw [b117_40, nn_add1]
      exact e
/-- doors are their owners' -/
def DO1 (wt : Nat → Int32) (dr : Nat → Nat) (k : Nat) (ws : Nat → Int32) : Nat → Int32 := if ws (dr k) = -1 ∧ wt (dr k) = 0 then wu ws (dr k) (nn k) else ws
theorem doorR (d : Nat) {n o : Nat} (wt : Nat → Int32) (dr : Nat → Nat) (I : PI) (J : PJ) (T : TL) (ho : I 1 T.1 3 = nn o) (hn : n ≤ 64) (ho6 : o ≤ 6) (hd : ∀ k, k < o → I 21 3 k = nn (dr k) ∧ dr k < n) (hwt : ∀ c, c < n → (bt (J 5 0 13) c = true ↔ ¬ wt c = 0)) : ∀ m k (ws a : Nat → Int32) (f : Nat → Int64) (o2 : Option AV), k + m = o → DR ws a f n o → ∃ (a2 : Nat → Int32) (f2 : Nat → Int64), den (d + 1) 118 2 [some (vr 3 0), some (vi (nn k)), o2] [] (MX (upA I 28 3 a) (upA J 42 1 f) T) = some (.inl none, MX (upA I 28 3 a2) (upA J 42 1 f2) T) ∧ DR (itn (DO1 wt dr) m k ws) a2 f2 n o := by
  intro m
  induction m with
  | zero =>
    intro k ws a f o2 hk hR
    refine ⟨a, f, ?_, hR⟩
    rw [b118_2]
    show (if I 1 T.1 3 ≤ _ then _ else _) = _
    rw [ho, if_pos ((nn_le (by omega) (by omega)).mpr (by omega))]
  | succ m ih =>
    intro k ws a f o2 hk hR
    obtain ⟨d1, d2⟩ := hd k (by omega)
    have hr : inR (nn k) 6 = true := nn_inR (by omega) (by omega)
    have hw := watC d (upA I 28 3 a) (upA J 42 1 f) T (c := dr k) (by omega)
    have e0 : den (d + 1) 118 2 [some (vr 3 0), some (vi (nn k)), o2] [] (MX (upA I 28 3 a) (upA J 42 1 f) T) = den (d + 1) 118 34 [some (vr 3 0), some (vi (nn k)), some (vi (nn (dr k)))] [vi (bi (bt (J 5 0 13) (dr k) = true))] (MX (upA I 28 3 a) (upA J 42 1 f) T) := by
      rw [b118_2]
      show (if I 1 T.1 3 ≤ _ then _ else (if inR (nn k) 6 = true then ret9 _ _ _ _ [some (vr 3 0), some (vi (nn k)), some (vi (I 21 3 (nn k).toNatClampNeg))] _ (cal d 94 [vr 5 0, vi (I 21 3 (nn k).toNatClampNeg)] _) else none)) = _
      rw [ho, if_neg (by rw [nn_le (by omega) (by omega)]; omega), if_pos hr, nn_idx (by omega), d1, hw]
      simp only [ret9]
      rfl
    have hr2 : inR (nn (dr k)) 64 = true := nn_inR (by omega) (by omega)
    by_cases hz : wt (dr k) = 0
    · have hb : ¬ bt (J 5 0 13) (dr k) = true := fun z => (hwt _ d2).mp z hz
      by_cases hy : ws (dr k) = -1
      · obtain ⟨f3, e3, r3⟩ := giveR d (nn k) I J T hR d2 hn ho6 (.inr ⟨k, by omega, rfl⟩)
        obtain ⟨a2, f2, e, r⟩ := ih (k + 1) (wu ws (dr k) (nn k)) (wu a (dr k) (nn k)) f3 (some (vi (nn (dr k)))) (by omega) r3
        refine ⟨a2, f2, ?_, ?_⟩
        · rw [e0, bi0 hb, b118_34, if_neg (fun z => z rfl), if_pos hr2, nn_idx (by omega)]
          show (if ¬ a (dr k) = -1 then _ else _) = _
          rw [(hR.1 _ d2).1, if_neg (fun z => z hy), e3]
          simp only [ret9]
          rw [b118_53, nn_add1]
          exact e
        · show DR (itn (DO1 wt dr) m (k + 1) (DO1 wt dr k ws)) a2 f2 n o
          rw [show DO1 wt dr k ws = wu ws (dr k) (nn k) by unfold DO1; rw [if_pos ⟨hy, hz⟩]]
          exact r
      · obtain ⟨a2, f2, e, r⟩ := ih (k + 1) ws a f (some (vi (nn (dr k)))) (by omega) hR
        refine ⟨a2, f2, ?_, ?_⟩
        · rw [e0, bi0 hb, b118_34, if_neg (fun z => z rfl), if_pos hr2, nn_idx (by omega)]
          show (if ¬ a (dr k) = -1 then _ else _) = _
          rw [(hR.1 _ d2).1, if_pos hy, nn_add1]
          exact e
        · show DR (itn (DO1 wt dr) m (k + 1) (DO1 wt dr k ws)) a2 f2 n o
          rw [show DO1 wt dr k ws = ws by unfold DO1; rw [if_neg (fun z => hy z.1)]]
          exact r
    · have hb : bt (J 5 0 13) (dr k) = true := (hwt _ d2).mpr hz
      obtain ⟨a2, f2, e, r⟩ := ih (k + 1) ws a f (some (vi (nn (dr k)))) (by omega) hR
      refine ⟨a2, f2, ?_, ?_⟩
      · rw [e0, bi1 hb, b118_34, if_pos (by decide), nn_add1]
        exact e
      · show DR (itn (DO1 wt dr) m (k + 1) (DO1 wt dr k ws)) a2 f2 n o
        rw [show DO1 wt dr k ws = ws by unfold DO1; rw [if_neg (fun z => hz z.2)]]
        exact r
