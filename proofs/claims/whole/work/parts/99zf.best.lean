/-! The best of few cells: the class's pieces -/
def FM (I : PI) (pk fd wo sf : Nat → Int32) : PI := upA (upA (upA (upA I 22 1 pk) 22 2 fd) 22 3 wo) 4 0 sf
theorem fm_wo (I : PI) (pk fd wo sf : Nat → Int32) (i : Nat) (v : Int32) : up3 (FM I pk fd wo sf) 22 3 i v = FM I pk fd (wu wo i v) sf := by
  unfold FM
  funext a b c
  unfold up3 upA wu
  by_cases h1 : a = 22
  · subst h1; simp
    by_cases h2 : b = 3
    · subst h2; simp
    · simp [h2]
  · simp [h1]
theorem fm_pk (I : PI) (pk fd wo sf : Nat → Int32) (i : Nat) (v : Int32) : up3 (FM I pk fd wo sf) 22 1 i v = FM I (wu pk i v) fd wo sf := by
  unfold FM
  funext a b c
  unfold up3 upA wu
  by_cases h1 : a = 22
  · subst h1; simp
    by_cases h2 : b = 1
    · subst h2; simp
    · simp [h2]
  · simp [h1]
theorem fm_fd (I : PI) (pk fd wo sf g : Nat → Int32) : upA (FM I pk fd wo sf) 22 2 g = FM I pk g wo sf := by
  unfold FM
  funext a b c
  unfold upA
  by_cases h1 : a = 22
  · subst h1; simp
    by_cases h2 : b = 2
    · subst h2; simp
    · simp [h2]
  · simp [h1]
theorem fm_sf (I : PI) (pk fd wo sf : Nat → Int32) (i : Nat) (v : Int32) : up3 (FM I pk fd wo sf) 4 0 i v = FM I pk fd wo (wu sf i v) := upA_up3 _ _ _ _ _ _
theorem i3 (a b : Nat) : nn a * 3 + nn b = nn (3 * a + b) := by
  rw [show (3 : Int32) = nn 3 from rfl, nn_mul, nn_add, Nat.mul_comm]
theorem i10 (a b : Nat) : nn a * 10 + nn b = nn (10 * a + b) := by
  rw [show (10 : Int32) = nn 10 from rfl, nn_mul, nn_add, Nat.mul_comm]
section FND
variable (d : Nat) (I : PI) (J : PJ) (T : TL) {o : Nat}
/-- a cell's worths put to an owner's, or taken from them -/
theorem turnF (ho3 : o ≤ 3) {c q : Nat} (hc : c < 64) (hq : q < o) (sg : Int32) (pk fd sf : Nat → Int32) (ff : Nat → Int64) (h10 : sf 10 = nn o) (wo : Nat → Int32) : ∃ wo2 : Nat → Int32, cal (d + 1) 145 [vr 4 0, vi (nn c), vi (nn q), vi sg] (MX (FM I pk fd wo sf) (upA J 41 0 ff) T) = some (.inl none, MX (FM I pk fd wo2 sf) (upA J 41 0 (fun i => if i = q then ff q ^^^ (lsh9 1 (nn c)) else ff i)) T) ∧ ∀ j x, j < o → x < o → wo2 (3 * j + x) = if x = q then wo (3 * j + q) + sg * I 34 0 (64 * j + c) else wo (3 * j + x) := by
  have lp : ∀ m j (wo1 : Nat → Int32) (J1 : PJ), j + m = o → (∀ j2 x, j2 < o → x < o → wo1 (3 * j2 + x) = if x = q ∧ j2 < j then wo (3 * j2 + q) + sg * I 34 0 (64 * j2 + c) else wo (3 * j2 + x)) → ∃ wo2 : Nat → Int32, den (d + 1) 145 15 [some (vr 4 0), some (vi (nn c)), some (vi (nn q)), some (vi sg), some (vi (nn j))] [] (MX (FM I pk fd wo1 sf) J1 T) = some (.inl none, MX (FM I pk fd wo2 sf) J1 T) ∧ ∀ j x, j < o → x < o → wo2 (3 * j + x) = if x = q then wo (3 * j + q) + sg * I 34 0 (64 * j + c) else wo (3 * j + x) := by
    intro m
    induction m with
    | zero =>
      intro j wo1 J1 hj hw
      refine ⟨wo1, ?_, fun j2 x h1 h2 => ?_⟩
      · have e10 : (FM I pk fd wo1 sf) 4 0 10 = nn o := h10
        rw [b145_15, e10, if_pos ((nn_le (by omega) (by omega)).mpr (by omega))]
      · rw [hw j2 x h1 h2]
        by_cases z : x = q
        · rw [if_pos z, if_pos ⟨z, by omega⟩]
        · rw [if_neg z, if_neg (fun y => z y.1)]
    | succ m ih =>
      intro j wo1 J1 hj hw
      have e10 : (FM I pk fd wo1 sf) 4 0 10 = nn o := h10
      have hr : inR (nn (3 * j + q)) 9 = true := nn_inR (by omega) (by omega)
      have pc := priceC d (k := j) (c := c) (FM I pk fd wo1 sf) J1 T (by omega) hc
      obtain ⟨wo2, e2, q2⟩ := ih (j + 1) (wu wo1 (3 * j + q) (wo1 (3 * j + q) + sg * I 34 0 (64 * j + c))) J1 (by omega) (fun j2 x h1 h2 => by
        unfold wu
        by_cases z : 3 * j2 + x = 3 * j + q
        · have zj : j2 = j := by omega
          have zx : x = q := by omega
          subst zj zx
          rw [if_pos rfl, if_pos ⟨rfl, by omega⟩, hw j2 x h1 h2, if_neg (by omega)]
        · rw [if_neg z, hw j2 x h1 h2]
          by_cases y : x = q
          · by_cases yj : j2 < j
            · rw [if_pos ⟨y, yj⟩, if_pos ⟨y, by omega⟩]
            · rw [if_neg (fun v => yj v.2), if_neg (fun v => by subst y; omega)]
          · rw [if_neg (fun v => y v.1), if_neg (fun v => y v.1)])
      refine ⟨wo2, ?_, q2⟩
      rw [b145_15, e10, if_neg (by rw [nn_le (by omega) (by omega)]; omega), i3, if_pos hr, pc]
      simp only [ret9]
      rw [b145_47, if_pos hr, nn_idx (by omega), fm_wo, nn_add1]
      exact e2
  obtain ⟨wo2, e2, q2⟩ := lp o 0 wo (upA J 41 0 (fun i => if i = q then ff q ^^^ (lsh9 1 (nn c)) else ff i)) (by omega) (fun j2 x _ _ => by rw [if_neg (by omega)])
  refine ⟨wo2, ?_, q2⟩
  rw [c145, if_pos (nn_inR (by omega) (by omega)), if_pos (nn_inR (by omega) (by omega)), nn_idx (by omega), upA_up3]
  exact e2
variable {w h : Nat}
/-- the worths and fields of a drawing, as the class holds them -/
def WOk (pr ws wo : Nat → Int32) (ff : Nat → Int64) (n o : Nat) : Prop := (∀ j x, j < o → x < o → wo (3 * j + x) = SU ws pr n j (nn x)) ∧ (∀ x, x < o → ∀ i, i < 64 → (bt (ff x) i = true ↔ (i < n ∧ ws i = nn x)))
theorem envyF (ho3 : o ≤ 3) {n : Nat} (hn : n ≤ 64) (ws : Nat → Int32) (pk fd wo sf : Nat → Int32) (ff : Nat → Int64) (h10 : sf 10 = nn o) (hW : WOk (I 34 0) ws wo ff n o) : cal d 142 [vr 4 0] (MX (FM I pk fd wo sf) (upA J 41 0 ff) T) = some (.inl (some (vi (PRS ws (I 34 0) n o))), MX (FM I pk fd wo sf) (upA J 41 0 ff) T) := by
  have e10 : (FM I pk fd wo sf) 4 0 10 = nn o := h10
  have inner : ∀ m q (k : Nat) (a : Int32), k < o → q + m = o → ∃ o4 : Option AV, den d 142 26 [some (vr 4 0), some (vi a), some (vi (nn k)), some (vi (wo (3 * k + k))), some (vi (nn q))] [] (MX (FM I pk fd wo sf) (upA J 41 0 ff) T) = den d 142 4 [some (vr 4 0), some (vi (sm (fun q => bi (¬ k = q ∧ EN ws (I 34 0) n k q)) m q a)), some (vi (nn (k + 1))), some (vi (wo (3 * k + k))), o4] [] (MX (FM I pk fd wo sf) (upA J 41 0 ff) T) := by
    intro m
    induction m with
    | zero =>
      intro q k a hk hq
      refine ⟨some (vi (nn q)), ?_⟩
      rw [b142_26, e10, if_pos ((nn_le (by omega) (by omega)).mpr (by omega)), nn_add1]
      rfl
    | succ m ih =>
      intro q k a hk hq
      have ej : (upA J 41 0 ff) 41 0 q = ff q := rfl
      have ew : (FM I pk fd wo sf) 22 3 (3 * k + q) = wo (3 * k + q) := rfl
      rw [b142_26, e10, if_neg (by rw [nn_le (by omega) (by omega)]; omega), if_pos (nn_inR (by omega) (by omega)), nn_idx (by omega), ej]
      have hz : (lg_cmp (ff q) 0 = 0) ↔ ¬ ∃ c, c < n ∧ ws c = nn q := by
        rw [lg0, eq0_bt]
        constructor
        · intro y ⟨c, c1, c2⟩
          have := (hW.2 q (by omega) c (by omega)).mpr ⟨c1, c2⟩
          rw [y c (by omega)] at this; cases this
        · intro y c hc
          cases x : bt (ff q) c with
          | false => rfl
          | true => exact absurd ⟨c, (hW.2 q (by omega) c hc).mp x⟩ y
      show ∃ o4, _ = den _ _ _ [_, some (vi (sm _ m (q + 1) (a + _))), _, _, _] _ _
      dsimp only
      rw [i3, nn_idx (by omega), ew, nn_add1]
      by_cases z : lg_cmp (ff q) 0 = 0
      · rw [if_pos z, bi0 (fun y => (hz.mp z) y.2.1), Int32.add_zero]
        exact ih (q + 1) k a hk (by omega)
      · have hex : ∃ c, c < n ∧ ws c = nn q := Classical.byContradiction (fun y => z (hz.mpr y))
        rw [if_neg z, if_pos (nn_inR (by omega) (by omega))]
        by_cases y : wo (3 * k + q) ≤ wo (3 * k + k)
        · rw [if_pos y, bi0 (fun x => by
            have := x.2.2
            rw [← hW.1 k q hk (by omega), ← hW.1 k k hk hk] at this
            exact i32_nlt.mpr y this), Int32.add_zero]
          exact ih (q + 1) k a hk (by omega)
        · rw [if_neg y, bi1 ⟨fun x => by subst x; exact y (Int32.le_refl _), hex, by
            rw [← hW.1 k q hk (by omega), ← hW.1 k k hk hk]
            exact i32_nle.mp y⟩]
          exact ih (q + 1) k (a + 1) hk (by omega)
  have outer : ∀ m k (a : Int32) (o3 o4 : Option AV), k + m = o → den d 142 4 [some (vr 4 0), some (vi a), some (vi (nn k)), o3, o4] [] (MX (FM I pk fd wo sf) (upA J 41 0 ff) T) = some (.inl (some (vi (itn (fun k a => sm (fun q => bi (¬ k = q ∧ EN ws (I 34 0) n k q)) o 0 a) m k a))), MX (FM I pk fd wo sf) (upA J 41 0 ff) T) := by
    intro m
    induction m with
    | zero =>
      intro k a o3 o4 hk
      rw [b142_4, e10, if_pos ((nn_le (by omega) (by omega)).mpr (by omega))]
      rfl
    | succ m ih =>
      intro k a o3 o4 hk
      obtain ⟨o5, e⟩ := inner o 0 k a (by omega) (by omega)
      rw [b142_4, e10, if_neg (by rw [nn_le (by omega) (by omega)]; omega), i3, if_pos (nn_inR (by omega) (by omega)), nn_idx (by omega)]
      exact e.trans (ih (k + 1) _ _ o5 (by omega))
  rw [c142]
  exact outer o 0 0 none none (by omega)
theorem lawF (ho3 : o ≤ 3) (hW : RelW I w h) (hp : 0 < w * h) (hM : RelM J w h) (ws : Nat → Int32) (pk fd wo sf : Nat → Int32) (ff : Nat → Int64) (h10 : sf 10 = nn o) (hO : WOk (I 34 0) ws wo ff (w * h) o) : cal (d + 3) 144 [vr 4 0] (MX (FM I pk fd wo sf) (upA J 41 0 ff) T) = some (.inl (some (vi (bi (∀ k, k < o → LFP w h (I 5 0 10) (FL ws k))))), MX (FM I pk fd wo sf) (upA J 41 0 ff) T) := by
  have e10 : (FM I pk fd wo sf) 4 0 10 = nn o := h10
  have h64 := relW_le hW
  obtain ⟨-, -, hw1, hw8, hh1, hh8⟩ := relGW hW hp
  have lp : ∀ m k, k + m = o → den (d + 3) 144 2 [some (vr 4 0), some (vi (nn k))] [] (MX (FM I pk fd wo sf) (upA J 41 0 ff) T) = some (.inl (some (vi (bi (∀ q, k ≤ q → q < o → LFP w h (I 5 0 10) (FL ws q))))), MX (FM I pk fd wo sf) (upA J 41 0 ff) T) := by
    intro m
    induction m with
    | zero =>
      intro k hk
      rw [b144_2, e10, if_pos ((nn_le (by omega) (by omega)).mpr (by omega)), bi1 (fun q h1 h2 => absurd h2 (by omega))]
    | succ m ih =>
      intro k hk
      have hf : ∀ c, bt (ff k) c = true → c < w * h := fun c hc => ((hO.2 k (by omega) c (bt_64 hc)).mp hc).1
      have lw := law1C d (w := w) (h := h) (ff k) (FM I pk fd wo sf) (upA J 41 0 ff) T hW hp hM hf
      change cal (d + 2) 128 _ _ = some (.inl (some (vi (bi (LFP w h (I 5 0 10) (bt (ff k)))))), _) at lw
      have hiff : LFP w h (I 5 0 10) (bt (ff k)) ↔ LFP w h (I 5 0 10) (FL ws k) := LFP_iff hw1 (fun c hc => by
        unfold FL
        cases z : bt (ff k) c with
        | true => exact (decide_eq_true ((hO.2 k (by omega) c (by omega)).mp z).2).symm
        | false => exact (decide_eq_false (fun y => by rw [(hO.2 k (by omega) c (by omega)).mpr ⟨hc, y⟩] at z; cases z)).symm)
      rw [b144_2, e10, if_neg (by rw [nn_le (by omega) (by omega)]; omega), if_pos (nn_inR (by omega) (by omega)), nn_idx (by omega)]
      show ret9 _ _ _ _ _ _ (cal (d + 2) 128 [vr 5 0, vl (ff k)] _) = _
      rw [lw]
      simp only [ret9]
      rw [b144_23]
      by_cases z : LFP w h (I 5 0 10) (bt (ff k))
      · rw [bi1 z, if_pos (by decide), nn_add1, ih (k + 1) (by omega)]
        congr 4; congr 1
        apply bi_congr
        constructor
        · intro y q h1 h2
          by_cases x : q = k
          · subst x; exact hiff.mp z
          · exact y q (by omega) h2
        · intro y q h1 h2
          exact y q (by omega) h2
      · rw [bi0 z, if_neg (fun y => y rfl), bi0 (fun y => z (hiff.mpr (y k (by omega) (by omega))))]
  rw [c144, show (0 : Int32) = nn 0 from rfl, lp o 0 (by omega)]
  congr 4; congr 1
  apply bi_congr
  exact ⟨fun y k hk => y k (by omega) hk, fun y k _ hk => y k hk⟩
end FND
