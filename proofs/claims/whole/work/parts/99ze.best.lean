/-! The best of few cells: hopes -/
theorem ii_of (x : Int32) : ii x.toInt = x := Int32.ofInt_toInt x
theorem sm_iis {f : Nat → Int32} {g : Nat → Int} : ∀ k, (∀ i, i < k → f i = ii (g i)) → sm f k 0 0 = ii (sI g k)
  | 0, _ => rfl
  | k + 1, h => by
    rw [sm_end, sm_iis k (fun i hi => h i (by omega)), Nat.zero_add, h k (by omega), ii_add]
    rfl
theorem sI_abs {f : Nat → Int} {m : Int} : ∀ n : Nat, (∀ c, c < n → -m ≤ f c ∧ f c ≤ m) → -(m * n) ≤ sI f n ∧ sI f n ≤ m * n
  | 0, _ => by
    show -(m * ((0 : Nat) : Int)) ≤ 0 ∧ 0 ≤ m * ((0 : Nat) : Int)
    rw [show ((0 : Nat) : Int) = 0 from rfl, Int.mul_zero]
    omega
  | n + 1, h => by
    have h1 := sI_abs n (fun c hc => h c (by omega))
    have h2 := h n (by omega)
    show -(m * ((n + 1 : Nat) : Int)) ≤ sI f n + f n ∧ sI f n + f n ≤ m * ((n + 1 : Nat) : Int)
    rw [show ((n + 1 : Nat) : Int) = (n : Int) + 1 from rfl, Int.mul_add, Int.mul_one]
    omega
theorem sI_mono {f g : Nat → Int} : ∀ n, (∀ c, c < n → f c ≤ g c) → sI f n ≤ sI g n
  | 0, _ => Int.le_refl 0
  | n + 1, h => by
    have h1 := sI_mono n (fun c hc => h c (by omega))
    have h2 := h n (by omega)
    show sI f n + f n ≤ sI g n + g n
    omega
theorem sI_upd {f g : Nat → Int} {q : Nat} : ∀ n, (∀ i, i < n → ¬ i = q → g i = f i) → q < n → sI g n = sI f n - f q + g q
  | 0, _, hq => absurd hq (by omega)
  | n + 1, h, hq => by
    show sI g n + g n = sI f n + f n - f q + g q
    by_cases z : q = n
    · subst z
      rw [sI_congr (f := g) (g := f) q (fun c hc => h c (by omega) (by omega))]
      omega
    · rw [sI_upd n (fun i hi => h i (by omega)) (by omega), h n (by omega) (fun y => z y.symm)]
      omega
theorem sI_step {f : Nat → Int} {m : Int} (c : Nat) : ∀ d : Nat, (∀ i, 0 ≤ f i ∧ f i ≤ m) → 0 ≤ sI f (c + d) - sI f c ∧ sI f (c + d) - sI f c ≤ m * d
  | 0, _ => by
    rw [Nat.add_zero, show ((0 : Nat) : Int) = 0 from rfl, Int.mul_zero]
    omega
  | d + 1, h => by
    have h1 := sI_step c d h
    have h2 := h (c + d)
    show 0 ≤ sI f (c + d) + f (c + d) - sI f c ∧ sI f (c + d) + f (c + d) - sI f c ≤ m * ((d + 1 : Nat) : Int)
    rw [show ((d + 1 : Nat) : Int) = (d : Int) + 1 from rfl, Int.mul_add, Int.mul_one]
    omega
theorem wb_i {x : Int32} (h : wb x) : -10000 ≤ x.toInt ∧ x.toInt ≤ 10000 := ⟨i32le.mp h.1, i32le.mp h.2⟩
def mxI (z : Int) : Int := if z ≤ 0 then 0 else z
theorem mxI_mono {a b : Int} (h : a ≤ b) : mxI a ≤ mxI b := by
  unfold mxI
  repeat' split
  all_goals omega
theorem mx0_ii {z : Int} (h1 : -2147483648 ≤ z) (h2 : z < 2147483648) : mx0 (ii z) = ii (mxI z) := by
  unfold mx0 mxI
  by_cases q : z ≤ 0
  · rw [if_pos (show ii z ≤ 0 from (ii_le (b := 0) h1 h2 (by omega) (by omega)).mpr q), if_pos q]; rfl
  · rw [if_neg (show ¬ ii z ≤ 0 from fun y => q ((ii_le (b := 0) h1 h2 (by omega) (by omega)).mp y)), if_neg q]
section HOP
variable (kp wt pr had : Nat → Int32) (n o : Nat)
def suI (ws : Nat → Int32) (k : Nat) (x : Int32) : Int := sI (fun c => (if ws c = x then pr (64 * k + c) else 0).toInt) n
def may9 (k c : Nat) : Prop := kp c = -1 ∨ kp c = nn k
def PB : Prop := ∀ k, k < o → ∀ c, c < n → wb (pr (64 * k + c))
theorem SU_ii (ws : Nat → Int32) (k : Nat) (x : Int32) : SU ws pr n k x = ii (suI pr n ws k x) := sm_iis n (fun i _ => (ii_of _).symm)
theorem suI_b (hP : PB pr n o) (ws : Nat → Int32) {k : Nat} (hk : k < o) (x : Int32) : -(10000 * (n : Int)) ≤ suI pr n ws k x ∧ suI pr n ws k x ≤ 10000 * (n : Int) := sI_abs n (fun c hc => by
  by_cases z : ws c = x
  · rw [if_pos z]; exact wb_i (hP k hk c hc)
  · rw [if_neg z]; show -10000 ≤ (0 : Int) ∧ (0 : Int) ≤ 10000; omega)
theorem suI_u (ws : Nat → Int32) {c : Nat} (hc : c < n) (hw : ws c = -1) (k : Nat) {q x : Nat} (hq : q < 6) (hx : x < 6) : suI pr n (wu ws c (nn q)) k (nn x) = suI pr n ws k (nn x) + (if q = x then (pr (64 * k + c)).toInt else 0) := by
  unfold suI
  rw [sI_upd (f := fun c => (if ws c = nn x then pr (64 * k + c) else 0).toInt) (q := c) n (fun i _ hi => by unfold wu; rw [if_neg hi]) hc]
  rw [hw, if_neg (fun y => nn_ne_neg (a := x) (by omega) y.symm), show wu ws c (nn q) c = nn q from if_pos rfl]
  by_cases z : q = x
  · rw [if_pos (by rw [z]), if_pos z]
    show _ - (0 : Int) + _ = _
    omega
  · rw [if_neg (fun y => z ((nn_inj (by omega) (by omega)).mp y)), if_neg z]
    show _ - (0 : Int) + 0 = _
    omega
noncomputable def hpF (k c : Nat) : Int := @ite _ (wt c = 0 ∧ may9 kp k c) (Classical.propDecidable _) (max9 0 (pr (64 * k + c))).toInt 0
noncomputable def pcF (k c : Nat) : Int32 := @ite _ (may9 kp k c) (Classical.propDecidable _) (pr (64 * k + c)) (-2147483648)
noncomputable def GRT (c : Nat) : Int32 := itn (fun k g => max9 g (pcF kp pr k c)) o 0 (-2147483648)
noncomputable def grF (c : Nat) : Int := if wt c = 0 then (GRT kp pr o c).toInt else 0
noncomputable def HP (k c : Nat) : Int := sI (hpF kp wt pr k) n - sI (hpF kp wt pr k) c
noncomputable def GG (c : Nat) : Int := sI (grF kp wt pr o) n - sI (grF kp wt pr o) c
theorem max9_i (a b : Int32) : a.toInt ≤ (max9 a b).toInt ∧ b.toInt ≤ (max9 a b).toInt ∧ (max9 a b = a ∨ max9 a b = b) := by
  unfold max9
  by_cases z : a < b
  · rw [if_pos z]; have := i32lt.mp z; exact ⟨by omega, by omega, .inr rfl⟩
  · rw [if_neg z]; have := i32le.mp (i32_nlt.mp z); exact ⟨by omega, by omega, .inl rfl⟩
theorem hpF_b (hP : PB pr n o) {k : Nat} (hk : k < o) {c : Nat} (hc : c < n) : 0 ≤ hpF kp wt pr k c ∧ hpF kp wt pr k c ≤ 10000 := by
  unfold hpF
  split
  · obtain ⟨m1, m2, m3⟩ := max9_i 0 (pr (64 * k + c))
    have hb := wb_i (hP k hk c hc)
    have z0 : (0 : Int32).toInt = 0 := rfl
    rcases m3 with y | y
    · rw [y]; omega
    · rw [y] at m1 ⊢; omega
  · omega
theorem HP_b (hP : PB pr n o) {k : Nat} (hk : k < o) {c : Nat} (hc : c ≤ n) : 0 ≤ HP kp wt pr n k c ∧ HP kp wt pr n k c ≤ 10000 * (n : Int) := by
  have key : ∀ d, c + d ≤ n → 0 ≤ sI (hpF kp wt pr k) (c + d) - sI (hpF kp wt pr k) c ∧ sI (hpF kp wt pr k) (c + d) - sI (hpF kp wt pr k) c ≤ 10000 * (d : Int) := by
    intro d
    induction d with
    | zero => intro _; rw [Nat.add_zero, show ((0 : Nat) : Int) = 0 from rfl, Int.mul_zero]; omega
    | succ d ih =>
      intro hd
      have h1 := ih (by omega)
      have h2 := hpF_b kp wt pr n o hP hk (show c + d < n by omega)
      show 0 ≤ sI (hpF kp wt pr k) (c + d) + hpF kp wt pr k (c + d) - sI (hpF kp wt pr k) c ∧ sI (hpF kp wt pr k) (c + d) + hpF kp wt pr k (c + d) - sI (hpF kp wt pr k) c ≤ _
      omega
  have := key (n - c) (by omega)
  unfold HP
  rw [show c + (n - c) = n by omega] at this
  omega
theorem HP_s (k c : Nat) : HP kp wt pr n k c = HP kp wt pr n k (c + 1) + hpF kp wt pr k c := by
  unfold HP
  show _ = sI _ n - (sI _ c + hpF kp wt pr k c) + hpF kp wt pr k c
  omega
theorem GG_s (c : Nat) : GG kp wt pr n o c = GG kp wt pr n o (c + 1) + grF kp wt pr o c := by
  unfold GG
  show _ = sI _ n - (sI _ c + grF kp wt pr o c) + grF kp wt pr o c
  omega
theorem GRT_ge (c : Nat) : ∀ m k (g : Int32), g.toInt ≤ (itn (fun k g => max9 g (pcF kp pr k c)) m k g).toInt ∧ ∀ q, k ≤ q → q < k + m → (pcF kp pr q c).toInt ≤ (itn (fun k g => max9 g (pcF kp pr k c)) m k g).toInt
  | 0, k, g => ⟨by rw [itn_z]; exact Int.le_refl _, fun q h1 h2 => absurd h2 (by omega)⟩
  | m + 1, k, g => by
    rw [itn_su]
    obtain ⟨h1, h2⟩ := GRT_ge c m (k + 1) (max9 g (pcF kp pr k c))
    obtain ⟨m1, m2, -⟩ := max9_i g (pcF kp pr k c)
    refine ⟨by omega, fun q q1 q2 => ?_⟩
    by_cases z : q = k
    · subst z; omega
    · exact h2 q (by omega) (by omega)
theorem GRT_le (c : Nat) : ∀ m k (g : Int32), (itn (fun k g => max9 g (pcF kp pr k c)) m k g = g) ∨ ∃ q, k ≤ q ∧ q < k + m ∧ itn (fun k g => max9 g (pcF kp pr k c)) m k g = pcF kp pr q c
  | 0, k, g => .inl (itn_z _ _ _)
  | m + 1, k, g => by
    rw [itn_su]
    obtain ⟨-, -, m3⟩ := max9_i g (pcF kp pr k c)
    rcases GRT_le c m (k + 1) (max9 g (pcF kp pr k c)) with z | ⟨q, q1, q2, q3⟩
    · rcases m3 with y | y
      · exact .inl (z.trans y)
      · exact .inr ⟨k, by omega, by omega, z.trans y⟩
    · exact .inr ⟨q, by omega, by omega, q3⟩
theorem pcF_1 {k c : Nat} (h : may9 kp k c) : pcF kp pr k c = pr (64 * k + c) := by unfold pcF; rw [if_pos h]
theorem pcF_0 {k c : Nat} (h : ¬ may9 kp k c) : pcF kp pr k c = -2147483648 := by unfold pcF; rw [if_neg h]
theorem min32 : (-2147483648 : Int32).toInt = -2147483648 := by decide
theorem GRT_b (hP : PB pr n o) {c : Nat} (hc : c < n) (hm : ∃ k, k < o ∧ may9 kp k c) : (∀ k, k < o → may9 kp k c → (pr (64 * k + c)).toInt ≤ (GRT kp pr o c).toInt) ∧ -10000 ≤ (GRT kp pr o c).toInt ∧ (GRT kp pr o c).toInt ≤ 10000 := by
  obtain ⟨h1, h2⟩ := GRT_ge kp pr c o 0 (-2147483648)
  have h3 := GRT_le kp pr c o 0 (-2147483648)
  have a : ∀ k, k < o → may9 kp k c → (pr (64 * k + c)).toInt ≤ (GRT kp pr o c).toInt := fun k hk hy => by
    have := h2 k (by omega) (by omega)
    rw [pcF_1 kp pr hy] at this
    exact this
  obtain ⟨k, hk, hy⟩ := hm
  have b := a k hk hy
  have bb := wb_i (hP k hk c hc)
  refine ⟨a, by omega, ?_⟩
  unfold GRT at b ⊢
  rcases h3 with z | ⟨q, q1, q2, q3⟩
  · rw [z, min32]; omega
  · rw [q3]
    by_cases y : may9 kp q c
    · rw [pcF_1 kp pr y]; exact (wb_i (hP q (by omega) c hc)).2
    · rw [pcF_0 kp pr y, min32]; omega
/-- what the class holds against the best so far -/
noncomputable def shH (ws : Nat → Int32) (c : Nat) : Int := sI (fun k => mxI ((had k).toInt - suI pr n ws k (nn k) - HP kp wt pr n k c)) o
noncomputable def toH (ws : Nat → Int32) (c : Nat) : Int := GG kp wt pr n o c + sI (fun k => suI pr n ws k (nn k)) o
def HLs (s0 t0 : Int) (c : Nat) (ws : Nat → Int32) : Prop := (∀ i, c ≤ i → ws i = -1) ∧ (s0 < shH kp wt pr had n o ws c ∨ (s0 = shH kp wt pr had n o ws c ∧ toH kp wt pr n o ws c ≤ t0))
theorem HL_dry (hP : PB pr n o) (ho6 : o ≤ 6) {s0 t0 : Int} {c : Nat} {ws : Nat → Int32} {q : Nat} (hc : c < n) (hh : HLs kp wt pr had n o s0 t0 c ws) (hw : wt c = 0) (hq : q < o) (hm : may9 kp q c) : HLs kp wt pr had n o s0 t0 (c + 1) (wu ws c (nn q)) := by
  obtain ⟨h1, h2⟩ := hh
  have hg := GRT_b kp pr n o hP hc ⟨q, hq, hm⟩
  have e1 : shH kp wt pr had n o ws c ≤ shH kp wt pr had n o (wu ws c (nn q)) (c + 1) := by
    apply sI_mono
    intro k hk
    apply mxI_mono
    rw [suI_u pr n ws hc (h1 c (by omega)) k (q := q) (x := k) (by omega) (by omega), HP_s kp wt pr n k c]
    have hb := hpF_b kp wt pr n o hP hk hc
    by_cases z : q = k
    · subst z
      rw [if_pos rfl]
      have : hpF kp wt pr q c = (max9 0 (pr (64 * q + c))).toInt := by unfold hpF; rw [if_pos ⟨hw, hm⟩]
      have m2 := (max9_i 0 (pr (64 * q + c))).2.1
      omega
    · rw [if_neg z]; omega
  have e2 : toH kp wt pr n o (wu ws c (nn q)) (c + 1) ≤ toH kp wt pr n o ws c := by
    unfold toH
    rw [GG_s kp wt pr n o c, sI_upd (f := fun k => suI pr n ws k (nn k)) (g := fun k => suI pr n (wu ws c (nn q)) k (nn k)) (q := q) o (fun k hko hk => by
      rw [suI_u pr n ws hc (h1 c (by omega)) k (q := q) (x := k) (by omega) (by omega), if_neg (fun y => hk y.symm)]; omega) hq, suI_u pr n ws hc (h1 c (by omega)) q (q := q) (x := q) (by omega) (by omega), if_pos rfl]
    have := hg.1 q hq hm
    have hgr : grF kp wt pr o c = (GRT kp pr o c).toInt := by unfold grF; rw [if_pos hw]
    omega
  refine ⟨fun i hi => ?_, ?_⟩
  · unfold wu; rw [if_neg (by omega)]; exact h1 i (by omega)
  · omega
theorem HL_wet (hP : PB pr n o) {s0 t0 : Int} {c : Nat} {ws : Nat → Int32} (hc : c < n) (hh : HLs kp wt pr had n o s0 t0 c ws) (hw : ¬ wt c = 0) : HLs kp wt pr had n o s0 t0 (c + 1) ws := by
  obtain ⟨h1, h2⟩ := hh
  have e1 : shH kp wt pr had n o ws (c + 1) = shH kp wt pr had n o ws c := by
    apply sI_congr
    intro k hk
    have : hpF kp wt pr k c = 0 := by unfold hpF; rw [if_neg (fun y => hw y.1)]
    rw [HP_s kp wt pr n k c, this, Int.add_zero]
  have e2 : toH kp wt pr n o ws (c + 1) = toH kp wt pr n o ws c := by
    unfold toH
    have : grF kp wt pr o c = 0 := by unfold grF; rw [if_neg hw]
    rw [GG_s kp wt pr n o c, this, Int.add_zero]
  exact ⟨fun i hi => h1 i (by omega), by rw [e1, e2]; exact h2⟩
/-- sums and shortages of a whole drawing -/
theorem SHO_ii (hP : PB pr n o) (hn : n ≤ 64) (hh : ∀ k, k < o → 0 ≤ had k ∧ had k ≤ 1000000) (ws : Nat → Int32) : SHO ws pr had n o = ii (shH kp wt pr had n o ws n) := by
  apply sm_iis
  intro k hk
  have hb := suI_b pr n o hP ws hk (nn k)
  have h1 : (0 : Int) ≤ (had k).toInt := i32le.mp (hh k hk).1
  have h2 : (had k).toInt ≤ 1000000 := i32le.mp (hh k hk).2
  have hz : HP kp wt pr n k n = 0 := Int.sub_self _
  rw [SU_ii, hz, Int.sub_zero, ← mx0_ii (by omega) (by omega), ← ii_sub, ii_of]
theorem TS_ii (ws : Nat → Int32) : TS ws pr n o = ii (toH kp wt pr n o ws n) := by
  unfold toH
  have hz : GG kp wt pr n o n = 0 := Int.sub_self _
  rw [hz, Int.zero_add]
  exact sm_iis o (fun k _ => SU_ii pr n ws k (nn k))
theorem shH_b (hP : PB pr n o) (hn : n ≤ 64) (ho6 : o ≤ 6) (hh : ∀ k, k < o → 0 ≤ had k ∧ had k ≤ 1000000) (ws : Nat → Int32) {c : Nat} (hc : c ≤ n) : -100000000 ≤ shH kp wt pr had n o ws c ∧ shH kp wt pr had n o ws c ≤ 100000000 := by
  have := sI_abs (f := fun k => mxI ((had k).toInt - suI pr n ws k (nn k) - HP kp wt pr n k c)) (m := 3000000) o (fun k hk => by
    have hb := suI_b pr n o hP ws hk (nn k)
    have h1 : (0 : Int) ≤ (had k).toInt := i32le.mp (hh k hk).1
    have h2 : (had k).toInt ≤ 1000000 := i32le.mp (hh k hk).2
    have h3 := HP_b kp wt pr n o hP hk hc
    unfold mxI
    split <;> omega)
  unfold shH
  omega
end HOP
