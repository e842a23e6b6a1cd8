/-! Sides between sets of cells -/
def sQ (f : Nat → Nat) : Nat → Nat
  | 0 => 0
  | n + 1 => sQ f n + f n
theorem sQ_congr {f g : Nat → Nat} : ∀ n, (∀ c, c < n → f c = g c) → sQ f n = sQ g n
  | 0, _ => rfl
  | n + 1, h => by
    show sQ f n + f n = sQ g n + g n
    rw [sQ_congr n (fun c hc => h c (by omega)), h n (by omega)]
theorem sQ_add (f g : Nat → Nat) : ∀ n, sQ (fun c => f c + g c) n = sQ f n + sQ g n
  | 0 => rfl
  | n + 1 => by
    show sQ (fun c => f c + g c) n + (f n + g n) = sQ f n + f n + (sQ g n + g n)
    rw [sQ_add f g n]; omega
theorem sQ_zero : ∀ n, sQ (fun _ => 0) n = 0
  | 0 => rfl
  | n + 1 => by
    show sQ (fun _ => 0) n + 0 = 0
    rw [sQ_zero n]
theorem sQ_le {f : Nat → Nat} {m : Nat} (h : ∀ c, f c ≤ m) : ∀ n, sQ f n ≤ m * n
  | 0 => Nat.zero_le _
  | n + 1 => by
    show sQ f n + f n ≤ m * (n + 1)
    have := sQ_le h n
    have := h n
    rw [Nat.mul_succ]; omega
theorem ct_sQ (f : Nat → Bool) : ∀ n, ct f n 0 0 = sQ (fun c => if f c = true then 1 else 0) n
  | 0 => rfl
  | n + 1 => by
    rw [ct_app f n 1 0 0, ct_sQ f n, Nat.zero_add]
    show (if f n = true then sQ _ n + 1 else sQ _ n) = sQ _ n + (if f n = true then 1 else 0)
    by_cases h : f n = true
    · rw [if_pos h, if_pos h]
    · rw [if_neg h, if_neg h, Nat.add_zero]
/-- does the neighbour at a side belong to it? -/
def nbI (w h : Nat) (P : Nat → Bool) (c s : Nat) : Bool := match nb w h c s with
  | some e => P e
  | none => false
def nb4 (w h : Nat) (P : Nat → Bool) (c : Nat) : Nat := (if nbI w h P c 1 = true then 1 else 0) + (if nbI w h P c 0 = true then 1 else 0) + (if nbI w h P c 2 = true then 1 else 0) + (if nbI w h P c 3 = true then 1 else 0)
theorem nb4_le (w h : Nat) (P : Nat → Bool) (c : Nat) : nb4 w h P c ≤ 4 := by
  unfold nb4
  split <;> split <;> split <;> split <;> omega
section SIDES
variable {J : PJ} {w h : Nat} {f : Int64}
theorem sd_e (hM : RelM J w h) (hw1 : 1 ≤ w) (h64 : w * h ≤ 64) {c : Nat} (hc : c < w * h) : bt (lsh9 (f &&& ((J 5 0 15) ^^^ (-1))) 1) c = nbI w h (bt f) c 1 := by
  rw [show (1 : Int32) = nn 1 from rfl, bt_lsh _ (by omega), bt_and, bt_not]
  unfold nbI nb
  simp only []
  by_cases h0 : 0 < c % w
  · rw [if_pos h0]
    have h2 : 1 ≤ c := by
      rcases Nat.eq_zero_or_pos c with z | z
      · rw [z, Nat.zero_mod] at h0; omega
      · exact z
    have e15 := (hM (c - 1) (by omega)).2.2
    have : ¬ (c - 1 < w * h ∧ (c - 1) % w + 1 = w) := by
      intro z
      have := (mod_succ hw1 (c - 1)).2 z.2
      rw [Nat.sub_add_cancel h2] at this
      omega
    rw [e15, decide_eq_false this]
    have a1 : c < 64 := by omega
    have a2 : ¬ c < 1 := by omega
    have a3 : c - 1 < 64 := by omega
    simp [a1, a2, a3]
    try (intro z; omega)
  · rw [if_neg h0]
    by_cases hc0 : c < 1
    · simp [hc0]
    · have e15 := (hM (c - 1) (by omega)).2.2
      have hz : c % w = 0 := by omega
      have : (c - 1) % w + 1 = w := by
        have m1 : (c - 1) % w < w := Nat.mod_lt _ (by omega)
        rcases Nat.lt_or_ge ((c - 1) % w + 1) w with g | g
        · have := (mod_succ hw1 (c - 1)).1 g
          rw [Nat.sub_add_cancel (by omega)] at this
          omega
        · omega
      rw [e15, decide_eq_true (show c - 1 < w * h ∧ (c - 1) % w + 1 = w from ⟨by omega, this⟩)]
      simp
theorem sd_w (hM : RelM J w h) (hw1 : 1 ≤ w) (h64 : w * h ≤ 64) (hf : ∀ c, bt f c = true → c < w * h) {c : Nat} (hc : c < w * h) : bt (lus9 (f &&& ((J 5 0 14) ^^^ (-1))) 1) c = nbI w h (bt f) c 0 := by
  rw [show (1 : Int32) = nn 1 from rfl, bt_lus _ (by omega), bt_and, bt_not]
  unfold nbI nb
  simp only []
  rw [Nat.add_comm 1 c]
  cases hb : bt f (c + 1) with
  | false => by_cases h0 : c % w + 1 < w <;> simp [h0, hb]
  | true =>
    have hlt := hf _ hb
    have e14 := (hM (c + 1) (by omega)).2.1
    by_cases h0 : c % w + 1 < w
    · have : ¬ (c + 1 < w * h ∧ (c + 1) % w = 0) := by
        intro z
        rw [(mod_succ hw1 c).1 h0] at z
        omega
      rw [if_pos h0, e14, decide_eq_false this]
      have a3 : c + 1 < 64 := by omega
      simp [a3, hb]
    · have m1 : c % w < w := Nat.mod_lt _ (by omega)
      rw [if_neg h0, e14, decide_eq_true (show c + 1 < w * h ∧ (c + 1) % w = 0 from ⟨hlt, (mod_succ hw1 c).2 (by omega)⟩)]
      simp
theorem sd_n (hw8 : w ≤ 8) (h64 : w * h ≤ 64) {c : Nat} (hc : c < w * h) : bt (lsh9 f (nn w)) c = nbI w h (bt f) c 2 := by
  rw [bt_lsh _ (by omega)]
  unfold nbI nb
  simp only []
  have a1 : c < 64 := by omega
  by_cases h0 : w ≤ c
  · have a2 : ¬ c < w := by omega
    simp [h0, a1, a2]
  · have a2 : c < w := by omega
    simp [h0, a2]
theorem sd_s (hw8 : w ≤ 8) (hf : ∀ c, bt f c = true → c < w * h) {c : Nat} : bt (lus9 f (nn w)) c = nbI w h (bt f) c 3 := by
  rw [bt_lus _ (by omega)]
  unfold nbI nb
  simp only []
  rw [Nat.add_comm w c]
  by_cases h0 : c + w < w * h
  · rw [if_pos h0]
  · rw [if_neg h0]
    cases hb : bt f (c + w) with
    | false => rfl
    | true => exact absurd (hf _ hb) h0
/-- bits of a set within the ground, counted where another says so -/
theorem ct_in {x g : Int64} {n : Nat} (hn : n ≤ 64) (hg : ∀ c, bt g c = true → c < n) (Q : Nat → Bool) (hx : ∀ c, c < n → bt x c = Q c) : ct (bt (x &&& g)) 64 0 0 = sQ (fun c => if bt g c = true then (if Q c = true then 1 else 0) else 0) n := by
  rw [ct_trunc hn (fun i hi => by
    rw [bt_and]
    cases hb : bt g i with
    | false => simp
    | true => have := hg i hb; omega), ct_sQ]
  apply sQ_congr
  intro c hc
  rw [bt_and, hx c hc]
  by_cases h1 : bt g c = true
  · rw [if_pos h1, h1, Bool.and_true]
  · rw [if_neg h1]
    have : bt g c = false := by
      cases z : bt g c with
      | false => rfl
      | true => exact absurd z h1
    rw [this, Bool.and_false]
    rfl
end SIDES
theorem sidesC (d : Nat) {w h : Nat} (f g : Int64) (I : PI) (J : PJ) (T : TL) (hw : I 5 0 7 = nn w) (hM : RelM J w h) (hw1 : 1 ≤ w) (hw8 : w ≤ 8) (h64 : w * h ≤ 64) (hf : ∀ c, bt f c = true → c < w * h) (hg : ∀ c, bt g c = true → c < w * h) : cal (d + 1) 102 [vr 5 0, vl f, vl g] (MX I J T) = some (.inl (some (vi (nn (sQ (fun c => if bt g c = true then nb4 w h (bt f) c else 0) (w * h))))), MX I J T) := by
  rw [c102, c59]
  simp only [ret9]
  rw [b102_5, bitC]
  simp only [ret9]
  rw [b102_10, c60]
  simp only [ret9]
  rw [b102_15, bitC]
  simp only [ret9]
  rw [b102_20, bitC]
  simp only [ret9]
  rw [b102_32, bitC]
  simp only [ret9]
  rw [b102_44, hw, ct_in h64 hg (fun c => nbI w h (bt f) c 1) (fun c hc => sd_e hM hw1 h64 hc), ct_in h64 hg (fun c => nbI w h (bt f) c 0) (fun c hc => sd_w hM hw1 h64 hf hc), ct_in h64 hg (fun c => nbI w h (bt f) c 2) (fun c hc => sd_n hw8 h64 hc), ct_in h64 hg (fun c => nbI w h (bt f) c 3) (fun c hc => sd_s hw8 hf), nn_add, nn_add, nn_add, ← sQ_add, ← sQ_add, ← sQ_add]
  congr 5
  apply congrArg nn
  apply sQ_congr
  intro c hc
  unfold nb4
  by_cases h1 : bt g c = true
  · simp only [if_pos h1]
  · simp only [if_neg h1]
