/-! The class's ways and neighbours -/
theorem stepsC (d : Nat) {w k c p : Nat} (I : PI) (J : PJ) (T : TL) (hw : I 5 0 7 = nn w) (hw1 : 1 ≤ w) (hw8 : w ≤ 8) (hk : k < 6) (hc : c < 64) (hp : p < 64) (hd : I 21 3 k = nn p) : cal d 61 [vr 5 0, vi (nn k), vi (nn c)] (MX I J T) = some (.inl (some (vi (nn (dst w c p)))), MX I J T) := by
  have hw0 : ¬ nn w = 0 := by rw [eq0n (by omega)]; omega
  have m1 : c % w ≤ c := Nat.mod_le _ _
  have m2 : p % w ≤ p := Nat.mod_le _ _
  have m3 : c / w ≤ c := Nat.div_le_self _ _
  have m4 : p / w ≤ p := Nat.div_le_self _ _
  rw [c61, hw, if_pos (show (0 : Int32) < nn w from (nn_lt (a := 0) (by omega) (by omega)).mpr (by omega)), if_pos (nn_inR hk (by omega)), if_neg hw0, if_neg hw0, if_neg hw0, if_neg hw0, nn_idx (by omega), hd, nn_rem (by omega) (by omega), nn_rem (by omega) (by omega), nn_div (by omega) (by omega), nn_div (by omega) (by omega), abs9_d (by omega) (by omega), abs9_d (by omega) (by omega), nn_add]
  rfl
def adj (w h a b : Nat) : Prop := ∃ s, s < 4 ∧ nb w h a s = some b
theorem mod_succ {w : Nat} (hw : 1 ≤ w) (i : Nat) : (i % w + 1 < w → (i + 1) % w = i % w + 1) ∧ (i % w + 1 = w → (i + 1) % w = 0) := by
  have e : i + 1 = w * (i / w) + (i % w + 1) := by
    have := Nat.div_add_mod i w
    omega
  constructor
  · intro h
    rw [e, Nat.mul_add_mod, Nat.mod_eq_of_lt h]
  · intro h
    rw [e, Nat.mul_add_mod, h, Nat.mod_self]
theorem adj_lt {w h a b : Nat} (hw : 1 ≤ w) (ha : a < w * h) (e : adj w h a b) : b < w * h := by
  obtain ⟨s, -, e⟩ := e
  exact nb_lt hw ha e
theorem adj_iff {w h a b : Nat} : adj w h a b ↔ ((a % w + 1 < w ∧ b = a + 1) ∨ (0 < a % w ∧ b = a - 1) ∨ (w ≤ a ∧ b = a - w) ∨ (a + w < w * h ∧ b = a + w)) := by
  constructor
  · intro ⟨s, hs, e⟩
    have : s = 0 ∨ s = 1 ∨ s = 2 ∨ s = 3 := by omega
    rcases this with rfl | rfl | rfl | rfl
    · unfold nb at e
      simp only [] at e
      split at e
      · cases e; exact .inl ⟨by assumption, rfl⟩
      · cases e
    · unfold nb at e
      simp only [] at e
      split at e
      · cases e; exact .inr (.inl ⟨by assumption, rfl⟩)
      · cases e
    · unfold nb at e
      simp only [] at e
      split at e
      · cases e; exact .inr (.inr (.inl ⟨by assumption, rfl⟩))
      · cases e
    · unfold nb at e
      simp only [] at e
      split at e
      · cases e; exact .inr (.inr (.inr ⟨by assumption, rfl⟩))
      · cases e
  · intro h
    rcases h with ⟨h1, rfl⟩ | ⟨h1, rfl⟩ | ⟨h1, rfl⟩ | ⟨h1, rfl⟩
    · exact ⟨0, by omega, by unfold nb; simp only []; rw [if_pos h1]⟩
    · exact ⟨1, by omega, by unfold nb; simp only []; rw [if_pos h1]⟩
    · exact ⟨2, by omega, by unfold nb; simp only []; rw [if_pos h1]⟩
    · exact ⟨3, by omega, by unfold nb; simp only []; rw [if_pos h1]⟩
theorem adj_symm {w h a b : Nat} (hw : 1 ≤ w) (ha : a < w * h) (e : adj w h a b) : adj w h b a := by
  have hb := adj_lt hw ha e
  rw [adj_iff] at e ⊢
  rcases e with ⟨h1, rfl⟩ | ⟨h1, rfl⟩ | ⟨h1, rfl⟩ | ⟨h1, rfl⟩
  · refine .inr (.inl ⟨?_, by omega⟩)
    rw [(mod_succ hw a).1 h1]; omega
  · refine .inl ⟨?_, ?_⟩
    · have m1 : (a - 1) % w < w := Nat.mod_lt _ (by omega)
      rcases Nat.lt_or_ge ((a - 1) % w + 1) w with g | g
      · exact g
      · have := (mod_succ hw (a - 1)).2 (by omega)
        have h2 : 1 ≤ a := by
          rcases Nat.eq_zero_or_pos a with z | z
          · rw [z, Nat.zero_mod] at h1; omega
          · exact z
        rw [Nat.sub_add_cancel h2] at this
        omega
    · have h2 : 1 ≤ a := by
        rcases Nat.eq_zero_or_pos a with z | z
        · rw [z, Nat.zero_mod] at h1; omega
        · exact z
      omega
  · exact .inr (.inr (.inr ⟨by omega, by omega⟩))
  · exact .inr (.inr (.inl ⟨by omega, by omega⟩))
def bsJ (J : PJ) (w : Nat) (f : Int64) : Int64 := (((lsh9 (f &&& ((J 5 0 15) ^^^ (-1))) 1 ||| lus9 (f &&& ((J 5 0 14) ^^^ (-1))) 1) ||| lsh9 f (nn w)) ||| lus9 f (nn w)) &&& J 5 0 12
theorem besideC (d : Nat) {w : Nat} (f : Int64) (I : PI) (J : PJ) (T : TL) (hw : I 5 0 7 = nn w) : cal (d + 1) 58 [vr 5 0, vl f] (MX I J T) = some (.inl (some (vl (bsJ J w f))), MX I J T) := by
  rw [c58, c59]
  refine (b58_5 d f _ I J T).trans ?_
  rw [c60]
  refine (b58_10 (d + 1) f _ _ I J T).trans ?_
  rw [hw]
  rfl
theorem bt_bs {J : PJ} {w h : Nat} (hM : RelM J w h) (hw1 : 1 ≤ w) (hw8 : w ≤ 8) (h64 : w * h ≤ 64) {f : Int64} (hf : ∀ c, bt f c = true → c < w * h) (i : Nat) : bt (bsJ J w f) i = true ↔ (i < w * h ∧ ∃ e, adj w h i e ∧ bt f e = true) := by
  by_cases hi : i < 64
  · have e12 := (hM i hi).1
    have e14 : ∀ c, c < 64 → bt (J 5 0 14) c = decide (c < w * h ∧ c % w = 0) := fun c hc => (hM c hc).2.1
    have e15 : ∀ c, c < 64 → bt (J 5 0 15) c = decide (c < w * h ∧ c % w + 1 = w) := fun c hc => (hM c hc).2.2
    unfold bsJ
    rw [bt_and, bt_or, bt_or, bt_or, show (1 : Int32) = nn 1 from rfl, bt_lsh _ (by omega), bt_lus _ (by omega), bt_lsh _ (by omega), bt_lus _ (by omega), bt_and, bt_and, bt_not, bt_not, e12]
    simp only [Bool.and_eq_true, Bool.or_eq_true, decide_eq_true_eq, Bool.not_eq_true', decide_eq_false_iff_not]
    constructor
    · intro ⟨hor, hn⟩
      refine ⟨hn, ?_⟩
      rcases hor with ((⟨⟨_, a1⟩, a2, _, a3⟩ | ⟨a1, _, a2⟩) | ⟨⟨_, a1⟩, a2⟩) | a1
      · refine ⟨i - 1, adj_iff.mpr (.inr (.inl ⟨?_, rfl⟩)), a2⟩
        rw [e15 (i - 1) (by omega), decide_eq_false_iff_not] at a3
        have m := (mod_succ hw1 (i - 1)).1
        rw [Nat.sub_add_cancel (by omega)] at m
        have m1 : (i - 1) % w < w := Nat.mod_lt _ (by omega)
        have : ¬ (i - 1) % w + 1 = w := fun z => a3 ⟨by omega, z⟩
        rw [m (by omega)]; omega
      · have hlt := hf _ a1
        refine ⟨i + 1, adj_iff.mpr (.inl ⟨?_, rfl⟩), by rw [Nat.add_comm]; exact a1⟩
        rw [e14 (1 + i) (by omega), decide_eq_false_iff_not] at a2
        have m := (mod_succ hw1 i).2
        have m1 : i % w < w := Nat.mod_lt _ (by omega)
        rcases Nat.lt_or_ge (i % w + 1) w with g | g
        · exact g
        · exact absurd ⟨hlt, by rw [Nat.add_comm]; exact m (by omega)⟩ a2
      · exact ⟨i - w, adj_iff.mpr (.inr (.inr (.inl ⟨by omega, rfl⟩))), a2⟩
      · have hlt := hf _ a1
        exact ⟨i + w, adj_iff.mpr (.inr (.inr (.inr ⟨by omega, rfl⟩))), by rw [Nat.add_comm]; exact a1⟩
    · intro ⟨hn, e, ha, hb⟩
      refine ⟨?_, hn⟩
      rcases adj_iff.mp ha with ⟨a1, rfl⟩ | ⟨a1, rfl⟩ | ⟨a1, rfl⟩ | ⟨a1, rfl⟩
      · have hlt := hf _ hb
        refine .inl (.inl (.inr ⟨by rw [Nat.add_comm]; exact hb, by omega, ?_⟩))
        rw [e14 (1 + i) (by omega), decide_eq_false_iff_not, Nat.add_comm 1 i, (mod_succ hw1 i).1 a1]
        omega
      · have h2 : 1 ≤ i := by
          rcases Nat.eq_zero_or_pos i with z | z
          · rw [z, Nat.zero_mod] at a1; omega
          · exact z
        refine .inl (.inl (.inl ⟨⟨hi, by omega⟩, hb, by omega, ?_⟩))
        rw [e15 (i - 1) (by omega), decide_eq_false_iff_not]
        intro z
        have := (mod_succ hw1 (i - 1)).2 z.2
        rw [Nat.sub_add_cancel h2] at this
        omega
      · exact .inl (.inr ⟨⟨hi, by omega⟩, hb⟩)
      · exact .inr (by rw [Nat.add_comm]; exact hb)
  · rw [bt_ge _ (by omega)]
    constructor
    · intro z; exact absurd z (by decide)
    · intro ⟨z, _⟩; omega
theorem nearW_iff {wt : Nat → Int32} {w h c : Nat} : nearW wt w h c = true ↔ ∃ e, adj w h c e ∧ ¬ wt e = 0 := by
  unfold nearW
  rw [List.any_eq_true]
  constructor
  · intro ⟨s, hs, e⟩
    cases hb : nb w h c s with
    | none => rw [hb] at e; simp at e
    | some q =>
      rw [hb] at e
      refine ⟨q, ⟨s, ?_, hb⟩, of_decide_eq_true e⟩
      simp at hs
      omega
  · intro ⟨e, ⟨s, hs, hb⟩, hz⟩
    refine ⟨s, ?_, ?_⟩
    · have : s = 0 ∨ s = 1 ∨ s = 2 ∨ s = 3 := by omega
      rcases this with rfl | rfl | rfl | rfl <;> simp
    · rw [hb]; exact decide_eq_true hz
theorem near_bs {J : PJ} {w h c : Nat} {wt : Nat → Int32} (hM : RelM J w h) (hw1 : 1 ≤ w) (hw8 : w ≤ 8) (h64 : w * h ≤ 64) (hc : c < w * h) (hwt : ∀ i, i < 64 → (bt (J 5 0 13) i = true ↔ (i < w * h ∧ ¬ wt i = 0))) : (lg_cmp (bsJ J w (lsh9 1 (nn c)) &&& (J 5 0 13)) 0 = 0) ↔ ¬ nearW wt w h c = true := by
  have hf : ∀ i, bt (lsh9 1 (nn c)) i = true → i < w * h := by
    intro i hi
    rw [bt_bit (by omega)] at hi
    have := of_decide_eq_true hi
    omega
  rw [lg0, eq0_bt, nearW_iff]
  constructor
  · intro hz ⟨e, ha, hne⟩
    have hlt := adj_lt hw1 hc ha
    have := hz e (by omega)
    rw [bt_and, (hwt e (by omega)).mpr ⟨hlt, hne⟩, Bool.and_true] at this
    have h2 : bt (bsJ J w (lsh9 1 (nn c))) e = true := (bt_bs hM hw1 hw8 h64 hf e).mpr ⟨hlt, c, adj_symm hw1 hc ha, by rw [bt_bit (by omega)]; exact decide_eq_true rfl⟩
    rw [h2] at this
    exact absurd this (by decide)
  · intro hno i hi
    cases hb : bt (bsJ J w (lsh9 1 (nn c)) &&& (J 5 0 13)) i with
    | false => rfl
    | true =>
      exfalso
      rw [bt_and, Bool.and_eq_true] at hb
      obtain ⟨b1, b2⟩ := hb
      obtain ⟨q1, e, q2, q3⟩ := (bt_bs hM hw1 hw8 h64 hf i).mp b1
      rw [bt_bit (by omega)] at q3
      have := of_decide_eq_true q3
      subst this
      exact hno ⟨i, adj_symm hw1 q1 q2, ((hwt i hi).mp b2).2⟩
