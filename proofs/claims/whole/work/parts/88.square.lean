/-! Squares of four: class and reference -/
def SQ (w h : Nat) (P : Nat → Bool) (s : Nat) : Prop := s % w + 1 < w ∧ s + w < w * h ∧ P s = true ∧ P (s + 1) = true ∧ P (s + w) = true ∧ P (s + w + 1) = true
def CQ (w h : Nat) (P : Nat → Bool) (c dx dy : Nat) : Prop := dx ≤ c % w ∧ dy ≤ c / w ∧ SQ w h P (c - dx - w * dy)
def COV (w h : Nat) (P : Nat → Bool) (c : Nat) : Prop := CQ w h P c 0 0 ∨ CQ w h P c 1 0 ∨ CQ w h P c 0 1 ∨ CQ w h P c 1 1
theorem sq_lt {w h s : Nat} (hw1 : 1 ≤ w) (h1 : s % w + 1 < w) (h2 : s + w < w * h) : s + w + 1 < w * h := by
  apply nb_lt (w := w) (h := h) (c := s + w) (s := 0) hw1 h2
  unfold nb
  simp only []
  rw [if_pos (by rw [Nat.add_mod_right]; exact h1)]
theorem SQ_congr {w h : Nat} {P Q : Nat → Bool} (hw1 : 1 ≤ w) (e : ∀ c, c < w * h → P c = Q c) {s : Nat} : SQ w h P s → SQ w h Q s := by
  intro ⟨h1, h2, h3, h4, h5, h6⟩
  have := sq_lt hw1 h1 h2
  exact ⟨h1, h2, by rw [← e _ (by omega)]; exact h3, by rw [← e _ (by omega)]; exact h4, by rw [← e _ h2]; exact h5, by rw [← e _ this]; exact h6⟩
theorem COV_congr {w h : Nat} {P Q : Nat → Bool} (hw1 : 1 ≤ w) (e : ∀ c, c < w * h → P c = Q c) {c : Nat} : COV w h P c → COV w h Q c := by
  intro z
  rcases z with ⟨a, b, z⟩ | ⟨a, b, z⟩ | ⟨a, b, z⟩ | ⟨a, b, z⟩
  · exact .inl ⟨a, b, SQ_congr hw1 e z⟩
  · exact .inr (.inl ⟨a, b, SQ_congr hw1 e z⟩)
  · exact .inr (.inr (.inl ⟨a, b, SQ_congr hw1 e z⟩))
  · exact .inr (.inr (.inr ⟨a, b, SQ_congr hw1 e z⟩))
section SQC
variable {J : PJ} {w h : Nat} {f : Int64}
def prJ (J : PJ) (f : Int64) : Int64 := f &&& (lus9 (f &&& ((J 5 0 14) ^^^ (-1))) 1)
def sqJ (J : PJ) (w : Nat) (f : Int64) : Int64 := prJ J f &&& (lus9 (prJ J f) (nn w))
def upJ (J : PJ) (w : Nat) (f : Int64) : Int64 := sqJ J w f ||| (lsh9 (sqJ J w f) 1)
def thJ (J : PJ) (w : Nat) (f : Int64) : Int64 := f &&& ((upJ J w f ||| (lsh9 (upJ J w f) (nn w))) ^^^ (-1))
theorem pr_bt (hM : RelM J w h) (hw1 : 1 ≤ w) (h64 : w * h ≤ 64) (hf : ∀ c, bt f c = true → c < w * h) (c : Nat) : bt (prJ J f) c = true ↔ (bt f c = true ∧ c % w + 1 < w ∧ bt f (c + 1) = true) := by
  unfold prJ
  rw [bt_and, Bool.and_eq_true]
  constructor
  · intro ⟨h1, h2⟩
    rw [sd_w hM hw1 h64 hf (hf c h1), nbI_iff] at h2
    obtain ⟨e, h3, h4⟩ := h2
    unfold nb at h3
    simp only [] at h3
    split at h3
    · cases h3
      exact ⟨h1, by assumption, h4⟩
    · cases h3
  · intro ⟨h1, h2, h3⟩
    refine ⟨h1, ?_⟩
    rw [sd_w hM hw1 h64 hf (hf c h1), nbI_iff]
    refine ⟨c + 1, ?_, h3⟩
    unfold nb
    simp only []
    rw [if_pos h2]
theorem sq_bt (hM : RelM J w h) (hw1 : 1 ≤ w) (hw8 : w ≤ 8) (h64 : w * h ≤ 64) (hf : ∀ c, bt f c = true → c < w * h) (c : Nat) : bt (sqJ J w f) c = true ↔ SQ w h (bt f) c := by
  unfold sqJ
  rw [bt_and, Bool.and_eq_true, bt_lus _ (by omega), pr_bt hM hw1 h64 hf, pr_bt hM hw1 h64 hf, Nat.add_comm w c]
  constructor
  · intro ⟨⟨h1, h2, h3⟩, h4, h5, h6⟩
    exact ⟨h2, hf _ h4, h1, h3, h4, h6⟩
  · intro ⟨h1, h2, h3, h4, h5, h6⟩
    exact ⟨⟨h3, h1, h4⟩, h5, by rw [Nat.add_mod_right]; exact h1, h6⟩
theorem up_bt (hM : RelM J w h) (hw1 : 1 ≤ w) (hw8 : w ≤ 8) (h64 : w * h ≤ 64) (hf : ∀ c, bt f c = true → c < w * h) {c : Nat} (hc : c < 64) : bt (upJ J w f) c = true ↔ (SQ w h (bt f) c ∨ (1 ≤ c % w ∧ SQ w h (bt f) (c - 1))) := by
  unfold upJ
  rw [bt_or, Bool.or_eq_true, sq_bt hM hw1 hw8 h64 hf, show (1 : Int32) = nn 1 from rfl, bt_lsh _ (by omega)]
  simp only [Bool.and_eq_true, decide_eq_true_eq, Bool.not_eq_true', decide_eq_false_iff_not, sq_bt hM hw1 hw8 h64 hf]
  constructor
  · intro z
    rcases z with z | ⟨⟨-, z1⟩, z2⟩
    · exact .inl z
    · refine .inr ⟨?_, z2⟩
      have := (mod_succ hw1 (c - 1)).1 z2.1
      rw [Nat.sub_add_cancel (by omega)] at this
      omega
  · intro z
    rcases z with z | ⟨z1, z2⟩
    · exact .inl z
    · refine .inr ⟨⟨hc, ?_⟩, z2⟩
      intro z3
      have : c = 0 := by omega
      rw [this, Nat.zero_mod] at z1
      omega
theorem th_bt (hM : RelM J w h) (hw1 : 1 ≤ w) (hw8 : w ≤ 8) (h64 : w * h ≤ 64) (hf : ∀ c, bt f c = true → c < w * h) (c : Nat) : bt (thJ J w f) c = true ↔ (bt f c = true ∧ ¬ COV w h (bt f) c) := by
  unfold thJ
  rw [bt_and, Bool.and_eq_true]
  refine and_congr_right (fun h1 => ?_)
  have hc := hf c h1
  have hc64 : c < 64 := by omega
  rw [bt_not, decide_eq_true hc64, Bool.true_and, Bool.not_eq_true', ← Bool.not_eq_true]
  refine not_congr ?_
  rw [bt_or, Bool.or_eq_true, up_bt hM hw1 hw8 h64 hf hc64, bt_lsh _ (by omega)]
  simp only [Bool.and_eq_true, decide_eq_true_eq, Bool.not_eq_true', decide_eq_false_iff_not]
  have hdv : w ≤ c → (1 ≤ c / w ∧ (c - w) % w = c % w) := fun z => by
    refine ⟨Nat.div_pos z (by omega), ?_⟩
    have : c - w + w = c := Nat.sub_add_cancel z
    have e := Nat.add_mod_right (c - w) w
    rw [this] at e
    exact e.symm
  have hdv2 : 1 ≤ c / w → w ≤ c := fun z => by
    have := (Nat.le_div_iff_mul_le (show 0 < w by omega)).mp z
    omega
  constructor
  · intro z
    rcases z with (z | ⟨z1, z2⟩) | ⟨⟨-, z1⟩, z2⟩
    · exact .inl ⟨Nat.zero_le _, Nat.zero_le _, by simpa using z⟩
    · exact .inr (.inl ⟨z1, Nat.zero_le _, by simpa using z2⟩)
    · obtain ⟨d1, d2⟩ := hdv (by omega)
      rw [up_bt hM hw1 hw8 h64 hf (by omega), d2] at z2
      rcases z2 with z2 | ⟨z2, z3⟩
      · exact .inr (.inr (.inl ⟨Nat.zero_le _, d1, by simpa using z2⟩))
      · refine .inr (.inr (.inr ⟨z2, d1, ?_⟩))
        rw [Nat.mul_one, Nat.sub_right_comm]
        exact z3
  · intro z
    rcases z with ⟨z1, z2, z3⟩ | ⟨z1, z2, z3⟩ | ⟨z1, z2, z3⟩ | ⟨z1, z2, z3⟩
    · exact .inl (.inl (by simpa using z3))
    · exact .inl (.inr ⟨z1, by simpa using z3⟩)
    · have d3 := hdv2 z2
      obtain ⟨d1, d2⟩ := hdv d3
      refine .inr ⟨⟨hc64, by omega⟩, ?_⟩
      rw [up_bt hM hw1 hw8 h64 hf (by omega), d2]
      exact .inl (by simpa using z3)
    · have d3 := hdv2 z2
      obtain ⟨d1, d2⟩ := hdv d3
      refine .inr ⟨⟨hc64, by omega⟩, ?_⟩
      rw [up_bt hM hw1 hw8 h64 hf (by omega), d2]
      rw [Nat.mul_one, Nat.sub_right_comm] at z3
      exact .inr ⟨z1, z3⟩
end SQC
theorem thinC (d : Nat) {w : Nat} (f : Int64) (I : PI) (J : PJ) (T : TL) (hw : I 5 0 7 = nn w) : cal (d + 1) 111 [vr 5 0, vl f] (MX I J T) = some (.inl (some (vl (thJ J w f))), MX I J T) := by
  rw [c111, c60]
  simp only [ret9]
  rw [b111_6, hw]
  rfl
theorem inX : ∀ (a : Fin 8) (b : Fin 2) (w : Fin 9), ((0 : Int32) ≤ nn a.val - nn b.val ∧ nn a.val - nn b.val ≤ nn w.val - 2) ↔ (b.val ≤ a.val ∧ a.val - b.val + 2 ≤ w.val) := by decide +kernel
theorem k4 {k : Nat} (hk : k < 4) : irm9 (nn k) 2 = nn (k % 2) ∧ nn k / 2 = nn (k / 2) := ⟨nn_rem (b := 2) (by omega) (by omega), nn_div (b := 2) (by omega) (by omega)⟩
section SQM
variable (d : Nat) {w h : Nat} (I : PI) (J : PJ) (T : TL)
theorem sqK (hg : GW I w h) {c k : Nat} (hc : c < w * h) (hk : k < 4) (o3 o4 o5 o6 : Option AV) : (CQ w h (fun i => decide (I 28 7 i = I 28 7 c)) c (k % 2) (k / 2) → den (d + 1) 253 2 [some (vr 14 0), some (vi (nn c)), some (vi (nn k)), o3, o4, o5, o6] [] (MX I J T) = some (.inl (some (vi 1)), MX I J T)) ∧ (¬ CQ w h (fun i => decide (I 28 7 i = I 28 7 c)) c (k % 2) (k / 2) → ∃ p3 p4 p5 p6 : Option AV, den (d + 1) 253 2 [some (vr 14 0), some (vi (nn c)), some (vi (nn k)), o3, o4, o5, o6] [] (MX I J T) = den (d + 1) 253 2 [some (vr 14 0), some (vi (nn c)), some (vi (nn (k + 1))), p3, p4, p5, p6] [] (MX I J T)) := by
  obtain ⟨hw, hh, hw1, hw8, hh1, hh8⟩ := id hg
  have h64 : w * h ≤ 64 := Nat.mul_le_mul hw8 hh8
  have hw0 : ¬ I 14 0 22 = 0 := by rw [hw, eq0n (by omega)]; omega
  have m1 : c % w < w := Nat.mod_lt _ (by omega)
  have m2 : c / w < h := Nat.div_lt_of_lt_mul hc
  have m3 : w * (c / w) + c % w = c := Nat.div_add_mod c w
  have x1 := inX ⟨c % w, by omega⟩ ⟨k % 2, by omega⟩ ⟨w, by omega⟩
  have x2 := inX ⟨c / w, by omega⟩ ⟨k / 2, by omega⟩ ⟨h, by omega⟩
  try dsimp only at x1 x2
  have e0 : den (d + 1) 253 2 [some (vr 14 0), some (vi (nn c)), some (vi (nn k)), o3, o4, o5, o6] [] (MX I J T) = ret9 (den (d + 1) 253) 253 38 41 [some (vr 14 0), some (vi (nn c)), some (vi (nn k)), some (vi (nn (c % w) - nn (k % 2))), some (vi (nn (c / w) - nn (k / 2))), o5, o6] [] (some (.inl (some (vi (bi (0 ≤ nn (c % w) - nn (k % 2) ∧ nn (c % w) - nn (k % 2) ≤ nn w - 2)))), MX I J T)) := by
    rw [b253_2, if_neg (by rw [show (4 : Int32) = nn 4 from rfl, nn_le (by omega) (by omega)]; omega), b253_7, if_neg hw0, b253_18, if_neg hw0, b253_30, inM, hw, nn_rem (by omega) (by omega), (k4 hk).1, nn_div (by omega) (by omega), (k4 hk).2]
  rw [e0]
  simp only [ret9]
  rw [b253_41]
  have out : ∀ (x3 x4 : Int32) (q5 q6 : Option AV), ∃ p3 p4 p5 p6 : Option AV, den (d + 1) 253 145 [some (vr 14 0), some (vi (nn c)), some (vi (nn k)), some (vi x3), some (vi x4), q5, q6] [] (MX I J T) = den (d + 1) 253 2 [some (vr 14 0), some (vi (nn c)), some (vi (nn (k + 1))), p3, p4, p5, p6] [] (MX I J T) := by
    intro x3 x4 q5 q6
    refine ⟨some (vi x3), some (vi x4), q5, q6, ?_⟩
    rw [b253_145, b253_148, nn_add1]
  by_cases a1 : 0 ≤ nn (c % w) - nn (k % 2) ∧ nn (c % w) - nn (k % 2) ≤ nn w - 2
  · rw [bi1 a1, if_neg (by decide), b253_44, inM, hh]
    simp only [ret9]
    rw [b253_56]
    by_cases a2 : 0 ≤ nn (c / w) - nn (k / 2) ∧ nn (c / w) - nn (k / 2) ≤ nn h - 2
    · obtain ⟨y1, y2⟩ := x1.mp a1
      obtain ⟨y3, y4⟩ := x2.mp a2
      obtain ⟨Y, hY⟩ : ∃ Y, c / w = Y + k / 2 := ⟨c / w - k / 2, by omega⟩
      obtain ⟨X, hX⟩ : ∃ X, c % w = X + k % 2 := ⟨c % w - k % 2, by omega⟩
      have hs : c - k % 2 - w * (k / 2) = w * Y + X := by
        rw [hY, hX, Nat.mul_add] at m3
        omega
      have hsm : (w * Y + X) % w = X := by rw [Nat.mul_add_mod, Nat.mod_eq_of_lt (by omega)]
      have hsr : w * Y + X + w < w * h := by
        have : w * (Y + 2) ≤ w * h := Nat.mul_le_mul_left w (by omega)
        rw [Nat.mul_add] at this
        omega
      have hs1 := sq_lt hw1 (show (w * Y + X) % w + 1 < w by omega) hsr
      rw [bi1 a2, if_pos (by decide), b253_62, b253_73, if_pos (nn_inR (by omega) (by omega)), nn_idx (show c < 2147483648 by omega), hw, nn_sub y1, nn_sub y3, nn_mul, nn_add, show c / w - k / 2 = Y by omega, show c % w - k % 2 = X by omega, b253_81, if_pos (nn_inR (by omega) (by omega)), nn_idx (show w * Y + X < 2147483648 by omega)]
      unfold CQ SQ
      rw [hs, hsm]
      try dsimp only
      by_cases p1 : I 28 7 (w * Y + X) = I 28 7 c
      · rw [if_neg (fun z => z p1), b253_93, nn_add1, if_pos (nn_inR (by omega) (by omega)), nn_idx (show w * Y + X + 1 < 2147483648 by omega)]
        by_cases p2 : I 28 7 (w * Y + X + 1) = I 28 7 c
        · rw [if_neg (fun z => z p2), b253_107, hw, nn_add, if_pos (nn_inR (by omega) (by omega)), nn_idx (show w * Y + X + w < 2147483648 by omega)]
          by_cases p3 : I 28 7 (w * Y + X + w) = I 28 7 c
          · rw [if_neg (fun z => z p3), b253_124, hw, nn_add, nn_add1, if_pos (nn_inR (by omega) (by omega)), nn_idx (show w * Y + X + w + 1 < 2147483648 by omega)]
            by_cases p4 : I 28 7 (w * Y + X + w + 1) = I 28 7 c
            · rw [if_neg (fun z => z p4), b253_143]
              exact ⟨fun _ => rfl, fun z => absurd ⟨y1, y3, by omega, hsr, decide_eq_true p1, decide_eq_true p2, decide_eq_true p3, decide_eq_true p4⟩ z⟩
            · rw [if_pos p4]
              exact ⟨fun z => absurd (of_decide_eq_true z.2.2.2.2.2.2.2) p4, fun _ => out _ _ _ _⟩
          · rw [if_pos p3]
            exact ⟨fun z => absurd (of_decide_eq_true z.2.2.2.2.2.2.1) p3, fun _ => out _ _ _ _⟩
        · rw [if_pos p2]
          exact ⟨fun z => absurd (of_decide_eq_true z.2.2.2.2.2.1) p2, fun _ => out _ _ _ _⟩
      · rw [if_pos p1]
        exact ⟨fun z => absurd (of_decide_eq_true z.2.2.2.2.1) p1, fun _ => out _ _ _ _⟩
    · rw [bi0 a2, if_neg (by decide), b253_59]
      refine ⟨fun z => ?_, fun _ => out _ _ _ _⟩
      exfalso
      apply a2
      rw [x2]
      refine ⟨z.2.1, ?_⟩
      obtain ⟨z1, z2, z3, z4, -⟩ := z
      obtain ⟨Y, hY⟩ : ∃ Y, c / w = Y + k / 2 := ⟨c / w - k / 2, by omega⟩
      obtain ⟨X, hX⟩ : ∃ X, c % w = X + k % 2 := ⟨c % w - k % 2, by omega⟩
      have hs : c - k % 2 - w * (k / 2) = w * Y + X := by
        rw [hY, hX, Nat.mul_add] at m3
        omega
      rw [hs] at z4
      rcases Nat.lt_or_ge (Y + 1) h with g | g
      · omega
      · exfalso
        have : w * h ≤ w * (Y + 1) := Nat.mul_le_mul_left w g
        rw [Nat.mul_add] at this
        omega
  · rw [bi0 a1, if_pos rfl]
    refine ⟨fun z => ?_, fun _ => out _ _ _ _⟩
    exfalso
    apply a1
    rw [x1]
    refine ⟨z.1, ?_⟩
    obtain ⟨z1, z2, z3, z4, -⟩ := z
    obtain ⟨Y, hY⟩ : ∃ Y, c / w = Y + k / 2 := ⟨c / w - k / 2, by omega⟩
    obtain ⟨X, hX⟩ : ∃ X, c % w = X + k % 2 := ⟨c % w - k % 2, by omega⟩
    have hs : c - k % 2 - w * (k / 2) = w * Y + X := by
      rw [hY, hX, Nat.mul_add] at m3
      omega
    rw [hs, Nat.mul_add_mod, Nat.mod_eq_of_lt (by omega)] at z3
    omega
theorem squareM (hg : GW I w h) {c : Nat} (hc : c < w * h) : cal (d + 1) 253 [vr 14 0, vi (nn c)] (MX I J T) = some (.inl (some (vi (bi (COV w h (fun i => decide (I 28 7 i = I 28 7 c)) c)))), MX I J T) := by
  rw [c253]
  unfold COV
  by_cases q0 : CQ w h (fun i => decide (I 28 7 i = I 28 7 c)) c 0 0
  · rw [bi1 (.inl q0)]
    exact (sqK d I J T hg hc (k := 0) (by omega) _ _ _ _).1 q0
  · obtain ⟨a3, a4, a5, a6, e0⟩ := (sqK d I J T hg hc (k := 0) (by omega) none none none none).2 q0
    refine e0.trans ?_
    by_cases q1 : CQ w h (fun i => decide (I 28 7 i = I 28 7 c)) c 1 0
    · rw [bi1 (.inr (.inl q1))]
      exact (sqK d I J T hg hc (k := 1) (by omega) _ _ _ _).1 q1
    · obtain ⟨b3, b4, b5, b6, e1⟩ := (sqK d I J T hg hc (k := 1) (by omega) a3 a4 a5 a6).2 q1
      refine e1.trans ?_
      by_cases q2 : CQ w h (fun i => decide (I 28 7 i = I 28 7 c)) c 0 1
      · rw [bi1 (.inr (.inr (.inl q2)))]
        exact (sqK d I J T hg hc (k := 2) (by omega) _ _ _ _).1 q2
      · obtain ⟨c3, c4, c5, c6, e2⟩ := (sqK d I J T hg hc (k := 2) (by omega) b3 b4 b5 b6).2 q2
        refine e2.trans ?_
        by_cases q3 : CQ w h (fun i => decide (I 28 7 i = I 28 7 c)) c 1 1
        · rw [bi1 (.inr (.inr (.inr q3)))]
          exact (sqK d I J T hg hc (k := 3) (by omega) _ _ _ _).1 q3
        · obtain ⟨d3, d4, d5, d6, e3⟩ := (sqK d I J T hg hc (k := 3) (by omega) c3 c4 c5 c6).2 q3
          refine e3.trans ?_
          rw [b253_2, if_pos (by decide), b253_151, bi0 (fun z => by
            rcases z with z | z | z | z
            · exact q0 z
            · exact q1 z
            · exact q2 z
            · exact q3 z)]
end SQM
