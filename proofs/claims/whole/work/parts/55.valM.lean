/-! The reference's valueOf -/
/-- a stack, top first, in an array -/
def HS (f : Nat → Int32) : List Int32 → Prop
  | [] => True
  | a :: r => f r.length = a ∧ HS f r
theorem HS_up {f : Nat → Int32} {i : Nat} {v : Int32} : ∀ {r : List Int32}, HS f r → r.length ≤ i → HS (fun j => if j = i then v else f j) r
  | [], _, _ => trivial
  | a :: r, h, hi => by
    have hl : r.length + 1 ≤ i := hi
    refine ⟨?_, HS_up h.2 (by omega)⟩
    show (if r.length = i then v else f r.length) = a
    rw [if_neg (by omega)]
    exact h.1
theorem upA_up3 {α : Type} (I : Nat → Nat → Nat → α) (k j : Nat) (f : Nat → α) (i : Nat) (v : α) : up3 (upA I k j f) k j i v = upA I k j (fun c => if c = i then v else f c) := by
  funext a b c
  unfold up3 upA
  by_cases h1 : a = k
  · by_cases h2 : b = j
    · by_cases h3 : c = i <;> simp [h1, h2, h3]
    · simp [h1, h2]
  · simp [h1]
theorem upA_id {α : Type} (I : Nat → Nat → Nat → α) (k j : Nat) : upA I k j (I k j) = I := by
  funext a b c
  unfold upA
  by_cases h1 : a = k
  · by_cases h2 : b = j
    · simp [h1, h2]
    · simp [h1, h2]
  · simp [h1]
section VALM
variable (d : Nat) {w h k c p b len : Nat} (I : PI) (J : PJ) (T : TL)
def sgM (I : PI) (w h c p : Nat) : Int32 → Int32 := sng (I 28 4 c) (I 28 5 c) (nn (dst w c p)) (if nearW (I 39 0) w h c = true then 1 else 0)
/-- a factor is put on the stack -/
theorem valPush (hg : GW I w h) (hk : k < 6) (hc : c < w * h) (hp : p < 64) (hd : I 21 10 k = nn p) (f : Nat → Int32) (t : Nat) (ht : t < 20) (x4 act : Int32) (o6 o7 o8 : Option AV) : den (d + 3) 230 46 [some (vr 14 0), some (vi (nn k)), some (vi (nn c)), some (vi (nn t)), some (vi x4), some (vi act), o6, o7, o8] [] (MX (upA I 27 0 f) J (TB T b)) = den (d + 3) 230 8 [some (vr 14 0), some (vi (nn k)), some (vi (nn c)), some (vi (nn (t + 1))), some (vi (x4 + 1)), some (vi act), o6, o7, o8] [] (MX (upA I 27 0 (fun j => if j = t then sgM I w h c p act else f j)) J (TB T b)) := by
  have h64 : w * h ≤ 64 := Nat.mul_le_mul hg.2.2.2.1 hg.2.2.2.2.2
  have hc6 : inR (nn c) 64 = true := nn_inR (by omega) (by omega)
  have fin : ∀ v : Int32, sgM I w h c p act = v → den (d + 3) 230 116 [some (vr 14 0), some (vi (nn k)), some (vi (nn c)), some (vi (nn t)), some (vi x4), some (vi act), o6, o7, o8] [vi v, vi (nn t), vr 27 0] (MX (upA I 27 0 f) J (TB T b)) = den (d + 3) 230 8 [some (vr 14 0), some (vi (nn k)), some (vi (nn c)), some (vi (nn (t + 1))), some (vi (x4 + 1)), some (vi act), o6, o7, o8] [] (MX (upA I 27 0 (fun j => if j = t then sgM I w h c p act else f j)) J (TB T b)) := by
    intro v hv
    rw [b230_116, if_pos (nn_inR (by omega) (by omega)), nn_idx (by omega), upA_up3, b230_117, b230_120, b230_237, b230_240, nn_add1, hv]
  rw [b230_46]
  by_cases h0 : act = 100
  · rw [if_neg (fun z => z h0), b230_58, if_pos hc6, nn_idx (by omega)]
    exact fin (I 28 4 c) (by unfold sgM sng; rw [if_pos h0])
  · rw [if_pos h0, b230_67]
    by_cases h1 : act = 101
    · rw [if_neg (fun z => z h1), b230_74, if_pos hc6, nn_idx (by omega)]
      exact fin (I 28 5 c) (by unfold sgM sng; rw [if_neg h0, if_pos h1])
    · rw [if_pos h1, b230_83]
      by_cases h2 : act = 102
      · have e := farM (d + 1) (upA I 27 0 f) J (TB T b) (w := w) (h := h) (c := c) hg hk (by omega) hp hd
        rw [if_neg (fun z => z h2), b230_90, e]
        refine (b230_96 _ _ _ _ _ _ _ _ _ _ _ _ _ _ _).trans ?_
        exact fin _ (by unfold sgM sng; rw [if_neg h0, if_neg h1, if_pos h2])
      · rw [if_pos h2, b230_99]
        by_cases h3 : act = 103
        · have e := watM d (upA I 27 0 f) J (TB T b) hg hc
          rw [if_neg (fun z => z h3), b230_106, e]
          refine (b230_111 _ _ _ _ _ _ _ _ _ _ _ _ _ _ _).trans ?_
          exact fin _ (by unfold sgM sng; rw [if_neg h0, if_neg h1, if_neg h2, if_pos h3]; rfl)
        · rw [if_pos h3, b230_114]
          exact fin _ (by unfold sgM sng; rw [if_neg h0, if_neg h1, if_neg h2, if_neg h3])
/-- two are joined -/
theorem valJoin (f : Nat → Int32) (r : Nat) (hr : r + 2 ≤ 20) (x4 act : Int32) (o6 o7 o8 : Option AV) : ∃ q6 q7 q8 : Option AV, den d 230 123 [some (vr 14 0), some (vi (nn k)), some (vi (nn c)), some (vi (nn (r + 2))), some (vi x4), some (vi act), o6, o7, o8] [] (MX (upA I 27 0 f) J (TB T b)) = den d 230 8 [some (vr 14 0), some (vi (nn k)), some (vi (nn c)), some (vi (nn (r + 1))), some (vi (x4 + 1)), some (vi act), q6, q7, q8] [] (MX (upA I 27 0 (fun j => if j = r then clp (opM act (f r) (f (r + 1))) else f j)) J (TB T b)) := by
  refine ⟨some (vi (f r)), some (vi (f (r + 1))), some (vi (opM act (f r) (f (r + 1)))), ?_⟩
  have e1 : nn (r + 2) + (-1) = nn (r + 1) := nn_m1 (r + 1)
  have fin : ∀ v : Int32, opM act (f r) (f (r + 1)) = v → den d 230 213 [some (vr 14 0), some (vi (nn k)), some (vi (nn c)), some (vi (nn (r + 1))), some (vi x4), some (vi act), some (vi (f r)), some (vi (f (r + 1))), o8] [vi v] (MX (upA I 27 0 f) J (TB T b)) = den d 230 8 [some (vr 14 0), some (vi (nn k)), some (vi (nn c)), some (vi (nn (r + 1))), some (vi (x4 + 1)), some (vi act), some (vi (f r)), some (vi (f (r + 1))), some (vi (opM act (f r) (f (r + 1))))] [] (MX (upA I 27 0 (fun j => if j = r then clp (opM act (f r) (f (r + 1))) else f j)) J (TB T b)) := by
    intro v hv
    rw [b230_213, b230_215, nn_sub1, if_pos (nn_inR (by omega) (by omega)), nn_idx (by omega), upA_up3, b230_237, b230_240, hv]
    rfl
  rw [b230_123, e1, b230_126, nn_sub1, if_pos (nn_inR (by omega) (by omega)), nn_idx (by omega), b230_136, if_pos (nn_inR (by omega) (by omega)), nn_idx (by omega), b230_144]
  by_cases h0 : act = 110
  · rw [if_neg (fun z => z h0), b230_151]
    exact fin _ (by unfold opM; rw [if_pos h0]; rfl)
  · rw [if_pos h0, b230_159]
    by_cases h1 : act = 111
    · rw [if_neg (fun z => z h1), b230_166]
      exact fin _ (by unfold opM; rw [if_neg h0, if_pos h1]; rfl)
    · rw [if_pos h1, b230_174]
      by_cases h2 : act = 112
      · rw [if_neg (fun z => z h2), b230_181]
        exact fin _ (by unfold opM; rw [if_neg h0, if_neg h1, if_pos h2]; rfl)
      · rw [if_pos h2, b230_189]
        by_cases h3 : act = 113
        · rw [if_neg (fun z => z h3), b230_196]
          exact fin _ (by unfold opM; rw [if_neg h0, if_neg h1, if_neg h2, if_pos h3]; rfl)
        · rw [if_pos h3, b230_206]
          exact fin _ (by unfold opM; rw [if_neg h0, if_neg h1, if_neg h2, if_neg h3]; rfl)
theorem valLp (hg : GW I w h) (hk : k < 6) (hc : c < w * h) (hp : p < 64) (hd : I 21 10 k = nn p) (hl : len ≤ 40) (hs : I 21 (b + 12) k = nn len) : ∀ (m i : Nat) (st : List Int32) (f : Nat → Int32) (o5 o6 o7 o8 : Option AV), i + m = len → okP (fun i => I 33 b (48 * k + i)) m i st.length → st.length ≤ 20 → HS f st → ∃ g : Nat → Int32, den (d + 3) 230 8 [some (vr 14 0), some (vi (nn k)), some (vi (nn c)), some (vi (nn st.length)), some (vi (nn (48 * k + i))), o5, o6, o7, o8] [] (MX (upA I 27 0 f) J (TB T b)) = some (.inl (some (vi ((runM (sgM I w h c p) (fun i => I 33 b (48 * k + i)) m i st).headD 0))), MX (upA I 27 0 g) J (TB T b)) := by
  have hk6 : inR (nn k) 6 = true := nn_inR hk (by omega)
  have e48 : (48 : Int32) * nn k + (upA I 27 0 (fun _ => 0)) 21 (b + 12) (nn k).toNatClampNeg = nn (48 * k + len) := by
    rw [nn_idx (by omega)]
    show (48 : Int32) * nn k + I 21 (b + 12) k = _
    rw [hs, show (48 : Int32) = nn 48 from rfl, nn_mul, nn_add]
  intro m
  induction m with
  | zero =>
    intro i st f o5 o6 o7 o8 hi hok h20 hf
    have h1 : st.length = 1 := hok
    match st, h1, hf with
    | [a], _, hf =>
      refine ⟨f, ?_⟩
      rw [b230_8, if_pos hk6, if_pos, b230_243]
      · show some (Sum.inl (some (vi (f 0))), _) = _
        rw [show f 0 = a from hf.1]
        rfl
      · refine le_of_eq_of_le e48 ?_
        exact (nn_le (by omega) (by omega)).mpr (by omega)
  | succ m ih =>
    intro i st f o5 o6 o7 o8 hi hok h20 hf
    rw [b230_8, if_pos hk6, if_neg (fun z => by
      have z2 := le_of_eq_of_le e48.symm z
      have := (nn_le (by omega) (by omega)).mp z2
      omega), b230_27, if_pos (nn_inR (by omega) (by omega)), nn_idx (by omega), b230_39]
    show ∃ g, (if 110 ≤ I 33 b (48 * k + i) then _ else _) = _
    rcases hok with ⟨a1, a2, a3, a4, a5⟩ | ⟨a1, a2, a3, a4⟩
    · rw [if_neg (i32_nle.mpr a1), valPush d I J T hg hk hc hp hd f st.length a4, nn_add1]
      obtain ⟨g, e⟩ := ih (i + 1) (sgM I w h c p (I 33 b (48 * k + i)) :: st) (fun j => if j = st.length then sgM I w h c p (I 33 b (48 * k + i)) else f j) (some (vi (I 33 b (48 * k + i)))) o6 o7 o8 (by omega) a5 (by exact a4) ⟨if_pos rfl, HS_up hf (Nat.le_refl _)⟩
      refine ⟨g, e.trans ?_⟩
      rw [runM]
      rw [show stpM (sgM I w h c p) (I 33 b (48 * k + i)) st = sgM I w h c p (I 33 b (48 * k + i)) :: st from by unfold stpM; rw [if_pos a1]]
    · rw [if_pos a1]
      match st, a3, a4, hf, h20 with
      | y :: x :: r, a3, a4, hf, h20 =>
        have hr : r.length + 2 ≤ 20 := h20
        obtain ⟨q6, q7, q8, e1⟩ := valJoin (d + 3) (k := k) (c := c) (b := b) I J T f r.length hr (nn (48 * k + i)) (I 33 b (48 * k + i)) o6 o7 o8
        have hy : f (r.length + 1) = y := hf.1
        have hx : f r.length = x := hf.2.1
        rw [hy, hx] at e1
        obtain ⟨g, e⟩ := ih (i + 1) (clp (opM (I 33 b (48 * k + i)) x y) :: r) (fun j => if j = r.length then clp (opM (I 33 b (48 * k + i)) x y) else f j) (some (vi (I 33 b (48 * k + i)))) q6 q7 q8 (by omega) a4 (show r.length + 1 ≤ 20 by omega) ⟨if_pos rfl, HS_up hf.2.2 (Nat.le_refl _)⟩
        refine ⟨g, (e1.trans ?_).trans (e.trans ?_)⟩
        · rw [nn_add1]; rfl
        · rw [runM]
          rw [show stpM (sgM I w h c p) (I 33 b (48 * k + i)) (y :: x :: r) = clp (opM (I 33 b (48 * k + i)) x y) :: r from by unfold stpM; rw [if_neg (i32_nlt.mpr a1)]]
theorem valM (hg : GW I w h) (hk : k < 6) (hc : c < w * h) (hp : p < 64) (hd : I 21 10 k = nn p) (hl : len ≤ 40) (hs : I 21 (b + 12) k = nn len) (hok : okP (fun i => I 33 b (48 * k + i)) len 0 0) : ∃ g : Nat → Int32, cal (d + 3) 230 [vr 14 0, vi (nn k), vi (nn c)] (MX I J (TB T b)) = some (.inl (some (vi (VAL I b w h k c))), MX (upA I 27 0 g) J (TB T b)) := by
  obtain ⟨g, e⟩ := valLp d I J T hg hk hc hp hd hl hs len 0 [] (I 27 0) none none none none (by omega) hok (by decide) trivial
  refine ⟨g, ?_⟩
  rw [c230, b230_2, show (48 : Int32) * nn k = nn (48 * k + 0) from by rw [show (48 : Int32) = nn 48 from rfl, nn_mul]; rfl]
  rw [upA_id] at e
  refine e.trans ?_
  unfold VAL
  rw [hd, hs, nn_idx (show p < 2147483648 by omega), nn_idx (show len < 2147483648 by omega)]
  rfl
end VALM
