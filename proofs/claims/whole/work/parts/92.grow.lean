/-! Growing: one taking, a round, all rounds -/
/-- a cell that owner k may take -/
def NR (ws wt : Nat → Int32) (w h k c : Nat) : Bool := decide (ws c = -1) && decide (wt c = 0) && (nbI w h (FL ws k) c 1 || nbI w h (FL ws k) c 0 || nbI w h (FL ws k) c 2 || nbI w h (FL ws k) c 3)
def pkS (pr : Nat → Int32) (k : Nat) (N : Nat → Bool) (c : Nat) (b : Option Nat) : Option Nat := if N c = true then (match b with
  | none => some c
  | some q => if pr (64 * k + q) < pr (64 * k + c) then some c else some q) else b
def PK (ws wt pr : Nat → Int32) (w h k : Nat) : Option Nat := itn (pkS pr k (NR ws wt w h k)) (w * h) 0 none
theorem pks_in {pr : Nat → Int32} {k : Nat} {N : Nat → Bool} {c n : Nat} {b : Option Nat} (hc : c < n) (h : ∀ q, b = some q → q < n ∧ N q = true) {q : Nat} (e : pkS pr k N c b = some q) : q < n ∧ N q = true := by
  unfold pkS at e
  by_cases hN : N c = true
  · rw [if_pos hN] at e
    cases b with
    | none => cases e; exact ⟨hc, hN⟩
    | some q3 =>
      simp only [] at e
      by_cases hl : pr (64 * k + q3) < pr (64 * k + c)
      · rw [if_pos hl] at e
        cases e; exact ⟨hc, hN⟩
      · rw [if_neg hl] at e
        exact h q e
  · rw [if_neg hN] at e
    exact h q e
theorem oi_n : oi none = -1 := rfl
theorem oi_s {q : Nat} (h : q < 2147483648) : ¬ oi (some q) = -1 := nn_ne_neg h
theorem oi_e (q : Nat) : oi (some q) = nn q := rfl
theorem itn_su {β : Type} (f : Nat → β → β) (m c : Nat) (b : β) : itn f (m + 1) c b = itn f m (c + 1) (f c b) := rfl
section TAKEN
variable (d : Nat) {w h : Nat} (I : PI) (J : PJ) (T : TL)
theorem nr1 (hg : GW I w h) {k c s : Nat} (hc : c < w * h) (hs : s < 4) (x2 x : Int32) : den (d + 2) 258 40 [some (vr 14 0), some (vi (nn k)), some (vi x2), some (vi (nn c)), some (vi x), some (vi (nn s))] [] (MX I J T) = den (d + 2) 258 40 [some (vr 14 0), some (vi (nn k)), some (vi x2), some (vi (nn c)), some (vi (if ¬ x = 0 then 1 else if nbI w h (FL (I 28 7) k) c s = true then 1 else 0)), some (vi (nn (s + 1)))] [] (MX I J T) := by
  have h64 : w * h ≤ 64 := Nat.mul_le_mul hg.2.2.2.1 hg.2.2.2.2.2
  have eb := besM d (w := w) (h := h) I J T hg hc hs
  rw [b258_40, if_neg (by rw [show (4 : Int32) = nn 4 from rfl, nn_le (by omega) (by omega)]; omega), b258_46]
  by_cases hx : x = 0
  · rw [if_neg (fun z => z hx), if_neg (fun z => z hx), b258_51, eb]
    simp only [ret9]
    rw [b258_58]
    cases e : nb w h c s with
    | none =>
      rw [if_pos oi_n, b258_82, b258_83, b258_85, b258_88, nn_add1, if_neg (by unfold nbI; rw [e]; exact Bool.false_ne_true)]
    | some q =>
      have hq := nb_lt hg.2.2.1 hc e
      rw [if_neg (oi_s (by omega)), b258_62, eb, e]
      simp only [ret9]
      rw [oi_e, b258_73, if_pos (nn_inR (by omega) (by omega)), nn_idx (by omega)]
      by_cases z : I 28 7 q = nn k
      · rw [if_neg (fun y => y z), b258_78, b258_83, b258_85, b258_88, nn_add1, if_pos (nbI_iff.mpr ⟨q, e, decide_eq_true z⟩)]
      · rw [if_pos z, b258_82, b258_83, b258_85, b258_88, nn_add1, if_neg]
        intro y
        obtain ⟨q2, e2, y2⟩ := nbI_iff.mp y
        rw [e] at e2
        cases e2
        exact z (of_decide_eq_true y2)
  · rw [if_pos hx, if_pos hx, b258_78, b258_83, b258_85, b258_88, nn_add1]
theorem nr4 (hg : GW I w h) {k c : Nat} (hc : c < w * h) (x2 : Int32) (o4 o5 : Option AV) : den (d + 2) 258 34 [some (vr 14 0), some (vi (nn k)), some (vi x2), some (vi (nn c)), o4, o5] [] (MX I J T) = den (d + 2) 258 91 [some (vr 14 0), some (vi (nn k)), some (vi x2), some (vi (nn c)), some (vi (if (nbI w h (FL (I 28 7) k) c 1 || nbI w h (FL (I 28 7) k) c 0 || nbI w h (FL (I 28 7) k) c 2 || nbI w h (FL (I 28 7) k) c 3) = true then 1 else 0)), some (vi (nn 4))] [] (MX I J T) := by
  rw [b258_34, b258_37, show (some (vi 0) : Option AV) = some (vi (nn 0)) from rfl]
  rw [nr1 d I J T hg hc (by omega), nr1 d I J T hg hc (by omega), nr1 d I J T hg hc (by omega), nr1 d I J T hg hc (by omega)]
  rw [b258_40, if_pos (by decide)]
  generalize nbI w h (FL (I 28 7) k) c 0 = a0
  generalize nbI w h (FL (I 28 7) k) c (0 + 1) = a1
  generalize nbI w h (FL (I 28 7) k) c (0 + 1 + 1) = a2
  generalize nbI w h (FL (I 28 7) k) c (0 + 1 + 1 + 1) = a3
  cases a0 <;> cases a1 <;> cases a2 <;> cases a3 <;> rfl
theorem pkn_in {pr : Nat → Int32} {k : Nat} {N : Nat → Bool} {n : Nat} : ∀ m c (b : Option Nat), c + m ≤ n → (∀ q, b = some q → q < n ∧ N q = true) → ∀ q, itn (pkS pr k N) m c b = some q → q < n ∧ N q = true
  | 0, _, _, _, h, q, e => h q e
  | m + 1, c, b, hc, h, q, e => pkn_in m (c + 1) (pkS pr k N c b) (by omega) (fun _ z => pks_in (by omega) h z) q e
theorem takenM (hg : GW I w h) (hn : I 14 0 24 = nn (w * h)) {k : Nat} (hk : k < 6) : cal (d + 2) 258 [vr 14 0, vi (nn k)] (MX I J T) = some (.inl (some (vi (oi (PK (I 28 7) (I 39 0) (I 34 1) w h k)))), MX I J T) := by
  have h64 : w * h ≤ 64 := Nat.mul_le_mul hg.2.2.2.1 hg.2.2.2.2.2
  have lp : ∀ m c (b : Option Nat) (o4 o5 : Option AV), c + m = w * h → (∀ q, b = some q → q < w * h) → den (d + 2) 258 4 [some (vr 14 0), some (vi (nn k)), some (vi (oi b)), some (vi (nn c)), o4, o5] [] (MX I J T) = some (.inl (some (vi (oi (itn (pkS (I 34 1) k (NR (I 28 7) (I 39 0) w h k)) m c b)))), MX I J T) := by
    intro m
    induction m with
    | zero =>
      intro c b o4 o5 hc hb
      rw [b258_4, hn, if_pos ((nn_le (by omega) (by omega)).mpr (by omega)), b258_134]
      rfl
    | succ m ih =>
      intro c b o4 o5 hc hb
      have hr : inR (nn c) 64 = true := nn_inR (by omega) (by omega)
      have skip : NR (I 28 7) (I 39 0) w h k c = false → ∀ o4 o5 : Option AV, den (d + 2) 258 128 [some (vr 14 0), some (vi (nn k)), some (vi (oi b)), some (vi (nn c)), o4, o5] [] (MX I J T) = some (.inl (some (vi (oi (itn (pkS (I 34 1) k (NR (I 28 7) (I 39 0) w h k)) (m + 1) c b)))), MX I J T) := by
        intro hN o4 o5
        rw [b258_128, b258_131, nn_add1, ih (c + 1) b o4 o5 (by omega) hb]
        rw [itn_su, show pkS (I 34 1) k (NR (I 28 7) (I 39 0) w h k) c b = b by unfold pkS; rw [hN, if_neg (by decide)]]
      rw [b258_4, hn, if_neg (by rw [nn_le (by omega) (by omega)]; omega), b258_12, if_pos hr, nn_idx (by omega)]
      by_cases z1 : I 39 0 c = 0
      · rw [if_neg (fun y => y z1), b258_21, if_pos hr, nn_idx (by omega)]
        by_cases z2 : I 28 7 c = -1
        · rw [if_pos z2, nr4 d I J T hg (by omega), b258_91]
          generalize hB : (nbI w h (FL (I 28 7) k) c 1 || nbI w h (FL (I 28 7) k) c 0 || nbI w h (FL (I 28 7) k) c 2 || nbI w h (FL (I 28 7) k) c 3) = B
          have hN : NR (I 28 7) (I 39 0) w h k c = B := by
            unfold NR
            rw [hB, decide_eq_true z2, decide_eq_true z1]
            rfl
          cases B with
          | false => rw [if_neg Bool.false_ne_true, if_pos rfl, skip hN]
          | true =>
            rw [if_pos rfl, if_neg (by decide), b258_96]
            have go : ∀ (b2 : Option Nat) (o4 o5 : Option AV), pkS (I 34 1) k (NR (I 28 7) (I 39 0) w h k) c b = b2 → (∀ q, b2 = some q → q < w * h) → den (d + 2) 258 128 [some (vr 14 0), some (vi (nn k)), some (vi (oi b2)), some (vi (nn c)), o4, o5] [] (MX I J T) = some (.inl (some (vi (oi (itn (pkS (I 34 1) k (NR (I 28 7) (I 39 0) w h k)) (m + 1) c b)))), MX I J T) := by
              intro b2 o4 o5 e hb2
              rw [b258_128, b258_131, nn_add1, ih (c + 1) b2 o4 o5 (by omega) hb2]
              rw [itn_su, e]
            cases b with
            | none =>
              rw [if_pos oi_n, b258_126]
              refine go (some c) _ _ ?_ (fun q e => by cases e; omega)
              unfold pkS
              rw [hN, if_pos rfl]
            | some q =>
              have hq := hb q rfl
              rw [if_neg (oi_s (by omega)), b258_101]
              show (if inR (64 * nn k + nn c) 384 = true then (if inR (64 * nn k + nn q) 384 = true then (if I 34 1 (Int32.toNatClampNeg (64 * nn k + nn c)) ≤ I 34 1 (Int32.toNatClampNeg (64 * nn k + nn q)) then _ else _) else none) else none) = _
              rw [show (64 : Int32) = nn 64 from rfl, nn_mul, nn_add, nn_add, if_pos (nn_inR (by omega) (by omega)), if_pos (nn_inR (by omega) (by omega)), nn_idx (by omega), nn_idx (by omega)]
              by_cases z : I 34 1 (64 * k + c) ≤ I 34 1 (64 * k + q)
              · rw [if_pos z]
                refine go (some q) _ _ ?_ hb
                unfold pkS
                rw [hN, if_pos rfl]
                show (if I 34 1 (64 * k + q) < I 34 1 (64 * k + c) then some c else some q) = some q
                rw [if_neg (i32_nlt.mpr z)]
              · rw [if_neg z, b258_126]
                refine go (some c) _ _ ?_ (fun q e => by cases e; omega)
                unfold pkS
                rw [hN, if_pos rfl]
                show (if I 34 1 (64 * k + q) < I 34 1 (64 * k + c) then some c else some q) = some c
                rw [if_pos]
                exact Classical.byContradiction (fun y => z (i32_nlt.mp y))
        · rw [if_neg z2, b258_31, skip]
          unfold NR
          rw [decide_eq_false z2]
          rfl
      · rw [if_pos z1, skip]
        unfold NR
        rw [decide_eq_false z1, Bool.and_false]
        rfl
  rw [c258, b258_2]
  exact lp (w * h) 0 none _ _ (by omega) (fun q e => by cases e)
end TAKEN
