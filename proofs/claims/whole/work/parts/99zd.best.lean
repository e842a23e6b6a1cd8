/-! The best of few cells: what is sought -/
abbrev BST : Type := Option (Int32 × Int32 × Int32 × (Nat → Int32))
def BTT (st : BST) (e s t : Int32) : Prop := match st with
  | none => True
  | some q => e < q.1 ∨ (e = q.1 ∧ (s < q.2.1 ∨ (s = q.2.1 ∧ q.2.2.1 < t)))
theorem itn_idB {β : Type} {f : Nat → β → β} {b : β} : ∀ k c, (∀ i, c ≤ i → i < c + k → f i b = b) → itn f k c b = b
  | 0, _, _ => rfl
  | k + 1, c, h => by
    rw [itn_su, h c (by omega) (by omega)]
    exact itn_idB k (c + 1) (fun i h1 h2 => h i (by omega) (by omega))
theorem itn_add {β : Type} (f : Nat → β → β) (y : Nat) : ∀ x c b, itn f (x + y) c b = itn f y (c + x) (itn f x c b)
  | 0, c, b => by rw [Nat.zero_add, itn_z, Nat.add_zero]
  | x + 1, c, b => by
    rw [show x + 1 + y = x + y + 1 by omega, itn_su, itn_su, itn_add f y x (c + 1), show c + 1 + x = c + (x + 1) by omega]
theorem itn_blk {β : Type} (f : Nat → β → β) (B c0 : Nat) : ∀ a j b, itn f (B * a) ((c0 + j) * B) b = itn (fun k b => itn f B ((c0 + k) * B) b) a j b
  | 0, j, b => by rw [Nat.mul_zero, itn_z, itn_z]
  | a + 1, j, b => by
    rw [show B * (a + 1) = B + B * a by rw [Nat.mul_succ]; omega, itn_add, itn_su, show (c0 + j) * B + B = (c0 + (j + 1)) * B by rw [← Nat.add_assoc, Nat.succ_mul], itn_blk f B c0 a (j + 1)]
section BSP
variable (K : (Nat → Int32) → Prop) (E S T : (Nat → Int32) → Int32) (wt : Nat → Int32) (o : Nat)
noncomputable def upB (ws : Nat → Int32) (st : BST) : BST := @ite _ (BTT st (E ws) (S ws) (T ws) ∧ K ws) (Classical.propDecidable _) (some (E ws, S ws, T ws, ws)) st
theorem upB1 {ws : Nat → Int32} {st : BST} (z : BTT st (E ws) (S ws) (T ws) ∧ K ws) : upB K E S T ws st = some (E ws, S ws, T ws, ws) := by unfold upB; rw [if_pos z]
theorem upB0 {ws : Nat → Int32} {st : BST} (z : ¬ (BTT st (E ws) (S ws) (T ws) ∧ K ws)) : upB K E S T ws st = st := by unfold upB; rw [if_neg z]
noncomputable def foB : Nat → Nat → (Nat → Int32) → BST → BST
  | 0, _, ws, st => upB K E S T ws st
  | r + 1, c, ws, st => if wt c = 0 then itn (fun k st => foB r (c + 1) (wu ws c (nn k)) st) o 0 st else foB r (c + 1) ws st
theorem foB_dry {r c : Nat} {ws : Nat → Int32} {st : BST} (h : wt c = 0) : foB K E S T wt o (r + 1) c ws st = itn (fun k st => foB K E S T wt o r (c + 1) (wu ws c (nn k)) st) o 0 st := by
  show (if _ then _ else _) = _
  rw [if_pos h]
theorem foB_wet {r c : Nat} {ws : Nat → Int32} {st : BST} (h : ¬ wt c = 0) : foB K E S T wt o (r + 1) c ws st = foB K E S T wt o r (c + 1) ws st := by
  show (if _ then _ else _) = _
  rw [if_neg h]
theorem foB_bad {i : Nat} {x : Int32} (hK : ∀ v : Nat → Int32, v i = x → ¬ K v) (st : BST) : ∀ r c ws, (i < c ∨ ¬ wt i = 0) → ws i = x → foB K E S T wt o r c ws st = st
  | 0, c, ws, _, hx => upB0 K E S T (fun z => hK ws hx z.2)
  | r + 1, c, ws, hi, hx => by
    by_cases z : wt c = 0
    · rw [foB_dry K E S T wt o z]
      apply itn_idB
      intro k _ _
      have hic : ¬ i = c := by
        intro y
        subst y
        rcases hi with y | y
        · omega
        · exact y z
      exact foB_bad hK st r (c + 1) _ (by rcases hi with y | y; exact .inl (by omega); exact .inr y) (by unfold wu; rw [if_neg hic]; exact hx)
    · rw [foB_wet K E S T wt o z]
      exact foB_bad hK st r (c + 1) ws (by rcases hi with y | y; exact .inl (by omega); exact .inr y) hx
theorem foB_hl {n : Nat} {may : Nat → Nat → Prop} (HL : Nat → (Nat → Int32) → Prop) (st : BST) (h1 : ∀ ws, HL n ws → ¬ BTT st (E ws) (S ws) (T ws)) (h2 : ∀ c ws k, c < n → HL c ws → wt c = 0 → k < o → may k c → HL (c + 1) (wu ws c (nn k))) (h3 : ∀ c ws, c < n → HL c ws → ¬ wt c = 0 → HL (c + 1) ws) (h4 : ∀ c k, c < n → k < o → ¬ may k c → ∀ v : Nat → Int32, v c = nn k → ¬ K v) : ∀ r c ws, c + r = n → HL c ws → foB K E S T wt o r c ws st = st
  | 0, c, ws, hc, hh => by
    rw [Nat.add_zero] at hc
    subst hc
    exact upB0 K E S T (fun z => h1 ws hh z.1)
  | r + 1, c, ws, hc, hh => by
    by_cases z : wt c = 0
    · rw [foB_dry K E S T wt o z]
      apply itn_idB
      intro k _ hk
      by_cases y : may k c
      · exact foB_hl HL st h1 h2 h3 h4 r (c + 1) _ (by omega) (h2 c ws k (by omega) hh z (by omega) y)
      · exact foB_bad K E S T wt o (i := c) (x := nn k) (h4 c k (by omega) (by omega) y) st r (c + 1) _ (.inl (by omega)) (by unfold wu; rw [if_pos rfl])
    · rw [foB_wet K E S T wt o z]
      exact foB_hl HL st h1 h2 h3 h4 r (c + 1) ws (by omega) (h3 c ws (by omega) hh z)
def NWt (c : Nat) : Bool := decide (wt c = 0)
/-- the drawing of a code -/
def exD (M : Nat) : Nat → Nat → (Nat → Int32) → Nat → (Nat → Int32)
  | 0, _, ws, _ => ws
  | r + 1, c, ws, code => if wt c = 0 then exD M r (c + 1) (wu ws c (nn ((code / o ^ (M - cn (NWt wt) (c + 1))) % o))) code else exD M r (c + 1) ws code
theorem exD_dry {M r c : Nat} {ws : Nat → Int32} {code : Nat} (h : wt c = 0) : exD wt o M (r + 1) c ws code = exD wt o M r (c + 1) (wu ws c (nn ((code / o ^ (M - cn (NWt wt) (c + 1))) % o))) code := by
  show (if _ then _ else _) = _
  rw [if_pos h]
theorem exD_wet {M r c : Nat} {ws : Nat → Int32} {code : Nat} (h : ¬ wt c = 0) : exD wt o M (r + 1) c ws code = exD wt o M r (c + 1) ws code := by
  show (if _ then _ else _) = _
  rw [if_neg h]
theorem exD_at (M n : Nat) : ∀ r c ws code i, c + r = n → exD wt o M r c ws code i = if c ≤ i ∧ i < n ∧ wt i = 0 then nn ((code / o ^ (M - cn (NWt wt) (i + 1))) % o) else ws i
  | 0, c, ws, code, i, hc => by
    rw [if_neg (by omega)]
    rfl
  | r + 1, c, ws, code, i, hc => by
    by_cases z : wt c = 0
    · rw [exD_dry wt o z, exD_at M n r (c + 1) _ code i (by omega)]
      by_cases y : i = c
      · subst y
        rw [if_neg (by omega), if_pos ⟨by omega, by omega, z⟩]
        unfold wu
        rw [if_pos rfl]
      · unfold wu
        rw [if_neg y]
        by_cases x : c + 1 ≤ i ∧ i < n ∧ wt i = 0
        · rw [if_pos x, if_pos ⟨by omega, x.2⟩]
        · rw [if_neg x, if_neg (fun q => x ⟨by omega, q.2⟩)]
    · rw [exD_wet wt o z, exD_at M n r (c + 1) _ code i (by omega)]
      by_cases x : c + 1 ≤ i ∧ i < n ∧ wt i = 0
      · rw [if_pos x, if_pos ⟨by omega, x.2⟩]
      · rw [if_neg x, if_neg (fun q => x ⟨by
          have : ¬ i = c := fun y => by subst y; exact z q.2.2
          omega, q.2⟩)]
theorem foB_codes {n : Nat} (ho : 1 ≤ o) : ∀ r c ws q st, c + r = n → itn (fun code st => upB K E S T (exD wt o (cn (NWt wt) n) r c ws code) st) (o ^ (cn (NWt wt) n - cn (NWt wt) c)) (q * o ^ (cn (NWt wt) n - cn (NWt wt) c)) st = foB K E S T wt o r c ws st
  | 0, c, ws, q, st, hc => by
    rw [Nat.add_zero] at hc
    subst hc
    rw [Nat.sub_self, Nat.pow_zero, itn_su, itn_z]
    rfl
  | r + 1, c, ws, q, st, hc => by
    have hmono := cn_mono2 (NWt wt) (show c + 1 ≤ n by omega)
    have hsu := cn_succ (NWt wt) c
    by_cases z : wt c = 0
    · have hnw : NWt wt c = true := decide_eq_true z
      rw [if_pos hnw] at hsu
      rw [foB_dry K E S T wt o z, show cn (NWt wt) n - cn (NWt wt) c = (cn (NWt wt) n - cn (NWt wt) (c + 1)) + 1 by omega, Nat.pow_succ]
      have hB : 0 < o ^ (cn (NWt wt) n - cn (NWt wt) (c + 1)) := Nat.pow_pos (by omega)
      have ih := fun k st => foB_codes (n := n) ho r (c + 1) (wu ws c (nn k)) (q * o + k) st (by omega)
      generalize hBB : o ^ (cn (NWt wt) n - cn (NWt wt) (c + 1)) = B at hB ih ⊢
      have e := itn_blk (fun code st => upB K E S T (exD wt o (cn (NWt wt) n) (r + 1) c ws code) st) B (q * o) o 0 st
      rw [show (q * o + 0) * B = q * (B * o) by rw [Nat.add_zero, Nat.mul_assoc, Nat.mul_comm o B]] at e
      rw [e]
      apply itn_congr
      intro k st _ hk
      rw [← ih k st]
      apply itn_congr
      intro code st2 h1 h2
      have hd : code / B = q * o + k := by
        rw [Nat.div_eq_iff hB]
        constructor
        · exact h1
        · omega
      have hm : code / B % o = k := by
        rw [hd, Nat.mul_comm, Nat.mul_add_mod, Nat.mod_eq_of_lt (by omega)]
      show upB K E S T (exD wt o (cn (NWt wt) n) (r + 1) c ws code) st2 = _
      rw [exD_dry wt o z, hBB, hm]
    · have hnw : NWt wt c = false := decide_eq_false z
      rw [hnw, if_neg (by decide), Nat.add_zero] at hsu
      rw [foB_wet K E S T wt o z, ← foB_codes (n := n) ho r (c + 1) ws q st (by omega), hsu]
      apply itn_congr
      intro code st2 _ _
      show upB K E S T (exD wt o (cn (NWt wt) n) (r + 1) c ws code) st2 = _
      rw [exD_wet wt o z]
end BSP
