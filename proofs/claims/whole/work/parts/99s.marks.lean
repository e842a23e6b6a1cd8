/-! The stakes of a walk -/
def upZ (f : Nat → Int) (c : Nat) (v : Int) : Nat → Int := fun i => if i = c then v else f i
/-- the stakes set behind i steps: where, and how many -/
def mkW (F : FD) (s : WS) : Nat → (Nat → Int) × (Nat → Int) × Nat
  | 0 => (fun _ => s.1, fun _ => s.2.1, 1)
  | i + 1 => if (orb F s (i + 1)).2.2 = (orb F s i).2.2 then mkW F s i else (upZ (mkW F s i).1 (mkW F s i).2.2 (orb F s (i + 1)).1, upZ (mkW F s i).2.1 (mkW F s i).2.2 (orb F s (i + 1)).2.1, (mkW F s i).2.2 + 1)
theorem mkW_same {F : FD} {s : WS} {i : Nat} (e : (orb F s (i + 1)).2.2 = (orb F s i).2.2) : mkW F s (i + 1) = mkW F s i := by
  show (if _ then _ else _) = _
  rw [if_pos e]
theorem mkW_turn {F : FD} {s : WS} {i : Nat} (e : ¬ (orb F s (i + 1)).2.2 = (orb F s i).2.2) : mkW F s (i + 1) = (upZ (mkW F s i).1 (mkW F s i).2.2 (orb F s (i + 1)).1, upZ (mkW F s i).2.1 (mkW F s i).2.2 (orb F s (i + 1)).2.1, (mkW F s i).2.2 + 1) := by
  show (if _ then _ else _) = _
  rw [if_neg e]
theorem mkW_c (F : FD) (s : WS) : ∀ i, 1 ≤ (mkW F s i).2.2 ∧ (mkW F s i).2.2 ≤ i + 1
  | 0 => ⟨Nat.le_refl 1, Nat.le_refl 1⟩
  | i + 1 => by
    have ih := mkW_c F s i
    by_cases e : (orb F s (i + 1)).2.2 = (orb F s i).2.2
    · rw [mkW_same e]; omega
    · rw [mkW_turn e]
      dsimp only
      omega
/-- where a valid side begins -/
theorem VS_pos {F : FD} {w h : Nat} (hB : FB F w h) {s : WS} (hs : VS F s) : 0 ≤ s.1 ∧ s.1 ≤ w ∧ 0 ≤ s.2.1 ∧ s.2.1 ≤ h := by
  obtain ⟨x, y, k⟩ := s
  rcases kq4 hs.1 with z | z | z | z <;> dsimp only at z <;> subst z
  · have := hB _ _ (VS_0 hs).1; dsimp only; omega
  · have := hB _ _ (VS_1 hs).1; dsimp only; omega
  · have := hB _ _ (VS_2 hs).1; dsimp only; omega
  · have := hB _ _ (VS_3 hs).1; dsimp only; omega
theorem mkW_pos {F : FD} {w h : Nat} (hB : FB F w h) {s : WS} (hs : VS F s) : ∀ i j, 0 ≤ (mkW F s i).1 j ∧ (mkW F s i).1 j ≤ w ∧ 0 ≤ (mkW F s i).2.1 j ∧ (mkW F s i).2.1 j ≤ h
  | 0, j => VS_pos hB hs
  | i + 1, j => by
    have ih := mkW_pos hB hs i j
    by_cases e : (orb F s (i + 1)).2.2 = (orb F s i).2.2
    · rw [mkW_same e]; exact ih
    · rw [mkW_turn e]
      dsimp only
      unfold upZ
      by_cases z : j = (mkW F s i).2.2
      · rw [if_pos z, if_pos z]; exact VS_pos hB (orb_VS hs (i + 1))
      · rw [if_neg z, if_neg z]; exact ih
theorem mkW_0 {F : FD} {s : WS} : ∀ i, (mkW F s i).1 0 = s.1 ∧ (mkW F s i).2.1 0 = s.2.1
  | 0 => ⟨rfl, rfl⟩
  | i + 1 => by
    have ih := mkW_0 (F := F) (s := s) i
    have hc := mkW_c F s i
    by_cases e : (orb F s (i + 1)).2.2 = (orb F s i).2.2
    · rw [mkW_same e]; exact ih
    · rw [mkW_turn e]
      dsimp only
      unfold upZ
      rw [if_neg (by omega), if_neg (by omega)]
      exact ih
/-- the sum along stakes -/
def PA (X Y : Nat → Int) (l : Nat) : Int := sI (fun j => X j * (Y (j + 1) - Y j)) l
theorem mk_inv {F : FD} {s : WS} (hs : VS F s) : ∀ i, ∃ l, (mkW F s i).2.2 = l + 1 ∧ AR F s i = PA (mkW F s i).1 (mkW F s i).2.1 l + (mkW F s i).1 l * ((orb F s i).2.1 - (mkW F s i).2.1 l) ∧ (((orb F s i).2.2 = 0 ∨ (orb F s i).2.2 = 2) → (orb F s i).2.1 = (mkW F s i).2.1 l) ∧ (((orb F s i).2.2 = 1 ∨ (orb F s i).2.2 = 3) → (orb F s i).1 = (mkW F s i).1 l) ∧ ∀ j, j < l → (mkW F s i).1 (j + 1) = (mkW F s i).1 j ∨ (mkW F s i).2.1 (j + 1) = (mkW F s i).2.1 j
  | 0 => ⟨0, rfl, by
      show (0 : Int) = 0 + s.1 * (s.2.1 - s.2.1)
      rw [Int.sub_self, Int.mul_zero]; rfl, fun _ => rfl, fun _ => rfl, fun j hj => absurd hj (by omega)⟩
  | i + 1 => by
    obtain ⟨l, h1, h2, h3, h4, h5⟩ := mk_inv hs i
    have hv := (orb_VS hs i).1
    have hA : AR F s (i + 1) = AR F s i + (orb F s i).1 * dY (orb F s i).2.2 := rfl
    have hx : (orb F s (i + 1)).1 = (orb F s i).1 + dX (orb F s i).2.2 := rfl
    have hy : (orb F s (i + 1)).2.1 = (orb F s i).2.1 + dY (orb F s i).2.2 := rfl
    generalize (orb F s i).1 = x at *
    generalize (orb F s i).2.1 = y at *
    have hkk : (orb F s i).2.2 = (orb F s i).2.2 := rfl
    have hS : AR F s (i + 1) = PA (mkW F s i).1 (mkW F s i).2.1 l + (mkW F s i).1 l * ((orb F s (i + 1)).2.1 - (mkW F s i).2.1 l) := by
      rw [hA, h2, hy]
      rcases kq4 hv with z | z | z | z
      · rw [z]; show _ + x * 0 = _ + _ * (y + 0 - _); rw [Int.mul_zero, Int.add_zero, Int.add_zero]
      · rw [z, ← h4 (.inl z)]; show _ + x * 1 = _ + _ * (y + 1 - _)
        rw [Int.add_assoc, ← Int.mul_add]; congr 2; omega
      · rw [z]; show _ + x * 0 = _ + _ * (y + 0 - _); rw [Int.mul_zero, Int.add_zero, Int.add_zero]
      · rw [z, ← h4 (.inr z)]; show _ + x * (-1) = _ + _ * (y + -1 - _)
        rw [Int.add_assoc, ← Int.mul_add]; congr 2; omega
    have hh : ((orb F s i).2.2 = 0 ∨ (orb F s i).2.2 = 2) → (orb F s (i + 1)).2.1 = (mkW F s i).2.1 l := fun z => by
      rw [hy, ← h3 z]
      rcases z with z | z
      · rw [z]; show y + 0 = y; omega
      · rw [z]; show y + 0 = y; omega
    have hvv : ((orb F s i).2.2 = 1 ∨ (orb F s i).2.2 = 3) → (orb F s (i + 1)).1 = (mkW F s i).1 l := fun z => by
      rw [hx, ← h4 z]
      rcases z with z | z
      · rw [z]; show x + 0 = x; omega
      · rw [z]; show x + 0 = x; omega
    by_cases e : (orb F s (i + 1)).2.2 = (orb F s i).2.2
    · rw [mkW_same e]
      refine ⟨l, h1, hS, fun z => hh (by rw [← e]; exact z), fun z => hvv (by rw [← e]; exact z), h5⟩
    · rw [mkW_turn e]
      dsimp only
      rw [h1]
      have c1 : ∀ (f : Nat → Int) (v : Int) j, j < l + 1 → upZ f (l + 1) v j = f j := fun f v j hj => by
        unfold upZ; rw [if_neg (by omega)]
      have c2 : ∀ (f : Nat → Int) (v : Int), upZ f (l + 1) v (l + 1) = v := fun f v => by
        unfold upZ; rw [if_pos rfl]
      refine ⟨l + 1, rfl, ?_, fun _ => (c2 _ _).symm, fun _ => (c2 _ _).symm, ?_⟩
      · rw [c2, c2, Int.sub_self, Int.mul_zero, Int.add_zero, hS]
        unfold PA
        show _ = sI (fun j => upZ _ (l + 1) _ j * (upZ _ (l + 1) _ (j + 1) - upZ _ (l + 1) _ j)) l + upZ _ (l + 1) _ l * (upZ _ (l + 1) _ (l + 1) - upZ _ (l + 1) _ l)
        rw [c2, c1 _ _ l (by omega), c1 _ _ l (by omega)]
        congr 1
        exact sI_congr l (fun j hj => by rw [c1 _ _ j (by omega), c1 _ _ j (by omega), c1 _ _ (j + 1) (by omega)])
      · intro j hj
        by_cases z : j = l
        · subst z
          rw [c2, c2, c1 _ _ j (by omega), c1 _ _ j (by omega)]
          rcases kq4 hv with z | z | z | z
          · exact .inr (hh (.inl z))
          · exact .inl (hvv (.inl z))
          · exact .inr (hh (.inr z))
          · exact .inl (hvv (.inr z))
        · rw [c1 _ _ j (by omega), c1 _ _ j (by omega), c1 _ _ (j + 1) (by omega), c1 _ _ (j + 1) (by omega)]
          exact h5 j (by omega)
/-- the next stake, around -/
def nxS (c j : Nat) : Nat := if j + 1 < c then j + 1 else 0
def CA (X Y : Nat → Int) (c : Nat) : Int := sI (fun j => X j * (Y (nxS c j) - Y j)) c
def CT (X Y : Nat → Int) (c : Nat) : Int := sI (fun j => X j * Y (nxS c j) - X (nxS c j) * Y j) c
theorem nxS_lt {l j : Nat} (h : j < l) : nxS (l + 1) j = j + 1 := by unfold nxS; rw [if_pos (by omega)]
theorem nxS_l (l : Nat) : nxS (l + 1) l = 0 := by unfold nxS; rw [if_neg (by omega)]
theorem pair2 {a b c d : Int} (h : c = a ∨ d = b) : a * d - c * b = 2 * (a * (d - b)) - (c * d - a * b) := by
  rcases h with rfl | rfl
  · rw [Int.mul_sub]; omega
  · rw [Int.mul_sub]; omega
theorem CT_CA (X Y : Nat → Int) (l : Nat) (h1 : ∀ j, j < l → X (j + 1) = X j ∨ Y (j + 1) = Y j) (h2 : X 0 = X l ∨ Y 0 = Y l) : CT X Y (l + 1) = 2 * CA X Y (l + 1) := by
  unfold CT CA
  show sI (fun j => X j * Y (nxS (l + 1) j) - X (nxS (l + 1) j) * Y j) l + (X l * Y (nxS (l + 1) l) - X (nxS (l + 1) l) * Y l) = 2 * (sI (fun j => X j * (Y (nxS (l + 1) j) - Y j)) l + X l * (Y (nxS (l + 1) l) - Y l))
  rw [nxS_l, pair2 h2]
  rw [sI_congr (g := fun j => 2 * (X j * (Y (j + 1) - Y j)) - (X (j + 1) * Y (j + 1) - X j * Y j)) l (fun j hj => by rw [nxS_lt hj, pair2 (h1 j hj)])]
  rw [sI_congr (f := fun j => X j * (Y (nxS (l + 1) j) - Y j)) (g := fun j => X j * (Y (j + 1) - Y j)) l (fun j hj => by rw [nxS_lt hj])]
  rw [sI_sub, sI_mulc]
  have e := sI_tele (fun j => X j * Y j) l
  rw [e]
  generalize sI (fun j => X j * (Y (j + 1) - Y j)) l = A
  generalize X l * (Y 0 - Y l) = B
  generalize X 0 * Y 0 = C
  generalize X l * Y l = D
  omega
/-- the stakes of the whole walk: what they sum up to -/
theorem mk_end {F : FD} {w h : Nat} {x0 y0 : Int} {n : Nat} (hS : SCr F x0 y0) (hn : RET1 F (x0, y0, 0) n) : CA (mkW F (x0, y0, 0) (n - 1)).1 (mkW F (x0, y0, 0) (n - 1)).2.1 (mkW F (x0, y0, 0) (n - 1)).2.2 = AR F (x0, y0, 0) n ∧ CT (mkW F (x0, y0, 0) (n - 1)).1 (mkW F (x0, y0, 0) (n - 1)).2.1 (mkW F (x0, y0, 0) (n - 1)).2.2 = 2 * AR F (x0, y0, 0) n := by
  obtain ⟨m, rfl⟩ : ∃ m, n = m + 1 := ⟨n - 1, by have := hn.1; omega⟩
  rw [show m + 1 - 1 = m by omega]
  obtain ⟨l, h1, h2, h3, h4, h5⟩ := mk_inv (SC_VS hS) m
  obtain ⟨z1, z2⟩ := mkW_0 (F := F) (s := (x0, y0, 0)) m
  have hv := (orb_VS (SC_VS hS) m).1
  have hr := hn.2.2.1
  have hA : AR F (x0, y0, 0) (m + 1) = AR F (x0, y0, 0) m + (orb F (x0, y0, 0) m).1 * dY (orb F (x0, y0, 0) m).2.2 := rfl
  have hx : x0 = (orb F (x0, y0, 0) m).1 + dX (orb F (x0, y0, 0) m).2.2 := (congrArg (fun s : WS => s.1) hr).symm
  have hy : y0 = (orb F (x0, y0, 0) m).2.1 + dY (orb F (x0, y0, 0) m).2.2 := (congrArg (fun s : WS => s.2.1) hr).symm
  have hl : (mkW F (x0, y0, 0) m).1 0 = (mkW F (x0, y0, 0) m).1 l ∨ (mkW F (x0, y0, 0) m).2.1 0 = (mkW F (x0, y0, 0) m).2.1 l := by
    rw [z1, z2]
    show x0 = _ ∨ y0 = _
    rcases kq4 hv with z | z | z | z
    · rw [z] at hy; exact .inr ((hy.trans (Int.add_zero _)).trans (h3 (.inl z)))
    · rw [z] at hx; exact .inl ((hx.trans (Int.add_zero _)).trans (h4 (.inl z)))
    · rw [z] at hy; exact .inr ((hy.trans (Int.add_zero _)).trans (h3 (.inr z)))
    · rw [z] at hx; exact .inl ((hx.trans (Int.add_zero _)).trans (h4 (.inr z)))
  have hCA : CA (mkW F (x0, y0, 0) m).1 (mkW F (x0, y0, 0) m).2.1 (l + 1) = AR F (x0, y0, 0) (m + 1) := by
    have e1 : CA (mkW F (x0, y0, 0) m).1 (mkW F (x0, y0, 0) m).2.1 (l + 1) = PA (mkW F (x0, y0, 0) m).1 (mkW F (x0, y0, 0) m).2.1 l + (mkW F (x0, y0, 0) m).1 l * (y0 - (mkW F (x0, y0, 0) m).2.1 l) := by
      unfold CA PA
      show sI (fun j => (mkW F (x0, y0, 0) m).1 j * ((mkW F (x0, y0, 0) m).2.1 (nxS (l + 1) j) - (mkW F (x0, y0, 0) m).2.1 j)) l + (mkW F (x0, y0, 0) m).1 l * ((mkW F (x0, y0, 0) m).2.1 (nxS (l + 1) l) - (mkW F (x0, y0, 0) m).2.1 l) = _
      rw [nxS_l, z2]
      congr 1
      exact sI_congr l (fun j hj => by rw [nxS_lt hj])
    rw [e1, hA, h2]
    generalize (mkW F (x0, y0, 0) m).1 l = X at *
    generalize (mkW F (x0, y0, 0) m).2.1 l = Y at *
    generalize (orb F (x0, y0, 0) m).1 = x at *
    generalize (orb F (x0, y0, 0) m).2.1 = y at *
    rw [Int.add_assoc]
    congr 1
    rcases kq4 hv with z | z | z | z
    · rw [z] at hy; rw [z]; change y0 = y + 0 at hy; show _ = X * (y - Y) + x * 0
      rw [hy, Int.mul_zero, Int.add_zero, Int.add_zero]
    · rw [z] at hy; rw [z, ← h4 (.inl z)]; change y0 = y + 1 at hy; show _ = x * (y - Y) + x * 1
      rw [hy, ← Int.mul_add]; congr 1; omega
    · rw [z] at hy; rw [z]; change y0 = y + 0 at hy; show _ = X * (y - Y) + x * 0
      rw [hy, Int.mul_zero, Int.add_zero, Int.add_zero]
    · rw [z] at hy; rw [z, ← h4 (.inr z)]; change y0 = y + -1 at hy; show _ = x * (y - Y) + x * (-1)
      rw [hy, ← Int.mul_add]; congr 1; omega
  rw [h1]
  refine ⟨hCA, ?_⟩
  rw [CT_CA _ _ l h5 hl, hCA]
