/-! A border walked: sides with the field at the right hand -/
def dX : Nat → Int
  | 0 => 1
  | 1 => 0
  | 2 => -1
  | _ => 0
def dY : Nat → Int
  | 0 => 0
  | 1 => 1
  | 2 => 0
  | _ => -1
def cX : Nat → Int
  | 0 => 0
  | 1 => 0
  | _ => -1
def cY : Nat → Int
  | 0 => -1
  | 1 => 0
  | 2 => 0
  | _ => -1
abbrev WS : Type := Int × Int × Nat
abbrev FD : Type := Int → Int → Bool
theorem F2 (F : FD) {a b c d : Int} (h1 : a = c) (h2 : b = d) : F a b = F c d := by rw [h1, h2]
theorem kq4 {k : Nat} (hk : k < 4) : k = 0 ∨ k = 1 ∨ k = 2 ∨ k = 3 := by omega
/-- the cells around a corner -/
def qd (F : FD) (x y : Int) (j : Nat) : Bool := F (x + cX j) (y + cY j)
def tnB (r l : Bool) (k : Nat) : Nat := if r = false then (k + 1) % 4 else if l = true then (k + 3) % 4 else k
def tnW (F : FD) (x y : Int) (k : Nat) : Nat := tnB (qd F x y ((k + 1) % 4)) (qd F x y k) k
def nxW (F : FD) (s : WS) : WS := (s.1 + dX s.2.2, s.2.1 + dY s.2.2, tnW F (s.1 + dX s.2.2) (s.2.1 + dY s.2.2) s.2.2)
/-- a side with the field at its right hand only -/
def VS (F : FD) (s : WS) : Prop := s.2.2 < 4 ∧ qd F s.1 s.2.1 ((s.2.2 + 1) % 4) = true ∧ qd F s.1 s.2.1 s.2.2 = false
theorem qd_0 (F : FD) (x y : Int) : qd F x y 0 = F x (y - 1) := F2 F (Int.add_zero x) rfl
theorem qd_1 (F : FD) (x y : Int) : qd F x y 1 = F x y := F2 F (Int.add_zero x) (Int.add_zero y)
theorem qd_2 (F : FD) (x y : Int) : qd F x y 2 = F (x - 1) y := F2 F rfl (Int.add_zero y)
theorem qd_3 (F : FD) (x y : Int) : qd F x y 3 = F (x - 1) (y - 1) := F2 F rfl rfl
theorem qd_back (F : FD) (x y : Int) {k : Nat} (hk : k < 4) : qd F (x + dX k) (y + dY k) ((k + 2) % 4) = qd F x y ((k + 1) % 4) ∧ qd F (x + dX k) (y + dY k) ((k + 3) % 4) = qd F x y k := by
  rcases kq4 hk with rfl | rfl | rfl | rfl
  · show qd F (x + 1) (y + 0) 2 = qd F x y 1 ∧ qd F (x + 1) (y + 0) 3 = qd F x y 0
    rw [qd_2, qd_1, qd_3, qd_0]
    exact ⟨F2 F (by omega) (by omega), F2 F (by omega) (by omega)⟩
  · show qd F (x + 0) (y + 1) 3 = qd F x y 2 ∧ qd F (x + 0) (y + 1) 0 = qd F x y 1
    rw [qd_2, qd_1, qd_3, qd_0]
    exact ⟨F2 F (by omega) (by omega), F2 F (by omega) (by omega)⟩
  · show qd F (x + -1) (y + 0) 0 = qd F x y 3 ∧ qd F (x + -1) (y + 0) 1 = qd F x y 2
    rw [qd_2, qd_1, qd_3, qd_0]
    exact ⟨F2 F (by omega) (by omega), F2 F (by omega) (by omega)⟩
  · show qd F (x + 0) (y + -1) 1 = qd F x y 0 ∧ qd F (x + 0) (y + -1) 2 = qd F x y 3
    rw [qd_2, qd_1, qd_3, qd_0]
    exact ⟨F2 F (by omega) (by omega), F2 F (by omega) (by omega)⟩
def q4 (a b c d : Bool) : Nat → Bool
  | 0 => a
  | 1 => b
  | 2 => c
  | _ => d
theorem q4_of (Q : Nat → Bool) {j : Nat} (hj : j < 4) : Q j = q4 (Q 0) (Q 1) (Q 2) (Q 3) j := by
  rcases kq4 hj with rfl | rfl | rfl | rfl <;> rfl
theorem v_dec : ∀ (a b c d : Bool) (k : Fin 4), q4 a b c d ((k.val + 2) % 4) = true → q4 a b c d ((k.val + 3) % 4) = false → q4 a b c d ((tnB (q4 a b c d ((k.val + 1) % 4)) (q4 a b c d k.val) k.val + 1) % 4) = true ∧ q4 a b c d (tnB (q4 a b c d ((k.val + 1) % 4)) (q4 a b c d k.val) k.val) = false := by decide
theorem i_dec : ∀ (a b c d : Bool) (k j : Fin 4), q4 a b c d ((k.val + 2) % 4) = true → q4 a b c d ((k.val + 3) % 4) = false → q4 a b c d ((j.val + 2) % 4) = true → q4 a b c d ((j.val + 3) % 4) = false → tnB (q4 a b c d ((k.val + 1) % 4)) (q4 a b c d k.val) k.val = tnB (q4 a b c d ((j.val + 1) % 4)) (q4 a b c d j.val) j.val → k.val = j.val := by decide
theorem tnB_lt (r l : Bool) {k : Nat} (hk : k < 4) : tnB r l k < 4 := by
  unfold tnB
  split
  · omega
  · split <;> omega
theorem tnW_q4 (F : FD) (x y : Int) {k : Nat} (hk : k < 4) : tnW F x y k = tnB (q4 (qd F x y 0) (qd F x y 1) (qd F x y 2) (qd F x y 3) ((k + 1) % 4)) (q4 (qd F x y 0) (qd F x y 1) (qd F x y 2) (qd F x y 3) k) k := by
  unfold tnW
  rw [← q4_of (qd F x y) hk, ← q4_of (qd F x y) (show (k + 1) % 4 < 4 by omega)]
theorem VS_nx {F : FD} {s : WS} (h : VS F s) : VS F (nxW F s) := by
  obtain ⟨h1, h2, h3⟩ := h
  obtain ⟨b1, b2⟩ := qd_back F s.1 s.2.1 h1
  rw [h2] at b1
  rw [h3] at b2
  unfold nxW
  generalize s.1 + dX s.2.2 = x at b1 b2
  generalize s.2.1 + dY s.2.2 = y at b1 b2
  have t4 : tnW F x y s.2.2 < 4 := tnB_lt _ _ h1
  rw [q4_of (qd F x y) (show (s.2.2 + 2) % 4 < 4 by omega)] at b1
  rw [q4_of (qd F x y) (show (s.2.2 + 3) % 4 < 4 by omega)] at b2
  have v := v_dec _ _ _ _ ⟨s.2.2, h1⟩ b1 b2
  dsimp only at v
  rw [← tnW_q4 F x y h1] at v
  refine ⟨t4, ?_, ?_⟩
  · show qd F x y ((tnW F x y s.2.2 + 1) % 4) = true
    rw [q4_of (qd F x y) (show (tnW F x y s.2.2 + 1) % 4 < 4 by omega)]
    exact v.1
  · show qd F x y (tnW F x y s.2.2) = false
    rw [q4_of (qd F x y) t4]
    exact v.2
theorem nx_inj {F : FD} {s s2 : WS} (h : VS F s) (h2 : VS F s2) (e : nxW F s = nxW F s2) : s = s2 := by
  obtain ⟨x, y, k⟩ := s
  obtain ⟨x2, y2, j⟩ := s2
  obtain ⟨a1, a2, a3⟩ := h
  obtain ⟨c1, c2, c3⟩ := h2
  dsimp only at a1 a2 a3 c1 c2 c3
  obtain ⟨b1, b2⟩ := qd_back F x y a1
  obtain ⟨d1, d2⟩ := qd_back F x2 y2 c1
  rw [a2] at b1
  rw [a3] at b2
  rw [c2] at d1
  rw [c3] at d2
  unfold nxW at e
  dsimp only at e
  have e1 : x + dX k = x2 + dX j := congrArg (fun s : WS => s.1) e
  have e2 : y + dY k = y2 + dY j := congrArg (fun s : WS => s.2.1) e
  have e3 : tnW F (x + dX k) (y + dY k) k = tnW F (x2 + dX j) (y2 + dY j) j := congrArg (fun s : WS => s.2.2) e
  rw [← e1, ← e2] at d1 d2 e3
  generalize hp : x + dX k = p at b1 b2 d1 d2 e3 e1
  generalize hq : y + dY k = q at b1 b2 d1 d2 e3 e2
  rw [q4_of (qd F p q) (show (k + 2) % 4 < 4 by omega)] at b1
  rw [q4_of (qd F p q) (show (k + 3) % 4 < 4 by omega)] at b2
  rw [q4_of (qd F p q) (show (j + 2) % 4 < 4 by omega)] at d1
  rw [q4_of (qd F p q) (show (j + 3) % 4 < 4 by omega)] at d2
  rw [tnW_q4 F p q a1, tnW_q4 F p q c1] at e3
  have hkj : k = j := i_dec _ _ _ _ ⟨k, a1⟩ ⟨j, c1⟩ b1 b2 d1 d2 e3
  subst hkj
  have hx : x = x2 := by omega
  have hy : y = y2 := by omega
  rw [hx, hy]
def orb (F : FD) (s : WS) : Nat → WS
  | 0 => s
  | t + 1 => nxW F (orb F s t)
theorem orb_VS {F : FD} {s : WS} (h : VS F s) : ∀ t, VS F (orb F s t)
  | 0 => h
  | t + 1 => VS_nx (orb_VS h t)
theorem orb_back {F : FD} {s : WS} (h : VS F s) : ∀ i m, orb F s i = orb F s (i + m) → orb F s m = s
  | 0, m, e => by rw [Nat.zero_add] at e; exact e.symm
  | i + 1, m, e => by
    apply orb_back h i m
    rw [show i + 1 + m = (i + m) + 1 by omega] at e
    exact nx_inj (orb_VS h i) (orb_VS h (i + m)) e
theorem pigeon : ∀ n (f : Nat → Nat), (∀ i, i ≤ n → f i < n) → ∃ i j, i < j ∧ j ≤ n ∧ f i = f j
  | 0, f, h => absurd (h 0 (Nat.le_refl 0)) (by omega)
  | n + 1, f, h => by
    by_cases hex : ∃ i, i ≤ n ∧ f i = f (n + 1)
    · obtain ⟨i, h1, h2⟩ := hex
      exact ⟨i, n + 1, by omega, Nat.le_refl _, h2⟩
    · have hv := h (n + 1) (Nat.le_refl _)
      obtain ⟨i, j, h1, h2, h3⟩ := pigeon n (fun i => if f (n + 1) < f i then f i - 1 else f i) (fun i hi => by
        have q1 := h i (by omega)
        have q2 : ¬ f i = f (n + 1) := fun z => hex ⟨i, hi, z⟩
        show (if f (n + 1) < f i then f i - 1 else f i) < n
        split <;> omega)
      refine ⟨i, j, h1, by omega, ?_⟩
      have q2 : ¬ f i = f (n + 1) := fun z => hex ⟨i, by omega, z⟩
      have q3 : ¬ f j = f (n + 1) := fun z => hex ⟨j, by omega, z⟩
      split at h3 <;> split at h3 <;> omega
/-- a field within w times h -/
def FB (F : FD) (w h : Nat) : Prop := ∀ x y, F x y = true → 0 ≤ x ∧ x < w ∧ 0 ≤ y ∧ y < h
def cdV (s : WS) : Nat := match s.2.2 with
  | 0 => (s.2.1 * 8 + s.1).toNat
  | 1 => (72 + s.1 * 8 + s.2.1).toNat
  | 2 => (s.2.1 * 8 + s.1 - 1).toNat
  | _ => (72 + s.1 * 8 + s.2.1 - 1).toNat
/-- what a valid side says of its two cells -/
theorem VS_0 {F : FD} {x y : Int} (h : VS F (x, y, 0)) : F x y = true ∧ F x (y - 1) = false := ⟨(qd_1 F x y).symm.trans h.2.1, (qd_0 F x y).symm.trans h.2.2⟩
theorem VS_1 {F : FD} {x y : Int} (h : VS F (x, y, 1)) : F (x - 1) y = true ∧ F x y = false := ⟨(qd_2 F x y).symm.trans h.2.1, (qd_1 F x y).symm.trans h.2.2⟩
theorem VS_2 {F : FD} {x y : Int} (h : VS F (x, y, 2)) : F (x - 1) (y - 1) = true ∧ F (x - 1) y = false := ⟨(qd_3 F x y).symm.trans h.2.1, (qd_2 F x y).symm.trans h.2.2⟩
theorem VS_3 {F : FD} {x y : Int} (h : VS F (x, y, 3)) : F x (y - 1) = true ∧ F (x - 1) (y - 1) = false := ⟨(qd_0 F x y).symm.trans (show qd F x y ((3 + 1) % 4) = true from h.2.1), (qd_3 F x y).symm.trans h.2.2⟩
theorem cd_lt {F : FD} {w h : Nat} (hB : FB F w h) (hw : w ≤ 8) (hh : h ≤ 8) {s : WS} (hs : VS F s) : cdV s < 144 := by
  obtain ⟨x, y, k⟩ := s
  rcases kq4 hs.1 with z | z | z | z
  · dsimp only at z; subst z
    have := hB _ _ (VS_0 hs).1
    show (y * 8 + x).toNat < 144
    omega
  · dsimp only at z; subst z
    have := hB _ _ (VS_1 hs).1
    show (72 + x * 8 + y).toNat < 144
    omega
  · dsimp only at z; subst z
    have := hB _ _ (VS_2 hs).1
    show (y * 8 + x - 1).toNat < 144
    omega
  · dsimp only at z; subst z
    have := hB _ _ (VS_3 hs).1
    show (72 + x * 8 + y - 1).toNat < 144
    omega
theorem cd_inj {F : FD} {w h : Nat} (hB : FB F w h) (hw : w ≤ 8) (hh : h ≤ 8) {s s2 : WS} (hs : VS F s) (hs2 : VS F s2) (e : cdV s = cdV s2) : s = s2 := by
  obtain ⟨x, y, k⟩ := s
  obtain ⟨x2, y2, j⟩ := s2
  have cl : ∀ {a b c d : Int}, F a b = true → F c d = false → a = c → b = d → False := fun h1 h2 h3 h4 => by
    rw [h3, h4, h2] at h1; cases h1
  rcases kq4 hs.1 with z | z | z | z <;> dsimp only at z <;> subst z
  · obtain ⟨r, l⟩ := VS_0 hs
    have rb := hB _ _ r
    change (y * 8 + x).toNat = _ at e
    rcases kq4 hs2.1 with z | z | z | z <;> dsimp only at z <;> subst z
    · obtain ⟨r2, l2⟩ := VS_0 hs2
      have rb2 := hB _ _ r2
      change _ = (y2 * 8 + x2).toNat at e
      have e1 : x = x2 := by omega
      have e2 : y = y2 := by omega
      rw [e1, e2]
    · obtain ⟨r2, l2⟩ := VS_1 hs2
      have rb2 := hB _ _ r2
      change _ = (72 + x2 * 8 + y2).toNat at e
      omega
    · obtain ⟨r2, l2⟩ := VS_2 hs2
      have rb2 := hB _ _ r2
      change _ = (y2 * 8 + x2 - 1).toNat at e
      exact (cl r l2 (by omega) (by omega)).elim
    · obtain ⟨r2, l2⟩ := VS_3 hs2
      have rb2 := hB _ _ r2
      change _ = (72 + x2 * 8 + y2 - 1).toNat at e
      omega
  · obtain ⟨r, l⟩ := VS_1 hs
    have rb := hB _ _ r
    change (72 + x * 8 + y).toNat = _ at e
    rcases kq4 hs2.1 with z | z | z | z <;> dsimp only at z <;> subst z
    · obtain ⟨r2, l2⟩ := VS_0 hs2
      have rb2 := hB _ _ r2
      change _ = (y2 * 8 + x2).toNat at e
      omega
    · obtain ⟨r2, l2⟩ := VS_1 hs2
      have rb2 := hB _ _ r2
      change _ = (72 + x2 * 8 + y2).toNat at e
      have e1 : x = x2 := by omega
      have e2 : y = y2 := by omega
      rw [e1, e2]
    · obtain ⟨r2, l2⟩ := VS_2 hs2
      have rb2 := hB _ _ r2
      change _ = (y2 * 8 + x2 - 1).toNat at e
      omega
    · obtain ⟨r2, l2⟩ := VS_3 hs2
      have rb2 := hB _ _ r2
      change _ = (72 + x2 * 8 + y2 - 1).toNat at e
      exact (cl r l2 (by omega) (by omega)).elim
  · obtain ⟨r, l⟩ := VS_2 hs
    have rb := hB _ _ r
    change (y * 8 + x - 1).toNat = _ at e
    rcases kq4 hs2.1 with z | z | z | z <;> dsimp only at z <;> subst z
    · obtain ⟨r2, l2⟩ := VS_0 hs2
      have rb2 := hB _ _ r2
      change _ = (y2 * 8 + x2).toNat at e
      exact (cl r2 l (by omega) (by omega)).elim
    · obtain ⟨r2, l2⟩ := VS_1 hs2
      have rb2 := hB _ _ r2
      change _ = (72 + x2 * 8 + y2).toNat at e
      omega
    · obtain ⟨r2, l2⟩ := VS_2 hs2
      have rb2 := hB _ _ r2
      change _ = (y2 * 8 + x2 - 1).toNat at e
      have e1 : x = x2 := by omega
      have e2 : y = y2 := by omega
      rw [e1, e2]
    · obtain ⟨r2, l2⟩ := VS_3 hs2
      have rb2 := hB _ _ r2
      change _ = (72 + x2 * 8 + y2 - 1).toNat at e
      omega
  · obtain ⟨r, l⟩ := VS_3 hs
    have rb := hB _ _ r
    change (72 + x * 8 + y - 1).toNat = _ at e
    rcases kq4 hs2.1 with z | z | z | z <;> dsimp only at z <;> subst z
    · obtain ⟨r2, l2⟩ := VS_0 hs2
      have rb2 := hB _ _ r2
      change _ = (y2 * 8 + x2).toNat at e
      omega
    · obtain ⟨r2, l2⟩ := VS_1 hs2
      have rb2 := hB _ _ r2
      change _ = (72 + x2 * 8 + y2).toNat at e
      exact (cl r2 l (by omega) (by omega)).elim
    · obtain ⟨r2, l2⟩ := VS_2 hs2
      have rb2 := hB _ _ r2
      change _ = (y2 * 8 + x2 - 1).toNat at e
      omega
    · obtain ⟨r2, l2⟩ := VS_3 hs2
      have rb2 := hB _ _ r2
      change _ = (72 + x2 * 8 + y2 - 1).toNat at e
      have e1 : x = x2 := by omega
      have e2 : y = y2 := by omega
      rw [e1, e2]
/-- n steps bring back to the start, for the first time -/
def RET1 (F : FD) (s : WS) (n : Nat) : Prop := 0 < n ∧ n ≤ 144 ∧ orb F s n = s ∧ ∀ j, 0 < j → j < n → ¬ orb F s j = s
theorem ret_ex {F : FD} {w h : Nat} (hB : FB F w h) (hw : w ≤ 8) (hh : h ≤ 8) {s : WS} (hs : VS F s) : ∃ n, RET1 F s n := by
  obtain ⟨i, j, h1, h2, h3⟩ := pigeon 144 (fun t => cdV (orb F s t)) (fun t _ => cd_lt hB hw hh (orb_VS hs t))
  have h4 := cd_inj hB hw hh (orb_VS hs i) (orb_VS hs j) h3
  rw [show j = i + (j - i) by omega] at h4
  have h5 := orb_back hs i (j - i) h4
  obtain ⟨c, c1, c2, c3⟩ := least_ex (fun c => decide (orb F s (c + 1) = s)) 144 ⟨j - i - 1, by omega, decide_eq_true (by rw [show j - i - 1 + 1 = j - i by omega]; exact h5)⟩
  refine ⟨c + 1, by omega, by omega, of_decide_eq_true c2, fun t t1 t2 => ?_⟩
  have := of_decide_eq_false (c3 (t - 1) (by omega))
  rwa [show t - 1 + 1 = t by omega] at this
/-- the start's corner -/
def SCr (F : FD) (x y : Int) : Prop := F x y = true ∧ F (x - 1) y = false ∧ ∀ a, F a (y - 1) = false
theorem SC_VS {F : FD} {x y : Int} (h : SCr F x y) : VS F (x, y, 0) := ⟨by show 0 < 4; omega, by show qd F x y 1 = true; rw [qd_1]; exact h.1, by show qd F x y 0 = false; rw [qd_0]; exact h.2.2 x⟩
theorem SC_one {F : FD} {x y : Int} (h : SCr F x y) {k : Nat} (hv : VS F (x, y, k)) : k = 0 := by
  rcases kq4 hv.1 with z | z | z | z <;> dsimp only at z <;> subst z
  · rfl
  · have := (VS_1 hv).1; rw [h.2.1] at this; cases this
  · have := (VS_2 hv).1; rw [h.2.2] at this; cases this
  · have := (VS_3 hv).1; rw [h.2.2] at this; cases this
theorem orb_dist {F : FD} {s : WS} (hs : VS F s) {n : Nat} (hn : RET1 F s n) {i j : Nat} (hij : i < j) (hj : j < n) : ¬ orb F s i = orb F s j := by
  intro z
  rw [show j = i + (j - i) by omega] at z
  exact hn.2.2.2 (j - i) (by omega) (by omega) (orb_back hs i (j - i) z)
