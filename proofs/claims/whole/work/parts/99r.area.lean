/-! What a walk encloses -/
def sI (f : Nat → Int) : Nat → Int
  | 0 => 0
  | n + 1 => sI f n + f n
theorem sI_congr {f g : Nat → Int} : ∀ n, (∀ c, c < n → f c = g c) → sI f n = sI g n
  | 0, _ => rfl
  | n + 1, h => by
    show sI f n + f n = sI g n + g n
    rw [sI_congr n (fun c hc => h c (by omega)), h n (by omega)]
theorem sI_add (f g : Nat → Int) : ∀ n, sI (fun c => f c + g c) n = sI f n + sI g n
  | 0 => rfl
  | n + 1 => by
    show sI (fun c => f c + g c) n + (f n + g n) = sI f n + f n + (sI g n + g n)
    rw [sI_add f g n]; omega
theorem sI_sub (f g : Nat → Int) : ∀ n, sI (fun c => f c - g c) n = sI f n - sI g n
  | 0 => rfl
  | n + 1 => by
    show sI (fun c => f c - g c) n + (f n - g n) = sI f n + f n - (sI g n + g n)
    rw [sI_sub f g n]; omega
theorem sI_zero : ∀ n, sI (fun _ => 0) n = 0
  | 0 => rfl
  | n + 1 => by
    show sI (fun _ => 0) n + 0 = 0
    rw [sI_zero n]; rfl
theorem sI_z {f : Nat → Int} {n : Nat} (h : ∀ c, c < n → f c = 0) : sI f n = 0 := by
  rw [sI_congr n h, sI_zero]
theorem sI_tele (f : Nat → Int) : ∀ n, sI (fun t => f (t + 1) - f t) n = f n - f 0
  | 0 => by show (0 : Int) = f 0 - f 0; omega
  | n + 1 => by
    show sI (fun t => f (t + 1) - f t) n + (f (n + 1) - f n) = _
    rw [sI_tele f n]; omega
theorem sI_nn {f : Nat → Int} : ∀ n, (∀ c, c < n → 0 ≤ f c) → 0 ≤ sI f n
  | 0, _ => Int.le_refl 0
  | n + 1, h => by
    have h1 := sI_nn n (fun c hc => h c (by omega))
    have h2 := h n (by omega)
    show 0 ≤ sI f n + f n
    omega
theorem sI_first {f : Nat → Int} : ∀ n, 0 < n → (∀ c, c < n → 0 ≤ f c) → f 0 ≤ sI f n
  | 0, h, _ => absurd h (by omega)
  | 1, _, _ => by show f 0 ≤ 0 + f 0; omega
  | n + 2, _, h => by
    have h1 := sI_first (n + 1) (by omega) (fun c hc => h c (by omega))
    have h2 := h (n + 1) (by omega)
    show f 0 ≤ sI f (n + 1) + f (n + 1)
    omega
/-- at most one of them is taken off -/
theorem sI_one {f : Nat → Int} : ∀ n, (∀ c, c < n → f c = 0 ∨ f c = -1) → (∀ i j, i < j → j < n → f i = -1 → f j = -1 → False) → -1 ≤ sI f n
  | 0, _, _ => by show (-1 : Int) ≤ 0; omega
  | n + 1, h1, h2 => by
    show -1 ≤ sI f n + f n
    rcases h1 n (by omega) with z | z
    · have := sI_one n (fun c hc => h1 c (by omega)) (fun i j hij hj => h2 i j hij (by omega))
      omega
    · have : sI f n = 0 := sI_z (fun c hc => by
        rcases h1 c (by omega) with y | y
        · exact y
        · exact (h2 c n hc (by omega) y z).elim)
      omega
theorem sI_swap (f : Nat → Nat → Int) : ∀ n m, sI (fun i => sI (fun j => f i j) m) n = sI (fun j => sI (fun i => f i j) n) m
  | 0, m => (sI_z (fun _ _ => rfl)).symm
  | n + 1, m => by
    show sI (fun i => sI (fun j => f i j) m) n + sI (fun j => f n j) m = sI (fun j => sI (fun i => f i j) n + f n j) m
    rw [sI_swap f n m, sI_add]
/-- how far up or down a side of row y goes, left of a cell -/
def uW (s : WS) (x y : Int) : Int := if s.2.2 = 3 ∧ s.2.1 = y + 1 ∧ s.1 ≤ x then 1 else if s.2.2 = 1 ∧ s.2.1 = y ∧ s.1 ≤ x then -1 else 0
def hW9 (s : WS) (x y : Int) : Int := if s.2.2 = 3 ∧ s.2.1 = y + 1 ∧ s.1 = x then 1 else if s.2.2 = 1 ∧ s.2.1 = y ∧ s.1 = x then -1 else 0
def vW9 (s : WS) (x y : Int) : Int := if s.2.2 = 0 ∧ s.2.1 = y ∧ s.1 = x then 1 else if s.2.2 = 2 ∧ s.2.1 = y ∧ s.1 = x + 1 then -1 else 0
def phW (a b x y : Int) : Int := if b = y ∧ a ≤ x then 1 else 0
theorem uW_h (s : WS) (x y : Int) : uW s x y - uW s (x - 1) y = hW9 s x y := by
  unfold uW hW9
  repeat' split
  all_goals omega
theorem uW_v (s : WS) (hs : s.2.2 < 4) (x y : Int) : uW s x y - uW s x (y - 1) = (phW (s.1 + dX s.2.2) (s.2.1 + dY s.2.2) x y - phW s.1 s.2.1 x y) + vW9 s x y := by
  obtain ⟨a, b, k⟩ := s
  dsimp only at hs
  unfold uW vW9 phW
  dsimp only
  rcases kq4 hs with rfl | rfl | rfl | rfl
  · rw [show dX 0 = 1 from rfl, show dY 0 = 0 from rfl]
    repeat' split
    all_goals omega
  · rw [show dX 1 = 0 from rfl, show dY 1 = 1 from rfl]
    repeat' split
    all_goals omega
  · rw [show dX 2 = -1 from rfl, show dY 2 = 0 from rfl]
    repeat' split
    all_goals omega
  · rw [show dX 3 = 0 from rfl, show dY 3 = -1 from rfl]
    repeat' split
    all_goals omega
/-- how often a cell is walked around -/
def WN (F : FD) (s : WS) (n : Nat) (x y : Int) : Int := sI (fun t => uW (orb F s t) x y) n
theorem WN_h (F : FD) (s : WS) (n : Nat) (x y : Int) : WN F s n x y - WN F s n (x - 1) y = sI (fun t => hW9 (orb F s t) x y) n := by
  unfold WN
  rw [← sI_sub]
  exact sI_congr n (fun t _ => uW_h _ x y)
theorem WN_v {F : FD} {s : WS} (hs : VS F s) {n : Nat} (hn : RET1 F s n) (x y : Int) : WN F s n x y - WN F s n x (y - 1) = sI (fun t => vW9 (orb F s t) x y) n := by
  unfold WN
  rw [← sI_sub]
  have e := sI_tele (fun t => phW (orb F s t).1 (orb F s t).2.1 x y) n
  rw [hn.2.2.1] at e
  rw [sI_congr (g := fun t => (phW (orb F s (t + 1)).1 (orb F s (t + 1)).2.1 x y - phW (orb F s t).1 (orb F s t).2.1 x y) + vW9 (orb F s t) x y) n (fun t _ => uW_v _ (orb_VS hs t).1 x y), sI_add, e]
  show phW s.1 s.2.1 x y - phW s.1 s.2.1 x y + _ = _
  omega
theorem h_val {F : FD} {s : WS} (hs : VS F s) (x y : Int) : (hW9 s x y = 1 → F x y = true ∧ F (x - 1) y = false) ∧ (hW9 s x y = -1 → s = (x, y, 1) ∧ F (x - 1) y = true ∧ F x y = false) ∧ (hW9 s x y = 0 ∨ hW9 s x y = 1 ∨ hW9 s x y = -1) := by
  obtain ⟨a, b, k⟩ := s
  unfold hW9
  dsimp only
  by_cases z1 : k = 3 ∧ b = y + 1 ∧ a = x
  · rw [if_pos z1]
    obtain ⟨rfl, rfl, rfl⟩ := z1
    obtain ⟨r, l⟩ := VS_3 hs
    refine ⟨fun _ => ⟨?_, ?_⟩, fun z => absurd z (by decide), .inr (.inl rfl)⟩
    · rw [← r]; exact F2 F rfl (by omega)
    · rw [← l]; exact F2 F rfl (by omega)
  · rw [if_neg z1]
    by_cases z2 : k = 1 ∧ b = y ∧ a = x
    · rw [if_pos z2]
      obtain ⟨rfl, rfl, rfl⟩ := z2
      exact ⟨fun z => absurd z (by decide), fun _ => ⟨rfl, VS_1 hs⟩, .inr (.inr rfl)⟩
    · rw [if_neg z2]
      exact ⟨fun z => absurd z (by decide), fun z => absurd z (by decide), .inl rfl⟩
theorem v_val {F : FD} {s : WS} (hs : VS F s) (x y : Int) : (vW9 s x y = 1 → F x y = true ∧ F x (y - 1) = false) ∧ (vW9 s x y = -1 → F x (y - 1) = true ∧ F x y = false) ∧ (vW9 s x y = 0 ∨ vW9 s x y = 1 ∨ vW9 s x y = -1) := by
  obtain ⟨a, b, k⟩ := s
  unfold vW9
  dsimp only
  by_cases z1 : k = 0 ∧ b = y ∧ a = x
  · rw [if_pos z1]
    obtain ⟨rfl, rfl, rfl⟩ := z1
    exact ⟨fun _ => VS_0 hs, fun z => absurd z (by decide), .inr (.inl rfl)⟩
  · rw [if_neg z1]
    by_cases z2 : k = 2 ∧ b = y ∧ a = x + 1
    · rw [if_pos z2]
      obtain ⟨rfl, rfl, rfl⟩ := z2
      obtain ⟨r, l⟩ := VS_2 hs
      refine ⟨fun z => absurd z (by decide), fun _ => ⟨?_, ?_⟩, .inr (.inr rfl)⟩
      · rw [← r]; exact F2 F (by omega) rfl
      · rw [← l]; exact F2 F (by omega) rfl
    · rw [if_neg z2]
      exact ⟨fun z => absurd z (by decide), fun z => absurd z (by decide), .inl rfl⟩
section ENC
variable {F : FD} {w h : Nat} {x0 y0 : Int} {n : Nat}
theorem WN_he (hS : SCr F x0 y0) {x y : Int} (e : F x y = F (x - 1) y) : WN F (x0, y0, 0) n x y = WN F (x0, y0, 0) n (x - 1) y := by
  have h1 := WN_h F (x0, y0, 0) n x y
  rw [sI_z (fun t _ => by
    obtain ⟨q1, q2, q3⟩ := h_val (orb_VS (SC_VS hS) t) x y
    rcases q3 with z | z | z
    · exact z
    · have := q1 z; rw [e, this.2] at this; cases this.1
    · have := q2 z; rw [e, this.2.1] at this; cases this.2.2)] at h1
  omega
theorem WN_ve (hS : SCr F x0 y0) (hn : RET1 F (x0, y0, 0) n) {x y : Int} (e : F x y = F x (y - 1)) : WN F (x0, y0, 0) n x y = WN F (x0, y0, 0) n x (y - 1) := by
  have h1 := WN_v (SC_VS hS) hn x y
  rw [sI_z (fun t _ => by
    obtain ⟨q1, q2, q3⟩ := v_val (orb_VS (SC_VS hS) t) x y
    rcases q3 with z | z | z
    · exact z
    · have := q1 z; rw [e, this.2] at this; cases this.1
    · have := q2 z; rw [e, this.1] at this; cases this.2)] at h1
  omega
theorem WN_hd (hS : SCr F x0 y0) (hn : RET1 F (x0, y0, 0) n) {x y : Int} (e1 : F (x - 1) y = true) (e2 : F x y = false) : WN F (x0, y0, 0) n (x - 1) y - 1 ≤ WN F (x0, y0, 0) n x y := by
  have h1 := WN_h F (x0, y0, 0) n x y
  have h2 := sI_one (f := fun t => hW9 (orb F (x0, y0, 0) t) x y) n (fun t _ => by
    obtain ⟨q1, q2, q3⟩ := h_val (orb_VS (SC_VS hS) t) x y
    rcases q3 with z | z | z
    · exact .inl z
    · have := q1 z; rw [e2] at this; cases this.1
    · exact .inr z) (fun i j hij hj z1 z2 => by
    obtain ⟨-, q1, -⟩ := h_val (orb_VS (SC_VS hS) i) x y
    obtain ⟨-, q2, -⟩ := h_val (orb_VS (SC_VS hS) j) x y
    exact orb_dist (SC_VS hS) hn hij hj ((q1 z1).1.trans (q2 z2).1.symm))
  omega
theorem WN_up (hS : SCr F x0 y0) (x : Int) : WN F (x0, y0, 0) n x (y0 - 1) = 0 := by
  unfold WN
  apply sI_z
  intro t _
  have hv := orb_VS (SC_VS hS) t
  generalize orb F (x0, y0, 0) t = s at hv
  obtain ⟨a, b, k⟩ := s
  unfold uW
  dsimp only
  by_cases z1 : k = 3 ∧ b = y0 - 1 + 1 ∧ a ≤ x
  · obtain ⟨rfl, z2, -⟩ := z1
    have := (VS_3 hv).1
    rw [show b - 1 = y0 - 1 by omega, hS.2.2] at this
    cases this
  · rw [if_neg z1]
    by_cases z2 : k = 1 ∧ b = y0 - 1 ∧ a ≤ x
    · obtain ⟨rfl, rfl, -⟩ := z2
      have := (VS_1 hv).1
      rw [hS.2.2] at this
      cases this
    · rw [if_neg z2]
theorem WN_st (hS : SCr F x0 y0) (hn : RET1 F (x0, y0, 0) n) : 1 ≤ WN F (x0, y0, 0) n x0 y0 := by
  have h1 := WN_v (SC_VS hS) hn x0 y0
  rw [WN_up hS x0] at h1
  have h2 := sI_first (f := fun t => vW9 (orb F (x0, y0, 0) t) x0 y0) n hn.1 (fun t _ => by
    obtain ⟨q1, q2, q3⟩ := v_val (orb_VS (SC_VS hS) t) x0 y0
    rcases q3 with z | z | z
    · show 0 ≤ vW9 (orb F (x0, y0, 0) t) x0 y0; omega
    · show 0 ≤ vW9 (orb F (x0, y0, 0) t) x0 y0; omega
    · have := q2 z; rw [hS.1] at this; cases this.2)
  have h3 : vW9 (orb F (x0, y0, 0) 0) x0 y0 = 1 := by
    show vW9 (x0, y0, 0) x0 y0 = 1
    unfold vW9
    rw [if_pos ⟨rfl, rfl, rfl⟩]
  omega
theorem WN_left (hS : SCr F x0 y0) (hB : FB F w h) (y : Int) : WN F (x0, y0, 0) n (-1) y = 0 := by
  unfold WN
  apply sI_z
  intro t _
  have hv := orb_VS (SC_VS hS) t
  generalize orb F (x0, y0, 0) t = s at hv
  obtain ⟨a, b, k⟩ := s
  unfold uW
  dsimp only
  by_cases z1 : k = 3 ∧ b = y + 1 ∧ a ≤ -1
  · obtain ⟨rfl, z2, z3⟩ := z1
    have := hB _ _ (VS_3 hv).1
    omega
  · rw [if_neg z1]
    by_cases z2 : k = 1 ∧ b = y ∧ a ≤ -1
    · obtain ⟨rfl, rfl, z3⟩ := z2
      have := hB _ _ (VS_1 hv).1
      omega
    · rw [if_neg z2]
theorem WN_nn (hS : SCr F x0 y0) (hn : RET1 F (x0, y0, 0) n) (hB : FB F w h) (hF : ∀ x y, F x y = true → 1 ≤ WN F (x0, y0, 0) n x y) (y : Int) : ∀ c : Nat, 0 ≤ WN F (x0, y0, 0) n ((c : Int) - 1) y
  | 0 => by
    rw [show ((0 : Nat) : Int) - 1 = -1 from rfl, WN_left hS hB]
    exact Int.le_refl 0
  | c + 1 => by
    have ih := WN_nn hS hn hB hF y c
    rw [show ((c + 1 : Nat) : Int) - 1 = (c : Int) by omega]
    cases e : F (c : Int) y with
    | true => have := hF _ _ e; omega
    | false =>
      cases e2 : F ((c : Int) - 1) y with
      | true =>
        have h1 := WN_hd hS hn e2 e
        have h2 := hF _ _ e2
        omega
      | false =>
        rw [WN_he hS (e.trans e2.symm)]
        exact ih
/-- what the walk's upright sides sum up to -/
def AR (F : FD) (s : WS) (n : Nat) : Int := sI (fun t => (orb F s t).1 * dY (orb F s t).2.2) n
theorem sum_y (a v : Int) : ∀ m : Nat, sI (fun y => if a = (y : Int) then v else 0) m = if 0 ≤ a ∧ a < m then v else 0
  | 0 => by rw [if_neg (by omega)]; rfl
  | m + 1 => by
    show sI (fun y => if a = (y : Int) then v else 0) m + (if a = (m : Int) then v else 0) = _
    rw [sum_y a v m]
    repeat' split
    all_goals omega
theorem sum_x (a : Int) (ha : 0 ≤ a) : ∀ m : Nat, a ≤ m → sI (fun x => if a ≤ (x : Int) then 1 else 0) m = m - a
  | 0, h => by
    show (0 : Int) = ((0 : Nat) : Int) - a
    omega
  | m + 1, h => by
    show sI (fun x => if a ≤ (x : Int) then 1 else 0) m + (if a ≤ (m : Int) then 1 else 0) = _
    by_cases z : a ≤ m
    · rw [sum_x a ha m z, if_pos z]; omega
    · rw [if_neg z, sI_z (fun c hc => if_neg (by omega))]; omega
theorem sum_xy {a b : Int} (ha : 0 ≤ a) (haw : a ≤ w) (hb : 0 ≤ b) (hbh : b < h) : sI (fun y => sI (fun x => if b = (y : Int) ∧ a ≤ (x : Int) then 1 else 0) w) h = w - a := by
  rw [sI_congr (g := fun y => if b = (y : Int) then ((w : Int) - a) else 0) h (fun y _ => by
    by_cases z : b = (y : Int)
    · rw [if_pos z, ← sum_x a ha w haw]
      exact sI_congr w (fun x _ => by
        by_cases zz : a ≤ (x : Int)
        · rw [if_pos ⟨z, zz⟩, if_pos zz]
        · rw [if_neg (fun q => zz q.2), if_neg zz])
    · rw [if_neg z]
      exact sI_z (fun x _ => if_neg (fun q => z q.1))), sum_y, if_pos ⟨hb, hbh⟩]
theorem sI_neg (f : Nat → Int) : ∀ n, sI (fun c => -f c) n = -sI f n
  | 0 => rfl
  | n + 1 => by
    show sI (fun c => -f c) n + -f n = -(sI f n + f n)
    rw [sI_neg f n]; omega
/-- one side's share of all cells -/
theorem uW_sum (hB : FB F w h) {s : WS} (hv : VS F s) : sI (fun y => sI (fun x => uW s (x : Int) (y : Int)) w) h = s.1 * dY s.2.2 - w * dY s.2.2 := by
  obtain ⟨a, b, k⟩ := s
  rcases kq4 hv.1 with z | z | z | z <;> dsimp only at z <;> subst z
  · show _ = a * 0 - w * 0
    rw [sI_z (fun y _ => sI_z (fun x _ => by unfold uW; dsimp only; rw [if_neg (fun q => absurd q.1 (by decide)), if_neg (fun q => absurd q.1 (by decide))]))]
    omega
  · obtain ⟨r, -⟩ := VS_1 hv
    have rb := hB _ _ r
    show _ = a * 1 - w * 1
    rw [sI_congr (g := fun y => -sI (fun x => if b = (y : Int) ∧ a ≤ (x : Int) then 1 else 0) w) h (fun y _ => by
      rw [← sI_neg]
      exact sI_congr w (fun x _ => by
        unfold uW
        dsimp only
        rw [if_neg (fun q => absurd q.1 (by decide))]
        by_cases zz : b = (y : Int) ∧ a ≤ (x : Int)
        · rw [if_pos ⟨rfl, zz⟩, if_pos zz]
        · rw [if_neg (fun q => zz q.2), if_neg zz]; rfl)), sI_neg, sum_xy (by omega) (by omega) (by omega) (by omega)]
    omega
  · show _ = a * 0 - w * 0
    rw [sI_z (fun y _ => sI_z (fun x _ => by unfold uW; dsimp only; rw [if_neg (fun q => absurd q.1 (by decide)), if_neg (fun q => absurd q.1 (by decide))]))]
    omega
  · obtain ⟨r, -⟩ := VS_3 hv
    have rb := hB _ _ r
    show _ = a * (-1) - w * (-1)
    rw [sI_congr (g := fun y => sI (fun x => if b - 1 = (y : Int) ∧ a ≤ (x : Int) then 1 else 0) w) h (fun y _ => by
      exact sI_congr w (fun x _ => by
        unfold uW
        dsimp only
        by_cases zz : b - 1 = (y : Int) ∧ a ≤ (x : Int)
        · rw [if_pos ⟨rfl, by omega, zz.2⟩, if_pos zz]
        · rw [if_neg (fun q => zz ⟨by omega, q.2.2⟩), if_neg (fun q => absurd q.1 (by decide)), if_neg zz])), sum_xy (by omega) (by omega) (by omega) (by omega)]
    omega
theorem sI_mulc (v : Int) (f : Nat → Int) : ∀ n, sI (fun c => v * f c) n = v * sI f n
  | 0 => (Int.mul_zero v).symm
  | n + 1 => by
    show sI (fun c => v * f c) n + v * f n = v * (sI f n + f n)
    rw [sI_mulc v f n, Int.mul_add]
theorem AR_eq (hS : SCr F x0 y0) (hn : RET1 F (x0, y0, 0) n) (hB : FB F w h) : AR F (x0, y0, 0) n = sI (fun y => sI (fun x => WN F (x0, y0, 0) n (x : Int) (y : Int)) w) h := by
  have e1 : sI (fun y => sI (fun x => WN F (x0, y0, 0) n (x : Int) (y : Int)) w) h = sI (fun t => sI (fun y => sI (fun x => uW (orb F (x0, y0, 0) t) (x : Int) (y : Int)) w) h) n := by
    rw [sI_swap (fun t y => sI (fun x => uW (orb F (x0, y0, 0) t) (x : Int) ((y : Nat) : Int)) w) n h]
    apply sI_congr
    intro y _
    show sI (fun x => sI (fun t => uW (orb F (x0, y0, 0) t) (x : Int) (y : Int)) n) w = _
    rw [sI_swap (fun x t => uW (orb F (x0, y0, 0) t) ((x : Nat) : Int) (y : Int)) w n]
  rw [e1, sI_congr n (fun t _ => uW_sum hB (orb_VS (SC_VS hS) t)), sI_sub, sI_mulc]
  have e2 : sI (fun t => dY (orb F (x0, y0, 0) t).2.2) n = 0 := by
    have e := sI_tele (fun t => (orb F (x0, y0, 0) t).2.1) n
    rw [hn.2.2.1] at e
    rw [sI_congr (g := fun t => (orb F (x0, y0, 0) (t + 1)).2.1 - (orb F (x0, y0, 0) t).2.1) n (fun t _ => by
      show _ = (orb F (x0, y0, 0) t).2.1 + dY (orb F (x0, y0, 0) t).2.2 - (orb F (x0, y0, 0) t).2.1
      omega), e]
    show y0 - y0 = 0
    omega
  rw [e2, Int.mul_zero, Int.sub_zero]
  rfl
theorem AR_nn (hS : SCr F x0 y0) (hn : RET1 F (x0, y0, 0) n) (hB : FB F w h) (hF : ∀ x y, F x y = true → 1 ≤ WN F (x0, y0, 0) n x y) : 0 ≤ AR F (x0, y0, 0) n := by
  rw [AR_eq hS hn hB]
  apply sI_nn
  intro y _
  apply sI_nn
  intro x _
  have := WN_nn hS hn hB hF (y : Int) (x + 1)
  rwa [show ((x + 1 : Nat) : Int) - 1 = (x : Int) by omega] at this
end ENC
