/-! What holds between the class's memory and the reference's, between two calls of the law -/
/-- the neighbour of a cell at a side, as the reference numbers sides -/
def nb (w h c s : Nat) : Option Nat := match s with
  | 0 => if c % w + 1 < w then some (c + 1) else none
  | 1 => if 0 < c % w then some (c - 1) else none
  | 2 => if w ≤ c then some (c - w) else none
  | _ => if c + w < w * h then some (c + w) else none
def dst (w a b : Nat) : Nat := (a % w - b % w) + (b % w - a % w) + ((a / w - b / w) + (b / w - a / w))
def nearW (wt : Nat → Int32) (w h c : Nat) : Bool := [0, 1, 2, 3].any (fun s => match nb w h c s with
  | some d => decide (¬ wt d = 0)
  | none => false)
def clp (v : Int32) : Int32 := max9 (-10000) (min9 10000 v)
def opM (act a b : Int32) : Int32 := if act = 110 then a + b else if act = 111 then a - b else if act = 112 then a * b else if act = 113 then min9 a b else max9 a b
def stpM (g : Int32 → Int32) (act : Int32) (st : List Int32) : List Int32 := if act < 110 then g act :: st else match st with
  | b :: a :: r => clp (opM act a b) :: r
  | _ => st
def runM (g : Int32 → Int32) (p : Nat → Int32) : Nat → Nat → List Int32 → List Int32
  | 0, _, st => st
  | k + 1, i, st => runM g p k (i + 1) (stpM g (p i) st)
/-- k steps from i on, with t on the stack, keep the stack's bounds and leave one -/
def okP (p : Nat → Int32) : Nat → Nat → Nat → Prop
  | 0, _, t => t = 1
  | k + 1, i, t => (p i < 110 ∧ 0 ≤ p i ∧ p i ≤ 103 ∧ t < 20 ∧ okP p k (i + 1) (t + 1)) ∨ (110 ≤ p i ∧ p i ≤ 114 ∧ 2 ≤ t ∧ okP p k (i + 1) (t - 1))
/-- the class's step for the reference's -/
def clsS (x : Int32) : Int32 := if x < 110 then x else x - 6
def sng (soil wet far water act : Int32) : Int32 := if act = 100 then soil else if act = 101 then wet else if act = 102 then far else if act = 103 then water else act
/-- the reference's value of a cell to an owner -/
def VAL (I : PI) (b w h k c : Nat) : Int32 := (runM (sng (I 28 4 c) (I 28 5 c) (nn (dst w c (I 21 10 k).toNatClampNeg)) (if nearW (I 39 0) w h c = true then 1 else 0)) (fun i => I 33 b (48 * k + i)) (I 21 (b + 12) k).toNatClampNeg 0 []).headD 0
def RelT (I : PI) : Prop := ∃ t : Nat, t ≤ 500 ∧ I 11 0 10 = nn t ∧ I 14 0 8 = nn t ∧ ∀ i, I 37 0 i = I 37 1 i ∧ (-128 ≤ I 37 0 i ∧ I 37 0 i ≤ 127)
def RelA (I : PI) : Prop := I 14 0 3 = I 11 0 11 ∧ I 14 0 1 = I 11 0 15 ∧ (I 14 0 2 = if I 11 0 15 = 4 then I 11 0 12 else -1) ∧ I 14 0 28 = I 11 0 13 ∧ I 14 0 29 = I 11 0 14
/-- the books, of o owners -/
def RelB (I : PI) (g : Nat) (mb : OR) (o : Nat) : Prop := (o = 0 ∧ mb = rz ∧ I 1 g 3 = 0) ∨ ∃ b, mb = ro 12 b ∧ 1 ≤ o ∧ o ≤ 6 ∧ I 1 g 3 = nn o ∧ I 12 b 0 = nn o ∧ ∀ k, k < o → ∃ len, len ≤ 40 ∧ I 21 (5 * g) k = nn len ∧ I 21 (b + 12) k = nn len ∧ okP (fun i => I 33 b (48 * k + i)) len 0 0 ∧ ∀ i, i < len → I 31 g (40 * k + i) = clsS (I 33 b (48 * k + i))
/-- the ground's size -/
def RelW (I : PI) (w h : Nat) : Prop := I 5 0 7 = nn w ∧ I 5 0 8 = nn h ∧ I 5 0 9 = nn (w * h) ∧ I 14 0 22 = nn w ∧ I 14 0 23 = nn h ∧ I 14 0 24 = nn (w * h) ∧ ((w = 0 ∧ h = 0) ∨ (1 ≤ w ∧ w ≤ 8 ∧ 1 ≤ h ∧ h ≤ 8))
/-- sets that go with the size -/
def RelM (J : PJ) (w h : Nat) : Prop := ∀ c, c < 64 → bt (J 5 0 12) c = decide (c < w * h) ∧ bt (J 5 0 14) c = decide (c < w * h ∧ c % w = 0) ∧ bt (J 5 0 15) c = decide (c < w * h ∧ c % w + 1 = w)
def ownr (o : Nat) (x : Int32) : Prop := x = -1 ∨ ∃ k, k < o ∧ x = nn k
/-- the cells -/
def RelC (I : PI) (J : PJ) (n o : Nat) : Prop := (∀ c, c < 64 → (bt (J 5 0 13) c = true ↔ (c < n ∧ ¬ I 39 0 c = 0))) ∧ (∀ c, c < n → (I 39 0 c = 0 ∨ I 39 0 c = 1) ∧ I 28 0 c = I 28 4 c ∧ (0 ≤ I 28 4 c ∧ I 28 4 c ≤ 9) ∧ I 28 1 c = I 28 5 c ∧ (0 ≤ I 28 5 c ∧ I 28 5 c ≤ 9) ∧ I 28 2 c = I 28 6 c ∧ ownr o (I 28 6 c))
/-- the drawing -/
def RelD (I : PI) (J : PJ) (n o : Nat) : Prop := (∀ c, c < n → I 28 3 c = I 28 7 c ∧ ownr o (I 28 7 c)) ∧ ∀ k, k < 6 → ∀ c, c < 64 → (bt (J 42 1 k) c = true ↔ (c < n ∧ I 28 7 c = nn k))
/-- doors, what they had, width and limit -/
def RelO (I : PI) (n o : Nat) : Prop := (∀ k, k < o → I 21 3 k = I 21 10 k ∧ I 21 4 k = I 21 11 k ∧ (0 < n → ∃ p, p < n ∧ I 21 10 k = nn p) ∧ (0 ≤ I 21 11 k ∧ I 21 11 k ≤ 1000000)) ∧ ((n = 0 ∧ I 5 0 10 = 0 ∧ I 5 0 11 = 0) ∨ (0 < n ∧ I 5 0 10 = I 14 0 25 ∧ (I 14 0 25 = 1 ∨ I 14 0 25 = 2) ∧ I 5 0 11 = I 14 0 26 ∧ ∃ l, l ≤ 20 ∧ I 14 0 26 = nn l))
/-- corners told -/
def RelK (I : PI) (w h : Nat) : Prop := ∃ k, k ≤ 4 ∧ I 2 0 5 = nn k ∧ I 14 0 27 = nn k ∧ (w = 0 → k = 0) ∧ ∀ i, i < k → I 20 0 i = I 20 1 i ∧ ∃ p, p < (w + 1) * (h + 1) ∧ I 20 1 i = nn p
/-- prices are the values -/
def RelP (I : PI) (mb : OR) (w h o : Nat) : Prop := ∀ b, mb = ro 12 b → ∀ k, k < o → ∀ c, c < w * h → I 34 0 (64 * k + c) = VAL I b w h k c
/-- how many are made -/
def RelN (L : Nat) (T : TL) : Prop := ((T.1 = 0 ∧ T.2.1 = 1) ∨ (T.1 = 1 ∧ T.2.1 = 0)) ∧ T.2.2.2.2.1 98 = L ∧ T.2.2.2.2.1 42 = T.2.2.2.2.1 12 + 2 ∧ T.2.2.2.2.1 33 = T.2.2.2.2.1 12 ∧ T.2.2.2.2.1 21 = T.2.2.2.2.1 12 + 12 ∧ ∀ b, T.2.2.1 = ro 12 b → b < T.2.2.2.2.1 12
def Rel (L : Nat) (I : PI) (J : PJ) (T : TL) : Prop := RelN L T ∧ RelT I ∧ RelA I ∧ ∃ w h o : Nat, (0 < w → 0 < o) ∧ RelB I T.1 T.2.2.1 o ∧ RelW I w h ∧ RelM J w h ∧ RelC I J (w * h) o ∧ RelD I J (w * h) o ∧ RelO I (w * h) o ∧ RelK I w h ∧ RelP I T.2.2.1 w h o
def Inv (L : Nat) (m : Mem) : Prop := ∃ (I : PI) (J : PJ) (T : TL), m = MX I J T ∧ Rel L I J T
theorem inv98 {L : Nat} (m : Mem) (h : Inv L m) : mK m 98 = L := by
  obtain ⟨I, J, T, rfl, h⟩ := h
  exact h.1.2.1
