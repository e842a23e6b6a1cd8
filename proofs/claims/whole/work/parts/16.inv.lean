/-! The step's data read back -/
abbrev Nx (pc1 : Nat) (l1 : Loc9) (s1 : List AV) (m1 : Mem) : St9 := .inr (.inl (pc1, l1, s1, m1))
def sw9 (x : Int32) (d : Nat) : List (Int32 × Nat) → Nat
  | [] => d
  | q :: r => if x = q.1 then q.2 else sw9 x d r
section INV
variable {pc pc1 : Nat} {l l1 : Loc9} {st s1 : List AV} {m m1 : Mem}
theorem iv_n {pc2 : Nat} {l2 : Loc9} {s2 : List AV} {m2 : Mem} (h : sN pc2 l2 s2 m2 = Nx pc1 l1 s1 m1) : pc1 = pc2 ∧ l1 = l2 ∧ s1 = s2 ∧ m1 = m2 := by
  simp only [sN, Nx, Sum.inr.injEq, Sum.inl.injEq, Prod.mk.injEq] at h
  exact ⟨h.1.symm, h.2.1.symm, h.2.2.1.symm, h.2.2.2.symm⟩
theorem iv_F (h : sF = Nx pc1 l1 s1 m1) : False := by cases h
theorem iv_ib {f : Int32 → Int32 → Int32} (h : ib9 sF sN f pc l st m = Nx pc1 l1 s1 m1) : ∃ x y r, st = .inl y :: .inl x :: r ∧ pc1 = pc ∧ l1 = l ∧ s1 = vi (f x y) :: r ∧ m1 = m := by
  unfold ib9 at h
  split at h
  · obtain ⟨a, b, c, d⟩ := iv_n h; exact ⟨_, _, _, rfl, a, b, c, d⟩
  · exact (iv_F h).elim
theorem iv_lb {f : Int64 → Int64 → Int64} (h : lb9 sF sN f pc l st m = Nx pc1 l1 s1 m1) : ∃ x y r, st = .inr (.inl y) :: .inr (.inl x) :: r ∧ pc1 = pc ∧ l1 = l ∧ s1 = vl (f x y) :: r ∧ m1 = m := by
  unfold lb9 at h
  split at h
  · obtain ⟨a, b, c, d⟩ := iv_n h; exact ⟨_, _, _, rfl, a, b, c, d⟩
  · exact (iv_F h).elim
theorem iv_ls {f : Int64 → Int32 → Int64} (h : ls9 sF sN f pc l st m = Nx pc1 l1 s1 m1) : ∃ x y r, st = .inl y :: .inr (.inl x) :: r ∧ pc1 = pc ∧ l1 = l ∧ s1 = vl (f x y) :: r ∧ m1 = m := by
  unfold ls9 at h
  split at h
  · obtain ⟨a, b, c, d⟩ := iv_n h; exact ⟨_, _, _, rfl, a, b, c, d⟩
  · exact (iv_F h).elim
theorem iv_iu {f : Int32 → AV} (h : iu9 sF sN f pc l st m = Nx pc1 l1 s1 m1) : ∃ x r, st = .inl x :: r ∧ pc1 = pc ∧ l1 = l ∧ s1 = f x :: r ∧ m1 = m := by
  unfold iu9 at h
  split at h
  · obtain ⟨a, b, c, d⟩ := iv_n h; exact ⟨_, _, rfl, a, b, c, d⟩
  · exact (iv_F h).elim
theorem iv_lu {f : Int64 → AV} (h : lu9 sF sN f pc l st m = Nx pc1 l1 s1 m1) : ∃ x r, st = .inr (.inl x) :: r ∧ pc1 = pc ∧ l1 = l ∧ s1 = f x :: r ∧ m1 = m := by
  unfold lu9 at h
  split at h
  · obtain ⟨a, b, c, d⟩ := iv_n h; exact ⟨_, _, rfl, a, b, c, d⟩
  · exact (iv_F h).elim
theorem iv_il {k : Nat} (h : il9 sF sN k pc l st m = Nx pc1 l1 s1 m1) : ∃ x, ldL l k = some (.inl x) ∧ pc1 = pc ∧ l1 = l ∧ s1 = vi x :: st ∧ m1 = m := by
  unfold il9 at h
  split at h
  · rename_i x hx
    obtain ⟨a, b, c, d⟩ := iv_n h; exact ⟨_, hx, a, b, c, d⟩
  · exact (iv_F h).elim
theorem iv_ll {k : Nat} (h : ll9 sF sN k pc l st m = Nx pc1 l1 s1 m1) : ∃ x, ldL l k = some (.inr (.inl x)) ∧ pc1 = pc ∧ l1 = l ∧ s1 = vl x :: st ∧ m1 = m := by
  unfold ll9 at h
  split at h
  · rename_i x hx
    obtain ⟨a, b, c, d⟩ := iv_n h; exact ⟨_, hx, a, b, c, d⟩
  · exact (iv_F h).elim
theorem iv_al {k : Nat} (h : al9 sF sN k pc l st m = Nx pc1 l1 s1 m1) : ∃ x, ldL l k = some (.inr (.inr x)) ∧ pc1 = pc ∧ l1 = l ∧ s1 = .inr (.inr x) :: st ∧ m1 = m := by
  unfold al9 at h
  split at h
  · rename_i x hx
    obtain ⟨a, b, c, d⟩ := iv_n h; exact ⟨_, hx, a, b, c, d⟩
  · exact (iv_F h).elim
theorem iv_is {k : Nat} (h : is9 sF sN k pc l st m = Nx pc1 l1 s1 m1) : ∃ x r, st = .inl x :: r ∧ k < l.length ∧ pc1 = pc ∧ l1 = stL l k (vi x) ∧ s1 = r ∧ m1 = m := by
  unfold is9 at h
  split at h
  · split at h
    · rename_i hk
      obtain ⟨a, b, c, d⟩ := iv_n h; exact ⟨_, _, rfl, hk, a, b, c, d⟩
    · exact (iv_F h).elim
  · exact (iv_F h).elim
theorem iv_ls2 {k : Nat} (h : ls29 sF sN k pc l st m = Nx pc1 l1 s1 m1) : ∃ x r, st = .inr (.inl x) :: r ∧ k + 1 < l.length ∧ pc1 = pc ∧ l1 = stL2 l k (vl x) ∧ s1 = r ∧ m1 = m := by
  unfold ls29 at h
  split at h
  · split at h
    · rename_i hk
      obtain ⟨a, b, c, d⟩ := iv_n h; exact ⟨_, _, rfl, hk, a, b, c, d⟩
    · exact (iv_F h).elim
  · exact (iv_F h).elim
theorem iv_as {k : Nat} (h : as9 sF sN k pc l st m = Nx pc1 l1 s1 m1) : ∃ x r, st = .inr (.inr x) :: r ∧ k < l.length ∧ pc1 = pc ∧ l1 = stL l k (.inr (.inr x)) ∧ s1 = r ∧ m1 = m := by
  unfold as9 at h
  split at h
  · split at h
    · rename_i hk
      obtain ⟨a, b, c, d⟩ := iv_n h; exact ⟨_, _, rfl, hk, a, b, c, d⟩
    · exact (iv_F h).elim
  · exact (iv_F h).elim
theorem iv_ic {C : Int32 → Int32 → Bool} {a : Nat} (h : ic9 sF sN C a pc l st m = Nx pc1 l1 s1 m1) : ∃ x y r, st = .inl y :: .inl x :: r ∧ pc1 = (if C x y = true then a else pc) ∧ l1 = l ∧ s1 = r ∧ m1 = m := by
  unfold ic9 at h
  split at h
  · split at h
    · rename_i hc
      obtain ⟨e1, b, c, d⟩ := iv_n h; exact ⟨_, _, _, rfl, by rw [if_pos hc]; exact e1, b, c, d⟩
    · rename_i hc
      obtain ⟨e1, b, c, d⟩ := iv_n h; exact ⟨_, _, _, rfl, by rw [if_neg hc]; exact e1, b, c, d⟩
  · exact (iv_F h).elim
theorem iv_if {C : Int32 → Bool} {a : Nat} (h : if9 sF sN C a pc l st m = Nx pc1 l1 s1 m1) : ∃ x r, st = .inl x :: r ∧ pc1 = (if C x = true then a else pc) ∧ l1 = l ∧ s1 = r ∧ m1 = m := by
  unfold if9 at h
  split at h
  · split at h
    · rename_i hc
      obtain ⟨e1, b, c, d⟩ := iv_n h; exact ⟨_, _, rfl, by rw [if_pos hc]; exact e1, b, c, d⟩
    · rename_i hc
      obtain ⟨e1, b, c, d⟩ := iv_n h; exact ⟨_, _, rfl, by rw [if_neg hc]; exact e1, b, c, d⟩
  · exact (iv_F h).elim
theorem iv_ald {ty : Nat → Bool} (h : ald9 sF sN ty pc l st m = Nx pc1 l1 s1 m1) : ∃ i k j r, st = .inl i :: vr k j :: r ∧ ty (aTy k) = true ∧ okK k = true ∧ inR i (aLn m k j) = true ∧ pc1 = pc ∧ l1 = l ∧ s1 = vi (aGt m k j i.toNatClampNeg) :: r ∧ m1 = m := by
  unfold ald9 at h
  split at h
  · rename_i i q r
    split at h
    · rename_i h1
      split at h
      · rename_i h2
        obtain ⟨e1, b, c, d⟩ := iv_n h; exact ⟨i, q.1, q.2, r, rfl, h1.1, h1.2, h2, e1, b, c, d⟩
      · exact (iv_F h).elim
    · exact (iv_F h).elim
  · exact (iv_F h).elim
theorem iv_lald (h : lald9 sF sN pc l st m = Nx pc1 l1 s1 m1) : ∃ i k j r, st = .inl i :: vr k j :: r ∧ k < 80 ∧ aTy k = 3 ∧ inR i (kLn k) = true ∧ pc1 = pc ∧ l1 = l ∧ s1 = vl (mJ m k j i.toNatClampNeg) :: r ∧ m1 = m := by
  unfold lald9 at h
  split at h
  · rename_i i q r
    split at h
    · rename_i h1
      split at h
      · rename_i h2
        obtain ⟨e1, b, c, d⟩ := iv_n h; exact ⟨i, q.1, q.2, r, rfl, h1.1, h1.2, h2, e1, b, c, d⟩
      · exact (iv_F h).elim
    · exact (iv_F h).elim
  · exact (iv_F h).elim
theorem iv_iast (h : iast9 sF sN pc l st m = Nx pc1 l1 s1 m1) : ∃ x i k j r, st = .inl x :: .inl i :: vr k j :: r ∧ k < 80 ∧ aTy k = 0 ∧ inR i (kLn k) = true ∧ pc1 = pc ∧ l1 = l ∧ s1 = r ∧ m1 = setI m k j i.toNatClampNeg x := by
  unfold iast9 at h
  split at h
  · rename_i x i q r
    split at h
    · rename_i h1
      split at h
      · rename_i h2
        obtain ⟨e1, b, c, d⟩ := iv_n h; exact ⟨x, i, q.1, q.2, r, rfl, h1.1, h1.2, h2, e1, b, c, d⟩
      · exact (iv_F h).elim
    · exact (iv_F h).elim
  · exact (iv_F h).elim
theorem iv_bast (h : bast9 sF sN pc l st m = Nx pc1 l1 s1 m1) : ∃ x i k j r, st = .inl x :: .inl i :: vr k j :: r ∧ k < 80 ∧ inR i (kLn k) = true ∧ pc1 = pc ∧ l1 = l ∧ s1 = r ∧ ((aTy k = 1 ∧ m1 = setI m k j i.toNatClampNeg x.toInt8.toInt32) ∨ (aTy k = 2 ∧ m1 = setI m k j i.toNatClampNeg (x &&& 1))) := by
  unfold bast9 at h
  split at h
  · rename_i x i q r
    split at h
    · rename_i h1
      split at h
      · rename_i h2
        split at h
        · rename_i h3
          obtain ⟨e1, b, c, d⟩ := iv_n h; exact ⟨x, i, q.1, q.2, r, rfl, h1, h2, e1, b, c, Or.inl ⟨h3, d⟩⟩
        · rename_i h3
          obtain ⟨e1, b, c, d⟩ := iv_n h; exact ⟨x, i, q.1, q.2, r, rfl, h1, h2, e1, b, c, Or.inr ⟨h3, d⟩⟩
        · exact (iv_F h).elim
      · exact (iv_F h).elim
    · exact (iv_F h).elim
  · exact (iv_F h).elim
theorem iv_last (h : last9 sF sN pc l st m = Nx pc1 l1 s1 m1) : ∃ x i k j r, st = .inr (.inl x) :: .inl i :: vr k j :: r ∧ k < 80 ∧ aTy k = 3 ∧ inR i (kLn k) = true ∧ pc1 = pc ∧ l1 = l ∧ s1 = r ∧ m1 = setJ m k j i.toNatClampNeg x := by
  unfold last9 at h
  split at h
  · rename_i x i q r
    split at h
    · rename_i h1
      split at h
      · rename_i h2
        obtain ⟨e1, b, c, d⟩ := iv_n h; exact ⟨x, i, q.1, q.2, r, rfl, h1.1, h1.2, h2, e1, b, c, d⟩
      · exact (iv_F h).elim
    · exact (iv_F h).elim
  · exact (iv_F h).elim
theorem iv_gtf {a b c : Nat} (h : gtf9 sF sN a b c pc l st m = Nx pc1 l1 s1 m1) : ∃ j r, st = vr a j :: r ∧ pc1 = pc ∧ l1 = l ∧ s1 = gf9 m a b c j :: r ∧ m1 = m := by
  unfold gtf9 at h
  split at h
  · rename_i q r
    split at h
    · rename_i h1
      subst h1
      obtain ⟨e1, b, c, d⟩ := iv_n h; exact ⟨q.2, r, rfl, e1, b, c, d⟩
    · exact (iv_F h).elim
  · exact (iv_F h).elim
theorem iv_ptf {a b c : Nat} (h : ptf9 sF sN a b c pc l st m = Nx pc1 l1 s1 m1) : ∃ v j r m2, st = v :: vr a j :: r ∧ pf9 m a b c j v = some m2 ∧ pc1 = pc ∧ l1 = l ∧ s1 = r ∧ m1 = m2 := by
  unfold ptf9 at h
  split at h
  · rename_i v q r
    split at h
    · rename_i h1
      subst h1
      split at h
      · rename_i m2 h2
        obtain ⟨e1, b, c, d⟩ := iv_n h; exact ⟨v, q.2, r, m2, rfl, h2, e1, b, c, d⟩
      · exact (iv_F h).elim
    · exact (iv_F h).elim
  · exact (iv_F h).elim
theorem iv_cp (h : cp9 sF sN pc l st m = Nx pc1 l1 s1 m1) : ∃ n dp kq jq sp kp jp r, st = .inl n :: .inl dp :: vr kq jq :: .inl sp :: vr kp jp :: r ∧ (kq < 80 ∧ kp < 80 ∧ aTy kq = 0 ∧ aTy kp = 0 ∧ 0 ≤ n ∧ 0 ≤ sp ∧ 0 ≤ dp ∧ sp.toNatClampNeg + n.toNatClampNeg ≤ kLn kp ∧ dp.toNatClampNeg + n.toNatClampNeg ≤ kLn kq ∧ cats r ≤ 8) ∧ pc1 = pc ∧ l1 = l ∧ s1 = r ∧ m1 = (upA m.1 kq jq (va_cpy (m.1 kp jp) (m.1 kq jq) sp.toNatClampNeg dp.toNatClampNeg n.toNatClampNeg), m.2) := by
  unfold cp9 at h
  split at h
  · rename_i n dp q sp p r
    split at h
    · rename_i h1
      obtain ⟨e1, b, c, d⟩ := iv_n h; exact ⟨n, dp, q.1, q.2, sp, p.1, p.2, r, rfl, h1, e1, b, c, d⟩
    · exact (iv_F h).elim
  · exact (iv_F h).elim
theorem iv_nwa {a n c : Nat} (h : nwa9 sF sN a n c pc l st m = Nx pc1 l1 s1 m1) : ∃ x r, st = .inl x :: r ∧ (x = Int32.ofNat n ∧ aTy a = c ∧ kLn a = n ∧ a < 80) ∧ pc1 = pc ∧ l1 = l ∧ s1 = vr a (mK m a) :: r ∧ m1 = newM m a n := by
  unfold nwa9 at h
  split at h
  · split at h
    · rename_i h1
      obtain ⟨e1, b, c, d⟩ := iv_n h; exact ⟨_, _, rfl, h1, e1, b, c, d⟩
    · exact (iv_F h).elim
  · exact (iv_F h).elim
theorem iv_mt {c : Nat} (h : mt9 sF sN c pc l st m = Nx pc1 l1 s1 m1) : (c = 61 ∧ ∃ x y r, st = .inl y :: .inl x :: r ∧ cats r ≤ 8 ∧ pc1 = pc ∧ l1 = l ∧ s1 = vi (if y < x then y else x) :: r ∧ m1 = m) ∨ (c = 62 ∧ ∃ x y r, st = .inl y :: .inl x :: r ∧ cats r ≤ 8 ∧ pc1 = pc ∧ l1 = l ∧ s1 = vi (if x < y then y else x) :: r ∧ m1 = m) ∨ (c ≠ 61 ∧ c ≠ 62 ∧ ∃ x r, st = .inl x :: r ∧ cats r ≤ 8 ∧ pc1 = pc ∧ l1 = l ∧ s1 = vi (if 0 ≤ x then x else 0 - x) :: r ∧ m1 = m) := by
  unfold mt9 at h
  split at h
  · split at h
    · rename_i y x r
      by_cases hr : cats r ≤ 8
      · rw [if_pos hr] at h
        obtain ⟨e1, b, c, d⟩ := iv_n h
        exact Or.inl ⟨rfl, x, y, r, rfl, hr, e1, b, c, d⟩
      · rw [if_neg hr] at h; exact (iv_F h).elim
    · exact (iv_F h).elim
  · split at h
    · rename_i y x r
      by_cases hr : cats r ≤ 8
      · rw [if_pos hr] at h
        obtain ⟨e1, b, c, d⟩ := iv_n h
        exact Or.inr (Or.inl ⟨rfl, x, y, r, rfl, hr, e1, b, c, d⟩)
      · rw [if_neg hr] at h; exact (iv_F h).elim
    · exact (iv_F h).elim
  · rename_i n1 n2
    split at h
    · rename_i x r
      by_cases hr : cats r ≤ 8
      · rw [if_pos hr] at h
        obtain ⟨e1, b, c, d⟩ := iv_n h
        exact Or.inr (Or.inr ⟨n1, n2, x, r, rfl, hr, e1, b, c, d⟩)
      · rw [if_neg hr] at h; exact (iv_F h).elim
    · exact (iv_F h).elim
theorem iv_inv {d a b c : Nat} (h : inv9 sF sK sN d a b c pc l st m = Nx pc1 l1 s1 m1) : (c = 50 ∧ ∃ q r, st = .inr (.inr (some (some q))) :: r ∧ cats r ≤ 8 ∧ pc1 = pc ∧ l1 = l ∧ s1 = r ∧ m1 = m) ∨ (c = 60 ∧ cp9 sF sN pc l st m = Nx pc1 l1 s1 m1) ∨ (61 ≤ c ∧ c ≤ 63 ∧ mt9 sF sN c pc l st m = Nx pc1 l1 s1 m1) := by
  unfold inv9 at h
  by_cases h99 : c = 99
  · rw [if_pos h99] at h; exact (iv_F h).elim
  rw [if_neg h99] at h
  by_cases h50 : c = 50
  · rw [if_pos h50] at h
    split at h
    · rename_i q r
      by_cases hr : cats r ≤ 8
      · rw [if_pos hr] at h
        obtain ⟨e1, b, c, d⟩ := iv_n h; exact Or.inl ⟨h50, q, r, rfl, hr, e1, b, c, d⟩
      · rw [if_neg hr] at h; exact (iv_F h).elim
    · exact (iv_F h).elim
  rw [if_neg h50] at h
  by_cases h60 : c = 60
  · rw [if_pos h60] at h
    exact Or.inr (Or.inl ⟨h60, h⟩)
  rw [if_neg h60] at h
  by_cases h61 : 61 ≤ c ∧ c ≤ 63
  · rw [if_pos h61] at h
    exact Or.inr (Or.inr ⟨h61.1, h61.2, h⟩)
  rw [if_neg h61] at h
  exfalso
  split at h
  · exact iv_F h
  · split at h
    · split at h
      · split at h
        · exact iv_F h
        · cases h
      · exact iv_F h
    · exact iv_F h
theorem iv_call {d a b c d1 a1 pc2 : Nat} {av rest : List AV} {l2 : Loc9} {m2 : Mem} (h : inv9 sF sK sN d a b c pc l st m = .inr (.inr (d1, a1, av, rest, pc2, l2, m2))) : c ≠ 99 ∧ c ≠ 50 ∧ c ≠ 60 ∧ ¬ (61 ≤ c ∧ c ≤ 63) ∧ popN b [] st = some (av, rest) ∧ cats rest ≤ 8 ∧ cats av ≤ mxT a ∧ rcv9 c av = true ∧ d = d1 + 1 ∧ a1 = a ∧ pc2 = pc ∧ l2 = l ∧ m2 = m := by
  unfold inv9 at h
  by_cases h99 : c = 99
  · rw [if_pos h99] at h; cases h
  rw [if_neg h99] at h
  by_cases h50 : c = 50
  · rw [if_pos h50] at h
    split at h
    · split at h <;> cases h
    · cases h
  rw [if_neg h50] at h
  by_cases h60 : c = 60
  · rw [if_pos h60] at h
    unfold cp9 at h
    split at h
    · split at h <;> cases h
    · cases h
  rw [if_neg h60] at h
  by_cases h61 : 61 ≤ c ∧ c ≤ 63
  · rw [if_pos h61] at h
    unfold mt9 at h
    split at h <;> split at h <;> first | cases h | (split at h <;> cases h)
  rw [if_neg h61] at h
  split at h
  · cases h
  · rename_i args9 rest9 hp
    split at h
    · rename_i hc
      split at h
      · rename_i hr
        split at h
        · cases h
        · cases h
          exact ⟨h99, h50, h60, h61, hp, hc.1, hc.2, hr, rfl, rfl, rfl, rfl, rfl⟩
      · cases h
    · cases h
theorem iv_swK {x : Int32} {d : Nat} {r : List AV} : ∀ {L : List (Int32 × Nat)}, swK x d (fun t => sN t l r m) L = Nx pc1 l1 s1 m1 → pc1 = sw9 x d L ∧ l1 = l ∧ s1 = r ∧ m1 = m := by
  intro L
  induction L with
  | nil => intro h; exact iv_n h
  | cons q t ih =>
    intro h
    simp only [swK] at h
    simp only [sw9]
    split at h
    · rename_i hx
      rw [if_pos hx]; exact iv_n h
    · rename_i hx
      rw [if_neg hx]; exact ih h
end INV
theorem sw9_at {pc : Nat} {x : Int32} {d : Nat} : ∀ {offs : List Int} {L : List (Int32 × Nat)} {lo : Int}, swOK pc lo offs L = true →
    ((x.toInt < lo ∨ lo + (offs.length : Int) - 1 < x.toInt) → sw9 x d L = d) ∧ (¬ x.toInt < lo → ¬ lo + (offs.length : Int) - 1 < x.toInt → ∃ o, offs[(x.toInt - lo).toNat]? = some o ∧ (pc : Int) + o = (sw9 x d L : Int))
  | [], [], lo, _ => ⟨fun _ => rfl, fun h1 h2 => by simp at h2; omega⟩
  | [], _ :: _, _, h => by simp [swOK] at h
  | _ :: _, [], _, h => by simp [swOK] at h
  | o :: r, q :: t, lo, h => by
    simp only [swOK, Bool.and_eq_true, decide_eq_true_eq] at h
    obtain ⟨⟨h1, h2⟩, h3⟩ := h
    obtain ⟨i1, i2⟩ := sw9_at (x := x) (d := d) h3
    simp only [sw9, List.length_cons]
    by_cases e : x = q.1
    · subst e
      rw [if_pos rfl]
      refine ⟨fun h => by omega, fun _ _ => ⟨o, by rw [h1]; simp, h2⟩⟩
    · rw [if_neg e]
      have hne : x.toInt ≠ lo := fun z => e (Int32.toInt_inj.mp (by rw [z, h1]))
      refine ⟨fun h => i1 (by omega), fun g1 g2 => ?_⟩
      obtain ⟨o2, e1, e2⟩ := i2 (by omega) (by omega)
      refine ⟨o2, ?_, e2⟩
      rw [show (x.toInt - lo).toNat = (x.toInt - (lo + 1)).toNat + 1 by omega]
      simpa using e1
