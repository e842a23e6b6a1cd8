/-! The evaluator's runs are the machine's -/
def PN (m : Mem) (x : St9) : Prop := x = sF ∨ ∃ pc1 l1 s1 m1, x = Nx pc1 l1 s1 m1 ∧ mC m ≤ mC m1 ∧ mS m ≤ mS m1
theorem PN.n {m m1 : Mem} {pc : Nat} {l : Loc9} {st : List AV} (h1 : mC m ≤ mC m1) (h2 : mS m ≤ mS m1) : PN m (sN pc l st m1) := Or.inr ⟨pc, l, st, m1, rfl, h1, h2⟩
theorem PN.k {m : Mem} {pc : Nat} {l : Loc9} {st : List AV} : PN m (sN pc l st m) := PN.n (Nat.le_refl _) (Nat.le_refl _)
theorem PN.f {m : Mem} : PN m sF := Or.inl rfl
theorem PN.i {m : Mem} {c : Prop} [Decidable c] {x y : St9} (h1 : PN m x) (h2 : PN m y) : PN m (if c then x else y) := by
  by_cases h : c
  · rw [if_pos h]; exact h1
  · rw [if_neg h]; exact h2
section PNS
variable {m : Mem} {pc : Nat} {l : Loc9} {st : List AV}
theorem pn_ib {f : Int32 → Int32 → Int32} : PN m (ib9 sF sN f pc l st m) := by unfold ib9; split <;> first | exact PN.k | exact PN.f
theorem pn_lb {f : Int64 → Int64 → Int64} : PN m (lb9 sF sN f pc l st m) := by unfold lb9; split <;> first | exact PN.k | exact PN.f
theorem pn_ls {f : Int64 → Int32 → Int64} : PN m (ls9 sF sN f pc l st m) := by unfold ls9; split <;> first | exact PN.k | exact PN.f
theorem pn_iu {f : Int32 → AV} : PN m (iu9 sF sN f pc l st m) := by unfold iu9; split <;> first | exact PN.k | exact PN.f
theorem pn_lu {f : Int64 → AV} : PN m (lu9 sF sN f pc l st m) := by unfold lu9; split <;> first | exact PN.k | exact PN.f
theorem pn_il {k : Nat} : PN m (il9 sF sN k pc l st m) := by unfold il9; split <;> first | exact PN.k | exact PN.f
theorem pn_ll {k : Nat} : PN m (ll9 sF sN k pc l st m) := by unfold ll9; split <;> first | exact PN.k | exact PN.f
theorem pn_al {k : Nat} : PN m (al9 sF sN k pc l st m) := by unfold al9; split <;> first | exact PN.k | exact PN.f
theorem pn_is {k : Nat} : PN m (is9 sF sN k pc l st m) := by unfold is9; split <;> first | exact PN.i PN.k PN.f | exact PN.f
theorem pn_ls2 {k : Nat} : PN m (ls29 sF sN k pc l st m) := by unfold ls29; split <;> first | exact PN.i PN.k PN.f | exact PN.f
theorem pn_as {k : Nat} : PN m (as9 sF sN k pc l st m) := by unfold as9; split <;> first | exact PN.i PN.k PN.f | exact PN.f
theorem pn_ic {C : Int32 → Int32 → Bool} {a : Nat} : PN m (ic9 sF sN C a pc l st m) := by unfold ic9; split <;> first | exact PN.i PN.k PN.k | exact PN.f
theorem pn_if {C : Int32 → Bool} {a : Nat} : PN m (if9 sF sN C a pc l st m) := by unfold if9; split <;> first | exact PN.i PN.k PN.k | exact PN.f
theorem pn_ald {t : Nat → Bool} : PN m (ald9 sF sN t pc l st m) := by unfold ald9; split <;> first | exact PN.i (PN.i PN.k PN.f) PN.f | exact PN.f
theorem pn_lald : PN m (lald9 sF sN pc l st m) := by unfold lald9; split <;> first | exact PN.i (PN.i PN.k PN.f) PN.f | exact PN.f
theorem pn_iast : PN m (iast9 sF sN pc l st m) := by unfold iast9; split <;> first | exact PN.i (PN.i (PN.n (Nat.le_refl _) (Nat.le_refl _)) PN.f) PN.f | exact PN.f
theorem pn_bast : PN m (bast9 sF sN pc l st m) := by
  unfold bast9; split
  · refine PN.i (PN.i ?_ PN.f) PN.f
    split
    · exact PN.n (Nat.le_refl _) (Nat.le_refl _)
    · exact PN.n (Nat.le_refl _) (Nat.le_refl _)
    · exact PN.f
  · exact PN.f
theorem pn_last : PN m (last9 sF sN pc l st m) := by unfold last9; split <;> first | exact PN.i (PN.i (PN.n (Nat.le_refl _) (Nat.le_refl _)) PN.f) PN.f | exact PN.f
theorem pn_gtf {a b c : Nat} : PN m (gtf9 sF sN a b c pc l st m) := by unfold gtf9; split <;> first | exact PN.i PN.k PN.f | exact PN.f
theorem pn_ptf {a b c : Nat} : PN m (ptf9 sF sN a b c pc l st m) := by
  unfold ptf9; split
  · refine PN.i ?_ PN.f
    split
    · rename_i v q r m2 h
      unfold pf9 at h
      by_cases h80 : a = 80
      · rw [if_pos h80] at h; cases h
      · rw [if_neg h80] at h
        have : mC m2 = mC m ∧ mS m2 = mS m := by
          split at h
          · split at h
            · cases h; exact ⟨rfl, rfl⟩
            · cases h
          · split at h
            · cases h; exact ⟨rfl, rfl⟩
            · cases h
          · split at h
            · cases h; exact ⟨rfl, rfl⟩
            · cases h
          · split at h
            · split at h
              · cases h; exact ⟨rfl, rfl⟩
              · cases h
            · cases h
        exact PN.n (Nat.le_of_eq this.1.symm) (Nat.le_of_eq this.2.symm)
    · exact PN.f
  · exact PN.f
theorem pn_cp : PN m (cp9 sF sN pc l st m) := by unfold cp9; split <;> first | exact PN.i (PN.n (Nat.le_refl _) (Nat.le_refl _)) PN.f | exact PN.f
theorem pn_new {k n : Nat} : PN m (sN pc l st (newM m k n)) := PN.n (Nat.le_succ _) (Nat.le_add_right _ _)
theorem pn_nwa {a n c : Nat} : PN m (nwa9 sF sN a n c pc l st m) := by unfold nwa9; split <;> first | exact PN.i pn_new PN.f | exact PN.f
theorem pn_mt {c : Nat} : PN m (mt9 sF sN c pc l st m) := by
  unfold mt9; split <;> split <;> first | exact PN.i PN.k PN.f | exact PN.f
theorem pn_swK {x : Int32} {d : Nat} {r : List AV} : ∀ {L : List (Int32 × Nat)}, PN m (swK x d (fun t => sN t l r m) L)
  | [] => PN.k
  | q :: t => by simp only [swK]; exact PN.i PN.k pn_swK
theorem pn_inv {d a b c : Nat} : PN m (inv9 sF sK sN d a b c pc l st m) ∨ ∃ q, inv9 sF sK sN d a b c pc l st m = .inr (.inr q) := by
  unfold inv9
  by_cases h99 : c = 99
  · rw [if_pos h99]; exact Or.inl PN.f
  rw [if_neg h99]
  by_cases h50 : c = 50
  · rw [if_pos h50]
    refine Or.inl ?_
    split
    · exact PN.i PN.k PN.f
    · exact PN.f
  rw [if_neg h50]
  by_cases h60 : c = 60
  · rw [if_pos h60]; exact Or.inl pn_cp
  rw [if_neg h60]
  by_cases h61 : 61 ≤ c ∧ c ≤ 63
  · rw [if_pos h61]; exact Or.inl pn_mt
  rw [if_neg h61]
  split
  · exact Or.inl PN.f
  · split
    · split
      · split
        · exact Or.inl PN.f
        · exact Or.inr ⟨_, rfl⟩
      · exact Or.inl PN.f
    · exact Or.inl PN.f
end PNS
/-- an instruction at which the method ends -/
def isEnd (i : Instr) (c : Nat) : Bool := match i with
  | .ireturn | .lreturn | .areturn | .return_ | .athrow => true
  | .new _ => c == 77
  | _ => false
def isInv (i : Instr) : Bool := match i with
  | .invokevirtual _ | .invokestatic _ | .invokespecial _ => true
  | _ => false
set_option maxHeartbeats 4000000 in
theorem stI_kind (i : Instr) (n a b c : Nat) (L : List (Int32 × Nat)) (d M pc : Nat) (l : Loc9) (st : List AV) (m : Mem) : PN m (stI sF sD sK sN i n a b c L d M pc l st m) ∨ (isInv i = true ∧ stI sF sD sK sN i n a b c L d M pc l st m = inv9 sF sK sN d a b c (pc + n) l st m) ∨ isEnd i c = true := by
  cases i with
  | ireturn => exact Or.inr (Or.inr rfl)
  | lreturn => exact Or.inr (Or.inr rfl)
  | areturn => exact Or.inr (Or.inr rfl)
  | return_ => exact Or.inr (Or.inr rfl)
  | athrow => exact Or.inr (Or.inr rfl)
  | invokevirtual k => exact Or.inr (Or.inl ⟨rfl, rfl⟩)
  | invokestatic k => exact Or.inr (Or.inl ⟨rfl, rfl⟩)
  | invokespecial k => exact Or.inr (Or.inl ⟨rfl, rfl⟩)
  | new k =>
    by_cases h : c = 77
    · exact Or.inr (Or.inr (by simp [isEnd, h]))
    · refine Or.inl ?_
      simp only [stI]
      rw [if_neg h]
      exact pn_new
  | if_icmp cd o => cases cd <;> exact Or.inl pn_ic
  | ifCond cd o => cases cd <;> exact Or.inl pn_if
  | getstatic k =>
    refine Or.inl ?_
    simp only [stI]
    split <;> first | exact PN.k | exact PN.f
  | tableswitch x y z w =>
    refine Or.inl ?_
    simp only [stI]
    split
    · exact pn_swK
    · exact PN.f
  | ldc k => refine Or.inl ?_; simp only [stI]; exact PN.i PN.k PN.k
  | iinc k z => refine Or.inl ?_; simp only [stI]; split <;> first | exact PN.k | exact PN.f
  | idiv => refine Or.inl ?_; simp only [stI]; split <;> first | exact PN.i PN.f PN.k | exact PN.f
  | irem => refine Or.inl ?_; simp only [stI]; split <;> first | exact PN.i PN.f PN.k | exact PN.f
  | lcmp => refine Or.inl ?_; simp only [stI]; split <;> first | exact PN.k | exact PN.f
  | dup => refine Or.inl ?_; simp only [stI]; split <;> first | exact PN.i PN.k PN.f | exact PN.f
  | pop => refine Or.inl ?_; simp only [stI]; split <;> first | exact PN.i PN.k PN.f | exact PN.f
  | dup2 => refine Or.inl ?_; simp only [stI]; split <;> first | exact PN.k | exact PN.i PN.k PN.f | exact PN.f
  | ifnonnull o => refine Or.inl ?_; simp only [stI]; split <;> first | exact PN.k | exact PN.f
  | ifnull o => refine Or.inl ?_; simp only [stI]; split <;> first | exact PN.k | exact PN.f
  | iaload => exact Or.inl (pn_ald (t := fun t => t == 0))
  | baload => exact Or.inl (pn_ald (t := fun t => t == 1 || t == 2))
  | arraylength => refine Or.inl ?_; simp only [stI]; split <;> first | exact PN.i PN.k PN.f | exact PN.f
  | _ => first
    | exact Or.inl PN.k
    | exact Or.inl PN.f
    | exact Or.inl pn_ib
    | exact Or.inl pn_lb
    | exact Or.inl pn_ls
    | exact Or.inl pn_iu
    | exact Or.inl pn_lu
    | exact Or.inl pn_il
    | exact Or.inl pn_ll
    | exact Or.inl pn_al
    | exact Or.inl pn_is
    | exact Or.inl pn_ls2
    | exact Or.inl pn_as
    | exact Or.inl pn_gtf
    | exact Or.inl pn_ptf
    | exact Or.inl pn_ald
    | exact Or.inl pn_lald
    | exact Or.inl pn_iast
    | exact Or.inl pn_bast
    | exact Or.inl pn_last
    | exact Or.inl pn_nwa
/-- how a method ends -/
theorem stI_end {i : Instr} {n a b c : Nat} {L : List (Int32 × Nat)} {d M pc : Nat} {l : Loc9} {st : List AV} {m : Mem} (h : isEnd i c = true) : stI sF sD sK sN i n a b c L d M pc l st m = sF ∨ ∃ r, stI sF sD sK sN i n a b c L d M pc l st m = sD r ∧ mC m ≤ mC r.2 ∧ mS m ≤ mS r.2 := by
  cases i with
  | ireturn =>
    simp only [stI, irt9]
    split
    · split
      · exact Or.inr ⟨_, rfl, Nat.le_refl _, Nat.le_refl _⟩
      all_goals (split <;> first | exact Or.inr ⟨_, rfl, Nat.le_refl _, Nat.le_refl _⟩ | exact Or.inl rfl)
    · exact Or.inl rfl
  | lreturn => simp only [stI]; split <;> first | exact Or.inr ⟨_, rfl, Nat.le_refl _, Nat.le_refl _⟩ | exact Or.inl rfl
  | areturn => simp only [stI]; split <;> first | exact Or.inr ⟨_, rfl, Nat.le_refl _, Nat.le_refl _⟩ | exact Or.inl rfl
  | return_ => simp only [stI]; split <;> first | exact Or.inr ⟨_, rfl, Nat.le_refl _, Nat.le_refl _⟩ | exact Or.inl rfl
  | athrow =>
    simp only [stI]
    split
    · split
      · split <;> first | exact Or.inr ⟨_, rfl, Nat.le_refl _, Nat.le_refl _⟩ | exact Or.inl rfl
      · exact Or.inl rfl
    · exact Or.inl rfl
  | new k =>
    have hc : c = 77 := by simpa [isEnd] using h
    simp only [stI]
    rw [if_pos hc]
    split
    · exact Or.inr ⟨_, rfl, Nat.le_succ _, Nat.le_add_right _ _⟩
    · exact Or.inl rfl
  | _ => simp [isEnd] at h
theorem lookup_mem {α : Type} {l : List (Nat × α)} {k : Nat} {v : α} (h : l.lookup k = some v) : (k, v) ∈ l := by
  induction l with
  | nil => cases h
  | cons z t ih =>
    simp only [List.lookup] at h
    split at h
    · rename_i e
      cases h
      rw [show k = z.1 by simpa using e]
      exact List.mem_cons_self
    · exact List.mem_cons_of_mem _ (ih h)
theorem ev_lt {n d M pc : Nat} {l : Loc9} {st : List AV} {m : Mem} {r : Res9} (h : ev9 n d M pc l st m = some r) : M < 281 := by
  by_cases e : M < 281
  · exact e
  · exfalso
    cases n with
    | zero => cases h
    | succ n =>
      rw [ev9] at h
      unfold st1 stp at h
      rw [show cdT M = [] from cdT_big cdTab M (by rw [cdTab_len]; omega)] at h
      cases h
theorem ev_C : ∀ (n d M pc : Nat) (l : Loc9) (st : List AV) (m : Mem) (r : Res9), ev9 n d M pc l st m = some r → mC m ≤ mC r.2 ∧ mS m ≤ mS r.2 := by
  intro n
  induction n with
  | zero => intro d M pc l st m r h; cases h
  | succ n ih =>
    intro d M pc l st m r h
    rw [ev9] at h
    unfold st1 stp at h
    cases hlk : (cdT M).lookup pc with
    | none => rw [hlk] at h; cases h
    | some q =>
      obtain ⟨i, n9, a, b, c, L⟩ := q
      rw [hlk] at h
      replace h : fo9 none some (fun d1 a args rest pc1 l1 m1 => ret9 (ev9 n d M) M pc pc1 l1 rest (ev9 n d1 a 0 (entL args (mxT a)) [] m1)) (ev9 n d M) (stI sF sD sK sN i n9 a b c L d M pc l st m) = some r := h
      have hpn : ∀ x : St9, PN m x → fo9 none some (fun d1 a args rest pc1 l1 m1 => ret9 (ev9 n d M) M pc pc1 l1 rest (ev9 n d1 a 0 (entL args (mxT a)) [] m1)) (ev9 n d M) x = some r → mC m ≤ mC r.2 ∧ mS m ≤ mS r.2 := by
        intro x hx hf
        rcases hx with rfl | ⟨pc1, l1, s1, m1, rfl, h1, h2⟩
        · cases hf
        · have := ih _ _ _ _ _ _ _ hf
          exact ⟨Nat.le_trans h1 this.1, Nat.le_trans h2 this.2⟩
      rcases stI_kind i n9 a b c L d M pc l st m with hp | ⟨-, hp⟩ | hp
      · exact hpn _ hp h
      · rw [hp] at h
        rcases pn_inv (m := m) (pc := pc + n9) (l := l) (st := st) (d := d) (a := a) (b := b) (c := c) with hp2 | ⟨⟨d1, a1, av, rest, pc2, l2, m2⟩, hq⟩
        · exact hpn _ hp2 h
        · rw [hq] at h
          obtain ⟨-, -, -, -, -, -, -, -, -, -, -, -, rfl⟩ := iv_call hq
          simp only [fo9] at h
          cases hc : ev9 n d1 a1 0 (entL av (mxT a1)) [] m2 with
          | none => rw [hc] at h; cases h
          | some q2 =>
            rw [hc] at h
            have g1 := ih _ _ _ _ _ _ _ hc
            match q2, h, g1 with
            | (.inl none, m3), h, g1 =>
              have g2 := ih _ _ _ _ _ _ _ h
              exact ⟨Nat.le_trans g1.1 g2.1, Nat.le_trans g1.2 g2.2⟩
            | (.inl (some v), m3), h, g1 =>
              have g2 := ih _ _ _ _ _ _ _ h
              exact ⟨Nat.le_trans g1.1 g2.1, Nat.le_trans g1.2 g2.2⟩
            | (.inr q3, m3), h, g1 =>
              simp only [ret9] at h
              split at h
              · have g2 := ih _ _ _ _ _ _ _ h
                exact ⟨Nat.le_trans g1.1 g2.1, Nat.le_trans g1.2 g2.2⟩
              · split at h
                · cases h; exact g1
                · cases h
      · rcases stI_end (n := n9) (a := a) (b := b) (L := L) (d := d) (M := M) (pc := pc) (l := l) (st := st) (m := m) hp with e | ⟨r2, e, g⟩
        · rw [e] at h; cases h
        · rw [e] at h; cases h; exact g
/-- where something is thrown -/
def xend (q : Nat × Ent9) : Bool := match q with
  | (_, .athrow, _, _, _, _, _) => true
  | (_, .new _, _, _, _, c, _) => c == 77
  | _ => false
theorem thr_all : [177, 193, 194, 195, 198, 200, 201, 202, 204, 205, 207, 209, 211, 213].all (fun M => decide (M < 281) && (exT M).isEmpty && (hdT M).isEmpty && decide ((mY M).name ≠ "<init>")) = true := by decide +kernel
theorem thr_at {M : Nat} (h : thr9 M = true) : M < 281 ∧ exT M = [] ∧ hdT M = [] ∧ (mY M).name ≠ "<init>" := by
  have h2 := List.all_eq_true.mp thr_all M (List.elem_iff.mp h)
  simp only [Bool.and_eq_true, decide_eq_true_eq, List.isEmpty_iff] at h2
  exact ⟨h2.1.1.1, h2.1.1.2, h2.1.2, h2.2⟩
theorem thr_cd : (List.range 281).all (fun M => thr9 M || (cdT M).all (fun q => !xend q)) = true := by decide +kernel
theorem thr_of {M : Nat} {q : Nat × Ent9} (hM : M < 281) (h : q ∈ cdT M) (hx : xend q = true) : thr9 M = true := by
  have h2 := List.all_eq_true.mp thr_cd M (List.mem_range.mpr hM)
  rcases Bool.or_eq_true_iff.mp h2 with h3 | h3
  · exact h3
  · have h4 := List.all_eq_true.mp h3 q h
    rw [hx] at h4
    cases h4
theorem stI_inr {i : Instr} {n a b c : Nat} {L : List (Int32 × Nat)} {d M pc : Nat} {l : Loc9} {st : List AV} {m m2 : Mem} {q : Nat × AV} (h : isEnd i c = true) (hs : stI sF sD sK sN i n a b c L d M pc l st m = sD (.inr q, m2)) : xend (pc, i, n, a, b, c, L) = true := by
  cases i with
  | ireturn =>
    simp only [stI, irt9] at hs
    split at hs
    · split at hs
      · cases hs
      all_goals (split at hs <;> cases hs)
    · cases hs
  | lreturn => simp only [stI] at hs; split at hs <;> cases hs
  | areturn => simp only [stI] at hs; split at hs <;> cases hs
  | return_ => simp only [stI] at hs; split at hs <;> cases hs
  | athrow => rfl
  | new k => exact h
  | _ => simp [isEnd] at h
theorem ev_thr : ∀ (n d M pc : Nat) (l : Loc9) (st : List AV) (m m2 : Mem) (q : Nat × AV), ev9 n d M pc l st m = some (.inr q, m2) → thr9 M = true := by
  intro n
  induction n with
  | zero => intro d M pc l st m m2 q h; cases h
  | succ n ih =>
    intro d M pc l st m m2 q h
    have hM := ev_lt h
    rw [ev9] at h
    unfold st1 stp at h
    cases hlk : (cdT M).lookup pc with
    | none => rw [hlk] at h; cases h
    | some q9 =>
      obtain ⟨i, n9, a, b, c, L⟩ := q9
      rw [hlk] at h
      replace h : fo9 none some (fun d1 a args rest pc1 l1 m1 => ret9 (ev9 n d M) M pc pc1 l1 rest (ev9 n d1 a 0 (entL args (mxT a)) [] m1)) (ev9 n d M) (stI sF sD sK sN i n9 a b c L d M pc l st m) = some (.inr q, m2) := h
      have hpn : ∀ x : St9, PN m x → fo9 none some (fun d1 a args rest pc1 l1 m1 => ret9 (ev9 n d M) M pc pc1 l1 rest (ev9 n d1 a 0 (entL args (mxT a)) [] m1)) (ev9 n d M) x = some (.inr q, m2) → thr9 M = true := by
        intro x hx hf
        rcases hx with rfl | ⟨pc1, l1, s1, m1, rfl, h1, h2⟩
        · cases hf
        · exact ih _ _ _ _ _ _ _ _ hf
      rcases stI_kind i n9 a b c L d M pc l st m with hp | ⟨-, hp⟩ | hp
      · exact hpn _ hp h
      · rw [hp] at h
        rcases pn_inv (m := m) (pc := pc + n9) (l := l) (st := st) (d := d) (a := a) (b := b) (c := c) with hp2 | ⟨⟨d1, a1, av, rest, pc2, l2, m3⟩, hq⟩
        · exact hpn _ hp2 h
        · rw [hq] at h
          simp only [fo9] at h
          cases hc : ev9 n d1 a1 0 (entL av (mxT a1)) [] m3 with
          | none => rw [hc] at h; cases h
          | some q2 =>
            rw [hc] at h
            match q2, h with
            | (.inl none, m4), h => exact ih _ _ _ _ _ _ _ _ h
            | (.inl (some v), m4), h => exact ih _ _ _ _ _ _ _ _ h
            | (.inr q3, m4), h =>
              simp only [ret9] at h
              split at h
              · exact ih _ _ _ _ _ _ _ _ h
              · split at h
                · rename_i g; exact g
                · cases h
      · rcases stI_end (n := n9) (a := a) (b := b) (L := L) (d := d) (M := M) (pc := pc) (l := l) (st := st) (m := m) hp with e | ⟨r2, e, g⟩
        · rw [e] at h; cases h
        · rw [e] at h
          cases h
          exact thr_of hM (lookup_mem hlk) (stI_inr hp e)
