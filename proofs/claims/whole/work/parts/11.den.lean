/-! The step as data; the evaluator; its denotation, with its equation -/
abbrev St9 : Type := Option Res9 ⊕ ((Nat × Loc9 × List AV × Mem) ⊕ (Nat × Nat × List AV × List AV × Nat × Loc9 × Mem))
def sF : St9 := .inl none
def sD (r : Res9) : St9 := .inl (some r)
def sK (d a : Nat) (args rest : List AV) (pc1 : Nat) (l : Loc9) (m : Mem) : St9 := .inr (.inr (d, a, args, rest, pc1, l, m))
def sN (pc : Nat) (l : Loc9) (st : List AV) (m : Mem) : St9 := .inr (.inl (pc, l, st, m))
def st1 (d M pc : Nat) (l : Loc9) (st : List AV) (m : Mem) : St9 := stp sF sD sK sN d M pc l st m
section FOLD
variable {ρ : Type} (F : ρ) (D : Res9 → ρ) (Kc : Nat → Nat → List AV → List AV → Nat → Loc9 → Mem → ρ) (Kn : Nat → Loc9 → List AV → Mem → ρ)
def fo9 (x : St9) : ρ := match x with
  | .inl none => F
  | .inl (some r) => D r
  | .inr (.inl (pc, l, st, m)) => Kn pc l st m
  | .inr (.inr (d, a, args, rest, pc1, l, m)) => Kc d a args rest pc1 l m
theorem fo_if {c : Prop} [Decidable c] (x y : St9) : fo9 F D Kc Kn (if c then x else y) = if c then fo9 F D Kc Kn x else fo9 F D Kc Kn y := by
  by_cases h : c <;> simp [h]
theorem fo_ib (f : Int32 → Int32 → Int32) (pc : Nat) (l : Loc9) (st : List AV) (m : Mem) : ib9 F Kn f pc l st m = fo9 F D Kc Kn (ib9 sF sN f pc l st m) := by
  unfold ib9; split <;> rfl
theorem fo_lb (f : Int64 → Int64 → Int64) (pc : Nat) (l : Loc9) (st : List AV) (m : Mem) : lb9 F Kn f pc l st m = fo9 F D Kc Kn (lb9 sF sN f pc l st m) := by
  unfold lb9; split <;> rfl
theorem fo_ls (f : Int64 → Int32 → Int64) (pc : Nat) (l : Loc9) (st : List AV) (m : Mem) : ls9 F Kn f pc l st m = fo9 F D Kc Kn (ls9 sF sN f pc l st m) := by
  unfold ls9; split <;> rfl
theorem fo_iu (f : Int32 → AV) (pc : Nat) (l : Loc9) (st : List AV) (m : Mem) : iu9 F Kn f pc l st m = fo9 F D Kc Kn (iu9 sF sN f pc l st m) := by
  unfold iu9; split <;> rfl
theorem fo_lu (f : Int64 → AV) (pc : Nat) (l : Loc9) (st : List AV) (m : Mem) : lu9 F Kn f pc l st m = fo9 F D Kc Kn (lu9 sF sN f pc l st m) := by
  unfold lu9; split <;> rfl
theorem fo_il (k pc : Nat) (l : Loc9) (st : List AV) (m : Mem) : il9 F Kn k pc l st m = fo9 F D Kc Kn (il9 sF sN k pc l st m) := by
  unfold il9; split <;> rfl
theorem fo_ll (k pc : Nat) (l : Loc9) (st : List AV) (m : Mem) : ll9 F Kn k pc l st m = fo9 F D Kc Kn (ll9 sF sN k pc l st m) := by
  unfold ll9; split <;> rfl
theorem fo_al (k pc : Nat) (l : Loc9) (st : List AV) (m : Mem) : al9 F Kn k pc l st m = fo9 F D Kc Kn (al9 sF sN k pc l st m) := by
  unfold al9; split <;> rfl
theorem fo_is (k pc : Nat) (l : Loc9) (st : List AV) (m : Mem) : is9 F Kn k pc l st m = fo9 F D Kc Kn (is9 sF sN k pc l st m) := by
  unfold is9; split
  · rw [fo_if]; rfl
  · rfl
theorem fo_ls2 (k pc : Nat) (l : Loc9) (st : List AV) (m : Mem) : ls29 F Kn k pc l st m = fo9 F D Kc Kn (ls29 sF sN k pc l st m) := by
  unfold ls29; split
  · rw [fo_if]; rfl
  · rfl
theorem fo_as (k pc : Nat) (l : Loc9) (st : List AV) (m : Mem) : as9 F Kn k pc l st m = fo9 F D Kc Kn (as9 sF sN k pc l st m) := by
  unfold as9; split
  · rw [fo_if]; rfl
  · rfl
theorem fo_ic (C : Int32 → Int32 → Bool) (a pc : Nat) (l : Loc9) (st : List AV) (m : Mem) : ic9 F Kn C a pc l st m = fo9 F D Kc Kn (ic9 sF sN C a pc l st m) := by
  unfold ic9; split
  · rw [fo_if]; rfl
  · rfl
theorem fo_if9 (C : Int32 → Bool) (a pc : Nat) (l : Loc9) (st : List AV) (m : Mem) : if9 F Kn C a pc l st m = fo9 F D Kc Kn (if9 sF sN C a pc l st m) := by
  unfold if9; split
  · rw [fo_if]; rfl
  · rfl
theorem fo_ald (ty : Nat → Bool) (pc : Nat) (l : Loc9) (st : List AV) (m : Mem) : ald9 F Kn ty pc l st m = fo9 F D Kc Kn (ald9 sF sN ty pc l st m) := by
  unfold ald9; split
  · rw [fo_if, fo_if]; rfl
  · rfl
theorem fo_lald (pc : Nat) (l : Loc9) (st : List AV) (m : Mem) : lald9 F Kn pc l st m = fo9 F D Kc Kn (lald9 sF sN pc l st m) := by
  unfold lald9; split
  · rw [fo_if, fo_if]; rfl
  · rfl
theorem fo_iast (pc : Nat) (l : Loc9) (st : List AV) (m : Mem) : iast9 F Kn pc l st m = fo9 F D Kc Kn (iast9 sF sN pc l st m) := by
  unfold iast9; split
  · rw [fo_if, fo_if]; rfl
  · rfl
theorem fo_bast (pc : Nat) (l : Loc9) (st : List AV) (m : Mem) : bast9 F Kn pc l st m = fo9 F D Kc Kn (bast9 sF sN pc l st m) := by
  unfold bast9; split
  · rw [fo_if, fo_if]; congr 2; split <;> rfl
  · rfl
theorem fo_last (pc : Nat) (l : Loc9) (st : List AV) (m : Mem) : last9 F Kn pc l st m = fo9 F D Kc Kn (last9 sF sN pc l st m) := by
  unfold last9; split
  · rw [fo_if, fo_if]; rfl
  · rfl
theorem fo_gtf (a b c pc : Nat) (l : Loc9) (st : List AV) (m : Mem) : gtf9 F Kn a b c pc l st m = fo9 F D Kc Kn (gtf9 sF sN a b c pc l st m) := by
  unfold gtf9; split
  · rw [fo_if]; rfl
  · rfl
theorem fo_ptf (a b c pc : Nat) (l : Loc9) (st : List AV) (m : Mem) : ptf9 F Kn a b c pc l st m = fo9 F D Kc Kn (ptf9 sF sN a b c pc l st m) := by
  unfold ptf9; split
  · rw [fo_if]; congr 1; split <;> rfl
  · rfl
theorem fo_cp (pc : Nat) (l : Loc9) (st : List AV) (m : Mem) : cp9 F Kn pc l st m = fo9 F D Kc Kn (cp9 sF sN pc l st m) := by
  unfold cp9; split
  · rw [fo_if]; rfl
  · rfl
theorem fo_nwa (a n c pc : Nat) (l : Loc9) (st : List AV) (m : Mem) : nwa9 F Kn a n c pc l st m = fo9 F D Kc Kn (nwa9 sF sN a n c pc l st m) := by
  unfold nwa9; split
  · rw [fo_if]; rfl
  · rfl
theorem fo_irt (a : Nat) (st : List AV) (m : Mem) : irt9 F D a st m = fo9 F D Kc Kn (irt9 sF sD a st m) := by
  unfold irt9; split
  · split
    · rfl
    · rw [fo_if]; rfl
    · rw [fo_if]; rfl
    · rw [fo_if]; rfl
  · rfl
theorem fo_mt (c pc : Nat) (l : Loc9) (st : List AV) (m : Mem) : mt9 F Kn c pc l st m = fo9 F D Kc Kn (mt9 sF sN c pc l st m) := by
  unfold mt9; split <;> split <;> first
    | rfl
    | (rw [fo_if]; rfl)
theorem fo_inv (d a b c pc1 : Nat) (l : Loc9) (st : List AV) (m : Mem) : inv9 F Kc Kn d a b c pc1 l st m = fo9 F D Kc Kn (inv9 sF sK sN d a b c pc1 l st m) := by
  unfold inv9
  rw [fo_if, fo_if, fo_if, fo_if, fo_cp F D Kc Kn, fo_mt F D Kc Kn]
  congr 1; congr 1
  · split
    · rw [fo_if]; rfl
    · rfl
  · congr 2
    split
    · rfl
    · rw [fo_if, fo_if]; congr 2; split <;> rfl
theorem fo_swK (x : Int32) (d : Nat) (l : Loc9) (r : List AV) (m : Mem) (L : List (Int32 × Nat)) : swK x d (fun t => Kn t l r m) L = fo9 F D Kc Kn (swK x d (fun t => sN t l r m) L) := by
  induction L with
  | nil => rfl
  | cons q t ih => simp only [swK]; rw [fo_if, ih]; rfl
set_option maxHeartbeats 4000000 in
theorem fo_stI (i : Instr) (n a b c : Nat) (L : List (Int32 × Nat)) (d M pc : Nat) (l : Loc9) (st : List AV) (m : Mem) : stI F D Kc Kn i n a b c L d M pc l st m = fo9 F D Kc Kn (stI sF sD sK sN i n a b c L d M pc l st m) := by
  unfold stI
  split <;> first
  | rfl
  | exact fo_il F D Kc Kn _ _ _ _ _
  | exact fo_ll F D Kc Kn _ _ _ _ _
  | exact fo_al F D Kc Kn _ _ _ _ _
  | exact fo_is F D Kc Kn _ _ _ _ _
  | exact fo_ls2 F D Kc Kn _ _ _ _ _
  | exact fo_as F D Kc Kn _ _ _ _ _
  | exact fo_ib F D Kc Kn _ _ _ _ _
  | exact fo_lb F D Kc Kn _ _ _ _ _
  | exact fo_ls F D Kc Kn _ _ _ _ _
  | exact fo_iu F D Kc Kn _ _ _ _ _
  | exact fo_lu F D Kc Kn _ _ _ _ _
  | exact fo_ic F D Kc Kn _ _ _ _ _ _
  | exact fo_if9 F D Kc Kn _ _ _ _ _ _
  | exact fo_gtf F D Kc Kn _ _ _ _ _ _ _
  | exact fo_ptf F D Kc Kn _ _ _ _ _ _ _
  | exact fo_ald F D Kc Kn _ _ _ _ _
  | exact fo_lald F D Kc Kn _ _ _ _
  | exact fo_iast F D Kc Kn _ _ _ _
  | exact fo_bast F D Kc Kn _ _ _ _
  | exact fo_last F D Kc Kn _ _ _ _
  | exact fo_nwa F D Kc Kn _ _ _ _ _ _ _
  | exact fo_inv F D Kc Kn _ _ _ _ _ _ _ _
  | exact fo_irt F D Kc Kn _ _ _
  | (rw [fo_if]; rfl)
  | (rw [fo_if, fo_if]; rfl)
  | (split <;> first
    | rfl
    | exact fo_swK F D Kc Kn _ _ _ _ _ _
    | (rw [fo_if]; rfl)
    | (rw [fo_if]; congr 1; split <;> rfl))
theorem fo_stp (d M pc : Nat) (l : Loc9) (st : List AV) (m : Mem) : stp F D Kc Kn d M pc l st m = fo9 F D Kc Kn (st1 d M pc l st m) := by
  unfold st1 stp
  split
  · rfl
  · exact fo_stI F D Kc Kn _ _ _ _ _ _ _ _ _ _ _ _
end FOLD
/-- the methods out of which something may be thrown -/
def thr9 (M : Nat) : Bool := [177, 193, 194, 195, 198, 200, 201, 202, 204, 205, 207, 209, 211, 213].elem M
def ret9 (Kn : Nat → Loc9 → List AV → Mem → Option Res9) (M pc0 pc : Nat) (l : Loc9) (rest : List AV) (r : Option Res9) : Option Res9 := match r with
  | none => none
  | some (.inl none, m1) => Kn pc l rest m1
  | some (.inl (some v), m1) => Kn pc l (v :: rest) m1
  | some (.inr q, m1) => match hnd9 (hdT M) pc0 q.1 with
    | some h => Kn h l [q.2] m1
    | none => if thr9 M = true then some (.inr q, m1) else none
/-- with so many steps -/
def ev9 : Nat → Nat → Nat → Nat → Loc9 → List AV → Mem → Option Res9
  | 0, _, _, _, _, _, _ => none
  | n + 1, d, M, pc, l, st, m => fo9 none some (fun d1 a args rest pc1 l1 m1 => ret9 (ev9 n d M) M pc pc1 l1 rest (ev9 n d1 a 0 (entL args (mxT a)) [] m1)) (ev9 n d M) (st1 d M pc l st m)
