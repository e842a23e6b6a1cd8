/-! Steps that leave the heap alone -/
def SX (Γ : Gm) (M : Nat) (s : State) (m : Mem) (ad : Nat → Nat → Nat) (H : Heap) (locs : List Loc) (l : Loc9) (ls : Array Slot) (st : List AV) (sv : List Value) : Prop :=
  Rep Γ m ad H ∧ KN Γ s H ∧ (∀ q ∈ locs, gB Γ ≤ q.base) ∧ LR m ad (mxT M) l ls ∧ SR m ad st sv
def NX (Γ : Gm) (M : Nat) (p : Program) (l9 : Launch) (e : Env) (R : Room) (s : State) (mm : MethodId) (args : Array Value) (below : List Frame) (meth : Method) (c9 : Code) (Q : State → Prop) (m : Mem) (ad : Nat → Nat → Nat) (cells slots : Nat) (pc1 : Nat) (l1 : Loc9) (s1 : List AV) (m1 : Mem) : Prop :=
  ∀ (ad1 : Nat → Nat → Nat) (H1 : Heap) (locs1 : List Loc) (ls1 : Array Slot) (sv1 : List Value), Ex m ad m1 ad1 → SX Γ M s m1 ad1 H1 locs1 l1 ls1 s1 sv1 → W p l9 e R s mm args below meth c9 H1 locs1 (cells + (mC m1 - mC m)) (slots + (mS m1 - mS m)) Q (F0 mm pc1 ls1 sv1)
section PURE
variable {Γ : Gm} {M : Nat} {p : Program} {l9 : Launch} {e : Env} {R : Room} {s : State} {mm : MethodId} {args : Array Value} {below : List Frame} {meth : Method} {c9 : Code} {Q : State → Prop} {m m1 : Mem} {ad : Nat → Nat → Nat} {cells slots pc pc1 : Nat} {l l1 : Loc9} {st s1 : List AV} {H : Heap} {locs : List Loc} {ls : Array Slot} {sv : List Value}
theorem NX.here {ls1 : Array Slot} {sv1 : List Value} (k : NX Γ M p l9 e R s mm args below meth c9 Q m ad cells slots pc1 l1 s1 m) (hR : Rep Γ m ad H) (hK : KN Γ s H) (hlo : ∀ q ∈ locs, gB Γ ≤ q.base) (hL : LR m ad (mxT M) l1 ls1) (hS : SR m ad s1 sv1) : W p l9 e R s mm args below meth c9 H locs cells slots Q (F0 mm pc1 ls1 sv1) := by
  have h := k ad H locs ls1 sv1 Ex.rf ⟨hR, hK, hlo, hL, hS⟩
  simpa using h
abbrev Wn (Γ : Gm) (M : Nat) (p : Program) (l9 : Launch) (e : Env) (R : Room) (s : State) (mm : MethodId) (args : Array Value) (below : List Frame) (meth : Method) (c9 : Code) (Q : State → Prop) (H : Heap) (locs : List Loc) (cells slots pc : Nat) (ls : Array Slot) (sv : List Value) : Prop := W p l9 e R s mm args below meth c9 H locs cells slots Q (F0 mm pc ls sv)
theorem sd_ib {f : Int32 → Int32 → Int32} {pc2 : Nat} (h : ib9 sF sN f pc2 l st m = Nx pc1 l1 s1 m1) (row : ∀ x y rest, Wn Γ M p l9 e R s mm args below meth c9 Q H locs cells slots pc2 ls (.int (f x y) :: rest) → Wn Γ M p l9 e R s mm args below meth c9 Q H locs cells slots pc ls (.int y :: .int x :: rest)) (X : SX Γ M s m ad H locs l ls st sv) (k : NX Γ M p l9 e R s mm args below meth c9 Q m ad cells slots pc1 l1 s1 m1) : Wn Γ M p l9 e R s mm args below meth c9 Q H locs cells slots pc ls sv := by
  obtain ⟨x, y, r, rfl, rfl, rfl, rfl, rfl⟩ := iv_ib h
  obtain ⟨hR, hK, hlo, hL, hS⟩ := X
  obtain ⟨w1, t1, rfl, hv1, hS1⟩ := hS.inv
  obtain ⟨w2, t2, rfl, hv2, hS2⟩ := hS1.inv
  cases (show w1 = .int y from hv1)
  cases (show w2 = .int x from hv2)
  exact row x y t2 (k.here hR hK hlo hL ⟨rfl, hS2⟩)
theorem sd_lb {f : Int64 → Int64 → Int64} {pc2 : Nat} (h : lb9 sF sN f pc2 l st m = Nx pc1 l1 s1 m1) (row : ∀ x y rest, Wn Γ M p l9 e R s mm args below meth c9 Q H locs cells slots pc2 ls (.long (f x y) :: rest) → Wn Γ M p l9 e R s mm args below meth c9 Q H locs cells slots pc ls (.long y :: .long x :: rest)) (X : SX Γ M s m ad H locs l ls st sv) (k : NX Γ M p l9 e R s mm args below meth c9 Q m ad cells slots pc1 l1 s1 m1) : Wn Γ M p l9 e R s mm args below meth c9 Q H locs cells slots pc ls sv := by
  obtain ⟨x, y, r, rfl, rfl, rfl, rfl, rfl⟩ := iv_lb h
  obtain ⟨hR, hK, hlo, hL, hS⟩ := X
  obtain ⟨w1, t1, rfl, hv1, hS1⟩ := hS.inv
  obtain ⟨w2, t2, rfl, hv2, hS2⟩ := hS1.inv
  cases (show w1 = .long y from hv1)
  cases (show w2 = .long x from hv2)
  exact row x y t2 (k.here hR hK hlo hL ⟨rfl, hS2⟩)
theorem sd_ls {f : Int64 → Int32 → Int64} {pc2 : Nat} (h : ls9 sF sN f pc2 l st m = Nx pc1 l1 s1 m1) (row : ∀ x y rest, Wn Γ M p l9 e R s mm args below meth c9 Q H locs cells slots pc2 ls (.long (f x y) :: rest) → Wn Γ M p l9 e R s mm args below meth c9 Q H locs cells slots pc ls (.int y :: .long x :: rest)) (X : SX Γ M s m ad H locs l ls st sv) (k : NX Γ M p l9 e R s mm args below meth c9 Q m ad cells slots pc1 l1 s1 m1) : Wn Γ M p l9 e R s mm args below meth c9 Q H locs cells slots pc ls sv := by
  obtain ⟨x, y, r, rfl, rfl, rfl, rfl, rfl⟩ := iv_ls h
  obtain ⟨hR, hK, hlo, hL, hS⟩ := X
  obtain ⟨w1, t1, rfl, hv1, hS1⟩ := hS.inv
  obtain ⟨w2, t2, rfl, hv2, hS2⟩ := hS1.inv
  cases (show w1 = .int y from hv1)
  cases (show w2 = .long x from hv2)
  exact row x y t2 (k.here hR hK hlo hL ⟨rfl, hS2⟩)
theorem sd_iu {f : Int32 → AV} {g : Int32 → Value} (hfg : ∀ m ad x, VR m ad (f x) (g x)) {pc2 : Nat} (h : iu9 sF sN f pc2 l st m = Nx pc1 l1 s1 m1) (row : ∀ x rest, Wn Γ M p l9 e R s mm args below meth c9 Q H locs cells slots pc2 ls (g x :: rest) → Wn Γ M p l9 e R s mm args below meth c9 Q H locs cells slots pc ls (.int x :: rest)) (X : SX Γ M s m ad H locs l ls st sv) (k : NX Γ M p l9 e R s mm args below meth c9 Q m ad cells slots pc1 l1 s1 m1) : Wn Γ M p l9 e R s mm args below meth c9 Q H locs cells slots pc ls sv := by
  obtain ⟨x, r, rfl, rfl, rfl, rfl, rfl⟩ := iv_iu h
  obtain ⟨hR, hK, hlo, hL, hS⟩ := X
  obtain ⟨w1, t1, rfl, hv1, hS1⟩ := hS.inv
  cases (show w1 = .int x from hv1)
  exact row x t1 (k.here hR hK hlo hL ⟨hfg _ _ _, hS1⟩)
theorem sd_lu {f : Int64 → AV} {g : Int64 → Value} (hfg : ∀ m ad x, VR m ad (f x) (g x)) {pc2 : Nat} (h : lu9 sF sN f pc2 l st m = Nx pc1 l1 s1 m1) (row : ∀ x rest, Wn Γ M p l9 e R s mm args below meth c9 Q H locs cells slots pc2 ls (g x :: rest) → Wn Γ M p l9 e R s mm args below meth c9 Q H locs cells slots pc ls (.long x :: rest)) (X : SX Γ M s m ad H locs l ls st sv) (k : NX Γ M p l9 e R s mm args below meth c9 Q m ad cells slots pc1 l1 s1 m1) : Wn Γ M p l9 e R s mm args below meth c9 Q H locs cells slots pc ls sv := by
  obtain ⟨x, r, rfl, rfl, rfl, rfl, rfl⟩ := iv_lu h
  obtain ⟨hR, hK, hlo, hL, hS⟩ := X
  obtain ⟨w1, t1, rfl, hv1, hS1⟩ := hS.inv
  cases (show w1 = .long x from hv1)
  exact row x t1 (k.here hR hK hlo hL ⟨hfg _ _ _, hS1⟩)
theorem sd_il {k9 pc2 : Nat} (h : il9 sF sN k9 pc2 l st m = Nx pc1 l1 s1 m1) (row : ∀ x rest, ls[k9]? = some (.val (.int x)) → Wn Γ M p l9 e R s mm args below meth c9 Q H locs cells slots pc2 ls (.int x :: rest) → Wn Γ M p l9 e R s mm args below meth c9 Q H locs cells slots pc ls rest) (X : SX Γ M s m ad H locs l ls st sv) (k : NX Γ M p l9 e R s mm args below meth c9 Q m ad cells slots pc1 l1 s1 m1) : Wn Γ M p l9 e R s mm args below meth c9 Q H locs cells slots pc ls sv := by
  obtain ⟨x, hx, rfl, rfl, rfl, rfl⟩ := iv_il h
  obtain ⟨hR, hK, hlo, hL, hS⟩ := X
  obtain ⟨rv, h1, h2⟩ := hL.ld hx
  cases (show rv = .int x from h2)
  exact row x sv h1 (k.here hR hK hlo hL ⟨rfl, hS⟩)
theorem sd_ll {k9 pc2 : Nat} (h : ll9 sF sN k9 pc2 l st m = Nx pc1 l1 s1 m1) (row : ∀ x rest, ls[k9]? = some (.val (.long x)) → Wn Γ M p l9 e R s mm args below meth c9 Q H locs cells slots pc2 ls (.long x :: rest) → Wn Γ M p l9 e R s mm args below meth c9 Q H locs cells slots pc ls rest) (X : SX Γ M s m ad H locs l ls st sv) (k : NX Γ M p l9 e R s mm args below meth c9 Q m ad cells slots pc1 l1 s1 m1) : Wn Γ M p l9 e R s mm args below meth c9 Q H locs cells slots pc ls sv := by
  obtain ⟨x, hx, rfl, rfl, rfl, rfl⟩ := iv_ll h
  obtain ⟨hR, hK, hlo, hL, hS⟩ := X
  obtain ⟨rv, h1, h2⟩ := hL.ld hx
  cases (show rv = .long x from h2)
  exact row x sv h1 (k.here hR hK hlo hL ⟨rfl, hS⟩)
theorem VR.rq {m : Mem} {ad : Nat → Nat → Nat} : ∀ {x : Option (Option (Nat × Nat))} {w : Value}, VR m ad (.inr (.inr x)) w → w = .null ∨ ∃ a, w = .ref a
  | none, _, h => h
  | some none, _, h => Or.inl h
  | some (some q), _, h => Or.inr ⟨_, h.1⟩
theorem sd_al {k9 pc2 : Nat} (h : al9 sF sN k9 pc2 l st m = Nx pc1 l1 s1 m1) (row : ∀ x rest, ls[k9]? = some (.val (.ref x)) → Wn Γ M p l9 e R s mm args below meth c9 Q H locs cells slots pc2 ls (.ref x :: rest) → Wn Γ M p l9 e R s mm args below meth c9 Q H locs cells slots pc ls rest) (rowN : ∀ rest, ls[k9]? = some (.val .null) → Wn Γ M p l9 e R s mm args below meth c9 Q H locs cells slots pc2 ls (.null :: rest) → Wn Γ M p l9 e R s mm args below meth c9 Q H locs cells slots pc ls rest) (X : SX Γ M s m ad H locs l ls st sv) (k : NX Γ M p l9 e R s mm args below meth c9 Q m ad cells slots pc1 l1 s1 m1) : Wn Γ M p l9 e R s mm args below meth c9 Q H locs cells slots pc ls sv := by
  obtain ⟨x, hx, rfl, rfl, rfl, rfl⟩ := iv_al h
  obtain ⟨hR, hK, hlo, hL, hS⟩ := X
  obtain ⟨rv, h1, h2⟩ := hL.ld hx
  rcases h2.rq with rfl | ⟨a, rfl⟩
  · exact rowN sv h1 (k.here hR hK hlo hL ⟨h2, hS⟩)
  · exact row a sv h1 (k.here hR hK hlo hL ⟨h2, hS⟩)
abbrev fl1 (k : Nat) (lv : List (Nat × Value)) : List (Nat × Value) := lv.filter (fun q => !(q.1 == k) && !(q.1 + 1 == k && q.2.category == 2))
abbrev fl2 (k : Nat) (lv : List (Nat × Value)) : List (Nat × Value) := lv.filter (fun q => !(q.1 == k) && (!(q.1 == k + 1) && !(q.1 + 1 == k && q.2.category == 2)))
theorem sd_is {k9 pc2 : Nat} (h : is9 sF sN k9 pc2 l st m = Nx pc1 l1 s1 m1) (row : ∀ x rest lv, lv_has ls (mxT M) lv → k9 < mxT M → (∀ ls1, lv_has ls1 (mxT M) ((k9, .int x) :: fl1 k9 lv) → Wn Γ M p l9 e R s mm args below meth c9 Q H locs cells slots pc2 ls1 rest) → Wn Γ M p l9 e R s mm args below meth c9 Q H locs cells slots pc ls (.int x :: rest)) (X : SX Γ M s m ad H locs l ls st sv) (k : NX Γ M p l9 e R s mm args below meth c9 Q m ad cells slots pc1 l1 s1 m1) : Wn Γ M p l9 e R s mm args below meth c9 Q H locs cells slots pc ls sv := by
  obtain ⟨x, r, rfl, hk, rfl, rfl, rfl, rfl⟩ := iv_is h
  obtain ⟨hR, hK, hlo, hL, hS⟩ := X
  obtain ⟨w1, t1, rfl, hv1, hS1⟩ := hS.inv
  cases (show w1 = .int x from hv1)
  obtain ⟨h0, lv, h1, h2⟩ := hL
  exact row x t1 lv h1 (by rw [← h0]; exact hk) (fun ls1 hl1 => k.here hR hK hlo (LR.st (ls := ls) h0 h2 (v := vi x) (rv := .int x) rfl hl1) hS1)
theorem sd_ls2 {k9 pc2 : Nat} (h : ls29 sF sN k9 pc2 l st m = Nx pc1 l1 s1 m1) (row : ∀ x rest lv, lv_has ls (mxT M) lv → k9 + 1 < mxT M → (∀ ls1, lv_has ls1 (mxT M) ((k9, .long x) :: fl2 k9 lv) → Wn Γ M p l9 e R s mm args below meth c9 Q H locs cells slots pc2 ls1 rest) → Wn Γ M p l9 e R s mm args below meth c9 Q H locs cells slots pc ls (.long x :: rest)) (X : SX Γ M s m ad H locs l ls st sv) (k : NX Γ M p l9 e R s mm args below meth c9 Q m ad cells slots pc1 l1 s1 m1) : Wn Γ M p l9 e R s mm args below meth c9 Q H locs cells slots pc ls sv := by
  obtain ⟨x, r, rfl, hk, rfl, rfl, rfl, rfl⟩ := iv_ls2 h
  obtain ⟨hR, hK, hlo, hL, hS⟩ := X
  obtain ⟨w1, t1, rfl, hv1, hS1⟩ := hS.inv
  cases (show w1 = .long x from hv1)
  obtain ⟨h0, lv, h1, h2⟩ := hL
  have hk2 : k9 + 1 < mxT M := by rw [← h0]; exact hk
  exact row x t1 lv h1 hk2 (fun ls1 hl1 => k.here hR hK hlo (LR.st2 (ls := ls) h0 h2 (v := vl x) (rv := .long x) rfl hk2 hl1) hS1)
theorem sd_as {k9 pc2 : Nat} (h : as9 sF sN k9 pc2 l st m = Nx pc1 l1 s1 m1) (row : ∀ x rest lv, lv_has ls (mxT M) lv → k9 < mxT M → (∀ ls1, lv_has ls1 (mxT M) ((k9, .ref x) :: fl1 k9 lv) → Wn Γ M p l9 e R s mm args below meth c9 Q H locs cells slots pc2 ls1 rest) → Wn Γ M p l9 e R s mm args below meth c9 Q H locs cells slots pc ls (.ref x :: rest))
    (rowN : ∀ rest lv, lv_has ls (mxT M) lv → k9 < mxT M → (∀ ls1, lv_has ls1 (mxT M) ((k9, .null) :: fl1 k9 lv) → Wn Γ M p l9 e R s mm args below meth c9 Q H locs cells slots pc2 ls1 rest) → Wn Γ M p l9 e R s mm args below meth c9 Q H locs cells slots pc ls (.null :: rest)) (X : SX Γ M s m ad H locs l ls st sv) (k : NX Γ M p l9 e R s mm args below meth c9 Q m ad cells slots pc1 l1 s1 m1) : Wn Γ M p l9 e R s mm args below meth c9 Q H locs cells slots pc ls sv := by
  obtain ⟨x, r, rfl, hk, rfl, rfl, rfl, rfl⟩ := iv_as h
  obtain ⟨hR, hK, hlo, hL, hS⟩ := X
  obtain ⟨w1, t1, rfl, hv1, hS1⟩ := hS.inv
  obtain ⟨h0, lv, h1, h2⟩ := hL
  have hk2 : k9 < mxT M := by rw [← h0]; exact hk
  rcases hv1.rq with rfl | ⟨a, rfl⟩
  · exact rowN t1 lv h1 hk2 (fun ls1 hl1 => k.here hR hK hlo (LR.st (ls := ls) h0 h2 (v := .inr (.inr x)) (rv := .null) hv1 hl1) hS1)
  · exact row a t1 lv h1 hk2 (fun ls1 hl1 => k.here hR hK hlo (LR.st (ls := ls) h0 h2 (v := .inr (.inr x)) (rv := .ref a) hv1 hl1) hS1)
theorem sd_ic {C : Int32 → Int32 → Bool} {a pc2 : Nat} (h : ic9 sF sN C a pc2 l st m = Nx pc1 l1 s1 m1) (row : ∀ x y rest, (C x y = true → Wn Γ M p l9 e R s mm args below meth c9 Q H locs cells slots a ls rest) → (¬ C x y = true → Wn Γ M p l9 e R s mm args below meth c9 Q H locs cells slots pc2 ls rest) → Wn Γ M p l9 e R s mm args below meth c9 Q H locs cells slots pc ls (.int y :: .int x :: rest)) (X : SX Γ M s m ad H locs l ls st sv) (k : NX Γ M p l9 e R s mm args below meth c9 Q m ad cells slots pc1 l1 s1 m1) : Wn Γ M p l9 e R s mm args below meth c9 Q H locs cells slots pc ls sv := by
  obtain ⟨x, y, r, rfl, e1, rfl, rfl, rfl⟩ := iv_ic h
  obtain ⟨hR, hK, hlo, hL, hS⟩ := X
  obtain ⟨w1, t1, rfl, hv1, hS1⟩ := hS.inv
  obtain ⟨w2, t2, rfl, hv2, hS2⟩ := hS1.inv
  cases (show w1 = .int y from hv1)
  cases (show w2 = .int x from hv2)
  have kk := k.here hR hK hlo hL hS2
  refine row x y t2 (fun hc => ?_) (fun hc => ?_)
  · rw [if_pos hc] at e1; rw [e1] at kk; exact kk
  · rw [if_neg hc] at e1; rw [e1] at kk; exact kk
theorem sd_if {C : Int32 → Bool} {a pc2 : Nat} (h : if9 sF sN C a pc2 l st m = Nx pc1 l1 s1 m1) (row : ∀ x rest, (C x = true → Wn Γ M p l9 e R s mm args below meth c9 Q H locs cells slots a ls rest) → (¬ C x = true → Wn Γ M p l9 e R s mm args below meth c9 Q H locs cells slots pc2 ls rest) → Wn Γ M p l9 e R s mm args below meth c9 Q H locs cells slots pc ls (.int x :: rest)) (X : SX Γ M s m ad H locs l ls st sv) (k : NX Γ M p l9 e R s mm args below meth c9 Q m ad cells slots pc1 l1 s1 m1) : Wn Γ M p l9 e R s mm args below meth c9 Q H locs cells slots pc ls sv := by
  obtain ⟨x, r, rfl, e1, rfl, rfl, rfl⟩ := iv_if h
  obtain ⟨hR, hK, hlo, hL, hS⟩ := X
  obtain ⟨w1, t1, rfl, hv1, hS1⟩ := hS.inv
  cases (show w1 = .int x from hv1)
  have kk := k.here hR hK hlo hL hS1
  refine row x t1 (fun hc => ?_) (fun hc => ?_)
  · rw [if_pos hc] at e1; rw [e1] at kk; exact kk
  · rw [if_neg hc] at e1; rw [e1] at kk; exact kk
end PURE
