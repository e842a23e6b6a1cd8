/-! What is known of the tables and of the cells that were there before; the heap of the evaluator's things -/
def nwF : List (String × Nat × String × String × String × String) := [("WholeFieldsModel", 113, "WholeFieldsModel$Stop", "kind", "I", "WholeFieldsModel"), ("WholeFieldsModel", 119, "WholeFieldsModel$Stop", "place", "I", "WholeFieldsModel"), ("WholeFieldsModel", 206, "WholeFieldsModel$Book", "owners", "I", "WholeFieldsModel"), ("WholeFieldsModel", 209, "WholeFieldsModel$Book", "name", "[J", "WholeFieldsModel"), ("WholeFieldsModel", 302, "WholeFieldsModel$Book", "program", "[I", "WholeFieldsModel"), ("WholeFieldsModel", 300, "WholeFieldsModel$Book", "size", "[I", "WholeFieldsModel")]
def nwM : List (String × Nat × MethodName × String) := [("WholeFields$Reader", 17, ⟨"WholeFields$Book", "<init>", "()V"⟩, "WholeFields"), ("WholeFields", 24, ⟨"WholeFields$Ground", "<init>", "()V"⟩, "WholeFields"), ("WholeFields$Ground", 32, ⟨"WholeFields$Book", "<init>", "()V"⟩, "WholeFields"), ("WholeFieldsModel", 250, ⟨"WholeFieldsModel$Book", "<init>", "()V"⟩, "WholeFieldsModel")]
def cfw (q : String × Nat × String × String × String × String) : Cond := .fieldLinkNest q.1 q.2.1 q.2.2.1 q.2.2.2.1 q.2.2.2.2.1 q.2.2.2.2.2
def cmw (q : String × Nat × MethodName × String) : Cond := .methodLinkNest q.1 q.2.1 q.2.2.1 q.2.2.2
abbrev gB (Γ : Gm) : Nat := Γ.2.2.1
abbrev gX (Γ : Gm) : Nat → Nat → Nat := Γ.2.2.2.1
abbrev gL (Γ : Gm) : Nat := Γ.2.2.2.2.1
abbrev gS (Γ : Gm) : Nat → Int32 := Γ.2.2.2.2.2
abbrev gA (Γ : Gm) : Nat → Prop := fun q => gB Γ ≤ q
abbrev tyL (Γ : Gm) : List (ClassId × FieldType) := [(Γ.2.1 0, .int), (Γ.2.1 1, .byte), (Γ.2.1 2, .boolean), (Γ.2.1 3, .long)]
def wyN (k : Nat) : String := nth9 ["WAY_X", "WAY_Y", "CELL_X", "CELL_Y"] k ""
/-- what a throw of NoSuchElementException takes besides the good words -/
def nse9 (U : State) : Prop := va_Nw (.castable "java/util/NoSuchElementException" "java/util/NoSuchElementException") U ∧ va_Nw (.declares (Bundle.initS "java/lang/RuntimeException")) U ∧ va_Nw (.declares (Bundle.initS "java/lang/Exception")) U ∧ va_Nw (.declares (Bundle.initS Bundle.tN)) U
theorem nse9.warmC {s U : State} (hW : s.WarmedH U.vm) (h : nse9 s) : nse9 U := ⟨h.1.warmC hW, h.2.1.warmD hW, h.2.2.1.warmD hW, h.2.2.2.warmD hW⟩
theorem nse9.same (_ : true = true) {u U : State} (hv : u.vm = U.vm) (h : nse9 u) : nse9 U := ⟨h.1.same rfl hv, h.2.1.same rfl hv, h.2.2.1.same rfl hv, h.2.2.2.same rfl hv⟩
def KN (Γ : Gm) (U : State) (H : Heap) : Prop :=
  va_K Γ.1 vwC (tyL Γ) U ∧ (∀ q ∈ nwF, va_Nw (cfw q) U) ∧ (∀ q ∈ nwM, va_Nw (cmw q) U) ∧
  (∀ q ∈ strL, vk_R (onm q.1) q.2.1 (nth9 strX q.2.2 "") (gX Γ 80 q.2.2) U) ∧
  vk_S 9 (strT.map List.length) strT (gX Γ 80) (gX Γ 81) (gA Γ) U H ∧
  (∀ k, k < 4 → va_Z "WholeFields$Walker" (wyN k) "[I" (.ref (gX Γ (90 + k) 0)) (gA Γ) U H ∧ va_T .int (gX Γ (90 + k) 0) 4 (fun j => .int (roT (90 + k) 0 j)) (gA Γ) U H) ∧
  vx_Zq Bundle.tN "UNASSIGNED_STACK" Bundle.steD (gA Γ) U H ∧ vx_Zq Bundle.tN "SUPPRESSED_SENTINEL" Bundle.listD (gA Γ) U H ∧
  va_Zq "jdk/internal/util/Preconditions" "SIOOBE_FORMATTER" "Ljava/util/function/BiFunction;" (gA Γ) U H ∧
  va_Z "java/lang/String" "COMPACT_STRINGS" "Z" (.int 1) (gA Γ) U H ∧
  va_X (gX Γ 99 0) (gL Γ) (gS Γ) U H ∧ gX Γ 99 0 < gB Γ ∧ gB Γ ≤ H.size ∧
  nse9 U ∧ va_Nw (.castable "WholeFieldsModel$Stop" "WholeFieldsModel$Stop") U
theorem KN.moved {Γ : Gm} {s U : State} {H : Heap} (hW : s.WarmedH U.vm) (h : KN Γ s H) : KN Γ U H := by
  obtain ⟨h1, h2, h3, h4, h5, h6, h7, h8, h9, h10, h11, h12, h13, h14, h15⟩ := h
  exact ⟨va_K.moved hW.alike h1, fun q hq => (h2 q hq).warmF hW, fun q hq => (h3 q hq).warmM hW, fun q hq => (h4 q hq).warm hW, h5.moved hW.alike, fun k hk => ⟨(h6 k hk).1.moved hW.alike, (h6 k hk).2.moved hW.alike⟩, h7.moved hW.alike, h8.moved hW.alike, h9.moved hW.alike, h10.moved hW.alike, h11.moved hW.alike, h12, h13, h14.warmC hW, h15.warmC hW⟩
theorem KN.same {Γ : Gm} {s U : State} {H : Heap} (hv : U.vm = s.vm) (h : KN Γ s H) : KN Γ U H := by
  have hW : s.vm.Alike U.vm := by rw [hv]; exact Vm.Alike.refl _
  obtain ⟨h1, h2, h3, h4, h5, h6, h7, h8, h9, h10, h11, h12, h13, h14, h15⟩ := h
  exact ⟨va_K.moved hW h1, fun q hq => (h2 q hq).same rfl hv.symm, fun q hq => (h3 q hq).same rfl hv.symm, fun q hq => (h4 q hq).same hv, h5.moved hW, fun k hk => ⟨(h6 k hk).1.moved hW, (h6 k hk).2.moved hW⟩, h7.moved hW, h8.moved hW, h9.moved hW, h10.moved hW, h11.moved hW, h12, h13, h14.same rfl hv.symm, h15.same rfl hv.symm⟩
theorem KN.kept {Γ : Gm} {U : State} {H H1 : Heap} (hz : H.size ≤ H1.size) (hq : ∀ a : Nat, a < H.size → ¬ gA Γ a → H1[a]? = H[a]?) (h : KN Γ U H) : KN Γ U H1 := by
  obtain ⟨h1, h2, h3, h4, h5, h6, h7, h8, h9, h10, h11, h12, h13, h14, h15⟩ := h
  refine ⟨h1, h2, h3, h4, h5.kept hq, fun k hk => ⟨(h6 k hk).1.kept hq, (h6 k hk).2.kept hq⟩, h7.kept hq, h8.kept hq, h9.kept hq, h10.kept hq, h11.kept ?_, h12, Nat.le_trans h13 hz, h14, h15⟩
  exact hq _ (Nat.lt_of_lt_of_le h12 h13) (Nat.not_le.mpr h12)
def aCl (Γ : Gm) (m : Mem) (k j : Nat) : Cell := arrV (Γ.2.1 (aTy k)) (kLn k) (fun i => if aTy k = 3 then .long (mJ m k j i) else .int (mI m k j i))
def eKn (L k : Nat) : Nat := if k = 98 then L else if k = 80 ∨ k = 81 then 9 else if k = 99 ∨ (90 ≤ k ∧ k ≤ 93) then 1 else 0
def Rep (Γ : Gm) (m : Mem) (ad : Nat → Nat → Nat) (H : Heap) : Prop :=
  (∀ k j, k < 15 → j < mK m k → ∃ cell : Cell, H[ad k j]? = some cell ∧ cell.cls = Γ.1.1 k ∧ cell.vm = .none ∧ ∀ i, i < (clT k).2.2 → ∃ v, cell.slots[Γ.1.2 k i]? = some v ∧ VR m ad (gf9 m k i (fcd (tyT k i)) j) v) ∧
  (∀ k j, 15 ≤ k → k < 80 → j < mK m k → H[ad k j]? = some (aCl Γ m k j)) ∧
  (∀ k j, k < 80 → j < mK m k → gB Γ ≤ ad k j) ∧
  (∀ k j k2 j2, k < 80 → k2 < 80 → j < mK m k → j2 < mK m k2 → ad k j = ad k2 j2 → k = k2 ∧ j = j2) ∧
  (∀ k j, 80 ≤ k → ad k j = gX Γ k j) ∧ (∀ k, 80 ≤ k → mK m k = eKn (gL Γ) k) ∧ (∀ i, i < gL Γ → mI m 99 0 i = gS Γ i)
def rmD (d mc ms : Nat) : Room := { frames := d + 16, cells := mc, slots := ms, locals := 64 * d + 400 }
/-- where a method M stands -/
def CX (M : Nat) (p : Program) (l : Launch) (s : State) (m : MethodId) (args : Array Value) (meth : Method) (c : Code) : Prop :=
  p.tables.exec = Jvm.exec ∧ c.code = mB M ∧ c.maxLocals = mxT M ∧ meth.sig.returnType = mRt M ∧ s.vm.findClass (onm (mO M)) = some m.cls ∧ (∀ w ∈ lw_tbl, goodWord w = true → w.before args s = true) ∧ meth.locks = false ∧ meth.name = (mY M).name ∧ c.exceptionTable.toList = tableOf (exT M) ∧ l.stackTraces = false
