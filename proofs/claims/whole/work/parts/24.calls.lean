/-! Calls: what goes in, what comes back -/
theorem KN.back {Γ : Gm} {s t : State} {H H1 : Heap} (h : KN Γ s H) (hv : s.vm.Alike t.vm) (h1 : KN Γ t H1) : KN Γ s H1 := by
  obtain ⟨a1, a2, a3, a4, a5, a6, a7, a8, a9, a10, a11, a12, a13, a14, a15⟩ := h
  obtain ⟨b1, b2, b3, b4, b5, b6, b7, b8, b9, b10, b11, b12, b13, b14, b15⟩ := h1
  have hv2 := hv.symm
  exact ⟨a1, a2, a3, a4, b5.moved hv2, fun k hk => ⟨(b6 k hk).1.moved hv2, (b6 k hk).2.moved hv2⟩, b7.moved hv2, b8.moved hv2, b9.moved hv2, b10.moved hv2, b11.moved hv2, a12, b13, a14, a15⟩
theorem popN_spec : ∀ {n : Nat} {acc st args rest : List AV}, popN n acc st = some (args, rest) → ∃ xs, st = xs ++ rest ∧ args = xs.reverse ++ acc ∧ xs.length = n
  | 0, acc, st, args, rest, h => by cases h; exact ⟨[], rfl, rfl, rfl⟩
  | n + 1, acc, [], args, rest, h => by cases h
  | n + 1, acc, v :: r, args, rest, h => by
    obtain ⟨xs, h1, h2, h3⟩ := popN_spec (n := n) h
    exact ⟨v :: xs, by rw [h1]; rfl, by rw [h2]; simp, by simp [h3]⟩
theorem SR.split {m : Mem} {ad : Nat → Nat → Nat} : ∀ {xs rest : List AV} {sv : List Value}, SR m ad (xs ++ rest) sv → ∃ ws wr, sv = ws ++ wr ∧ SR m ad xs ws ∧ SR m ad rest wr
  | [], rest, sv, h => ⟨[], sv, rfl, trivial, h⟩
  | x :: xs, rest, sv, h => by
    obtain ⟨w, t, rfl, h1, h2⟩ := SR.inv h
    obtain ⟨ws, wr, rfl, h3, h4⟩ := SR.split h2
    exact ⟨w :: ws, wr, rfl, ⟨h1, h3⟩, h4⟩
theorem SR.rev {m : Mem} {ad : Nat → Nat → Nat} : ∀ {xs : List AV} {ws : List Value}, SR m ad xs ws → SR m ad xs.reverse ws.reverse
  | [], [], _ => trivial
  | [], _ :: _, h => h.elim
  | _ :: _, [], h => h.elim
  | x :: xs, w :: ws, h => by
    simp only [List.reverse_cons]
    exact SR.app (SR.rev h.2) ⟨h.1, trivial⟩
theorem lg_len : ∀ (vs : List Value), (lg_sl vs).length = (vs.map fun v => v.category).sum
  | [] => rfl
  | v :: r => by
    have h := lg_len r
    simp only [lg_sl, List.flatMap_cons, List.length_append, List.map_cons, List.sum_cons]
    rw [show (List.flatMap (fun v => if v.category = 2 then [Slot.val v, Slot.second] else [Slot.val v]) r).length = (lg_sl r).length from rfl, h]
    rcases lv_cat v with e | e <;> simp [e]
def VRo (m : Mem) (ad : Nat → Nat → Nat) : Option AV → Option Value → Prop
  | none, none => True
  | some v, some w => VR m ad v w
  | _, _ => False
def PcA (Γ : Gm) (m : Mem) (ad : Nat → Nat → Nat) (ws : List Value) : Array Value → State → Prop := fun v U => v = ws.toArray ∧ KN Γ U U.heap ∧ Rep Γ m ad U.heap
def QcR (Γ : Gm) (m : Mem) (ad : Nat → Nat → Nat) (vo : Option AV) (m2 : Mem) : Array Value → State → Outcome → State → Prop := fun _ _ o t => ∃ (ad1 : Nat → Nat → Nat) (rv : Option Value), o = .returned rv ∧ VRo m2 ad1 vo rv ∧ Ex m ad m2 ad1 ∧ Rep Γ m2 ad1 t.heap ∧ KN Γ t t.heap
def exN (E : Nat) : String := if E = 0 then "java/util/NoSuchElementException" else "WholeFieldsModel$Stop"
def XCR (Γ : Gm) (m : Mem) (ad : Nat → Nat → Nat) (q : Nat × AV) (m2 : Mem) : String → Addr → State → State → Prop := fun En a _ t => En = exN q.1 ∧ ∃ ad1 : Nat → Nat → Nat, Ex m ad m2 ad1 ∧ Rep Γ m2 ad1 t.heap ∧ KN Γ t t.heap ∧ VR m2 ad1 q.2 (.ref a)
def RAt (m2 : Mem) (ad1 : Nat → Nat → Nat) (M pc : Nat) (vo : Option AV) (sv : List Value) : Prop :=
  (∃ x ty, vo = some (vi x) ∧ sv = [.int x] ∧ decode (mB M) pc = .ok (.ireturn, 1) ∧ mRt M = some ty ∧ narrow ty (.int x) = .int x) ∨
  (∃ x, vo = some (vl x) ∧ sv = [.long x] ∧ decode (mB M) pc = .ok (.lreturn, 1) ∧ mRt M = some .long) ∨
  (∃ x w rt, vo = some (.inr (.inr x)) ∧ sv = [w] ∧ VR m2 ad1 (.inr (.inr x)) w ∧ decode (mB M) pc = .ok (.areturn, 1) ∧ mRt M = some rt ∧ ((∃ n, rt = .object n) ∨ ∃ t, rt = .array t)) ∨
  (vo = none ∧ sv = [] ∧ decode (mB M) pc = .ok (.return_, 1) ∧ mRt M = none)
def EndK (Γ : Gm) (M : Nat) (p : Program) (l9 : Launch) (e : Env) (R : Room) (s : State) (mm : MethodId) (args : Array Value) (below : List Frame) (meth : Method) (c9 : Code) (Q : State → Prop) (m : Mem) (ad : Nat → Nat → Nat) (cells slots : Nat) (r : Res9) : Prop := match r.1 with
  | .inl vo => ∀ (ad1 : Nat → Nat → Nat) (H1 : Heap) (locs1 : List Loc) (pc1 : Nat) (ls1 : Array Slot) (sv1 : List Value), Ex m ad r.2 ad1 → Rep Γ r.2 ad1 H1 → KN Γ s H1 → (∀ q ∈ locs1, gB Γ ≤ q.base) → RAt r.2 ad1 M pc1 vo sv1 → W p l9 e R s mm args below meth c9 H1 locs1 (cells + (mC r.2 - mC m)) (slots + (mS r.2 - mS m)) Q (F0 mm pc1 ls1 sv1)
  | .inr q => ∃ (Qc : Array Value → State → Outcome → State → Prop) (XC : String → Addr → State → State → Prop), Q = vx_MQ below Qc XC args s (cells + (mC r.2 - mC m)) (slots + (mS r.2 - mS m)) (gA Γ) ∧ ∀ En a st t, XCR Γ m ad q r.2 En a st t → XC En a st t
/-- a method's body, from its entry, with this outcome -/
def Bod (Γ : Gm) (l9 : Launch) (a : Nat) (av : List AV) (m : Mem) (r : Res9) (d : Nat) : Prop :=
  ∀ (p : Program) (e : Env) (R : Room) (s : State) (mm : MethodId) (args : Array Value) (below : List Frame) (meth : Method) (c9 : Code) (Q : State → Prop) (ad : Nat → Nat → Nat) (cells slots : Nat) (H : Heap) (locs : List Loc) (ls : Array Slot) (sv : List Value), CX a p l9 s mm args meth c9 → SX Γ a s m ad H locs (entL av (mxT a)) ls [] sv → d + 16 ≤ R.frames → 64 * d + 400 ≤ R.locals → cells + (mC r.2 - mC m) ≤ R.cells → slots + (mS r.2 - mS m) ≤ R.slots → EndK Γ a p l9 e R s mm args below meth c9 Q m ad cells slots r → W p l9 e R s mm args below meth c9 H locs cells slots Q (F0 mm 0 ls sv)
abbrev wsA (a : Nat) : List Cond := cdW a :: lw_tbl.filter goodWord
theorem cdW_c {a : Nat} (h : exT a = []) : cdW a = .code (mY a) (mB a) (mxT a) (mRt a) := by unfold cdW; rw [h]
theorem exT_of (a : Nat) : exT a = [] ∨ a = M_WFLaw_stake ∨ a = M_WFModel_book := by
  unfold exT
  split
  · rename_i h; exact Or.inr (Or.inl h)
  · split
    · rename_i h; exact Or.inr (Or.inr h)
    · exact Or.inl rfl
theorem cdW_w {a : Nat} {q : Nat × Nat × Nat × Nat} (h : exT a = [q]) : cdW a = .codeWith (mY a) (mB a) (mxT a) (mRt a) [q] := by unfold cdW; rw [h]
theorem plainAll : (List.range 281).all (fun M => decide ((mY M).cls ≠ "java/lang/invoke/MethodHandle") && decide ((mY M).cls ≠ "java/lang/invoke/VarHandle") && decide (mxT M ≤ 45) && decide ((parseMethodDescriptor (mY M).desc).map (fun d => d.parameters.length) = some (npar M))) = true := by decide +kernel
theorem plainAt {M : Nat} (h : M < 281) : (mY M).cls ≠ "java/lang/invoke/MethodHandle" ∧ (mY M).cls ≠ "java/lang/invoke/VarHandle" ∧ mxT M ≤ 45 ∧ (parseMethodDescriptor (mY M).desc).map (fun d => d.parameters.length) = some (npar M) := by
  have := List.all_eq_true.mp plainAll M (List.mem_range.mpr h)
  simp only [Bool.and_eq_true, decide_eq_true_eq] at this
  exact ⟨this.1.1.1, this.1.1.2, this.1.2, this.2⟩
theorem good_cd (a : Nat) : goodWord (cdW a) = true := by
  unfold cdW
  split <;> rfl
section CALLS
variable {Γ : Gm} {l9 : Launch}
theorem CX_of {a : Nat} (ha : a < 281) (hl : l9.stackTraces = false) {rm : Room} {p : Program} {e : Env} {s s₁ : State} {m : MethodId} {args : Array Value} {below : List Frame} {meth : Method} {c : Code} (B : BodyLoose p l9 (mY a) (headSpec (wsA a) rm) (mB a) (mxT a) (mRt a) e s m args below meth c s₁) (hml : c.maxLocals = mxT a) : CX a p l9 s m args meth c := by
  have hts := atoms_spec (ws := wsA a) B.pre
  have hown : s.vm.findClass (mY a).cls = some m.cls := findClass_of_methodNamed B.named
  rw [mO_cls a ha] at hown
  refine ⟨B.exec, B.bytes, hml, B.returns, hown, fun w hw hg => hts w (List.mem_cons_of_mem _ (List.mem_filter.mpr ⟨hw, hg⟩)), B.notSynchronized, (name_of_methodNamed B.named B.method).1, ?_, hl⟩
  have h0 := hts _ List.mem_cons_self
  have key : ∀ q, exT a = [q] → c.exceptionTable.toList = tableOf (exT a) := by
    intro q hq
    rw [cdW_w hq] at h0
    rw [hq]
    exact vx_table (x := mY a) B h0
  rcases exT_of a with h | rfl | rfl
  · rw [cdW_c h] at h0
    obtain ⟨meth9, c9, h1, h2, -, -, -, -, h7, -⟩ := Cond.code_spec B.named h0
    cases Option.some.inj (h1.symm.trans B.method)
    cases Option.some.inj (h2.symm.trans (Stand.of_body B).code)
    rw [h, Array.isEmpty_iff.mp h7]; rfl
  · exact key _ rfl
  · exact key _ rfl
/-- the entry -/
theorem SX_entry {a : Nat} {m : Mem} {ad : Nat → Nat → Nat} {s : State} {av : List AV} {ws : List Value} (hS : SR m ad av ws) (hc : cats av ≤ mxT a) (hR : Rep Γ m ad s.heap) (hK : KN Γ s s.heap) : ∃ ls, (∀ mm : MethodId, entryFrame mm ws.toArray (mxT a) = F0 mm 0 ls []) ∧ SX Γ a s m ad s.heap [] (entL av (mxT a)) ls [] [] := by
  have hl := lv_entry ws (n := mxT a) (by rw [lg_len, hS.ct]; exact hc)
  exact ⟨_, fun mm => lg_entry_eq mm ws (mxT a), hR, hK, fun q hq => (by cases hq), ⟨len_entL _ _, _, hl, fun k v hk => by
    obtain ⟨rv, h1, h2⟩ := entL_at _ _ _ 0 hS k v hk
    rw [Nat.zero_add] at h1
    exact ⟨rv, h1, h2⟩⟩, trivial⟩
theorem W_ret {a : Nat} {m m2 : Mem} {ad : Nat → Nat → Nat} {vo : Option AV} {p : Program} {e : Env} {R : Room} {s : State} {mm : MethodId} {args : Array Value} {below : List Frame} {meth : Method} {c9 : Code} {cells slots : Nat} (C : CX a p l9 s mm args meth c9) : EndK Γ a p l9 e R s mm args below meth c9 (MQ below (QcR Γ m ad vo m2) args s (cells + (mC m2 - mC m)) (slots + (mS m2 - mS m)) (gA Γ)) m ad cells slots (.inl vo, m2) := by
  intro ad1 H1 locs1 pc1 ls1 sv1 hx hR hK hlo hA
  have hr := C.2.2.2.1
  have hlk : meth.locks = false := C.2.2.2.2.2.2.1
  have fin : ∀ (rv : Option Value), VRo m2 ad1 vo rv → ∀ t : State, t.heap = H1 → s.WarmedH t.vm → QcR Γ m ad vo m2 args s (.returned rv) t := fun rv hv t ht hW => ⟨ad1, rv, rfl, hv, hx, by rw [ht]; exact hR, by rw [ht]; exact hK.moved hW⟩
  rcases hA with ⟨x, ty, rfl, rfl, hd, hty, hn⟩ | ⟨x, rfl, rfl, hd, hty⟩ | ⟨x, w, rt, rfl, rfl, hv, hd, hty, hrt⟩ | ⟨rfl, rfl, hd, hty⟩
  · exact W.zret C.ex C.by (hr.trans hty) hn (fin (some (.int x)) rfl) hlo hd hlk
  · exact W.lret C.ex C.by (hr.trans hty) (fin (some (.long x)) rfl) hlo hd hlk
  · exact W.aret C.ex C.by (hr.trans hty) hrt hv.rq (fin (some w) hv) hlo hd hlk
  · exact W.vret C.ex C.by (hr.trans hty) (fin none trivial) hlo hd hlk
/-- a method that returns, as a contract -/
theorem xMet {a d : Nat} {av : List AV} {ws : List Value} {m m2 : Mem} {ad : Nat → Nat → Nat} {vo : Option AV} (ha : a < 281) (hpl : plainName (mY a).cls = true) (hl : l9.stackTraces = false) (hb : Bod Γ l9 a av m (.inl vo, m2) d) (hS : SR m ad av ws) (hc : cats av ≤ mxT a) : Met l9 (mY a) (wsA a) (rmD d (mC m2 - mC m) (mS m2 - mS m)) (PcA Γ m ad ws) (QcR Γ m ad vo m2) (mC m2 - mC m) (mS m2 - mS m) (gA Γ) := by
  have body : ∀ (p : Program) (e : Env) (s : State) (mm : MethodId) (args : Array Value) (below : List Frame) (meth : Method) (c : Code) (s₁ : State), BodyLoose p l9 (mY a) (headSpec (wsA a) (rmD d (mC m2 - mC m) (mS m2 - mS m))) (mB a) (mxT a) (mRt a) e s mm args below meth c s₁ → c.maxLocals = mxT a → PcA Γ m ad ws args s →
      W p l9 e (headSpec (wsA a) (rmD d (mC m2 - mC m) (mS m2 - mS m))).room s mm args below meth c s.heap [] 0 0 (MQ below (QcR Γ m ad vo m2) args s (mC m2 - mC m) (mS m2 - mS m) (gA Γ)) (entryFrame mm args (mxT a)) := by
    intro p e s mm args below meth c s₁ B hml hP
    obtain ⟨rfl, hK, hR⟩ := hP
    have C := CX_of ha hl B hml
    obtain ⟨ls, h1, h2⟩ := SX_entry (a := a) hS hc hR hK
    rw [h1]
    have he := W_ret (Γ := Γ) (m := m) (m2 := m2) (ad := ad) (vo := vo) (e := e) (R := rmD d (mC m2 - mC m) (mS m2 - mS m)) (below := below) (cells := 0) (slots := 0) C
    rw [Nat.zero_add, Nat.zero_add] at he
    exact hb p e _ s mm _ below meth c _ ad 0 0 s.heap [] ls [] C h2 (Nat.le_refl _) (Nat.le_refl _) (Nat.le_of_eq (Nat.zero_add _)) (Nat.le_of_eq (Nat.zero_add _)) he
  rcases exT_of a with h | rfl | rfl
  · exact Met.ofW hpl (by rw [← cdW_c h]) body
  · exact va_MetW hpl (cc := mB M_WFLaw_stake) (maxL := mxT M_WFLaw_stake) (ret := mRt M_WFLaw_stake) (hh := [(0, 10, 13, 13)]) rfl body
  · exact va_MetW hpl (cc := mB M_WFModel_book) (maxL := mxT M_WFModel_book) (ret := mRt M_WFModel_book) (hh := [(54, 62, 65, 13)]) rfl body
/-- a method that throws, as a contract -/
theorem xMetX {a d : Nat} {av : List AV} {ws : List Value} {m m2 : Mem} {ad : Nat → Nat → Nat} {q : Nat × AV} (ha : a < 281) (hpl : plainName (mY a).cls = true) (hl : l9.stackTraces = false) (hex : exT a = []) (hb : Bod Γ l9 a av m (.inr q, m2) d) (hS : SR m ad av ws) (hc : cats av ≤ mxT a) : vx_Met l9 (mY a) (wsA a) (rmD d (mC m2 - mC m) (mS m2 - mS m)) (PcA Γ m ad ws) (fun _ _ _ _ => False) (XCR Γ m ad q m2) (mC m2 - mC m) (mS m2 - mS m) (gA Γ) := by
  refine vx_ofW hpl (cc := mB a) (maxL := mxT a) (ret := mRt a) (by rw [← cdW_c hex]) ?_
  intro p e s mm args below meth c s₁ B hml _ hP
  obtain ⟨rfl, hK, hR⟩ := hP
  have C := CX_of ha hl B hml
  obtain ⟨ls, h1, h2⟩ := SX_entry (a := a) hS hc hR hK
  rw [h1]
  exact hb p e _ s mm _ below meth c _ ad 0 0 s.heap [] ls [] C h2 (Nat.le_refl _) (Nat.le_refl _) (Nat.le_of_eq (Nat.zero_add _)) (Nat.le_of_eq (Nat.zero_add _)) ⟨fun _ _ _ _ => False, XCR Γ m ad q m2, by rw [Nat.zero_add, Nat.zero_add], fun _ _ _ _ h9 => h9⟩
theorem PcA_blind {m : Mem} {ad : Nat → Nat → Nat} {ws : List Value} : FrameBlind (PcA Γ m ad ws) := fun a U g mk h => ⟨h.1, h.2.1.same rfl, h.2.2⟩
end CALLS
