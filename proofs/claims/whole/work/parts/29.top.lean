/-! The law's top: what is known at its entry; the law out of a run of the evaluator -/
def R_law : String := "WholeFieldsLaw"
def lw_P (b : Addr) (xs : List Int32) (args : Array Value) (s : State) : Prop := args = #[.ref b] ∧ s.IntsAt b xs ∧ xs.length ≤ 3072 ∧ (Jvm.Cond.and given_1 narrow_1).before args s = true
def lw_Q (_ : Array Value) (s : State) (o : Outcome) (t : State) : Prop := o = .returned (some (.int 1)) ∧ Framed s o t [] 601024 7293034
def lw_Z (below : List Frame) (a : Array Value) (s : State) : State → Prop := fun t => ∃ o, t.status = .running ∧ Ended t below o ∧ lw_Q a s o t
theorem lw_ret {p : Program} {l : Launch} {e : Env} {s : State} {m : MethodId} {below : List Frame} {meth : Method} {c : Code} {b : Nat} (hx : p.tables.exec = Jvm.exec) (hb : c.code = code) (hr : meth.sig.returnType = ret) (hlocks : meth.locks = false) {pc : Nat} {H : Heap} {ls : Array Slot} (hdg : decode code pc = .ok (.ireturn, 1)) : W p l e room_1 s m #[Value.ref b] below meth c H [] 601024 7293034 (lw_Z below #[Value.ref b] s) (F0 m pc ls [.int 1]) := by
  intro T hT X
  obtain ⟨fs, hret, hrun, hended, hW, hframe⟩ := X.leave (v := some (.int 1)) (hlocks := hlocks) (fun h => by rw [hr] at h; cases h)
  have hmeth' : T.vm.method? m = some meth := X.method'
  refine ⟨T.setFrames fs, ?_, .returned (some (.int 1)), hrun, hended, rfl, ⟨_, rfl⟩, hW, hframe⟩
  jvm_step X.here [X.here.top, hx, hb, hdg, hmeth', hr, ret, narrow_b1]
  (try refine ⟨rfl, ?_⟩); (try refine ⟨rfl, ?_⟩)
  first | (intro acts; rw [hret _ acts rfl rfl rfl]) | rw [hret _ _ rfl rfl rfl]
  exact Steps.refl _
def lw_At (p : Program) (s : State) (m : MethodId) (meth : Method) (c : Code) (b L : Nat) (xs : Nat → Int32) : Prop :=
  p.tables.exec = Jvm.exec ∧ c.code = code ∧ meth.sig.returnType = ret ∧ c.maxLocals = 7 ∧ s.vm.findClass R_law = some m.cls ∧ (∀ w ∈ lw_tbl, w.before #[Value.ref b] s = true) ∧ va_X b L xs s s.heap ∧ b < s.heap.size ∧ meth.locks = false ∧ (Jvm.Cond.and given_1 narrow_1).before #[Value.ref b] s = true
def tmS (i : Nat) : Term := nth9 (strL.map (fun q => Term.string (onm q.1) q.2.1)) i (.int 0)
def lnS (i : Nat) : Nat := (strT.map List.length).getD i 0
def sC (i : Nat) : List Cond := [.exactly (tmS i) "java/lang/String", .eq (.field (tmS i) "java/lang/String" "coder" "B") (.int 0), .arrayOf (.field (tmS i) "java/lang/String" "value" "[B") .byte, .eq (.length (.field (tmS i) "java/lang/String" "value" "[B")) (.int (Int32.ofNat (lnS i)))] ++ (List.range (lnS i)).map (fun j => .eq (.elem (.field (tmS i) "java/lang/String" "value" "[B") (.int (Int32.ofNat j))) (.int ((strT.getD i []).getD j 0)))
def wC (k : Nat) : List Cond := [.arrayOf (.static "WholeFields$Walker" (wyN k) "[I") .int, .eq (.length (.static "WholeFields$Walker" (wyN k) "[I")) (.int 4)] ++ (List.range 4).map (fun j => .eq (.elem (.static "WholeFields$Walker" (wyN k) "[I") (.int (Int32.ofNat j))) (.int (roT (90 + k) 0 j)))
def oC : List Cond := [.isRef (.static "java/lang/Throwable" "UNASSIGNED_STACK" "[Ljava/lang/StackTraceElement;"), .isRef (.static "java/lang/Throwable" "SUPPRESSED_SENTINEL" "Ljava/util/List;"), .eq (.static "java/lang/String" "COMPACT_STRINGS" "Z") (.int 1), .isRef (.static "jdk/internal/util/Preconditions" "SIOOBE_FORMATTER" "Ljava/util/function/BiFunction;")]
def prS : List (Nat × Nat) := [(0, 1), (0, 2), (0, 3), (0, 4), (0, 5), (0, 6), (0, 7), (0, 8), (1, 2), (1, 3), (1, 4), (1, 5), (1, 6), (1, 7), (1, 8), (2, 3), (2, 4), (2, 5), (2, 6), (2, 7), (2, 8), (3, 4), (3, 5), (3, 6), (3, 7), (3, 8), (4, 5), (4, 6), (4, 7), (4, 8), (5, 6), (5, 7), (5, 8), (6, 7), (6, 8), (7, 8)]
def nC : List Cond := prS.map (fun q => .not (.eq (tmS q.1) (tmS q.2)))
abbrev C0w : Cond := Jvm.Cond.and given_1 narrow_1
def plW : List Nat := [69, 70, 71, 72, 73, 74, 75, 76, 77, 78, 79, 80, 81, 82, 83, 84, 85, 86, 87, 88, 89, 90, 91, 92, 93, 94, 95, 96, 97, 98, 99, 100, 101, 102, 103, 105, 106, 107, 108, 109, 110, 111, 112, 113, 116, 117, 118, 119, 120, 121, 122, 123, 127, 128, 129, 130, 131, 132, 133, 138, 139, 140, 141, 142, 143, 144, 150, 151, 152, 153, 154, 155, 156, 157, 158, 165, 166, 167, 168, 169, 170, 171, 172, 173, 181, 182, 183, 184, 185, 186, 187, 188]
  ++ [5, 6, 7, 8, 9, 10, 12, 13, 14, 15, 16, 17, 19, 20, 21, 22, 23, 24, 26, 27, 28, 29, 30, 31] ++ [104, 114, 124, 134, 145, 159, 174, 189, 115, 125, 135, 146, 160, 175, 190, 126, 136, 147, 161, 176, 191, 137, 148, 162, 177, 192, 149, 163, 178, 193, 164, 179, 194, 180, 195, 196] ++ [32, 33, 34, 35]
def allC : List Cond := (List.range 9).flatMap sC ++ (List.range 4).flatMap wC ++ nC ++ oC
theorem allC_p : plW.map (fun k => (flatC C0w)[k]?) = allC.map some := by decide +kernel
theorem allC_b {args : Array Value} {s : State} (h : C0w.before args s = true) : ∀ w ∈ allC, w.before args s = true := by
  intro w hw
  have h1 : some w ∈ plW.map (fun k => (flatC C0w)[k]?) := by rw [allC_p]; exact List.mem_map.mpr ⟨w, hw, rfl⟩
  obtain ⟨z, -, hz⟩ := List.mem_map.mp h1
  exact flat_of_before _ h w (List.mem_of_getElem? hz)
theorem sC_b {args : Array Value} {s : State} (h : C0w.before args s = true) {i : Nat} (hi : i < 9) : ∀ w ∈ sC i, w.before args s = true := fun w hw => allC_b h w (List.mem_append_left _ (List.mem_append_left _ (List.mem_append_left _ (List.mem_flatMap.mpr ⟨i, List.mem_range.mpr hi, hw⟩))))
theorem wC_b {args : Array Value} {s : State} (h : C0w.before args s = true) {i : Nat} (hi : i < 4) : ∀ w ∈ wC i, w.before args s = true := fun w hw => allC_b h w (List.mem_append_left _ (List.mem_append_left _ (List.mem_append_right _ (List.mem_flatMap.mpr ⟨i, List.mem_range.mpr hi, hw⟩))))
theorem nC_b {args : Array Value} {s : State} (h : C0w.before args s = true) {i j : Nat} (hij : (i, j) ∈ prS) : (Cond.not (Cond.eq (tmS i) (tmS j))).before args s = true := allC_b h _ (List.mem_append_left _ (List.mem_append_right _ (List.mem_map.mpr ⟨(i, j), hij, rfl⟩)))
theorem oC_b {args : Array Value} {s : State} (h : C0w.before args s = true) : ∀ w ∈ oC, w.before args s = true := fun w hw => allC_b h w (List.mem_append_right _ hw)
theorem pr_all : (List.range 9).all (fun i => (List.range 9).all (fun j => decide (i = j) || decide ((i, j) ∈ prS) || decide ((j, i) ∈ prS))) = true := by decide +kernel
theorem pr_at {i j : Nat} (hi : i < 9) (hj : j < 9) (h : i ≠ j) : (i, j) ∈ prS ∨ (j, i) ∈ prS := by
  have := List.all_eq_true.mp (List.all_eq_true.mp pr_all i (List.mem_range.mpr hi)) j (List.mem_range.mpr hj)
  simp only [Bool.or_eq_true, decide_eq_true_eq] at this
  rcases this with (g | g) | g
  · exact absurd g h
  · exact Or.inl g
  · exact Or.inr g
theorem len_all : (List.range 9).all (fun i => decide ((strT.map List.length).getD i 0 < 2 ^ 31)) = true := by decide +kernel
/-- the words of the statics and of the nest -/
theorem tw_st : ∀ k, k < 4 → Cond.laysStatic "WholeFields$Walker" (wyN k) "[I" ∈ lw_tbl := by
  intro k hk
  match k, hk with
  | 0, _ => exact atP_in (q := (5, 138)) (by decide +kernel)
  | 1, _ => exact atP_in (q := (5, 140)) (by decide +kernel)
  | 2, _ => exact atP_in (q := (5, 146)) (by decide +kernel)
  | 3, _ => exact atP_in (q := (5, 148)) (by decide +kernel)
theorem tw_in : Cond.initialized "WholeFields$Walker" ∈ lw_tbl ∧ Cond.initialized "java/lang/Throwable" ∈ lw_tbl ∧ Cond.initialized "java/lang/String" ∈ lw_tbl ∧ Cond.initialized "jdk/internal/util/Preconditions" ∈ lw_tbl := ⟨atP_in (q := (1, 10)) (by decide +kernel), atP_in (q := (1, 15)) (by decide +kernel), atP_in (q := (1, 21)) (by decide +kernel), atP_in (q := (1, 23)) (by decide +kernel)⟩
theorem tw_ls : Cond.laysStatic "java/lang/Throwable" "UNASSIGNED_STACK" "[Ljava/lang/StackTraceElement;" ∈ lw_tbl ∧ Cond.laysStatic "java/lang/Throwable" "SUPPRESSED_SENTINEL" "Ljava/util/List;" ∈ lw_tbl ∧ Cond.laysStatic "java/lang/String" "COMPACT_STRINGS" "Z" ∈ lw_tbl ∧ Cond.laysStatic "jdk/internal/util/Preconditions" "SIOOBE_FORMATTER" "Ljava/util/function/BiFunction;" ∈ lw_tbl := ⟨atP_in (q := (6, 61)) (by decide +kernel), atP_in (q := (6, 63)) (by decide +kernel), atP_in (q := (7, 140)) (by decide +kernel), atP_in (q := (7, 156)) (by decide +kernel)⟩
theorem tw_nf : [(6, 131), (6, 132), (7, 88), (7, 90), (7, 92), (7, 94)].map atP = nwF.map (fun q => some (cfw q)) := by decide +kernel
theorem tw_nm : [(1, 45), (1, 150), (1, 155), (7, 83)].map atP = nwM.map (fun q => some (cmw q)) := by decide +kernel
theorem tw_sr : [(6, 74), (7, 123), (7, 187), (7, 192), (7, 193), (7, 194), (7, 195), (7, 196), (7, 197)].map atP = strL.map (fun q => some (Cond.stringRef (onm q.1) q.2.1 (nth9 strX q.2.2 ""))) := by decide +kernel
theorem tw_cs : Cond.castable "WholeFieldsModel$Stop" "WholeFieldsModel$Stop" ∈ lw_tbl := atP_in (q := (6, 112)) (by decide +kernel)
theorem tw_ns : Cond.castable "java/util/NoSuchElementException" "java/util/NoSuchElementException" ∈ lw_tbl ∧ Cond.declares (Bundle.initS "java/lang/RuntimeException") ∈ lw_tbl ∧ Cond.declares (Bundle.initS "java/lang/Exception") ∈ lw_tbl ∧ Cond.declares (Bundle.initS Bundle.tN) ∈ lw_tbl := ⟨atP_in (q := (6, 36)) (by decide +kernel), atP_in (q := (6, 38)) (by decide +kernel), atP_in (q := (6, 40)) (by decide +kernel), atP_in (q := (6, 42)) (by decide +kernel)⟩
theorem of_pl {α : Type} {P : List (Nat × Nat)} {Ls : List α} {f : α → Cond} (h : P.map atP = Ls.map (fun q => some (f q))) {q : α} (hq : q ∈ Ls) : f q ∈ lw_tbl := by
  have h1 : some (f q) ∈ P.map atP := by rw [h]; exact List.mem_map.mpr ⟨q, hq, rfl⟩
  obtain ⟨z, -, hz⟩ := List.mem_map.mp h1
  exact atP_in hz
theorem sL_i : strL.all (fun q => decide (q.2.2 < 9) && decide (tmS q.2.2 = Term.string (onm q.1) q.2.1)) = true := by decide +kernel
/-- the memory at the law's entry -/
def m00 (L : Nat) (xs : Nat → Int32) : Mem := (fun k _ i => if k = 99 then xs i else 0, fun _ _ _ => 0, RL 1 0 rz rz, eKn L, 0, 0)
def gX0 (adK adV : Nat → Nat) (wy : Nat → Nat) (b : Nat) : Nat → Nat → Nat := fun k j => if k = 80 then adK j else if k = 81 then adV j else if k = 99 then b else wy (k - 90)
theorem eKn_lt {L k : Nat} (h : k < 80) : eKn L k = 0 := by
  unfold eKn
  rw [if_neg (by omega), if_neg (by omega), if_neg (by omega)]
set_option maxHeartbeats 1000000 in
theorem top_known {p : Program} {s : State} {m : MethodId} {meth : Method} {c : Code} {b L : Nat} {xs : Nat → Int32} (C0 : lw_At p s m meth c b L xs) : ∃ (G : va_G) (cA : Nat → ClassId) (X : Nat → Nat → Nat), X 99 0 = b ∧ KN (G, cA, s.heap.size, X, L, xs) s s.heap := by
  obtain ⟨hx, hb, hr, hml, hown, hts, hX, hbl, hlocks, hgv⟩ := id C0
  have hA : ∀ a : Nat, a < s.heap.size → ¬ (s.heap.size ≤ a) := fun a h => Nat.not_le.mpr h
  obtain ⟨adK, adV, hS, hev⟩ := vk_Sof (args := #[Value.ref b]) (s := s) (N := 9) (tm := tmS) (len := strT.map List.length) (byt := strT) (A := fun q => s.heap.size ≤ q) (fun i hi => of_decide_eq_true (List.all_eq_true.mp len_all i (List.mem_range.mpr hi)))
    (fun i hi => sC_b hgv hi _ (by simp [sC])) (fun i hi => sC_b hgv hi _ (by simp [sC])) (fun i hi => sC_b hgv hi _ (by simp [sC])) (fun i hi => sC_b hgv hi _ (by simp [sC, lnS]))
    (fun i hi j hj => sC_b hgv hi _ (List.mem_append_right _ (List.mem_map.mpr ⟨j, List.mem_range.mpr hj, rfl⟩)))
    (fun i j hi hj hij => (pr_at hi hj hij).imp (fun g => nC_b hgv g) (fun g => nC_b hgv g)) hA
  have hw0 : ∀ k : Nat, ∃ t : Nat, k < 4 → (Term.static "WholeFields$Walker" (wyN k) "[I").eval #[Value.ref b] s none [] s = some (.ref t) ∧ va_T .int t 4 (fun j => .int (roT (90 + k) 0 j)) (fun q => s.heap.size ≤ q) s s.heap := by
    intro k
    by_cases hk : k < 4
    · obtain ⟨t, h1, h2⟩ := va_Tof (args := #[Value.ref b]) (s := s) (tm := Term.static "WholeFields$Walker" (wyN k) "[I") (ty := .int) (N := 4) (f := fun j => .int (roT (90 + k) 0 j)) (A := fun q => s.heap.size ≤ q) (by decide) (wC_b hgv hk _ (by simp [wC])) (va_eqt (wC_b hgv hk _ (by simp [wC]))) (fun j hj => va_eqt (wC_b hgv hk _ (List.mem_append_right _ (List.mem_map.mpr ⟨j, List.mem_range.mpr hj, rfl⟩)))) hA
      exact ⟨t, fun _ => ⟨h1, h2⟩⟩
    · exact ⟨0, fun h => absurd h hk⟩
  obtain ⟨wy, hwy⟩ := Classical.axiomOfChoice hw0
  have hc0 : ∀ k : Nat, ∃ q : ClassId × (Nat → Nat), k < 15 → u_Kn s (clT k).1 (clT k).2.1 (clT k).2.2 q.1 q.2 := by
    intro k
    by_cases hk : k < 15
    · obtain ⟨cC, iS, h⟩ := u_known (ws := lw_tbl.filter goodWord) (args := #[Value.ref b]) (s := s) (n := (clT k).2.2) (fun w hw => hts w (List.mem_filter.mp hw).1) (cls_at hk).1 (hts _ (cls_at hk).2.1)
      exact ⟨(cC, iS), fun _ => h⟩
    · exact ⟨(0, fun _ => 0), fun h => absurd h hk⟩
  obtain ⟨cl, hcl⟩ := Classical.axiomOfChoice hc0
  have ha0 : ∀ t : Nat, ∃ cA : ClassId, t < 4 → ArrOfT s cA (tyA t) ∧ va_RA s cA (tyA t) := by
    intro t
    by_cases ht : t < 4
    · obtain ⟨cA, kA, comp, f1, f2, f3⟩ := Cond.arrayClass_spec (hts _ (lk_ar t ht))
      refine ⟨cA, fun _ => ⟨fun N z => ⟨(fun k h => by cases h), kA, f2, comp, f3⟩, ?_⟩⟩
      match t, ht, f1 with
      | 0, _, f1 => exact f1
      | 1, _, f1 => exact f1
      | 2, _, f1 => exact f1
      | 3, _, f1 => exact f1
    · exact ⟨0, fun h => absurd h ht⟩
  obtain ⟨cA, hcA⟩ := Classical.axiomOfChoice ha0
  refine ⟨(fun k => (cl k).1, fun k => (cl k).2), cA, gX0 adK adV wy b, rfl, ?_⟩
  refine ⟨⟨fun k q hq => ?_, fun k q hq => ?_⟩, fun q hq => ?_, fun q hq => ?_, fun q hq => ?_, hS, fun k hk => ?_, ?_, ?_, ?_, ?_, hX, hbl, Nat.le_refl _, ?_, ?_⟩
  · have hk : k < 15 := (List.getElem?_eq_some_iff.mp hq).1
    rw [vwC_at hk] at hq
    cases hq
    exact hcl k hk
  · match k, hq with
    | 0, hq => cases hq; exact hcA 0 (by omega)
    | 1, hq => cases hq; exact hcA 1 (by omega)
    | 2, hq => cases hq; exact hcA 2 (by omega)
    | 3, hq => cases hq; exact hcA 3 (by omega)
    | k + 4, hq => cases hq
  · exact va_Nw.of rfl (hts _ (of_pl tw_nf hq))
  · exact va_Nw.of rfl (hts _ (of_pl tw_nm hq))
  · have h9 := List.all_eq_true.mp sL_i q hq
    simp only [Bool.and_eq_true, decide_eq_true_eq] at h9
    have h8 := hev q.2.2 h9.1
    rw [h9.2] at h8
    have h7 := hts _ (of_pl (f := fun q => Cond.stringRef (onm q.1) q.2.1 (nth9 strX q.2.2 "")) tw_sr hq)
    exact ⟨h7, h8⟩
  · obtain ⟨h1, h2⟩ := hwy k hk
    have e : gX0 adK adV wy b (90 + k) 0 = wy k := by
      unfold gX0
      rw [if_neg (by omega), if_neg (by omega), if_neg (by omega), Nat.add_sub_cancel_left]
    refine ⟨?_, ?_⟩
    · show va_Z "WholeFields$Walker" (wyN k) "[I" (.ref (gX0 adK adV wy b (90 + k) 0)) _ s s.heap
      rw [e]
      exact va_Zof (hts _ (tw_st k hk)) (hts _ tw_in.1) h1 hA
    · show va_T .int (gX0 adK adV wy b (90 + k) 0) 4 _ _ s s.heap
      rw [e]
      exact h2
  · exact vx_Zqof (hts _ tw_ls.1) (hts _ tw_in.2.1) (oC_b hgv _ (by simp [oC, Bundle.tN, Bundle.steD])) hA
  · exact vx_Zqof (hts _ tw_ls.2.1) (hts _ tw_in.2.1) (oC_b hgv _ (by simp [oC, Bundle.tN, Bundle.listD])) hA
  · exact va_Zqof (hts _ tw_ls.2.2.2) (hts _ tw_in.2.2.2) (oC_b hgv _ (by simp [oC])) hA
  · exact va_Zof (hts _ tw_ls.2.2.1) (hts _ tw_in.2.2.1) (va_eqt (oC_b hgv _ (by simp [oC]))) hA
  · exact ⟨va_Nw.of rfl (hts _ tw_ns.1), va_Nw.of rfl (hts _ tw_ns.2.1), va_Nw.of rfl (hts _ tw_ns.2.2.1), va_Nw.of rfl (hts _ tw_ns.2.2.2)⟩
  · exact va_Nw.of rfl (hts _ tw_cs)
/-- what is left: the evaluator's run of the law, over every script -/
def LawRun : Prop := ∀ (L : Nat) (xs : Nat → Int32), L ≤ 3072 → ∃ (n : Nat) (m2 : Mem), ev9 n 1300 0 0 (entL [vr 99 0] 7) [] (m00 L xs) = some (.inl (some (vi 1)), m2) ∧ mC m2 ≤ 601024 ∧ mS m2 ≤ 7293034
set_option maxRecDepth 20000 in
theorem top_start {p : Program} {e : Env} {s : State} {m : MethodId} {below : List Frame} {meth : Method} {c : Code} (l : Launch) (hl : l.stackTraces = false) (hrun : LawRun) {b L : Nat} {xs : Nat → Int32} (hL : L ≤ 3072) (C0 : lw_At p s m meth c b L xs) (hnm : meth.name = (mY 0).name) (htab : c.exceptionTable.toList = []) : W p l e room_1 s m #[Value.ref b] below meth c s.heap [] 0 0 (lw_Z below #[Value.ref b] s) (entryFrame m ([Value.ref b] : List Value).toArray 7) := by
  obtain ⟨hx, hb, hr, hml, hown, hts, hX, hbl, hlocks, hgv⟩ := id C0
  obtain ⟨G, cA, X, hXb, hK⟩ := top_known C0
  obtain ⟨n, m2, hev, hmC, hmS⟩ := hrun L xs hL
  have C : CX 0 p l s m #[Value.ref b] meth c := ⟨hx, hb, hml, hr, hown, fun w hw _ => hts w hw, hlocks, hnm, by rw [htab]; rfl, hl⟩
  have hR : Rep (G, cA, s.heap.size, X, L, xs) (m00 L xs) X s.heap := by
    refine ⟨fun k j hk hj => ?_, fun k j hk hk2 hj => ?_, fun k j hk hj => ?_, fun k j k2 j2 hk hk2 hj hj2 _ => ?_, fun k j hk => rfl, fun k hk => rfl, fun i hi => rfl⟩
    · replace hj : j < eKn L k := hj
      rw [eKn_lt (by omega)] at hj; omega
    · replace hj : j < eKn L k := hj
      rw [eKn_lt (by omega)] at hj; omega
    · replace hj : j < eKn L k := hj
      rw [eKn_lt (by omega)] at hj; omega
    · replace hj : j < eKn L k := hj
      rw [eKn_lt (by omega)] at hj; omega
  have hSr : SR (m00 L xs) X [vr 99 0] [Value.ref b] := by
    refine ⟨⟨by rw [← hXb], ?_⟩, trivial⟩
    show 0 < eKn L 99
    unfold eKn
    rw [if_neg (by omega), if_neg (by omega), if_pos (by omega)]
    omega
  obtain ⟨ls, h1, h2⟩ := SX_entry (Γ := (G, cA, s.heap.size, X, L, xs)) (a := 0) hSr (by decide) hR hK
  have h3 : entryFrame m ([Value.ref b] : List Value).toArray 7 = F0 m 0 ls [] := h1 m
  rw [h3]
  have z1 : mC m2 - mC (m00 L xs) ≤ 601024 := Nat.le_trans (Nat.sub_le _ _) hmC
  have z2 : mS m2 - mS (m00 L xs) ≤ 7293034 := Nat.le_trans (Nat.sub_le _ _) hmS
  refine sound n 1300 0 0 _ _ _ _ hev p e room_1 s m _ below meth c _ X 0 0 s.heap [] ls [] C h2 (by decide) (by decide) (by rw [Nat.zero_add]; exact z1) (by rw [Nat.zero_add]; exact z2) ?_
  intro ad1 H1 locs1 pc1 ls1 sv1 g1 g2 g3 g4 g5
  refine va_forget g4 (W.widen (k := 601024) (n := 7293034) (by rw [Nat.zero_add]; exact z1) (by rw [Nat.zero_add]; exact z2) ?_)
  rcases g5 with ⟨x, ty, q1, rfl, q3, -, -⟩ | ⟨x, q1, -⟩ | ⟨x, w, rt, q1, -⟩ | ⟨q1, -⟩
  · cases q1
    exact lw_ret hx hb hr hlocks q3
  · cases q1
  · cases q1
  · cases q1
