/-! Ends, calls, throws; the theorem -/
set_option maxRecDepth 20000 in
theorem rm_le {z d d1 L : Nat} (h : z ≤ 45) (hd : d = d1 + 1) (hl : 64 * d + 400 ≤ L) : 8 + (z + 11) + (64 * d1 + 400) ≤ L := by omega
theorem on_all : (List.range 15).all (fun k => decide (onm k = (clT k).1)) = true := by decide +kernel
theorem on_cl {k : Nat} (h : k < 15) : onm k = (clT k).1 := of_decide_eq_true (List.all_eq_true.mp on_all k (List.mem_range.mpr h))
theorem init_all : (List.range 281).all (fun a => decide ((mY a).name ≠ "<init>") || decide (mRt a = none)) = true := by decide +kernel
theorem init_void {a : Nat} (h : a < 281) (hn : (mY a).name = "<init>") : mRt a = none := by
  have h2 := List.all_eq_true.mp init_all a (List.mem_range.mpr h)
  rcases Bool.or_eq_true_iff.mp h2 with h3 | h3
  · exact absurd hn (of_decide_eq_true h3)
  · exact of_decide_eq_true h3
section MAIN
variable {Γ : Gm} {M : Nat} {p : Program} {l9 : Launch} {e : Env} {R : Room} {s : State} {mm : MethodId} {args : Array Value} {below : List Frame} {meth : Method} {c9 : Code} {Q : State → Prop} {m m1 m2 : Mem} {ad : Nat → Nat → Nat} {cells slots pc pc1 : Nat} {l l1 : Loc9} {st s1 : List AV} {H : Heap} {locs : List Loc} {ls : Array Slot} {sv : List Value}
theorem good_w {w : Cond} (h : w ∈ lw_tbl) (hg : goodWord w = true) : w ∈ lw_tbl.filter goodWord ∧ ((w.onTables && w.keeps) = true ∨ ∃ ty, w = .arrayClass ty) := ⟨List.mem_filter.mpr ⟨h, hg⟩, good_of_word hg⟩
theorem good_A {a : Nat} (h1 : 0 < a) (h2 : a < 281) : GoodIn (lw_tbl.filter goodWord) (wsA a) := by
  intro w hw
  rcases List.mem_cons.mp hw with rfl | hw
  · exact good_w (cw_at h1 h2) (good_cd a)
  · exact good_w (List.mem_filter.mp hw).1 (List.mem_filter.mp hw).2
theorem good_V {o i a k : Nat} (hk : k = 0 ∨ k = 4) (hw : hasM o i a k = true) (h1 : 0 < a) (h2 : a < 281) : GoodIn (lw_tbl.filter goodWord) (wsV (onm o) i (mY a).cls (mY a) (wsA a)) := by
  have h := hasM_w hw
  have e : mlW (o, i, a, k) = [.methodLink (onm o) i (mY a), .instanceMethod (mY a), .selects (mY a).cls (mY a) (mY a), .initialized (mY a).cls] := by rcases hk with rfl | rfl <;> rfl
  rw [e] at h
  intro w hw
  unfold wsV at hw
  rcases List.mem_append.mp hw with hw | hw
  · refine good_w (h w hw) ?_
    simp only [List.mem_cons, List.not_mem_nil, or_false] at hw
    rcases hw with rfl | rfl | rfl | rfl <;> rfl
  · exact good_A h1 h2 w hw
theorem good_S {o i a k : Nat} (hk : k = 1 ∨ k = 5) (hw : hasM o i a k = true) (h1 : 0 < a) (h2 : a < 281) : GoodIn (lw_tbl.filter goodWord) (va_wsS (onm o) i (mY a) (wsA a)) := by
  have h := hasM_w hw
  have e : mlW (o, i, a, k) = [.methodLink (onm o) i (mY a), .static (mY a), .initialized (mY a).cls] := by rcases hk with rfl | rfl <;> rfl
  rw [e] at h
  intro w hw
  unfold va_wsS at hw
  rcases List.mem_append.mp hw with hw | hw
  · refine good_w (h w hw) ?_
    simp only [List.mem_cons, List.not_mem_nil, or_false] at hw
    rcases hw with rfl | rfl | rfl <;> rfl
  · exact good_A h1 h2 w hw
theorem mlK : mlL.all (fun q => decide (0 < q.2.2.1) && decide (q.2.2.1 < 281) && (if q.2.2.2.1 = 4 ∨ q.2.2.2.1 = 5 then !(exT q.2.2.1).isEmpty else (exT q.2.2.1).isEmpty) && (decide (q.2.2.2.1 ≠ 3) || nwM.any (fun z => decide (z.1 = onm q.1 ∧ z.2.1 = q.2.1 ∧ z.2.2.1 = mY q.2.2.1)))) = true := by decide +kernel
theorem hasM_k {o i a k : Nat} (h : hasM o i a k = true) : 0 < a ∧ a < 281 ∧ (if k = 4 ∨ k = 5 then !(exT a).isEmpty else (exT a).isEmpty) = true ∧ (k ≠ 3 ∨ nwM.any (fun z => decide (z.1 = onm o ∧ z.2.1 = i ∧ z.2.2.1 = mY a)) = true) := by
  obtain ⟨q, hq, h2⟩ := List.any_eq_true.mp h
  simp only [Bool.and_eq_true, beq_iff_eq] at h2
  obtain ⟨⟨⟨rfl, rfl⟩, rfl⟩, rfl⟩ := h2
  have h3 := List.all_eq_true.mp mlK q hq
  simp only [Bool.and_eq_true, Bool.or_eq_true, decide_eq_true_eq] at h3
  exact ⟨h3.1.1.1, h3.1.1.2, h3.1.2, h3.2⟩
/-- behind a call that returned -/
theorem back_run {mc ms : Nat} {vo : Option AV} {wr : List Value} {rest : List AV} {A9 : Array Value} (hr : va_Run p l9 e R s mm args below meth c9 H locs cells slots mc ms (F0 mm pc ls sv) wr (QcR Γ m ad vo m2 A9) (gA Γ)) (hK : KN Γ s H) (hlo : ∀ q ∈ locs, gB Γ ≤ q.base) (hL : LR m ad (mxT M) l ls) (hS : SR m ad rest wr)
    (kk : ∀ (ad1 : Nat → Nat → Nat) (H1 : Heap) (locs1 : List Loc) (sv1 : List Value), Ex m ad m2 ad1 → SX Γ M s m2 ad1 H1 locs1 l ls (vo.toList ++ rest) sv1 → W p l9 e R s mm args below meth c9 H1 locs1 (cells + mc) (slots + ms) Q (F0 mm (pc + 3) ls sv1)) : W p l9 e R s mm args below meth c9 H locs cells slots Q (F0 mm pc ls sv) := by
  intro T hT X
  obtain ⟨v, st₀, t, T', L, h0, X', hL2, e1, e2, ⟨ad1, rv, ho, hv, hx, hR, hKt⟩, go⟩ := hr T hT X
  cases ho
  have hal : s.vm.Alike t.vm := by rw [← e2]; exact X'.warmed.alike
  have hS2 : SR m2 ad1 (vo.toList ++ rest) (v.toList ++ wr) := by
    refine SR.app ?_ (hS.ex hx)
    match vo, v, hv with
    | none, none, _ => trivial
    | some a, some w, hv => exact ⟨hv, trivial⟩
  obtain ⟨tt, a1, b1⟩ := kk ad1 T'.heap (locs ++ L) (v.toList ++ wr) hx ⟨by rw [e1]; exact hR, by rw [e1]; exact hK.back hal hKt, fun q hq => by
    rcases List.mem_append.mp hq with h | h
    · exact hlo q h
    · exact hL2 q h, hL.ex hx, hS2⟩ T' rfl X'
  exact ⟨tt, go tt a1, b1⟩
theorem rc_at {c : Nat} {av : List AV} (h : rcv9 c av = true) (hc : 0 < c) : ∃ j r, av = vr (c - 1) j :: r := by
  cases c with
  | zero => omega
  | succ c =>
    simp only [rcv9] at h
    split at h
    · rename_i q r
      have : q.1 = c := by simpa using h
      exact ⟨q.2, r, by rw [Nat.add_sub_cancel, ← this]⟩
    · cases h
set_option maxHeartbeats 1000000 in
theorem sd_call (hM : M < 281) (C : CX M p l9 s mm args meth c9) {i : Instr} {n a b c d d1 : Nat} {L : List (Int32 × Nat)} {av rest : List AV} {vo : Option AV} (hE : okB M (pc, i, n, a, b, c, L) = true) (hi : isInv i = true) (h99 : c ≠ 99) (h50 : c ≠ 50) (h60 : c ≠ 60) (h61 : ¬ (61 ≤ c ∧ c ≤ 63)) (hpop : popN b [] st = some (av, rest)) (hcr : cats rest ≤ 8) (hca : cats av ≤ mxT a) (hrc : rcv9 c av = true) (hd1 : d = d1 + 1)
    (hB : Bod Γ l9 a av m (.inl vo, m2) d1) (hfr : d + 16 ≤ R.frames) (hlc : 64 * d + 400 ≤ R.locals) (hc : cells + (mC m2 - mC m) ≤ R.cells) (hs : slots + (mS m2 - mS m) ≤ R.slots) (X : SX Γ M s m ad H locs l ls st sv)
    (kk : ∀ (ad1 : Nat → Nat → Nat) (H1 : Heap) (locs1 : List Loc) (sv1 : List Value), Ex m ad m2 ad1 → SX Γ M s m2 ad1 H1 locs1 l ls (vo.toList ++ rest) sv1 → W p l9 e R s mm args below meth c9 H1 locs1 (cells + (mC m2 - mC m)) (slots + (mS m2 - mS m)) Q (F0 mm (pc + n) ls sv1)) : W p l9 e R s mm args below meth c9 H locs cells slots Q (F0 mm pc ls sv) := by
  obtain ⟨hR, hK, hlo, hL, hS⟩ := X
  obtain ⟨xs, rfl, hav, hlen⟩ := popN_spec hpop
  rw [List.append_nil] at hav
  obtain ⟨ws, wr, rfl, hS1, hS2⟩ := hS.split
  have hSa : SR m ad av ws.reverse := by rw [hav]; exact hS1.rev
  have hlt := C.2.2.2.2.2.2.2.2.2
  have hct := hS2.ct
  have hsz : ls.size = mxT M := by
    obtain ⟨-, lv, h1, -⟩ := hL
    exact h1.1
  have S : CallFix p mm c9 (mB M) (mxT M) s args (lw_tbl.filter goodWord) (onm (mO M)) := ⟨C.ex, C.by, C.ml, C.own, C.ws⟩
  have hW8 : 2 * (F0 mm pc ls (ws ++ wr)).monitorRoom + (wr.map fun v => v.category).sum ≤ 8 := by rw [hct]; show 2 * 0 + _ ≤ 8; omega
  have hpre : ∀ U : State, U.heap = H → s.WarmedH U.vm → PcA Γ m ad ws.reverse ws.reverse.toArray U := fun U hU hW => ⟨rfl, by rw [hU]; exact hK.moved hW, by rw [hU]; exact hR⟩
  have hroom : ∀ a, a < 281 → (rmD d1 (mC m2 - mC m) (mS m2 - mS m)).frames + 1 ≤ R.frames ∧ 8 + (mxT a + 11) + (rmD d1 (mC m2 - mC m) (mS m2 - mS m)).locals ≤ R.locals := by
    intro a ha
    have := (plainAt ha).2.2.1
    refine ⟨?_, ?_⟩
    · show d1 + 16 + 1 ≤ _; omega
    · exact rm_le this hd1 hlc
  have hwl : ws.length = b := by rw [← hlen]; exact hS1.len.symm
  simp only [okB, Bool.and_eq_true, decide_eq_true_eq] at hE
  obtain ⟨hdc, hE⟩ := hE
  have hrev : ws ++ wr = ws.reverse.reverse ++ wr := by rw [List.reverse_reverse]
  cases i with
  | invokevirtual k9 =>
    simp only [Bool.and_eq_true, Bool.or_eq_true, beq_iff_eq, decide_eq_true_eq] at hE
    obtain ⟨rfl, hE⟩ := hE
    rcases hE with q | hE
    · exact absurd q h99
    obtain ⟨⟨⟨⟨⟨hcls, hc0⟩, hc15⟩, hb⟩, hw⟩, hpl⟩ := hE
    obtain ⟨j, r, hrv⟩ := rc_at hrc hc0
    rw [hrv] at hSa
    obtain ⟨w0, As, hws, hv0, hSr⟩ := hSa.inv
    obtain ⟨rfl, hj⟩ := VR.rf hv0
    have hAs : As.length = npar a := by
      have := congrArg List.length hws
      simp only [List.length_reverse, List.length_cons] at this
      omega
    have hstk : ws ++ wr = As.reverse ++ .ref (ad (c - 1) j) :: wr := by
      rw [hrev, hws]; simp
    have hrecv : ∃ cellB : Cell, H[ad (c - 1) j]? = some cellB ∧ cellB.vm.isStatics = false ∧ s.vm.findClass (mY a).cls = some cellB.cls := by
      by_cases h81 : c = 81
      · subst h81
        rw [if_pos rfl] at hcls
        have hj9 : j < 9 := by
          have := hR.2.2.2.2.2.1 80 (by omega)
          rw [show (81 - 1 : Nat) = 80 from rfl, this] at hj
          exact hj
        obtain ⟨⟨cell, g1, g2, g3, -⟩, -⟩ := hK.2.2.2.2.1.1 j hj9
        refine ⟨cell, ?_, g2, by rw [hcls]; exact g3⟩
        rw [show (81 - 1 : Nat) = 80 from rfl, hR.2.2.2.2.1 80 j (by omega)]
        exact g1
      · rw [if_neg h81] at hcls
        have hlt15 : c - 1 < 15 := by omega
        obtain ⟨cell, g1, g2, g3, -⟩ := hR.1 (c - 1) j hlt15 hj
        have hKa := (hK.1.1 (c - 1) _ (vwC_at hlt15)).2.1
        refine ⟨cell, g1, by rw [g3]; rfl, ?_⟩
        rw [hcls, on_cl hlt15, g2]
        exact hKa
    have hp : PreV s H (mY a).cls (ad (c - 1) j) (PcA Γ m ad ws.reverse) As := ⟨PcA_blind, hrecv, fun U hU hW => by
      have := hpre U hU hW
      rw [hws] at this ⊢
      exact this⟩
    rcases hw with hw | hw
    · obtain ⟨g1, g2, g3, -⟩ := hasM_k hw
      rw [if_neg (by omega)] at g3
      have hex : exT a = [] := List.isEmpty_iff.mp g3
      have hMet := xMet (l9 := l9) g2 hpl hlt hB (by rw [hav]; exact hS1.rev) hca
      have cw := cwV (R := R) (own := onm (mO M)) (index := k9) (bytes := mB a) (maxL := mxT a) (ret := mRt a) (npar a) C.ws (good_V (Or.inl rfl) hw g1 g2) (by rw [← cdW_c hex]) rfl rfl ⟨rfl, (plainAt g2).1, (plainAt g2).2.1, (plainAt g2).2.2.2⟩ (hroom a g2)
      have hr := va_runV (g := F0 mm pc ls (ws ++ wr)) (cells := cells) (slots := slots) (locs := locs) (below := below) (meth := meth) (e := e) S hMet cw hp rfl hAs hsz hstk hW8 hdc ⟨hc, hs⟩
      exact back_run hr hK hlo hL hS2 kk
    · obtain ⟨g1, g2, g3, -⟩ := hasM_k hw
      rw [if_pos (by omega)] at g3
      obtain ⟨q, hex⟩ : ∃ q, exT a = [q] := by
        rcases exT_of a with h | rfl | rfl
        · rw [h] at g3; cases g3
        · exact ⟨_, rfl⟩
        · exact ⟨_, rfl⟩
      have hMet := xMet (l9 := l9) g2 hpl hlt hB (by rw [hav]; exact hS1.rev) hca
      have cw := vx_cwVW (R := R) (own := onm (mO M)) (index := k9) (bytes := mB a) (maxL := mxT a) (ret := mRt a) (hh := [q]) (npar a) C.ws (good_V (Or.inr rfl) hw g1 g2) (by rw [← cdW_w hex]) rfl rfl ⟨rfl, (plainAt g2).1, (plainAt g2).2.1, (plainAt g2).2.2.2⟩ (hroom a g2)
      have hr := vx_runVW (g := F0 mm pc ls (ws ++ wr)) (cells := cells) (slots := slots) (locs := locs) (below := below) (meth := meth) (e := e) S hMet cw hp rfl hAs hsz hstk hW8 hdc ⟨hc, hs⟩
      exact back_run hr hK hlo hL hS2 kk
  | invokestatic k9 =>
    simp only [Bool.and_eq_true, Bool.or_eq_true, beq_iff_eq, decide_eq_true_eq] at hE
    obtain ⟨rfl, hE⟩ := hE
    have hE : (c = 0 ∧ b = npar a) ∧ (hasM (mO M) k9 a 1 = true ∨ hasM (mO M) k9 a 5 = true) ∧ plainName (mY a).cls = true := by
      rcases hE with ((((q | q) | q) | q) | q) | q
      · exact absurd q h99
      · exact absurd q.1.1 h60
      · omega
      · omega
      · omega
      · exact ⟨q.1.1, q.1.2, q.2⟩
    obtain ⟨⟨hc0, hb⟩, hw, hpl⟩ := hE
    have hAs : ws.reverse.length = npar a := by rw [List.length_reverse]; omega
    have hp : PreS s H (PcA Γ m ad ws.reverse) ws.reverse := ⟨PcA_blind, hpre⟩
    rcases hw with hw | hw
    · obtain ⟨g1, g2, g3, -⟩ := hasM_k hw
      rw [if_neg (by omega)] at g3
      have hex : exT a = [] := List.isEmpty_iff.mp g3
      have hMet := xMet (l9 := l9) g2 hpl hlt hB hSa hca
      have cw := va_cwS (R := R) (own := onm (mO M)) (index := k9) (bytes := mB a) (maxL := mxT a) (ret := mRt a) (npar a) C.ws (good_S (Or.inl rfl) hw g1 g2) (by rw [← cdW_c hex]) rfl rfl ⟨(plainAt g2).1, (plainAt g2).2.1, (plainAt g2).2.2.2⟩ (hroom a g2)
      have hr := va_runS (g := F0 mm pc ls (ws ++ wr)) (cells := cells) (slots := slots) (locs := locs) (below := below) (meth := meth) (e := e) S hMet cw hp rfl hAs hsz hrev hW8 hdc ⟨hc, hs⟩
      exact back_run hr hK hlo hL hS2 kk
    · obtain ⟨g1, g2, g3, -⟩ := hasM_k hw
      rw [if_pos (by omega)] at g3
      obtain ⟨q, hex⟩ : ∃ q, exT a = [q] := by
        rcases exT_of a with h | rfl | rfl
        · rw [h] at g3; cases g3
        · exact ⟨_, rfl⟩
        · exact ⟨_, rfl⟩
      have hMet := xMet (l9 := l9) g2 hpl hlt hB hSa hca
      have cw := vx_cwSW (R := R) (own := onm (mO M)) (index := k9) (bytes := mB a) (maxL := mxT a) (ret := mRt a) (hh := [q]) (npar a) C.ws (good_S (Or.inr rfl) hw g1 g2) (by rw [← cdW_w hex]) rfl rfl ⟨(plainAt g2).1, (plainAt g2).2.1, (plainAt g2).2.2.2⟩ (hroom a g2)
      have hr := vx_runSW (g := F0 mm pc ls (ws ++ wr)) (cells := cells) (slots := slots) (locs := locs) (below := below) (meth := meth) (e := e) S hMet cw hp rfl hAs hsz hrev hW8 hdc ⟨hc, hs⟩
      exact back_run hr hK hlo hL hS2 kk
  | invokespecial k9 =>
    simp only [Bool.and_eq_true, Bool.or_eq_true, beq_iff_eq, decide_eq_true_eq] at hE
    obtain ⟨rfl, hE⟩ := hE
    rcases hE with (q | q) | hE
    · exact absurd q h50
    · exact absurd q h99
    obtain ⟨⟨⟨⟨⟨hc0, hc15⟩, hb⟩, hw⟩, hpl⟩, hnm⟩ := hE
    obtain ⟨j, r, hrv⟩ := rc_at hrc hc0
    rw [hrv] at hSa
    obtain ⟨w0, As, hws, hv0, hSr⟩ := hSa.inv
    obtain ⟨rfl, hj⟩ := VR.rf hv0
    have hAs : As.length = npar a := by
      have := congrArg List.length hws
      simp only [List.length_reverse, List.length_cons] at this
      omega
    have hstk : ws ++ wr = As.reverse ++ .ref (ad (c - 1) j) :: wr := by
      rw [hrev, hws]; simp
    have hp : PreS s H (PcA Γ m ad ws.reverse) (.ref (ad (c - 1) j) :: As) := ⟨PcA_blind, fun U hU hW => by
      have := hpre U hU hW
      rw [hws] at this ⊢
      exact this⟩
    rcases hw with hw | hw
    · obtain ⟨g1, g2, g3, -⟩ := hasM_k hw
      rw [if_neg (by omega)] at g3
      have hex : exT a = [] := List.isEmpty_iff.mp g3
      have hMet := xMet (l9 := l9) g2 hpl hlt hB (by rw [hav]; exact hS1.rev) hca
      have hv := init_void g2 hnm
      have hww := hasM_w hw
      have cw := cwI (R := R) (own := onm (mO M)) (index := k9) (bytes := mB a) (maxL := mxT a) (npar a) C.ws (good_A g1 g2) (by rw [← hv, ← cdW_c hex]) rfl rfl (C.w (hww _ (List.mem_of_getElem? (i := 2) rfl)) rfl) (C.w (hww _ (List.mem_of_getElem? (i := 0) rfl)) rfl) (C.w (hww _ (List.mem_of_getElem? (i := 1) rfl)) rfl) hnm ⟨(plainAt g2).1, (plainAt g2).2.1, (plainAt g2).2.2.2⟩ (hroom a g2)
      have hr := va_runI (g := F0 mm pc ls (ws ++ wr)) (cells := cells) (slots := slots) (locs := locs) (below := below) (meth := meth) (e := e) S hMet cw hp rfl hAs hsz hstk hW8 hdc ⟨hc, hs⟩
      exact back_run hr hK hlo hL hS2 kk
    · obtain ⟨g1, g2, g3, g4⟩ := hasM_k hw
      rw [if_neg (by omega)] at g3
      have hex : exT a = [] := List.isEmpty_iff.mp g3
      have hMet := xMet (l9 := l9) g2 hpl hlt hB (by rw [hav]; exact hS1.rev) hca
      have hv := init_void g2 hnm
      have hww := hasM_w hw
      obtain ⟨z, hz, h3⟩ := List.any_eq_true.mp (g4.resolve_left (fun q => q rfl))
      obtain ⟨e1, e2, e3⟩ := of_decide_eq_true h3
      have h4 := hK.2.2.1 z hz
      unfold cmw at h4
      rw [e1, e2, e3] at h4
      have cw := va_cnB (R := R) (own := onm (mO M)) (host := z.2.2.2) (index := k9) (bytes := mB a) (maxL := mxT a) (ret := none) (npar a) C.ws (good_A g1 g2) (by rw [← hv, ← cdW_c hex]) rfl rfl h4 (C.w (hww _ (List.mem_of_getElem? (i := 1) rfl)) rfl) ⟨(plainAt g2).1, (plainAt g2).2.1, (plainAt g2).2.2.2⟩ (hroom a g2)
      have hr := va_runIN (g := F0 mm pc ls (ws ++ wr)) (cells := cells) (slots := slots) (locs := locs) (below := below) (meth := meth) (e := e) S hMet ⟨cw, hnm, C.w (hww _ (List.mem_of_getElem? (i := 0) rfl)) rfl⟩ hp rfl hAs hsz hstk hW8 hdc ⟨hc, hs⟩
      exact back_run hr hK hlo hL hS2 kk
  | _ => simp [isInv] at hi
end MAIN
