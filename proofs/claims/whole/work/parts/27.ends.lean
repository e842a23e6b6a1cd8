/-! A call that throws; the ends of a method -/
section MAINX
variable {Γ : Gm} {M : Nat} {p : Program} {l9 : Launch} {e : Env} {R : Room} {s : State} {mm : MethodId} {args : Array Value} {below : List Frame} {meth : Method} {c9 : Code} {Q : State → Prop} {m m1 m2 : Mem} {ad : Nat → Nat → Nat} {cells slots pc pc1 : Nat} {l l1 : Loc9} {st s1 : List AV} {H : Heap} {locs : List Loc} {ls : Array Slot} {sv : List Value}
/-- what is known where something was thrown -/
def ThX (Γ : Gm) (p : Program) (l9 : Launch) (e : Env) (R : Room) (s : State) (mm : MethodId) (args : Array Value) (below : List Frame) (meth : Method) (c9 : Code) (Q : State → Prop) (m m2 : Mem) (ad : Nat → Nat → Nat) (cells slots pc : Nat) (ls : Array Slot) (q : Nat × AV) : Prop :=
  ∀ (ad1 : Nat → Nat → Nat) (H1 : Heap) (locs1 : List Loc) (x : Addr) (ce : Cell) (wr : List Value), Ex m ad m2 ad1 → Rep Γ m2 ad1 H1 → KN Γ s H1 → (∀ z ∈ locs1, gB Γ ≤ z.base) → VR m2 ad1 q.2 (.ref x) → H1[x]? = some ce → ce.vm = .none → s.vm.findClass (exN q.1) = some ce.cls → vx_W p l9 e R s mm args below meth c9 H1 locs1 (cells + (mC m2 - mC m)) (slots + (mS m2 - mS m)) Q (F0 mm pc ls wr) x
theorem out_run {wr : List Value} {q : Nat × AV} {Qa : State → Outcome → State → Prop} (hQ : ∀ a b c, Qa a b c → False) (hr : vx_Run p l9 e R s mm args below meth c9 H locs cells slots (mC m2 - mC m) (mS m2 - mS m) (F0 mm pc ls sv) wr Qa (XCR Γ m ad q m2) (gA Γ)) (hK : KN Γ s H) (hlo : ∀ z ∈ locs, gB Γ ≤ z.base)
    (kk : ThX Γ p l9 e R s mm args below meth c9 Q m m2 ad cells slots pc ls q) : W p l9 e R s mm args below meth c9 H locs cells slots Q (F0 mm pc ls sv) := by
  intro T hT X
  rcases hr T hT X with ⟨v, st₀, t, T', L, -, -, -, -, -, hf, -⟩ | ⟨q', st₀, t, T', L, E, ce, h0, X', hL2, e1, e2, ⟨hE, ad1, hx, hR, hKt, hv⟩, hce, hcv, hcl, st⟩
  · exact (hQ _ _ _ hf).elim
  · have hal : s.vm.Alike t.vm := by rw [← e2]; exact X'.warmed.alike
    obtain ⟨tt, a1, b1⟩ := kk ad1 T'.heap (locs ++ L) q' ce wr hx (by rw [e1]; exact hR) (by rw [e1]; exact hK.back hal hKt) (fun z hz => by
      rcases List.mem_append.mp hz with h | h
      · exact hlo z h
      · exact hL2 z h) hv (by rw [e1]; exact hce) hcv (by rw [← hE]; exact hcl) T' rfl X'
    exact ⟨tt, st.trans a1, b1⟩
set_option maxHeartbeats 1000000 in
theorem sd_callX (hM : M < 281) (C : CX M p l9 s mm args meth c9) {i : Instr} {n a b c d d1 : Nat} {L : List (Int32 × Nat)} {av rest : List AV} {q : Nat × AV} (hE : okB M (pc, i, n, a, b, c, L) = true) (hi : isInv i = true) (h99 : c ≠ 99) (h50 : c ≠ 50) (h60 : c ≠ 60) (h61 : ¬ (61 ≤ c ∧ c ≤ 63)) (hpop : popN b [] st = some (av, rest)) (hcr : cats rest ≤ 8) (hca : cats av ≤ mxT a) (hrc : rcv9 c av = true) (hd1 : d = d1 + 1)
    (hth : thr9 a = true) (hB : Bod Γ l9 a av m (.inr q, m2) d1) (hfr : d + 16 ≤ R.frames) (hlc : 64 * d + 400 ≤ R.locals) (hc : cells + (mC m2 - mC m) ≤ R.cells) (hs : slots + (mS m2 - mS m) ≤ R.slots) (X : SX Γ M s m ad H locs l ls st sv)
    (kk : ThX Γ p l9 e R s mm args below meth c9 Q m m2 ad cells slots pc ls q) : W p l9 e R s mm args below meth c9 H locs cells slots Q (F0 mm pc ls sv) := by
  obtain ⟨hR, hK, hlo, hL, hS⟩ := X
  obtain ⟨xs, rfl, hav, hlen⟩ := popN_spec hpop
  rw [List.append_nil] at hav
  obtain ⟨ws, wr, rfl, hS1, hS2⟩ := hS.split
  have hSa : SR m ad av ws.reverse := by rw [hav]; exact hS1.rev
  obtain ⟨t1, hex, t3, t4⟩ := thr_at hth
  have hlt := C.2.2.2.2.2.2.2.2.2
  have hct := hS2.ct
  have hsz : ls.size = mxT M := by
    obtain ⟨-, lv, h1, -⟩ := hL
    exact h1.1
  have S : CallFix p mm c9 (mB M) (mxT M) s args (lw_tbl.filter goodWord) (onm (mO M)) := ⟨C.ex, C.by, C.ml, C.own, C.ws⟩
  have hW8 : 2 * (F0 mm pc ls (ws ++ wr)).monitorRoom + (wr.map fun v => v.category).sum ≤ 8 := by rw [hct]; show 2 * 0 + _ ≤ 8; omega
  have hpre : ∀ U : State, U.heap = H → s.WarmedH U.vm → PcA Γ m ad ws.reverse ws.reverse.toArray U := fun U hU hW => ⟨rfl, by rw [hU]; exact hK.moved hW, by rw [hU]; exact hR⟩
  have hroom : (rmD d1 (mC m2 - mC m) (mS m2 - mS m)).frames + 1 ≤ R.frames ∧ 8 + (mxT a + 11) + (rmD d1 (mC m2 - mC m) (mS m2 - mS m)).locals ≤ R.locals := by
    have := (plainAt t1).2.2.1
    refine ⟨?_, ?_⟩
    · show d1 + 16 + 1 ≤ _; omega
    · exact rm_le this hd1 hlc
  have hwl : ws.length = b := by rw [← hlen]; exact hS1.len.symm
  simp only [okB, Bool.and_eq_true, decide_eq_true_eq] at hE
  obtain ⟨hdc, hE⟩ := hE
  have hrev : ws ++ wr = ws.reverse.reverse ++ wr := by rw [List.reverse_reverse]
  cases i with
  | invokevirtual k9 =>
    simp only [Bool.and_eq_true, Bool.or_eq_true, beq_iff_eq, decide_eq_true_eq] at hE
    obtain ⟨rfl, hE⟩ := hE
    rcases hE with q | hE
    · exact absurd q h99
    obtain ⟨⟨⟨⟨⟨hcls, hc0⟩, hc15⟩, hb⟩, hw⟩, hpl⟩ := hE
    obtain ⟨j, r, hrv⟩ := rc_at hrc hc0
    rw [hrv] at hSa
    obtain ⟨w0, As, hws, hv0, hSr⟩ := hSa.inv
    obtain ⟨rfl, hj⟩ := VR.rf hv0
    have hAs : As.length = npar a := by
      have := congrArg List.length hws
      simp only [List.length_reverse, List.length_cons] at this
      omega
    have hstk : ws ++ wr = As.reverse ++ .ref (ad (c - 1) j) :: wr := by
      rw [hrev, hws]; simp
    have hrecv : ∃ cellB : Cell, H[ad (c - 1) j]? = some cellB ∧ cellB.vm.isStatics = false ∧ s.vm.findClass (mY a).cls = some cellB.cls := by
      by_cases h81 : c = 81
      · subst h81
        rw [if_pos rfl] at hcls
        have hj9 : j < 9 := by
          have := hR.2.2.2.2.2.1 80 (by omega)
          rw [show (81 - 1 : Nat) = 80 from rfl, this] at hj
          exact hj
        obtain ⟨⟨cell, g1, g2, g3, -⟩, -⟩ := hK.2.2.2.2.1.1 j hj9
        refine ⟨cell, ?_, g2, by rw [hcls]; exact g3⟩
        rw [show (81 - 1 : Nat) = 80 from rfl, hR.2.2.2.2.1 80 j (by omega)]
        exact g1
      · rw [if_neg h81] at hcls
        have hlt15 : c - 1 < 15 := by omega
        obtain ⟨cell, g1, g2, g3, -⟩ := hR.1 (c - 1) j hlt15 hj
        have hKa := (hK.1.1 (c - 1) _ (vwC_at hlt15)).2.1
        refine ⟨cell, g1, by rw [g3]; rfl, ?_⟩
        rw [hcls, on_cl hlt15, g2]
        exact hKa
    have hp : PreV s H (mY a).cls (ad (c - 1) j) (PcA Γ m ad ws.reverse) As := ⟨PcA_blind, hrecv, fun U hU hW => by
      have := hpre U hU hW
      rw [hws] at this ⊢
      exact this⟩
    have hMet := xMetX (l9 := l9) t1 hpl hlt hex hB (by rw [hav]; exact hS1.rev) hca
    rcases hw with hw | hw
    · obtain ⟨g1, g2, g3, -⟩ := hasM_k hw
      have cw := cwV (R := R) (own := onm (mO M)) (index := k9) (bytes := mB a) (maxL := mxT a) (ret := mRt a) (npar a) C.ws (good_V (Or.inl rfl) hw g1 g2) (by rw [← cdW_c hex]) rfl rfl ⟨rfl, (plainAt g2).1, (plainAt g2).2.1, (plainAt g2).2.2.2⟩ hroom
      have hr := vx_runV (g := F0 mm pc ls (ws ++ wr)) (cells := cells) (slots := slots) (locs := locs) (below := below) (meth := meth) (e := e) S hMet cw hp rfl hAs hsz hstk hW8 hdc ⟨hc, hs⟩
      exact out_run (fun _ _ _ h => h) hr hK hlo kk
    · obtain ⟨g1, g2, g3, -⟩ := hasM_k hw
      rw [if_pos (by omega), hex] at g3
      cases g3
  | invokestatic k9 =>
    simp only [Bool.and_eq_true, Bool.or_eq_true, beq_iff_eq, decide_eq_true_eq] at hE
    obtain ⟨rfl, hE⟩ := hE
    have hE : (c = 0 ∧ b = npar a) ∧ (hasM (mO M) k9 a 1 = true ∨ hasM (mO M) k9 a 5 = true) ∧ plainName (mY a).cls = true := by
      rcases hE with ((((q | q) | q) | q) | q) | q
      · exact absurd q h99
      · exact absurd q.1.1 h60
      · omega
      · omega
      · omega
      · exact ⟨q.1.1, q.1.2, q.2⟩
    obtain ⟨⟨hc0, hb⟩, hw, hpl⟩ := hE
    have hAs : ws.reverse.length = npar a := by rw [List.length_reverse]; omega
    have hp : PreS s H (PcA Γ m ad ws.reverse) ws.reverse := ⟨PcA_blind, hpre⟩
    have hMet := xMetX (l9 := l9) t1 hpl hlt hex hB hSa hca
    rcases hw with hw | hw
    · obtain ⟨g1, g2, g3, -⟩ := hasM_k hw
      have cw := va_cwS (R := R) (own := onm (mO M)) (index := k9) (bytes := mB a) (maxL := mxT a) (ret := mRt a) (npar a) C.ws (good_S (Or.inl rfl) hw g1 g2) (by rw [← cdW_c hex]) rfl rfl ⟨(plainAt g2).1, (plainAt g2).2.1, (plainAt g2).2.2.2⟩ hroom
      have hr := vx_runS (g := F0 mm pc ls (ws ++ wr)) (cells := cells) (slots := slots) (locs := locs) (below := below) (meth := meth) (e := e) S hMet cw hp rfl hAs hsz hrev hW8 hdc ⟨hc, hs⟩
      exact out_run (fun _ _ _ h => h) hr hK hlo kk
    · obtain ⟨g1, g2, g3, -⟩ := hasM_k hw
      rw [if_pos (by omega), hex] at g3
      cases g3
  | invokespecial k9 =>
    simp only [Bool.and_eq_true, Bool.or_eq_true, beq_iff_eq, decide_eq_true_eq] at hE
    obtain ⟨rfl, hE⟩ := hE
    rcases hE with (q | q) | hE
    · exact absurd q h50
    · exact absurd q h99
    exact absurd hE.2 t4
  | _ => simp [isInv] at hi
/-! The ends -/
theorem nar_byte {x : Int32} (h : -128 ≤ x ∧ x ≤ 127) : narrow .byte (.int x) = .int x := by
  have h1 : (-128 : Int) ≤ x.toInt := by have := Int32.le_iff_toInt_le.mp h.1; simpa using this
  have h2 : x.toInt ≤ 127 := by have := Int32.le_iff_toInt_le.mp h.2; simpa using this
  show Value.int x.toInt8.toInt32 = .int x
  congr 1
  apply Int32.toInt_inj.mp
  rw [Int8.toInt_toInt32, Int32.toInt_toInt8, Int.bmod_def]
  omega
theorem nar_bool {x : Int32} (h : x = 0 ∨ x = 1) : narrow .boolean (.int x) = .int x := by
  rcases h with rfl | rfl <;> rfl
theorem nar_char {x : Int32} (h : 0 ≤ x ∧ x ≤ 65535) : narrow .char (.int x) = .int x := by
  have h1 : (0 : Int) ≤ x.toInt := by have := Int32.le_iff_toInt_le.mp h.1; simpa using this
  have h2 : x.toInt ≤ 65535 := by have := Int32.le_iff_toInt_le.mp h.2; simpa using this
  have hd : x.toInt = x.toBitVec.toInt := rfl
  rw [hd, BitVec.toInt_eq_toNat_cond] at h1 h2
  have hlt := x.toBitVec.isLt
  have h3 : x.toBitVec.toNat < 65536 := by
    split at h1 <;> split at h2 <;> omega
  show Value.int x.toUInt32.toUInt16.toUInt32.toInt32 = .int x
  congr 1
  apply Int32.toBitVec_inj.mp
  apply BitVec.eq_of_toNat_eq
  show ((x.toBitVec.setWidth 16).setWidth 32).toNat = x.toBitVec.toNat
  simp only [BitVec.toNat_setWidth]
  omega
def irk (q : Nat × Ent9) : Bool := match q with
  | (_, .ireturn, _, a, _, _, _) => a == 0 || a == 1 || a == 2 || a == 4
  | _ => true
theorem irk_all : (List.range 281).all (fun M => (cdT M).all irk) = true := by decide +kernel
theorem EndK.ret {vo : Option AV} (h : EndK Γ M p l9 e R s mm args below meth c9 Q m ad cells slots (.inl vo, m)) (X : SX Γ M s m ad H locs l ls st sv) (hA : RAt m ad M pc vo sv) : W p l9 e R s mm args below meth c9 H locs cells slots Q (F0 mm pc ls sv) := by
  obtain ⟨hR, hK, hlo, -, -⟩ := X
  have k := h ad H locs pc ls sv Ex.rf hR hK hlo hA
  have e1 : cells + (mC m - mC m) = cells := by omega
  have e2 : slots + (mS m - mS m) = slots := by omega
  have k2 : W p l9 e R s mm args below meth c9 H locs (cells + (mC m - mC m)) (slots + (mS m - mS m)) Q (F0 mm pc ls sv) := k
  rw [e1, e2] at k2
  exact k2
theorem sd_ret (hM : M < 281) {i : Instr} {n a b c d : Nat} {L : List (Int32 × Nat)} {vo : Option AV} (hmem : (pc, i, n, a, b, c, L) ∈ cdT M) (hE : okB M (pc, i, n, a, b, c, L) = true) (h : stI sF sD sK sN i n a b c L d M pc l st m = sD (.inl vo, m2)) (he : isEnd i c = true) (X : SX Γ M s m ad H locs l ls st sv) (hend : EndK Γ M p l9 e R s mm args below meth c9 Q m ad cells slots (.inl vo, m2)) : W p l9 e R s mm args below meth c9 H locs cells slots Q (F0 mm pc ls sv) := by
  have hir := List.all_eq_true.mp (List.all_eq_true.mp irk_all M (List.mem_range.mpr hM)) _ hmem
  have hS := X.2.2.2.2
  simp only [okB, Bool.and_eq_true, decide_eq_true_eq] at hE
  obtain ⟨hdc, hE⟩ := hE
  cases i with
  | ireturn =>
    simp only [Bool.and_eq_true, beq_iff_eq] at hE
    obtain ⟨rfl, hE⟩ := hE
    simp only [stI, irt9] at h
    split at h
    · rename_i x
      obtain ⟨w, t, rfl, hv, ht⟩ := hS.inv
      cases hv
      match t, ht with
      | [], _ =>
        have fin : ∀ ty, mRt M = some ty → narrow ty (.int x) = .int x → some (vi x) = vo → m = m2 → W p l9 e R s mm args below meth c9 H locs cells slots Q (F0 mm pc ls [.int x]) := by
          intro ty h1 h2 h3 h4
          subst h3; subst h4
          exact EndK.ret hend X (Or.inl ⟨x, ty, rfl, rfl, hdc, h1, h2⟩)
        have hty : ∀ k, a = k → rcd (mRt M) = k := fun k hk => by rw [← hE]; exact hk
        simp only [irk, Bool.or_eq_true, beq_iff_eq] at hir
        rcases hir with ((rfl | rfl) | rfl) | rfl
        · cases h
          have h9 := hE.symm
          unfold rcd at h9
          split at h9 <;> first | cases h9 | skip
          rename_i hm; exact fin _ hm rfl rfl rfl
        · simp only at h
          split at h
          · rename_i hb
            cases h
            have h9 := hE.symm
            unfold rcd at h9
            split at h9 <;> first | cases h9 | skip
            rename_i hm; exact fin _ hm (nar_byte hb) rfl rfl
          · cases h
        · simp only at h
          split at h
          · rename_i hb
            cases h
            have h9 := hE.symm
            unfold rcd at h9
            split at h9 <;> first | cases h9 | skip
            rename_i hm; exact fin _ hm (nar_bool hb) rfl rfl
          · cases h
        · simp only at h
          split at h
          · rename_i hb
            cases h
            have h9 := hE.symm
            unfold rcd at h9
            split at h9 <;> first | cases h9 | skip
            rename_i hm; exact fin _ hm (nar_char hb) rfl rfl
          · cases h
    · cases h
  | lreturn =>
    simp only [Bool.and_eq_true, beq_iff_eq, decide_eq_true_eq] at hE
    obtain ⟨rfl, hE⟩ := hE
    simp only [stI] at h
    split at h
    · rename_i x
      obtain ⟨w, t, rfl, hv, ht⟩ := hS.inv
      cases hv
      match t, ht with
      | [], _ => cases h; exact EndK.ret hend X (Or.inr (Or.inl ⟨x, rfl, rfl, hdc, hE⟩))
    · cases h
  | areturn =>
    simp only [Bool.and_eq_true, beq_iff_eq] at hE
    obtain ⟨rfl, hE⟩ := hE
    simp only [stI] at h
    split at h
    · rename_i x
      obtain ⟨w, t, rfl, hv, ht⟩ := hS.inv
      match t, ht with
      | [], _ =>
        cases h
        have hrt : ∃ rt, mRt M = some rt ∧ ((∃ n, rt = .object n) ∨ ∃ t, rt = .array t) := by
          generalize mRt M = z at hE
          match z, hE with
          | none, hE => exact absurd hE (by decide)
          | some rt, hE =>
            refine ⟨rt, rfl, ?_⟩
            simp only [Option.getD, fcd] at hE
            split at hE <;> first | exact absurd hE (by decide) | exact Or.inl ⟨_, rfl⟩ | exact Or.inr ⟨_, rfl⟩
        obtain ⟨rt, g1, g2⟩ := hrt
        exact EndK.ret hend X (Or.inr (Or.inr (Or.inl ⟨x, w, rt, rfl, rfl, hv, hdc, g1, g2⟩)))
    · cases h
  | return_ =>
    simp only [Bool.and_eq_true, beq_iff_eq, decide_eq_true_eq] at hE
    obtain ⟨rfl, hE⟩ := hE
    simp only [stI] at h
    split at h
    · match sv, hS with
      | [], _ => cases h; exact EndK.ret hend X (Or.inr (Or.inr (Or.inr ⟨rfl, rfl, hdc, hE⟩)))
    · cases h
  | athrow =>
    simp only [stI] at h
    split at h
    · split at h
      · split at h <;> cases h
      · cases h
    · cases h
  | new k =>
    have hc : c = 77 := by simpa [isEnd] using he
    simp only [stI] at h
    rw [if_pos hc] at h
    split at h <;> cases h
  | _ => simp [isEnd] at he
/-! The throws -/
def nsA : List Cond := (xw_at "WholeFields" 257 "java/util/NoSuchElementException" 13 ⟨#[0x2a, 0x2b, 0xb7, 0x00, 0x0d, 0xb1]⟩ "java/lang/RuntimeException" ["java/lang/Exception"]).filter vx_no
def nsP : List (Nat × Nat) := [(1, 15), (6, 56), (6, 65), (6, 68), (6, 71), (6, 73), (6, 57), (6, 58), (1, 35), (1, 36), (6, 59), (6, 64), (6, 69), (6, 89), (6, 46), (6, 90), (6, 48), (6, 91), (6, 50), (6, 60), (6, 62), (6, 52), (6, 85), (6, 86), (6, 88), (6, 52), (6, 76), (6, 77), (6, 78), (6, 79), (6, 38), (6, 79), (6, 80), (6, 81), (6, 82), (6, 40), (6, 82), (6, 83), (6, 84), (6, 85), (6, 42), (6, 75), (6, 35), (6, 36), (6, 43), (6, 44), (6, 45), (6, 47), (6, 49), (6, 51), (6, 55), (6, 54), (6, 53)]
theorem ns_p : nsP.map atP = nsA.map some := by decide +kernel
theorem ns_w : ∀ w ∈ nsA, w ∈ lw_tbl := by
  intro w hw
  have h : some w ∈ nsP.map atP := by rw [ns_p]; exact List.mem_map.mpr ⟨w, hw, rfl⟩
  obtain ⟨z, -, hz⟩ := List.mem_map.mp h
  exact atP_in hz
theorem ns_g : nsA.all (fun w => vx_ot w) = true := by decide +kernel
theorem ns_b : nsA.filter (fun w => !goodWord w) = [.declares (Bundle.initS "java/lang/RuntimeException"), .declares (Bundle.initS "java/lang/Exception"), .declares (Bundle.initS Bundle.tN), .castable "java/util/NoSuchElementException" "java/util/NoSuchElementException"] := by decide +kernel
theorem ns_l : Cond.classLink "WholeFields" 253 "java/util/NoSuchElementException" ∈ lw_tbl ∧ Cond.initialized "java/util/NoSuchElementException" ∈ lw_tbl := ⟨atP_in (q := (6, 34)) (by decide +kernel), atP_in (q := (1, 27)) (by decide +kernel)⟩
theorem ns_d : decode (mB M_WF_stake) 45 = .ok (.new 253, 3) ∧ decode (mB M_WF_stake) 48 = .ok (.dup, 1) ∧ decode (mB M_WF_stake) 49 = .ok (.ldc 255, 2) ∧ decode (mB M_WF_stake) 51 = .ok (.invokespecial 257, 3) ∧ decode (mB M_WF_stake) 54 = .ok (.athrow, 1) := by decide +kernel
theorem Rep.more {m : Mem} {ad : Nat → Nat → Nat} {H H1 : Heap} (h : Rep Γ m ad H) (hq : ∀ q : Nat, q < H.size → H1[q]? = H[q]?) : Rep Γ m ad H1 := by
  obtain ⟨h1, h2, h3⟩ := h
  have hq2 : ∀ (q : Nat) (cell : Cell), H[q]? = some cell → H1[q]? = some cell := fun q cell hc => by
    rw [hq q (Array.getElem?_eq_some_iff.mp hc).1]; exact hc
  refine ⟨fun k j hk hj => ?_, fun k j hk hk2 hj => hq2 _ _ (h2 k j hk hk2 hj), h3⟩
  obtain ⟨cell, g1, g2⟩ := h1 k j hk hj
  exact ⟨cell, hq2 _ _ g1, g2⟩
theorem sd_new77 (C : CX M p l9 s mm args meth c9) (hM : M = M_WF_stake) (hpc : pc = 45) (hfr : 16 ≤ R.frames) (hlc : 400 ≤ R.locals) (hcs : cats st ≤ 8) (hc : cells + 1 ≤ R.cells) (hs : slots + 6 ≤ R.slots) (X : SX Γ M s m ad H locs l ls st sv) (hend : EndK Γ M p l9 e R s mm args below meth c9 Q m ad cells slots (.inr (0, vu), newX m 6)) : W p l9 e R s mm args below meth c9 H locs cells slots Q (F0 mm pc ls sv) := by
  subst hM; subst hpc
  obtain ⟨hR, hK, hlo, hL, hS⟩ := X
  obtain ⟨Qc, XC, rfl, hXC⟩ := hend
  have hsz : ls.size = mxT M_WF_stake := by
    obtain ⟨-, lv, h1, -⟩ := hL
    exact h1.1
  have e1 : mC (newX m 6) - mC m = 1 := by show mC m + 1 - mC m = 1; omega
  have e2 : mS (newX m 6) - mS m = 6 := by show mS m + 6 - mS m = 6; omega
  have htab : ∀ x ∈ c9.exceptionTable.toList, covers x (45 + 9) = false := by
    rw [show c9.exceptionTable.toList = tableOf (exT M_WF_stake) from C.2.2.2.2.2.2.2.2.1, show exT M_WF_stake = [] by decide +kernel]
    exact fun x hx => nomatch hx
  obtain ⟨d1, d2, d3, d4, d5⟩ := ns_d
  have hwb : ∀ w ∈ nsA, w.before args s = true := by
    refine vx_hat (B := [.declares (Bundle.initS "java/lang/RuntimeException"), .declares (Bundle.initS "java/lang/Exception"), .declares (Bundle.initS Bundle.tN), .castable "java/util/NoSuchElementException" "java/util/NoSuchElementException"]) (fun w hw => C.w (ns_w w (List.mem_filter.mp hw).1) (List.mem_filter.mp hw).2) (fun w hw => by rw [ns_b] at hw; exact hw) ?_
    obtain ⟨q1, q2, q3, q4⟩ := hK.2.2.2.2.2.2.2.2.2.2.2.2.2.1
    exact vx_c (q2.use rfl) (vx_c (q3.use rfl) (vx_c (q4.use rfl) (vx_c (q1.use rfl) vx_n)))
  have hct := hS.ct
  refine xw_throw (own := "WholeFields") (cls := "java/util/NoSuchElementException") (Y9 := "java/lang/RuntimeException") (names := ["java/lang/Exception"]) (ik := 253) (is := 255) (ic := 257) (ix := 13) (rx := ⟨#[0x2a, 0x2b, 0xb7, 0x00, 0x0d, 0xb1]⟩) (text := nth9 strX 0 "") (sa := gX Γ 80 0) (A := gA Γ) C.ex C.by C.2.2.2.2.2.2.2.2.2 (by decide +kernel) (by decide +kernel) (by decide +kernel) (by decide +kernel) C.own (by decide +kernel) (by decide +kernel) (by decide +kernel)
    (C.w ns_l.1 rfl) (C.w ns_l.2 rfl) (hK.2.2.2.1 (11, 255, 0) List.mem_cons_self) hwb ?_ hK.2.2.2.2.2.2.1 hK.2.2.2.2.2.2.2.1 (hsz.trans C.ml.symm) d1 d2 d3 d4 d5 htab ?_ ?_ hc hs C.2.2.2.2.2.2.1 ?_ hlo (by rw [e1]; exact Nat.le_refl _) (by rw [e2]; exact Nat.le_refl _)
  · intro w hw
    rcases List.mem_cons.mp hw with rfl | hw
    · rfl
    · rcases List.mem_cons.mp hw with rfl | hw
      · rfl
      · exact List.all_eq_true.mp ns_g w hw
  · show 1 + 4 < R.frames; omega
  · rw [hct]; show cats st + (13 * (1 + 2) + 43) ≤ R.locals; omega
  · intro t hW hz hq x
    refine hXC _ _ _ _ ⟨rfl, ad, ⟨fun _ => Nat.le_refl _, fun _ _ _ => rfl⟩, ?_, ?_, Or.inr ⟨x, rfl⟩⟩
    · exact Rep.more (m := newX m 6) hR hq
    · exact (hK.moved hW).kept hz (fun a ha _ => hq a ha)
theorem sd_ath (C : CX M p l9 s mm args meth c9) {j : Nat} {rest : List AV} (hth : thr9 M = true) (hdc : decode (mB M) pc = .ok (.athrow, 1)) (X : SX Γ M s m ad H locs l ls (vr 13 j :: rest) sv) (hend : EndK Γ M p l9 e R s mm args below meth c9 Q m ad cells slots (.inr (1, vr 13 j), m)) : W p l9 e R s mm args below meth c9 H locs cells slots Q (F0 mm pc ls sv) := by
  obtain ⟨hR, hK, hlo, hL, hS⟩ := X
  obtain ⟨Qc, XC, rfl, hXC⟩ := hend
  obtain ⟨w, t, rfl, hv, ht⟩ := hS.inv
  have hv0 := hv
  obtain ⟨rfl, hj⟩ := VR.rf hv
  have htab : ∀ x ∈ c9.exceptionTable.toList, covers x pc = false := by
    rw [show c9.exceptionTable.toList = tableOf (exT M) from C.2.2.2.2.2.2.2.2.1, (thr_at hth).2.1]
    exact fun x hx => nomatch hx
  obtain ⟨cell, g1, g2, g3, -⟩ := hR.1 13 j (by omega) hj
  have hKa := (hK.1.1 13 _ (vwC_at (by omega))).2.1
  exact xw_ath (E := exN 1) C.ex C.by hdc htab C.2.2.2.2.2.2.1 g1 g3 (by rw [g2]; exact hKa) (fun t ht hW => hXC _ _ _ _ ⟨rfl, ad, Ex.rf, by rw [ht]; exact hR, by rw [ht]; exact hK.moved hW, hv0⟩) hlo (by omega) (by omega)
end MAINX
