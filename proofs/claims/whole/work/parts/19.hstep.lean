/-! Steps that read or write the heap -/
theorem fnOK : fnL.all (fun q => nwF.any (fun z => decide (z.1 = onm q.1 ∧ z.2.1 = q.2.1 ∧ z.2.2.1 = ((clT q.2.2.1).2.1 q.2.2.2).1 ∧ z.2.2.2.1 = ((clT q.2.2.1).2.1 q.2.2.2).2.1 ∧ z.2.2.2.2.1 = ((clT q.2.2.1).2.1 q.2.2.2).2.2.1))) = true := by decide +kernel
theorem hasN_w {o i a b : Nat} (h : hasN o i a b = true) {U : State} (hU : ∀ q ∈ nwF, va_Nw (cfw q) U) : ∃ host : String, va_Nw (.fieldLinkNest (onm o) i ((clT a).2.1 b).1 ((clT a).2.1 b).2.1 ((clT a).2.1 b).2.2.1 host) U := by
  obtain ⟨q, hq, h2⟩ := List.any_eq_true.mp h
  simp only [Bool.and_eq_true, beq_iff_eq] at h2
  obtain ⟨⟨⟨rfl, rfl⟩, rfl⟩, rfl⟩ := h2
  obtain ⟨z, hz, h3⟩ := List.any_eq_true.mp (List.all_eq_true.mp fnOK q hq)
  obtain ⟨e1, e2, e3, e4, e5⟩ := of_decide_eq_true h3
  have h4 := hU z hz
  unfold cfw at h4
  rw [e1, e2, e3, e4, e5] at h4
  exact ⟨_, h4⟩
theorem inR_in {i : Int32} {n : Nat} (h : inR i n = true) : ¬ (i < 0 ∨ n ≤ i.toNatClampNeg) := by
  simp only [inR, Bool.and_eq_true, decide_eq_true_eq] at h
  intro q
  rcases q with q | q
  · exact absurd h.1 (Int32.not_le.mpr q)
  · omega
theorem aTy_lo {k : Nat} (h : k < 20) : aTy k = 9 := by
  have key : ∀ k : Nat, k < 20 → aTy k = 9 := by decide +kernel
  exact key k h
theorem aTy_20 {k : Nat} (h : aTy k ≤ 3) : 20 ≤ k := by
  by_cases e : k < 20
  · rw [aTy_lo e] at h; omega
  · omega
section HS
variable {Γ : Gm} {M : Nat} {p : Program} {l9 : Launch} {e : Env} {R : Room} {s : State} {mm : MethodId} {args : Array Value} {below : List Frame} {meth : Method} {c9 : Code} {Q : State → Prop} {m m1 : Mem} {ad : Nat → Nat → Nat} {cells slots pc pc1 : Nat} {l l1 : Loc9} {st s1 : List AV} {H : Heap} {locs : List Loc} {ls : Array Slot} {sv : List Value}
theorem sd_getf (C : CX M p l9 s mm args meth c9) {a b c k9 : Nat} (hd : decode (mB M) pc = .ok (.getfield k9, 3)) (ha : a < 15) (hb : b < (clT a).2.2) (hw : hasF (mO M) k9 a b = true ∨ hasN (mO M) k9 a b = true) (hc : c = fcd (tyT a b)) (h : gtf9 sF sN a b c (pc + 3) l st m = Nx pc1 l1 s1 m1) (X : SX Γ M s m ad H locs l ls st sv) (k : NX Γ M p l9 e R s mm args below meth c9 Q m ad cells slots pc1 l1 s1 m1) : Wn Γ M p l9 e R s mm args below meth c9 Q H locs cells slots pc ls sv := by
  obtain ⟨j, r, rfl, rfl, rfl, rfl, rfl⟩ := iv_gtf h
  obtain ⟨hR, hK, hlo, hL, hS⟩ := X
  obtain ⟨w, t, rfl, hv, hS1⟩ := hS.inv
  obtain ⟨rfl, hj⟩ := (hv : w = .ref (ad a j) ∧ j < mK m1 a)
  obtain ⟨cell, q1, q2, q3, q4⟩ := hR.1 a j ha hj
  obtain ⟨v, g1, g2⟩ := q4 b hb
  obtain ⟨hSl, hfc, kC, hkC, hkind⟩ := hK.1.1 a _ (vwC_at ha)
  obtain ⟨cf, kf, fi, f, hi, hsl⟩ := hSl b hb
  have hst := (u_facts hfc hkC (u_lays C.ws (cls_at ha).1 hb) hi).1
  subst hc
  have kk := k.here (sv1 := v :: t) hR hK hlo hL ⟨g2, hS1⟩
  rcases hw with hw | hw
  · exact W.getf C.ex C.by C.own (C.w (hasF_w hw) rfl) hi hst q1 (by rw [q3]; exact fun z => by cases z) (by rw [hsl]; exact g1) rfl rfl hd kk
  · obtain ⟨host, hn⟩ := hasN_w hw hK.2.1
    exact va_Wgetf C.ex C.by C.own (va_Nw.use rfl hn) hi hst q1 (by rw [q3]; exact fun z => by cases z) (by rw [hsl]; exact g1) rfl rfl hd kk
theorem lk_sv : Cond.fieldLink "java/lang/String" 9 "java/lang/String" "value" "[B" ∈ lw_tbl := by decide +kernel
theorem lk_sc : Cond.fieldLink "java/lang/String" 15 "java/lang/String" "coder" "B" ∈ lw_tbl := by decide +kernel
theorem eK_str {L : Nat} : eKn L 80 = 9 ∧ eKn L 81 = 9 := ⟨rfl, rfl⟩
theorem sd_getS (C : CX M p l9 s mm args meth c9) {b c k9 : Nat} (hd : decode (mB M) pc = .ok (.getfield k9, 3)) (ho : mO M = 21) (hw : (k9 = 9 ∧ b = 0) ∨ (k9 = 15 ∧ b = 1)) (h : gtf9 sF sN 80 b c (pc + 3) l st m = Nx pc1 l1 s1 m1) (X : SX Γ M s m ad H locs l ls st sv) (k : NX Γ M p l9 e R s mm args below meth c9 Q m ad cells slots pc1 l1 s1 m1) : Wn Γ M p l9 e R s mm args below meth c9 Q H locs cells slots pc ls sv := by
  obtain ⟨j, r, rfl, rfl, rfl, rfl, rfl⟩ := iv_gtf h
  obtain ⟨hR, hK, hlo, hL, hS⟩ := X
  obtain ⟨w, t, rfl, hv, hS1⟩ := hS.inv
  obtain ⟨rfl, hj⟩ := (hv : w = .ref (ad 80 j) ∧ j < mK m1 80)
  have hj9 : j < 9 := by rw [hR.2.2.2.2.2.1 80 (by omega)] at hj; exact hj
  have ea := hR.2.2.2.2.1 80 j (by omega)
  have eb := hR.2.2.2.2.1 81 j (by omega)
  have hown := C.own
  rw [ho] at hown
  obtain ⟨-, hco, hva, -⟩ := hK.2.2.2.2.1.1 j hj9
  rcases hw with ⟨rfl, rfl⟩ | ⟨rfl, rfl⟩
  · obtain ⟨cf, kk, fi, f, cell, h1, h2, h3, h4, h5, -⟩ := hva
    rw [← ea] at h3
    refine W.getf C.ex C.by hown (C.w lk_sv rfl) h1 h2 h3 h4 h5 rfl rfl hd (k.here (sv1 := .ref (gX Γ 81 j) :: t) hR hK hlo hL ⟨?_, hS1⟩)
    exact ⟨by rw [eb], by rw [hR.2.2.2.2.2.1 81 (by omega)]; exact hj9⟩
  · obtain ⟨cf, kk, fi, f, cell, h1, h2, h3, h4, h5, -⟩ := hco
    rw [← ea] at h3
    exact W.getf C.ex C.by hown (C.w lk_sc rfl) h1 h2 h3 h4 h5 rfl rfl hd (k.here (sv1 := .int 0 :: t) hR hK hlo hL ⟨rfl, hS1⟩)
/-- what a put of v writes -/
theorem pf9_spec {a b c j : Nat} {v : AV} {m2 : Mem} (h : pf9 m a b c j v = some m2) (ha : a < 80) : mK m2 = mK m ∧ mC m2 = mC m ∧ mS m2 = mS m ∧ (∀ x y z, (x ≠ a ∨ y ≠ j ∨ z ≠ b) → mI m2 x y z = mI m x y z ∧ mJ m2 x y z = mJ m x y z ∧ mR m2 x y z = mR m x y z) ∧
    ((c = 0 ∧ (∃ x, v = .inl x) ∧ gf9 m2 a b c j = v) ∨ (c = 1 ∧ (∃ x, v = .inr (.inl x)) ∧ gf9 m2 a b c j = v) ∨ (c = 2 ∧ (∃ x, v = .inr (.inr x)) ∧ gf9 m2 a b c j = v) ∨ (2 < c ∧ (v = .inl 0 ∨ v = .inl 1) ∧ gf9 m2 a b c j = v)) := by
  unfold pf9 at h
  rw [if_neg (by omega)] at h
  have hne : ¬ a = 80 := by omega
  split at h
  · split at h
    · cases h
      refine ⟨rfl, rfl, rfl, fun x y z hx => ⟨up3_ne hx, rfl, rfl⟩, Or.inl ⟨rfl, ⟨_, rfl⟩, ?_⟩⟩
      simp only [gf9, if_neg hne]; exact congrArg Sum.inl up3_eq
    · cases h
  · split at h
    · cases h
      refine ⟨rfl, rfl, rfl, fun x y z hx => ⟨rfl, up3_ne hx, rfl⟩, Or.inr (Or.inl ⟨rfl, ⟨_, rfl⟩, ?_⟩)⟩
      simp only [gf9, if_neg hne]; exact congrArg (fun z => Sum.inr (Sum.inl z)) up3_eq
    · cases h
  · split at h
    · cases h
      refine ⟨rfl, rfl, rfl, fun x y z hx => ⟨rfl, rfl, up3_ne hx⟩, Or.inr (Or.inr (Or.inl ⟨rfl, ⟨_, rfl⟩, ?_⟩))⟩
      simp only [gf9, if_neg hne]; exact congrArg (fun z => Sum.inr (Sum.inr z)) up3_eq
    · cases h
  · rename_i n0 n1 n2
    have hc : 2 < c := by
      rcases c with _ | _ | _ | c
      · exact absurd rfl n0
      · exact absurd rfl n1
      · exact absurd rfl n2
      · omega
    split at h
    · split at h
      · rename_i x hx
        cases h
        refine ⟨rfl, rfl, rfl, fun x y z hx => ⟨up3_ne hx, rfl, rfl⟩, Or.inr (Or.inr (Or.inr ⟨hc, ?_, ?_⟩))⟩
        · rcases hx with rfl | rfl
          · exact Or.inl rfl
          · exact Or.inr rfl
        · unfold gf9
          rw [if_neg hne]
          split
          · omega
          · omega
          · exact congrArg Sum.inl up3_eq
      · cases h
    · cases h
theorem fit9 {t : FieldType} {v : AV} {w : Value} (hv : VR m ad v w) (h : (fcd t = 0 ∧ ∃ x, v = .inl x) ∨ (fcd t = 1 ∧ ∃ x, v = .inr (.inl x)) ∨ (fcd t = 2 ∧ ∃ x, v = .inr (.inr x)) ∨ (2 < fcd t ∧ fcd t < 9 ∧ (v = .inl 0 ∨ v = .inl 1))) : narrow t w = w ∧ fits t w = true := by
  rcases h with ⟨h1, x, rfl⟩ | ⟨h1, x, rfl⟩ | ⟨h1, x, rfl⟩ | ⟨h1, h3, rfl | rfl⟩
  · cases (show w = .int x from hv)
    cases t <;> first | (simp [fcd] at h1; done) | exact ⟨rfl, rfl⟩
  · cases (show w = .long x from hv)
    cases t <;> first | (simp [fcd] at h1; done) | exact ⟨rfl, rfl⟩
  · rcases hv.rq with rfl | ⟨a, rfl⟩ <;> cases t <;> first | (simp [fcd] at h1; done) | exact ⟨rfl, rfl⟩
  · cases (show w = .int 0 from hv)
    cases t <;> first | (simp [fcd] at h1 h3; done) | exact ⟨by decide, by decide⟩
  · cases (show w = .int 1 from hv)
    cases t <;> first | (simp [fcd] at h1 h3; done) | exact ⟨by decide, by decide⟩
theorem sd_putf (C : CX M p l9 s mm args meth c9) {a b c k9 : Nat} (hd : decode (mB M) pc = .ok (.putfield k9, 3)) (ha : a < 15) (hb : b < (clT a).2.2) (hc : c = fcd (tyT a b)) (hc9 : c < 9)
    (hw : (hasN (mO M) k9 a b = true ∧ ((clT a).2.1 b).2.2.2 = false) ∨ (hasF (mO M) k9 a b = true ∧ (((clT a).2.1 b).2.2.2 = false ∨ (meth.name = "<init>" ∧ ((clT a).2.1 b).1 = onm (mO M))))) (h : ptf9 sF sN a b c (pc + 3) l st m = Nx pc1 l1 s1 m1) (X : SX Γ M s m ad H locs l ls st sv) (k : NX Γ M p l9 e R s mm args below meth c9 Q m ad cells slots pc1 l1 s1 m1) : Wn Γ M p l9 e R s mm args below meth c9 Q H locs cells slots pc ls sv := by
  obtain ⟨v, j, r, m2, rfl, hpf, rfl, rfl, rfl, rfl⟩ := iv_ptf h
  obtain ⟨hR, hK, hlo, hL, hS⟩ := X
  obtain ⟨w0, t0, rfl, hv0, hS1⟩ := hS.inv
  obtain ⟨w, t, rfl, hv, hS2⟩ := hS1.inv
  obtain ⟨rfl, hj⟩ := (hv : w = .ref (ad a j) ∧ j < mK m a)
  obtain ⟨cell, q1, q2, q3, q4⟩ := hR.1 a j ha hj
  obtain ⟨v1, g1, -⟩ := q4 b hb
  have hKa := hK.1.1 a _ (vwC_at ha)
  obtain ⟨hSl, hfc, kC, hkC, hkind⟩ := hKa
  obtain ⟨cf, kf, fi, f, hi, hsl⟩ := hSl b hb
  have hst := (u_facts hfc hkC (u_lays C.ws (cls_at ha).1 hb) hi).1
  have hap := va_apart (own := onm (mO M)) C.ws (cls_at ha).1 (tyT a) (cln_at ha).2 (cln_at ha).1 hK.1 (vwC_at ha)
  obtain ⟨k1, k2, k3, k4, k5⟩ := pf9_spec hpf (by omega)
  have hnf : narrow (tyT a b) w0 = w0 ∧ fits (tyT a b) w0 = true := by
    refine fit9 (m := m) (ad := ad) hv0 ?_
    rcases k5 with ⟨e1, e2, -⟩ | ⟨e1, e2, -⟩ | ⟨e1, e2, -⟩ | ⟨e1, e2, -⟩
    · exact Or.inl ⟨by omega, e2⟩
    · exact Or.inr (Or.inl ⟨by omega, e2⟩)
    · exact Or.inr (Or.inr (Or.inl ⟨by omega, e2⟩))
    · exact Or.inr (Or.inr (Or.inr ⟨by omega, by omega, e2⟩))
  have hgv : gf9 m1 a b (fcd (tyT a b)) j = v := by
    rw [← hc]
    rcases k5 with ⟨-, -, e⟩ | ⟨-, -, e⟩ | ⟨-, -, e⟩ | ⟨-, -, e⟩ <;> exact e
  have hdd := (cln_at ha).2 b hb
  have hlt : f.slot < cell.slots.size := by rw [hsl]; exact k2_hasslot g1
  have fin : ∀ H2 : Heap, H2[ad a j]? = some (cell.setSlot f.slot w0) → H2.size = H.size → (∀ q, q ≠ ad a j → H2[q]? = H[q]?) → W p l9 e R s mm args below meth c9 H2 (locs ++ [⟨ad a j, f.slot⟩]) cells slots Q (F0 mm (pc + 3) ls t) := by
    intro H2 e1 e2 e3
    rw [hsl] at e1
    have hR2 : Rep Γ m1 ad H2 := hR.put ha hj k1 q1 e1 e3 hb hap k4 (by rw [hgv]; exact hv0)
    have hx : Ex m ad m1 ad := Ex.same k1
    have kk := k ad H2 (locs ++ [⟨ad a j, f.slot⟩]) ls t hx ⟨hR2, hK.kept (Nat.le_of_eq e2.symm) (fun q hq hn => e3 q (fun z => hn (by rw [z]; exact hR.2.2.1 a j (by omega) hj))), fun q hq => by
      rcases List.mem_append.mp hq with hq | hq
      · exact hlo q hq
      · cases List.mem_singleton.mp hq
        exact hR.2.2.1 a j (by omega) hj, hL.ex hx, hS2.ex hx⟩
    rw [k2, k3] at kk
    simpa using kk
  rcases hw with ⟨hw, hf⟩ | ⟨hw, hf⟩
  · obtain ⟨host, hn⟩ := hasN_w hw hK.2.1
    have hlay := C.ws _ ((cls_at ha).1 _ (u_in_lay hb))
    unfold u_lay at hlay
    rw [if_neg (by rw [hf]; decide)] at hlay
    exact va_WputK C.ex C.by (f := f) C.own (va_Nw.use rfl hn) hi hst (by rw [q2]; exact u_store hfc hkC hkind hlay hi hdd hnf.1 hnf.2) q1 q3 hlt rfl rfl hd fin
  · by_cases hfin : ((clT a).2.1 b).2.2.2 = false
    · have hlay := C.ws _ ((cls_at ha).1 _ (u_in_lay hb))
      unfold u_lay at hlay
      rw [if_neg (by rw [hfin]; decide)] at hlay
      exact W.putK C.ex C.by (f := f) ⟨C.own, C.w (hasF_w hw) rfl, ⟨_, _, _, hi⟩, hst⟩ (by rw [q2]; exact u_store hfc hkC hkind hlay hi hdd hnf.1 hnf.2) q1 q3 hlt rfl rfl hd fin
    · have hf2 : meth.name = "<init>" ∧ ((clT a).2.1 b).1 = onm (mO M) := by
        rcases hf with hf | hf
        · exact absurd hf hfin
        · exact hf
      have hlay := C.ws _ ((cls_at ha).1 _ (u_in_lay hb))
      unfold u_lay at hlay
      rw [if_pos (by simpa using hfin)] at hlay
      have hcf : mm.cls = cf := by
        obtain ⟨_, _, c', _, _, _, -, -, hf', -, -, -, hown2, -⟩ := Cond.laysFinal_spec hlay
        have e1 : c' = cf := by have := hi.symm.trans hf'; simp at this; exact this.1.symm
        rw [hf2.2] at hown2
        rw [← e1]; exact Option.some.inj (C.own.symm.trans hown2)
      exact W.putFinK C.ex C.by C.own (C.w (hasF_w hw) rfl) hi hst hcf hf2.1 (by rw [q2]; exact u_fits hfc hkC hkind (Or.inr hlay) hi hdd hnf.1 hnf.2) q1 q3 hlt rfl rfl hd fin
end HS
