/-! Every step that goes on in the same method -/
theorem mO_all : (List.range 281).all (fun M => decide ((mY M).cls = onm (mO M))) = true := by decide +kernel
theorem aTy_8 (a : Nat) : aTy a ≠ 8 := by
  unfold aTy
  split
  · decide
  · split
    · decide
    · split
      · decide
      · split
        · rename_i q hq
          have key : ∀ q ∈ akT, q.2.1 ≠ 8 := by decide +kernel
          have hm : ∀ (l : List (Nat × Nat × Nat)) (q : Nat × Nat), l.lookup a = some q → (a, q) ∈ l := by
            intro l
            induction l with
            | nil => intro q h; cases h
            | cons z t ih =>
              intro q h
              simp only [List.lookup] at h
              split at h
              · rename_i e
                cases h
                rw [show a = z.1 by simpa using e]
                exact List.mem_cons_self
              · exact List.mem_cons_of_mem _ (ih q h)
          exact key _ (hm akT q hq)
        · decide
section NEXT
variable {Γ : Gm} {M : Nat} {p : Program} {l9 : Launch} {e : Env} {R : Room} {s : State} {mm : MethodId} {args : Array Value} {below : List Frame} {meth : Method} {c9 : Code} {Q : State → Prop} {m m1 : Mem} {ad : Nat → Nat → Nat} {cells slots pc pc1 : Nat} {l l1 : Loc9} {st s1 : List AV} {H : Heap} {locs : List Loc} {ls : Array Slot} {sv : List Value}
theorem mO_cls (M : Nat) (hM : M < 281) : (mY M).cls = onm (mO M) := of_decide_eq_true (List.all_eq_true.mp mO_all M (List.mem_range.mpr hM))
theorem sd_mt (C : CX M p l9 s mm args meth c9) {c k9 : Nat} (hd : decode (mB M) pc = .ok (.invokestatic k9, 3)) (hw : (c = 61 ∧ hasM (mO M) k9 24 1 = true) ∨ (c = 62 ∧ hasM (mO M) k9 25 1 = true) ∨ (c = 63 ∧ hasM (mO M) k9 62 1 = true)) (hfr : 16 ≤ R.frames) (hlc : 400 ≤ R.locals) (hc : cells ≤ R.cells) (hs : slots ≤ R.slots) (h : mt9 sF sN c (pc + 3) l st m = Nx pc1 l1 s1 m1) (X : SX Γ M s m ad H locs l ls st sv) (k : NX Γ M p l9 e R s mm args below meth c9 Q m ad cells slots pc1 l1 s1 m1) : Wn Γ M p l9 e R s mm args below meth c9 Q H locs cells slots pc ls sv := by
  obtain ⟨hR, hK, hlo, hL, hS⟩ := X
  have hsz : c9.maxLocals = ls.size := by
    obtain ⟨-, lv, h1, -⟩ := hL
    rw [C.ml]; exact h1.1.symm
  rcases hw with ⟨rfl, hw⟩ | ⟨rfl, hw⟩ | ⟨rfl, hw⟩
  · rcases iv_mt h with ⟨-, x, y, r, rfl, hr, rfl, rfl, rfl, rfl⟩ | ⟨q, -⟩ | ⟨q, -⟩
    · obtain ⟨w1, t1, rfl, hv1, hS1⟩ := hS.inv
      obtain ⟨w2, t2, rfl, hv2, hS2⟩ := hS1.inv
      cases (show w1 = .int y from hv1)
      cases (show w2 = .int x from hv2)
      have hct := hS2.ct
      have hw2 := hasM_w hw
      exact va_mmin C.ex C.by hsz C.own (C.w (hw2 _ (List.mem_of_getElem? (i := 0) rfl)) rfl) (C.w (hw2 _ (List.mem_of_getElem? (i := 1) rfl)) rfl) (C.w (hw2 _ (List.mem_of_getElem? (i := 2) rfl)) rfl) (C.w (cw_at (a := 24) (by omega) (by omega)) rfl) (by omega) (by rw [hct]; omega) hc hs hd (k.here hR hK hlo hL ⟨rfl, hS2⟩)
    · omega
    · omega
  · rcases iv_mt h with ⟨q, -⟩ | ⟨-, x, y, r, rfl, hr, rfl, rfl, rfl, rfl⟩ | ⟨-, q, -⟩
    · omega
    · obtain ⟨w1, t1, rfl, hv1, hS1⟩ := hS.inv
      obtain ⟨w2, t2, rfl, hv2, hS2⟩ := hS1.inv
      cases (show w1 = .int y from hv1)
      cases (show w2 = .int x from hv2)
      have hct := hS2.ct
      have hw2 := hasM_w hw
      exact va_mmax C.ex C.by hsz C.own (C.w (hw2 _ (List.mem_of_getElem? (i := 0) rfl)) rfl) (C.w (hw2 _ (List.mem_of_getElem? (i := 1) rfl)) rfl) (C.w (hw2 _ (List.mem_of_getElem? (i := 2) rfl)) rfl) (C.w (cw_at (a := 25) (by omega) (by omega)) rfl) (by omega) (by rw [hct]; omega) hc hs hd (k.here hR hK hlo hL ⟨rfl, hS2⟩)
    · omega
  · rcases iv_mt h with ⟨q, -⟩ | ⟨q, -⟩ | ⟨-, -, x, r, rfl, hr, rfl, rfl, rfl, rfl⟩
    · omega
    · omega
    · obtain ⟨w1, t1, rfl, hv1, hS1⟩ := hS.inv
      cases (show w1 = .int x from hv1)
      have hct := hS1.ct
      have hw2 := hasM_w hw
      exact va_mabs C.ex C.by hsz C.own (C.w (hw2 _ (List.mem_of_getElem? (i := 0) rfl)) rfl) (C.w (hw2 _ (List.mem_of_getElem? (i := 1) rfl)) rfl) (C.w (hw2 _ (List.mem_of_getElem? (i := 2) rfl)) rfl) (C.w (cw_at (a := 62) (by omega) (by omega)) rfl) (by omega) (by rw [hct]; omega) hc hs hd (k.here hR hK hlo hL ⟨rfl, hS1⟩)
theorem sd_k {av : AV} {w : Value} {pc2 : Nat} (hv : VR m ad av w) (h : sN pc2 l (av :: st) m = Nx pc1 l1 s1 m1) (row : Wn Γ M p l9 e R s mm args below meth c9 Q H locs cells slots pc2 ls (w :: sv) → Wn Γ M p l9 e R s mm args below meth c9 Q H locs cells slots pc ls sv) (X : SX Γ M s m ad H locs l ls st sv) (k : NX Γ M p l9 e R s mm args below meth c9 Q m ad cells slots pc1 l1 s1 m1) : Wn Γ M p l9 e R s mm args below meth c9 Q H locs cells slots pc ls sv := by
  obtain ⟨rfl, rfl, rfl, rfl⟩ := iv_n h
  obtain ⟨hR, hK, hlo, hL, hS⟩ := X
  exact row (k.here hR hK hlo hL ⟨hv, hS⟩)
set_option maxHeartbeats 4000000 in
theorem sd_next (hM : M < 281) (C : CX M p l9 s mm args meth c9) {i : Instr} {n a b c d : Nat} {L : List (Int32 × Nat)} (hE : okB M (pc, i, n, a, b, c, L) = true) (hoj : oj9 M (pc, i, n, a, b, c, L) = true) (h : stI sF sD sK sN i n a b c L d M pc l st m = Nx pc1 l1 s1 m1) (hfr : 16 ≤ R.frames) (hlc : 400 ≤ R.locals) (hc : cells + (mC m1 - mC m) ≤ R.cells) (hs : slots + (mS m1 - mS m) ≤ R.slots) (X : SX Γ M s m ad H locs l ls st sv) (k : NX Γ M p l9 e R s mm args below meth c9 Q m ad cells slots pc1 l1 s1 m1) : Wn Γ M p l9 e R s mm args below meth c9 Q H locs cells slots pc ls sv := by
  have hx := C.ex
  have hb := C.by
  simp only [okB, Bool.and_eq_true, decide_eq_true_eq] at hE
  obtain ⟨hd, hE⟩ := hE
  cases i with
  | iconst z =>
    simp only [beq_iff_eq] at hE; subst hE
    exact sd_k (av := vi (Int32.ofInt z)) (w := .int (Int32.ofInt z)) rfl h (fun q => lv_iconst hx hb hd rfl q) X k
  | bipush z =>
    simp only [beq_iff_eq] at hE; subst hE
    exact sd_k (av := vi ((Int8.ofInt z).toInt32)) (w := .int ((Int8.ofInt z).toInt32)) rfl h (fun q => lv_bipush hx hb hd rfl q) X k
  | sipush z =>
    simp only [beq_iff_eq] at hE; subst hE
    exact sd_k (av := vi ((Int16.ofInt z).toInt32)) (w := .int ((Int16.ofInt z).toInt32)) rfl h (fun q => lv_sipush hx hb hd rfl q) X k
  | lconst z =>
    simp only [beq_iff_eq] at hE; subst hE
    exact sd_k (av := vl (Int64.ofNat z.val)) (w := .long (Int64.ofNat z.val)) rfl h (fun q => lv_lconst hx hb hd rfl q) X k
  | aconst_null =>
    simp only [beq_iff_eq] at hE; subst hE
    exact sd_k (av := vn) (w := .null) rfl h (fun q => lv_null hx hb hd q) X k
  | ldc k9 =>
    simp only [Bool.and_eq_true, beq_iff_eq] at hE
    obtain ⟨rfl, hE⟩ := hE
    simp only [stI] at h
    by_cases hc0 : c = 0
    · rw [if_pos hc0] at h hE
      exact sd_k (av := vi (cI9 a)) (w := .int (cI9 a)) rfl h (fun q => lv_ldc hx hb C.own (C.w (has3i_w hE) rfl) hd q) X k
    · rw [if_neg hc0] at h hE
      obtain ⟨rfl, rfl, rfl, rfl⟩ := iv_n h
      obtain ⟨q, hq, h2⟩ := List.any_eq_true.mp hE
      obtain ⟨z, hz, rfl⟩ := List.mem_map.mp hq
      simp only [Bool.and_eq_true, beq_iff_eq] at h2
      obtain ⟨⟨e1, e2⟩, e3⟩ := h2
      have hall : ∀ q ∈ strL, q.2.2 < 9 := by decide +kernel
      have hz9 := hall z hz
      rw [e3] at hz9
      have hm : (mO M, k9, a) ∈ strL := by rw [← e1, ← e2, ← e3]; exact hz
      exact sd_ldcS C hd hm hz9 X k
  | ldc_w k9 =>
    simp only [Bool.and_eq_true, beq_iff_eq] at hE
    obtain ⟨rfl, hE⟩ := hE
    exact sd_k (av := vi (cI9 a)) (w := .int (cI9 a)) rfl h (fun q => lv_ldcw hx hb C.own (C.w (has3i_w hE) rfl) hd q) X k
  | ldc2_w k9 =>
    simp only [Bool.and_eq_true, beq_iff_eq] at hE
    obtain ⟨rfl, hE⟩ := hE
    exact sd_k (av := vl (cJ9 a)) (w := .long (cJ9 a)) rfl h (fun q => lv_ldc2 hx hb C.own (C.w (has3j_w hE) rfl) hd q) X k
  | iload k9 =>
    simp only [beq_iff_eq] at hE; subst hE
    exact sd_il h (fun x r q k2 => lv_iload hx hb hd q k2) X k
  | iload_n k9 =>
    simp only [beq_iff_eq] at hE; subst hE
    exact sd_il h (fun x r q k2 => lv_iload_n hx hb hd rfl q k2) X k
  | lload k9 =>
    simp only [beq_iff_eq] at hE; subst hE
    exact sd_ll h (fun x r q k2 => lv_lload hx hb hd q k2) X k
  | lload_n k9 =>
    simp only [beq_iff_eq] at hE; subst hE
    exact sd_ll h (fun x r q k2 => lv_lload_n hx hb hd rfl q k2) X k
  | aload k9 =>
    simp only [beq_iff_eq] at hE; subst hE
    exact sd_al h (fun x r q k2 => lv_aload hx hb hd q k2) (fun r q k2 => lv_aloadN hx hb hd q k2) X k
  | aload_n k9 =>
    simp only [beq_iff_eq] at hE; subst hE
    exact sd_al h (fun x r q k2 => lv_aload_n hx hb hd rfl q k2) (fun r q k2 => lv_aload_nN hx hb hd rfl q k2) X k
  | istore k9 =>
    simp only [beq_iff_eq] at hE; subst hE
    exact sd_is h (fun x r lv h1 h2 k2 => lv_istore hx hb hd h1 h2 rfl k2) X k
  | istore_n k9 =>
    simp only [beq_iff_eq] at hE; subst hE
    exact sd_is h (fun x r lv h1 h2 k2 => lv_istore_n hx hb hd rfl h1 h2 rfl k2) X k
  | lstore k9 =>
    simp only [beq_iff_eq] at hE; subst hE
    exact sd_ls2 h (fun x r lv h1 h2 k2 => lv_lstore hx hb hd h1 h2 rfl k2) X k
  | lstore_n k9 =>
    simp only [beq_iff_eq] at hE; subst hE
    exact sd_ls2 h (fun x r lv h1 h2 k2 => lv_lstore_n hx hb hd rfl h1 h2 rfl k2) X k
  | astore k9 =>
    simp only [beq_iff_eq] at hE; subst hE
    exact sd_as h (fun x r lv h1 h2 k2 => lv_astore hx hb hd h1 h2 rfl k2) (fun r lv h1 h2 k2 => lv_astoreN hx hb hd h1 h2 rfl k2) X k
  | astore_n k9 =>
    simp only [beq_iff_eq] at hE; subst hE
    exact sd_as h (fun x r lv h1 h2 k2 => lv_astore_n hx hb hd rfl h1 h2 rfl k2) (fun r lv h1 h2 k2 => lv_astore_nN hx hb hd rfl h1 h2 rfl k2) X k
  | iinc k9 z =>
    simp only [beq_iff_eq] at hE; subst hE
    simp only [stI] at h
    split at h
    · rename_i x hld
      obtain ⟨rfl, rfl, rfl, rfl⟩ := iv_n h
      obtain ⟨hR, hK, hlo, hL, hS⟩ := X
      obtain ⟨h0, lv, h1, h2⟩ := hL
      obtain ⟨rv, g1, g2⟩ := h2 k9 _ hld
      cases (show rv = .int x from g2)
      obtain ⟨ix, hix⟩ := List.getElem?_of_mem g1
      exact lv_iinc hx hb hd h1 hix rfl (by rw [← h0]; exact ldL_len hld) rfl (fun ls1 hl1 => k.here hR hK hlo (LR.st (ls := ls) h0 h2 (v := vi _) (rv := .int _) rfl hl1) hS)
    · exact (iv_F h).elim
  | iadd => simp only [beq_iff_eq] at hE; subst hE; exact sd_ib h (fun x y r q => lv_iadd hx hb hd q) X k
  | isub => simp only [beq_iff_eq] at hE; subst hE; exact sd_ib h (fun x y r q => lv_isub hx hb hd q) X k
  | imul => simp only [beq_iff_eq] at hE; subst hE; exact sd_ib h (fun x y r q => lv_imul hx hb hd q) X k
  | iand => simp only [beq_iff_eq] at hE; subst hE; exact sd_ib h (fun x y r q => lv_iand hx hb hd q) X k
  | ior => simp only [beq_iff_eq] at hE; subst hE; exact sd_ib h (fun x y r q => lv_ior hx hb hd q) X k
  | ixor => simp only [beq_iff_eq] at hE; subst hE; exact sd_ib h (fun x y r q => lv_ixor hx hb hd q) X k
  | ishl => simp only [beq_iff_eq] at hE; subst hE; exact sd_ib h (fun x y r q => lv_ishl hx hb hd q) X k
  | ishr => simp only [beq_iff_eq] at hE; subst hE; exact sd_ib h (fun x y r q => lv_ishr hx hb hd q) X k
  | iushr => simp only [beq_iff_eq] at hE; subst hE; exact sd_ib h (fun x y r q => lv_iushr hx hb hd rfl q) X k
  | idiv =>
    simp only [beq_iff_eq] at hE; subst hE
    simp only [stI] at h
    split at h
    · rename_i y x r
      split at h
      · exact (iv_F h).elim
      · rename_i hy
        obtain ⟨rfl, rfl, rfl, rfl⟩ := iv_n h
        obtain ⟨hR, hK, hlo, hL, hS⟩ := X
        obtain ⟨w1, t1, rfl, hv1, hS1⟩ := hS.inv
        obtain ⟨w2, t2, rfl, hv2, hS2⟩ := hS1.inv
        cases (show w1 = .int y from hv1)
        cases (show w2 = .int x from hv2)
        exact lv_idiv hx hb hd hy (k.here hR hK hlo hL ⟨rfl, hS2⟩)
    · exact (iv_F h).elim
  | irem =>
    simp only [beq_iff_eq] at hE; subst hE
    simp only [stI] at h
    split at h
    · rename_i y x r
      split at h
      · exact (iv_F h).elim
      · rename_i hy
        obtain ⟨rfl, rfl, rfl, rfl⟩ := iv_n h
        obtain ⟨hR, hK, hlo, hL, hS⟩ := X
        obtain ⟨w1, t1, rfl, hv1, hS1⟩ := hS.inv
        obtain ⟨w2, t2, rfl, hv2, hS2⟩ := hS1.inv
        cases (show w1 = .int y from hv1)
        cases (show w2 = .int x from hv2)
        exact lv_irem hx hb hd hy (k.here hR hK hlo hL ⟨rfl, hS2⟩)
    · exact (iv_F h).elim
  | ineg => simp only [beq_iff_eq] at hE; subst hE; exact sd_iu (f := fun x => vi (-x)) (g := fun x => .int (-x)) (fun _ _ _ => rfl) h (fun x r q => lv_ineg hx hb hd q) X k
  | i2l => simp only [beq_iff_eq] at hE; subst hE; exact sd_iu (f := fun x => vl x.toInt64) (g := fun x => .long x.toInt64) (fun _ _ _ => rfl) h (fun x r q => lv_i2l hx hb hd rfl q) X k
  | i2b => simp only [beq_iff_eq] at hE; subst hE; exact sd_iu (f := fun x => vi x.toInt8.toInt32) (g := fun x => .int x.toInt8.toInt32) (fun _ _ _ => rfl) h (fun x r q => lv_i2b hx hb hd rfl q) X k
  | i2c => simp only [beq_iff_eq] at hE; subst hE; exact sd_iu (f := fun x => vi (x.toUInt32 % 65536).toInt32) (g := fun x => .int (x.toUInt32 % 65536).toInt32) (fun _ _ _ => rfl) h (fun x r q => lv_i2c hx hb hd rfl q) X k
  | l2i => simp only [beq_iff_eq] at hE; subst hE; exact sd_lu (f := fun x => vi x.toInt32) (g := fun x => .int x.toInt32) (fun _ _ _ => rfl) h (fun x r q => lv_l2i hx hb hd rfl q) X k
  | lneg => simp only [beq_iff_eq] at hE; subst hE; exact sd_lu (f := fun x => vl (-x)) (g := fun x => .long (-x)) (fun _ _ _ => rfl) h (fun x r q => lv_lneg hx hb hd q) X k
  | ladd => simp only [beq_iff_eq] at hE; subst hE; exact sd_lb h (fun x y r q => lv_ladd hx hb hd q) X k
  | lsub => simp only [beq_iff_eq] at hE; subst hE; exact sd_lb h (fun x y r q => lv_lsub hx hb hd q) X k
  | lmul => simp only [beq_iff_eq] at hE; subst hE; exact sd_lb h (fun x y r q => lv_lmul hx hb hd q) X k
  | land => simp only [beq_iff_eq] at hE; subst hE; exact sd_lb h (fun x y r q => lv_land hx hb hd q) X k
  | lor => simp only [beq_iff_eq] at hE; subst hE; exact sd_lb h (fun x y r q => lv_lor hx hb hd q) X k
  | lxor => simp only [beq_iff_eq] at hE; subst hE; exact sd_lb h (fun x y r q => lv_lxor hx hb hd q) X k
  | lshl => simp only [beq_iff_eq] at hE; subst hE; exact sd_ls h (fun x y r q => lv_lshl hx hb hd rfl q) X k
  | lushr => simp only [beq_iff_eq] at hE; subst hE; exact sd_ls h (fun x y r q => lv_lushr hx hb hd rfl q) X k
  | lcmp =>
    simp only [beq_iff_eq] at hE; subst hE
    simp only [stI] at h
    split at h
    · rename_i y x r
      obtain ⟨rfl, rfl, rfl, rfl⟩ := iv_n h
      obtain ⟨hR, hK, hlo, hL, hS⟩ := X
      obtain ⟨w1, t1, rfl, hv1, hS1⟩ := hS.inv
      obtain ⟨w2, t2, rfl, hv2, hS2⟩ := hS1.inv
      cases (show w1 = .long y from hv1)
      cases (show w2 = .long x from hv2)
      exact W.lcmp hx hb hd (k.here hR hK hlo hL ⟨rfl, hS2⟩)
    · exact (iv_F h).elim
  | dup =>
    simp only [beq_iff_eq] at hE; subst hE
    simp only [stI] at h
    split at h
    · split at h
      · rename_i v r hcat
        obtain ⟨rfl, rfl, rfl, rfl⟩ := iv_n h
        obtain ⟨hR, hK, hlo, hL, hS⟩ := X
        obtain ⟨w1, t1, rfl, hv1, hS1⟩ := hS.inv
        exact lv_dup hx hb hd (by rw [hv1.cat]; exact hcat) (k.here hR hK hlo hL ⟨hv1, hv1, hS1⟩)
      · exact (iv_F h).elim
    · exact (iv_F h).elim
  | pop =>
    simp only [stI] at h
    split at h
    · split at h
      · rename_i v r hcat
        obtain ⟨rfl, hcat⟩ := hcat
        obtain ⟨rfl, rfl, rfl, rfl⟩ := iv_n h
        obtain ⟨hR, hK, hlo, hL, hS⟩ := X
        obtain ⟨w1, t1, rfl, hv1, hS1⟩ := hS.inv
        exact lv_pop hx hb hd (by rw [hv1.cat]; exact hcat) (k.here hR hK hlo hL hS1)
      · exact (iv_F h).elim
    · exact (iv_F h).elim
  | dup2 =>
    simp only [beq_iff_eq] at hE; subst hE
    simp only [stI] at h
    split at h
    · rename_i x r
      obtain ⟨rfl, rfl, rfl, rfl⟩ := iv_n h
      obtain ⟨hR, hK, hlo, hL, hS⟩ := X
      obtain ⟨w1, t1, rfl, hv1, hS1⟩ := hS.inv
      exact lv_dup2_2 hx hb hd (by rw [hv1.cat]; rfl) (k.here hR hK hlo hL ⟨hv1, hv1, hS1⟩)
    · split at h
      · rename_i v w r _ hcat
        obtain ⟨rfl, rfl, rfl, rfl⟩ := iv_n h
        obtain ⟨hR, hK, hlo, hL, hS⟩ := X
        obtain ⟨w1, t1, rfl, hv1, hS1⟩ := hS.inv
        obtain ⟨w2, t2, rfl, hv2, hS2⟩ := hS1.inv
        exact lv_dup2_11 hx hb hd (by rw [hv1.cat]; exact hcat.1) (by rw [hv2.cat]; exact hcat.2) (k.here hR hK hlo hL ⟨hv1, hv2, hv1, hv2, hS2⟩)
      · exact (iv_F h).elim
    · exact (iv_F h).elim
  | goto o =>
    simp only [Bool.and_eq_true, beq_iff_eq, decide_eq_true_eq] at hE
    obtain ⟨rfl, ht⟩ := hE
    obtain ⟨rfl, rfl, rfl, rfl⟩ := iv_n h
    obtain ⟨hR, hK, hlo, hL, hS⟩ := X
    exact lv_goto hx hb hd ht (k.here hR hK hlo hL hS)
  | if_icmp cd o =>
    simp only [Bool.and_eq_true, beq_iff_eq, decide_eq_true_eq] at hE
    obtain ⟨rfl, ht⟩ := hE
    cases cd with
    | eq => exact sd_ic h (fun x y r k1 k2 => lv_icmp_eq hx hb hd ht (fun q => k1 (by simpa using q)) (fun q => k2 (by simpa using q))) X k
    | ne => exact sd_ic h (fun x y r k1 k2 => lv_icmp_ne hx hb hd ht (fun q => k1 (by simpa using q)) (fun q => k2 (by simpa using q))) X k
    | lt => exact sd_ic h (fun x y r k1 k2 => lv_icmp_lt hx hb hd ht (fun q => k1 (by simpa using q)) (fun q => k2 (by simpa using q))) X k
    | ge => exact sd_ic h (fun x y r k1 k2 => lv_icmp_ge hx hb hd ht (fun q => k1 (by simpa using q)) (fun q => k2 (by simpa using q))) X k
    | gt => exact sd_ic h (fun x y r k1 k2 => lv_icmp_gt hx hb hd ht (fun q => k1 (by simpa using q)) (fun q => k2 (by simpa using q))) X k
    | le => exact sd_ic h (fun x y r k1 k2 => lv_icmp_le hx hb hd ht (fun q => k1 (by simpa using q)) (fun q => k2 (by simpa using q))) X k
  | ifCond cd o =>
    simp only [Bool.and_eq_true, beq_iff_eq, decide_eq_true_eq] at hE
    obtain ⟨rfl, ht⟩ := hE
    cases cd with
    | eq => exact sd_if h (fun x r k1 k2 => lv_if_eq hx hb hd ht (fun q => k1 (by simpa using q)) (fun q => k2 (by simpa using q))) X k
    | ne => exact sd_if h (fun x r k1 k2 => lv_if_ne hx hb hd ht (fun q => k1 (by simpa using q)) (fun q => k2 (by simpa using q))) X k
    | lt => exact sd_if h (fun x r k1 k2 => lv_if_lt hx hb hd ht (fun q => k1 (by simpa using q)) (fun q => k2 (by simpa using q))) X k
    | ge => exact sd_if h (fun x r k1 k2 => lv_if_ge hx hb hd ht (fun q => k1 (by simpa using q)) (fun q => k2 (by simpa using q))) X k
    | gt => exact sd_if h (fun x r k1 k2 => lv_if_gt hx hb hd ht (fun q => k1 (by simpa using q)) (fun q => k2 (by simpa using q))) X k
    | le => exact sd_if h (fun x r k1 k2 => lv_if_le hx hb hd ht (fun q => k1 (by simpa using q)) (fun q => k2 (by simpa using q))) X k
  | ifnonnull o =>
    simp only [Bool.and_eq_true, beq_iff_eq, decide_eq_true_eq] at hE
    obtain ⟨rfl, ht⟩ := hE
    simp only [stI] at h
    split at h
    · obtain ⟨rfl, rfl, rfl, rfl⟩ := iv_n h
      obtain ⟨hR, hK, hlo, hL, hS⟩ := X
      obtain ⟨w1, t1, rfl, hv1, hS1⟩ := hS.inv
      obtain ⟨rfl, -⟩ := VR.rf (a := _) (j := _) hv1
      exact lv_ifnonnull hx hb hd ht (k.here hR hK hlo hL hS1)
    · obtain ⟨rfl, rfl, rfl, rfl⟩ := iv_n h
      obtain ⟨hR, hK, hlo, hL, hS⟩ := X
      obtain ⟨w1, t1, rfl, hv1, hS1⟩ := hS.inv
      cases (show w1 = .null from hv1)
      exact lv_ifnonnullN hx hb hd (k.here hR hK hlo hL hS1)
    · exact (iv_F h).elim
  | ifnull o =>
    simp only [Bool.and_eq_true, beq_iff_eq, decide_eq_true_eq] at hE
    obtain ⟨rfl, ht⟩ := hE
    simp only [stI] at h
    split at h
    · obtain ⟨rfl, rfl, rfl, rfl⟩ := iv_n h
      obtain ⟨hR, hK, hlo, hL, hS⟩ := X
      obtain ⟨w1, t1, rfl, hv1, hS1⟩ := hS.inv
      obtain ⟨rfl, -⟩ := VR.rf (a := _) (j := _) hv1
      exact lv_ifnull hx hb hd (k.here hR hK hlo hL hS1)
    · obtain ⟨rfl, rfl, rfl, rfl⟩ := iv_n h
      obtain ⟨hR, hK, hlo, hL, hS⟩ := X
      obtain ⟨w1, t1, rfl, hv1, hS1⟩ := hS.inv
      cases (show w1 = .null from hv1)
      exact lv_ifnullN hx hb hd ht (k.here hR hK hlo hL hS1)
    · exact (iv_F h).elim
  | tableswitch df lo hi offs =>
    simp only [Bool.and_eq_true, decide_eq_true_eq] at hE
    obtain ⟨⟨h1, h2⟩, h3⟩ := hE
    simp only [stI] at h
    split at h
    · rename_i x r
      obtain ⟨rfl, rfl, rfl, rfl⟩ := iv_swK h
      obtain ⟨hR, hK, hlo, hL, hS⟩ := X
      obtain ⟨w1, t1, rfl, hv1, hS1⟩ := hS.inv
      cases (show w1 = .int x from hv1)
      have kk := k.here hR hK hlo hL hS1
      obtain ⟨g1, g2⟩ := sw9_at (x := x) (d := a) h3
      rw [show (offs.toList.length : Int) = (offs.size : Int) by simp] at g1 g2
      by_cases hq : x.toInt < lo ∨ hi < x.toInt
      · have e1 := g1 (by omega)
        rw [e1] at kk
        exact lv_tableOut hx hb hd hq h1 kk
      · obtain ⟨o, e1, e2⟩ := g2 (by omega) (by omega)
        exact lv_tableIn hx hb hd (by omega) (by omega) (by simpa using e1) e2 kk
    · exact (iv_F h).elim
  | getfield k9 =>
    simp only [Bool.and_eq_true, beq_iff_eq] at hE
    obtain ⟨rfl, hE⟩ := hE
    by_cases h80 : a = 80
    · subst h80
      simp only [if_true, Bool.and_eq_true, Bool.or_eq_true, beq_iff_eq] at hE
      refine sd_getS C hd hE.1 ?_ h X k
      rcases hE.2 with q | q
      · exact Or.inl ⟨q.1.1, q.1.2⟩
      · exact Or.inr ⟨q.1.1, q.1.2⟩
    · rw [if_neg h80] at hE
      simp only [Bool.and_eq_true, Bool.or_eq_true, beq_iff_eq, decide_eq_true_eq] at hE
      exact sd_getf C hd hE.1.1.1 hE.1.1.2 hE.1.2 hE.2 h X k
  | putfield k9 =>
    simp only [Bool.and_eq_true, Bool.or_eq_true, beq_iff_eq, decide_eq_true_eq, Bool.not_eq_true'] at hE
    obtain ⟨⟨⟨⟨rfl, ha⟩, hb9⟩, hc9⟩, hw⟩ := hE
    have hl := fcd_lt a ha b hb9
    refine sd_putf C hd ha hb9 hc9 (by omega) ?_ h X k
    rcases hw with ⟨q1, q2⟩ | ⟨q1, q2⟩
    · exact Or.inl ⟨q1, q2⟩
    · refine Or.inr ⟨q1, ?_⟩
      rcases q2 with q2 | ⟨q2, q3⟩
      · exact Or.inl q2
      · exact Or.inr ⟨C.2.2.2.2.2.2.2.1.trans q2, q3.trans (mO_cls M hM)⟩
  | getstatic k9 =>
    simp only [Bool.and_eq_true, Bool.or_eq_true, beq_iff_eq] at hE
    obtain ⟨rfl, hE⟩ := hE
    simp only [stI] at h
    have hK := X.2.1
    have hR := X.1
    rcases hE with (⟨⟨rfl, ho⟩, hk⟩ | ⟨rfl, hk⟩) | ⟨⟨⟨rfl, rfl⟩, ho⟩, rfl⟩
    · have hwy : ∃ q, q < 4 ∧ k9 = nth9 [47, 50, 57, 60] q 0 ∧ a = 90 + q := by
        rcases hk with ((⟨rfl, rfl⟩ | ⟨rfl, rfl⟩) | ⟨rfl, rfl⟩) | ⟨rfl, rfl⟩
        · exact ⟨0, by omega, rfl, rfl⟩
        · exact ⟨1, by omega, rfl, rfl⟩
        · exact ⟨2, by omega, rfl, rfl⟩
        · exact ⟨3, by omega, rfl, rfl⟩
      obtain ⟨q, hq, rfl, rfl⟩ := hwy
      obtain ⟨rfl, rfl, rfl, rfl⟩ := iv_n h
      refine sd_gets C (a := 0) hd (own := "WholeFields$Walker") (by rw [ho]; rfl) (lk_wy q hq) (hK.2.2.2.2.2.1 q hq).1 X ?_ k
      exact ⟨by rw [hR.2.2.2.2.1 (90 + q) 0 (by omega)], by rw [hR.2.2.2.2.2.1 (90 + q) (by omega), eK_one (Or.inr ⟨by omega, by omega⟩)]; omega⟩
    · obtain ⟨rfl, rfl, rfl, rfl⟩ := iv_n h
      have fin : ∀ (own C9 n d : String), onm (mO M) = own → Cond.fieldLink own k9 C9 n d ∈ lw_tbl → va_Zq C9 n d (gA Γ) s H → Wn Γ M p l9 e R s mm args below meth c9 Q H locs cells slots pc ls sv := by
        intro own C9 n d h1 h2 h3
        rcases h3 with h3 | ⟨t, h3⟩
        · exact sd_gets C (a := 0) (av := vu) hd h1 h2 h3 X (Or.inl rfl) k
        · exact sd_gets C (a := 0) (av := vu) hd h1 h2 h3 X (Or.inr ⟨t, rfl⟩) k
      rcases hk with ⟨ho, rfl | rfl⟩ | ⟨ho, rfl⟩
      · exact fin "java/lang/Throwable" _ _ _ (by rw [ho]; rfl) lk_us hK.2.2.2.2.2.2.1.1
      · exact fin "java/lang/Throwable" _ _ _ (by rw [ho]; rfl) lk_ss hK.2.2.2.2.2.2.2.1.1
      · exact fin "java/lang/String" _ _ _ (by rw [ho]; rfl) lk_pf hK.2.2.2.2.2.2.2.2.1
    · obtain ⟨rfl, rfl, rfl, rfl⟩ := iv_n h
      exact sd_gets C (a := 0) (av := vi (Int32.ofNat 1)) hd (own := "java/lang/String") (by rw [ho]; rfl) lk_cs hK.2.2.2.2.2.2.2.2.2.1 X rfl k
  | iaload => simp only [beq_iff_eq] at hE; subst hE; exact sd_iald C hd h X k
  | baload => simp only [beq_iff_eq] at hE; subst hE; exact sd_bald C hd h X k
  | laload => simp only [beq_iff_eq] at hE; subst hE; exact sd_lald C hd h X k
  | iastore => simp only [beq_iff_eq] at hE; subst hE; exact sd_iast C hd h X k
  | bastore => simp only [beq_iff_eq] at hE; subst hE; exact sd_bast C hd h X k
  | lastore => simp only [beq_iff_eq] at hE; subst hE; exact sd_last C hd h X k
  | arraylength =>
    simp only [beq_iff_eq] at hE; subst hE
    simp only [stI] at h
    split at h
    · rename_i q r
      split at h
      · rename_i ht
        obtain ⟨rfl, rfl, rfl, rfl⟩ := iv_n h
        exact sd_alen C hd (a := q.1) (j := q.2) ht.1 ht.2 X k
      · exact (iv_F h).elim
    · exact (iv_F h).elim
  | new k9 =>
    simp only [Bool.and_eq_true, Bool.or_eq_true, beq_iff_eq, decide_eq_true_eq] at hE
    obtain ⟨rfl, hE⟩ := hE
    simp only [stI] at h
    split at h
    · split at h <;> cases h
    · rename_i hc77
      rcases hE with ⟨⟨⟨-, ha⟩, rfl⟩, hw⟩ | ⟨⟨q, -⟩, -⟩
      · obtain ⟨rfl, rfl, rfl, rfl⟩ := iv_n h
        rw [newM_C.1] at hc
        rw [newM_C.2] at hs
        exact sd_new C hd ha hw hc hs X k
      · exact absurd q hc77
  | newarray t =>
    simp only [Bool.and_eq_true, beq_iff_eq] at hE
    obtain ⟨rfl, hE⟩ := hE
    have h3 : c < 4 := by
      obtain ⟨x, r, -, ⟨-, hty, -, h80⟩, -⟩ := iv_nwa h
      cases t <;> simp only at hE <;> first | omega | (subst hE; exfalso; exact aTy_8 a hty)
    refine sd_nwa C hd ?_ h3 h hc hs X k
    cases t <;> simp only at hE <;> first | (subst hE; rfl) | omega
  | invokevirtual k9 =>
    exfalso
    simp only [Bool.and_eq_true, Bool.or_eq_true, beq_iff_eq, decide_eq_true_eq] at hE
    rcases iv_inv h with ⟨rfl, -⟩ | ⟨rfl, -⟩ | ⟨q1, q2, -⟩ <;> rcases hE.2 with q | q <;> omega
  | invokestatic k9 =>
    simp only [Bool.and_eq_true, Bool.or_eq_true, beq_iff_eq, decide_eq_true_eq] at hE
    obtain ⟨rfl, hE⟩ := hE
    rcases iv_inv h with ⟨rfl, -⟩ | ⟨rfl, h2⟩ | ⟨q1, q2, h2⟩
    · exfalso; omega
    · have ho : mO M = 4 ∧ k9 = 168 := by omega
      obtain ⟨ho, rfl⟩ := ho
      exact sd_cp C ho hd hfr hlc h2 X k
    · exact sd_mt C hd (by
        rcases hE with ((((q | q) | q) | q) | q) | q
        · omega
        · omega
        · exact Or.inl ⟨q.1.1, q.2⟩
        · exact Or.inr (Or.inl ⟨q.1.1, q.2⟩)
        · exact Or.inr (Or.inr ⟨q.1.1, q.2⟩)
        · omega) hfr hlc (by omega) (by omega) h2 X k
  | invokespecial k9 =>
    simp only [Bool.and_eq_true, Bool.or_eq_true, beq_iff_eq, decide_eq_true_eq] at hE
    obtain ⟨rfl, hE⟩ := hE
    rcases iv_inv h with ⟨rfl, q, r, rfl, hr, rfl, rfl, rfl, rfl⟩ | ⟨rfl, -⟩ | ⟨q1, q2, -⟩
    · have hw : (mO M, k9) ∈ ojL := by simpa [oj9] using hoj
      exact sd_obj C hd hw hr hfr hlc X k
    · exfalso; omega
    · exfalso; omega
  | athrow =>
    exfalso
    simp only [stI] at h
    split at h
    · split at h
      · split at h <;> cases h
      · cases h
    · cases h
  | ireturn =>
    exfalso
    simp only [stI, irt9] at h
    split at h
    · split at h
      · cases h
      · split at h <;> cases h
      · split at h <;> cases h
      · split at h <;> cases h
    · cases h
  | lreturn => exfalso; simp only [stI] at h; split at h <;> cases h
  | areturn => exfalso; simp only [stI] at h; split at h <;> cases h
  | return_ => exfalso; simp only [stI] at h; split at h <;> cases h
  | _ => exfalso; cases h
end NEXT
