/-! New things, statics, constants, Object's making, a copy of places -/
section NW
variable {Γ : Gm} {M : Nat} {p : Program} {l9 : Launch} {e : Env} {R : Room} {s : State} {mm : MethodId} {args : Array Value} {below : List Frame} {meth : Method} {c9 : Code} {Q : State → Prop} {m m1 : Mem} {ad : Nat → Nat → Nat} {cells slots pc pc1 : Nat} {l l1 : Loc9} {st s1 : List AV} {H : Heap} {locs : List Loc} {ls : Array Slot} {sv : List Value}
theorem newM_C {k n : Nat} : mC (newM m k n) - mC m = 1 ∧ mS (newM m k n) - mS m = n := by
  constructor
  · show mC m + 1 - mC m = 1; omega
  · show mS m + n - mS m = n; omega
theorem fcd_lt : ∀ a, a < 15 → ∀ i, i < (clT a).2.2 → fcd (tyT a i) < 4 := by decide +kernel
theorem sd_new (C : CX M p l9 s mm args meth c9) {a k9 : Nat} (hd : decode (mB M) pc = .ok (.new k9, 3)) (ha : a < 15) (hw : has3 clL (mO M) k9 a = true) (hc : cells + 1 ≤ R.cells) (hs : slots + (clT a).2.2 ≤ R.slots) (X : SX Γ M s m ad H locs l ls st sv) (k : NX Γ M p l9 e R s mm args below meth c9 Q m ad cells slots (pc + 3) l (vr a (mK m a) :: st) (newM m a (clT a).2.2)) : Wn Γ M p l9 e R s mm args below meth c9 Q H locs cells slots pc ls sv := by
  obtain ⟨hR, hK, hlo, hL, hS⟩ := X
  have hKa := hK.1.1 a _ (vwC_at ha)
  have hB : gB Γ ≤ H.size := hK.2.2.2.2.2.2.2.2.2.2.2.2.1
  refine W.newcK C.ex C.by C.own (C.w (has3c_w hw) rfl) (C.w (cls_at ha).2.1 rfl) (C.w (cls_at ha).2.2 rfl) rfl hd hc hs hKa.2.1 rfl (fun H1 kC hkC e1 z1 o1 => ?_)
  have hb := u_born (tyT a) C.ws (cls_at ha).1 hKa hkC e1 (cln_at ha).2
  have hx : Ex m ad (newM m a (clT a).2.2) (adN ad a (mK m a) H.size) := Ex.new
  have hR2 : Rep Γ (newM m a (clT a).2.2) (adN ad a (mK m a) H.size) H1 := by
    refine hR.new (by omega) hB o1 (fun _ => ?_) (fun h => by omega)
    obtain ⟨cell, q1, q2, q3, q4⟩ := hb
    exact ⟨cell, q1, q2, q3, fun i hi => ⟨_, q4 i hi, VR.df (by omega) (fcd_lt a ha i hi)⟩⟩
  have kk := k (adN ad a (mK m a) H.size) H1 locs ls (.ref H.size :: sv) hx ⟨hR2, hK.kept (by omega) (fun q hq _ => o1 q hq), hlo, hL.ex hx, ⟨⟨by rw [adN_eq], by rw [newM_K, if_pos rfl]; omega⟩, hS.ex hx⟩⟩
  rw [newM_C.1, newM_C.2] at kk
  exact kk
theorem cmpB : ∀ t, t < 4 → componentBytes (tyA t) ≤ 8 := by decide +kernel
theorem kLn_le {k : Nat} (h : k < 80) : kLn k ≤ 1296 := by
  have key : ∀ k : Nat, k < 80 → kLn k ≤ 1296 := by decide +kernel
  exact key k h
theorem sd_nwa (C : CX M p l9 s mm args meth c9) {a n c : Nat} {t9 : ArrayType} (hd : decode (mB M) pc = .ok (.newarray t9, 2)) (ht : newarray.typeOf t9 = tyA c) (hc3 : c < 4) (h : nwa9 sF sN a n c (pc + 2) l st m = Nx pc1 l1 s1 m1) (hc : cells + (mC m1 - mC m) ≤ R.cells) (hs : slots + (mS m1 - mS m) ≤ R.slots) (X : SX Γ M s m ad H locs l ls st sv) (k : NX Γ M p l9 e R s mm args below meth c9 Q m ad cells slots pc1 l1 s1 m1) : Wn Γ M p l9 e R s mm args below meth c9 Q H locs cells slots pc ls sv := by
  obtain ⟨x, r, rfl, ⟨hx, hty, hln, h80⟩, rfl, rfl, rfl, rfl⟩ := iv_nwa h
  obtain ⟨hR, hK, hlo, hL, hS⟩ := X
  obtain ⟨w0, t0, rfl, hv0, hS1⟩ := hS.inv
  cases (show w0 = .int x from hv0)
  have hB : gB Γ ≤ H.size := hK.2.2.2.2.2.2.2.2.2.2.2.2.1
  have hn1 : n ≤ 1296 := by rw [← hln]; exact kLn_le h80
  have hxn : x.toNatClampNeg = n := by rw [hx]; exact nI_clamp (by omega)
  rw [newM_C.1] at hc
  rw [newM_C.2] at hs
  have h20 : 20 ≤ a := aTy_20 (by omega)
  obtain ⟨hA1, hA2⟩ := hK.1.2 _ _ (tyL_at Γ (t := c) (by omega))
  have harr : (Cond.arrayClass (newarray.typeOf t9)).before args s = true := by rw [ht]; exact C.w (lk_ar c hc3) rfl
  refine W.newa C.ex C.by harr rfl hd rfl (by rw [hx]; exact nI_pos (by omega)) ?_ hc (by rw [hxn]; exact hs) (fun cA kA comp e1 e2 e3 => ?_)
  · rw [ht, hxn]
    have := cmpB c hc3
    calc n * componentBytes (tyA c) ≤ 1296 * 8 := Nat.mul_le_mul hn1 this
      _ ≤ _ := by decide
  · have hcA : cA = Γ.2.1 c := by
      rw [ht] at e1
      have h2 : s.vm.findClass ("[" ++ (tyA c).toString) = some (Γ.2.1 c) := by
        match c, hc3, hA2 with
        | 0, _, h => exact h
        | 1, _, h => exact h
        | 2, _, h => exact h
        | 3, _, h => exact h
      exact Option.some.inj (e1.symm.trans h2)
    have hex : Ex m ad (newM m a n) (adN ad a (mK m a) H.size) := Ex.new
    have hcell : (H.push { cls := cA, slots := Array.replicate x.toNatClampNeg (defaultValue (newarray.typeOf t9)), vm := .none })[H.size]? = some (aCl Γ (newM m a n) a (mK m a)) := by
      rw [Array.getElem?_push_size, hxn, arrV_new, ht, hcA]
      unfold aCl
      rw [hty, hln]
      congr 2
      funext i
      have q1 : mI (newM m a n) a (mK m a) i = 0 := by rw [newM_I, upA_eq]
      have q2 : mJ (newM m a n) a (mK m a) i = 0 := by rw [newM_J, upA_eq]
      rw [q1, q2]
      match c, hc3 with
      | 0, _ => rfl
      | 1, _ => rfl
      | 2, _ => rfl
      | 3, _ => rfl
    have hold : ∀ q, q < H.size → (H.push { cls := cA, slots := Array.replicate x.toNatClampNeg (defaultValue (newarray.typeOf t9)), vm := .none })[q]? = H[q]? := fun q hq => by
      rw [Array.getElem?_push, if_neg (Nat.ne_of_lt hq)]
    have hR2 : Rep Γ (newM m a n) (adN ad a (mK m a) H.size) (H.push { cls := cA, slots := Array.replicate x.toNatClampNeg (defaultValue (newarray.typeOf t9)), vm := .none }) := hR.new h80 hB hold (fun h => by omega) (fun _ => hcell)
    have kk := k (adN ad a (mK m a) H.size) _ locs ls (.ref H.size :: t0) hex ⟨hR2, hK.kept (by simp) (fun q hq _ => hold q hq), hlo, hL.ex hex, ⟨⟨by rw [adN_eq], by rw [newM_K, if_pos rfl]; omega⟩, hS1.ex hex⟩⟩
    rw [newM_C.1, newM_C.2] at kk
    rw [hxn]
    rw [hxn] at kk
    exact kk
theorem sd_gets (C : CX M p l9 s mm args meth c9) {a k9 : Nat} (hd : decode (mB M) pc = .ok (.getstatic k9, 3)) {own C9 n d : String} {v : Value} {av : AV} (ho : onm (mO M) = own) (hl : Cond.fieldLink own k9 C9 n d ∈ lw_tbl) (hZ : va_Z C9 n d v (gA Γ) s H) (X : SX Γ M s m ad H locs l ls st sv) (hv : VR m ad av v) (k : NX Γ M p l9 e R s mm args below meth c9 Q m ad cells slots (pc + 3) l (av :: st) m) : Wn Γ M p l9 e R s mm args below meth c9 Q H locs cells slots pc ls sv := by
  obtain ⟨hR, hK, hlo, hL, hS⟩ := X
  obtain ⟨cf, kf, fi, f, a, cell, h1, h2, h3, h4, h5, h6, h7, h8⟩ := hZ
  have hown := C.own
  rw [ho] at hown
  exact W.gets C.ex C.by hown (C.w hl rfl) h1 h2 h3 h4 h5 (fun e => by rw [e] at h6; cases h6) h7 rfl hd (k.here hR hK hlo hL ⟨hv, hS⟩)
theorem sd_ldcS (C : CX M p l9 s mm args meth c9) {a k9 : Nat} (hd : decode (mB M) pc = .ok (.ldc k9, 2)) (hw : (mO M, k9, a) ∈ strL) (ha : a < 9) (X : SX Γ M s m ad H locs l ls st sv) (k : NX Γ M p l9 e R s mm args below meth c9 Q m ad cells slots (pc + 2) l (vr 80 a :: st) m) : Wn Γ M p l9 e R s mm args below meth c9 Q H locs cells slots pc ls sv := by
  obtain ⟨hR, hK, hlo, hL, hS⟩ := X
  have hs := hK.2.2.2.1 _ hw
  have kk := k.here (sv1 := .ref (gX Γ 80 a) :: sv) hR hK hlo hL ⟨⟨by rw [hR.2.2.2.2.1 80 a (by omega)], by rw [hR.2.2.2.2.2.1 80 (by omega)]; exact ha⟩, hS⟩
  intro T hT Y
  obtain ⟨t, a1, b1⟩ := kk T hT Y
  exact ⟨t, Y.ldcString C.ex C.own hs.1 hs.2 (g := F0 mm pc ls sv) rfl (by rw [C.by]; exact hd) _ a1, b1⟩
theorem sd_obj (C : CX M p l9 s mm args meth c9) {k9 : Nat} {q : Nat × Nat} {r : List AV} (hd : decode (mB M) pc = .ok (.invokespecial k9, 3)) (hw : (mO M, k9) ∈ ojL) (hr : cats r ≤ 8) (hfr : 16 ≤ R.frames) (hlc : 400 ≤ R.locals) (X : SX Γ M s m ad H locs l ls (.inr (.inr (some (some q))) :: r) sv) (k : NX Γ M p l9 e R s mm args below meth c9 Q m ad cells slots (pc + 3) l r m) : Wn Γ M p l9 e R s mm args below meth c9 Q H locs cells slots pc ls sv := by
  obtain ⟨hR, hK, hlo, hL, hS⟩ := X
  obtain ⟨w, t, rfl, hv, hS1⟩ := hS.inv
  obtain ⟨rfl, -⟩ := VR.rf (a := q.1) (j := q.2) hv
  have hsz : ls.size = c9.maxLocals := by
    obtain ⟨-, lv, h1, -⟩ := hL
    rw [C.ml]; exact h1.1
  have hct := hS1.ct
  exact W.objInit C.ex C.by C.own (C.w (oj_w _ hw) rfl) (C.w oj_i rfl) (C.w oj_c rfl) rfl hsz rfl hd (by omega) (by show 2 * 0 + _ + 12 ≤ _; rw [hct]; omega) (k.here hR hK hlo hL hS1)
theorem sd_cp (C : CX M p l9 s mm args meth c9) (ho : mO M = 4) (hd : decode (mB M) pc = .ok (.invokestatic 168, 3)) (hfr : 16 ≤ R.frames) (hlc : 400 ≤ R.locals) (h : cp9 sF sN (pc + 3) l st m = Nx pc1 l1 s1 m1) (X : SX Γ M s m ad H locs l ls st sv) (k : NX Γ M p l9 e R s mm args below meth c9 Q m ad cells slots pc1 l1 s1 m1) : Wn Γ M p l9 e R s mm args below meth c9 Q H locs cells slots pc ls sv := by
  obtain ⟨n, dp, kq, jq, sp, kp, jp, r, rfl, ⟨b1, b2, b3, b4, b5, b6, b7, b8, b9, b10⟩, rfl, rfl, rfl, rfl⟩ := iv_cp h
  obtain ⟨hR, hK, hlo, hL, hS⟩ := X
  obtain ⟨w0, t0, rfl, hv0, hS1⟩ := hS.inv
  obtain ⟨w1, t1, rfl, hv1, hS2⟩ := hS1.inv
  obtain ⟨w2, t2, rfl, hv2, hS3⟩ := hS2.inv
  obtain ⟨w3, t3, rfl, hv3, hS4⟩ := hS3.inv
  obtain ⟨w4, t4, rfl, hv4, hS5⟩ := hS4.inv
  cases (show w0 = .int n from hv0)
  cases (show w1 = .int dp from hv1)
  cases (show w3 = .int sp from hv3)
  obtain ⟨rfl, hjq⟩ := VR.rf hv2
  obtain ⟨rfl, hjp⟩ := VR.rf hv4
  have q20 : 20 ≤ kq := aTy_20 (by omega)
  have p20 : 20 ≤ kp := aTy_20 (by omega)
  have hsz : ls.size = c9.maxLocals := by
    obtain ⟨-, lv, h1, -⟩ := hL
    rw [C.ml]; exact h1.1
  have hct := hS5.ct
  have hown := C.own
  rw [ho] at hown
  have cq : H[ad kq jq]? = some (arrV (Γ.2.1 0) (kLn kq) (fun i => .int (mI m kq jq i))) := by
    rw [hR.2.1 kq jq (by omega) b1 hjq]; unfold aCl; rw [b3]; simp
  have cp : H[ad kp jp]? = some (arrV (Γ.2.1 0) (kLn kp) (fun i => .int (mI m kp jp i))) := by
    rw [hR.2.1 kp jp (by omega) b2 hjp]; unfold aCl; rw [b4]; simp
  have nn : ∀ z : Int32, 0 ≤ z → z.toInt = (z.toNatClampNeg : Int) := by
    intro z hz
    have hz0 : (0 : Int) ≤ z.toInt := by simpa using Int32.le_iff_toInt_le.mp hz
    show z.toInt = ((z.toInt.toNat : Nat) : Int)
    omega
  have nl : ∀ z : Int32, 0 ≤ z → ¬ z < 0 := fun z hz => Int32.not_lt.mpr hz
  have hnw : 8 + (nativeFrameWords "java/lang/System" "arraycopy" 5 + 11) ≤ 400 := by decide
  intro T hT Y
  obtain ⟨-, k0, hk0, cm0, hkk0⟩ := (hK.1.2 0 _ (tyL_at Γ (t := 0) (by omega))).1 (kLn kp) (fun i => .int (mI m kp jp i))
  obtain ⟨-, k1, hk1, cm1, hkk1⟩ := (hK.1.2 0 _ (tyL_at Γ (t := 0) (by omega))).1 (kLn kq) (fun i => .int (mI m kq jq i))
  obtain ⟨vm', Y', step⟩ := Y.arraycopy C.ex hown (C.w lk_ac.1 rfl) (C.w lk_ac.2.1 rfl) (C.w lk_ac.2.2.1 rfl) (C.w lk_ac.2.2.2 rfl) (src := ad kp jp) (dst := ad kq jq) (srcPos := sp) (destPos := dp) (n := n) (by rw [hT]; exact cp) (by rw [hT]; exact cq)
    (fun _ h => by cases h) (fun _ h => by cases h) (fun h => by cases h) (fun h => by cases h) hk0 hk1 hkk0 hkk1 (by rfl) (nl _ b6) (nl _ b7) (nl _ b5)
    (by rw [nn sp b6, nn n b5, arrV_size]; omega)
    (by rw [nn dp b7, nn n b5, arrV_size]; omega)
    (fun vm₁ _ i hi => by
      have e : (arrV (Γ.2.1 0) (kLn kp) (fun i => Value.int (mI m kp jp i))).slots.getD (sp.toNatClampNeg + i) .null = .int (mI m kp jp (sp.toNatClampNeg + i)) := by
        rw [Array.getD_eq_getD_getElem?, arrV_read _ _ (by omega)]
        rfl
      refine ⟨?_, ?_⟩
      · rw [e]; rfl
      · rw [e]; exact trivial)
    (g := F0 mm pc ls (.int n :: .int dp :: .ref (ad kq jq) :: .int sp :: .ref (ad kp jp) :: t4)) rfl hsz (rest := t4) rfl (by rw [C.by]; exact hd) (by omega) (by show 2 * 0 + _ + _ ≤ _; rw [hct]; omega)
  have e1 : copied (arrV (Γ.2.1 0) (kLn kp) (fun i => Value.int (mI m kp jp i))) (arrV (Γ.2.1 0) (kLn kq) (fun i => Value.int (mI m kq jq i))) sp dp n = arrV (Γ.2.1 0) (kLn kq) (fun i => .int (va_cpy (mI m kp jp) (mI m kq jq) sp.toNatClampNeg dp.toNatClampNeg n.toNatClampNeg i)) := va_copied (fun z => .int z) _ _ _ _ b8
  rw [e1] at Y' step
  have hlq : ad kq jq < H.size := (Array.getElem?_eq_some_iff.mp cq).1
  let m2 : Mem := (upA m.1 kq jq (va_cpy (m.1 kp jp) (m.1 kq jq) sp.toNatClampNeg dp.toNatClampNeg n.toNatClampNeg), m.2)
  have hcl : arrV (Γ.2.1 0) (kLn kq) (fun i => .int (va_cpy (mI m kp jp) (mI m kq jq) sp.toNatClampNeg dp.toNatClampNeg n.toNatClampNeg i)) = aCl Γ m2 kq jq := by
    unfold aCl
    rw [b3]
    congr 1
    funext i
    rw [if_neg (by decide)]
    show Value.int _ = Value.int (upA m.1 kq jq _ kq jq i)
    rw [upA_eq]
  have oq : ∀ q : Nat, q ≠ ad kq jq → (H.setIfInBounds (ad kq jq) (aCl Γ m2 kq jq))[q]? = H[q]? := fun q hq => by simp [Array.getElem?_setIfInBounds, Ne.symm hq]
  have hx : Ex m ad m2 ad := Ex.same rfl
  rw [hcl] at Y' step
  have hR2 : Rep Γ m2 ad (H.setIfInBounds (ad kq jq) (aCl Γ m2 kq jq)) := hR.arr (by omega) b1 hjq rfl (by simp [Array.getElem?_setIfInBounds, hlq]) oq (fun x y z hz => ⟨upA_ne hz, rfl, rfl⟩)
  have hheap : ((T.setVm vm').setCell (ad kq jq) (aCl Γ m2 kq jq)).heap = H.setIfInBounds (ad kq jq) (aCl Γ m2 kq jq) := by rw [← hT]; rfl
  have fin : ∀ L2 : List Loc, Stand p l9 e R s mm args below meth c9 ((T.setVm vm').setCell (ad kq jq) (aCl Γ m2 kq jq)) L2 cells slots → (∀ q ∈ L2, gB Γ ≤ q.base) → ∃ t, Steps p.tables e below (T.setTop (F0 mm pc ls (.int n :: .int dp :: .ref (ad kq jq) :: .int sp :: .ref (ad kp jp) :: t4))) t ∧ Q t := by
    intro L2 Y2 h2
    have kk := k ad _ L2 ls t4 hx ⟨hR2, hK.kept (by simp) (fun q hq hn => oq q (fun z => hn (by rw [z]; exact hR.2.2.1 kq jq b1 hjq))), h2, hL.ex hx, hS5.ex hx⟩
    simp only [show mC m2 = mC m from rfl, show mS m2 = mS m from rfl, Nat.sub_self, Nat.add_zero] at kk
    obtain ⟨t, a1, b1⟩ := kk _ hheap Y2
    exact ⟨t, step t a1, b1⟩
  refine fin _ Y' (fun q hq => ?_)
  rcases List.mem_append.mp hq with h | h
  · exact hlo q h
  · obtain ⟨z, -, hz⟩ := List.mem_map.mp h
    rw [← hz]
    exact hR.2.2.1 kq jq b1 hjq
end NW
