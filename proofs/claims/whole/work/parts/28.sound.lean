/-! The theorem: a run of the evaluator is the machine's -/
theorem EndK.step {Γ : Gm} {M : Nat} {p : Program} {l9 : Launch} {e : Env} {R : Room} {s : State} {mm : MethodId} {args : Array Value} {below : List Frame} {meth : Method} {c9 : Code} {Q : State → Prop} {m m1 : Mem} {ad ad1 : Nat → Nat → Nat} {cells slots : Nat} {r : Res9} (h : EndK Γ M p l9 e R s mm args below meth c9 Q m ad cells slots r) (hx : Ex m ad m1 ad1) (h1 : mC m ≤ mC m1) (h2 : mC m1 ≤ mC r.2) (h3 : mS m ≤ mS m1) (h4 : mS m1 ≤ mS r.2) : EndK Γ M p l9 e R s mm args below meth c9 Q m1 ad1 (cells + (mC m1 - mC m)) (slots + (mS m1 - mS m)) r := by
  obtain ⟨o, m2⟩ := r
  replace h2 : mC m1 ≤ mC m2 := h2
  replace h4 : mS m1 ≤ mS m2 := h4
  have e1 : cells + (mC m1 - mC m) + (mC m2 - mC m1) = cells + (mC m2 - mC m) := by omega
  have e2 : slots + (mS m1 - mS m) + (mS m2 - mS m1) = slots + (mS m2 - mS m) := by omega
  match o, h with
  | .inl vo, h =>
    intro ad2 H1 locs1 pc1 ls1 sv1 g1 g2 g3 g4 g5
    have k : W p l9 e R s mm args below meth c9 H1 locs1 (cells + (mC m2 - mC m)) (slots + (mS m2 - mS m)) Q (F0 mm pc1 ls1 sv1) := h ad2 H1 locs1 pc1 ls1 sv1 (hx.tr g1) g2 g3 g4 g5
    rw [← e1, ← e2] at k
    exact k
  | .inr q, h =>
    obtain ⟨Qc, XC, g1, g2⟩ := h
    refine ⟨Qc, XC, ?_, fun En a st t g => g2 En a st t ?_⟩
    · replace g1 : Q = vx_MQ below Qc XC args s (cells + (mC m2 - mC m)) (slots + (mS m2 - mS m)) (gA Γ) := g1
      rw [← e1, ← e2] at g1
      exact g1
    · obtain ⟨g3, ad2, g4, g5⟩ := g
      exact ⟨g3, ad2, hx.tr g4, g5⟩
theorem hd_at {M pc E hp : Nat} (h : hnd9 (hdT M) pc E = some hp) : (M = 176 ∧ pc < 10 ∧ E = 0 ∧ hp = 13) ∨ (M = 186 ∧ 54 ≤ pc ∧ pc < 62 ∧ E = 1 ∧ hp = 65) := by
  unfold hdT at h
  split at h
  · rename_i hM
    simp only [hnd9] at h
    split at h
    · rename_i g
      cases h
      exact Or.inl ⟨hM, g.2.1, g.2.2.symm, rfl⟩
    · cases h
  · split at h
    · rename_i hM
      simp only [hnd9] at h
      split at h
      · rename_i g
        cases h
        exact Or.inr ⟨hM, g.1, g.2.1, g.2.2.symm, rfl⟩
      · cases h
    · cases h
theorem ct_w : Cond.classLink "WholeFieldsLaw" 13 "java/util/NoSuchElementException" ∈ lw_tbl ∧ Cond.classLink "WholeFieldsModel" 13 "WholeFieldsModel$Stop" ∈ lw_tbl := ⟨atP_in (q := (6, 29)) (by decide +kernel), atP_in (q := (6, 110)) (by decide +kernel)⟩
theorem ct_o : onm (mO 176) = "WholeFieldsLaw" ∧ onm (mO 186) = "WholeFieldsModel" ∧ exT 176 = [(0, 10, 13, 13)] ∧ exT 186 = [(54, 62, 65, 13)] := by decide +kernel
theorem ath_inv {n a b c d M pc : Nat} {L : List (Int32 × Nat)} {l : Loc9} {st : List AV} {m m2 : Mem} {q : Nat × AV} (h : stI sF sD sK sN .athrow n a b c L d M pc l st m = sD (.inr q, m2)) : ∃ j rest, st = vr 13 j :: rest ∧ q = (1, vr 13 j) ∧ m2 = m := by
  simp only [stI] at h
  split at h
  · rename_i q9 rest9
    split at h
    · rename_i h13
      split at h
      · cases h
        obtain ⟨q91, q92⟩ := q9
        replace h13 : q91 = 13 := h13
        subst h13
        exact ⟨q92, rest9, rfl, rfl, rfl⟩
      · cases h
    · cases h
  · cases h
/-- a run of the evaluator, at the machine -/
def Snd (Γ : Gm) (l9 : Launch) (d M pc : Nat) (l : Loc9) (st : List AV) (m : Mem) (r : Res9) : Prop :=
  ∀ (p : Program) (e : Env) (R : Room) (s : State) (mm : MethodId) (args : Array Value) (below : List Frame) (meth : Method) (c9 : Code) (Q : State → Prop) (ad : Nat → Nat → Nat) (cells slots : Nat) (H : Heap) (locs : List Loc) (ls : Array Slot) (sv : List Value), CX M p l9 s mm args meth c9 → SX Γ M s m ad H locs l ls st sv → d + 16 ≤ R.frames → 64 * d + 400 ≤ R.locals → cells + (mC r.2 - mC m) ≤ R.cells → slots + (mS r.2 - mS m) ≤ R.slots → EndK Γ M p l9 e R s mm args below meth c9 Q m ad cells slots r → W p l9 e R s mm args below meth c9 H locs cells slots Q (F0 mm pc ls sv)
theorem two_le {c a b d x : Nat} (h1 : a ≤ b) (h2 : b ≤ d) (h : c + (d - a) ≤ x) : c + (b - a) ≤ x := by omega
theorem two_le2 {c a b d x : Nat} (h1 : a ≤ b) (h2 : b ≤ d) (h : c + (d - a) ≤ x) : c + (b - a) + (d - b) ≤ x := by omega
theorem big_le {d x : Nat} (h : d + 16 ≤ x) : 16 ≤ x := by omega
set_option maxRecDepth 20000 in
theorem big_le2 {d x : Nat} (h : 64 * d + 400 ≤ x) : 400 ≤ x := by omega
set_option maxHeartbeats 1000000 in
theorem sound {Γ : Gm} {l9 : Launch} : ∀ (n d M pc : Nat) (l : Loc9) (st : List AV) (m : Mem) (r : Res9), ev9 n d M pc l st m = some r → Snd Γ l9 d M pc l st m r := by
  intro n
  induction n with
  | zero => intro d M pc l st m r h; cases h
  | succ n ih =>
    intro d M pc l st m r h p e R s mm args below meth c9 Q ad cells slots H locs ls sv C X hfr hlc hc hs hend
    have hM := ev_lt h
    rw [ev9] at h
    unfold st1 stp at h
    cases hlk : (cdT M).lookup pc with
    | none => rw [hlk] at h; cases h
    | some q =>
      obtain ⟨i, n9, a, b, c, L⟩ := q
      rw [hlk] at h
      replace h : fo9 none some (fun d1 a args rest pc1 l1 m1 => ret9 (ev9 n d M) M pc pc1 l1 rest (ev9 n d1 a 0 (entL args (mxT a)) [] m1)) (ev9 n d M) (stI sF sD sK sN i n9 a b c L d M pc l st m) = some r := h
      have hmem := lookup_mem hlk
      have hE := List.all_eq_true.mp (ok_at M) _ hmem
      have hoj := List.all_eq_true.mp (oj_at M) _ hmem
      have hnx : ∀ x : St9, PN m x → stI sF sD sK sN i n9 a b c L d M pc l st m = x → fo9 none some (fun d1 a args rest pc1 l1 m1 => ret9 (ev9 n d M) M pc pc1 l1 rest (ev9 n d1 a 0 (entL args (mxT a)) [] m1)) (ev9 n d M) x = some r → W p l9 e R s mm args below meth c9 H locs cells slots Q (F0 mm pc ls sv) := by
        intro x hx hst hf
        rcases hx with rfl | ⟨pc1, l1, s1, m1, rfl, h1, h2⟩
        · cases hf
        · replace hf : ev9 n d M pc1 l1 s1 m1 = some r := hf
          have g := ev_C _ _ _ _ _ _ _ _ hf
          exact sd_next hM C hE hoj hst (big_le hfr) (big_le2 hlc) (two_le h1 g.1 hc) (two_le h2 g.2 hs) X (fun ad1 H1 locs1 ls1 sv1 hx X1 => ih _ _ _ _ _ _ _ hf p e R s mm args below meth c9 Q ad1 _ _ H1 locs1 ls1 sv1 C X1 hfr hlc (two_le2 h1 g.1 hc) (two_le2 h2 g.2 hs) (hend.step hx h1 g.1 h2 g.2))
      rcases stI_kind i n9 a b c L d M pc l st m with hp | ⟨hinv, hp⟩ | hp
      · exact hnx _ hp rfl h
      · rcases pn_inv (m := m) (pc := pc + n9) (l := l) (st := st) (d := d) (a := a) (b := b) (c := c) with hp2 | ⟨⟨d1, a1, av, rest, pc2, l2, m2⟩, hq⟩
        · rw [hp] at h
          exact hnx _ hp2 hp h
        · rw [hp, hq] at h
          obtain ⟨h99, h50, h60, h61, hpop, hcr, hca, hrc, hd1, rfl, rfl, rfl, rfl⟩ := iv_call hq
          simp only [fo9] at h
          cases hcl : ev9 n d1 a1 0 (entL av (mxT a1)) [] m2 with
          | none => rw [hcl] at h; cases h
          | some q2 =>
            rw [hcl] at h
            have g1 := ev_C _ _ _ _ _ _ _ _ hcl
            have hB : Bod Γ l9 a1 av m2 q2 d1 := ih _ _ _ _ _ _ _ hcl
            match q2, h, g1, hB, hcl with
            | (.inl none, m3), h, g1, hB, _ =>
              have g2 := ev_C _ _ _ _ _ _ _ _ h
              exact sd_call hM C hE hinv h99 h50 h60 h61 hpop hcr hca hrc hd1 hB hfr hlc (two_le g1.1 g2.1 hc) (two_le g1.2 g2.2 hs) X (fun ad1 H1 locs1 sv1 hx X1 => ih _ _ _ _ _ _ _ h p e R s mm args below meth c9 Q ad1 _ _ H1 locs1 ls sv1 C X1 hfr hlc (two_le2 g1.1 g2.1 hc) (two_le2 g1.2 g2.2 hs) (hend.step hx g1.1 g2.1 g1.2 g2.2))
            | (.inl (some v), m3), h, g1, hB, _ =>
              have g2 := ev_C _ _ _ _ _ _ _ _ h
              exact sd_call hM C hE hinv h99 h50 h60 h61 hpop hcr hca hrc hd1 hB hfr hlc (two_le g1.1 g2.1 hc) (two_le g1.2 g2.2 hs) X (fun ad1 H1 locs1 sv1 hx X1 => ih _ _ _ _ _ _ _ h p e R s mm args below meth c9 Q ad1 _ _ H1 locs1 ls sv1 C X1 hfr hlc (two_le2 g1.1 g2.1 hc) (two_le2 g1.2 g2.2 hs) (hend.step hx g1.1 g2.1 g1.2 g2.2))
            | (.inr q3, m3), h, g1, hB, hcl =>
              have hth := ev_thr _ _ _ _ _ _ _ _ _ hcl
              simp only [ret9] at h
              split at h
              · rename_i hp9 hnd
                have g2 := ev_C _ _ _ _ _ _ _ _ h
                refine sd_callX hM C hE hinv h99 h50 h60 h61 hpop hcr hca hrc hd1 hth hB hfr hlc (two_le g1.1 g2.1 hc) (two_le g1.2 g2.2 hs) X ?_
                intro ad1 H1 locs1 x ce wr hx hR1 hK1 hlo1 hv1 hce hcv hcf
                have kk : W p l9 e R s mm args below meth c9 H1 locs1 (cells + (mC m3 - mC m2)) (slots + (mS m3 - mS m2)) Q (F0 mm hp9 ls [.ref x]) := ih _ _ _ _ _ _ _ h p e R s mm args below meth c9 Q ad1 _ _ H1 locs1 ls [.ref x] C ⟨hR1, hK1, hlo1, X.2.2.2.1.ex hx, hv1, trivial⟩ hfr hlc (two_le2 g1.1 g2.1 hc) (two_le2 g1.2 g2.2 hs) (hend.step hx g1.1 g2.1 g1.2 g2.2)
                have hown := C.own
                have htab : c9.exceptionTable.toList = tableOf (exT M) := C.2.2.2.2.2.2.2.2.1
                rcases hd_at hnd with ⟨rfl, b1, b2, rfl⟩ | ⟨rfl, b0, b1, b2, rfl⟩
                · rw [ct_o.1] at hown
                  rw [ct_o.2.2.1] at htab
                  rw [b2] at hcf
                  exact vx_catch (E := exN 0) (name := "java/util/NoSuchElementException") hown ⟨0, 10, 13, 13⟩ htab (by simp [covers, b1]) (by decide) (C.w ct_w.1 rfl) (hK1.2.2.2.2.2.2.2.2.2.2.2.2.2.1.1.use rfl) hce hcv hcf kk
                · rw [ct_o.2.1] at hown
                  rw [ct_o.2.2.2] at htab
                  rw [b2] at hcf
                  exact vx_catch (E := exN 1) (name := "WholeFieldsModel$Stop") hown ⟨54, 62, 65, 13⟩ htab (by simp [covers, b0, b1]) (by decide) (C.w ct_w.2 rfl) (hK1.2.2.2.2.2.2.2.2.2.2.2.2.2.2.use rfl) hce hcv hcf kk
              · split at h
                · rename_i hthM
                  cases h
                  refine sd_callX hM C hE hinv h99 h50 h60 h61 hpop hcr hca hrc hd1 hth hB hfr hlc hc hs X ?_
                  intro ad1 H1 locs1 x ce wr hx hR1 hK1 hlo1 hv1 hce hcv hcf
                  obtain ⟨Qc, XC, rfl, hXC⟩ := hend
                  have htab : ∀ z ∈ c9.exceptionTable.toList, covers z pc = false := by
                    rw [show c9.exceptionTable.toList = tableOf (exT M) from C.2.2.2.2.2.2.2.2.1, (thr_at hthM).2.1]
                    exact fun z hz => nomatch hz
                  exact xw_out (E := exN q3.1) htab C.2.2.2.2.2.2.1 hce hcv hcf (fun t ht hW => hXC _ _ _ _ ⟨rfl, ad1, hx, by rw [ht]; exact hR1, by rw [ht]; exact hK1.moved hW, hv1⟩) hlo1 (Nat.le_refl _) (Nat.le_refl _)
                · cases h
      · rcases stI_end (n := n9) (a := a) (b := b) (L := L) (d := d) (M := M) (pc := pc) (l := l) (st := st) (m := m) hp with e9 | ⟨r2, e9, g⟩
        · rw [e9] at h; cases h
        · rw [e9] at h
          cases h
          match r, e9, g, hend, hc, hs with
          | (.inl vo, m2), e9, g, hend, hc, hs => exact sd_ret hM hmem hE e9 hp X hend
          | (.inr q3, m2), e9, g, hend, hc, hs =>
            have hxe := stI_inr hp e9
            have hth := thr_of hM hmem hxe
            cases i with
            | athrow =>
              simp only [okB, Bool.and_eq_true, decide_eq_true_eq] at hE
              obtain ⟨hdc, hE⟩ := hE
              simp only [beq_iff_eq] at hE
              subst hE
              obtain ⟨j, rest, rfl, rfl, rfl⟩ := ath_inv e9
              exact sd_ath C hth hdc X hend
            | new k =>
              have hc77 : c = 77 := by simpa [isEnd] using hp
              subst hc77
              simp only [okB, Bool.and_eq_true, decide_eq_true_eq, Bool.or_eq_true, beq_iff_eq, thrOK] at hE
              obtain ⟨hdc, rfl, hE⟩ := hE
              rcases hE with ⟨⟨⟨q, -⟩, -⟩, -⟩ | ⟨⟨-, rfl⟩, hMM, hpc⟩
              · exact absurd q (by decide)
              · simp only [stI] at e9
                rw [if_pos trivial] at e9
                split at e9
                · rename_i hcs
                  cases e9
                  have f1 : mC (newX m 6) - mC m = 1 := by show mC m + 1 - mC m = 1; omega
                  have f2 : mS (newX m 6) - mS m = 6 := by show mS m + 6 - mS m = 6; omega
                  replace hc : cells + (mC (newX m 6) - mC m) ≤ R.cells := hc
                  replace hs : slots + (mS (newX m 6) - mS m) ≤ R.slots := hs
                  rw [f1] at hc
                  rw [f2] at hs
                  exact sd_new77 C hMM hpc (big_le hfr) (big_le2 hlc) hcs hc hs X hend
                · cases e9
            | _ => simp [xend] at hxe
