/-! What hangs together: the class -/
/-- all of P is reached from its least cell -/
def HT (w h : Nat) (P : Nat → Bool) : Prop := ∀ s, s < w * h → P s = true → (∀ j, j < s → P j = false) → ∀ R : Nat → Bool, R s = true → (∀ c e, c < w * h → R c = true → adj w h c e → P e = true → R e = true) → ∀ c, c < w * h → P c = true → R c = true
theorem HT_congr {w h : Nat} {P Q : Nat → Bool} (hw : 1 ≤ w) (e : ∀ c, c < w * h → P c = Q c) : HT w h P → HT w h Q := by
  intro H s hs h1 h2 R h3 h4 c hc h5
  refine H s hs (by rw [e s hs]; exact h1) (fun j hj => by rw [e j (by omega)]; exact h2 j hj) R h3 (fun a b ha hr hab hp => h4 a b ha hr hab ?_) c hc (by rw [e c hc]; exact h5)
  rw [← e b (adj_lt hw ha hab)]
  exact hp
theorem HT_iff {w h : Nat} {P Q : Nat → Bool} (hw : 1 ≤ w) (e : ∀ c, c < w * h → P c = Q c) : HT w h P ↔ HT w h Q :=
  ⟨HT_congr hw e, HT_congr hw (fun c hc => (e c hc).symm)⟩
theorem HT_nil {w h : Nat} {P : Nat → Bool} (e : ∀ c, c < w * h → P c = false) : HT w h P := by
  intro s hs h1
  rw [e s hs] at h1; cases h1
theorem nbI_iff {w h c s : Nat} {P : Nat → Bool} : nbI w h P c s = true ↔ ∃ e, nb w h c s = some e ∧ P e = true := by
  unfold nbI
  constructor
  · intro z
    split at z
    · rename_i e he; exact ⟨e, he, z⟩
    · cases z
  · intro ⟨e, h1, h2⟩
    rw [h1]; exact h2
theorem nbI_adj {w h c : Nat} {P : Nat → Bool} : (nbI w h P c 1 = true ∨ nbI w h P c 0 = true ∨ nbI w h P c 2 = true ∨ nbI w h P c 3 = true) ↔ ∃ e, adj w h c e ∧ P e = true := by
  constructor
  · intro z
    rcases z with z | z | z | z
    · obtain ⟨e, h1, h2⟩ := nbI_iff.mp z; exact ⟨e, ⟨1, by omega, h1⟩, h2⟩
    · obtain ⟨e, h1, h2⟩ := nbI_iff.mp z; exact ⟨e, ⟨0, by omega, h1⟩, h2⟩
    · obtain ⟨e, h1, h2⟩ := nbI_iff.mp z; exact ⟨e, ⟨2, by omega, h1⟩, h2⟩
    · obtain ⟨e, h1, h2⟩ := nbI_iff.mp z; exact ⟨e, ⟨3, by omega, h1⟩, h2⟩
  · intro ⟨e, ⟨s, hs, h1⟩, h2⟩
    have : s = 0 ∨ s = 1 ∨ s = 2 ∨ s = 3 := by omega
    rcases this with rfl | rfl | rfl | rfl
    · exact .inr (.inl (nbI_iff.mpr ⟨e, h1, h2⟩))
    · exact .inl (nbI_iff.mpr ⟨e, h1, h2⟩)
    · exact .inr (.inr (.inl (nbI_iff.mpr ⟨e, h1, h2⟩)))
    · exact .inr (.inr (.inr (nbI_iff.mpr ⟨e, h1, h2⟩)))
/-- a round more -/
def nxR (J : PJ) (w : Nat) (f r : Int64) : Int64 := (((((r ||| (lsh9 (r &&& ((J 5 0 15) ^^^ (-1))) 1)) ||| (lus9 (r &&& ((J 5 0 14) ^^^ (-1))) 1)) ||| (lsh9 r (nn w))) ||| (lus9 r (nn w))) &&& f)
theorem nx_bt {J : PJ} {w h : Nat} {f r : Int64} (hM : RelM J w h) (hw1 : 1 ≤ w) (hw8 : w ≤ 8) (h64 : w * h ≤ 64) (hf : ∀ c, bt f c = true → c < w * h) (hr : ∀ c, bt r c = true → c < w * h) (c : Nat) : bt (nxR J w f r) c = true ↔ (bt f c = true ∧ (bt r c = true ∨ ∃ e, adj w h c e ∧ bt r e = true)) := by
  unfold nxR
  rw [bt_and, Bool.and_eq_true]
  constructor
  · intro ⟨h1, h2⟩
    refine ⟨h2, ?_⟩
    have hc := hf c h2
    rw [bt_or, bt_or, bt_or, bt_or, sd_e hM hw1 h64 hc, sd_w hM hw1 h64 hr hc, sd_n hw8 h64 hc, sd_s hw8 hr] at h1
    simp only [Bool.or_eq_true] at h1
    rcases h1 with (((z | z) | z) | z) | z
    · exact .inl z
    · exact .inr (nbI_adj.mp (.inl z))
    · exact .inr (nbI_adj.mp (.inr (.inl z)))
    · exact .inr (nbI_adj.mp (.inr (.inr (.inl z))))
    · exact .inr (nbI_adj.mp (.inr (.inr (.inr z))))
  · intro ⟨h2, h1⟩
    refine ⟨?_, h2⟩
    have hc := hf c h2
    rw [bt_or, bt_or, bt_or, bt_or, sd_e hM hw1 h64 hc, sd_w hM hw1 h64 hr hc, sd_n hw8 h64 hc, sd_s hw8 hr]
    simp only [Bool.or_eq_true]
    rcases h1 with z | z
    · exact .inl (.inl (.inl (.inl z)))
    · rcases nbI_adj.mpr z with z | z | z | z
      · exact .inl (.inl (.inl (.inr z)))
      · exact .inl (.inl (.inr z))
      · exact .inl (.inr z)
      · exact .inr z
theorem bt_ne {f g : Int64} (h : ¬ f = g) (hs : ∀ c, bt g c = true → bt f c = true) : ∃ c, bt f c = true ∧ bt g c = false := by
  apply Classical.byContradiction
  intro z
  apply h
  apply bt_ext
  intro c _
  cases h1 : bt f c with
  | false =>
    cases h2 : bt g c with
    | false => rfl
    | true => rw [hs c h2] at h1; cases h1
  | true =>
    cases h2 : bt g c with
    | true => rfl
    | false => exact absurd ⟨c, h1, h2⟩ z
theorem hangEnd (d : Nat) (y1 y3 y5 y7 : Int64) (x9 : Int32) (o10 : Option AV) (I : PI) (J : PJ) (T : TL) : den d 109 95 [some (vr 5 0), some (vl y1), none, some (vl y3), none, some (vl y5), none, some (vl y7), none, some (vi x9), o10, none] [] (MX I J T) = some (.inl (some (vi (bi (y7 = y1)))), MX I J T) := by
  rw [b109_95]
  by_cases h : y7 = y1
  · rw [if_neg (fun z => z ((lg0 _ _).mpr h)), b109_102, b109_107, if_pos (.inr rfl), bi1 h]
  · rw [if_pos (fun z => h ((lg0 _ _).mp z)), b109_106, b109_107, if_pos (.inl rfl), bi0 h]
theorem hangC (d : Nat) {w h : Nat} (f : Int64) (I : PI) (J : PJ) (T : TL) (hw : I 5 0 7 = nn w) (hn : I 5 0 9 = nn (w * h)) (hp : 0 < w * h) (hM : RelM J w h) (hw1 : 1 ≤ w) (hw8 : w ≤ 8) (h64 : w * h ≤ 64) (hf : ∀ c, bt f c = true → c < w * h) : cal d 109 [vr 5 0, vl f] (MX I J T) = some (.inl (some (vi (bi (HT w h (bt f))))), MX I J T) := by
  rw [c109, b109_9, b109_19, b109_25]
  have stp : ∀ (i : Nat) (r : Int64) (o10 : Option AV), i < w * h → den d 109 28 [some (vr 5 0), some (vl f), none, some (vl ((J 5 0 14) ^^^ (-1))), none, some (vl ((J 5 0 15) ^^^ (-1))), none, some (vl r), none, some (vi (nn i)), o10, none] [] (MX I J T) = if nxR J w f r = r then some (.inl (some (vi (bi (r = f)))), MX I J T) else den d 109 28 [some (vr 5 0), some (vl f), none, some (vl ((J 5 0 14) ^^^ (-1))), none, some (vl ((J 5 0 15) ^^^ (-1))), none, some (vl (nxR J w f r)), none, some (vi (nn (i + 1))), some (vl (nxR J w f r)), none] [] (MX I J T) := by
    intro i r o10 hi
    rw [b109_28, hn, if_neg (by rw [nn_le (by omega) (by omega)]; omega), b109_37, hw]
    show den d 109 74 [some (vr 5 0), some (vl f), none, some (vl ((J 5 0 14) ^^^ (-1))), none, some (vl ((J 5 0 15) ^^^ (-1))), none, some (vl r), none, some (vi (nn i)), some (vl (nxR J w f r)), none] [] (MX I J T) = _
    rw [b109_74]
    by_cases h1 : nxR J w f r = r
    · rw [if_neg (fun z => z ((lg0 _ _).mpr h1)), if_pos h1, b109_82, hangEnd]
    · rw [if_pos (fun z => h1 ((lg0 _ _).mp z)), if_neg h1, b109_85, b109_89, b109_92, nn_add1]
  by_cases h0 : f = 0
  · subst h0
    rw [show (0 : Int64) &&& -0 = 0 from rfl, show (0 : Int32) = nn 0 from rfl, stp 0 0 none hp, if_pos (by unfold nxR; exact Int64.and_zero), bi1 rfl, bi1 (HT_nil (fun c _ => bt_zero c))]
  · obtain ⟨s, s64, hs, hl⟩ := ne0_bt h0
    have lp : ∀ m i (r : Int64) (o10 : Option AV), i + m = w * h → (∀ c, bt r c = true → bt f c = true) → bt r s = true → (∀ R : Nat → Bool, R s = true → (∀ c e, c < w * h → R c = true → adj w h c e → bt f e = true → R e = true) → ∀ c, bt r c = true → R c = true) → i + 1 ≤ cn (bt r) (w * h) → den d 109 28 [some (vr 5 0), some (vl f), none, some (vl ((J 5 0 14) ^^^ (-1))), none, some (vl ((J 5 0 15) ^^^ (-1))), none, some (vl r), none, some (vi (nn i)), o10, none] [] (MX I J T) = some (.inl (some (vi (bi (HT w h (bt f))))), MX I J T) := by
      intro m
      induction m with
      | zero =>
        intro i r o10 hi h1 h2 h3 h4
        have := cn_le (bt r) (w * h)
        omega
      | succ m ih =>
        intro i r o10 hi h1 h2 h3 h4
        have hr : ∀ c, bt r c = true → c < w * h := fun c hc => hf c (h1 c hc)
        have hx := nx_bt hM hw1 hw8 h64 hf hr
        rw [stp i r o10 (by omega)]
        by_cases e : nxR J w f r = r
        · rw [if_pos e]
          have : r = f ↔ HT w h (bt f) := by
            constructor
            · intro e1 s2 hs2 g1 g2 R g3 g4 c hc g5
              have : s2 = s := by
                rcases Nat.lt_trichotomy s2 s with z | z | z
                · rw [hl s2 z] at g1; cases g1
                · exact z
                · rw [g2 s z] at hs; cases hs
              subst this
              exact h3 R g3 g4 c (by rw [e1]; exact g5)
            · intro H
              have H2 := H s (hf s hs) hs hl (bt r) h2 (fun c e2 hc g1 g2 g3 => by
                rw [← e, hx]
                exact ⟨g3, .inr ⟨c, adj_symm hw1 hc g2, g1⟩⟩)
              apply bt_ext
              intro c hc
              cases z : bt f c with
              | true => exact H2 c (hf c z) z
              | false =>
                cases z2 : bt r c with
                | false => rfl
                | true => rw [h1 c z2] at z; cases z
          rw [bi_congr this]
        · rw [if_neg e]
          have hsub : ∀ c, bt r c = true → bt (nxR J w f r) c = true := fun c hc => (hx c).mpr ⟨h1 c hc, .inl hc⟩
          obtain ⟨c0, a1, a2⟩ := bt_ne e hsub
          refine ih (i + 1) (nxR J w f r) _ (by omega) (fun c hc => ((hx c).mp hc).1) (hsub s h2) ?_ ?_
          · intro R g1 g2 c hc
            obtain ⟨b1, b2⟩ := (hx c).mp hc
            rcases b2 with b2 | ⟨e2, b2, b3⟩
            · exact h3 R g1 g2 c b2
            · exact g2 e2 c (hr e2 b3) (h3 R g1 g2 e2 b3) (adj_symm hw1 (hf c b1) b2) b1
          · have := cn_lt (f := bt r) (g := bt (nxR J w f r)) (w * h) (fun c _ => hsub c) (hf c0 ((hx c0).mp a1).1) a1 a2
            omega
    have hb := low_bt hs hl
    refine lp (w * h) 0 (f &&& -f) none (by omega) ?_ ?_ ?_ ?_
    · intro c hc
      rw [hb] at hc
      rw [of_decide_eq_true hc]; exact hs
    · rw [hb]; exact decide_eq_true rfl
    · intro R g1 _ c hc
      rw [hb] at hc
      rw [of_decide_eq_true hc]; exact g1
    · exact cn_pos (hf s hs) (by rw [hb]; exact decide_eq_true rfl)
