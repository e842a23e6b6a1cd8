/-! What hangs together: the reference -/
def HM (I : PI) (Q S : Nat → Int32) : PI := upA (upA I 28 8 Q) 39 1 S
theorem hm_S (I : PI) (Q S : Nat → Int32) (i : Nat) (v : Int32) : up3 (HM I Q S) 39 1 i v = HM I Q (fun c => if c = i then v else S c) := upA_up3 _ _ _ _ _ _
theorem hm_Q (I : PI) (Q S : Nat → Int32) (i : Nat) (v : Int32) : up3 (HM I Q S) 28 8 i v = HM I (fun c => if c = i then v else Q c) S := by
  unfold HM
  funext a b c
  unfold up3 upA
  by_cases h1 : a = 28
  · subst h1
    by_cases h2 : b = 8
    · by_cases h3 : c = i <;> simp [h2, h3]
    · simp [h2]
  · simp [h1]
theorem hm_id (I : PI) : HM I (I 28 8) (I 39 1) = I := by
  unfold HM
  rw [upA_id, upA_id]
theorem hm_of (I : PI) (Q S : Nat → Int32) {j : Nat} (hj : ¬ j = 8) : HM I Q S 28 j = I 28 j := by
  unfold HM
  funext c
  unfold upA
  simp [hj]
theorem or0 {c e : Nat} {x : Int32} : ((if c = e then (1 : Int32) else x) = 0) ↔ (¬ c = e ∧ x = 0) := by
  by_cases h : c = e
  · rw [if_pos h]
    exact ⟨fun z => absurd z (by decide), fun z => absurd h z.1⟩
  · rw [if_neg h]
    exact ⟨fun z => ⟨h, z⟩, fun z => z.2⟩
def HI (w h : Nat) (P : Nat → Bool) (s q N : Nat) (Q S : Nat → Int32) : Prop := N = cn (fun c => decide (¬ S c = 0)) (w * h) ∧ (∀ i, i < N → ∃ c, c < w * h ∧ Q i = nn c ∧ ¬ S c = 0) ∧ (∀ c, c < w * h → ¬ S c = 0 → P c = true ∧ ∃ i, i < N ∧ Q i = nn c) ∧ ¬ S s = 0 ∧ (∀ R : Nat → Bool, R s = true → (∀ c e, c < w * h → R c = true → adj w h c e → P e = true → R e = true) → ∀ c, c < w * h → ¬ S c = 0 → R c = true) ∧ (∀ i, i < q → ∀ c, c < w * h → Q i = nn c → ∀ e, adj w h c e → P e = true → ¬ S e = 0)
theorem HI_add {w h : Nat} {P : Nat → Bool} {s q N : Nat} {Q S : Nat → Int32} (hH : HI w h P s q N Q S) (hw1 : 1 ≤ w) {cq e : Nat} (hq : q < N) (hcq : cq < w * h) (hQ : Q q = nn cq) (ha : adj w h cq e) (hP : P e = true) (h0 : S e = 0) (hS : ¬ S cq = 0) : HI w h P s q (N + 1) (fun c => if c = N then nn e else Q c) (fun c => if c = e then 1 else S c) := by
  obtain ⟨a1, a2, a3, a4, a5, a6⟩ := hH
  have he := adj_lt hw1 hcq ha
  refine ⟨?_, ?_, ?_, ?_, ?_, ?_⟩
  · rw [cn_congr (g := fun c => if c = e then true else decide (¬ S c = 0)) (fun c hc => ?_), cn_upd (by simp [h0]) _ he, ← a1]
    by_cases z : c = e <;> simp [z]
  · intro i hi
    try dsimp only
    by_cases z : i = N
    · exact ⟨e, he, by rw [if_pos z], by rw [if_pos rfl]; decide⟩
    · obtain ⟨c, b1, b2, b3⟩ := a2 i (by omega)
      exact ⟨c, b1, by rw [if_neg z]; exact b2, fun y => b3 (or0.mp y).2⟩
  · intro c hc hs
    try dsimp only at hs ⊢
    by_cases z : c = e
    · subst z
      exact ⟨hP, N, by omega, by rw [if_pos rfl]⟩
    · rw [if_neg z] at hs
      obtain ⟨b1, i, b2, b3⟩ := a3 c hc hs
      exact ⟨b1, i, by omega, by rw [if_neg (by omega)]; exact b3⟩
  · exact fun y => a4 (or0.mp y).2
  · intro R g1 g2 c hc hs
    try dsimp only at hs
    by_cases z : c = e
    · subst z
      exact g2 cq c hcq (a5 R g1 g2 cq hcq hS) ha hP
    · rw [if_neg z] at hs
      exact a5 R g1 g2 c hc hs
  · intro i hi c hc hQi e2 he2 hp y
    try dsimp only at hQi y
    rw [if_neg (by omega)] at hQi
    exact a6 i hi c hc hQi e2 he2 hp (or0.mp y).2
section HANGM
variable (d : Nat) {w h : Nat} (I : PI) (J : PJ) (T : TL) (j : Nat) (x : Int32)
theorem hgA (hn : I 14 0 24 = nn (w * h)) (h64 : w * h ≤ 64) (hj : ¬ j = 8) : ∀ m c (Q S : Nat → Int32), c + m = w * h → (∀ i, i < c → S i = 0) → ∃ S2 : Nat → Int32, den d 252 8 [some (vr 14 0), some (vr 28 j), some (vi x), some (vi 0), some (vi (nn (cn (fun c => decide (I 28 j c = x)) c))), some (vi (nn c)), none, none] [] (MX (HM I Q S) J T) = den d 252 52 [some (vr 14 0), some (vr 28 j), some (vi x), some (vi 0), some (vi (nn (cn (fun c => decide (I 28 j c = x)) (w * h)))), some (vi 0), none, none] [] (MX (HM I Q S2) J T) ∧ ∀ i, i < w * h → S2 i = 0 := by
  intro m
  induction m with
  | zero =>
    intro c Q S hc hS
    have hcn : c = w * h := by omega
    refine ⟨S, ?_, by rw [← hcn]; exact hS⟩
    rw [b252_8]
    show (if I 14 0 24 ≤ _ then _ else _) = _
    rw [hn, if_pos ((nn_le (by omega) (by omega)).mpr (by omega)), hcn]
  | succ m ih =>
    intro c Q S hc hS
    obtain ⟨S2, e, h2⟩ := ih (c + 1) Q (fun i => if i = c then 0 else S i) (by omega) (fun i hi => by
      try dsimp only
      by_cases z : i = c
      · rw [if_pos z]
      · rw [if_neg z]; exact hS i (by omega))
    refine ⟨S2, ?_, h2⟩
    rw [b252_8]
    show (if I 14 0 24 ≤ _ then _ else _) = _
    rw [hn, if_neg (by rw [nn_le (by omega) (by omega)]; omega), if_pos (nn_inR (by omega) (by omega)), if_pos (nn_inR (by omega) (by omega)), nn_idx (by omega), hm_S, hm_of I Q S hj, nn_add1]
    rw [cn_succ] at e
    by_cases z : I 28 j c = x
    · rw [if_neg (fun y => y z), nn_add1]
      rw [if_pos (decide_eq_true z)] at e
      exact e
    · rw [if_pos z, Int32.add_zero]
      rw [if_neg (fun y => z (of_decide_eq_true y)), Nat.add_zero] at e
      exact e
theorem hgB0 (hn : I 14 0 24 = nn (w * h)) (h64 : w * h ≤ 64) (hj : ¬ j = 8) (Q S : Nat → Int32) (x4 : Int32) (hno : ∀ c, c < w * h → ¬ I 28 j c = x) : ∀ m c, c + m = w * h → den d 252 52 [some (vr 14 0), some (vr 28 j), some (vi x), some (vi 0), some (vi x4), some (vi (nn c)), none, none] [] (MX (HM I Q S) J T) = den d 252 103 [some (vr 14 0), some (vr 28 j), some (vi x), some (vi 0), some (vi x4), some (vi 0), none, none] [] (MX (HM I Q S) J T) := by
  intro m
  induction m with
  | zero =>
    intro c hc
    rw [b252_52]
    show (if I 14 0 24 ≤ _ then _ else _) = _
    rw [hn, if_pos ((nn_le (by omega) (by omega)).mpr (by omega))]
  | succ m ih =>
    intro c hc
    rw [b252_52]
    show (if I 14 0 24 ≤ _ then _ else _) = _
    rw [hn, if_neg (by rw [nn_le (by omega) (by omega)]; omega), if_neg (fun z => z rfl), if_pos (nn_inR (by omega) (by omega)), nn_idx (by omega), hm_of I Q S hj, if_neg (hno c (by omega)), nn_add1]
    exact ih (c + 1) (by omega)
theorem hgB1 (hn : I 14 0 24 = nn (w * h)) (h64 : w * h ≤ 64) (hj : ¬ j = 8) (Q S : Nat → Int32) (x4 : Int32) {s : Nat} (hs : s < w * h) (h1 : I 28 j s = x) (h2 : ∀ c, c < s → ¬ I 28 j c = x) : ∀ m c, c + m = s → den d 252 52 [some (vr 14 0), some (vr 28 j), some (vi x), some (vi 0), some (vi x4), some (vi (nn c)), none, none] [] (MX (HM I Q S) J T) = den d 252 103 [some (vr 14 0), some (vr 28 j), some (vi x), some (vi 1), some (vi x4), some (vi 0), none, none] [] (MX (HM I (fun i => if i = 0 then nn s else Q i) (fun i => if i = s then 1 else S i)) J T) := by
  intro m
  induction m with
  | zero =>
    intro c hc
    have hcs : c = s := by omega
    subst hcs
    rw [b252_52]
    show (if I 14 0 24 ≤ _ then _ else _) = _
    rw [hn, if_neg (by rw [nn_le (by omega) (by omega)]; omega), if_neg (fun z => z rfl), if_pos (nn_inR (by omega) (by omega)), nn_idx (by omega), hm_of I Q S hj, if_pos h1, if_pos (nn_inR (by omega) (by omega)), hm_Q, hm_S, nn_add1, b252_52]
    show (if I 14 0 24 ≤ _ then _ else _) = _
    rw [if_pos (show ¬ (1 : Int32) = 0 by decide)]
    by_cases z : I 14 0 24 ≤ nn (c + 1)
    · rw [if_pos z]
    · rw [if_neg z]
  | succ m ih =>
    intro c hc
    rw [b252_52]
    show (if I 14 0 24 ≤ _ then _ else _) = _
    rw [hn, if_neg (by rw [nn_le (by omega) (by omega)]; omega), if_neg (fun z => z rfl), if_pos (nn_inR (by omega) (by omega)), nn_idx (by omega), hm_of I Q S hj, if_neg (h2 c (by omega)), nn_add1]
    exact ih (c + 1) (by omega)
theorem hgC (hg : GW I w h) (hj : ¬ j = 8) (x4 : Int32) {s q cq : Nat} (hcq : cq < w * h) : ∀ m sd N (Q S : Nat → Int32) (o7 : Option AV), sd + m = 4 → q < N → Q q = nn cq → HI w h (fun c => decide (I 28 j c = x)) s q N Q S → (∀ s2, s2 < sd → ∀ e, nb w h cq s2 = some e → I 28 j e = x → ¬ S e = 0) → ∃ (N2 : Nat) (Q2 S2 : Nat → Int32) (o6 o8 : Option AV), den (d + 2) 252 112 [some (vr 14 0), some (vr 28 j), some (vi x), some (vi (nn N)), some (vi x4), some (vi (nn q)), some (vi (nn sd)), o7] [] (MX (HM I Q S) J T) = den (d + 2) 252 103 [some (vr 14 0), some (vr 28 j), some (vi x), some (vi (nn N2)), some (vi x4), some (vi (nn (q + 1))), o6, o8] [] (MX (HM I Q2 S2) J T) ∧ q < N2 ∧ HI w h (fun c => decide (I 28 j c = x)) s (q + 1) N2 Q2 S2 := by
  obtain ⟨g1, g2, g3, g4, g5, g6⟩ := id hg
  have h64 : w * h ≤ 64 := Nat.mul_le_mul g4 g6
  intro m
  induction m with
  | zero =>
    intro sd N Q S o7 hsd hqN hQ hH hdone
    have : sd = 4 := by omega
    subst this
    refine ⟨N, Q, S, some (vi (nn 4)), o7, ?_, hqN, ?_⟩
    · rw [b252_112, if_pos (by decide), nn_add1]
    · obtain ⟨a1, a2, a3, a4, a5, a6⟩ := hH
      refine ⟨a1, a2, a3, a4, a5, ?_⟩
      intro i hi c hc hQi e he hp
      rcases Nat.lt_or_ge i q with z | z
      · exact a6 i z c hc hQi e he hp
      · have : i = q := by omega
        subst this
        rw [hQ] at hQi
        have : cq = c := (nn_inj (by omega) (by omega)).mp hQi
        subst this
        obtain ⟨s2, hs2, e2⟩ := he
        exact hdone s2 hs2 e e2 (of_decide_eq_true hp)
  | succ m ih =>
    intro sd N Q S o7 hsd hqN hQ hH hdone
    have hNle : N ≤ w * h := by rw [hH.1]; exact cn_le _ _
    have hsq : ¬ S cq = 0 := by
      obtain ⟨c, b1, b2, b3⟩ := hH.2.1 q hqN
      rw [hQ] at b2
      have : cq = c := (nn_inj (by omega) (by omega)).mp b2
      rw [this]; exact b3
    have hb := besM d (w := w) (h := h) (c := cq) (s := sd) (HM I Q S) J T hg hcq (by omega)
    rw [b252_112, if_neg (by rw [show (4 : Int32) = nn 4 from rfl, nn_le (by omega) (by omega)]; omega), if_pos (nn_inR (by omega) (by omega)), nn_idx (by omega)]
    rw [show (HM I Q S) 28 8 q = nn cq from hQ, hb]
    simp only [ret9]
    cases hnb : nb w h cq sd with
    | none =>
      rw [b252_131, show oi none = -1 from rfl, if_pos rfl, nn_add1]
      refine ih (sd + 1) N Q S _ (by omega) hqN hQ hH (fun s2 h2 e he hx => ?_)
      rcases Nat.lt_or_ge s2 sd with z | z
      · exact hdone s2 z e he hx
      · have : s2 = sd := by omega
        subst this
        rw [hnb] at he; cases he
    | some e =>
      have he := nb_lt g3 hcq hnb
      rw [b252_131, show oi (some e) = nn e from rfl, if_neg (nn_ne_neg (by omega)), if_pos (nn_inR (by omega) (by omega)), nn_idx (show e < 2147483648 by omega)]
      rw [show (HM I Q S) 39 1 e = S e from rfl]
      by_cases hse : S e = 0
      · rw [if_neg (fun z => z hse), if_pos (nn_inR (by omega) (by omega)), hm_of I Q S hj]
        by_cases hx : I 28 j e = x
        · have hH2 := HI_add hH g3 hqN hcq hQ ⟨sd, by omega, hnb⟩ (decide_eq_true hx) hse hsq
          have hN1 : N + 1 ≤ w * h := by rw [hH2.1]; exact cn_le _ _
          rw [if_pos hx, if_pos (nn_inR (by omega) (by omega)), if_pos (nn_inR (by omega) (by omega)), nn_idx (show N < 2147483648 by omega), hm_S, hm_Q, nn_add1, nn_add1]
          refine ih (sd + 1) (N + 1) _ _ _ (by omega) (by omega) ((if_neg (show ¬ q = N by omega)).trans hQ) hH2 (fun s2 h2 e2 he2 hx2 => ?_)
          try dsimp only
          rcases Nat.lt_or_ge s2 sd with z | z
          · exact fun y => hdone s2 z e2 he2 hx2 (or0.mp y).2
          · have : s2 = sd := by omega
            subst this
            rw [hnb] at he2; cases he2
            rw [if_pos rfl]; decide
        · rw [if_neg hx, nn_add1]
          refine ih (sd + 1) N Q S _ (by omega) hqN hQ hH (fun s2 h2 e2 he2 hx2 => ?_)
          rcases Nat.lt_or_ge s2 sd with z | z
          · exact hdone s2 z e2 he2 hx2
          · have : s2 = sd := by omega
            subst this
            rw [hnb] at he2; cases he2
            exact absurd hx2 hx
      · rw [if_pos hse, nn_add1]
        refine ih (sd + 1) N Q S _ (by omega) hqN hQ hH (fun s2 h2 e2 he2 hx2 => ?_)
        rcases Nat.lt_or_ge s2 sd with z | z
        · exact hdone s2 z e2 he2 hx2
        · have : s2 = sd := by omega
          subst this
          rw [hnb] at he2; cases he2
          exact hse
theorem hgEnd {s N : Nat} {Q S : Nat → Int32} (hs : s < w * h) (h1 : I 28 j s = x) (h2 : ∀ c, c < s → ¬ I 28 j c = x) (hH : HI w h (fun c => decide (I 28 j c = x)) s N N Q S) : (N = cn (fun c => decide (I 28 j c = x)) (w * h)) ↔ HT w h (fun c => decide (I 28 j c = x)) := by
  obtain ⟨a1, a2, a3, a4, a5, a6⟩ := hH
  constructor
  · intro hN s2 hs2 g1 g2 R g3 g4 c hc g5
    have : s2 = s := by
      rcases Nat.lt_trichotomy s2 s with z | z | z
      · exact absurd (of_decide_eq_true g1) (h2 s2 z)
      · exact z
      · have t : decide (I 28 j s = x) = true := decide_eq_true h1
        exact absurd (t.symm.trans (g2 s z)) (by decide)
    subst this
    refine a5 R g3 g4 c hc (of_decide_eq_true (cn_all (f := fun c => decide (¬ S c = 0)) (a1.symm.trans hN) (fun c hc z => (a3 c hc (of_decide_eq_true z)).1) hc g5))
  · intro H
    rw [a1]
    apply cn_congr
    intro c hc
    by_cases z : S c = 0
    · rw [decide_eq_false (fun y => y z)]
      refine (decide_eq_false (fun y => ?_)).symm
      have := H s hs (decide_eq_true h1) (fun j hj => decide_eq_false (h2 j hj)) (fun c => decide (¬ S c = 0)) (decide_eq_true a4) (fun c e hc g1 g2 g3 => by
        obtain ⟨-, i, b2, b3⟩ := a3 c hc (of_decide_eq_true g1)
        exact decide_eq_true (a6 i b2 c hc b3 e g2 g3)) c hc (decide_eq_true y)
      exact (of_decide_eq_true this) z
    · rw [decide_eq_true z]
      exact (a3 c hc z).1.symm
theorem hgD (hg : GW I w h) (hj : ¬ j = 8) {s : Nat} (hs : s < w * h) (h1 : I 28 j s = x) (h2 : ∀ c, c < s → ¬ I 28 j c = x) : ∀ m q N (Q S : Nat → Int32) (o6 o7 : Option AV), q + m = w * h → q ≤ N → HI w h (fun c => decide (I 28 j c = x)) s q N Q S → ∃ Q2 S2 : Nat → Int32, den (d + 2) 252 103 [some (vr 14 0), some (vr 28 j), some (vi x), some (vi (nn N)), some (vi (nn (cn (fun c => decide (I 28 j c = x)) (w * h)))), some (vi (nn q)), o6, o7] [] (MX (HM I Q S) J T) = some (.inl (some (vi (bi (HT w h (fun c => decide (I 28 j c = x)))))), MX (HM I Q2 S2) J T) := by
  obtain ⟨g1, g2, g3, g4, g5, g6⟩ := id hg
  have h64 : w * h ≤ 64 := Nat.mul_le_mul g4 g6
  have hcl := cn_le (fun c => decide (I 28 j c = x)) (w * h)
  have fin : ∀ N (Q S : Nat → Int32) (o6 o7 : Option AV), HI w h (fun c => decide (I 28 j c = x)) s N N Q S → ∃ Q2 S2 : Nat → Int32, den (d + 2) 252 103 [some (vr 14 0), some (vr 28 j), some (vi x), some (vi (nn N)), some (vi (nn (cn (fun c => decide (I 28 j c = x)) (w * h)))), some (vi (nn N)), o6, o7] [] (MX (HM I Q S) J T) = some (.inl (some (vi (bi (HT w h (fun c => decide (I 28 j c = x)))))), MX (HM I Q2 S2) J T) := by
    intro N Q S o6 o7 hH
    have hNle : N ≤ w * h := by rw [hH.1]; exact cn_le _ _
    have he := hgEnd (w := w) (h := h) I j x hs h1 h2 hH
    refine ⟨Q, S, ?_⟩
    rw [b252_103, if_pos (Int32.le_refl _)]
    by_cases z : N = cn (fun c => decide (I 28 j c = x)) (w * h)
    · rw [if_neg (fun y => y (congrArg nn z)), bi1 (he.mp z)]
    · rw [if_pos (fun y => z ((nn_inj (by omega) (by omega)).mp y)), bi0 (fun y => z (he.mpr y))]
  intro m
  induction m with
  | zero =>
    intro q N Q S o6 o7 hq hqN hH
    have hNle : N ≤ w * h := by rw [hH.1]; exact cn_le _ _
    have : q = N := by omega
    subst this
    exact fin q Q S o6 o7 hH
  | succ m ih =>
    intro q N Q S o6 o7 hq hqN hH
    have hNle : N ≤ w * h := by rw [hH.1]; exact cn_le _ _
    rcases Nat.eq_or_lt_of_le hqN with z | z
    · subst z
      exact fin q Q S o6 o7 hH
    · obtain ⟨cq, b1, b2, b3⟩ := hH.2.1 q z
      obtain ⟨N2, Q2, S2, p6, p8, e, hq2, hH2⟩ := hgC d I J T j x hg hj (nn (cn (fun c => decide (I 28 j c = x)) (w * h))) (s := s) (q := q) b1 4 0 N Q S o7 (by omega) z b2 hH (fun s2 h2 => by omega)
      obtain ⟨Q3, S3, e3⟩ := ih (q + 1) N2 Q2 S2 p6 p8 (by omega) hq2 hH2
      refine ⟨Q3, S3, ?_⟩
      rw [b252_103, if_neg (by rw [nn_le (by omega) (by omega)]; omega)]
      exact e.trans e3
theorem hangM (hg : GW I w h) (hn : I 14 0 24 = nn (w * h)) (hj : ¬ j = 8) : ∃ Q S : Nat → Int32, cal (d + 2) 252 [vr 14 0, vr 28 j, vi x] (MX I J T) = some (.inl (some (vi (bi (HT w h (fun c => decide (I 28 j c = x)))))), MX (HM I Q S) J T) := by
  obtain ⟨g1, g2, g3, g4, g5, g6⟩ := id hg
  have h64 : w * h ≤ 64 := Nat.mul_le_mul g4 g6
  obtain ⟨S0, e0, z0⟩ := hgA (d + 2) I J T j x hn h64 hj (w * h) 0 (I 28 8) (I 39 1) (by omega) (fun i hi => by omega)
  rw [hm_id] at e0
  by_cases hex : ∃ c, c < w * h ∧ decide (I 28 j c = x) = true
  · obtain ⟨s, hs, h1, h2⟩ := least_ex _ _ hex
    have h1' := of_decide_eq_true h1
    have h2' : ∀ c, c < s → ¬ I 28 j c = x := fun c hc => of_decide_eq_false (h2 c hc)
    have e1 := hgB1 (d + 2) I J T j x hn h64 hj (I 28 8) S0 (nn (cn (fun c => decide (I 28 j c = x)) (w * h))) hs h1' h2' s 0 (by omega)
    have hH : HI w h (fun c => decide (I 28 j c = x)) s 0 1 (fun i => if i = 0 then nn s else I 28 8 i) (fun i => if i = s then 1 else S0 i) := by
      refine ⟨?_, ?_, ?_, ?_, ?_, ?_⟩
      · rw [cn_congr (g := fun c => if c = s then true else (fun _ => false) c) (fun c hc => ?_), cn_upd rfl _ hs, cn_zero (fun _ _ => rfl)]
        by_cases z : c = s
        · simp [z]
        · simp [z, z0 c hc]
      · intro i hi
        have : i = 0 := by omega
        subst this
        exact ⟨s, hs, if_pos rfl, fun y => (or0.mp y).1 rfl⟩
      · intro c hc hy
        try dsimp only at hy
        by_cases z : c = s
        · subst z
          exact ⟨h1, 0, by omega, if_pos rfl⟩
        · rw [if_neg z] at hy
          exact absurd (z0 c hc) hy
      · exact fun y => (or0.mp y).1 rfl
      · intro R r1 r2 c hc hy
        try dsimp only at hy
        by_cases z : c = s
        · subst z; exact r1
        · rw [if_neg z] at hy
          exact absurd (z0 c hc) hy
      · intro i hi
        omega
    obtain ⟨Q2, S2, e2⟩ := hgD d I J T j x hg hj hs h1' h2' (w * h) 0 1 _ _ none none (by omega) (by omega) hH
    refine ⟨Q2, S2, ?_⟩
    rw [c252]
    exact e0.trans (e1.trans e2)
  · have hno : ∀ c, c < w * h → ¬ I 28 j c = x := fun c hc z => hex ⟨c, hc, decide_eq_true z⟩
    have e1 := hgB0 (d + 2) I J T j x hn h64 hj (I 28 8) S0 (nn (cn (fun c => decide (I 28 j c = x)) (w * h))) hno (w * h) 0 (by omega)
    refine ⟨I 28 8, S0, ?_⟩
    rw [c252]
    refine e0.trans (e1.trans ?_)
    rw [b252_103, if_pos (by decide), cn_zero (fun c hc => decide_eq_false (hno c hc)), if_neg (fun z => z rfl), bi1 (HT_nil (fun c hc => decide_eq_false (hno c hc)))]
end HANGM
