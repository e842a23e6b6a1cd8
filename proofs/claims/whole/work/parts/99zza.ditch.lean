/-! Ditches: the reference's groups; the call ditches -/
theorem tb_nx : ∀ S q P : Fin 16, q.val &&& S.val = q.val → P.val &&& S.val = P.val → P.val < q.val → P.val ≤ (q.val - 1) &&& S.val := by decide +kernel
theorem tb_nl : ∀ S q : Fin 16, 0 < q.val → ((q.val - 1) &&& S.val) &&& S.val = (q.val - 1) &&& S.val ∧ (q.val - 1) &&& S.val < q.val := by decide +kernel
section DGM
variable (d : Nat) (I : PI) (J : PJ) (T : TL) {w h : Nat}
/-- what a corner begins with, for a group -/
theorem beginM {A : Nat → Nat → Prop} {cor : Nat → Nat} {t S N : Nat} (hN : N ≤ 81) (ht1 : 1 ≤ t) (ht4 : t ≤ 4) (hS0 : 0 < S) (hS : S < 2 ^ t) (h27 : I 14 0 27 = nn t) (hcor : ∀ k, k < t → I 20 1 k = nn (cor k) ∧ cor k < N) {val : Nat → Nat → Nat} {le : Nat → Int32} (hV : ∀ P, SBG P S → RPG A cor t N 1000000 P (val P)) (hP : ∀ P, SBG P S → ROWd 1000000 P N le (val P)) {c : Nat} (hc : c < N) (x1 : Int32) : ∃ (v : Nat) (p5 : Option AV) (x4 : Int32), den d 276 72 [some (vr 14 0), some (vi x1), some (vi (nn S)), some (vi (nn c)), some (vi 1000000), some (vi (nn 0))] [] (MX (upA I 36 0 le) J T) = den d 276 59 [some (vr 14 0), some (vi x1), some (vi (nn S)), some (vi (nn (c + 1))), some (vi x4), p5] [] (MX (upA I 36 0 (wu le (81 * S + c) (nn v))) J T) ∧ v ≤ 1000000 ∧ (v < 1000000 → IG A cor t S c v) ∧ ∀ n, IG A cor t S c n → v ≤ n := by
  have hp16 : 2 ^ t ≤ 16 := by
    have := Nat.pow_le_pow_right (show 0 < 2 by omega) ht4
    exact this
  have e27 : (upA I 36 0 le) 14 0 27 = nn t := h27
  have i81 : ∀ P, 81 * nn P + nn c = nn (81 * P + c) := fun P => by rw [show (81 : Int32) = nn 81 from rfl, nn_mul, nn_add]
  -- parts
  have parts : ∀ b q v, q ≤ b → q < S → q &&& S = q → v ≤ 1000000 → (v < 1000000 → IG A cor t S c v) → (∀ k, k < t → S = 2 ^ k → c = cor k → v ≤ 0) → (∀ P, SBG P S → q < P → v ≤ val P c + val (S ^^^ P) c) → ∃ (v2 : Nat) (p5 : Option AV) (x4 : Int32), den d 276 121 [some (vr 14 0), some (vi x1), some (vi (nn S)), some (vi (nn c)), some (vi (nn v)), some (vi (nn q))] [] (MX (upA I 36 0 le) J T) = den d 276 59 [some (vr 14 0), some (vi x1), some (vi (nn S)), some (vi (nn (c + 1))), some (vi x4), p5] [] (MX (upA I 36 0 (wu le (81 * S + c) (nn v2))) J T) ∧ v2 ≤ 1000000 ∧ (v2 < 1000000 → IG A cor t S c v2) ∧ ∀ n, IG A cor t S c n → v2 ≤ n := by
    have fin : ∀ v, v ≤ 1000000 → (v < 1000000 → IG A cor t S c v) → (∀ k, k < t → S = 2 ^ k → c = cor k → v ≤ 0) → (∀ P, SBG P S → v ≤ val P c + val (S ^^^ P) c) → ∃ (v2 : Nat) (p5 : Option AV) (x4 : Int32), den d 276 121 [some (vr 14 0), some (vi x1), some (vi (nn S)), some (vi (nn c)), some (vi (nn v)), some (vi (nn 0))] [] (MX (upA I 36 0 le) J T) = den d 276 59 [some (vr 14 0), some (vi x1), some (vi (nn S)), some (vi (nn (c + 1))), some (vi x4), p5] [] (MX (upA I 36 0 (wu le (81 * S + c) (nn v2))) J T) ∧ v2 ≤ 1000000 ∧ (v2 < 1000000 → IG A cor t S c v2) ∧ ∀ n, IG A cor t S c n → v2 ≤ n := by
      intro v h1 h2 h3 h4
      refine ⟨v, some (vi (nn 0)), nn v, ?_, h1, h2, fun n hn => ?_⟩
      · rw [b276_121, if_pos (by decide), i81, if_pos (nn_inR (by omega) (by omega)), nn_idx (by omega), nn_add1, show (1000000 : Int32) = nn 1000000 from rfl, min_nn (by omega) (by omega), Nat.min_eq_left h1, upA_up3]
        rfl
      · rcases hn with ⟨k, k1, k2, k3, k4⟩ | ⟨P, hPP, n1, n2, b1, b2, b3⟩
        · have := h3 k k1 k2 k3; omega
        · have a := h4 P hPP
          have b := (hV P hPP c hc).2.2 n1 b1
          have e := (hV _ (SBG_x hPP).1 c hc).2.2 n2 b2
          omega
    intro b
    induction b with
    | zero =>
      intro q v hq hqS hqq h1 h2 h3 h4
      have : q = 0 := by omega
      subst this
      exact fin v h1 h2 h3 (fun P hPP => h4 P hPP hPP.2.1)
    | succ b ih =>
      intro q v hq hqS hqq h1 h2 h3 h4
      by_cases z : q = 0
      · subst z
        exact fin v h1 h2 h3 (fun P hPP => h4 P hPP hPP.2.1)
      · have hPS : SBG q S := ⟨by omega, by omega, hqS, hqq⟩
        have hQS := (SBG_x hPS).1
        have tx := tb_xor ⟨S, by omega⟩ ⟨q, by omega⟩
        obtain ⟨t1, t2⟩ := tb_nl ⟨S, by omega⟩ ⟨q, by omega⟩ (by show 0 < q; omega)
        dsimp only at tx t1 t2
        have r1 := hP q hPS c hc
        have r2 := hP _ hQS c hc
        have e1 : (upA I 36 0 le) 36 0 (81 * q + c) = nn (val q c) := r1.1
        have e2 : (upA I 36 0 le) 36 0 (81 * (S ^^^ q) + c) = nn (val (S ^^^ q) c) := r2.1
        have hx := hQS.2.2.1
        obtain ⟨v2, p5, x4, e, g1, g2, g3⟩ := ih ((q - 1) &&& S) (min v (val q c + val (S ^^^ q) c)) (by omega) (by omega) t1 (by have := Nat.min_le_left v (val q c + val (S ^^^ q) c); omega) (fun hlt => by
          by_cases y : v ≤ val q c + val (S ^^^ q) c
          · rw [Nat.min_eq_left y] at hlt ⊢
            exact h2 hlt
          · rw [Nat.min_eq_right (by omega)] at hlt ⊢
            exact .inr ⟨q, hPS, val q c, val (S ^^^ q) c, (hV q hPS c hc).2.1 (by omega), (hV _ hQS c hc).2.1 (by omega), rfl⟩) (fun k k1 k2 k3 => Nat.le_trans (Nat.min_le_left _ _) (h3 k k1 k2 k3)) (fun P hPP hlt => by
          by_cases y : P = q
          · subst y; exact Nat.min_le_right _ _
          · refine Nat.le_trans (Nat.min_le_left _ _) (h4 P hPP ?_)
            apply Classical.byContradiction
            intro u
            have := tb_nx ⟨S, by omega⟩ ⟨q, by omega⟩ ⟨P, by omega⟩ hqq hPP.2.2.2 (show P < q by omega)
            dsimp only at this
            omega)
        refine ⟨v2, p5, x4, ?_, g1, g2, g3⟩
        rw [b276_121, if_neg (by rw [le0 (by omega)]; exact z), i81, if_pos (nn_inR (by omega) (by omega)), tx, i81, if_pos (nn_inR (by omega) (by omega)), nn_idx (by omega), nn_idx (by omega), e1, e2, nn_add, min_nn (by omega) (by omega), show (1 : Int32) = nn 1 from rfl, nn_sub (by omega), nn_land]
        exact e
  -- singles
  have singles : ∀ m k v, k + m = t → v ≤ 1000000 → (v < 1000000 → IG A cor t S c v) → (∀ j, j < k → S = 2 ^ j → c = cor j → v ≤ 0) → ∃ (v2 : Nat) (p5 : Option AV) (x4 : Int32), den d 276 72 [some (vr 14 0), some (vi x1), some (vi (nn S)), some (vi (nn c)), some (vi (nn v)), some (vi (nn k))] [] (MX (upA I 36 0 le) J T) = den d 276 59 [some (vr 14 0), some (vi x1), some (vi (nn S)), some (vi (nn (c + 1))), some (vi x4), p5] [] (MX (upA I 36 0 (wu le (81 * S + c) (nn v2))) J T) ∧ v2 ≤ 1000000 ∧ (v2 < 1000000 → IG A cor t S c v2) ∧ ∀ n, IG A cor t S c n → v2 ≤ n := by
    intro m
    induction m with
    | zero =>
      intro k v hk h1 h2 h3
      obtain ⟨t1, t2⟩ := tb_nl ⟨S, by omega⟩ ⟨S, by omega⟩ hS0
      dsimp only at t1 t2
      rw [b276_72, e27, if_pos ((nn_le (by omega) (by omega)).mpr (by omega)), show (1 : Int32) = nn 1 from rfl, nn_sub (by omega), nn_land]
      refine parts ((S - 1) &&& S) ((S - 1) &&& S) v (Nat.le_refl _) t2 t1 h1 h2 (fun j j1 => h3 j (by omega)) (fun P hPP hlt => ?_)
      have := tb_nx ⟨S, by omega⟩ ⟨S, by omega⟩ ⟨P, by have := hPP.2.2.1; omega⟩ (Nat.and_self S) hPP.2.2.2 hPP.2.2.1
      dsimp only at this
      omega
    | succ m ih =>
      intro k v hk h1 h2 h3
      have ti := tb_ish ⟨k, by omega⟩
      dsimp only at ti
      have hpw : 2 ^ k ≤ 8 := by
        have := pw4 (show k < 4 by omega); omega
      have e20 : (upA I 36 0 le) 20 1 k = nn (cor k) := (hcor k (by omega)).1
      have hck := (hcor k (by omega)).2
      rw [b276_72, e27, if_neg (by rw [nn_le (by omega) (by omega)]; omega), ti, nn_add1]
      by_cases z : S = 2 ^ k
      · rw [if_neg (fun y => y (by rw [z])), if_pos (nn_inR (by omega) (by omega)), nn_idx (by omega), e20]
        by_cases y : cor k = c
        · rw [if_neg (fun x => x (by rw [y]))]
          exact ih (k + 1) 0 (by omega) (by omega) (fun _ => .inl ⟨k, by omega, z, y.symm, rfl⟩) (fun j _ _ _ => Nat.le_refl 0)
        · rw [if_pos (fun x => y ((nn_inj (by omega) (by omega)).mp x))]
          refine ih (k + 1) v (by omega) h1 h2 (fun j j1 j2 j3 => ?_)
          by_cases u : j = k
          · subst u; exact absurd j3.symm y
          · exact h3 j (by omega) j2 j3
      · rw [if_pos (fun y => z ((nn_inj (by omega) (by omega)).mp y))]
        refine ih (k + 1) v (by omega) h1 h2 (fun j j1 j2 j3 => ?_)
        by_cases u : j = k
        · subst u; exact absurd j2 z
        · exact h3 j (by omega) j2 j3
  exact singles t 0 1000000 (by omega) (Nat.le_refl _) (fun y => absurd y (by omega)) (fun j j1 => absurd j1 (by omega))
theorem joinR {A : Nat → Nat → Prop} {cor : Nat → Nat} {t S N : Nat} (hN : N ≤ 81) (ht1 : 1 ≤ t) (ht4 : t ≤ 4) (hS0 : 0 < S) (hS : S < 2 ^ t) (h27 : I 14 0 27 = nn t) (hcor : ∀ k, k < t → I 20 1 k = nn (cor k) ∧ cor k < N) {val : Nat → Nat → Nat} (hV : ∀ P, SBG P S → RPG A cor t N 1000000 P (val P)) : ∀ m c (le : Nat → Int32) (o4 o5 : Option AV), c + m = N → (∀ P, SBG P S → ROWd 1000000 P N le (val P)) → (∃ ini : Nat → Nat, ∀ x, x < c → le (81 * S + x) = nn (ini x) ∧ ini x ≤ 1000000 ∧ (ini x < 1000000 → IG A cor t S x (ini x)) ∧ ∀ n, IG A cor t S x n → ini x ≤ n) → ∃ (le2 : Nat → Int32) (ini : Nat → Nat) (p4 p5 : Option AV), den (d + 1) 276 59 [some (vr 14 0), some (vi (nn N)), some (vi (nn S)), some (vi (nn c)), o4, o5] [] (MX (upA I 36 0 le) J T) = ret9 (den (d + 1) 276) 276 198 201 [some (vr 14 0), some (vi (nn N)), some (vi (nn S)), some (vi (nn N)), p4, p5] [] (cal d 277 [vr 14 0, vi (nn S)] (MX (upA I 36 0 le2) J T)) ∧ ROWd 1000000 S N le2 ini ∧ RIG A cor t N 1000000 S ini ∧ FRMd S le le2 := by
  have hp16 : 2 ^ t ≤ 16 := by
    have := Nat.pow_le_pow_right (show 0 < 2 by omega) ht4
    exact this
  intro m
  induction m with
  | zero =>
    intro c le o4 o5 hc hP hi
    obtain ⟨ini, hi⟩ := hi
    refine ⟨le, ini, o4, o5, ?_, fun x hx => ⟨(hi x (by omega)).1, (hi x (by omega)).2.1⟩, fun x hx => (hi x (by omega)).2, FRM_r S le⟩
    rw [show c = N by omega, b276_59, if_pos (Int32.le_refl _)]
  | succ m ih =>
    intro c le o4 o5 hc hP hi
    obtain ⟨ini, hi⟩ := hi
    obtain ⟨v, p5, x4, e1, g1, g2, g3⟩ := beginM (d + 1) I J T (A := A) hN ht1 ht4 hS0 hS h27 hcor hV hP (show c < N by omega) (nn N)
    have hF : FRMd S le (wu le (81 * S + c) (nn v)) := fun i hi => by unfold wu; rw [if_neg (by omega)]
    obtain ⟨le2, ini2, q4, q5, e2, r1, r2, r3⟩ := ih (c + 1) (wu le (81 * S + c) (nn v)) (some (vi x4)) p5 (by omega) (fun P hPP => FRM_row hN (by have := hPP.2.2.1; omega) hF (hP P hPP)) ⟨upN ini c v, fun x hx => by
      by_cases z : x = c
      · rw [z, upN_s]
        exact ⟨by unfold wu; rw [if_pos rfl], g1, g2, g3⟩
      · rw [upN_o _ _ z]
        have := hi x (by omega)
        refine ⟨?_, this.2⟩
        unfold wu
        rw [if_neg (by omega)]
        exact this.1⟩
    refine ⟨le2, ini2, q4, q5, ?_, r1, r2, FRM_t hF r3⟩
    rw [b276_59, if_neg (by rw [nn_le (by omega) (by omega)]; omega)]
    exact e1.trans e2
theorem setsR (hg : GW I w h) {cor : Nat → Nat} {t : Nat} (ht1 : 1 ≤ t) (ht4 : t ≤ 4) (h27 : I 14 0 27 = nn t) (hcor : ∀ k, k < t → I 20 1 k = nn (cor k) ∧ cor k < (w + 1) * (h + 1)) : ∀ m S (le : Nat → Int32) (val : Nat → Nat → Nat) (o3 o4 o5 : Option AV), S + m = 2 ^ t → 1 ≤ S → (∀ P, 0 < P → P < S → ROWd 1000000 P ((w + 1) * (h + 1)) le (val P) ∧ RPG (AJd (eBd (I 28 7) w h) (sBd (I 28 7) w h) (w + 1)) cor t ((w + 1) * (h + 1)) 1000000 P (val P)) → ∃ (le2 : Nat → Int32) (vr' : Nat → Nat) (p3 p4 p5 : Option AV), den (d + 3) 276 47 [some (vr 14 0), some (vi (nn ((w + 1) * (h + 1)))), some (vi (nn S)), o3, o4, o5] [] (MX (upA I 36 0 le) J T) = (if vr' (cor 0) < 1000000 then ret9 (den (d + 3) 276) 276 249 252 [some (vr 14 0), some (vi (nn ((w + 1) * (h + 1)))), some (vi (nn (vr' (cor 0)))), p3, p4, p5] [] (cal (d + 2) 215 [vr 14 0, vi (nn (vr' (cor 0)))] (MX (upA I 36 0 le2) J T)) else ret9 (den (d + 3) 276) 276 241 244 [some (vr 14 0), some (vi (nn ((w + 1) * (h + 1)))), some (vi (nn (vr' (cor 0)))), p3, p4, p5] [] (cal (d + 2) 187 [vr 14 0, vi 6] (MX (upA I 36 0 le2) J T))) ∧ RPG (AJd (eBd (I 28 7) w h) (sBd (I 28 7) w h) (w + 1)) cor t ((w + 1) * (h + 1)) 1000000 (2 ^ t - 1) vr' := by
  obtain ⟨hw, hh, hw1, hw8, hh1, hh8⟩ := id hg
  have hN := N81 hw8 hh8
  have hp16 : 2 ^ t ≤ 16 ∧ 2 ≤ 2 ^ t := by
    have a := Nat.pow_le_pow_right (show 0 < 2 by omega) ht4
    have b := Nat.pow_le_pow_right (show 0 < 2 by omega) ht1
    exact ⟨a, b⟩
  have ti := tb_ish ⟨t, by omega⟩
  dsimp only at ti
  have hA : ∀ u v, AJd (eBd (I 28 7) w h) (sBd (I 28 7) w h) (w + 1) u v → u < (w + 1) * (h + 1) ∧ v < (w + 1) * (h + 1) := fun u v q => by
    rcases q with ⟨q1, q2⟩ | ⟨q1, q2⟩ | ⟨q1, q2⟩ | ⟨q1, q2⟩
    · have := e_lt q1; omega
    · have := e_lt q1; omega
    · have := s_lt q1; omega
    · have := s_lt q1; omega
  intro m
  induction m with
  | zero =>
    intro S le val o3 o4 o5 hS hS1 hv
    obtain ⟨a, b⟩ := hv (2 ^ t - 1) (by omega) (by omega)
    have hc := hcor 0 (by omega)
    have hc2 := hc.2
    have e27 : (upA I 36 0 le) 14 0 27 = nn t := h27
    have e20 : (upA I 36 0 le) 20 1 0 = nn (cor 0) := hc.1
    have eL : (upA I 36 0 le) 36 0 (81 * (2 ^ t - 1) + cor 0) = nn (val (2 ^ t - 1) (cor 0)) := (a _ hc.2).1
    have bL := (a _ hc.2).2
    have ei : 81 * (nn (2 ^ t) - 1) + nn (cor 0) = nn (81 * (2 ^ t - 1) + cor 0) := by rw [show nn (2 ^ t) - 1 = nn (2 ^ t - 1) from nn_sub (b := 1) (by omega), show (81 : Int32) = nn 81 from rfl, nn_mul, nn_add]
    refine ⟨le, val (2 ^ t - 1), o3, o4, o5, ?_, b⟩
    rw [b276_47, e27, ti, if_pos ((nn_le (by omega) (by omega)).mpr (by omega)), e20, ei, if_pos (nn_inR (by omega) (by omega)), nn_idx (by omega), eL]
    by_cases z : val (2 ^ t - 1) (cor 0) < 1000000
    · rw [if_pos (show nn _ < (1000000 : Int32) from (nn_lt (b := 1000000) (by omega) (by omega)).mpr z), if_pos z]
    · rw [if_neg (by rw [show (1000000 : Int32) = nn 1000000 from rfl, nn_lt (by omega) (by omega)]; exact z), if_neg z]
  | succ m ih =>
    intro S le val o3 o4 o5 hS hS1 hv
    have e27 : (upA I 36 0 le) 14 0 27 = nn t := h27
    obtain ⟨le1, ini, q4, q5, e1, r1, r2, f1⟩ := joinR (d + 2) I J T (A := AJd (eBd (I 28 7) w h) (sBd (I 28 7) w h) (w + 1)) (N := (w + 1) * (h + 1)) hN ht1 ht4 (show 0 < S by omega) (by omega) h27 hcor (val := val) (fun P hPP => (hv P hPP.2.1 hPP.2.2.1).2) ((w + 1) * (h + 1)) 0 le o4 o5 (by omega) (fun P hPP => (hv P hPP.2.1 hPP.2.2.1).1) ⟨fun _ => 0, fun x hx => absurd hx (by omega)⟩
    obtain ⟨le2, cur, e2, r3, f2, s2⟩ := spreadM d I J T hg (show S < 16 by omega) r1
    have hrp := RPG_of (AJd (eBd (I 28 7) w h) (sBd (I 28 7) w h) (w + 1)) cor t hA (fun k hk => (hcor k hk).2) r2 s2
    obtain ⟨le3, vr', p3, p4, p5, e3, q3⟩ := ih (S + 1) le2 (fun P => if P = S then cur else val P) (some (vi (nn ((w + 1) * (h + 1))))) q4 q5 (by omega) (by omega) (fun P h0 hPg => by
      by_cases z : P = S
      · rw [if_pos z, z]; exact ⟨r3, hrp⟩
      · rw [if_neg z]
        have := hv P h0 (by omega)
        exact ⟨FRM_row hN z (FRM_t f1 f2) this.1, this.2⟩)
    refine ⟨le3, vr', p3, p4, p5, ?_, q3⟩
    rw [b276_47, e27, ti, if_neg (by rw [nn_le (by omega) (by omega)]; omega)]
    refine Eq.trans e1 ?_
    rw [e2]
    simp only [ret9]
    rw [b276_201, nn_add1]
    exact e3
end DGM
