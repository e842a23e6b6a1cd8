/-! Seeking a move: the class's exchanges and whole search -/
section SEEKY
variable (d : Nat) {w h o : Nat} (I : PI) (J : PJ) (T : TL)
theorem exc1 {ws : Nat → Int32} (hC : CSX ws I J T w h o) {c e f : Nat} (hc : c < w * h) (he : e < w * h) (hce : ¬ e = c) (hm : I 39 0 c = 0 ∧ I 28 6 c = -1) (hf : f < o) (hws : ws c = nn f) (sf : Nat → Int32) (st : MVT) (hS : SC sf st) (h45 : S45 ws I w h o sf) (o5 o6 o7 : Option AV) : ∃ (sf2 : Nat → Int32) (p5 p6 p7 : Option AV), den (d + 4) 130 25 [some (vr 6 0), some (vi (nn c)), some (vi (nn f)), some (vi (I 34 0 (64 * f + c))), some (vi (nn e)), o5, o6, o7] [] (MX (upA I 6 0 sf) J T) = den (d + 4) 130 25 [some (vr 6 0), some (vi (nn c)), some (vi (nn f)), some (vi (I 34 0 (64 * f + c))), some (vi (nn (e + 1))), p5, p6, p7] [] (MX (upA I 6 0 sf2) J T) ∧ SC sf2 (s2 ws (I 39 0) (KKf I w h o) (SHf I (w * h) o) (TTf I (w * h) o) c e st) ∧ S45 ws I w h o sf2 := by
  obtain ⟨hW, hp, hM, hCC, hD, ho, ho6, hL, hsu⟩ := id hC
  have h64 := relW_le hW
  obtain ⟨-, -, hw1, hw8, hh1, hh8⟩ := relGW hW hp
  have h9 : I 5 0 9 = nn (w * h) := hW.2.2.1
  have hr : inR (nn e) 64 = true := nn_inR (by omega) (by omega)
  have hd := (hD.1 e he).1
  by_cases hee : ws e = nn f
  · refine ⟨sf, some (vi (nn f)), o6, o7, ?_, ?_, h45⟩
    · rw [b130_25]
      show (if I 5 0 9 ≤ _ then _ else (if inR (nn e) 64 = true then (if I 28 3 (nn e).toNatClampNeg = nn f then den (d + 4) 130 25 [some (vr 6 0), some (vi (nn c)), some (vi (nn f)), some (vi (I 34 0 (64 * f + c))), some (vi (nn e + 1)), some (vi (I 28 3 (nn e).toNatClampNeg)), o6, o7] [] _ else _) else none)) = _
      rw [h9, if_neg (by rw [nn_le (by omega) (by omega)]; omega), if_pos hr, nn_idx (by omega), hd, if_pos hee, hee, nn_add1]
    · unfold s2
      rw [if_neg (fun z => z.2.2 (by rw [hws, hee]))]
      exact hS
  · have mc := mayC (d + 2) I J T hC sf he
    have e0 : den (d + 4) 130 25 [some (vr 6 0), some (vi (nn c)), some (vi (nn f)), some (vi (I 34 0 (64 * f + c))), some (vi (nn e)), o5, o6, o7] [] (MX (upA I 6 0 sf) J T) = den (d + 4) 130 61 [some (vr 6 0), some (vi (nn c)), some (vi (nn f)), some (vi (I 34 0 (64 * f + c))), some (vi (nn e)), some (vi (ws e)), o6, o7] [vi (bi (I 39 0 e = 0 ∧ I 28 6 e = -1))] (MX (upA I 6 0 sf) J T) := by
      rw [b130_25]
      show (if I 5 0 9 ≤ _ then _ else (if inR (nn e) 64 = true then (if I 28 3 (nn e).toNatClampNeg = nn f then _ else ret9 _ _ _ _ [some (vr 6 0), some (vi (nn c)), some (vi (nn f)), some (vi (I 34 0 (64 * f + c))), some (vi (nn e)), some (vi (I 28 3 (nn e).toNatClampNeg)), o6, o7] _ (cal (d + 3) 123 [vr 6 0, vi (nn e)] _)) else none)) = _
      rw [h9, if_neg (by rw [nn_le (by omega) (by omega)]; omega), if_pos hr, nn_idx (by omega), hd, if_neg hee, mc]
      simp only [ret9]
    by_cases hme : I 39 0 e = 0 ∧ I 28 6 e = -1
    · have hown : ∃ k, k < o ∧ ws e = nn k := by
        rcases (hD.1 e he).2 with z | z
        · exact absurd ⟨z, hme.1⟩ (hL.1 e he)
        · exact z
      obtain ⟨k, hk, hws2⟩ := hown
      have hfk : ¬ f = k := fun z => hee (by rw [hws2, z])
      obtain ⟨x1, x2⟩ := xor2 (ws := ws) (show f < 6 by omega) (show k < 6 by omega) hfk (show c < 64 by omega) (show e < 64 by omega) hce hws hws2
      have hbit : ∀ i, bt (lsh9 1 (nn c) ||| lsh9 1 (nn e)) i = true → i < w * h := fun i hi => by
        rw [bt_or, bt_bit (by omega), bt_bit (by omega), Bool.or_eq_true] at hi
        rcases hi with z | z
        · rw [of_decide_eq_true z]; exact hc
        · rw [of_decide_eq_true z]; exact he
      obtain ⟨y1, y2⟩ := FL_x hD h64 (show f < 6 by omega) (fun i _ => x1 i) hbit
      obtain ⟨z1, z2⟩ := FL_x hD h64 (show k < 6 by omega) (fun i _ => x2 i) hbit
      have hlaw := two1 (h := h) hw1 ho6 hc he hf hk hL (fun c hc => (hD.1 c hc).2) hm.2 hme.2 hws hws2 y1 z1
      have u1 := SU_2f (pr := I 34 0) hc he hce (show f < 6 by omega) (show k < 6 by omega) hfk hws hws2
      have u2 := SU_2t (pr := I 34 0) hc he hce (show f < 6 by omega) (show k < 6 by omega) hfk hws hws2
      have u3 : ∀ q, q < o → ¬ q = f → ¬ q = k → SU (ex ws c e) (I 34 0) (w * h) q (nn q) = SU ws (I 34 0) (w * h) q (nn q) := fun q hq e1 e2 => SU_2k hc he hce (by omega) (by omega) (by omega) e1 e2 hws hws2
      have eS := SHO_two (had := I 21 4) hfk hf hk u1 u2 u3
      have eT := TS_two hfk hf hk u1 u2 u3
      have hs2 : s2 ws (I 39 0) (KKf I w h o) (SHf I (w * h) o) (TTf I (w * h) o) c e st = lk (KKf I w h o (ex ws c e)) (SHf I (w * h) o (ex ws c e)) (TTf I (w * h) o (ex ws c e)) (c, k, some e) st := by
        unfold s2
        rw [if_pos ⟨hm.1, hme.1, by rw [hws, hws2]; exact nn_ne (by omega) (by omega) hfk⟩, hws2, nn_idx (by omega)]
      have p1 := priceC (d + 3) (k := f) (c := e) (upA I 6 0 sf) J T (by omega) (by omega)
      have p2 := priceC (d + 3) (k := k) (c := c) (upA I 6 0 sf) J T (by omega) (by omega)
      have p3 := priceC (d + 3) (k := k) (c := e) (upA I 6 0 sf) J T (by omega) (by omega)
      generalize hxx : I 34 0 (64 * f + e) - I 34 0 (64 * f + c) = xx at u1 eS eT
      generalize hyy : I 34 0 (64 * k + c) - I 34 0 (64 * k + e) = yy at u2 eS eT
      have im := impC (d + 1) (upA I 6 0 sf) J T (f := f) (t := k) xx yy (by omega) (by omega)
      have hl := holdC (d + 1) (upA I 6 0 sf) J T (f := f) (t := k) xx yy (by omega) (by omega)
      have lw := law2C d (lsh9 1 (nn c) ||| lsh9 1 (nn e)) (upA I 6 0 sf) J T (f := f) (t := k) hW hp hM (by omega) (by omega) y2 z2
      have eSB : SB (sf 4) (I 21 4) (I 21 6) f xx k yy = SHf I (w * h) o (ex ws c e) := by
        show _ = SHO _ _ _ _ _
        rw [eS, h45.1]
        exact SB_congr (hsu f hf) (hsu k hk)
      have eTT : sf 5 + xx + yy = TTf I (w * h) o (ex ws c e) := by
        show _ = TS _ _ _ _
        rw [eT, h45.2]
      change cal (d + 3) 125 [vr 6 0, vi (nn f), vi xx, vi (nn k), vi yy] (MX (upA I 6 0 sf) J T) = some (.inl (some (vi (bi (BTR (sf 6) (sf 7) (SB (sf 4) (I 21 4) (I 21 6) f xx k yy) (sf 5 + xx + yy))))), MX (upA I 6 0 sf) J T) at im
      change cal (d + 3) 129 [vr 6 0, vi (nn f), vi xx, vi (nn k), vi yy] (MX (upA I 6 0 sf) J T) = some (.inl none, MX (up3 (up3 (upA I 6 0 sf) 6 0 6 (SB (sf 4) (I 21 4) (I 21 6) f xx k yy)) 6 0 7 (sf 5 + xx + yy)) J T) at hl
      rw [eSB, eTT, hS.1, hS.2.1] at im
      rw [eSB, eTT] at hl
      change cal (d + 3) 127 [vr 6 0, vi (nn f), vi (nn k), vl (lsh9 1 (nn c) ||| lsh9 1 (nn e))] (MX (upA I 6 0 sf) J T) = some (.inl (some (vi (bi (LFP w h (I 5 0 10) (bt (J 42 1 f ^^^ (lsh9 1 (nn c) ||| lsh9 1 (nn e)))) ∧ LFP w h (I 5 0 10) (bt (J 42 1 k ^^^ (lsh9 1 (nn c) ||| lsh9 1 (nn e)))))))), MX (upA I 6 0 sf) J T) at lw
      rw [bi_congr hlaw.symm] at lw
      have e1 : den (d + 4) 130 25 [some (vr 6 0), some (vi (nn c)), some (vi (nn f)), some (vi (I 34 0 (64 * f + c))), some (vi (nn e)), o5, o6, o7] [] (MX (upA I 6 0 sf) J T) = den (d + 4) 130 113 [some (vr 6 0), some (vi (nn c)), some (vi (nn f)), some (vi (I 34 0 (64 * f + c))), some (vi (nn e)), some (vi (nn k)), some (vi xx), some (vi yy)] [vi (bi (BTR st.1 st.2.1 (SHf I (w * h) o (ex ws c e)) (TTf I (w * h) o (ex ws c e))))] (MX (upA I 6 0 sf) J T) := by
        rw [e0, bi1 hme, b130_61, if_neg (by decide), p1]
        simp only [ret9]
        rw [b130_74, hws2, p2]
        simp only [ret9]
        rw [b130_88, p3]
        simp only [ret9]
        rw [b130_99]
        show ret9 _ _ _ _ [some (vr 6 0), some (vi (nn c)), some (vi (nn f)), some (vi (I 34 0 (64 * f + c))), some (vi (nn e)), some (vi (nn k)), some (vi (I 34 0 (64 * f + e) - I 34 0 (64 * f + c))), some (vi (I 34 0 (64 * k + c) - I 34 0 (64 * k + e)))] _ (cal (d + 3) 125 [vr 6 0, vi (nn f), vi (I 34 0 (64 * f + e) - I 34 0 (64 * f + c)), vi (nn k), vi (I 34 0 (64 * k + c) - I 34 0 (64 * k + e))] (MX (upA I 6 0 sf) J T)) = _
        rw [hxx, hyy, im]
        simp only [ret9]
      rw [e1]
      generalize SHf I (w * h) o (ex ws c e) = S2 at hl hs2
      generalize TTf I (w * h) o (ex ws c e) = T2 at hl hs2
      by_cases q1 : BTR st.1 st.2.1 S2 T2
      · by_cases q2 : KKf I w h o (ex ws c e)
        · refine ⟨wu (wu (wu (wu (wu sf 6 S2) 7 T2) 8 (nn c)) 9 (nn k)) 10 (nn e), some (vi (nn k)), some (vi xx), some (vi yy), ?_, ?_, h45⟩
          · rw [bi1 q1, b130_113, if_neg (by decide), lw, bi1 q2]
            simp only [ret9]
            rw [b130_131, if_neg (by decide), hl]
            simp only [ret9]
            rw [b130_145, upA_6, upA_6, upA_6, upA_6, upA_6, nn_add1]
          · rw [hs2, lk1 q1 q2]
            exact ⟨rfl, rfl, rfl, rfl, rfl⟩
        · refine ⟨sf, some (vi (nn k)), some (vi xx), some (vi yy), ?_, ?_, h45⟩
          · rw [bi1 q1, b130_113, if_neg (by decide), lw, bi0 q2]
            simp only [ret9]
            rw [b130_131, if_pos rfl, nn_add1]
          · rw [hs2, lk0 (fun z => q2 z.2)]
            exact hS
      · refine ⟨sf, some (vi (nn k)), some (vi xx), some (vi yy), ?_, ?_, h45⟩
        · rw [bi0 q1, b130_113, if_pos rfl, nn_add1]
        · rw [hs2, lk0 (fun z => q1 z.1)]
          exact hS
    · refine ⟨sf, some (vi (ws e)), o6, o7, ?_, ?_, h45⟩
      · rw [e0, bi0 hme, b130_61, if_pos rfl, nn_add1]
      · rw [skip2 I J T hC hc he hce (fun z => hme z.2)]
        exact hS
theorem cellsC {ws : Nat → Int32} (hC : CSX ws I J T w h o) {c : Nat} (hc : c < w * h) (hm : I 39 0 c = 0 ∧ I 28 6 c = -1) (sf : Nat → Int32) (st : MVT) (hS : SC sf st) (h45 : S45 ws I w h o sf) : ∃ sf2 : Nat → Int32, cal (d + 4) 130 [vr 6 0, vi (nn c)] (MX (upA I 6 0 sf) J T) = some (.inl none, MX (upA I 6 0 sf2) J T) ∧ SC sf2 (itn (s2 ws (I 39 0) (KKf I w h o) (SHf I (w * h) o) (TTf I (w * h) o) c) (w * h - (c + 1)) (c + 1) st) ∧ S45 ws I w h o sf2 := by
  obtain ⟨hW, hp, hM, hCC, hD, ho, ho6, hL, hsu⟩ := id hC
  have h64 := relW_le hW
  have h9 : I 5 0 9 = nn (w * h) := hW.2.2.1
  have hown : ∃ f, f < o ∧ ws c = nn f := by
    rcases (hD.1 c hc).2 with z | z
    · exact absurd ⟨z, hm.1⟩ (hL.1 c hc)
    · exact z
  obtain ⟨f, hf, hws⟩ := hown
  have lp : ∀ m e (sf : Nat → Int32) (st : MVT) (o5 o6 o7 : Option AV), e + m = w * h → c < e → SC sf st → S45 ws I w h o sf → ∃ sf2 : Nat → Int32, den (d + 4) 130 25 [some (vr 6 0), some (vi (nn c)), some (vi (nn f)), some (vi (I 34 0 (64 * f + c))), some (vi (nn e)), o5, o6, o7] [] (MX (upA I 6 0 sf) J T) = some (.inl none, MX (upA I 6 0 sf2) J T) ∧ SC sf2 (itn (s2 ws (I 39 0) (KKf I w h o) (SHf I (w * h) o) (TTf I (w * h) o) c) m e st) ∧ S45 ws I w h o sf2 := by
    intro m
    induction m with
    | zero =>
      intro e sf st o5 o6 o7 hk hce hS h45
      refine ⟨sf, ?_, hS, h45⟩
      rw [b130_25]
      show (if I 5 0 9 ≤ _ then _ else _) = _
      rw [h9, if_pos ((nn_le (by omega) (by omega)).mpr (by omega))]
    | succ m ih =>
      intro e sf st o5 o6 o7 hk hce hS h45
      obtain ⟨sf3, p5, p6, p7, e3, q3, r3⟩ := exc1 d I J T hC hc (show e < w * h by omega) (by omega) hm hf hws sf st hS h45 o5 o6 o7
      obtain ⟨sf2, e2, q2, r2⟩ := ih (e + 1) sf3 _ p5 p6 p7 (by omega) (by omega) q3 r3
      exact ⟨sf2, e3.trans e2, q2, r2⟩
  obtain ⟨sf2, e2, q2, r2⟩ := lp (w * h - (c + 1)) (c + 1) sf st none none none (by omega) (by omega) hS h45
  refine ⟨sf2, ?_, q2, r2⟩
  have pc := priceC (d + 3) (k := f) (c := c) (upA I 6 0 sf) J T (by omega) (by omega)
  rw [c130, if_pos (nn_inR (by omega) (by omega)), nn_idx (by omega)]
  show ret9 _ _ _ _ [some (vr 6 0), some (vi (nn c)), some (vi (I 28 3 c)), none, none, none, none, none] _ (cal (d + 3) 80 [vr 5 0, vi (I 28 3 c), vi (nn c)] _) = _
  rw [(hD.1 c hc).1, hws, pc]
  simp only [ret9]
  rw [b130_19, nn_add1]
  exact e2
theorem lpA {ws : Nat → Int32} (hC : CSX ws I J T w h o) : ∀ m c (sf : Nat → Int32) (st : MVT), c + m = w * h → SC sf st → S45 ws I w h o sf → ∃ sf2 : Nat → Int32, den (d + 5) 122 107 [some (vr 6 0), some (vi (nn c))] [] (MX (upA I 6 0 sf) J T) = den (d + 5) 122 139 [some (vr 6 0), some (vi (nn 0))] [] (MX (upA I 6 0 sf2) J T) ∧ SC sf2 (itn (fun c st => itn (s1 ws (I 39 0) (KKf I w h o) (SHf I (w * h) o) (TTf I (w * h) o) c) o 0 st) m c st) ∧ S45 ws I w h o sf2 := by
  obtain ⟨hW, hp, hM, hCC, hD, ho, ho6, hL, hsu⟩ := id hC
  have h64 := relW_le hW
  have h9 : I 5 0 9 = nn (w * h) := hW.2.2.1
  intro m
  induction m with
  | zero =>
    intro c sf st hc hS h45
    refine ⟨sf, ?_, hS, h45⟩
    rw [b122_107]
    show (if I 5 0 9 ≤ _ then _ else _) = _
    rw [h9, if_pos ((nn_le (by omega) (by omega)).mpr (by omega)), b122_137]
    rfl
  | succ m ih =>
    intro c sf st hc hS h45
    have mc := mayC (d + 3) I J T hC sf (show c < w * h by omega)
    have e0 : den (d + 5) 122 107 [some (vr 6 0), some (vi (nn c))] [] (MX (upA I 6 0 sf) J T) = den (d + 5) 122 123 [some (vr 6 0), some (vi (nn c))] [vi (bi (I 39 0 c = 0 ∧ I 28 6 c = -1))] (MX (upA I 6 0 sf) J T) := by
      rw [b122_107]
      show (if I 5 0 9 ≤ _ then _ else _) = _
      rw [h9, if_neg (by rw [nn_le (by omega) (by omega)]; omega), b122_118, mc]
      simp only [ret9]
    by_cases hm : I 39 0 c = 0 ∧ I 28 6 c = -1
    · obtain ⟨sf3, e3, q3, r3⟩ := ownsC d I J T hC (show c < w * h by omega) hm sf st hS h45
      obtain ⟨sf2, e2, q2, r2⟩ := ih (c + 1) sf3 _ (by omega) q3 r3
      refine ⟨sf2, ?_, q2, r2⟩
      rw [e0, bi1 hm, b122_123, if_neg (by decide), b122_126, e3]
      simp only [ret9]
      rw [b122_131, b122_134, nn_add1]
      exact e2
    · obtain ⟨sf2, e2, q2, r2⟩ := ih (c + 1) sf st (by omega) hS h45
      refine ⟨sf2, ?_, ?_, r2⟩
      · rw [e0, bi0 hm, b122_123, if_pos rfl, b122_131, b122_134, nn_add1]
        exact e2
      · rw [itn_su, itn_id (b := st) o 0 (fun k _ _ => skip1 I J T hC (by omega) hm st)]
        exact q2
theorem lpB {ws : Nat → Int32} (hC : CSX ws I J T w h o) : ∀ m c (sf : Nat → Int32) (st : MVT), c + m = w * h → SC sf st → S45 ws I w h o sf → ∃ sf2 : Nat → Int32, den (d + 5) 122 139 [some (vr 6 0), some (vi (nn c))] [] (MX (upA I 6 0 sf) J T) = den (d + 5) 122 169 [some (vr 6 0), some (vi (nn (w * h)))] [] (MX (upA I 6 0 sf2) J T) ∧ SC sf2 (itn (fun c st => itn (s2 ws (I 39 0) (KKf I w h o) (SHf I (w * h) o) (TTf I (w * h) o) c) (w * h - (c + 1)) (c + 1) st) m c st) ∧ S45 ws I w h o sf2 := by
  obtain ⟨hW, hp, hM, hCC, hD, ho, ho6, hL, hsu⟩ := id hC
  have h64 := relW_le hW
  have h9 : I 5 0 9 = nn (w * h) := hW.2.2.1
  intro m
  induction m with
  | zero =>
    intro c sf st hc hS h45
    refine ⟨sf, ?_, hS, h45⟩
    rw [b122_139]
    show (if I 5 0 9 ≤ _ then _ else _) = _
    rw [h9, if_pos ((nn_le (by omega) (by omega)).mpr (by omega)), show c = w * h by omega]
  | succ m ih =>
    intro c sf st hc hS h45
    have mc := mayC (d + 3) I J T hC sf (show c < w * h by omega)
    have e0 : den (d + 5) 122 139 [some (vr 6 0), some (vi (nn c))] [] (MX (upA I 6 0 sf) J T) = den (d + 5) 122 155 [some (vr 6 0), some (vi (nn c))] [vi (bi (I 39 0 c = 0 ∧ I 28 6 c = -1))] (MX (upA I 6 0 sf) J T) := by
      rw [b122_139]
      show (if I 5 0 9 ≤ _ then _ else _) = _
      rw [h9, if_neg (by rw [nn_le (by omega) (by omega)]; omega), b122_150, mc]
      simp only [ret9]
    by_cases hm : I 39 0 c = 0 ∧ I 28 6 c = -1
    · obtain ⟨sf3, e3, q3, r3⟩ := cellsC d I J T hC (show c < w * h by omega) hm sf st hS h45
      obtain ⟨sf2, e2, q2, r2⟩ := ih (c + 1) sf3 _ (by omega) q3 r3
      refine ⟨sf2, ?_, q2, r2⟩
      rw [e0, bi1 hm, b122_155, if_neg (by decide), b122_158, e3]
      simp only [ret9]
      rw [b122_163, b122_166, nn_add1]
      exact e2
    · obtain ⟨sf2, e2, q2, r2⟩ := ih (c + 1) sf st (by omega) hS h45
      refine ⟨sf2, ?_, ?_, r2⟩
      · rw [e0, bi0 hm, b122_155, if_pos rfl, b122_163, b122_166, nn_add1]
        exact e2
      · rw [itn_su, itn_id (b := st) (w * h - (c + 1)) (c + 1) (fun e h1 h2 => skip2 I J T hC (by omega) (by omega) (by omega) (fun z => hm z.1) st)]
        exact q2
end SEEKY
