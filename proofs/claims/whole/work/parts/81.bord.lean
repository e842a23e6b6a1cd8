/-! Border length: the owners' terms together, beside no one's cells -/
theorem opn_s {I : PI} {J : PJ} {w h o c s : Nat} (hw1 : 1 ≤ w) (h64 : w * h ≤ 64) (ho6 : o ≤ 6) (hM : RelM J w h) (hD : RelD I J (w * h) o) (hc : c < w * h) : sQ (fun k => if bt ((J 5 0 12) &&& (OWN J ^^^ (-1))) c = true then (if nbI w h (bt (J 42 1 k)) c s = true then 1 else 0) else 0) o = atS w h (bB (I 28 7)) c s := by
  have hun : bt ((J 5 0 12) &&& (OWN J ^^^ (-1))) c = true ↔ I 28 7 c = -1 := by
    have h6 : c < 64 := by omega
    rw [bt_and, bt_not, Bool.and_eq_true, (hM c h6).1]
    have hO := OWN_iff hD ho6 h6
    constructor
    · intro ⟨z1, z2⟩
      by_cases hw : I 28 7 c = -1
      · exact hw
      · rw [hO.mpr ⟨hc, hw⟩] at z2
        simp at z2
    · intro hw
      refine ⟨decide_eq_true hc, ?_⟩
      have : bt (OWN J) c = false := by
        cases z : bt (OWN J) c with
        | false => rfl
        | true => exact absurd hw (hO.mp z).2
      simp [this, h6]
  unfold nbI atS
  cases hb : nb w h c s with
  | none =>
    refine Eq.trans (sQ_congr o (g := fun _ => 0) (fun k hk => ?_)) (sQ_zero o)
    by_cases h1 : bt ((J 5 0 12) &&& (OWN J ^^^ (-1))) c = true
    · simp only [if_pos h1]; rfl
    · simp only [if_neg h1]
  | some e =>
    have he := nb_lt hw1 hc hb
    show sQ (fun k => if bt ((J 5 0 12) &&& (OWN J ^^^ (-1))) c = true then (if bt (J 42 1 k) e = true then 1 else 0) else 0) o = bB (I 28 7) c e
    have hfe : ∀ k, k < o → (bt (J 42 1 k) e = true ↔ I 28 7 e = nn k) := fun k hk => by
      rw [hD.2 k (by omega) e (by omega)]
      exact ⟨fun z => z.2, fun z => ⟨he, z⟩⟩
    rcases (hD.1 e he).2 with z | ⟨q, hq, z⟩
    · have e0 : bB (I 28 7) c e = 0 := by unfold bB; rw [if_neg (fun y => y.2 z)]
      rw [e0]
      refine Eq.trans (sQ_congr o (g := fun _ => 0) (fun k hk => ?_)) (sQ_zero o)
      have hn : ¬ bt (J 42 1 k) e = true := fun y => nn_ne_neg (by omega) (((hfe k hk).mp y).symm.trans z)
      by_cases h1 : bt ((J 5 0 12) &&& (OWN J ^^^ (-1))) c = true
      · simp only [if_pos h1, if_neg hn]
      · simp only [if_neg h1]
    · refine Eq.trans (sQ_congr o (g := fun k => if k = q then (fun _ => bB (I 28 7) c e) k else 0) (fun k hk => ?_)) ?_
      · by_cases hkq : k = q
        · subst hkq
          have hy : bt (J 42 1 k) e = true := (hfe k hk).mpr z
          show (if bt ((J 5 0 12) &&& (OWN J ^^^ (-1))) c = true then (if bt (J 42 1 k) e = true then 1 else 0) else 0) = (if k = k then bB (I 28 7) c e else 0)
          rw [if_pos hy, if_pos (show k = k from rfl)]
          unfold bB
          by_cases h1 : bt ((J 5 0 12) &&& (OWN J ^^^ (-1))) c = true
          · rw [if_pos h1, if_pos ⟨hun.mp h1, by rw [z]; exact nn_ne_neg (by omega)⟩]
          · rw [if_neg h1, if_neg (fun y => h1 (hun.mpr y.1))]
        · have hn : ¬ bt (J 42 1 k) e = true := fun y => hkq (by
            have := ((hfe k hk).mp y).symm.trans z
            exact (nn_inj (by omega) (by omega)).mp this)
          rw [if_neg hkq]
          by_cases h1 : bt ((J 5 0 12) &&& (OWN J ^^^ (-1))) c = true
          · simp only [if_pos h1, if_neg hn]
          · simp only [if_neg h1]
      · rw [sQ_one (fun _ => bB (I 28 7) c e) q o, if_pos hq]
