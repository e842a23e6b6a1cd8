/-! Border length: the owners' terms together -/
theorem met_s {I : PI} {J : PJ} {w h o c s : Nat} (hw1 : 1 ≤ w) (h64 : w * h ≤ 64) (ho6 : o ≤ 6) (hD : RelD I J (w * h) o) (hc : c < w * h) : sQ (fun k => if bt (OWN J &&& ((J 42 1 k) ^^^ (-1))) c = true then (if nbI w h (bt (J 42 1 k)) c s = true then 1 else 0) else 0) o = atS w h (bA (I 28 7)) c s := by
  unfold nbI atS
  cases hb : nb w h c s with
  | none =>
    refine Eq.trans (sQ_congr o (g := fun _ => 0) (fun k hk => ?_)) (sQ_zero o)
    by_cases h1 : bt (OWN J &&& ((J 42 1 k) ^^^ (-1))) c = true
    · simp only [if_pos h1]; rfl
    · simp only [if_neg h1]
  | some e =>
    have he := nb_lt hw1 hc hb
    show sQ (fun k => if bt (OWN J &&& ((J 42 1 k) ^^^ (-1))) c = true then (if bt (J 42 1 k) e = true then 1 else 0) else 0) o = bA (I 28 7) c e
    have hfe : ∀ k, k < o → (bt (J 42 1 k) e = true ↔ I 28 7 e = nn k) := fun k hk => by
      rw [hD.2 k (by omega) e (by omega)]
      exact ⟨fun z => z.2, fun z => ⟨he, z⟩⟩
    have hoc : ∀ k, k < o → (bt (OWN J &&& ((J 42 1 k) ^^^ (-1))) c = true ↔ (¬ I 28 7 c = -1 ∧ ¬ I 28 7 c = nn k)) := fun k hk => by
      rw [bt_and, bt_not, Bool.and_eq_true, OWN_iff hD ho6 (by omega)]
      have hk2 := hD.2 k (by omega) c (by omega)
      constructor
      · intro ⟨z1, z2⟩
        refine ⟨z1.2, fun z => ?_⟩
        rw [hk2.mpr ⟨hc, z⟩] at z2
        simp at z2
      · intro ⟨z1, z2⟩
        refine ⟨⟨hc, z1⟩, ?_⟩
        have : bt (J 42 1 k) c = false := by
          cases z : bt (J 42 1 k) c with
          | false => rfl
          | true => exact absurd (hk2.mp z).2 z2
        have h6 : c < 64 := by omega
        simp [this, h6]
    rcases (hD.1 e he).2 with z | ⟨q, hq, z⟩
    · have e0 : bA (I 28 7) c e = 0 := by unfold bA; rw [if_neg (fun y => y.2.1 z)]
      rw [e0]
      refine Eq.trans (sQ_congr o (g := fun _ => 0) (fun k hk => ?_)) (sQ_zero o)
      have hn : ¬ bt (J 42 1 k) e = true := fun y => nn_ne_neg (by omega) (((hfe k hk).mp y).symm.trans z)
      by_cases h1 : bt (OWN J &&& ((J 42 1 k) ^^^ (-1))) c = true
      · simp only [if_pos h1, if_neg hn]
      · simp only [if_neg h1]
    · refine Eq.trans (sQ_congr o (g := fun k => if k = q then (fun _ => bA (I 28 7) c e) k else 0) (fun k hk => ?_)) ?_
      · by_cases hkq : k = q
        · subst hkq
          have hy : bt (J 42 1 k) e = true := (hfe k hk).mpr z
          show (if bt (OWN J &&& ((J 42 1 k) ^^^ (-1))) c = true then (if bt (J 42 1 k) e = true then 1 else 0) else 0) = (if k = k then bA (I 28 7) c e else 0)
          rw [if_pos hy, if_pos (show k = k from rfl)]
          unfold bA
          by_cases h1 : bt (OWN J &&& ((J 42 1 k) ^^^ (-1))) c = true
          · have h2 := (hoc k hk).mp h1
            rw [if_pos h1, if_pos ⟨h2.1, by rw [z]; exact nn_ne_neg (by omega), fun y => h2.2 (y.symm.trans z)⟩]
          · rw [if_neg h1, if_neg (fun y => h1 ((hoc k hk).mpr ⟨y.1, fun v => y.2.2 (z.trans v.symm)⟩))]
        · have hn : ¬ bt (J 42 1 k) e = true := fun y => hkq (by
            have := ((hfe k hk).mp y).symm.trans z
            exact (nn_inj (by omega) (by omega)).mp this)
          rw [if_neg hkq]
          by_cases h1 : bt (OWN J &&& ((J 42 1 k) ^^^ (-1))) c = true
          · simp only [if_pos h1, if_neg hn]
          · simp only [if_neg h1]
      · rw [sQ_one (fun _ => bA (I 28 7) c e) q o, if_pos hq]
