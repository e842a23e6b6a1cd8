/-! The class's border length -/
def metK (J : PJ) (w h k : Nat) : Nat := sQ (fun c => if bt (OWN J &&& ((J 42 1 k) ^^^ (-1))) c = true then nb4 w h (bt (J 42 1 k)) c else 0) (w * h)
def opnK (J : PJ) (w h k : Nat) : Nat := sQ (fun c => if bt ((J 5 0 12) &&& (OWN J ^^^ (-1))) c = true then nb4 w h (bt (J 42 1 k)) c else 0) (w * h)
theorem sQ_le4 (g : Nat → Bool) (w h : Nat) (P : Nat → Bool) (n : Nat) : sQ (fun c => if g c = true then nb4 w h P c else 0) n ≤ 4 * n := sQ_le (fun c => by
  by_cases hg : g c = true
  · rw [if_pos hg]; exact nb4_le w h P c
  · rw [if_neg hg]; omega) n
theorem bordC (d : Nat) {w h o : Nat} (I : PI) (J : PJ) (T : TL) (hw : I 5 0 7 = nn w) (hM : RelM J w h) (hw1 : 1 ≤ w) (hw8 : w ≤ 8) (h64 : w * h ≤ 64) (ho : I 1 T.1 3 = nn o) (ho6 : o ≤ 6) (hD : RelD I J (w * h) o) : cal (d + 2) 100 [vr 0 0] (MX I J T) = some (.inl (some (vi (nn (sQ (metK J w h) o / 2 + sQ (opnK J w h) o)))), MX I J T) := by
  have hf : ∀ k, k < 6 → ∀ c, bt (J 42 1 k) c = true → c < w * h := by
    intro k hk c hb
    by_cases hc : c < 64
    · exact ((hD.2 k hk c hc).mp hb).1
    · rw [bt_ge _ (by omega)] at hb; exact absurd hb (by decide)
  have hown : ∀ c, bt (OWN J) c = true → c < w * h := by
    intro c hb
    by_cases hc : c < 64
    · exact ((OWN_iff hD ho6 hc).mp hb).1
    · rw [bt_ge _ (by omega)] at hb; exact absurd hb (by decide)
  have hg1 : ∀ k c, bt (OWN J &&& ((J 42 1 k) ^^^ (-1))) c = true → c < w * h := by
    intro k c hb
    rw [bt_and, Bool.and_eq_true] at hb
    exact hown c hb.1
  have hg2 : ∀ c, bt ((J 5 0 12) &&& (OWN J ^^^ (-1))) c = true → c < w * h := by
    intro c hb
    by_cases hc : c < 64
    · rw [bt_and, Bool.and_eq_true, (hM c hc).1] at hb
      exact of_decide_eq_true hb.1
    · rw [bt_ge _ (by omega)] at hb; exact absurd hb (by decide)
  have bm : ∀ k, sQ (metK J w h) k ≤ 256 * k := fun k => sQ_le (fun c => Nat.le_trans (sQ_le4 _ w h _ (w * h)) (by omega)) k
  have bo : ∀ k, sQ (opnK J w h) k ≤ 256 * k := fun k => sQ_le (fun c => Nat.le_trans (sQ_le4 _ w h _ (w * h)) (by omega)) k
  rw [c100, ownedC]
  simp only [ret9]
  rw [b100_7]
  have lp : ∀ m k (o8 : Option AV), k + m = o → den (d + 2) 100 31 [some (vr 0 0), some (vl (OWN J)), none, some (vl ((J 5 0 12) &&& (OWN J ^^^ (-1)))), none, some (vi (nn (sQ (metK J w h) k))), some (vi (nn (sQ (opnK J w h) k))), some (vi (nn k)), o8, none] [] (MX I J T) = some (.inl (some (vi (nn (sQ (metK J w h) o / 2 + sQ (opnK J w h) o)))), MX I J T) := by
    intro m
    induction m with
    | zero =>
      intro k o8 hk
      have : k = o := by omega
      subst this
      have b1 := bm k
      rw [b100_31, ho, if_pos (Int32.le_refl _), show (2 : Int32) = nn 2 from rfl, nn_div (by omega) (by omega), nn_add]
    | succ m ih =>
      intro k o8 hk
      rw [b100_31, ho, if_neg (by rw [nn_le (by omega) (by omega)]; omega), if_pos (nn_inR (by omega) (by omega)), nn_idx (by omega), sidesC d (w := w) (h := h) (J 42 1 k) (OWN J &&& ((J 42 1 k) ^^^ (-1))) I J T hw hM hw1 hw8 h64 (hf k (by omega)) (hg1 k)]
      simp only [ret9]
      rw [b100_77, sidesC d (w := w) (h := h) (J 42 1 k) ((J 5 0 12) &&& (OWN J ^^^ (-1))) I J T hw hM hw1 hw8 h64 (hf k (by omega)) hg2]
      simp only [ret9]
      rw [b100_92, nn_add, nn_add, nn_add1]
      exact ih (k + 1) _ (by omega)
  exact lp o 0 none (by omega)
