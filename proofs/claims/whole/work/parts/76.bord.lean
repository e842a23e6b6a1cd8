/-! The reference's borders -/
/-- a side at which two cells are not the same one's -/
def bdS (ws : Nat → Int32) (w h c s : Nat) : Nat := match nb w h c s with
  | some e => if ws e = ws c then 0 else 1
  | none => 0
theorem bordM (d : Nat) {w h : Nat} (I : PI) (J : PJ) (T : TL) (hg : GW I w h) (hn : I 14 0 24 = nn (w * h)) : cal (d + 2) 249 [vr 14 0] (MX I J T) = some (.inl (some (vi (nn (sQ (fun c => bdS (I 28 7) w h c 0 + bdS (I 28 7) w h c 3) (w * h))))), MX I J T) := by
  obtain ⟨hw, hh, hw1, hw8, hh1, hh8⟩ := id hg
  have h64 : w * h ≤ 64 := Nat.mul_le_mul hw8 hh8
  rw [c249, b249_2]
  have lp : ∀ m c (o3 o4 : Option AV), c + m = w * h → den (d + 2) 249 4 [some (vr 14 0), some (vi (nn (sQ (fun c => bdS (I 28 7) w h c 0 + bdS (I 28 7) w h c 3) c))), some (vi (nn c)), o3, o4] [] (MX I J T) = some (.inl (some (vi (nn (sQ (fun c => bdS (I 28 7) w h c 0 + bdS (I 28 7) w h c 3) (w * h))))), MX I J T) := by
    intro m
    induction m with
    | zero =>
      intro c o3 o4 hc
      have : c = w * h := by omega
      subst this
      rw [b249_4, hn, if_pos (Int32.le_refl _), b249_89]
    | succ m ih =>
      intro c o3 o4 hc
      have hcn : c < w * h := by omega
      have hr : inR (nn c) 64 = true := nn_inR (by omega) (by omega)
      rw [b249_4, hn, if_neg (by rw [nn_le (by omega) (by omega)]; omega), b249_12, show (0 : Int32) = nn 0 from rfl, besM d I J T hg hcn (by omega)]
      simp only [ret9]
      rw [b249_18, b249_19, show (3 : Int32) = nn 3 from rfl, besM d I J T hg hcn (by omega)]
      simp only [ret9]
      rw [b249_25]
      generalize hs : sQ (fun c => bdS (I 28 7) w h c 0 + bdS (I 28 7) w h c 3) c = a
      have hs2 : sQ (fun c => bdS (I 28 7) w h c 0 + bdS (I 28 7) w h c 3) (c + 1) = a + (bdS (I 28 7) w h c 0 + bdS (I 28 7) w h c 3) := by rw [← hs]; rfl
      have fin : ∀ x3 x4 : Int32, ∀ q p : Nat, q = bdS (I 28 7) w h c 0 → p = bdS (I 28 7) w h c 3 → den (d + 2) 249 80 [some (vr 14 0), some (vi (nn a)), some (vi (nn c)), some (vi x3), some (vi x4)] [vi (nn p), vi (nn q), vi (nn a)] (MX I J T) = some (.inl (some (vi (nn (sQ (fun c => bdS (I 28 7) w h c 0 + bdS (I 28 7) w h c 3) (w * h))))), MX I J T) := by
        intro x3 x4 q p hq hp
        rw [b249_80, b249_83, b249_86, nn_add, nn_add, nn_add1, hq, hp, ← hs2]
        exact ih (c + 1) _ _ (by omega)
      have mid : ∀ x3 : Int32, ∀ q : Nat, q = bdS (I 28 7) w h c 0 → den (d + 2) 249 53 [some (vr 14 0), some (vi (nn a)), some (vi (nn c)), some (vi x3), some (vi (oi (nb w h c 3)))] [vi (nn q), vi (nn a)] (MX I J T) = some (.inl (some (vi (nn (sQ (fun c => bdS (I 28 7) w h c 0 + bdS (I 28 7) w h c 3) (w * h))))), MX I J T) := by
        intro x3 q hq
        rw [b249_53]
        cases hb : nb w h c 3 with
        | none =>
          have e : bdS (I 28 7) w h c 3 = 0 := by unfold bdS; rw [hb]
          rw [if_pos (show oi none = -1 from rfl), b249_79]
          exact fin x3 _ q 0 hq e.symm
        | some e3 =>
          have hlt := nb_lt hw1 hcn hb
          rw [if_neg (show ¬ oi (some e3) = -1 from nn_ne_neg (by omega)), b249_59, if_pos (show inR (oi (some e3)) 64 = true from nn_inR (by omega) (by omega)), if_pos hr, show (oi (some e3)).toNatClampNeg = e3 from nn_idx (by omega), nn_idx (by omega)]
          by_cases he : I 28 7 e3 = I 28 7 c
          · have e : bdS (I 28 7) w h c 3 = 0 := by unfold bdS; rw [hb]; exact if_pos he
            rw [if_pos he, b249_79]
            exact fin x3 _ q 0 hq e.symm
          · have e : bdS (I 28 7) w h c 3 = 1 := by unfold bdS; rw [hb]; exact if_neg he
            rw [if_neg he, b249_75]
            exact fin x3 _ q 1 hq e.symm
      rw [b249_27]
      cases hb : nb w h c 0 with
      | none =>
        have e : bdS (I 28 7) w h c 0 = 0 := by unfold bdS; rw [hb]
        rw [if_pos (show oi none = -1 from rfl), b249_52]
        exact mid _ 0 e.symm
      | some e0 =>
        have hlt := nb_lt hw1 hcn hb
        rw [if_neg (show ¬ oi (some e0) = -1 from nn_ne_neg (by omega)), b249_33, if_pos (show inR (oi (some e0)) 64 = true from nn_inR (by omega) (by omega)), if_pos hr, show (oi (some e0)).toNatClampNeg = e0 from nn_idx (by omega), nn_idx (by omega)]
        by_cases he : I 28 7 e0 = I 28 7 c
        · have e : bdS (I 28 7) w h c 0 = 0 := by unfold bdS; rw [hb]; exact if_pos he
          rw [if_pos he, b249_52]
          exact mid _ 0 e.symm
        · have e : bdS (I 28 7) w h c 0 = 1 := by unfold bdS; rw [hb]; exact if_neg he
          rw [if_neg he, b249_48]
          exact mid _ 1 e.symm
  exact lp (w * h) 0 none none (by omega)
