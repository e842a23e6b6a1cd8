/-! Border length: both are one -/
theorem atS_add (w h : Nat) (G H : Nat → Nat → Nat) (c s : Nat) : atS w h (fun a b => G a b + H a b) c s = atS w h G c s + atS w h H c s := by
  unfold atS
  cases nb w h c s <;> rfl
theorem bdS_at (ws : Nat → Int32) (w h c s : Nat) : bdS ws w h c s = atS w h (bA ws) c s + atS w h (bB ws) c s + atS w h (fun a b => bB ws b a) c s := by
  unfold bdS atS
  cases nb w h c s with
  | none => rfl
  | some e => exact bAB ws c e
theorem bd_sum (ws : Nat → Int32) (w h s n : Nat) : sQ (fun c => bdS ws w h c s) n = sQ (fun c => atS w h (bA ws) c s) n + sQ (fun c => atS w h (bB ws) c s) n + sQ (fun c => atS w h (fun a b => bB ws b a) c s) n := by
  rw [← sQ_add, ← sQ_add]
  exact sQ_congr n (fun c _ => bdS_at ws w h c s)
theorem bord_eq {I : PI} {J : PJ} {w h o : Nat} (hw1 : 1 ≤ w) (h64 : w * h ≤ 64) (ho6 : o ≤ 6) (hM : RelM J w h) (hD : RelD I J (w * h) o) : sQ (metK J w h) o / 2 + sQ (opnK J w h) o = sQ (fun c => bdS (I 28 7) w h c 0 + bdS (I 28 7) w h c 3) (w * h) := by
  have hm : sQ (metK J w h) o = sQ (fun c => atS w h (bA (I 28 7)) c 1 + atS w h (bA (I 28 7)) c 0 + atS w h (bA (I 28 7)) c 2 + atS w h (bA (I 28 7)) c 3) (w * h) := by
    refine Eq.trans (sQ_swap (fun k c => if bt (OWN J &&& ((J 42 1 k) ^^^ (-1))) c = true then nb4 w h (bt (J 42 1 k)) c else 0) o (w * h)) ?_
    apply sQ_congr
    intro c hc
    rw [← met_s (s := 1) hw1 h64 ho6 hD hc, ← met_s (s := 0) hw1 h64 ho6 hD hc, ← met_s (s := 2) hw1 h64 ho6 hD hc, ← met_s (s := 3) hw1 h64 ho6 hD hc, ← sQ_add, ← sQ_add, ← sQ_add]
    apply sQ_congr
    intro k hk
    unfold nb4
    by_cases h1 : bt (OWN J &&& ((J 42 1 k) ^^^ (-1))) c = true
    · simp only [if_pos h1]
    · simp only [if_neg h1]
  have hp : sQ (opnK J w h) o = sQ (fun c => atS w h (bB (I 28 7)) c 1 + atS w h (bB (I 28 7)) c 0 + atS w h (bB (I 28 7)) c 2 + atS w h (bB (I 28 7)) c 3) (w * h) := by
    refine Eq.trans (sQ_swap (fun k c => if bt ((J 5 0 12) &&& (OWN J ^^^ (-1))) c = true then nb4 w h (bt (J 42 1 k)) c else 0) o (w * h)) ?_
    apply sQ_congr
    intro c hc
    rw [← opn_s (s := 1) hw1 h64 ho6 hM hD hc, ← opn_s (s := 0) hw1 h64 ho6 hM hD hc, ← opn_s (s := 2) hw1 h64 ho6 hM hD hc, ← opn_s (s := 3) hw1 h64 ho6 hM hD hc, ← sQ_add, ← sQ_add, ← sQ_add]
    apply sQ_congr
    intro k hk
    unfold nb4
    by_cases h1 : bt ((J 5 0 12) &&& (OWN J ^^^ (-1))) c = true
    · simp only [if_pos h1]
    · simp only [if_neg h1]
  have hA : (fun a b => bA (I 28 7) b a) = bA (I 28 7) := by
    funext a b; exact bA_comm (I 28 7) b a
  rw [sQ_add, sQ_add, sQ_add, at_10 hw1, at_23, hA] at hm
  rw [sQ_add, sQ_add, sQ_add, at_10 hw1, at_23] at hp
  have hr : sQ (fun c => bdS (I 28 7) w h c 0 + bdS (I 28 7) w h c 3) (w * h) = (sQ (fun c => atS w h (bA (I 28 7)) c 0) (w * h) + sQ (fun c => atS w h (bB (I 28 7)) c 0) (w * h) + sQ (fun c => atS w h (fun a b => bB (I 28 7) b a) c 0) (w * h)) + (sQ (fun c => atS w h (bA (I 28 7)) c 3) (w * h) + sQ (fun c => atS w h (bB (I 28 7)) c 3) (w * h) + sQ (fun c => atS w h (fun a b => bB (I 28 7) b a) c 3) (w * h)) := by
    rw [sQ_add, bd_sum, bd_sum]
  rw [hr, hm, hp]
  omega
