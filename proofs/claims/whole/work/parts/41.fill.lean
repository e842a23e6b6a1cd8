/-! Filling of arrays (printed in part by program: wip/gen/gen41.py) -/
def fl {α : Type} (f : Nat → Nat → Nat → α) (k j n : Nat) (x : α) : Nat → Nat → Nat → α := upA f k j (fun i => if i < n then x else f k j i)
theorem fl_zero {α : Type} (f : Nat → Nat → Nat → α) (k j : Nat) (x : α) : fl f k j 0 x = f := by
  funext a b c
  unfold fl upA
  by_cases h1 : a = k
  · by_cases h2 : b = j
    · subst h1; subst h2; simp
    · simp [h1, h2]
  · simp [h1]
theorem fl_succ {α : Type} (f : Nat → Nat → Nat → α) (k j n : Nat) (x : α) : up3 (fl f k j n x) k j n x = fl f k j (n + 1) x := by
  funext a b c
  unfold fl upA up3
  by_cases h1 : a = k
  · by_cases h2 : b = j
    · subst h1; subst h2
      by_cases h3 : c = n
      · subst h3; simp
      · have : (c < n) ↔ (c < n + 1) := by omega
        simp [h3, this]
    · simp [h1, h2]
  · simp [h1]
theorem fl_at {α : Type} (f : Nat → Nat → Nat → α) (k j n : Nat) (x : α) {i : Nat} (h : i < n) : fl f k j n x k j i = x := by
  unfold fl upA; simp [h]
theorem fill28 (d j : Nat) (x : Int32) (I : PI) (J : PJ) (T : TL) : cal d 15 [vr 28 j, vi x] (MX I J T) = some (.inl none, MX (fl I 28 j 64 x) J T) := by
  rw [c15k28]
  have key := for_up (n := 64) (Lp := fun c (_ : Unit) => den d 15 5 [some (vr 28 j), some (vi x), some (vi (nn c)), some (vi (nn 64))] [] (MX (fl I 28 j c x) J T)) (step := fun _ b => b) (by
    intro c b hc
    rw [b15k28_5, if_neg (by rw [nn_le (by omega) (by omega)]; omega), if_pos (nn_inR hc (by omega)), nn_idx (by omega), nn_add1, fl_succ]) 64 0 () (by omega)
  rw [fl_zero] at key
  refine key.trans ?_
  rw [b15k28_5, if_pos (by rw [nn_le (by omega) (by omega)]; omega)]
theorem fill21 (d j : Nat) (x : Int32) (I : PI) (J : PJ) (T : TL) : cal d 15 [vr 21 j, vi x] (MX I J T) = some (.inl none, MX (fl I 21 j 6 x) J T) := by
  rw [c15k21]
  have key := for_up (n := 6) (Lp := fun c (_ : Unit) => den d 15 5 [some (vr 21 j), some (vi x), some (vi (nn c)), some (vi (nn 6))] [] (MX (fl I 21 j c x) J T)) (step := fun _ b => b) (by
    intro c b hc
    rw [b15k21_5, if_neg (by rw [nn_le (by omega) (by omega)]; omega), if_pos (nn_inR hc (by omega)), nn_idx (by omega), nn_add1, fl_succ]) 6 0 () (by omega)
  rw [fl_zero] at key
  refine key.trans ?_
  rw [b15k21_5, if_pos (by rw [nn_le (by omega) (by omega)]; omega)]
theorem fill22 (d j : Nat) (x : Int32) (I : PI) (J : PJ) (T : TL) : cal d 15 [vr 22 j, vi x] (MX I J T) = some (.inl none, MX (fl I 22 j 9 x) J T) := by
  rw [c15k22]
  have key := for_up (n := 9) (Lp := fun c (_ : Unit) => den d 15 5 [some (vr 22 j), some (vi x), some (vi (nn c)), some (vi (nn 9))] [] (MX (fl I 22 j c x) J T)) (step := fun _ b => b) (by
    intro c b hc
    rw [b15k22_5, if_neg (by rw [nn_le (by omega) (by omega)]; omega), if_pos (nn_inR hc (by omega)), nn_idx (by omega), nn_add1, fl_succ]) 9 0 () (by omega)
  rw [fl_zero] at key
  refine key.trans ?_
  rw [b15k22_5, if_pos (by rw [nn_le (by omega) (by omega)]; omega)]
theorem fill26 (d j : Nat) (x : Int32) (I : PI) (J : PJ) (T : TL) : cal d 15 [vr 26 j, vi x] (MX I J T) = some (.inl none, MX (fl I 26 j 30 x) J T) := by
  rw [c15k26]
  have key := for_up (n := 30) (Lp := fun c (_ : Unit) => den d 15 5 [some (vr 26 j), some (vi x), some (vi (nn c)), some (vi (nn 30))] [] (MX (fl I 26 j c x) J T)) (step := fun _ b => b) (by
    intro c b hc
    rw [b15k26_5, if_neg (by rw [nn_le (by omega) (by omega)]; omega), if_pos (nn_inR hc (by omega)), nn_idx (by omega), nn_add1, fl_succ]) 30 0 () (by omega)
  rw [fl_zero] at key
  refine key.trans ?_
  rw [b15k26_5, if_pos (by rw [nn_le (by omega) (by omega)]; omega)]
theorem fill23 (d j : Nat) (x : Int32) (I : PI) (J : PJ) (T : TL) : cal d 15 [vr 23 j, vi x] (MX I J T) = some (.inl none, MX (fl I 23 j 10 x) J T) := by
  rw [c15k23]
  have key := for_up (n := 10) (Lp := fun c (_ : Unit) => den d 15 5 [some (vr 23 j), some (vi x), some (vi (nn c)), some (vi (nn 10))] [] (MX (fl I 23 j c x) J T)) (step := fun _ b => b) (by
    intro c b hc
    rw [b15k23_5, if_neg (by rw [nn_le (by omega) (by omega)]; omega), if_pos (nn_inR hc (by omega)), nn_idx (by omega), nn_add1, fl_succ]) 10 0 () (by omega)
  rw [fl_zero] at key
  refine key.trans ?_
  rw [b15k23_5, if_pos (by rw [nn_le (by omega) (by omega)]; omega)]
theorem fill42 (d j : Nat) (x : Int64) (I : PI) (J : PJ) (T : TL) : cal d 16 [vr 42 j, vl x] (MX I J T) = some (.inl none, MX I (fl J 42 j 6 x) T) := by
  rw [c16k42]
  have key := for_up (n := 6) (Lp := fun c (_ : Unit) => den d 16 6 [some (vr 42 j), some (vl x), none, some (vi (nn c)), some (vi (nn 6))] [] (MX I (fl J 42 j c x) T)) (step := fun _ b => b) (by
    intro c b hc
    rw [b16k42_6, if_neg (by rw [nn_le (by omega) (by omega)]; omega), if_pos (nn_inR hc (by omega)), nn_idx (by omega), nn_add1, fl_succ]) 6 0 () (by omega)
  rw [fl_zero] at key
  refine key.trans ?_
  rw [b16k42_6, if_pos (by rw [nn_le (by omega) (by omega)]; omega)]
theorem fill41 (d j : Nat) (x : Int64) (I : PI) (J : PJ) (T : TL) : cal d 16 [vr 41 j, vl x] (MX I J T) = some (.inl none, MX I (fl J 41 j 3 x) T) := by
  rw [c16k41]
  have key := for_up (n := 3) (Lp := fun c (_ : Unit) => den d 16 6 [some (vr 41 j), some (vl x), none, some (vi (nn c)), some (vi (nn 3))] [] (MX I (fl J 41 j c x) T)) (step := fun _ b => b) (by
    intro c b hc
    rw [b16k41_6, if_neg (by rw [nn_le (by omega) (by omega)]; omega), if_pos (nn_inR hc (by omega)), nn_idx (by omega), nn_add1, fl_succ]) 3 0 () (by omega)
  rw [fl_zero] at key
  refine key.trans ?_
  rw [b16k41_6, if_pos (by rw [nn_le (by omega) (by omega)]; omega)]
