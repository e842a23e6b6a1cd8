/-! The first memory; the law, out of its calls -/
def IA (L : Nat) (xs : Nat → Int32) : PI := mI (ma107 L xs)
def JA (L : Nat) (xs : Nat → Int32) : PJ := mJ (ma107 L xs)
def TA (L : Nat) (xs : Nat → Int32) : TL := (1, 0, rz, rz, mK (ma107 L xs), mC (ma107 L xs), mS (ma107 L xs))
theorem ma_MX (L : Nat) (xs : Nat → Int32) : ma107 L xs = MX (IA L xs) (JA L xs) (TA L xs) := by
  have h := (maR L xs).trans opsA_RL
  unfold MX IA JA TA
  rw [← h]
def I1 (L : Nat) (xs : Nat → Int32) : PI := up3 (up3 (up3 (fl (IA L xs) 28 3 64 (-1)) 2 0 5 0) 11 0 13 (-1)) 11 0 14 (-1)
def J1 (L : Nat) (xs : Nat → Int32) : PJ := fl (JA L xs) 42 1 6 0
def m6 (L : Nat) (xs : Nat → Int32) : Mem := mb60 (I1 L xs) (J1 L xs) (mC (ma107 L xs)) (mS (ma107 L xs)) L xs
def m7 (L : Nat) (xs : Nat → Int32) : Mem := newM (m6 L xs) 40 1
def TF7 (L : Nat) (xs : Nat → Int32) : TL := (1, 0, rz, rz, mK (m7 L xs), mC (m7 L xs), mS (m7 L xs))
theorem RL_40 (g dr : Nat) (mb mf : OR) : upA (RL g dr mb mf) 40 0 (fun _ => some none) = RL g dr mb mf := by
  funext a b c
  unfold upA
  by_cases h1 : a = 40
  · by_cases h2 : b = 0
    · rw [if_pos h1, if_pos h2, h1]
      unfold RL
      rw [nth_far (RLt g dr mb mf b) 40 [] (by show 15 ≤ 40; omega)]
      exact (nth_far _ _ _ (Nat.zero_le _)).symm
    · rw [if_pos h1, if_neg h2]
  · rw [if_neg h1]
set_option maxRecDepth 100000 in
theorem m7_R (L : Nat) (xs : Nat → Int32) : mR (m7 L xs) = upA (mR (m6 L xs)) 40 0 (fun _ => some none) := rfl
theorem m7_MX (L : Nat) (xs : Nat → Int32) : m7 L xs = MX (mI (m7 L xs)) (mJ (m7 L xs)) (TF7 L xs) := by
  have h : mR (m7 L xs) = RL 1 0 rz rz := by
    rw [m7_R, show mR (m6 L xs) = RL 1 0 rz rz from (mbR _ _ _ _ L xs).trans opsB_RL, RL_40]
  unfold MX TF7
  rw [← h]
set_option maxRecDepth 100000 in
theorem st_a (L : Nat) (xs : Nat → Int32) : den 1300 0 0 (entL [vr 99 0] 7) [] (m00 L xs) = ret9 (den 1300 0) 0 4 7 [some (vr 99 0), none, none, none, none, none, none] [vr 11 0] (cal 1299 1 [vr 11 0] (ma0 L xs)) := (bx_eq [] 1300 0 4 0 _ _ _).symm.trans rfl
set_option maxRecDepth 100000 in
theorem st_b (m : Mem) : den 1299 1 168 [some (vr 11 0)] [] m = some (.inl none, m) := (bx_eq [] 1299 1 2 168 _ _ _).symm.trans rfl
set_option maxRecDepth 100000 in
theorem st_c (L : Nat) (xs : Nat → Int32) : den 1300 0 7 [some (vr 99 0), none, none, none, none, none, none] [vr 11 0] (MX (I1 L xs) (J1 L xs) (TA L xs)) = ret9 (den 1300 0) 0 12 15 [some (vr 99 0), some (vr 11 0), none, none, none, none, none] [vr 14 0] (cal 1299 179 [vr 14 0] (mb0 (I1 L xs) (J1 L xs) (mC (ma107 L xs)) (mS (ma107 L xs)) L xs)) := (bx_eq [] 1300 0 5 7 _ _ _).symm.trans rfl
set_option maxRecDepth 100000 in
theorem st_d (L : Nat) (xs : Nat → Int32) : den 1300 0 15 [some (vr 99 0), some (vr 11 0), none, none, none, none, none] [vr 14 0] (m6 L xs) = den 1300 0 23 (lawL 0 none none) [] (m7 L xs) := (bx_eq [23] 1300 0 7 15 _ _ _).symm.trans rfl
theorem law_start (L : Nat) (xs : Nat → Int32) : den 1300 0 0 (entL [vr 99 0] 7) [] (m00 L xs) = den 1300 0 23 (lawL 0 none none) [] (m7 L xs) := by
  rw [st_a, maA, ma_MX]
  have e := forgetC 1296 (IA L xs) (JA L xs) (TA L xs)
  rw [show 1298 = 1296 + 2 from rfl, e]
  simp only [ret9]
  rw [st_b]
  simp only []
  refine Eq.trans (st_c L xs) ?_
  rw [mbz1]
  simp only [ret9]
  exact st_d L xs
theorem inv_of (L : Nat) (m : Mem) (hm : m = MX (mI m) (mJ m) (1, 0, rz, rz, mK m, mC m, mS m))
    (h1 : mI m 11 0 10 = 0 ∧ mI m 11 0 11 = 0 ∧ mI m 11 0 13 = -1 ∧ mI m 11 0 14 = -1 ∧ mI m 11 0 15 = 0 ∧ mI m 1 1 3 = 0 ∧ mI m 2 0 5 = 0)
    (h2 : mI m 5 0 7 = 0 ∧ mI m 5 0 8 = 0 ∧ mI m 5 0 9 = 0 ∧ mI m 5 0 10 = 0 ∧ mI m 5 0 11 = 0)
    (h3 : mI m 14 0 1 = 0 ∧ mI m 14 0 2 = -1 ∧ mI m 14 0 3 = 0 ∧ mI m 14 0 8 = 0 ∧ mI m 14 0 22 = 0 ∧ mI m 14 0 23 = 0 ∧ mI m 14 0 24 = 0 ∧ mI m 14 0 27 = 0 ∧ mI m 14 0 28 = -1 ∧ mI m 14 0 29 = -1)
    (htp : ∀ i, mI m 37 0 i = 0 ∧ mI m 37 1 i = 0) (h4 : mJ m 5 0 12 = 0 ∧ mJ m 5 0 13 = 0 ∧ mJ m 5 0 14 = 0 ∧ mJ m 5 0 15 = 0)
    (hfi : ∀ k, k < 6 → mJ m 42 1 k = 0) (h5 : mK m 98 = L ∧ mK m 42 = 2 ∧ mK m 12 = 0 ∧ mK m 33 = 0 ∧ mK m 21 = 12) : Inv L m := by
  obtain ⟨a1, a2, a3, a4, a5, a6, a7⟩ := h1
  obtain ⟨g1, g2, g3, g4, g5⟩ := h2
  obtain ⟨b1, b2, b3, b4, b5, b6, b7, b8, b9, b10⟩ := h3
  obtain ⟨l1, l2, l3, l4⟩ := h4
  obtain ⟨k1, k2, k3, k4, k5⟩ := h5
  refine ⟨mI m, mJ m, (1, 0, rz, rz, mK m, mC m, mS m), hm, ⟨.inr ⟨rfl, rfl⟩, ?_, ?_, ?_, ?_, fun b hb => ?_⟩, ⟨0, by omega, a1, b4, fun i => ⟨by rw [(htp i).1, (htp i).2], by rw [(htp i).1]; decide⟩⟩, ⟨by rw [b3, a2], by rw [b1, a5], ?_, by rw [b9, a3], by rw [b10, a4]⟩, 0, 0, 0, fun z => absurd z (by omega), .inl ⟨rfl, rfl, a6⟩, ⟨g1, g2, g3, b5, b6, b7, .inl ⟨rfl, rfl⟩⟩, ?_, ⟨?_, fun c hc => absurd hc (by omega)⟩, ⟨fun c hc => absurd hc (by omega), ?_⟩, ⟨fun k hk => absurd hk (by omega), .inl ⟨rfl, g4, g5⟩⟩, ⟨0, by omega, a7, b8, fun _ => rfl, fun i hi => absurd hi (by omega)⟩, fun b hb k hk => absurd hk (by omega)⟩
  · show mK m 98 = L
    exact k1
  · show mK m 42 = mK m 12 + 2
    rw [k2, k3]
  · show mK m 33 = mK m 12
    rw [k4, k3]
  · show mK m 21 = mK m 12 + 12
    rw [k5, k3]
  · cases hb
  · rw [b2, a5, if_neg (by decide)]
  · intro c hc
    rw [l1, l3, l4, bt_zero]
    exact ⟨(decide_eq_false (by omega)).symm, (decide_eq_false (by omega)).symm, (decide_eq_false (by omega)).symm⟩
  · intro c hc
    rw [l2, bt_zero]
    constructor
    · intro z; exact absurd z (by decide)
    · intro z; omega
  · intro k hk c hc
    rw [hfi k hk, bt_zero]
    constructor
    · intro z; exact absurd z (by decide)
    · intro z; omega
section FIRST
variable (L : Nat) (xs : Nat → Int32)
set_option maxRecDepth 100000 in
theorem f_int : mI (m7 L xs) 11 0 10 = 0 ∧ mI (m7 L xs) 11 0 11 = 0 ∧ mI (m7 L xs) 11 0 13 = -1 ∧ mI (m7 L xs) 11 0 14 = -1 ∧ mI (m7 L xs) 11 0 15 = 0 ∧ mI (m7 L xs) 1 1 3 = 0 ∧ mI (m7 L xs) 2 0 5 = 0 := ⟨rfl, rfl, rfl, rfl, rfl, rfl, rfl⟩
set_option maxRecDepth 100000 in
theorem f_gr : mI (m7 L xs) 5 0 7 = 0 ∧ mI (m7 L xs) 5 0 8 = 0 ∧ mI (m7 L xs) 5 0 9 = 0 ∧ mI (m7 L xs) 5 0 10 = 0 ∧ mI (m7 L xs) 5 0 11 = 0 := ⟨rfl, rfl, rfl, rfl, rfl⟩
set_option maxRecDepth 100000 in
theorem f_mod : mI (m7 L xs) 14 0 1 = 0 ∧ mI (m7 L xs) 14 0 2 = -1 ∧ mI (m7 L xs) 14 0 3 = 0 ∧ mI (m7 L xs) 14 0 8 = 0 ∧ mI (m7 L xs) 14 0 22 = 0 ∧ mI (m7 L xs) 14 0 23 = 0 ∧ mI (m7 L xs) 14 0 24 = 0 ∧ mI (m7 L xs) 14 0 27 = 0 ∧ mI (m7 L xs) 14 0 28 = -1 ∧ mI (m7 L xs) 14 0 29 = -1 := ⟨rfl, rfl, rfl, rfl, rfl, rfl, rfl, rfl, rfl, rfl⟩
set_option maxRecDepth 100000 in
theorem f_tp (i : Nat) : mI (m7 L xs) 37 0 i = 0 ∧ mI (m7 L xs) 37 1 i = 0 := ⟨rfl, rfl⟩
set_option maxRecDepth 100000 in
theorem f_lo : mJ (m7 L xs) 5 0 12 = 0 ∧ mJ (m7 L xs) 5 0 13 = 0 ∧ mJ (m7 L xs) 5 0 14 = 0 ∧ mJ (m7 L xs) 5 0 15 = 0 := ⟨rfl, rfl, rfl, rfl⟩
set_option maxRecDepth 100000 in
theorem f_fi (k : Nat) : mJ (m7 L xs) 42 1 k = J1 L xs 42 1 k := rfl
set_option maxRecDepth 100000 in
theorem f_K : mK (m7 L xs) 98 = L ∧ mK (m7 L xs) 42 = 2 ∧ mK (m7 L xs) 12 = 0 ∧ mK (m7 L xs) 33 = 0 ∧ mK (m7 L xs) 21 = 12 := ⟨rfl, rfl, rfl, rfl, rfl⟩
set_option maxRecDepth 100000 in
theorem f_C : mC (m7 L xs) = 74 ∧ mS (m7 L xs) = 6254 := ⟨rfl, rfl⟩
theorem inv_first : Inv L (m7 L xs) := inv_of L (m7 L xs) (m7_MX L xs) (f_int L xs) (f_gr L xs) (f_mod L xs) (f_tp L xs) (f_lo L xs) (fun k hk => by rw [f_fi]; unfold J1; rw [fl_at _ _ _ _ _ hk]) (f_K L xs)
end FIRST
/-- the law's run, out of what holds of each call -/
theorem run_of_calls (H : ∀ L, ClAll (Inv L) 1299 8 400) : LawRun := by
  intro L xs hL
  obtain ⟨m2, e, hc, hs⟩ := law_loop hL (Inv L) (fun m hm => inv98 m hm) 8 400 1300 (fun m i x5 x6 hm hi => law_step hL (Inv L) (fun m hm => inv98 m hm) 8 400 1299 (H L) m i x5 x6 hm hi) 512 0 (m7 L xs) none none (by omega) (by omega) (inv_first L xs)
  obtain ⟨c1, c2⟩ := f_C L xs
  rw [c1] at hc
  rw [c2] at hs
  have e2 : den 1300 0 0 (entL [vr 99 0] 7) [] (m00 L xs) = some (.inl (some (vi 1)), m2) := (law_start L xs).trans e
  obtain ⟨n, hn⟩ := den_iff.mp e2
  exact ⟨n, m2, hn, by omega, by omega⟩
