/-! The book: what the reference's call does -/
def nwI (b : Nat) (I : PI) : PI := upA (upA (upA (upA I 12 b (fun _ => 0)) 42 (b + 2) (fun _ => 0)) 33 b (fun _ => 0)) 21 (b + 12) (fun _ => 0)
def nwJ (b : Nat) (J : PJ) : PJ := upA (upA (upA (upA J 12 b (fun _ => 0)) 42 (b + 2) (fun _ => 0)) 33 b (fun _ => 0)) 21 (b + 12) (fun _ => 0)
def nwK (K : Nat → Nat) : Nat → Nat := up1 (up1 (up1 (up1 K 12 (K 12 + 1)) 42 (K 42 + 1)) 33 (K 33 + 1)) 21 (K 21 + 1)
abbrev TG (T : TL) (b : Nat) : TL := (T.1, T.2.1, T.2.2.1, ro 12 b, nwK T.2.2.2.2.1, T.2.2.2.2.2.1 + 4, T.2.2.2.2.2.2 + 304)
theorem new_MX (I : PI) (J : PJ) (T : TL) (b : Nat) (hb : T.2.2.2.2.1 12 = b) (h42 : T.2.2.2.2.1 42 = b + 2) (h33 : T.2.2.2.2.1 33 = b) (h21 : T.2.2.2.2.1 21 = b + 12) : setR (bk188 b (newM (MX I J T) 12 4)) 14 0 5 (ro 12 b) = MX (nwI b I) (nwJ b J) (TG T b) := by
  obtain ⟨g, dr, mb, mf, K, C, S⟩ := T
  dsimp only at hb h42 h33 h21
  have e : setR (bk188 b (newM (MX I J (g, dr, mb, mf, K, C, S)) 12 4)) 14 0 5 (ro 12 b) = (upA (upA (upA (upA I 12 (K 12) (fun _ => 0)) 42 (K 42) (fun _ => 0)) 33 (K 33) (fun _ => 0)) 21 (K 21) (fun _ => 0), upA (upA (upA (upA J 12 (K 12) (fun _ => 0)) 42 (K 42) (fun _ => 0)) 33 (K 33) (fun _ => 0)) 21 (K 21) (fun _ => 0), up3 (up3 (upA (up3 (upA (up3 (upA (upA (RL g dr mb mf) 12 (K 12) (fun _ => some none)) 42 (K 42) (fun _ => some none)) 12 b 1 (ro 42 (K 42))) 33 (K 33) (fun _ => some none)) 12 b 2 (ro 33 (K 33))) 21 (K 21) (fun _ => some none)) 12 b 3 (ro 21 (K 21))) 14 0 5 (ro 12 b), nwK K, C + 4, S + 304) := rfl
  rw [e, hb, RL_12 g dr mb mf b (K 42) (K 33) (K 21) h42 h33 h21, RL_f, h42, h33, h21]
  rfl
theorem nwI_21x (b : Nat) (I : PI) {j : Nat} (h : ¬ j = b + 12) : (nwI b I) 21 j = I 21 j := by
  funext c
  show (if j = b + 12 then (0 : Int32) else I 21 j c) = _
  rw [if_neg h]
theorem nwI_12x (b : Nat) (I : PI) {j : Nat} (h : ¬ j = b) : (nwI b I) 12 j = I 12 j := by
  funext c
  show (if j = b then (0 : Int32) else I 12 j c) = _
  rw [if_neg h]
theorem nwI_33x (b : Nat) (I : PI) {j : Nat} (h : ¬ j = b) : (nwI b I) 33 j = I 33 j := by
  funext c
  show (if j = b then (0 : Int32) else I 33 j c) = _
  rw [if_neg h]
theorem MM_21x (I : PI) (b : Nat) (Y : X2) (s : Nat → Int32) {j : Nat} (h : ¬ j = b + 12 ∧ ¬ j = 7 ∧ ¬ j = 8 ∧ ¬ j = 9) : (MM I b Y s) 21 j = I 21 j := by
  funext c
  show (if j = b + 12 then Y 3 c else if j = 7 then Y 4 c else if j = 8 then Y 5 c else if j = 9 then Y 6 c else I 21 j c) = _
  rw [if_neg h.1, if_neg h.2.1, if_neg h.2.2.1, if_neg h.2.2.2]
theorem MM_12x (I : PI) (b : Nat) (Y : X2) (s : Nat → Int32) {j : Nat} (h : ¬ j = b) : (MM I b Y s) 12 j = I 12 j := by
  funext c
  show (if j = b then Y 1 c else I 12 j c) = _
  rw [if_neg h]
theorem MM_33x (I : PI) (b : Nat) (Y : X2) (s : Nat → Int32) {j : Nat} (h : ¬ j = b) : (MM I b Y s) 33 j = I 33 j := by
  funext c
  show (if j = b then Y 2 c else I 33 j c) = _
  rw [if_neg h]
/-- where the reference's reading begins -/
def Y00 (I : PI) : X2 := fun a c => if a = 0 then I 13 0 c else if a = 1 then 0 else if a = 2 then 0 else if a = 3 then 0 else if a = 4 then I 21 7 c else if a = 5 then I 21 8 c else if a = 6 then I 21 9 c else I 38 2 c
theorem MM_of (I0 I : PI) (b : Nat) (h13 : I 13 0 = I0 13 0) (h7 : I 21 7 = I0 21 7) (h8 : I 21 8 = I0 21 8) (h9 : I 21 9 = I0 21 9) (h38 : I 38 2 = I0 38 2) : MM (nwI b I) b (Y00 I0) ((nwI b I) 14 0) = nwI b I := by
  unfold MM
  have e : MI (nwI b I) b (Y00 I0) = nwI b I := by
    funext a j c
    unfold MI
    by_cases z13 : a = 13
    · subst z13
      by_cases zj : j = 0
      · subst zj
        rw [if_pos rfl, if_pos rfl]
        exact (congrFun h13 c).symm
      · rw [if_pos rfl, if_neg zj]
    · by_cases z12 : a = 12
      · subst z12
        by_cases zj : j = b
        · subst zj
          rw [if_neg (by decide), if_pos rfl, if_pos rfl]
          show (0 : Int32) = if j = j then 0 else I 12 j c
          rw [if_pos rfl]
        · rw [if_neg (by decide), if_pos rfl, if_neg zj]
      · by_cases z33 : a = 33
        · subst z33
          by_cases zj : j = b
          · subst zj
            rw [if_neg (by decide), if_neg (by decide), if_pos rfl, if_pos rfl]
            show (0 : Int32) = if j = j then 0 else I 33 j c
            rw [if_pos rfl]
          · rw [if_neg (by decide), if_neg (by decide), if_pos rfl, if_neg zj]
        · by_cases z21 : a = 21
          · subst z21
            rw [if_neg (by decide), if_neg (by decide), if_neg (by decide), if_pos rfl]
            by_cases zj : j = b + 12
            · rw [if_pos zj]
              show (0 : Int32) = if j = b + 12 then 0 else I 21 j c
              rw [if_pos zj]
            · rw [if_neg zj, nwI_21x b I zj]
              by_cases z7 : j = 7
              · rw [if_pos z7, z7]; exact (congrFun h7 c).symm
              · rw [if_neg z7]
                by_cases z8 : j = 8
                · rw [if_pos z8, z8]; exact (congrFun h8 c).symm
                · rw [if_neg z8]
                  by_cases z9 : j = 9
                  · rw [if_pos z9, z9]; exact (congrFun h9 c).symm
                  · rw [if_neg z9]
          · by_cases z38 : a = 38
            · subst z38
              rw [if_neg (by decide), if_neg (by decide), if_neg (by decide), if_neg (by decide), if_pos rfl]
              by_cases zj : j = 2
              · subst zj
                rw [if_pos rfl]
                exact (congrFun h38 c).symm
              · rw [if_neg zj]
            · rw [if_neg z13, if_neg z12, if_neg z33, if_neg z21, if_neg z38]
  rw [e, upA_id]
theorem JM_of (J : PJ) (b : Nat) : JM (nwJ b J) b (fun _ => 0) ((nwJ b J) 14 0 15) = nwJ b J := by
  unfold JM
  have e : upA (nwJ b J) 42 (b + 2) (fun _ => 0) = nwJ b J := by
    funext a j c
    unfold upA
    by_cases z : a = 42
    · subst z
      by_cases zj : j = b + 2
      · rw [if_pos rfl, if_pos zj]
        show (0 : Int64) = if j = b + 2 then 0 else J 42 j c
        rw [if_pos zj]
      · rw [if_pos rfl, if_neg zj]
    · rw [if_neg z]
  rw [e, up3_id]
/-- where the reference begins -/
def i5 (I : PI) (n : Nat) : PI := up3 (up3 (up3 (up3 (up3 I 14 0 0 0) 14 0 9 (nn n)) 14 0 8 0) 14 0 10 0) 14 0 3 0
theorem bookM_run (d : Nat) (I0 I : PI) (J : PJ) (T : TL) (b : Nat) (hb : T.2.2.2.2.1 12 = b) (h42 : T.2.2.2.2.1 42 = b + 2) (h33 : T.2.2.2.2.1 33 = b) (h21 : T.2.2.2.2.1 21 = b + 12) (h13 : I 13 0 = I0 13 0) (h7 : I 21 7 = I0 21 7) (h8 : I 21 8 = I0 21 8) (h9 : I 21 9 = I0 21 9) (h38 : I 38 2 = I0 38 2) {t n : Nat} (h148 : I 14 0 8 = nn t) (ht : t ≤ 500) (hnt : n ≤ t) {f : Nat → Int32} (hf : I 37 1 = f) (hfb : ∀ x, -128 ≤ f x ∧ f x ≤ 127) {j k s : Nat} {u : WD} {v : Nat} {c : Int32} (htk : TOK f n 0 j k s u v c) {P : X2 → Prop} {out : Option AV ⊕ (Nat × AV)} (hr : RRun f n b Q0 Gt (Y00 I0) (fun _ => 0) j k s u v c P out) : ∃ (Yf : X2) (nmf : Nat → Int64) (s14 : Nat → Int32) (y : Int64), P Yf ∧ (∀ x, ¬ (10 ≤ x ∧ x ≤ 21) → s14 x = (i5 I n) 14 0 x) ∧ cal (d + 10) 186 [vr 14 0, vi (nn n)] (MX I J T) = ret9 (den (d + 10) 186) 186 59 62 [some (vr 14 0), some (vi (nn n)), none] [] (some (out, MX (MM (nwI b (i5 I n)) b Yf s14) (JM (nwJ b J) b nmf y) (TG T b))) := by
  have e1 := MM_of I0 (i5 I n) b h13 h7 h8 h9 h38
  have e2 := JM_of J b
  obtain ⟨s2, y2, n2, q2, o2⟩ := nxM (d + 8) (nwI b (i5 I n)) (nwJ b J) (TG T b) b (Y00 I0) ((nwI b (i5 I n)) 14 0) (fun _ => 0) (f := f) (n := n) hf hfb (by omega) htk ((nwJ b J) 14 0 15) rfl rfl
  rw [e1, e2] at n2
  obtain ⟨Yf, nmf, s3, y3, r3, p3, o3⟩ := hr d (nwI b (i5 I n)) (nwJ b J) (TG T b) s2 y2 hf ((o2 9 (by omega)).trans rfl) q2 True.intro
  refine ⟨Yf, nmf, s3, y3, p3, fun x hx => (o3 x hx).trans (o2 x (by omega)), ?_⟩
  rw [c186, if_neg (i32_nlt.mpr (nn_nonneg (by omega))), h148, if_pos ((nn_le (by omega) (by omega)).mpr hnt), hb, c188]
  simp only [ret9]
  rw [b186_51]
  have e3 : cal (d + 9) 189 [vr 14 0] (setR (bk188 b (newM (MX (i5 I n) J T) 12 4)) 14 0 5 (ro 12 b)) = some (.inl none, MX (MM (nwI b (i5 I n)) b (Y00 I0) s2) (JM (nwJ b J) b (fun _ => 0) y2) (TG T b)) := by
    rw [new_MX (i5 I n) J T b hb h42 h33 h21]
    exact n2
  refine (congrArg (ret9 (den (d + 10) 186) 186 55 58 _ _) e3).trans ?_
  simp only [ret9]
  rw [b186_58]
  have e4 : cal (d + 9) 193 [vr 14 0] (MX (MM (nwI b (i5 I n)) b (Y00 I0) s2) (JM (nwJ b J) b (fun _ => 0) y2) (TG T b)) = some (out, MX (MM (nwI b (i5 I n)) b Yf s3) (JM (nwJ b J) b nmf y3) (TG T b)) := (c193 (d + 9) b _ _ (TG T b)).trans r3
  rw [e4]
  rfl
/-- what the reference leaves: a fault -/
def IMf (Im : PI) : PI := up3 (up3 (up3 Im 14 0 3 (Im 13 0 5)) 14 0 1 4) 14 0 2 (Im 13 0 6)
/-- a book -/
def IMg (Im : PI) : PI := up3 (up3 (lyM Im 0 0) 14 0 1 0) 14 0 2 (-1)
theorem bookM_f (d : Nat) (x1 : Int32) (Im : PI) (Jm : PJ) (T : TL) : ret9 (den (d + 10) 186) 186 59 62 [some (vr 14 0), some (vi x1), none] [] (some (.inr (1, vr 13 0), MX Im Jm T)) = some (.inl (some (vi (-1))), MX (IMf Im) Jm T) := by
  show den (d + 10) 186 65 _ _ _ = _
  rw [b186_65]
  rfl
theorem bookM_g (d : Nat) (x1 : Int32) (Im : PI) (Jm : PJ) (T : TL) (b : Nat) : ret9 (den (d + 10) 186) 186 59 62 [some (vr 14 0), some (vi x1), none] [] (some (.inl none, MX Im Jm (TF T b))) = some (.inl (some (vi ((IMg Im) 12 b 0))), MX (IMg Im) Jm (TB (TF T b) b)) := by
  show den (d + 10) 186 62 _ _ _ = _
  rw [b186_62, RL_b]
  have e := laysM (d + 9) 0 0 Im Jm (TB (TF T b) b)
  refine (congrArg (ret9 (den (d + 10) 186) 186 100 103 _ _) e).trans ?_
  simp only [ret9]
  rw [b186_103, c215]
  simp only [ret9]
  rw [b186_114]
  rfl
