/-! Growing: rounds; the call grow -/
def RS (wt pr : Nat → Int32) (w h : Nat) (k : Nat) (s : (Nat → Int32) × Bool) : (Nat → Int32) × Bool := (TK1 wt pr w h k s.1, s.2 || TKb wt pr w h k s.1)
def fg1 (b : Bool) : Int32 := if b = true then 1 else 0
theorem fg_or (a b : Bool) : fg1 a ||| fg1 b = fg1 (a || b) := by cases a <;> cases b <;> rfl
/-- how many cells are no one's -/
def un (n : Nat) (ws : Nat → Int32) : Nat := cn (fun c => decide (ws c = -1)) n
theorem TK_un {wt pr ws : Nat → Int32} {w h k : Nat} (hk : k < 6) : un (w * h) (TK1 wt pr w h k ws) ≤ un (w * h) ws ∧ (TKb wt pr w h k ws = true → un (w * h) (TK1 wt pr w h k ws) < un (w * h) ws) := by
  unfold TK1 TKb
  cases e : PK ws wt pr w h k with
  | none => exact ⟨Nat.le_refl _, fun z => by cases z⟩
  | some c =>
    obtain ⟨h1, h2⟩ := PK_in e
    have h3 : ws c = -1 := (NR_iff.mp h2).1.1
    have hs : ∀ i, i < w * h → decide (wu ws c (nn k) i = -1) = true → decide (ws i = -1) = true := by
      intro i _ z
      have z := of_decide_eq_true z
      apply decide_eq_true
      unfold wu at z
      by_cases y : i = c
      · rw [y]; exact h3
      · rw [if_neg y] at z; exact z
    refine ⟨cn_mono _ hs, fun _ => cn_lt _ hs h1 (decide_eq_true h3) (decide_eq_false ?_)⟩
    show ¬ wu ws c (nn k) c = -1
    unfold wu
    rw [if_pos rfl]
    exact nn_ne_neg (by omega)
theorem RS_un {wt pr : Nat → Int32} {w h : Nat} : ∀ m k (s : (Nat → Int32) × Bool), k + m ≤ 6 → un (w * h) (itn (RS wt pr w h) m k s).1 ≤ un (w * h) s.1 ∧ ((itn (RS wt pr w h) m k s).2 = true → s.2 = true ∨ un (w * h) (itn (RS wt pr w h) m k s).1 < un (w * h) s.1)
  | 0, _, s, _ => ⟨Nat.le_refl _, fun z => .inl z⟩
  | m + 1, k, s, hk => by
    obtain ⟨a1, a2⟩ := RS_un (wt := wt) (pr := pr) (w := w) (h := h) m (k + 1) (RS wt pr w h k s) (by omega)
    obtain ⟨b1, b2⟩ := TK_un (wt := wt) (pr := pr) (ws := s.1) (w := w) (h := h) (k := k) (by omega)
    rw [itn_su]
    change un (w * h) (itn (RS wt pr w h) m (k + 1) (RS wt pr w h k s)).1 ≤ un (w * h) (TK1 wt pr w h k s.1) at a1
    refine ⟨Nat.le_trans a1 b1, fun z => ?_⟩
    rcases a2 z with q | q
    · change (s.2 || TKb wt pr w h k s.1) = true at q
      rw [Bool.or_eq_true] at q
      rcases q with q | q
      · exact .inl q
      · exact .inr (Nat.lt_of_le_of_lt a1 (b2 q))
    · exact .inr (Nat.lt_of_lt_of_le q b1)
theorem pkS_some (pr : Nat → Int32) (k : Nat) (N : Nat → Bool) (c q : Nat) : pkS pr k N c (some q) = if N c = true then (if pr (64 * k + q) < pr (64 * k + c) then some c else some q) else some q := rfl
theorem pkS_none (pr : Nat → Int32) (k : Nat) (N : Nat → Bool) (c : Nat) : pkS pr k N c none = if N c = true then some c else none := rfl
theorem pkS_congr {pr pr2 : Nat → Int32} {k : Nat} {N : Nat → Bool} {n c : Nat} {b : Option Nat} (hp : ∀ c, c < n → pr (64 * k + c) = pr2 (64 * k + c)) (hc : c < n) (hb : ∀ q, b = some q → q < n) : pkS pr k N c b = pkS pr2 k N c b := by
  cases b with
  | none => rw [pkS_none, pkS_none]
  | some q => rw [pkS_some, pkS_some, hp q (hb q rfl), hp c hc]
theorem pkS_lt {pr : Nat → Int32} {k : Nat} {N : Nat → Bool} {n c : Nat} {b : Option Nat} (hc : c < n) (hb : ∀ q, b = some q → q < n) : ∀ q, pkS pr k N c b = some q → q < n := by
  intro q z
  cases b with
  | none =>
    rw [pkS_none] at z
    by_cases y : N c = true
    · rw [if_pos y] at z; cases z; exact hc
    · rw [if_neg y] at z; cases z
  | some q2 =>
    rw [pkS_some] at z
    by_cases y : N c = true
    · rw [if_pos y] at z
      by_cases x : pr (64 * k + q2) < pr (64 * k + c)
      · rw [if_pos x] at z; cases z; exact hc
      · rw [if_neg x] at z; exact hb q z
    · rw [if_neg y] at z; exact hb q z
theorem itn_z {β : Type} (f : Nat → β → β) (c : Nat) (b : β) : itn f 0 c b = b := rfl
theorem pkn_congr {pr pr2 : Nat → Int32} {k : Nat} {N : Nat → Bool} {n : Nat} (hp : ∀ c, c < n → pr (64 * k + c) = pr2 (64 * k + c)) : ∀ m c (b : Option Nat), c + m ≤ n → (∀ q, b = some q → q < n) → itn (pkS pr k N) m c b = itn (pkS pr2 k N) m c b := by
  intro m
  induction m with
  | zero => intro c b _ _; rw [itn_z, itn_z]
  | succ m ih =>
    intro c b hc hb
    have hc2 : c < n := by omega
    have e := ih (c + 1) (pkS pr k N c b) (by omega) (pkS_lt hc2 hb)
    have e2 := pkS_congr (N := N) hp hc2 hb
    rw [itn_su, itn_su, ← e2]
    exact e
theorem PK_congr {ws wt pr pr2 : Nat → Int32} {w h k : Nat} (hp : ∀ c, c < w * h → pr (64 * k + c) = pr2 (64 * k + c)) : PK ws wt pr w h k = PK ws wt pr2 w h k :=
  pkn_congr hp (w * h) 0 none (by omega) (fun q e => by cases e)
theorem RS_congr {wt pr pr2 : Nat → Int32} {w h k : Nat} (hp : ∀ c, c < w * h → pr (64 * k + c) = pr2 (64 * k + c)) (s : (Nat → Int32) × Bool) : RS wt pr w h k s = RS wt pr2 w h k s := by
  unfold RS TK1 TKb
  rw [PK_congr hp]
theorem roundC (d : Nat) {w h o : Nat} (I : PI) (J : PJ) (T : TL) (hW : RelW I w h) (hp : 0 < w * h) (hM : RelM J w h) (hC : RelC I J (w * h) o) (ho : I 1 T.1 3 = nn o) (ho6 : o ≤ 6) (x2 : Int32) : ∀ m k (ws a : Nat → Int32) (f : Nat → Int64) (fb : Bool), k + m = o → DR ws a f (w * h) o → ∃ (a2 : Nat → Int32) (f2 : Nat → Int64), den (d + 4) 116 35 [some (vr 3 0), some (vi (fg1 fb)), some (vi x2), some (vi (nn k))] [] (MX (upA I 28 3 a) (upA J 42 1 f) T) = den (d + 4) 116 16 [some (vr 3 0), some (vi (fg1 (itn (RS (I 39 0) (I 34 0) w h) m k (ws, fb)).2)), some (vi (x2 + 1)), some (vi (nn o))] [] (MX (upA I 28 3 a2) (upA J 42 1 f2) T) ∧ DR (itn (RS (I 39 0) (I 34 0) w h) m k (ws, fb)).1 a2 f2 (w * h) o := by
  intro m
  induction m with
  | zero =>
    intro k ws a f fb hk hR
    refine ⟨a, f, ?_, hR⟩
    rw [b116_35]
    show (if I 1 T.1 3 ≤ _ then _ else _) = _
    rw [ho, if_pos ((nn_le (by omega) (by omega)).mpr (by omega)), show k = o by omega]
    rfl
  | succ m ih =>
    intro k ws a f fb hk hR
    obtain ⟨a3, f3, e3, r3⟩ := takeC d I J T hW hp hM hC ho6 (show k < o by omega) hR
    obtain ⟨a2, f2, e2, r2⟩ := ih (k + 1) (TK1 (I 39 0) (I 34 0) w h k ws) a3 f3 (fb || TKb (I 39 0) (I 34 0) w h k ws) (by omega) r3
    refine ⟨a2, f2, ?_, r2⟩
    rw [b116_35]
    show (if I 1 T.1 3 ≤ _ then _ else _) = _
    rw [ho, if_neg (by rw [nn_le (by omega) (by omega)]; omega), e3]
    simp only [ret9]
    rw [b116_55, nn_add1]
    change den (d + 4) 116 35 [some (vr 3 0), some (vi (fg1 fb ||| fg1 (TKb (I 39 0) (I 34 0) w h k ws))), some (vi x2), some (vi (nn (k + 1)))] [] _ = _
    rw [fg_or]
    exact e2
theorem roundM (d : Nat) {w h o b : Nat} (I : PI) (J : PJ) (T : TL) (hg : GW I w h) (hn : I 14 0 24 = nn (w * h)) (ho : I 12 b 0 = nn o) (ho6 : o ≤ 6) : ∀ m k (ws : Nat → Int32) (fb : Bool) (o3 : Option AV), k + m = o → ∃ o4 : Option AV, den (d + 3) 257 120 [some (vr 14 0), some (vi (fg1 fb)), some (vi (nn k)), o3] [] (MX (upA I 28 7 ws) J (TB T b)) = den (d + 3) 257 112 [some (vr 14 0), some (vi (fg1 (itn (RS (I 39 0) (I 34 1) w h) m k (ws, fb)).2)), some (vi (nn o)), o4] [] (MX (upA I 28 7 (itn (RS (I 39 0) (I 34 1) w h) m k (ws, fb)).1) J (TB T b)) := by
  have h64 : w * h ≤ 64 := Nat.mul_le_mul hg.2.2.2.1 hg.2.2.2.2.2
  intro m
  induction m with
  | zero =>
    intro k ws fb o3 hk
    refine ⟨o3, ?_⟩
    rw [b257_120]
    show (if I 12 b 0 ≤ _ then _ else _) = _
    rw [ho, if_pos ((nn_le (by omega) (by omega)).mpr (by omega)), show k = o by omega]
    rfl
  | succ m ih =>
    intro k ws fb o3 hk
    have et := takenM d (w := w) (h := h) (upA I 28 7 ws) J (TB T b) hg hn (show k < 6 by omega)
    change cal (d + 2) 258 [vr 14 0, vi (nn k)] (MX (upA I 28 7 ws) J (TB T b)) = some (.inl (some (vi (oi (PK ws (I 39 0) (I 34 1) w h k)))), MX (upA I 28 7 ws) J (TB T b)) at et
    cases e : PK ws (I 39 0) (I 34 1) w h k with
    | none =>
      obtain ⟨o4, e4⟩ := ih (k + 1) ws fb (some (vi (-1))) (by omega)
      refine ⟨o4, ?_⟩
      rw [b257_120]
      show (if I 12 b 0 ≤ _ then _ else _) = _
      rw [ho, if_neg (by rw [nn_le (by omega) (by omega)]; omega), et, e]
      simp only [ret9]
      rw [b257_136, if_neg (fun z => z oi_n), nn_add1, itn_su, show RS (I 39 0) (I 34 1) w h k (ws, fb) = (ws, fb) by
        unfold RS TK1 TKb; dsimp only; rw [e]; dsimp only [Option.isSome]; rw [Bool.or_false]]
      exact e4
    | some q =>
      obtain ⟨q1, q2⟩ := PK_in e
      obtain ⟨o4, e4⟩ := ih (k + 1) (wu ws q (nn k)) true (some (vi (nn q))) (by omega)
      refine ⟨o4, ?_⟩
      rw [b257_120]
      show (if I 12 b 0 ≤ _ then _ else _) = _
      rw [ho, if_neg (by rw [nn_le (by omega) (by omega)]; omega), et, e]
      simp only [ret9]
      rw [oi_e, b257_136, if_pos (nn_ne_neg (by omega)), if_pos (nn_inR (by omega) (by omega)), nn_idx (by omega), nn_add1, upA_up3, itn_su, show RS (I 39 0) (I 34 1) w h k (ws, fb) = (wu ws q (nn k), true) by
        unfold RS TK1 TKb; dsimp only; rw [e]; dsimp only [Option.isSome]; rw [Bool.or_true]]
      exact e4
def RH (I I2 : PI) (w h o b : Nat) : Prop := GW I2 w h ∧ I2 14 0 24 = nn (w * h) ∧ I2 12 b 0 = nn o ∧ I2 39 0 = I 39 0 ∧ ∀ k, k < o → ∀ c, c < w * h → I2 34 1 (64 * k + c) = I 34 0 (64 * k + c)
theorem rounds (d : Nat) {w h o : Nat} (I : PI) (J : PJ) (T : TL) (hW : RelW I w h) (hp : 0 < w * h) (hM : RelM J w h) (hC : RelC I J (w * h) o) (ho : I 1 T.1 3 = nn o) (ho6 : o ≤ 6) : ∀ m r (ws a : Nat → Int32) (f : Nat → Int64) (o3 : Option AV), un (w * h) ws ≤ m → r + m ≤ w * h → DR ws a f (w * h) o → ∃ (ws2 a2 : Nat → Int32) (f2 : Nat → Int64), den (d + 4) 116 16 [some (vr 3 0), some (vi 1), some (vi (nn r)), o3] [] (MX (upA I 28 3 a) (upA J 42 1 f) T) = some (.inl none, MX (upA I 28 3 a2) (upA J 42 1 f2) T) ∧ DR ws2 a2 f2 (w * h) o ∧ ∀ (e b : Nat) (I2 : PI) (J2 : PJ) (T2 : TL) (p2 p3 : Option AV), RH I I2 w h o b → den (e + 3) 257 112 [some (vr 14 0), some (vi 1), p2, p3] [] (MX (upA I2 28 7 ws) J2 (TB T2 b)) = den (e + 3) 257 167 [some (vr 14 0), some (vi 0), some (vi 0), some (vi 0)] [] (MX (upA I2 28 7 ws2) J2 (TB T2 b)) := by
  have h64 := relW_le hW
  have h9 : I 5 0 9 = nn (w * h) := hW.2.2.1
  intro m
  induction m with
  | zero =>
    intro r ws a f o3 hu hr hR
    obtain ⟨a3, f3, e3, r3⟩ := roundC d I J T hW hp hM hC ho ho6 (nn r) o 0 ws a f false (by omega) hR
    have rM : ∀ (e b : Nat) (I2 : PI) (J2 : PJ) (T2 : TL) (p3 : Option AV), RH I I2 w h o b → ∃ o4 : Option AV, den (e + 3) 257 120 [some (vr 14 0), some (vi 0), some (vi 0), p3] [] (MX (upA I2 28 7 ws) J2 (TB T2 b)) = den (e + 3) 257 112 [some (vr 14 0), some (vi (fg1 (itn (RS (I 39 0) (I 34 0) w h) o 0 (ws, false)).2)), some (vi (nn o)), o4] [] (MX (upA I2 28 7 (itn (RS (I 39 0) (I 34 0) w h) o 0 (ws, false)).1) J2 (TB T2 b)) := by
      intro e b I2 J2 T2 p3 ⟨hg, hn, ho2, hwt, hpr⟩
      obtain ⟨o4, e4⟩ := roundM e (b := b) I2 J2 T2 hg hn ho2 ho6 o 0 ws false p3 (by omega)
      have hs : itn (RS (I2 39 0) (I2 34 1) w h) o 0 (ws, false) = itn (RS (I 39 0) (I 34 0) w h) o 0 (ws, false) := by
        rw [hwt]
        exact itn_congr _ _ _ (fun i s _ hi => RS_congr (fun c hc => hpr i (by omega) c hc) s)
      rw [hs] at e4
      exact ⟨o4, e4⟩
    obtain ⟨-, u2⟩ := RS_un (wt := I 39 0) (pr := I 34 0) (w := w) (h := h) o 0 (ws, false) (by omega)
    generalize itn (RS (I 39 0) (I 34 0) w h) o 0 (ws, false) = s at e3 rM r3 u2
    have hf : s.2 = false := by
      cases z : s.2 with
      | false => rfl
      | true =>
        rcases u2 z with y | y
        · cases y
        · change un (w * h) s.1 < un (w * h) ws at y; omega
    refine ⟨s.1, a3, f3, ?_, r3, ?_⟩
    · rw [b116_16]
      show (if I 5 0 9 < _ then _ else _) = _
      rw [h9, if_neg (by rw [nn_lt (by omega) (by omega)]; omega), if_neg (by decide)]
      refine e3.trans ?_
      rw [hf, b116_16, nn_add1]
      show (if I 5 0 9 < _ then _ else (if fg1 false = 0 then _ else _)) = _
      rw [if_pos (show fg1 false = 0 from rfl)]
      by_cases z : I 5 0 9 < nn (r + 1)
      · rw [if_pos z]
      · rw [if_neg z]
    · intro e b I2 J2 T2 p2 p3 hh
      obtain ⟨o4, e4⟩ := rM e b I2 J2 T2 p3 hh
      rw [b257_112, if_neg (by decide)]
      refine e4.trans ?_
      rw [hf, b257_112, if_pos (show fg1 false = 0 from rfl)]
      rfl
  | succ m ih =>
    intro r ws a f o3 hu hr hR
    obtain ⟨a3, f3, e3, r3⟩ := roundC d I J T hW hp hM hC ho ho6 (nn r) o 0 ws a f false (by omega) hR
    have rM : ∀ (e b : Nat) (I2 : PI) (J2 : PJ) (T2 : TL) (p3 : Option AV), RH I I2 w h o b → ∃ o4 : Option AV, den (e + 3) 257 120 [some (vr 14 0), some (vi 0), some (vi 0), p3] [] (MX (upA I2 28 7 ws) J2 (TB T2 b)) = den (e + 3) 257 112 [some (vr 14 0), some (vi (fg1 (itn (RS (I 39 0) (I 34 0) w h) o 0 (ws, false)).2)), some (vi (nn o)), o4] [] (MX (upA I2 28 7 (itn (RS (I 39 0) (I 34 0) w h) o 0 (ws, false)).1) J2 (TB T2 b)) := by
      intro e b I2 J2 T2 p3 ⟨hg, hn, ho2, hwt, hpr⟩
      obtain ⟨o4, e4⟩ := roundM e (b := b) I2 J2 T2 hg hn ho2 ho6 o 0 ws false p3 (by omega)
      have hs : itn (RS (I2 39 0) (I2 34 1) w h) o 0 (ws, false) = itn (RS (I 39 0) (I 34 0) w h) o 0 (ws, false) := by
        rw [hwt]
        exact itn_congr _ _ _ (fun i s _ hi => RS_congr (fun c hc => hpr i (by omega) c hc) s)
      rw [hs] at e4
      exact ⟨o4, e4⟩
    obtain ⟨-, u2⟩ := RS_un (wt := I 39 0) (pr := I 34 0) (w := w) (h := h) o 0 (ws, false) (by omega)
    generalize itn (RS (I 39 0) (I 34 0) w h) o 0 (ws, false) = s at e3 rM r3 u2
    cases z : s.2 with
    | false =>
      refine ⟨s.1, a3, f3, ?_, r3, ?_⟩
      · rw [b116_16]
        show (if I 5 0 9 < _ then _ else _) = _
        rw [h9, if_neg (by rw [nn_lt (by omega) (by omega)]; omega), if_neg (by decide)]
        refine e3.trans ?_
        rw [z, b116_16, nn_add1]
        show (if I 5 0 9 < _ then _ else (if fg1 false = 0 then _ else _)) = _
        rw [if_pos (show fg1 false = 0 from rfl)]
        by_cases z : I 5 0 9 < nn (r + 1)
        · rw [if_pos z]
        · rw [if_neg z]
      · intro e b I2 J2 T2 p2 p3 hh
        obtain ⟨o4, e4⟩ := rM e b I2 J2 T2 p3 hh
        rw [b257_112, if_neg (by decide)]
        refine e4.trans ?_
        rw [z, b257_112, if_pos (show fg1 false = 0 from rfl)]
        rfl
    | true =>
      have y : un (w * h) s.1 < un (w * h) ws := by
        rcases u2 z with y | y
        · cases y
        · exact y
      obtain ⟨ws2, a2, f2, q1, q2, q3⟩ := ih (r + 1) s.1 a3 f3 (some (vi (nn o))) (by omega) (by omega) r3
      refine ⟨ws2, a2, f2, ?_, q2, ?_⟩
      · rw [b116_16]
        show (if I 5 0 9 < _ then _ else _) = _
        rw [h9, if_neg (by rw [nn_lt (by omega) (by omega)]; omega), if_neg (by decide)]
        refine e3.trans ?_
        rw [z, nn_add1]
        exact q1
      · intro e b I2 J2 T2 p2 p3 hh
        obtain ⟨o4, e4⟩ := rM e b I2 J2 T2 p3 hh
        rw [b257_112, if_neg (by decide)]
        refine e4.trans ?_
        rw [z]
        exact q3 e b I2 J2 T2 _ _ hh
