/-! New things, statics, constants, Object's making, a copy of places -/
def ojL : List (Nat × Nat) := [(11, 1), (0, 3), (1, 5), (2, 5), (3, 3), (4, 5), (5, 3), (6, 3), (7, 3), (8, 3), (9, 1), (10, 3), (14, 1), (12, 3), (23, 1)]
def oj9 (M : Nat) (q : Nat × Ent9) : Bool := match q with
  | (_, .invokespecial k, _, _, _, c, _) => if c = 50 then ojL.contains (mO M, k) else true
  | _ => true
theorem oj_all : (List.range 281).all (fun M => (cdT M).all (oj9 M)) = true := by decide +kernel
def ojP : List (Nat × Nat) := [(1, 34), (2, 32), (1, 48), (2, 197), (2, 5), (2, 85), (1, 153), (2, 45), (1, 42), (1, 77), (2, 164), (2, 141), (6, 109), (7, 86), (6, 59)]
theorem oj_p : ojP.map atP = (ojL.map (fun q => some (Cond.methodLink (onm q.1) q.2 Lib.objectInit))) := by decide +kernel
theorem oj_w : ∀ q ∈ ojL, Cond.methodLink (onm q.1) q.2 Lib.objectInit ∈ lw_tbl := by
  intro q hq
  have h : some (Cond.methodLink (onm q.1) q.2 Lib.objectInit) ∈ ojP.map atP := by rw [oj_p]; exact List.mem_map.mpr ⟨q, hq, rfl⟩
  obtain ⟨z, -, hz⟩ := List.mem_map.mp h
  exact atP_in hz
theorem oj_i : Cond.instanceMethod Lib.objectInit ∈ lw_tbl := atP_in (q := (1, 35)) (by decide +kernel)
theorem oj_c : Cond.code Lib.objectInit ⟨#[0xb1]⟩ 1 none ∈ lw_tbl := atP_in (q := (1, 36)) (by decide +kernel)
theorem oj_at (M : Nat) : (cdT M).all (oj9 M) = true := by
  by_cases h : M < 281
  · exact List.all_eq_true.mp oj_all M (List.mem_range.mpr h)
  · rw [show cdT M = [] from cdT_big cdTab M (by rw [cdTab_len]; omega)]; rfl
theorem lk_wy : ∀ k, k < 4 → Cond.fieldLink "WholeFields$Walker" (nth9 [47, 50, 57, 60] k 0) "WholeFields$Walker" (wyN k) "[I" ∈ lw_tbl := by
  intro k hk
  match k, hk with
  | 0, _ => exact atP_in (q := (5, 137)) (by decide +kernel)
  | 1, _ => exact atP_in (q := (5, 139)) (by decide +kernel)
  | 2, _ => exact atP_in (q := (5, 145)) (by decide +kernel)
  | 3, _ => exact atP_in (q := (5, 147)) (by decide +kernel)
theorem lk_us : Cond.fieldLink "java/lang/Throwable" 13 "java/lang/Throwable" "UNASSIGNED_STACK" "[Ljava/lang/StackTraceElement;" ∈ lw_tbl := atP_in (q := (6, 60)) (by decide +kernel)
theorem lk_ss : Cond.fieldLink "java/lang/Throwable" 20 "java/lang/Throwable" "SUPPRESSED_SENTINEL" "Ljava/util/List;" ∈ lw_tbl := atP_in (q := (6, 62)) (by decide +kernel)
theorem lk_cs : Cond.fieldLink "java/lang/String" 38 "java/lang/String" "COMPACT_STRINGS" "Z" ∈ lw_tbl := atP_in (q := (7, 139)) (by decide +kernel)
theorem lk_pf : Cond.fieldLink "java/lang/String" 1053 "jdk/internal/util/Preconditions" "SIOOBE_FORMATTER" "Ljava/util/function/BiFunction;" ∈ lw_tbl := atP_in (q := (7, 155)) (by decide +kernel)
theorem lk_ac : Cond.methodLink "WholeFields$Finder" 168 arraycopyName ∈ lw_tbl ∧ Cond.native arraycopyName ∈ lw_tbl ∧ Cond.static arraycopyName ∈ lw_tbl ∧ Cond.initialized "java/lang/System" ∈ lw_tbl := ⟨atP_in (q := (5, 114)) (by decide +kernel), atP_in (q := (5, 116)) (by decide +kernel), atP_in (q := (5, 115)) (by decide +kernel), atP_in (q := (1, 26)) (by decide +kernel)⟩
theorem lk_ar : ∀ t, t < 4 → Cond.arrayClass (tyA t) ∈ lw_tbl := by
  intro t ht
  match t, ht with
  | 0, _ => exact atP_in (q := (1, 71)) (by decide +kernel)
  | 1, _ => exact atP_in (q := (1, 69)) (by decide +kernel)
  | 2, _ => exact atP_in (q := (1, 104)) (by decide +kernel)
  | 3, _ => exact atP_in (q := (1, 70)) (by decide +kernel)
