def AllC : Nat → Nat → Prop
  | _, 0 => True
  | i, n + 1 => cdW i ∈ lw_tbl ∧ AllC (i + 1) n
theorem AllC_at : ∀ {n i : Nat}, AllC i n → ∀ a, i ≤ a → a < i + n → cdW a ∈ lw_tbl
  | 0, _, _, a, h1, h2 => by omega
  | n + 1, i, h, a, h1, h2 => by
    by_cases e : a = i
    · subst e; exact h.1
    · exact AllC_at h.2 a (by omega) (by omega)
def AllO : Nat → Nat → Prop
  | _, 0 => True
  | i, n + 1 => (cdT i).all (okB i) = true ∧ AllO (i + 1) n
theorem AllO_at : ∀ {n i : Nat}, AllO i n → ∀ a, i ≤ a → a < i + n → (cdT a).all (okB a) = true
  | 0, _, _, a, h1, h2 => by omega
  | n + 1, i, h, a, h1, h2 => by
    by_cases e : a = i
    · subst e; exact h.1
    · exact AllO_at h.2 a (by omega) (by omega)
theorem AllC_app : ∀ {n i k : Nat}, AllC i n → AllC (i + n) k → AllC i (n + k)
  | 0, i, k, _, h2 => by rw [Nat.zero_add]; exact h2
  | n + 1, i, k, h1, h2 => by
    rw [Nat.add_right_comm]
    exact ⟨h1.1, AllC_app h1.2 (by rw [show i + 1 + n = i + (n + 1) by omega]; exact h2)⟩
theorem AllO_app : ∀ {n i k : Nat}, AllO i n → AllO (i + n) k → AllO i (n + k)
  | 0, i, k, _, h2 => by rw [Nat.zero_add]; exact h2
  | n + 1, i, k, h1, h2 => by
    rw [Nat.add_right_comm]
    exact ⟨h1.1, AllO_app h1.2 (by rw [show i + 1 + n = i + (n + 1) by omega]; exact h2)⟩
set_option maxRecDepth 100000 in
theorem AllC_1 : AllC 1 20 := ⟨atP_in cw_1, atP_in cw_2, atP_in cw_3, atP_in cw_4, atP_in cw_5, atP_in cw_6, atP_in cw_7, atP_in cw_8, atP_in cw_9, atP_in cw_10, atP_in cw_11, atP_in cw_12, atP_in cw_13, atP_in cw_14, atP_in cw_15, atP_in cw_16, atP_in cw_17, atP_in cw_18, atP_in cw_19, atP_in cw_20, trivial⟩
set_option maxRecDepth 100000 in
theorem AllC_21 : AllC 21 20 := ⟨atP_in cw_21, atP_in cw_22, atP_in cw_23, atP_in cw_24, atP_in cw_25, atP_in cw_26, atP_in cw_27, atP_in cw_28, atP_in cw_29, atP_in cw_30, atP_in cw_31, atP_in cw_32, atP_in cw_33, atP_in cw_34, atP_in cw_35, atP_in cw_36, atP_in cw_37, atP_in cw_38, atP_in cw_39, atP_in cw_40, trivial⟩
set_option maxRecDepth 100000 in
theorem AllC_41 : AllC 41 20 := ⟨atP_in cw_41, atP_in cw_42, atP_in cw_43, atP_in cw_44, atP_in cw_45, atP_in cw_46, atP_in cw_47, atP_in cw_48, atP_in cw_49, atP_in cw_50, atP_in cw_51, atP_in cw_52, atP_in cw_53, atP_in cw_54, atP_in cw_55, atP_in cw_56, atP_in cw_57, atP_in cw_58, atP_in cw_59, atP_in cw_60, trivial⟩
set_option maxRecDepth 100000 in
theorem AllC_61 : AllC 61 20 := ⟨atP_in cw_61, atP_in cw_62, atP_in cw_63, atP_in cw_64, atP_in cw_65, atP_in cw_66, atP_in cw_67, atP_in cw_68, atP_in cw_69, atP_in cw_70, atP_in cw_71, atP_in cw_72, atP_in cw_73, atP_in cw_74, atP_in cw_75, atP_in cw_76, atP_in cw_77, atP_in cw_78, atP_in cw_79, atP_in cw_80, trivial⟩
set_option maxRecDepth 100000 in
theorem AllC_81 : AllC 81 20 := ⟨atP_in cw_81, atP_in cw_82, atP_in cw_83, atP_in cw_84, atP_in cw_85, atP_in cw_86, atP_in cw_87, atP_in cw_88, atP_in cw_89, atP_in cw_90, atP_in cw_91, atP_in cw_92, atP_in cw_93, atP_in cw_94, atP_in cw_95, atP_in cw_96, atP_in cw_97, atP_in cw_98, atP_in cw_99, atP_in cw_100, trivial⟩
set_option maxRecDepth 100000 in
theorem AllC_101 : AllC 101 20 := ⟨atP_in cw_101, atP_in cw_102, atP_in cw_103, atP_in cw_104, atP_in cw_105, atP_in cw_106, atP_in cw_107, atP_in cw_108, atP_in cw_109, atP_in cw_110, atP_in cw_111, atP_in cw_112, atP_in cw_113, atP_in cw_114, atP_in cw_115, atP_in cw_116, atP_in cw_117, atP_in cw_118, atP_in cw_119, atP_in cw_120, trivial⟩
set_option maxRecDepth 100000 in
theorem AllC_121 : AllC 121 20 := ⟨atP_in cw_121, atP_in cw_122, atP_in cw_123, atP_in cw_124, atP_in cw_125, atP_in cw_126, atP_in cw_127, atP_in cw_128, atP_in cw_129, atP_in cw_130, atP_in cw_131, atP_in cw_132, atP_in cw_133, atP_in cw_134, atP_in cw_135, atP_in cw_136, atP_in cw_137, atP_in cw_138, atP_in cw_139, atP_in cw_140, trivial⟩
set_option maxRecDepth 100000 in
theorem AllC_141 : AllC 141 20 := ⟨atP_in cw_141, atP_in cw_142, atP_in cw_143, atP_in cw_144, atP_in cw_145, atP_in cw_146, atP_in cw_147, atP_in cw_148, atP_in cw_149, atP_in cw_150, atP_in cw_151, atP_in cw_152, atP_in cw_153, atP_in cw_154, atP_in cw_155, atP_in cw_156, atP_in cw_157, atP_in cw_158, atP_in cw_159, atP_in cw_160, trivial⟩
set_option maxRecDepth 100000 in
theorem AllC_161 : AllC 161 20 := ⟨atP_in cw_161, atP_in cw_162, atP_in cw_163, atP_in cw_164, atP_in cw_165, atP_in cw_166, atP_in cw_167, atP_in cw_168, atP_in cw_169, atP_in cw_170, atP_in cw_171, atP_in cw_172, atP_in cw_173, atP_in cw_174, atP_in cw_175, atP_in cw_176, atP_in cw_177, atP_in cw_178, atP_in cw_179, atP_in cw_180, trivial⟩
set_option maxRecDepth 100000 in
theorem AllC_181 : AllC 181 20 := ⟨atP_in cw_181, atP_in cw_182, atP_in cw_183, atP_in cw_184, atP_in cw_185, atP_in cw_186, atP_in cw_187, atP_in cw_188, atP_in cw_189, atP_in cw_190, atP_in cw_191, atP_in cw_192, atP_in cw_193, atP_in cw_194, atP_in cw_195, atP_in cw_196, atP_in cw_197, atP_in cw_198, atP_in cw_199, atP_in cw_200, trivial⟩
set_option maxRecDepth 100000 in
theorem AllC_201 : AllC 201 20 := ⟨atP_in cw_201, atP_in cw_202, atP_in cw_203, atP_in cw_204, atP_in cw_205, atP_in cw_206, atP_in cw_207, atP_in cw_208, atP_in cw_209, atP_in cw_210, atP_in cw_211, atP_in cw_212, atP_in cw_213, atP_in cw_214, atP_in cw_215, atP_in cw_216, atP_in cw_217, atP_in cw_218, atP_in cw_219, atP_in cw_220, trivial⟩
set_option maxRecDepth 100000 in
theorem AllC_221 : AllC 221 20 := ⟨atP_in cw_221, atP_in cw_222, atP_in cw_223, atP_in cw_224, atP_in cw_225, atP_in cw_226, atP_in cw_227, atP_in cw_228, atP_in cw_229, atP_in cw_230, atP_in cw_231, atP_in cw_232, atP_in cw_233, atP_in cw_234, atP_in cw_235, atP_in cw_236, atP_in cw_237, atP_in cw_238, atP_in cw_239, atP_in cw_240, trivial⟩
set_option maxRecDepth 100000 in
theorem AllC_241 : AllC 241 20 := ⟨atP_in cw_241, atP_in cw_242, atP_in cw_243, atP_in cw_244, atP_in cw_245, atP_in cw_246, atP_in cw_247, atP_in cw_248, atP_in cw_249, atP_in cw_250, atP_in cw_251, atP_in cw_252, atP_in cw_253, atP_in cw_254, atP_in cw_255, atP_in cw_256, atP_in cw_257, atP_in cw_258, atP_in cw_259, atP_in cw_260, trivial⟩
set_option maxRecDepth 100000 in
theorem AllC_261 : AllC 261 20 := ⟨atP_in cw_261, atP_in cw_262, atP_in cw_263, atP_in cw_264, atP_in cw_265, atP_in cw_266, atP_in cw_267, atP_in cw_268, atP_in cw_269, atP_in cw_270, atP_in cw_271, atP_in cw_272, atP_in cw_273, atP_in cw_274, atP_in cw_275, atP_in cw_276, atP_in cw_277, atP_in cw_278, atP_in cw_279, atP_in cw_280, trivial⟩
theorem AllC_all : AllC 1 280 := AllC_app (n := 20) (i := 1) AllC_1 (AllC_app (n := 20) (i := 21) AllC_21 (AllC_app (n := 20) (i := 41) AllC_41 (AllC_app (n := 20) (i := 61) AllC_61 (AllC_app (n := 20) (i := 81) AllC_81 (AllC_app (n := 20) (i := 101) AllC_101 (AllC_app (n := 20) (i := 121) AllC_121 (AllC_app (n := 20) (i := 141) AllC_141 (AllC_app (n := 20) (i := 161) AllC_161 (AllC_app (n := 20) (i := 181) AllC_181 (AllC_app (n := 20) (i := 201) AllC_201 (AllC_app (n := 20) (i := 221) AllC_221 (AllC_app (n := 20) (i := 241) AllC_241 (AllC_261)))))))))))))
set_option maxRecDepth 100000 in
theorem AllO_0 : AllO 0 20 := ⟨ok_0, ok_1, ok_2, ok_3, ok_4, ok_5, ok_6, ok_7, ok_8, ok_9, ok_10, ok_11, ok_12, ok_13, ok_14, ok_15, ok_16, ok_17, ok_18, ok_19, trivial⟩
set_option maxRecDepth 100000 in
theorem AllO_20 : AllO 20 20 := ⟨ok_20, ok_21, ok_22, ok_23, ok_24, ok_25, ok_26, ok_27, ok_28, ok_29, ok_30, ok_31, ok_32, ok_33, ok_34, ok_35, ok_36, ok_37, ok_38, ok_39, trivial⟩
set_option maxRecDepth 100000 in
theorem AllO_40 : AllO 40 20 := ⟨ok_40, ok_41, ok_42, ok_43, ok_44, ok_45, ok_46, ok_47, ok_48, ok_49, ok_50, ok_51, ok_52, ok_53, ok_54, ok_55, ok_56, ok_57, ok_58, ok_59, trivial⟩
set_option maxRecDepth 100000 in
theorem AllO_60 : AllO 60 20 := ⟨ok_60, ok_61, ok_62, ok_63, ok_64, ok_65, ok_66, ok_67, ok_68, ok_69, ok_70, ok_71, ok_72, ok_73, ok_74, ok_75, ok_76, ok_77, ok_78, ok_79, trivial⟩
set_option maxRecDepth 100000 in
theorem AllO_80 : AllO 80 20 := ⟨ok_80, ok_81, ok_82, ok_83, ok_84, ok_85, ok_86, ok_87, ok_88, ok_89, ok_90, ok_91, ok_92, ok_93, ok_94, ok_95, ok_96, ok_97, ok_98, ok_99, trivial⟩
set_option maxRecDepth 100000 in
theorem AllO_100 : AllO 100 20 := ⟨ok_100, ok_101, ok_102, ok_103, ok_104, ok_105, ok_106, ok_107, ok_108, ok_109, ok_110, ok_111, ok_112, ok_113, ok_114, ok_115, ok_116, ok_117, ok_118, ok_119, trivial⟩
set_option maxRecDepth 100000 in
theorem AllO_120 : AllO 120 20 := ⟨ok_120, ok_121, ok_122, ok_123, ok_124, ok_125, ok_126, ok_127, ok_128, ok_129, ok_130, ok_131, ok_132, ok_133, ok_134, ok_135, ok_136, ok_137, ok_138, ok_139, trivial⟩
set_option maxRecDepth 100000 in
theorem AllO_140 : AllO 140 20 := ⟨ok_140, ok_141, ok_142, ok_143, ok_144, ok_145, ok_146, ok_147, ok_148, ok_149, ok_150, ok_151, ok_152, ok_153, ok_154, ok_155, ok_156, ok_157, ok_158, ok_159, trivial⟩
set_option maxRecDepth 100000 in
theorem AllO_160 : AllO 160 20 := ⟨ok_160, ok_161, ok_162, ok_163, ok_164, ok_165, ok_166, ok_167, ok_168, ok_169, ok_170, ok_171, ok_172, ok_173, ok_174, ok_175, ok_176, ok_177, ok_178, ok_179, trivial⟩
set_option maxRecDepth 100000 in
theorem AllO_180 : AllO 180 20 := ⟨ok_180, ok_181, ok_182, ok_183, ok_184, ok_185, ok_186, ok_187, ok_188, ok_189, ok_190, ok_191, ok_192, ok_193, ok_194, ok_195, ok_196, ok_197, ok_198, ok_199, trivial⟩
set_option maxRecDepth 100000 in
theorem AllO_200 : AllO 200 20 := ⟨ok_200, ok_201, ok_202, ok_203, ok_204, ok_205, ok_206, ok_207, ok_208, ok_209, ok_210, ok_211, ok_212, ok_213, ok_214, ok_215, ok_216, ok_217, ok_218, ok_219, trivial⟩
set_option maxRecDepth 100000 in
theorem AllO_220 : AllO 220 20 := ⟨ok_220, ok_221, ok_222, ok_223, ok_224, ok_225, ok_226, ok_227, ok_228, ok_229, ok_230, ok_231, ok_232, ok_233, ok_234, ok_235, ok_236, ok_237, ok_238, ok_239, trivial⟩
set_option maxRecDepth 100000 in
theorem AllO_240 : AllO 240 20 := ⟨ok_240, ok_241, ok_242, ok_243, ok_244, ok_245, ok_246, ok_247, ok_248, ok_249, ok_250, ok_251, ok_252, ok_253, ok_254, ok_255, ok_256, ok_257, ok_258, ok_259, trivial⟩
set_option maxRecDepth 100000 in
theorem AllO_260 : AllO 260 20 := ⟨ok_260, ok_261, ok_262, ok_263, ok_264, ok_265, ok_266, ok_267, ok_268, ok_269, ok_270, ok_271, ok_272, ok_273, ok_274, ok_275, ok_276, ok_277, ok_278, ok_279, trivial⟩
set_option maxRecDepth 100000 in
theorem AllO_280 : AllO 280 1 := ⟨ok_280, trivial⟩
theorem AllO_all : AllO 0 281 := AllO_app (n := 20) (i := 0) AllO_0 (AllO_app (n := 20) (i := 20) AllO_20 (AllO_app (n := 20) (i := 40) AllO_40 (AllO_app (n := 20) (i := 60) AllO_60 (AllO_app (n := 20) (i := 80) AllO_80 (AllO_app (n := 20) (i := 100) AllO_100 (AllO_app (n := 20) (i := 120) AllO_120 (AllO_app (n := 20) (i := 140) AllO_140 (AllO_app (n := 20) (i := 160) AllO_160 (AllO_app (n := 20) (i := 180) AllO_180 (AllO_app (n := 20) (i := 200) AllO_200 (AllO_app (n := 20) (i := 220) AllO_220 (AllO_app (n := 20) (i := 240) AllO_240 (AllO_app (n := 20) (i := 260) AllO_260 (AllO_280))))))))))))))
theorem cdT_big : ∀ (l : List Cd9) (a : Nat), l.length ≤ a → nth9 l a [] = ([] : Cd9)
  | [], _, _ => rfl
  | _ :: r, 0, h => absurd h (by simp)
  | _ :: r, a + 1, h => cdT_big r a (by simpa using h)
theorem cdTab_len : cdTab.length = 281 := by decide +kernel
theorem ok_at (M : Nat) : (cdT M).all (okB M) = true := by
  by_cases h : M < 281
  · exact AllO_at AllO_all M (Nat.zero_le _) (by omega)
  · rw [show cdT M = [] from cdT_big cdTab M (by rw [cdTab_len]; omega)]; rfl
theorem cw_at {a : Nat} (h1 : 0 < a) (h2 : a < 281) : cdW a ∈ lw_tbl := AllC_at AllC_all a h1 (by omega)
theorem hasF_w {o i a b : Nat} (h : hasF o i a b = true) : fW o i a b ∈ lw_tbl := by
  obtain ⟨q, hq, h2⟩ := List.any_eq_true.mp h
  simp only [Bool.and_eq_true, beq_iff_eq] at h2
  have h4 : (o, i, a, b) ∈ flP.map (fun q => q.1) := by
    rw [flP_eq]; exact List.mem_map.mpr ⟨q, hq, by rw [h2.1.1.1, h2.1.1.2, h2.1.2, h2.2]⟩
  obtain ⟨z, hz, e⟩ := List.mem_map.mp h4
  have h5 := of_decide_eq_true (List.all_eq_true.mp lkf_all z hz)
  rw [e] at h5
  exact atP_in h5
theorem has3c_w {o i a : Nat} (h : has3 clL o i a = true) : Cond.classLink (onm o) i (clT a).1 ∈ lw_tbl := by
  obtain ⟨q, hq, h2⟩ := List.any_eq_true.mp h
  simp only [Bool.and_eq_true, beq_iff_eq] at h2
  have h4 : (o, i, a) ∈ clP.map (fun q => q.1) := by
    rw [clP_eq]; exact List.mem_map.mpr ⟨q, hq, by rw [h2.1.1, h2.1.2, h2.2]⟩
  obtain ⟨z, hz, e⟩ := List.mem_map.mp h4
  have h5 := of_decide_eq_true (List.all_eq_true.mp lkc_all z hz)
  rw [e] at h5
  exact atP_in h5
theorem has3i_w {o i a : Nat} (h : has3 ciL o i a = true) : Cond.constant (onm o) i (cI9 a) ∈ lw_tbl := by
  obtain ⟨q, hq, h2⟩ := List.any_eq_true.mp h
  simp only [Bool.and_eq_true, beq_iff_eq] at h2
  have h4 : (o, i, a) ∈ ciP.map (fun q => q.1) := by
    rw [ciP_eq]; exact List.mem_map.mpr ⟨q, hq, by rw [h2.1.1, h2.1.2, h2.2]⟩
  obtain ⟨z, hz, e⟩ := List.mem_map.mp h4
  have h5 := of_decide_eq_true (List.all_eq_true.mp lki_all z hz)
  rw [e] at h5
  exact atP_in h5
theorem has3j_w {o i a : Nat} (h : has3 cjL o i a = true) : Cond.constantLong (onm o) i (cJ9 a) ∈ lw_tbl := by
  obtain ⟨q, hq, h2⟩ := List.any_eq_true.mp h
  simp only [Bool.and_eq_true, beq_iff_eq] at h2
  have h4 : (o, i, a) ∈ cjP.map (fun q => q.1) := by
    rw [cjP_eq]; exact List.mem_map.mpr ⟨q, hq, by rw [h2.1.1, h2.1.2, h2.2]⟩
  obtain ⟨z, hz, e⟩ := List.mem_map.mp h4
  have h5 := of_decide_eq_true (List.all_eq_true.mp lkj_all z hz)
  rw [e] at h5
  exact atP_in h5
theorem hasM_w {o i a k : Nat} (h : hasM o i a k = true) : ∀ w ∈ mlW (o, i, a, k), w ∈ lw_tbl := by
  obtain ⟨q, hq, h2⟩ := List.any_eq_true.mp h
  simp only [Bool.and_eq_true, beq_iff_eq] at h2
  have h4 : (o, i, a, k) ∈ mlP.map (fun q => q.1) := by
    rw [mlP_eq]; exact List.mem_map.mpr ⟨q, hq, by rw [h2.1.1.1, h2.1.1.2, h2.1.2, h2.2]⟩
  obtain ⟨z, hz, e⟩ := List.mem_map.mp h4
  have h5 := of_decide_eq_true (List.all_eq_true.mp lkm_all z hz)
  rw [e] at h5
  intro w hw
  have h6 : some w ∈ (mlW (o, i, a, k)).map some := List.mem_map.mpr ⟨w, hw, rfl⟩
  rw [← h5] at h6
  obtain ⟨p, -, hp⟩ := List.mem_map.mp h6
  exact atP_in hp
theorem uB_spec {a : Nat} (h : uB a = true) : (∀ w ∈ u_ws (clT a).1 (clT a).2.1 (clT a).2.2, w ∈ lw_tbl.filter goodWord) ∧ (Cond.instantiable (clT a).1 (clT a).2.2 ∈ lw_tbl) ∧ (Cond.initialized (clT a).1 ∈ lw_tbl) := by
  simp only [uB, Bool.and_eq_true, decide_eq_true_eq] at h
  obtain ⟨⟨⟨h1, h2⟩, h3⟩, h4⟩ := h
  refine ⟨fun w hw => ?_, atP_in h3, atP_in h4⟩
  have h6 : some w ∈ (u_ws (clT a).1 (clT a).2.1 (clT a).2.2).map some := List.mem_map.mpr ⟨w, hw, rfl⟩
  rw [← h1] at h6
  obtain ⟨p, -, hp⟩ := List.mem_map.mp h6
  exact List.mem_filter.mpr ⟨atP_in hp, List.all_eq_true.mp h2 w hw⟩
theorem cls_at {a : Nat} (h : a < 15) : (∀ w ∈ u_ws (clT a).1 (clT a).2.1 (clT a).2.2, w ∈ lw_tbl.filter goodWord) ∧ (Cond.instantiable (clT a).1 (clT a).2.2 ∈ lw_tbl) ∧ (Cond.initialized (clT a).1 ∈ lw_tbl) := by
  match a, h with
  | 0, _ => exact uB_spec cls_0
  | 1, _ => exact uB_spec cls_1
  | 2, _ => exact uB_spec cls_2
  | 3, _ => exact uB_spec cls_3
  | 4, _ => exact uB_spec cls_4
  | 5, _ => exact uB_spec cls_5
  | 6, _ => exact uB_spec cls_6
  | 7, _ => exact uB_spec cls_7
  | 8, _ => exact uB_spec cls_8
  | 9, _ => exact uB_spec cls_9
  | 10, _ => exact uB_spec cls_10
  | 11, _ => exact uB_spec cls_11
  | 12, _ => exact uB_spec cls_12
  | 13, _ => exact uB_spec cls_13
  | 14, _ => exact uB_spec cls_14
