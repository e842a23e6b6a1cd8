theorem all_cut {α : Type} {p : α → Bool} {l : List α} (n : Nat) (h1 : (l.take n).all p = true) (h2 : (l.drop n).all p = true) : l.all p = true := by
  rw [← List.take_append_drop n l, List.all_append, h1, h2]; rfl
theorem all_dr {α : Type} {p : α → Bool} {l : List α} (k n : Nat) (h1 : ((l.drop k).take n).all p = true) (h2 : (l.drop (k + n)).all p = true) : (l.drop k).all p = true := all_cut n h1 (by rw [List.drop_drop]; exact h2)
theorem ok_0_0 : ((k_WFLaw_law.drop 0).take 40).all (okB 0) = true := by decide +kernel
theorem ok_0_40 : ((k_WFLaw_law.drop 40).take 40).all (okB 0) = true := by decide +kernel
theorem ok_0_80 : ((k_WFLaw_law.drop 80).take 40).all (okB 0) = true := by decide +kernel
theorem ok_0_120 : ((k_WFLaw_law.drop 120).take 40).all (okB 0) = true := by decide +kernel
theorem ok_0_160 : ((k_WFLaw_law.drop 160).take 40).all (okB 0) = true := by decide +kernel
theorem ok_0_200 : ((k_WFLaw_law.drop 200).take 40).all (okB 0) = true := by decide +kernel
theorem ok_0_240 : ((k_WFLaw_law.drop 240).take 40).all (okB 0) = true := by decide +kernel
theorem ok_0_280 : ((k_WFLaw_law.drop 280).take 40).all (okB 0) = true := by decide +kernel
theorem ok_0_320 : ((k_WFLaw_law.drop 320).take 40).all (okB 0) = true := by decide +kernel
theorem ok_0_360 : ((k_WFLaw_law.drop 360).take 40).all (okB 0) = true := by decide +kernel
theorem ok_0_400 : ((k_WFLaw_law.drop 400).take 40).all (okB 0) = true := by decide +kernel
theorem ok_0_440 : ((k_WFLaw_law.drop 440).take 40).all (okB 0) = true := by decide +kernel
theorem ok_0_480 : ((k_WFLaw_law.drop 480).take 40).all (okB 0) = true := by decide +kernel
theorem ok_0_520 : ((k_WFLaw_law.drop 520).take 40).all (okB 0) = true := by decide +kernel
theorem ok_0_560 : ((k_WFLaw_law.drop 560).take 40).all (okB 0) = true := by decide +kernel
theorem ok_0_600 : ((k_WFLaw_law.drop 600).take 40).all (okB 0) = true := by decide +kernel
theorem ok_0_640 : ((k_WFLaw_law.drop 640).take 40).all (okB 0) = true := by decide +kernel
theorem ok_0_680 : (k_WFLaw_law.drop 680).all (okB 0) = true := by decide +kernel
theorem ok_0 : (k_WFLaw_law).all (okB 0) = true := all_dr 0 40 ok_0_0 (all_dr 40 40 ok_0_40 (all_dr 80 40 ok_0_80 (all_dr 120 40 ok_0_120 (all_dr 160 40 ok_0_160 (all_dr 200 40 ok_0_200 (all_dr 240 40 ok_0_240 (all_dr 280 40 ok_0_280 (all_dr 320 40 ok_0_320 (all_dr 360 40 ok_0_360 (all_dr 400 40 ok_0_400 (all_dr 440 40 ok_0_440 (all_dr 480 40 ok_0_480 (all_dr 520 40 ok_0_520 (all_dr 560 40 ok_0_560 (all_dr 600 40 ok_0_600 (all_dr 640 40 ok_0_640 (ok_0_680)))))))))))))))))
