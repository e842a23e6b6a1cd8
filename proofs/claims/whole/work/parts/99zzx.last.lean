/-! The claim -/
set_option maxRecDepth 20000 in
theorem all_calls (L : Nat) : ClAll (Inv L) 1299 8 400 := ⟨call0 L 1298, call1 L 1289, call2 L 1299, call3 L 1299, call4 L 1293, call5 L 1293, call6 L 1294, call7 L 1296, call8 L 1297, call9 L 1297, call10 L 1295, call11 L 1296, call12 L 1297, call13 L 1294, call14 L 1291, call15 L 1294, call16 L 1299, call17 L 1294, call18 L 1294, call19 L 1293, call20 L 1292, call21 L 1293, call22 L 1283, call23 L 1295, call24 L 1294, call25 L 1295, call26 L 1294, call27 L 1299, call28 L 1296, call29 L 1299, call30 L 1293, call31 L 1297, call32 L 1299⟩
theorem law_run : LawRun := run_of_calls all_calls
theorem i_vc : Claimed_1_1 ∧ Claimed_1_2 := of_run law_run
