theorem ok_60 : (k_WF_Ground_westOf).all (okB 60) = true := by decide +kernel
theorem ok_61 : (k_WF_Ground_steps).all (okB 61) = true := by decide +kernel
theorem ok_62 : (k_Math_abs).all (okB 62) = true := by decide +kernel
theorem ok_63_0 : ((k_WF_Book_reckon.drop 0).take 40).all (okB 63) = true := by decide +kernel
theorem ok_63_40 : (k_WF_Book_reckon.drop 40).all (okB 63) = true := by decide +kernel
theorem ok_63 : (k_WF_Book_reckon).all (okB 63) = true := all_dr 0 40 ok_63_0 (ok_63_40)
theorem ok_64 : (k_WF_Book_join).all (okB 64) = true := by decide +kernel
theorem ok_65 : (k_WF_Book_cut).all (okB 65) = true := by decide +kernel
theorem ok_66 : (k_WF_Book_single).all (okB 66) = true := by decide +kernel
theorem ok_67 : (k_WF_cell).all (okB 67) = true := by decide +kernel
theorem ok_68 : (k_WF_Ground_isCell).all (okB 68) = true := by decide +kernel
theorem ok_69 : (k_WF_deny).all (okB 69) = true := by decide +kernel
theorem ok_70 : (k_WF_Ground_change).all (okB 70) = true := by decide +kernel
theorem ok_71 : (k_WF_allow).all (okB 71) = true := by decide +kernel
theorem ok_72 : (k_WF_door).all (okB 72) = true := by decide +kernel
theorem ok_73 : (k_WF_Ground_isOwner).all (okB 73) = true := by decide +kernel
theorem ok_74 : (k_WF_Ground_stands).all (okB 74) = true := by decide +kernel
theorem ok_75 : (k_WF_Ground_moveDoor).all (okB 75) = true := by decide +kernel
theorem ok_76 : (k_WF_keep).all (okB 76) = true := by decide +kernel
theorem ok_77 : (k_WF_had).all (okB 77) = true := by decide +kernel
theorem ok_78 : (k_WF_set).all (okB 78) = true := by decide +kernel
theorem ok_79 : (k_WF_value).all (okB 79) = true := by decide +kernel
theorem ok_80 : (k_WF_Ground_price).all (okB 80) = true := by decide +kernel
theorem ok_81 : (k_WF_draw).all (okB 81) = true := by decide +kernel
theorem ok_82 : (k_WF_Drawing_give).all (okB 82) = true := by decide +kernel
theorem ok_83 : (k_WF_whose).all (okB 83) = true := by decide +kernel
theorem ok_84 : (k_WF_sum).all (okB 84) = true := by decide +kernel
theorem ok_85 : (k_WF_Accounts_sumOf).all (okB 85) = true := by decide +kernel
theorem ok_86 : (k_WF_Accounts_fieldSum).all (okB 86) = true := by decide +kernel
theorem ok_87 : (k_WF_total).all (okB 87) = true := by decide +kernel
theorem ok_88 : (k_WF_refuseNumber).all (okB 88) = true := by decide +kernel
theorem ok_89 : (k_WF_Accounts_tell).all (okB 89) = true := by decide +kernel
theorem ok_90 : (k_WF_Accounts_totalOfAll).all (okB 90) = true := by decide +kernel
theorem ok_91 : (k_WF_Accounts_shortOfAll).all (okB 91) = true := by decide +kernel
theorem ok_92 : (k_WF_Accounts_shortBy).all (okB 92) = true := by decide +kernel
theorem ok_93 : (k_WF_Accounts_bound).all (okB 93) = true := by decide +kernel
theorem ok_94 : (k_WF_Ground_isWater).all (okB 94) = true := by decide +kernel
theorem ok_95 : (k_WF_Accounts_greatestPrice).all (okB 95) = true := by decide +kernel
theorem ok_96 : (k_WF_Accounts_envyPairs).all (okB 96) = true := by decide +kernel
theorem ok_97 : (k_WF_Accounts_feelsEnvy).all (okB 97) = true := by decide +kernel
theorem ok_98 : (k_WF_Accounts_yesVotes).all (okB 98) = true := by decide +kernel
theorem ok_99 : (k_WF_Accounts_saysYes).all (okB 99) = true := by decide +kernel
theorem ok_100 : (k_WF_Accounts_borderLength).all (okB 100) = true := by decide +kernel
theorem ok_101 : (k_WF_Drawing_owned).all (okB 101) = true := by decide +kernel
theorem ok_102 : (k_WF_Ground_sidesBetween).all (okB 102) = true := by decide +kernel
theorem ok_103 : (k_Long_bitCount).all (okB 103) = true := by decide +kernel
theorem ok_104 : (k_WF_bars).all (okB 104) = true := by decide +kernel
theorem ok_105_0 : ((k_WF_Drawing_findBar.drop 0).take 40).all (okB 105) = true := by decide +kernel
theorem ok_105_40 : ((k_WF_Drawing_findBar.drop 40).take 40).all (okB 105) = true := by decide +kernel
theorem ok_105_80 : (k_WF_Drawing_findBar.drop 80).all (okB 105) = true := by decide +kernel
theorem ok_105 : (k_WF_Drawing_findBar).all (okB 105) = true := all_dr 0 40 ok_105_0 (all_dr 40 40 ok_105_40 (ok_105_80))
theorem ok_106 : (k_WF_Drawing_free).all (okB 106) = true := by decide +kernel
theorem ok_107 : (k_WF_Ground_least).all (okB 107) = true := by decide +kernel
theorem ok_108 : (k_WF_Drawing_barredBy).all (okB 108) = true := by decide +kernel
theorem ok_109_0 : ((k_WF_Ground_hangsTogether.drop 0).take 40).all (okB 109) = true := by decide +kernel
theorem ok_109_40 : (k_WF_Ground_hangsTogether.drop 40).all (okB 109) = true := by decide +kernel
theorem ok_109 : (k_WF_Ground_hangsTogether).all (okB 109) = true := all_dr 0 40 ok_109_0 (ok_109_40)
