theorem ok_1_0 : ((k_WF_init.drop 0).take 40).all (okB 1) = true := by decide +kernel
theorem ok_1_40 : (k_WF_init.drop 40).all (okB 1) = true := by decide +kernel
theorem ok_1 : (k_WF_init).all (okB 1) = true := all_dr 0 40 ok_1_0 (ok_1_40)
theorem ok_2 : (k_WF_Reader_init).all (okB 2) = true := by decide +kernel
theorem ok_3 : (k_WF_Book_init).all (okB 3) = true := by decide +kernel
theorem ok_4 : (k_WF_Scanner_init).all (okB 4) = true := by decide +kernel
theorem ok_5 : (k_WF_Ground_init).all (okB 5) = true := by decide +kernel
theorem ok_6 : (k_WF_Drawing_init).all (okB 6) = true := by decide +kernel
theorem ok_7 : (k_WF_Accounts_init).all (okB 7) = true := by decide +kernel
theorem ok_8 : (k_WF_Mover_init).all (okB 8) = true := by decide +kernel
theorem ok_9 : (k_WF_Finder_init).all (okB 9) = true := by decide +kernel
theorem ok_10 : (k_WF_Walker_init).all (okB 10) = true := by decide +kernel
theorem ok_11 : (k_WF_Splitter_init).all (okB 11) = true := by decide +kernel
theorem ok_12 : (k_WF_Ditcher_init).all (okB 12) = true := by decide +kernel
theorem ok_13 : (k_WF_forgetGround).all (okB 13) = true := by decide +kernel
theorem ok_14 : (k_WF_Drawing_wipe).all (okB 14) = true := by decide +kernel
theorem ok_15 : (k_Arrays_fill).all (okB 15) = true := by decide +kernel
theorem ok_16 : (k_Arrays_fill2).all (okB 16) = true := by decide +kernel
theorem ok_17 : (k_WF_feed).all (okB 17) = true := by decide +kernel
theorem ok_18 : (k_WF_putFour).all (okB 18) = true := by decide +kernel
theorem ok_19 : (k_WF_book).all (okB 19) = true := by decide +kernel
theorem ok_20 : (k_WF_refuse).all (okB 20) = true := by decide +kernel
theorem ok_21 : (k_WF_Reader_read).all (okB 21) = true := by decide +kernel
theorem ok_22 : (k_WF_Book_begin).all (okB 22) = true := by decide +kernel
theorem ok_23 : (k_WF_Scanner_begin).all (okB 23) = true := by decide +kernel
theorem ok_24 : (k_Math_min).all (okB 24) = true := by decide +kernel
theorem ok_25 : (k_Math_max).all (okB 25) = true := by decide +kernel
theorem ok_26_0 : ((k_WF_Scanner_advance.drop 0).take 40).all (okB 26) = true := by decide +kernel
theorem ok_26_40 : (k_WF_Scanner_advance.drop 40).all (okB 26) = true := by decide +kernel
theorem ok_26 : (k_WF_Scanner_advance).all (okB 26) = true := all_dr 0 40 ok_26_0 (ok_26_40)
theorem ok_27 : (k_WF_Scanner_isLetter).all (okB 27) = true := by decide +kernel
theorem ok_28 : (k_WF_Scanner_readWord).all (okB 28) = true := by decide +kernel
theorem ok_29 : (k_WF_Scanner_isDigit).all (okB 29) = true := by decide +kernel
theorem ok_30 : (k_WF_Scanner_readWhole).all (okB 30) = true := by decide +kernel
theorem ok_31 : (k_WF_Scanner_isSign).all (okB 31) = true := by decide +kernel
theorem ok_32 : (k_WF_Reader_takeToken).all (okB 32) = true := by decide +kernel
theorem ok_33 : (k_WF_Reader_goOn).all (okB 33) = true := by decide +kernel
theorem ok_34 : (k_WF_Reader_fail).all (okB 34) = true := by decide +kernel
theorem ok_35_0 : ((k_WF_Reader_takeName.drop 0).take 40).all (okB 35) = true := by decide +kernel
theorem ok_35_40 : (k_WF_Reader_takeName.drop 40).all (okB 35) = true := by decide +kernel
theorem ok_35 : (k_WF_Reader_takeName).all (okB 35) = true := all_dr 0 40 ok_35_0 (ok_35_40)
theorem ok_36 : (k_WF_Reader_stepOf).all (okB 36) = true := by decide +kernel
theorem ok_37 : (k_WF_Reader_isNameTold).all (okB 37) = true := by decide +kernel
theorem ok_38 : (k_WF_Book_addOwner).all (okB 38) = true := by decide +kernel
theorem ok_39 : (k_WF_Reader_beginWorth).all (okB 39) = true := by decide +kernel
theorem ok_40 : (k_WF_Reader_takeFactor).all (okB 40) = true := by decide +kernel
theorem ok_41 : (k_WF_Reader_beginFactor).all (okB 41) = true := by decide +kernel
theorem ok_42 : (k_WF_Reader_openWorth).all (okB 42) = true := by decide +kernel
theorem ok_43 : (k_WF_Book_addStep).all (okB 43) = true := by decide +kernel
theorem ok_44 : (k_WF_Reader_takeOpen).all (okB 44) = true := by decide +kernel
theorem ok_45_0 : ((k_WF_Reader_takeBehindFactor.drop 0).take 40).all (okB 45) = true := by decide +kernel
theorem ok_45_40 : ((k_WF_Reader_takeBehindFactor.drop 40).take 40).all (okB 45) = true := by decide +kernel
theorem ok_45_80 : (k_WF_Reader_takeBehindFactor.drop 80).all (okB 45) = true := by decide +kernel
theorem ok_45 : (k_WF_Reader_takeBehindFactor).all (okB 45) = true := all_dr 0 40 ok_45_0 (all_dr 40 40 ok_45_40 (ok_45_80))
theorem ok_46 : (k_WF_Reader_endFactor).all (okB 46) = true := by decide +kernel
theorem ok_47 : (k_WF_Reader_endTerm).all (okB 47) = true := by decide +kernel
theorem ok_48 : (k_WF_Reader_closeWorth).all (okB 48) = true := by decide +kernel
theorem ok_49 : (k_WF_Scanner_isAtEnd).all (okB 49) = true := by decide +kernel
theorem ok_50 : (k_WF_Ground_leave).all (okB 50) = true := by decide +kernel
theorem ok_51 : (k_WF_pass).all (okB 51) = true := by decide +kernel
theorem ok_52 : (k_WF_fault).all (okB 52) = true := by decide +kernel
theorem ok_53 : (k_WF_where).all (okB 53) = true := by decide +kernel
theorem ok_54 : (k_WF_ground).all (okB 54) = true := by decide +kernel
theorem ok_55_0 : ((k_WF_Ground_lay.drop 0).take 40).all (okB 55) = true := by decide +kernel
theorem ok_55_40 : (k_WF_Ground_lay.drop 40).all (okB 55) = true := by decide +kernel
theorem ok_55 : (k_WF_Ground_lay).all (okB 55) = true := all_dr 0 40 ok_55_0 (ok_55_40)
theorem ok_56 : (k_WF_Ground_reckonPrices).all (okB 56) = true := by decide +kernel
theorem ok_57 : (k_WF_Ground_reckonPricesTo).all (okB 57) = true := by decide +kernel
theorem ok_58 : (k_WF_Ground_beside).all (okB 58) = true := by decide +kernel
theorem ok_59 : (k_WF_Ground_eastOf).all (okB 59) = true := by decide +kernel
