section
-- ===== PART A: goes FIRST, ahead of the names: the tables' words, and 'selects' of the private methods out of them =====
/-- a private method of a class that the tables say can be made, by its rows of tables_1 -/
def lw_okq (q : MethodName × Nat) : Prop := (q.1.cls ≠ "java/lang/invoke/MethodHandle" ∧ q.1.cls ≠ "java/lang/invoke/VarHandle") ∧ Cond.instantiable q.1.cls q.2 ∈ tables_1 ∧ Cond.privateMethod q.1 ∈ tables_1 ∧ Cond.instanceMethod q.1 ∈ tables_1
theorem lw_p0 : lw_okq (⟨"WholeFields", "forgetGround", "()V"⟩, 16) := ⟨⟨by decide +kernel, by decide +kernel⟩, List.mem_of_getElem? (i := 30) (by decide +kernel), List.mem_of_getElem? (i := 459) (by decide +kernel), List.mem_of_getElem? (i := 460) (by decide +kernel)⟩
theorem lw_p1 : lw_okq (⟨"WholeFields", "putFour", "(I)V"⟩, 16) := ⟨⟨by decide +kernel, by decide +kernel⟩, List.mem_of_getElem? (i := 30) (by decide +kernel), List.mem_of_getElem? (i := 526) (by decide +kernel), List.mem_of_getElem? (i := 527) (by decide +kernel)⟩
theorem lw_p2 : lw_okq (⟨"WholeFields", "refuse", "(I)I"⟩, 16) := ⟨⟨by decide +kernel, by decide +kernel⟩, List.mem_of_getElem? (i := 30) (by decide +kernel), List.mem_of_getElem? (i := 534) (by decide +kernel), List.mem_of_getElem? (i := 535) (by decide +kernel)⟩
theorem lw_p3 : lw_okq (⟨"WholeFields$Scanner", "readWord", "()V"⟩, 7) := ⟨⟨by decide +kernel, by decide +kernel⟩, List.mem_of_getElem? (i := 73) (by decide +kernel), List.mem_of_getElem? (i := 563) (by decide +kernel), List.mem_of_getElem? (i := 564) (by decide +kernel)⟩
theorem lw_p4 : lw_okq (⟨"WholeFields$Scanner", "readWhole", "()V"⟩, 7) := ⟨⟨by decide +kernel, by decide +kernel⟩, List.mem_of_getElem? (i := 73) (by decide +kernel), List.mem_of_getElem? (i := 570) (by decide +kernel), List.mem_of_getElem? (i := 571) (by decide +kernel)⟩
theorem lw_p5 : lw_okq (⟨"WholeFields$Reader", "takeToken", "()V"⟩, 13) := ⟨⟨by decide +kernel, by decide +kernel⟩, List.mem_of_getElem? (i := 38) (by decide +kernel), List.mem_of_getElem? (i := 577) (by decide +kernel), List.mem_of_getElem? (i := 578) (by decide +kernel)⟩
theorem lw_p6 : lw_okq (⟨"WholeFields$Reader", "goOn", "(ZI)V"⟩, 13) := ⟨⟨by decide +kernel, by decide +kernel⟩, List.mem_of_getElem? (i := 38) (by decide +kernel), List.mem_of_getElem? (i := 582) (by decide +kernel), List.mem_of_getElem? (i := 583) (by decide +kernel)⟩
theorem lw_p7 : lw_okq (⟨"WholeFields$Reader", "fail", "(I)V"⟩, 13) := ⟨⟨by decide +kernel, by decide +kernel⟩, List.mem_of_getElem? (i := 38) (by decide +kernel), List.mem_of_getElem? (i := 586) (by decide +kernel), List.mem_of_getElem? (i := 587) (by decide +kernel)⟩
theorem lw_p8 : lw_okq (⟨"WholeFields$Reader", "takeName", "()V"⟩, 13) := ⟨⟨by decide +kernel, by decide +kernel⟩, List.mem_of_getElem? (i := 38) (by decide +kernel), List.mem_of_getElem? (i := 590) (by decide +kernel), List.mem_of_getElem? (i := 591) (by decide +kernel)⟩
theorem lw_p9 : lw_okq (⟨"WholeFields$Reader", "isNameTold", "(J)Z"⟩, 13) := ⟨⟨by decide +kernel, by decide +kernel⟩, List.mem_of_getElem? (i := 38) (by decide +kernel), List.mem_of_getElem? (i := 604) (by decide +kernel), List.mem_of_getElem? (i := 605) (by decide +kernel)⟩
theorem lw_p10 : lw_okq (⟨"WholeFields$Reader", "beginWorth", "(IZ)V"⟩, 13) := ⟨⟨by decide +kernel, by decide +kernel⟩, List.mem_of_getElem? (i := 38) (by decide +kernel), List.mem_of_getElem? (i := 612) (by decide +kernel), List.mem_of_getElem? (i := 613) (by decide +kernel)⟩
theorem lw_p11 : lw_okq (⟨"WholeFields$Reader", "takeFactor", "()V"⟩, 13) := ⟨⟨by decide +kernel, by decide +kernel⟩, List.mem_of_getElem? (i := 38) (by decide +kernel), List.mem_of_getElem? (i := 616) (by decide +kernel), List.mem_of_getElem? (i := 617) (by decide +kernel)⟩
theorem lw_p12 : lw_okq (⟨"WholeFields$Reader", "beginFactor", "(I)V"⟩, 13) := ⟨⟨by decide +kernel, by decide +kernel⟩, List.mem_of_getElem? (i := 38) (by decide +kernel), List.mem_of_getElem? (i := 620) (by decide +kernel), List.mem_of_getElem? (i := 621) (by decide +kernel)⟩
theorem lw_p13 : lw_okq (⟨"WholeFields$Reader", "openWorth", "(I)V"⟩, 13) := ⟨⟨by decide +kernel, by decide +kernel⟩, List.mem_of_getElem? (i := 38) (by decide +kernel), List.mem_of_getElem? (i := 624) (by decide +kernel), List.mem_of_getElem? (i := 625) (by decide +kernel)⟩
theorem lw_p14 : lw_okq (⟨"WholeFields$Reader", "takeOpen", "()V"⟩, 13) := ⟨⟨by decide +kernel, by decide +kernel⟩, List.mem_of_getElem? (i := 38) (by decide +kernel), List.mem_of_getElem? (i := 632) (by decide +kernel), List.mem_of_getElem? (i := 633) (by decide +kernel)⟩
theorem lw_p15 : lw_okq (⟨"WholeFields$Reader", "takeBehindFactor", "()V"⟩, 13) := ⟨⟨by decide +kernel, by decide +kernel⟩, List.mem_of_getElem? (i := 38) (by decide +kernel), List.mem_of_getElem? (i := 636) (by decide +kernel), List.mem_of_getElem? (i := 637) (by decide +kernel)⟩
def lw_privs_1 : List (MethodName × Nat) := [(⟨"WholeFields", "forgetGround", "()V"⟩, 16), (⟨"WholeFields", "putFour", "(I)V"⟩, 16), (⟨"WholeFields", "refuse", "(I)I"⟩, 16), (⟨"WholeFields$Scanner", "readWord", "()V"⟩, 7), (⟨"WholeFields$Scanner", "readWhole", "()V"⟩, 7), (⟨"WholeFields$Reader", "takeToken", "()V"⟩, 13), (⟨"WholeFields$Reader", "goOn", "(ZI)V"⟩, 13), (⟨"WholeFields$Reader", "fail", "(I)V"⟩, 13), (⟨"WholeFields$Reader", "takeName", "()V"⟩, 13), (⟨"WholeFields$Reader", "isNameTold", "(J)Z"⟩, 13), (⟨"WholeFields$Reader", "beginWorth", "(IZ)V"⟩, 13), (⟨"WholeFields$Reader", "takeFactor", "()V"⟩, 13), (⟨"WholeFields$Reader", "beginFactor", "(I)V"⟩, 13), (⟨"WholeFields$Reader", "openWorth", "(I)V"⟩, 13), (⟨"WholeFields$Reader", "takeOpen", "()V"⟩, 13), (⟨"WholeFields$Reader", "takeBehindFactor", "()V"⟩, 13)]
theorem lw_r1 : ∀ q ∈ lw_privs_1, lw_okq q := List.forall_mem_cons.mpr ⟨lw_p0, List.forall_mem_cons.mpr ⟨lw_p1, List.forall_mem_cons.mpr ⟨lw_p2, List.forall_mem_cons.mpr ⟨lw_p3, List.forall_mem_cons.mpr ⟨lw_p4, List.forall_mem_cons.mpr ⟨lw_p5, List.forall_mem_cons.mpr ⟨lw_p6, List.forall_mem_cons.mpr ⟨lw_p7, List.forall_mem_cons.mpr ⟨lw_p8, List.forall_mem_cons.mpr ⟨lw_p9, List.forall_mem_cons.mpr ⟨lw_p10, List.forall_mem_cons.mpr ⟨lw_p11, List.forall_mem_cons.mpr ⟨lw_p12, List.forall_mem_cons.mpr ⟨lw_p13, List.forall_mem_cons.mpr ⟨lw_p14, List.forall_mem_cons.mpr ⟨lw_p15, fun _ h => absurd h List.not_mem_nil⟩⟩⟩⟩⟩⟩⟩⟩⟩⟩⟩⟩⟩⟩⟩⟩
theorem lw_p16 : lw_okq (⟨"WholeFields$Reader", "endFactor", "()V"⟩, 13) := ⟨⟨by decide +kernel, by decide +kernel⟩, List.mem_of_getElem? (i := 38) (by decide +kernel), List.mem_of_getElem? (i := 640) (by decide +kernel), List.mem_of_getElem? (i := 641) (by decide +kernel)⟩
theorem lw_p17 : lw_okq (⟨"WholeFields$Reader", "endTerm", "()V"⟩, 13) := ⟨⟨by decide +kernel, by decide +kernel⟩, List.mem_of_getElem? (i := 38) (by decide +kernel), List.mem_of_getElem? (i := 644) (by decide +kernel), List.mem_of_getElem? (i := 645) (by decide +kernel)⟩
theorem lw_p18 : lw_okq (⟨"WholeFields$Reader", "closeWorth", "()V"⟩, 13) := ⟨⟨by decide +kernel, by decide +kernel⟩, List.mem_of_getElem? (i := 38) (by decide +kernel), List.mem_of_getElem? (i := 648) (by decide +kernel), List.mem_of_getElem? (i := 649) (by decide +kernel)⟩
theorem lw_p19 : lw_okq (⟨"WholeFields", "pass", "(I)I"⟩, 16) := ⟨⟨by decide +kernel, by decide +kernel⟩, List.mem_of_getElem? (i := 30) (by decide +kernel), List.mem_of_getElem? (i := 661) (by decide +kernel), List.mem_of_getElem? (i := 662) (by decide +kernel)⟩
theorem lw_p20 : lw_okq (⟨"WholeFields$Ground", "reckonPrices", "(J)V"⟩, 16) := ⟨⟨by decide +kernel, by decide +kernel⟩, List.mem_of_getElem? (i := 149) (by decide +kernel), List.mem_of_getElem? (i := 683) (by decide +kernel), List.mem_of_getElem? (i := 684) (by decide +kernel)⟩
theorem lw_p21 : lw_okq (⟨"WholeFields$Ground", "reckonPricesTo", "(IJ)V"⟩, 16) := ⟨⟨by decide +kernel, by decide +kernel⟩, List.mem_of_getElem? (i := 149) (by decide +kernel), List.mem_of_getElem? (i := 687) (by decide +kernel), List.mem_of_getElem? (i := 688) (by decide +kernel)⟩
theorem lw_p22 : lw_okq (⟨"WholeFields$Ground", "eastOf", "(J)J"⟩, 16) := ⟨⟨by decide +kernel, by decide +kernel⟩, List.mem_of_getElem? (i := 149) (by decide +kernel), List.mem_of_getElem? (i := 695) (by decide +kernel), List.mem_of_getElem? (i := 696) (by decide +kernel)⟩
theorem lw_p23 : lw_okq (⟨"WholeFields$Ground", "westOf", "(J)J"⟩, 16) := ⟨⟨by decide +kernel, by decide +kernel⟩, List.mem_of_getElem? (i := 149) (by decide +kernel), List.mem_of_getElem? (i := 699) (by decide +kernel), List.mem_of_getElem? (i := 700) (by decide +kernel)⟩
theorem lw_p24 : lw_okq (⟨"WholeFields", "deny", "(I)Z"⟩, 16) := ⟨⟨by decide +kernel, by decide +kernel⟩, List.mem_of_getElem? (i := 30) (by decide +kernel), List.mem_of_getElem? (i := 733) (by decide +kernel), List.mem_of_getElem? (i := 734) (by decide +kernel)⟩
theorem lw_p25 : lw_okq (⟨"WholeFields", "allow", "()Z"⟩, 16) := ⟨⟨by decide +kernel, by decide +kernel⟩, List.mem_of_getElem? (i := 30) (by decide +kernel), List.mem_of_getElem? (i := 741) (by decide +kernel), List.mem_of_getElem? (i := 742) (by decide +kernel)⟩
theorem lw_p26 : lw_okq (⟨"WholeFields$Accounts", "fieldSum", "(IJ)I"⟩, 2) := ⟨⟨by decide +kernel, by decide +kernel⟩, List.mem_of_getElem? (i := 268) (by decide +kernel), List.mem_of_getElem? (i := 805) (by decide +kernel), List.mem_of_getElem? (i := 806) (by decide +kernel)⟩
theorem lw_p27 : lw_okq (⟨"WholeFields", "refuseNumber", "(I)I"⟩, 16) := ⟨⟨by decide +kernel, by decide +kernel⟩, List.mem_of_getElem? (i := 30) (by decide +kernel), List.mem_of_getElem? (i := 814) (by decide +kernel), List.mem_of_getElem? (i := 815) (by decide +kernel)⟩
theorem lw_p28 : lw_okq (⟨"WholeFields$Accounts", "totalOfAll", "()I"⟩, 2) := ⟨⟨by decide +kernel, by decide +kernel⟩, List.mem_of_getElem? (i := 268) (by decide +kernel), List.mem_of_getElem? (i := 822) (by decide +kernel), List.mem_of_getElem? (i := 823) (by decide +kernel)⟩
theorem lw_p29 : lw_okq (⟨"WholeFields$Accounts", "shortOfAll", "()I"⟩, 2) := ⟨⟨by decide +kernel, by decide +kernel⟩, List.mem_of_getElem? (i := 268) (by decide +kernel), List.mem_of_getElem? (i := 827) (by decide +kernel), List.mem_of_getElem? (i := 828) (by decide +kernel)⟩
theorem lw_p30 : lw_okq (⟨"WholeFields$Accounts", "bound", "()I"⟩, 2) := ⟨⟨by decide +kernel, by decide +kernel⟩, List.mem_of_getElem? (i := 268) (by decide +kernel), List.mem_of_getElem? (i := 835) (by decide +kernel), List.mem_of_getElem? (i := 836) (by decide +kernel)⟩
theorem lw_p31 : lw_okq (⟨"WholeFields$Accounts", "greatestPrice", "(I)I"⟩, 2) := ⟨⟨by decide +kernel, by decide +kernel⟩, List.mem_of_getElem? (i := 268) (by decide +kernel), List.mem_of_getElem? (i := 843) (by decide +kernel), List.mem_of_getElem? (i := 844) (by decide +kernel)⟩
def lw_privs_2 : List (MethodName × Nat) := [(⟨"WholeFields$Reader", "endFactor", "()V"⟩, 13), (⟨"WholeFields$Reader", "endTerm", "()V"⟩, 13), (⟨"WholeFields$Reader", "closeWorth", "()V"⟩, 13), (⟨"WholeFields", "pass", "(I)I"⟩, 16), (⟨"WholeFields$Ground", "reckonPrices", "(J)V"⟩, 16), (⟨"WholeFields$Ground", "reckonPricesTo", "(IJ)V"⟩, 16), (⟨"WholeFields$Ground", "eastOf", "(J)J"⟩, 16), (⟨"WholeFields$Ground", "westOf", "(J)J"⟩, 16), (⟨"WholeFields", "deny", "(I)Z"⟩, 16), (⟨"WholeFields", "allow", "()Z"⟩, 16), (⟨"WholeFields$Accounts", "fieldSum", "(IJ)I"⟩, 2), (⟨"WholeFields", "refuseNumber", "(I)I"⟩, 16), (⟨"WholeFields$Accounts", "totalOfAll", "()I"⟩, 2), (⟨"WholeFields$Accounts", "shortOfAll", "()I"⟩, 2), (⟨"WholeFields$Accounts", "bound", "()I"⟩, 2), (⟨"WholeFields$Accounts", "greatestPrice", "(I)I"⟩, 2)]
theorem lw_r2 : ∀ q ∈ lw_privs_2, lw_okq q := List.forall_mem_cons.mpr ⟨lw_p16, List.forall_mem_cons.mpr ⟨lw_p17, List.forall_mem_cons.mpr ⟨lw_p18, List.forall_mem_cons.mpr ⟨lw_p19, List.forall_mem_cons.mpr ⟨lw_p20, List.forall_mem_cons.mpr ⟨lw_p21, List.forall_mem_cons.mpr ⟨lw_p22, List.forall_mem_cons.mpr ⟨lw_p23, List.forall_mem_cons.mpr ⟨lw_p24, List.forall_mem_cons.mpr ⟨lw_p25, List.forall_mem_cons.mpr ⟨lw_p26, List.forall_mem_cons.mpr ⟨lw_p27, List.forall_mem_cons.mpr ⟨lw_p28, List.forall_mem_cons.mpr ⟨lw_p29, List.forall_mem_cons.mpr ⟨lw_p30, List.forall_mem_cons.mpr ⟨lw_p31, fun _ h => absurd h List.not_mem_nil⟩⟩⟩⟩⟩⟩⟩⟩⟩⟩⟩⟩⟩⟩⟩⟩
theorem lw_p32 : lw_okq (⟨"WholeFields$Accounts", "envyPairs", "()I"⟩, 2) := ⟨⟨by decide +kernel, by decide +kernel⟩, List.mem_of_getElem? (i := 268) (by decide +kernel), List.mem_of_getElem? (i := 848) (by decide +kernel), List.mem_of_getElem? (i := 849) (by decide +kernel)⟩
theorem lw_p33 : lw_okq (⟨"WholeFields$Accounts", "yesVotes", "()I"⟩, 2) := ⟨⟨by decide +kernel, by decide +kernel⟩, List.mem_of_getElem? (i := 268) (by decide +kernel), List.mem_of_getElem? (i := 856) (by decide +kernel), List.mem_of_getElem? (i := 857) (by decide +kernel)⟩
theorem lw_p34 : lw_okq (⟨"WholeFields$Accounts", "borderLength", "()I"⟩, 2) := ⟨⟨by decide +kernel, by decide +kernel⟩, List.mem_of_getElem? (i := 268) (by decide +kernel), List.mem_of_getElem? (i := 865) (by decide +kernel), List.mem_of_getElem? (i := 866) (by decide +kernel)⟩
theorem lw_p35 : lw_okq (⟨"WholeFields$Drawing", "barredBy", "(II)I"⟩, 4) := ⟨⟨by decide +kernel, by decide +kernel⟩, List.mem_of_getElem? (i := 241) (by decide +kernel), List.mem_of_getElem? (i := 900) (by decide +kernel), List.mem_of_getElem? (i := 901) (by decide +kernel)⟩
theorem lw_p36 : lw_okq (⟨"WholeFields$Drawing", "thinOfAll", "()J"⟩, 4) := ⟨⟨by decide +kernel, by decide +kernel⟩, List.mem_of_getElem? (i := 241) (by decide +kernel), List.mem_of_getElem? (i := 908) (by decide +kernel), List.mem_of_getElem? (i := 909) (by decide +kernel)⟩
theorem lw_p37 : lw_okq (⟨"WholeFields$Drawing", "giveKept", "()V"⟩, 4) := ⟨⟨by decide +kernel, by decide +kernel⟩, List.mem_of_getElem? (i := 241) (by decide +kernel), List.mem_of_getElem? (i := 939) (by decide +kernel), List.mem_of_getElem? (i := 940) (by decide +kernel)⟩
theorem lw_p38 : lw_okq (⟨"WholeFields$Drawing", "giveDoors", "()V"⟩, 4) := ⟨⟨by decide +kernel, by decide +kernel⟩, List.mem_of_getElem? (i := 241) (by decide +kernel), List.mem_of_getElem? (i := 944) (by decide +kernel), List.mem_of_getElem? (i := 945) (by decide +kernel)⟩
theorem lw_p39 : lw_okq (⟨"WholeFields$Drawing", "takeOne", "(I)Z"⟩, 4) := ⟨⟨by decide +kernel, by decide +kernel⟩, List.mem_of_getElem? (i := 241) (by decide +kernel), List.mem_of_getElem? (i := 949) (by decide +kernel), List.mem_of_getElem? (i := 950) (by decide +kernel)⟩
theorem lw_p40 : lw_okq (⟨"WholeFields$Mover", "mayMove", "(I)Z"⟩, 11) := ⟨⟨by decide +kernel, by decide +kernel⟩, List.mem_of_getElem? (i := 281) (by decide +kernel), List.mem_of_getElem? (i := 971) (by decide +kernel), List.mem_of_getElem? (i := 972) (by decide +kernel)⟩
theorem lw_p41 : lw_okq (⟨"WholeFields$Mover", "tryOwners", "(I)V"⟩, 11) := ⟨⟨by decide +kernel, by decide +kernel⟩, List.mem_of_getElem? (i := 281) (by decide +kernel), List.mem_of_getElem? (i := 976) (by decide +kernel), List.mem_of_getElem? (i := 977) (by decide +kernel)⟩
theorem lw_p42 : lw_okq (⟨"WholeFields$Mover", "improves", "(IIII)Z"⟩, 11) := ⟨⟨by decide +kernel, by decide +kernel⟩, List.mem_of_getElem? (i := 281) (by decide +kernel), List.mem_of_getElem? (i := 981) (by decide +kernel), List.mem_of_getElem? (i := 982) (by decide +kernel)⟩
theorem lw_p43 : lw_okq (⟨"WholeFields$Mover", "shortBehind", "(IIII)I"⟩, 11) := ⟨⟨by decide +kernel, by decide +kernel⟩, List.mem_of_getElem? (i := 281) (by decide +kernel), List.mem_of_getElem? (i := 985) (by decide +kernel), List.mem_of_getElem? (i := 986) (by decide +kernel)⟩
theorem lw_p44 : lw_okq (⟨"WholeFields$Mover", "isLawful", "(IIJ)Z"⟩, 11) := ⟨⟨by decide +kernel, by decide +kernel⟩, List.mem_of_getElem? (i := 281) (by decide +kernel), List.mem_of_getElem? (i := 989) (by decide +kernel), List.mem_of_getElem? (i := 990) (by decide +kernel)⟩
theorem lw_p45 : lw_okq (⟨"WholeFields$Mover", "hold", "(IIII)V"⟩, 11) := ⟨⟨by decide +kernel, by decide +kernel⟩, List.mem_of_getElem? (i := 281) (by decide +kernel), List.mem_of_getElem? (i := 999) (by decide +kernel), List.mem_of_getElem? (i := 1000) (by decide +kernel)⟩
theorem lw_p46 : lw_okq (⟨"WholeFields$Mover", "tryCells", "(I)V"⟩, 11) := ⟨⟨by decide +kernel, by decide +kernel⟩, List.mem_of_getElem? (i := 281) (by decide +kernel), List.mem_of_getElem? (i := 1003) (by decide +kernel), List.mem_of_getElem? (i := 1004) (by decide +kernel)⟩
theorem lw_p47 : lw_okq (⟨"WholeFields$Mover", "make", "()V"⟩, 11) := ⟨⟨by decide +kernel, by decide +kernel⟩, List.mem_of_getElem? (i := 281) (by decide +kernel), List.mem_of_getElem? (i := 1007) (by decide +kernel), List.mem_of_getElem? (i := 1008) (by decide +kernel)⟩
def lw_privs_3 : List (MethodName × Nat) := [(⟨"WholeFields$Accounts", "envyPairs", "()I"⟩, 2), (⟨"WholeFields$Accounts", "yesVotes", "()I"⟩, 2), (⟨"WholeFields$Accounts", "borderLength", "()I"⟩, 2), (⟨"WholeFields$Drawing", "barredBy", "(II)I"⟩, 4), (⟨"WholeFields$Drawing", "thinOfAll", "()J"⟩, 4), (⟨"WholeFields$Drawing", "giveKept", "()V"⟩, 4), (⟨"WholeFields$Drawing", "giveDoors", "()V"⟩, 4), (⟨"WholeFields$Drawing", "takeOne", "(I)Z"⟩, 4), (⟨"WholeFields$Mover", "mayMove", "(I)Z"⟩, 11), (⟨"WholeFields$Mover", "tryOwners", "(I)V"⟩, 11), (⟨"WholeFields$Mover", "improves", "(IIII)Z"⟩, 11), (⟨"WholeFields$Mover", "shortBehind", "(IIII)I"⟩, 11), (⟨"WholeFields$Mover", "isLawful", "(IIJ)Z"⟩, 11), (⟨"WholeFields$Mover", "hold", "(IIII)V"⟩, 11), (⟨"WholeFields$Mover", "tryCells", "(I)V"⟩, 11), (⟨"WholeFields$Mover", "make", "()V"⟩, 11)]
theorem lw_r3 : ∀ q ∈ lw_privs_3, lw_okq q := List.forall_mem_cons.mpr ⟨lw_p32, List.forall_mem_cons.mpr ⟨lw_p33, List.forall_mem_cons.mpr ⟨lw_p34, List.forall_mem_cons.mpr ⟨lw_p35, List.forall_mem_cons.mpr ⟨lw_p36, List.forall_mem_cons.mpr ⟨lw_p37, List.forall_mem_cons.mpr ⟨lw_p38, List.forall_mem_cons.mpr ⟨lw_p39, List.forall_mem_cons.mpr ⟨lw_p40, List.forall_mem_cons.mpr ⟨lw_p41, List.forall_mem_cons.mpr ⟨lw_p42, List.forall_mem_cons.mpr ⟨lw_p43, List.forall_mem_cons.mpr ⟨lw_p44, List.forall_mem_cons.mpr ⟨lw_p45, List.forall_mem_cons.mpr ⟨lw_p46, List.forall_mem_cons.mpr ⟨lw_p47, fun _ h => absurd h List.not_mem_nil⟩⟩⟩⟩⟩⟩⟩⟩⟩⟩⟩⟩⟩⟩⟩⟩
theorem lw_p48 : lw_okq (⟨"WholeFields$Finder", "gatherCells", "()Z"⟩, 16) := ⟨⟨by decide +kernel, by decide +kernel⟩, List.mem_of_getElem? (i := 321) (by decide +kernel), List.mem_of_getElem? (i := 1034) (by decide +kernel), List.mem_of_getElem? (i := 1035) (by decide +kernel)⟩
theorem lw_p49 : lw_okq (⟨"WholeFields$Finder", "gatherHopes", "()V"⟩, 16) := ⟨⟨by decide +kernel, by decide +kernel⟩, List.mem_of_getElem? (i := 321) (by decide +kernel), List.mem_of_getElem? (i := 1039) (by decide +kernel), List.mem_of_getElem? (i := 1040) (by decide +kernel)⟩
theorem lw_p50 : lw_okq (⟨"WholeFields$Finder", "mayHave", "(II)Z"⟩, 16) := ⟨⟨by decide +kernel, by decide +kernel⟩, List.mem_of_getElem? (i := 321) (by decide +kernel), List.mem_of_getElem? (i := 1044) (by decide +kernel), List.mem_of_getElem? (i := 1045) (by decide +kernel)⟩
theorem lw_p51 : lw_okq (⟨"WholeFields$Finder", "descend", "(I)V"⟩, 16) := ⟨⟨by decide +kernel, by decide +kernel⟩, List.mem_of_getElem? (i := 321) (by decide +kernel), List.mem_of_getElem? (i := 1050) (by decide +kernel), List.mem_of_getElem? (i := 1051) (by decide +kernel)⟩
theorem lw_p52 : lw_okq (⟨"WholeFields$Finder", "isHopeful", "(I)Z"⟩, 16) := ⟨⟨by decide +kernel, by decide +kernel⟩, List.mem_of_getElem? (i := 321) (by decide +kernel), List.mem_of_getElem? (i := 1054) (by decide +kernel), List.mem_of_getElem? (i := 1055) (by decide +kernel)⟩
theorem lw_p53 : lw_okq (⟨"WholeFields$Finder", "weigh", "()V"⟩, 16) := ⟨⟨by decide +kernel, by decide +kernel⟩, List.mem_of_getElem? (i := 321) (by decide +kernel), List.mem_of_getElem? (i := 1058) (by decide +kernel), List.mem_of_getElem? (i := 1059) (by decide +kernel)⟩
theorem lw_p54 : lw_okq (⟨"WholeFields$Finder", "envyPairs", "()I"⟩, 16) := ⟨⟨by decide +kernel, by decide +kernel⟩, List.mem_of_getElem? (i := 321) (by decide +kernel), List.mem_of_getElem? (i := 1062) (by decide +kernel), List.mem_of_getElem? (i := 1063) (by decide +kernel)⟩
theorem lw_p55 : lw_okq (⟨"WholeFields$Finder", "isBest", "(III)Z"⟩, 16) := ⟨⟨by decide +kernel, by decide +kernel⟩, List.mem_of_getElem? (i := 321) (by decide +kernel), List.mem_of_getElem? (i := 1066) (by decide +kernel), List.mem_of_getElem? (i := 1067) (by decide +kernel)⟩
theorem lw_p56 : lw_okq (⟨"WholeFields$Finder", "areLawful", "()Z"⟩, 16) := ⟨⟨by decide +kernel, by decide +kernel⟩, List.mem_of_getElem? (i := 321) (by decide +kernel), List.mem_of_getElem? (i := 1070) (by decide +kernel), List.mem_of_getElem? (i := 1071) (by decide +kernel)⟩
theorem lw_p57 : lw_okq (⟨"WholeFields$Finder", "turn", "(III)V"⟩, 16) := ⟨⟨by decide +kernel, by decide +kernel⟩, List.mem_of_getElem? (i := 321) (by decide +kernel), List.mem_of_getElem? (i := 1078) (by decide +kernel), List.mem_of_getElem? (i := 1079) (by decide +kernel)⟩
theorem lw_p58 : lw_okq (⟨"WholeFields$Walker", "mark", "(II)V"⟩, 5) := ⟨⟨by decide +kernel, by decide +kernel⟩, List.mem_of_getElem? (i := 377) (by decide +kernel), List.mem_of_getElem? (i := 1094) (by decide +kernel), List.mem_of_getElem? (i := 1095) (by decide +kernel)⟩
theorem lw_p59 : lw_okq (⟨"WholeFields$Walker", "turnAt", "(III)I"⟩, 5) := ⟨⟨by decide +kernel, by decide +kernel⟩, List.mem_of_getElem? (i := 377) (by decide +kernel), List.mem_of_getElem? (i := 1102) (by decide +kernel), List.mem_of_getElem? (i := 1103) (by decide +kernel)⟩
theorem lw_p60 : lw_okq (⟨"WholeFields$Walker", "isInField", "(II)Z"⟩, 5) := ⟨⟨by decide +kernel, by decide +kernel⟩, List.mem_of_getElem? (i := 377) (by decide +kernel), List.mem_of_getElem? (i := 1110) (by decide +kernel), List.mem_of_getElem? (i := 1111) (by decide +kernel)⟩
theorem lw_p61 : lw_okq (⟨"WholeFields$Splitter", "weigh", "(IJ)V"⟩, 8) := ⟨⟨by decide +kernel, by decide +kernel⟩, List.mem_of_getElem? (i := 400) (by decide +kernel), List.mem_of_getElem? (i := 1139) (by decide +kernel), List.mem_of_getElem? (i := 1140) (by decide +kernel)⟩
theorem lw_p62 : lw_okq (⟨"WholeFields$Ditcher", "findWays", "()V"⟩, 6) := ⟨⟨by decide +kernel, by decide +kernel⟩, List.mem_of_getElem? (i := 433) (by decide +kernel), List.mem_of_getElem? (i := 1187) (by decide +kernel), List.mem_of_getElem? (i := 1188) (by decide +kernel)⟩
theorem lw_p63 : lw_okq (⟨"WholeFields$Ditcher", "isBorder", "(IIII)Z"⟩, 6) := ⟨⟨by decide +kernel, by decide +kernel⟩, List.mem_of_getElem? (i := 433) (by decide +kernel), List.mem_of_getElem? (i := 1191) (by decide +kernel), List.mem_of_getElem? (i := 1192) (by decide +kernel)⟩
def lw_privs_4 : List (MethodName × Nat) := [(⟨"WholeFields$Finder", "gatherCells", "()Z"⟩, 16), (⟨"WholeFields$Finder", "gatherHopes", "()V"⟩, 16), (⟨"WholeFields$Finder", "mayHave", "(II)Z"⟩, 16), (⟨"WholeFields$Finder", "descend", "(I)V"⟩, 16), (⟨"WholeFields$Finder", "isHopeful", "(I)Z"⟩, 16), (⟨"WholeFields$Finder", "weigh", "()V"⟩, 16), (⟨"WholeFields$Finder", "envyPairs", "()I"⟩, 16), (⟨"WholeFields$Finder", "isBest", "(III)Z"⟩, 16), (⟨"WholeFields$Finder", "areLawful", "()Z"⟩, 16), (⟨"WholeFields$Finder", "turn", "(III)V"⟩, 16), (⟨"WholeFields$Walker", "mark", "(II)V"⟩, 5), (⟨"WholeFields$Walker", "turnAt", "(III)I"⟩, 5), (⟨"WholeFields$Walker", "isInField", "(II)Z"⟩, 5), (⟨"WholeFields$Splitter", "weigh", "(IJ)V"⟩, 8), (⟨"WholeFields$Ditcher", "findWays", "()V"⟩, 6), (⟨"WholeFields$Ditcher", "isBorder", "(IIII)Z"⟩, 6)]
theorem lw_r4 : ∀ q ∈ lw_privs_4, lw_okq q := List.forall_mem_cons.mpr ⟨lw_p48, List.forall_mem_cons.mpr ⟨lw_p49, List.forall_mem_cons.mpr ⟨lw_p50, List.forall_mem_cons.mpr ⟨lw_p51, List.forall_mem_cons.mpr ⟨lw_p52, List.forall_mem_cons.mpr ⟨lw_p53, List.forall_mem_cons.mpr ⟨lw_p54, List.forall_mem_cons.mpr ⟨lw_p55, List.forall_mem_cons.mpr ⟨lw_p56, List.forall_mem_cons.mpr ⟨lw_p57, List.forall_mem_cons.mpr ⟨lw_p58, List.forall_mem_cons.mpr ⟨lw_p59, List.forall_mem_cons.mpr ⟨lw_p60, List.forall_mem_cons.mpr ⟨lw_p61, List.forall_mem_cons.mpr ⟨lw_p62, List.forall_mem_cons.mpr ⟨lw_p63, fun _ h => absurd h List.not_mem_nil⟩⟩⟩⟩⟩⟩⟩⟩⟩⟩⟩⟩⟩⟩⟩⟩
theorem lw_p64 : lw_okq (⟨"WholeFields$Ditcher", "joinParts", "(I)V"⟩, 6) := ⟨⟨by decide +kernel, by decide +kernel⟩, List.mem_of_getElem? (i := 433) (by decide +kernel), List.mem_of_getElem? (i := 1195) (by decide +kernel), List.mem_of_getElem? (i := 1196) (by decide +kernel)⟩
theorem lw_p65 : lw_okq (⟨"WholeFields$Ditcher", "joinTwo", "(III)V"⟩, 6) := ⟨⟨by decide +kernel, by decide +kernel⟩, List.mem_of_getElem? (i := 433) (by decide +kernel), List.mem_of_getElem? (i := 1199) (by decide +kernel), List.mem_of_getElem? (i := 1200) (by decide +kernel)⟩
theorem lw_p66 : lw_okq (⟨"WholeFields$Ditcher", "settle", "(I)V"⟩, 6) := ⟨⟨by decide +kernel, by decide +kernel⟩, List.mem_of_getElem? (i := 433) (by decide +kernel), List.mem_of_getElem? (i := 1205) (by decide +kernel), List.mem_of_getElem? (i := 1206) (by decide +kernel)⟩
theorem lw_p67 : lw_okq (⟨"WholeFields$Ditcher", "level", "(II)Z"⟩, 6) := ⟨⟨by decide +kernel, by decide +kernel⟩, List.mem_of_getElem? (i := 433) (by decide +kernel), List.mem_of_getElem? (i := 1209) (by decide +kernel), List.mem_of_getElem? (i := 1210) (by decide +kernel)⟩
theorem lw_p68 : lw_okq (⟨"java/lang/Throwable", "fillInStackTrace", "(I)Ljava/lang/Throwable;"⟩, 6) := ⟨⟨by decide +kernel, by decide +kernel⟩, List.mem_of_getElem? (i := 1272) (by decide +kernel), List.mem_of_getElem? (i := 1270) (by decide +kernel), List.mem_of_getElem? (i := 1271) (by decide +kernel)⟩
theorem lw_p69 : lw_okq (⟨"WholeFieldsModel", "refused", "(I)I"⟩, 55) := ⟨⟨by decide +kernel, by decide +kernel⟩, List.mem_of_getElem? (i := 1305) (by decide +kernel), List.mem_of_getElem? (i := 1518) (by decide +kernel), List.mem_of_getElem? (i := 1519) (by decide +kernel)⟩
theorem lw_p70 : lw_okq (⟨"WholeFieldsModel", "next", "()V"⟩, 55) := ⟨⟨by decide +kernel, by decide +kernel⟩, List.mem_of_getElem? (i := 1305) (by decide +kernel), List.mem_of_getElem? (i := 1545) (by decide +kernel), List.mem_of_getElem? (i := 1546) (by decide +kernel)⟩
theorem lw_p71 : lw_okq (⟨"WholeFieldsModel", "byteAt", "(I)I"⟩, 55) := ⟨⟨by decide +kernel, by decide +kernel⟩, List.mem_of_getElem? (i := 1305) (by decide +kernel), List.mem_of_getElem? (i := 1549) (by decide +kernel), List.mem_of_getElem? (i := 1550) (by decide +kernel)⟩
theorem lw_p72 : lw_okq (⟨"WholeFieldsModel", "readBook", "()V"⟩, 55) := ⟨⟨by decide +kernel, by decide +kernel⟩, List.mem_of_getElem? (i := 1305) (by decide +kernel), List.mem_of_getElem? (i := 1560) (by decide +kernel), List.mem_of_getElem? (i := 1561) (by decide +kernel)⟩
theorem lw_p73 : lw_okq (⟨"WholeFieldsModel", "isWord", "(Ljava/lang/String;)Z"⟩, 55) := ⟨⟨by decide +kernel, by decide +kernel⟩, List.mem_of_getElem? (i := 1305) (by decide +kernel), List.mem_of_getElem? (i := 1565) (by decide +kernel), List.mem_of_getElem? (i := 1566) (by decide +kernel)⟩
theorem lw_p74 : lw_okq (⟨"WholeFieldsModel", "stop", "(I)LWholeFieldsModel$Stop;"⟩, 55) := ⟨⟨by decide +kernel, by decide +kernel⟩, List.mem_of_getElem? (i := 1305) (by decide +kernel), List.mem_of_getElem? (i := 1620) (by decide +kernel), List.mem_of_getElem? (i := 1621) (by decide +kernel)⟩
theorem lw_p75 : lw_okq (⟨"WholeFieldsModel", "isName", "()Z"⟩, 55) := ⟨⟨by decide +kernel, by decide +kernel⟩, List.mem_of_getElem? (i := 1305) (by decide +kernel), List.mem_of_getElem? (i := 1624) (by decide +kernel), List.mem_of_getElem? (i := 1625) (by decide +kernel)⟩
theorem lw_p76 : lw_okq (⟨"WholeFieldsModel", "thing", "()I"⟩, 55) := ⟨⟨by decide +kernel, by decide +kernel⟩, List.mem_of_getElem? (i := 1305) (by decide +kernel), List.mem_of_getElem? (i := 1629) (by decide +kernel), List.mem_of_getElem? (i := 1630) (by decide +kernel)⟩
theorem lw_p77 : lw_okq (⟨"WholeFieldsModel", "readWorth", "()V"⟩, 55) := ⟨⟨by decide +kernel, by decide +kernel⟩, List.mem_of_getElem? (i := 1305) (by decide +kernel), List.mem_of_getElem? (i := 1643) (by decide +kernel), List.mem_of_getElem? (i := 1644) (by decide +kernel)⟩
theorem lw_p78 : lw_okq (⟨"WholeFieldsModel", "begins", "(I)V"⟩, 55) := ⟨⟨by decide +kernel, by decide +kernel⟩, List.mem_of_getElem? (i := 1305) (by decide +kernel), List.mem_of_getElem? (i := 1647) (by decide +kernel), List.mem_of_getElem? (i := 1648) (by decide +kernel)⟩
theorem lw_p79 : lw_okq (⟨"WholeFieldsModel", "readFactor", "()Z"⟩, 55) := ⟨⟨by decide +kernel, by decide +kernel⟩, List.mem_of_getElem? (i := 1305) (by decide +kernel), List.mem_of_getElem? (i := 1651) (by decide +kernel), List.mem_of_getElem? (i := 1652) (by decide +kernel)⟩
def lw_privs_5 : List (MethodName × Nat) := [(⟨"WholeFields$Ditcher", "joinParts", "(I)V"⟩, 6), (⟨"WholeFields$Ditcher", "joinTwo", "(III)V"⟩, 6), (⟨"WholeFields$Ditcher", "settle", "(I)V"⟩, 6), (⟨"WholeFields$Ditcher", "level", "(II)Z"⟩, 6), (⟨"java/lang/Throwable", "fillInStackTrace", "(I)Ljava/lang/Throwable;"⟩, 6), (⟨"WholeFieldsModel", "refused", "(I)I"⟩, 55), (⟨"WholeFieldsModel", "next", "()V"⟩, 55), (⟨"WholeFieldsModel", "byteAt", "(I)I"⟩, 55), (⟨"WholeFieldsModel", "readBook", "()V"⟩, 55), (⟨"WholeFieldsModel", "isWord", "(Ljava/lang/String;)Z"⟩, 55), (⟨"WholeFieldsModel", "stop", "(I)LWholeFieldsModel$Stop;"⟩, 55), (⟨"WholeFieldsModel", "isName", "()Z"⟩, 55), (⟨"WholeFieldsModel", "thing", "()I"⟩, 55), (⟨"WholeFieldsModel", "readWorth", "()V"⟩, 55), (⟨"WholeFieldsModel", "begins", "(I)V"⟩, 55), (⟨"WholeFieldsModel", "readFactor", "()Z"⟩, 55)]
theorem lw_r5 : ∀ q ∈ lw_privs_5, lw_okq q := List.forall_mem_cons.mpr ⟨lw_p64, List.forall_mem_cons.mpr ⟨lw_p65, List.forall_mem_cons.mpr ⟨lw_p66, List.forall_mem_cons.mpr ⟨lw_p67, List.forall_mem_cons.mpr ⟨lw_p68, List.forall_mem_cons.mpr ⟨lw_p69, List.forall_mem_cons.mpr ⟨lw_p70, List.forall_mem_cons.mpr ⟨lw_p71, List.forall_mem_cons.mpr ⟨lw_p72, List.forall_mem_cons.mpr ⟨lw_p73, List.forall_mem_cons.mpr ⟨lw_p74, List.forall_mem_cons.mpr ⟨lw_p75, List.forall_mem_cons.mpr ⟨lw_p76, List.forall_mem_cons.mpr ⟨lw_p77, List.forall_mem_cons.mpr ⟨lw_p78, List.forall_mem_cons.mpr ⟨lw_p79, fun _ h => absurd h List.not_mem_nil⟩⟩⟩⟩⟩⟩⟩⟩⟩⟩⟩⟩⟩⟩⟩⟩
theorem lw_p80 : lw_okq (⟨"WholeFieldsModel", "is", "(I)Z"⟩, 55) := ⟨⟨by decide +kernel, by decide +kernel⟩, List.mem_of_getElem? (i := 1305) (by decide +kernel), List.mem_of_getElem? (i := 1655) (by decide +kernel), List.mem_of_getElem? (i := 1656) (by decide +kernel)⟩
theorem lw_p81 : lw_okq (⟨"WholeFieldsModel", "opens", "(I)V"⟩, 55) := ⟨⟨by decide +kernel, by decide +kernel⟩, List.mem_of_getElem? (i := 1305) (by decide +kernel), List.mem_of_getElem? (i := 1659) (by decide +kernel), List.mem_of_getElem? (i := 1660) (by decide +kernel)⟩
theorem lw_p82 : lw_okq (⟨"WholeFieldsModel", "isOver", "()Z"⟩, 55) := ⟨⟨by decide +kernel, by decide +kernel⟩, List.mem_of_getElem? (i := 1305) (by decide +kernel), List.mem_of_getElem? (i := 1667) (by decide +kernel), List.mem_of_getElem? (i := 1668) (by decide +kernel)⟩
theorem lw_p83 : lw_okq (⟨"WholeFieldsModel", "lays", "(II)V"⟩, 55) := ⟨⟨by decide +kernel, by decide +kernel⟩, List.mem_of_getElem? (i := 1305) (by decide +kernel), List.mem_of_getElem? (i := 1671) (by decide +kernel), List.mem_of_getElem? (i := 1672) (by decide +kernel)⟩
theorem lw_p84 : lw_okq (⟨"WholeFieldsModel", "done", "(I)I"⟩, 55) := ⟨⟨by decide +kernel, by decide +kernel⟩, List.mem_of_getElem? (i := 1305) (by decide +kernel), List.mem_of_getElem? (i := 1675) (by decide +kernel), List.mem_of_getElem? (i := 1676) (by decide +kernel)⟩
theorem lw_p85 : lw_okq (⟨"WholeFieldsModel", "isCell", "(I)Z"⟩, 55) := ⟨⟨by decide +kernel, by decide +kernel⟩, List.mem_of_getElem? (i := 1305) (by decide +kernel), List.mem_of_getElem? (i := 1698) (by decide +kernel), List.mem_of_getElem? (i := 1699) (by decide +kernel)⟩
theorem lw_p86 : lw_okq (⟨"WholeFieldsModel", "denied", "(I)Z"⟩, 55) := ⟨⟨by decide +kernel, by decide +kernel⟩, List.mem_of_getElem? (i := 1305) (by decide +kernel), List.mem_of_getElem? (i := 1702) (by decide +kernel), List.mem_of_getElem? (i := 1703) (by decide +kernel)⟩
theorem lw_p87 : lw_okq (⟨"WholeFieldsModel", "granted", "()Z"⟩, 55) := ⟨⟨by decide +kernel, by decide +kernel⟩, List.mem_of_getElem? (i := 1305) (by decide +kernel), List.mem_of_getElem? (i := 1706) (by decide +kernel), List.mem_of_getElem? (i := 1707) (by decide +kernel)⟩
theorem lw_p88 : lw_okq (⟨"WholeFieldsModel", "isOwner", "(I)Z"⟩, 55) := ⟨⟨by decide +kernel, by decide +kernel⟩, List.mem_of_getElem? (i := 1305) (by decide +kernel), List.mem_of_getElem? (i := 1714) (by decide +kernel), List.mem_of_getElem? (i := 1715) (by decide +kernel)⟩
theorem lw_p89 : lw_okq (⟨"WholeFieldsModel", "valueOf", "(II)I"⟩, 55) := ⟨⟨by decide +kernel, by decide +kernel⟩, List.mem_of_getElem? (i := 1305) (by decide +kernel), List.mem_of_getElem? (i := 1735) (by decide +kernel), List.mem_of_getElem? (i := 1736) (by decide +kernel)⟩
theorem lw_p90 : lw_okq (⟨"WholeFieldsModel", "far", "(II)I"⟩, 55) := ⟨⟨by decide +kernel, by decide +kernel⟩, List.mem_of_getElem? (i := 1305) (by decide +kernel), List.mem_of_getElem? (i := 1739) (by decide +kernel), List.mem_of_getElem? (i := 1740) (by decide +kernel)⟩
theorem lw_p91 : lw_okq (⟨"WholeFieldsModel", "waters", "(I)I"⟩, 55) := ⟨⟨by decide +kernel, by decide +kernel⟩, List.mem_of_getElem? (i := 1305) (by decide +kernel), List.mem_of_getElem? (i := 1746) (by decide +kernel), List.mem_of_getElem? (i := 1747) (by decide +kernel)⟩
theorem lw_p92 : lw_okq (⟨"WholeFieldsModel", "beside", "(II)I"⟩, 55) := ⟨⟨by decide +kernel, by decide +kernel⟩, List.mem_of_getElem? (i := 1305) (by decide +kernel), List.mem_of_getElem? (i := 1750) (by decide +kernel), List.mem_of_getElem? (i := 1751) (by decide +kernel)⟩
theorem lw_p93 : lw_okq (⟨"WholeFieldsModel", "values", "()V"⟩, 55) := ⟨⟨by decide +kernel, by decide +kernel⟩, List.mem_of_getElem? (i := 1305) (by decide +kernel), List.mem_of_getElem? (i := 1769) (by decide +kernel), List.mem_of_getElem? (i := 1770) (by decide +kernel)⟩
theorem lw_p94 : lw_okq (⟨"WholeFieldsModel", "sumOf", "(II)I"⟩, 55) := ⟨⟨by decide +kernel, by decide +kernel⟩, List.mem_of_getElem? (i := 1305) (by decide +kernel), List.mem_of_getElem? (i := 1773) (by decide +kernel), List.mem_of_getElem? (i := 1774) (by decide +kernel)⟩
theorem lw_p95 : lw_okq (⟨"WholeFieldsModel", "lost", "(I)I"⟩, 55) := ⟨⟨by decide +kernel, by decide +kernel⟩, List.mem_of_getElem? (i := 1305) (by decide +kernel), List.mem_of_getElem? (i := 1781) (by decide +kernel), List.mem_of_getElem? (i := 1782) (by decide +kernel)⟩
def lw_privs_6 : List (MethodName × Nat) := [(⟨"WholeFieldsModel", "is", "(I)Z"⟩, 55), (⟨"WholeFieldsModel", "opens", "(I)V"⟩, 55), (⟨"WholeFieldsModel", "isOver", "()Z"⟩, 55), (⟨"WholeFieldsModel", "lays", "(II)V"⟩, 55), (⟨"WholeFieldsModel", "done", "(I)I"⟩, 55), (⟨"WholeFieldsModel", "isCell", "(I)Z"⟩, 55), (⟨"WholeFieldsModel", "denied", "(I)Z"⟩, 55), (⟨"WholeFieldsModel", "granted", "()Z"⟩, 55), (⟨"WholeFieldsModel", "isOwner", "(I)Z"⟩, 55), (⟨"WholeFieldsModel", "valueOf", "(II)I"⟩, 55), (⟨"WholeFieldsModel", "far", "(II)I"⟩, 55), (⟨"WholeFieldsModel", "waters", "(I)I"⟩, 55), (⟨"WholeFieldsModel", "beside", "(II)I"⟩, 55), (⟨"WholeFieldsModel", "values", "()V"⟩, 55), (⟨"WholeFieldsModel", "sumOf", "(II)I"⟩, 55), (⟨"WholeFieldsModel", "lost", "(I)I"⟩, 55)]
theorem lw_r6 : ∀ q ∈ lw_privs_6, lw_okq q := List.forall_mem_cons.mpr ⟨lw_p80, List.forall_mem_cons.mpr ⟨lw_p81, List.forall_mem_cons.mpr ⟨lw_p82, List.forall_mem_cons.mpr ⟨lw_p83, List.forall_mem_cons.mpr ⟨lw_p84, List.forall_mem_cons.mpr ⟨lw_p85, List.forall_mem_cons.mpr ⟨lw_p86, List.forall_mem_cons.mpr ⟨lw_p87, List.forall_mem_cons.mpr ⟨lw_p88, List.forall_mem_cons.mpr ⟨lw_p89, List.forall_mem_cons.mpr ⟨lw_p90, List.forall_mem_cons.mpr ⟨lw_p91, List.forall_mem_cons.mpr ⟨lw_p92, List.forall_mem_cons.mpr ⟨lw_p93, List.forall_mem_cons.mpr ⟨lw_p94, List.forall_mem_cons.mpr ⟨lw_p95, fun _ h => absurd h List.not_mem_nil⟩⟩⟩⟩⟩⟩⟩⟩⟩⟩⟩⟩⟩⟩⟩⟩
theorem lw_p96 : lw_okq (⟨"WholeFieldsModel", "isYes", "(I)Z"⟩, 55) := ⟨⟨by decide +kernel, by decide +kernel⟩, List.mem_of_getElem? (i := 1305) (by decide +kernel), List.mem_of_getElem? (i := 1785) (by decide +kernel), List.mem_of_getElem? (i := 1786) (by decide +kernel)⟩
theorem lw_p97 : lw_okq (⟨"WholeFieldsModel", "allSums", "()I"⟩, 55) := ⟨⟨by decide +kernel, by decide +kernel⟩, List.mem_of_getElem? (i := 1305) (by decide +kernel), List.mem_of_getElem? (i := 1789) (by decide +kernel), List.mem_of_getElem? (i := 1790) (by decide +kernel)⟩
theorem lw_p98 : lw_okq (⟨"WholeFieldsModel", "allShort", "()I"⟩, 55) := ⟨⟨by decide +kernel, by decide +kernel⟩, List.mem_of_getElem? (i := 1305) (by decide +kernel), List.mem_of_getElem? (i := 1793) (by decide +kernel), List.mem_of_getElem? (i := 1794) (by decide +kernel)⟩
theorem lw_p99 : lw_okq (⟨"WholeFieldsModel", "bound", "()I"⟩, 55) := ⟨⟨by decide +kernel, by decide +kernel⟩, List.mem_of_getElem? (i := 1305) (by decide +kernel), List.mem_of_getElem? (i := 1797) (by decide +kernel), List.mem_of_getElem? (i := 1798) (by decide +kernel)⟩
theorem lw_p100 : lw_okq (⟨"WholeFieldsModel", "pairs", "()I"⟩, 55) := ⟨⟨by decide +kernel, by decide +kernel⟩, List.mem_of_getElem? (i := 1305) (by decide +kernel), List.mem_of_getElem? (i := 1801) (by decide +kernel), List.mem_of_getElem? (i := 1802) (by decide +kernel)⟩
theorem lw_p101 : lw_okq (⟨"WholeFieldsModel", "isEnvying", "(II)Z"⟩, 55) := ⟨⟨by decide +kernel, by decide +kernel⟩, List.mem_of_getElem? (i := 1305) (by decide +kernel), List.mem_of_getElem? (i := 1805) (by decide +kernel), List.mem_of_getElem? (i := 1806) (by decide +kernel)⟩
theorem lw_p102 : lw_okq (⟨"WholeFieldsModel", "many", "(I)I"⟩, 55) := ⟨⟨by decide +kernel, by decide +kernel⟩, List.mem_of_getElem? (i := 1305) (by decide +kernel), List.mem_of_getElem? (i := 1809) (by decide +kernel), List.mem_of_getElem? (i := 1810) (by decide +kernel)⟩
theorem lw_p103 : lw_okq (⟨"WholeFieldsModel", "borders", "()I"⟩, 55) := ⟨⟨by decide +kernel, by decide +kernel⟩, List.mem_of_getElem? (i := 1305) (by decide +kernel), List.mem_of_getElem? (i := 1813) (by decide +kernel), List.mem_of_getElem? (i := 1814) (by decide +kernel)⟩
theorem lw_p104 : lw_okq (⟨"WholeFieldsModel", "barsNow", "()I"⟩, 55) := ⟨⟨by decide +kernel, by decide +kernel⟩, List.mem_of_getElem? (i := 1305) (by decide +kernel), List.mem_of_getElem? (i := 1821) (by decide +kernel), List.mem_of_getElem? (i := 1822) (by decide +kernel)⟩
theorem lw_p105 : lw_okq (⟨"WholeFieldsModel", "hangs", "([II)Z"⟩, 55) := ⟨⟨by decide +kernel, by decide +kernel⟩, List.mem_of_getElem? (i := 1305) (by decide +kernel), List.mem_of_getElem? (i := 1825) (by decide +kernel), List.mem_of_getElem? (i := 1826) (by decide +kernel)⟩
theorem lw_p106 : lw_okq (⟨"WholeFieldsModel", "isSquare", "(I)Z"⟩, 55) := ⟨⟨by decide +kernel, by decide +kernel⟩, List.mem_of_getElem? (i := 1305) (by decide +kernel), List.mem_of_getElem? (i := 1829) (by decide +kernel), List.mem_of_getElem? (i := 1830) (by decide +kernel)⟩
theorem lw_p107 : lw_okq (⟨"WholeFieldsModel", "taken", "(I)I"⟩, 55) := ⟨⟨by decide +kernel, by decide +kernel⟩, List.mem_of_getElem? (i := 1305) (by decide +kernel), List.mem_of_getElem? (i := 1849) (by decide +kernel), List.mem_of_getElem? (i := 1850) (by decide +kernel)⟩
theorem lw_p108 : lw_okq (⟨"WholeFieldsModel", "isMoved", "()Z"⟩, 55) := ⟨⟨by decide +kernel, by decide +kernel⟩, List.mem_of_getElem? (i := 1305) (by decide +kernel), List.mem_of_getElem? (i := 1857) (by decide +kernel), List.mem_of_getElem? (i := 1858) (by decide +kernel)⟩
theorem lw_p109 : lw_okq (⟨"WholeFieldsModel", "looks", "(III)V"⟩, 55) := ⟨⟨by decide +kernel, by decide +kernel⟩, List.mem_of_getElem? (i := 1305) (by decide +kernel), List.mem_of_getElem? (i := 1861) (by decide +kernel), List.mem_of_getElem? (i := 1862) (by decide +kernel)⟩
theorem lw_p110 : lw_okq (⟨"WholeFieldsModel", "exchanges", "(II)V"⟩, 55) := ⟨⟨by decide +kernel, by decide +kernel⟩, List.mem_of_getElem? (i := 1305) (by decide +kernel), List.mem_of_getElem? (i := 1865) (by decide +kernel), List.mem_of_getElem? (i := 1866) (by decide +kernel)⟩
theorem lw_p111 : lw_okq (⟨"WholeFieldsModel", "isField", "(I)Z"⟩, 55) := ⟨⟨by decide +kernel, by decide +kernel⟩, List.mem_of_getElem? (i := 1305) (by decide +kernel), List.mem_of_getElem? (i := 1881) (by decide +kernel), List.mem_of_getElem? (i := 1882) (by decide +kernel)⟩
def lw_privs_7 : List (MethodName × Nat) := [(⟨"WholeFieldsModel", "isYes", "(I)Z"⟩, 55), (⟨"WholeFieldsModel", "allSums", "()I"⟩, 55), (⟨"WholeFieldsModel", "allShort", "()I"⟩, 55), (⟨"WholeFieldsModel", "bound", "()I"⟩, 55), (⟨"WholeFieldsModel", "pairs", "()I"⟩, 55), (⟨"WholeFieldsModel", "isEnvying", "(II)Z"⟩, 55), (⟨"WholeFieldsModel", "many", "(I)I"⟩, 55), (⟨"WholeFieldsModel", "borders", "()I"⟩, 55), (⟨"WholeFieldsModel", "barsNow", "()I"⟩, 55), (⟨"WholeFieldsModel", "hangs", "([II)Z"⟩, 55), (⟨"WholeFieldsModel", "isSquare", "(I)Z"⟩, 55), (⟨"WholeFieldsModel", "taken", "(I)I"⟩, 55), (⟨"WholeFieldsModel", "isMoved", "()Z"⟩, 55), (⟨"WholeFieldsModel", "looks", "(III)V"⟩, 55), (⟨"WholeFieldsModel", "exchanges", "(II)V"⟩, 55), (⟨"WholeFieldsModel", "isField", "(I)Z"⟩, 55)]
theorem lw_r7 : ∀ q ∈ lw_privs_7, lw_okq q := List.forall_mem_cons.mpr ⟨lw_p96, List.forall_mem_cons.mpr ⟨lw_p97, List.forall_mem_cons.mpr ⟨lw_p98, List.forall_mem_cons.mpr ⟨lw_p99, List.forall_mem_cons.mpr ⟨lw_p100, List.forall_mem_cons.mpr ⟨lw_p101, List.forall_mem_cons.mpr ⟨lw_p102, List.forall_mem_cons.mpr ⟨lw_p103, List.forall_mem_cons.mpr ⟨lw_p104, List.forall_mem_cons.mpr ⟨lw_p105, List.forall_mem_cons.mpr ⟨lw_p106, List.forall_mem_cons.mpr ⟨lw_p107, List.forall_mem_cons.mpr ⟨lw_p108, List.forall_mem_cons.mpr ⟨lw_p109, List.forall_mem_cons.mpr ⟨lw_p110, List.forall_mem_cons.mpr ⟨lw_p111, fun _ h => absurd h List.not_mem_nil⟩⟩⟩⟩⟩⟩⟩⟩⟩⟩⟩⟩⟩⟩⟩⟩
theorem lw_p112 : lw_okq (⟨"WholeFieldsModel", "walks", "(I)V"⟩, 55) := ⟨⟨by decide +kernel, by decide +kernel⟩, List.mem_of_getElem? (i := 1305) (by decide +kernel), List.mem_of_getElem? (i := 1885) (by decide +kernel), List.mem_of_getElem? (i := 1886) (by decide +kernel)⟩
theorem lw_p113 : lw_okq (⟨"WholeFieldsModel", "isIn", "(III)Z"⟩, 55) := ⟨⟨by decide +kernel, by decide +kernel⟩, List.mem_of_getElem? (i := 1305) (by decide +kernel), List.mem_of_getElem? (i := 1889) (by decide +kernel), List.mem_of_getElem? (i := 1890) (by decide +kernel)⟩
theorem lw_p114 : lw_okq (⟨"WholeFieldsModel", "spreads", "(I)V"⟩, 55) := ⟨⟨by decide +kernel, by decide +kernel⟩, List.mem_of_getElem? (i := 1305) (by decide +kernel), List.mem_of_getElem? (i := 1924) (by decide +kernel), List.mem_of_getElem? (i := 1925) (by decide +kernel)⟩
theorem lw_p115 : lw_okq (⟨"WholeFieldsModel", "isBorder", "(IZ)Z"⟩, 55) := ⟨⟨by decide +kernel, by decide +kernel⟩, List.mem_of_getElem? (i := 1305) (by decide +kernel), List.mem_of_getElem? (i := 1928) (by decide +kernel), List.mem_of_getElem? (i := 1929) (by decide +kernel)⟩
def lw_privs_8 : List (MethodName × Nat) := [(⟨"WholeFieldsModel", "walks", "(I)V"⟩, 55), (⟨"WholeFieldsModel", "isIn", "(III)Z"⟩, 55), (⟨"WholeFieldsModel", "spreads", "(I)V"⟩, 55), (⟨"WholeFieldsModel", "isBorder", "(IZ)Z"⟩, 55)]
theorem lw_r8 : ∀ q ∈ lw_privs_8, lw_okq q := List.forall_mem_cons.mpr ⟨lw_p112, List.forall_mem_cons.mpr ⟨lw_p113, List.forall_mem_cons.mpr ⟨lw_p114, List.forall_mem_cons.mpr ⟨lw_p115, fun _ h => absurd h List.not_mem_nil⟩⟩⟩⟩
def lw_privs : List (MethodName × Nat) := lw_privs_1 ++ (lw_privs_2 ++ (lw_privs_3 ++ (lw_privs_4 ++ (lw_privs_5 ++ (lw_privs_6 ++ (lw_privs_7 ++ (lw_privs_8)))))))
def lw_tbl : List Cond := k2_sels lw_privs ++ tables_1
theorem lw_privs_ok : ∀ q ∈ lw_privs, lw_okq q := by
  show ∀ q ∈ lw_privs_1 ++ (lw_privs_2 ++ (lw_privs_3 ++ (lw_privs_4 ++ (lw_privs_5 ++ (lw_privs_6 ++ (lw_privs_7 ++ (lw_privs_8))))))), lw_okq q
  exact List.forall_mem_append.mpr ⟨lw_r1, List.forall_mem_append.mpr ⟨lw_r2, List.forall_mem_append.mpr ⟨lw_r3, List.forall_mem_append.mpr ⟨lw_r4, List.forall_mem_append.mpr ⟨lw_r5, List.forall_mem_append.mpr ⟨lw_r6, List.forall_mem_append.mpr ⟨lw_r7, lw_r8⟩⟩⟩⟩⟩⟩⟩
end
section
/-! The evaluator: a small machine of ours over typed planes, of which the machine's own runs are shown to be runs (part 05 on). -/
abbrev AV : Type := Int32 ⊕ (Int64 ⊕ Option (Option (Nat × Nat)))
abbrev vi (x : Int32) : AV := .inl x
abbrev vl (x : Int64) : AV := .inr (.inl x)
abbrev vr (k j : Nat) : AV := .inr (.inr (some (some (k, j))))
abbrev vn : AV := .inr (.inr (some none))
abbrev vu : AV := .inr (.inr none)
/-- ints, longs, references by (kind, number, place); how many of a kind; cells and slots made -/
abbrev Mem : Type := (Nat → Nat → Nat → Int32) × (Nat → Nat → Nat → Int64) × (Nat → Nat → Nat → Option (Option (Nat × Nat))) × (Nat → Nat) × Nat × Nat
abbrev Loc9 : Type := List (Option AV)
abbrev Res9 : Type := (Option AV ⊕ (Nat × AV)) × Mem
abbrev Ent9 : Type := Instr × Nat × Nat × Nat × Nat × List (Int32 × Nat)
abbrev Cd9 : Type := List (Nat × Ent9)
def up3 {α : Type} (f : Nat → Nat → Nat → α) (k j i : Nat) (v : α) : Nat → Nat → Nat → α := fun a b c => if a = k then (if b = j then (if c = i then v else f a b c) else f a b c) else f a b c
/-- all places of one thing anew -/
def upA {α : Type} (f : Nat → Nat → Nat → α) (k j : Nat) (v : Nat → α) : Nat → Nat → Nat → α := fun a b c => if a = k then (if b = j then v c else f a b c) else f a b c
def up1 (f : Nat → Nat) (k v : Nat) : Nat → Nat := fun a => if a = k then v else f a
abbrev mI (m : Mem) : Nat → Nat → Nat → Int32 := m.1
abbrev mJ (m : Mem) : Nat → Nat → Nat → Int64 := m.2.1
abbrev mR (m : Mem) : Nat → Nat → Nat → Option (Option (Nat × Nat)) := m.2.2.1
abbrev mK (m : Mem) : Nat → Nat := m.2.2.2.1
abbrev mC (m : Mem) : Nat := m.2.2.2.2.1
abbrev mS (m : Mem) : Nat := m.2.2.2.2.2
abbrev setI (m : Mem) (k j i : Nat) (v : Int32) : Mem := (up3 m.1 k j i v, m.2)
abbrev setJ (m : Mem) (k j i : Nat) (v : Int64) : Mem := (m.1, up3 m.2.1 k j i v, m.2.2)
abbrev setR (m : Mem) (k j i : Nat) (v : Option (Option (Nat × Nat))) : Mem := (m.1, m.2.1, up3 m.2.2.1 k j i v, m.2.2.2)
/-- a thing of kind k comes: n slots -/
def newM (m : Mem) (k n : Nat) : Mem := (upA m.1 k (m.2.2.2.1 k) (fun _ => 0), upA m.2.1 k (m.2.2.2.1 k) (fun _ => 0), upA m.2.2.1 k (m.2.2.2.1 k) (fun _ => some none), up1 m.2.2.2.1 k (m.2.2.2.1 k + 1), m.2.2.2.2.1 + 1, m.2.2.2.2.2 + n)
/-- a cell comes that nobody looks at -/
def newX (m : Mem) (n : Nat) : Mem := (m.1, m.2.1, m.2.2.1, m.2.2.2.1, m.2.2.2.2.1 + 1, m.2.2.2.2.2 + n)
def cat9 : AV → Nat
  | .inr (.inl _) => 2
  | _ => 1
def cats : List AV → Nat
  | [] => 0
  | v :: r => cat9 v + cats r
def ldL (l : Loc9) (k : Nat) : Option AV := match l with
  | [] => none
  | a :: r => match k with
    | 0 => a
    | k + 1 => ldL r k
def setL (l : Loc9) (k : Nat) (v : Option AV) : Loc9 := match l with
  | [] => []
  | a :: r => match k with
    | 0 => v :: r
    | k + 1 => a :: setL r k v
/-- the long ahead of place k is broken -/
def cutL (l : Loc9) (k : Nat) : Loc9 := match k with
  | 0 => l
  | k + 1 => match ldL l k with
    | some (.inr (.inl _)) => setL l k none
    | _ => l
def stL (l : Loc9) (k : Nat) (v : AV) : Loc9 := setL (cutL l k) k (some v)
def stL2 (l : Loc9) (k : Nat) (v : AV) : Loc9 := setL (setL (cutL l k) k (some v)) (k + 1) none
def entL (vs : List AV) (n : Nat) : Loc9 := match n with
  | 0 => []
  | n + 1 => match vs with
    | [] => none :: entL [] n
    | .inr (.inl x) :: r => match n with
      | 0 => [some (.inr (.inl x))]
      | n + 1 => some (.inr (.inl x)) :: none :: entL r n
    | v :: r => some v :: entL r n
def popN : Nat → List AV → List AV → Option (List AV × List AV)
  | 0, acc, st => some (acc, st)
  | n + 1, acc, st => match st with
    | [] => none
    | v :: r => popN n (v :: acc) r
def inR (i : Int32) (n : Nat) : Bool := decide (0 ≤ i) && decide (i.toNatClampNeg < n)
end
section
/-! printed by program (wip/gen/gen.py): the code of each method as the evaluator reads it: place, instruction, length, three numbers, the cases of a switch -/
/-- WholeFieldsLaw.law([I)Z -/
def k_WFLaw_law : Cd9 := [(0, .new 8, 3, 11, 16, 0, []), (3, .dup, 1, 0, 0, 0, []), (4, .invokespecial 15, 3, 1, 1, 12, []), (7, .astore_n 1, 1, 0, 0, 0, []), (8, .new 16, 3, 14, 55, 0, []), (11, .dup, 1, 0, 0, 0, []), (12, .invokespecial 18, 3, 179, 1, 15, []), (15, .astore_n 2, 1, 0, 0, 0, []), (16, .iconst 1, 1, 0, 0, 0, []), (17, .newarray .long, 2, 40, 1, 3, []), (19, .astore_n 3, 1, 0, 0, 0, []), (20, .iconst 0, 1, 0, 0, 0, []), (21, .istore 4, 2, 0, 0, 0, []), (23, .iload 4, 2, 0, 0, 0, []), (25, .aload_n 0, 1, 0, 0, 0, []), (26, .arraylength, 1, 0, 0, 0, []), (27, .bipush 6, 2, 0, 0, 0, []), (29, .isub, 1, 0, 0, 0, []), (30, .if_icmp .gt 1148, 3, 1178, 0, 0, []), (33, .aload_n 0, 1, 0, 0, 0, []), (34, .iload 4, 2, 0, 0, 0, []), (36, .iaload, 1, 0, 0, 0, []), (37, .bipush 63, 2, 0, 0, 0, []), (39, .iand, 1, 0, 0, 0, []), (40, .tableswitch 1132 0 32 #[148, 221, 246, 259, 272, 309, 386, 423, 460, 497, 534, 571, 608, 633, 658, 683, 696, 709, 746, 771, 784, 809, 822, 863, 888, 956, 981, 1030, 1043, 1068, 1081, 1094, 1119], 148, 1172, 0, 0, [(0, 188), (1, 261), (2, 286), (3, 299), (4, 312), (5, 349), (6, 426), (7, 463), (8, 500), (9, 537), (10, 574), (11, 611), (12, 648), (13, 673), (14, 698), (15, 723), (16, 736), (17, 749), (18, 786), (19, 811), (20, 824), (21, 849), (22, 862), (23, 903), (24, 928), (25, 996), (26, 1021), (27, 1070), (28, 1083), (29, 1108), (30, 1121), (31, 1134), (32, 1159)]), (188, .aload_n 1, 1, 0, 0, 0, []), (189, .aload_n 0, 1, 0, 0, 0, []), (190, .iload 4, 2, 0, 0, 0, []), (192, .iconst 1, 1, 0, 0, 0, []), (193, .iadd, 1, 0, 0, 0, []), (194, .iaload, 1, 0, 0, 0, []), (195, .aload_n 0, 1, 0, 0, 0, []), (196, .iload 4, 2, 0, 0, 0, []), (198, .iconst 2, 1, 0, 0, 0, []), (199, .iadd, 1, 0, 0, 0, []), (200, .iaload, 1, 0, 0, 0, []), (201, .aload_n 0, 1, 0, 0, 0, []), (202, .iload 4, 2, 0, 0, 0, []), (204, .iconst 3, 1, 0, 0, 0, []), (205, .iadd, 1, 0, 0, 0, []), (206, .iaload, 1, 0, 0, 0, []), (207, .aload_n 0, 1, 0, 0, 0, []), (208, .iload 4, 2, 0, 0, 0, []), (210, .iconst 4, 1, 0, 0, 0, []), (211, .iadd, 1, 0, 0, 0, []), (212, .iaload, 1, 0, 0, 0, []), (213, .aload_n 0, 1, 0, 0, 0, []), (214, .iload 4, 2, 0, 0, 0, []), (216, .iconst 5, 1, 0, 0, 0, []), (217, .iadd, 1, 0, 0, 0, []), (218, .iaload, 1, 0, 0, 0, []), (219, .invokevirtual 19, 3, 17, 6, 12, []), (222, .aload_n 2, 1, 0, 0, 0, []), (223, .aload_n 0, 1, 0, 0, 0, []), (224, .iload 4, 2, 0, 0, 0, []), (226, .iconst 1, 1, 0, 0, 0, []), (227, .iadd, 1, 0, 0, 0, []), (228, .iaload, 1, 0, 0, 0, []), (229, .aload_n 0, 1, 0, 0, 0, []), (230, .iload 4, 2, 0, 0, 0, []), (232, .iconst 2, 1, 0, 0, 0, []), (233, .iadd, 1, 0, 0, 0, []), (234, .iaload, 1, 0, 0, 0, []), (235, .aload_n 0, 1, 0, 0, 0, []), (236, .iload 4, 2, 0, 0, 0, []), (238, .iconst 3, 1, 0, 0, 0, []), (239, .iadd, 1, 0, 0, 0, []), (240, .iaload, 1, 0, 0, 0, []), (241, .aload_n 0, 1, 0, 0, 0, []), (242, .iload 4, 2, 0, 0, 0, []), (244, .iconst 4, 1, 0, 0, 0, []), (245, .iadd, 1, 0, 0, 0, []), (246, .iaload, 1, 0, 0, 0, []), (247, .aload_n 0, 1, 0, 0, 0, []), (248, .iload 4, 2, 0, 0, 0, []), (250, .iconst 5, 1, 0, 0, 0, []), (251, .iadd, 1, 0, 0, 0, []), (252, .iaload, 1, 0, 0, 0, []), (253, .invokevirtual 23, 3, 185, 6, 15, []), (256, .if_icmp .eq 916, 3, 1172, 0, 0, []), (259, .iconst 0, 1, 0, 0, 0, []), (260, .ireturn, 1, 2, 0, 0, []), (261, .aload_n 1, 1, 0, 0, 0, []), (262, .aload_n 0, 1, 0, 0, 0, []), (263, .iload 4, 2, 0, 0, 0, []), (265, .iconst 1, 1, 0, 0, 0, []), (266, .iadd, 1, 0, 0, 0, []), (267, .iaload, 1, 0, 0, 0, []), (268, .invokevirtual 24, 3, 19, 2, 12, []), (271, .aload_n 2, 1, 0, 0, 0, []), (272, .aload_n 0, 1, 0, 0, 0, []), (273, .iload 4, 2, 0, 0, 0, []), (275, .iconst 1, 1, 0, 0, 0, []), (276, .iadd, 1, 0, 0, 0, []), (277, .iaload, 1, 0, 0, 0, []), (278, .invokevirtual 28, 3, 186, 2, 15, []), (281, .if_icmp .eq 891, 3, 1172, 0, 0, []), (284, .iconst 0, 1, 0, 0, 0, []), (285, .ireturn, 1, 2, 0, 0, []), (286, .aload_n 1, 1, 0, 0, 0, []), (287, .invokevirtual 29, 3, 52, 1, 12, []), (290, .aload_n 2, 1, 0, 0, 0, []), (291, .invokevirtual 33, 3, 216, 1, 15, []), (294, .if_icmp .eq 878, 3, 1172, 0, 0, []), (297, .iconst 0, 1, 0, 0, 0, []), (298, .ireturn, 1, 2, 0, 0, []), (299, .aload_n 1, 1, 0, 0, 0, []), (300, .invokevirtual 34, 3, 53, 1, 12, []), (303, .aload_n 2, 1, 0, 0, 0, []), (304, .invokevirtual 37, 3, 217, 1, 15, []), (307, .if_icmp .eq 865, 3, 1172, 0, 0, []), (310, .iconst 0, 1, 0, 0, 0, []), (311, .ireturn, 1, 2, 0, 0, []), (312, .aload_n 1, 1, 0, 0, 0, []), (313, .aload_n 0, 1, 0, 0, 0, []), (314, .iload 4, 2, 0, 0, 0, []), (316, .iconst 1, 1, 0, 0, 0, []), (317, .iadd, 1, 0, 0, 0, []), (318, .iaload, 1, 0, 0, 0, []), (319, .aload_n 0, 1, 0, 0, 0, []), (320, .iload 4, 2, 0, 0, 0, []), (322, .iconst 2, 1, 0, 0, 0, []), (323, .iadd, 1, 0, 0, 0, []), (324, .iaload, 1, 0, 0, 0, []), (325, .invokevirtual 38, 3, 54, 3, 12, []), (328, .aload_n 2, 1, 0, 0, 0, []), (329, .aload_n 0, 1, 0, 0, 0, []), (330, .iload 4, 2, 0, 0, 0, []), (332, .iconst 1, 1, 0, 0, 0, []), (333, .iadd, 1, 0, 0, 0, []), (334, .iaload, 1, 0, 0, 0, []), (335, .aload_n 0, 1, 0, 0, 0, []), (336, .iload 4, 2, 0, 0, 0, []), (338, .iconst 2, 1, 0, 0, 0, []), (339, .iadd, 1, 0, 0, 0, []), (340, .iaload, 1, 0, 0, 0, []), (341, .invokevirtual 41, 3, 218, 3, 15, []), (344, .if_icmp .eq 828, 3, 1172, 0, 0, []), (347, .iconst 0, 1, 0, 0, 0, []), (348, .ireturn, 1, 2, 0, 0, []), (349, .aload_n 1, 1, 0, 0, 0, []), (350, .aload_n 0, 1, 0, 0, 0, []), (351, .iload 4, 2, 0, 0, 0, []), (353, .iconst 1, 1, 0, 0, 0, []), (354, .iadd, 1, 0, 0, 0, []), (355, .iaload, 1, 0, 0, 0, []), (356, .aload_n 0, 1, 0, 0, 0, []), (357, .iload 4, 2, 0, 0, 0, []), (359, .iconst 2, 1, 0, 0, 0, []), (360, .iadd, 1, 0, 0, 0, []), (361, .iaload, 1, 0, 0, 0, []), (362, .aload_n 0, 1, 0, 0, 0, []), (363, .iload 4, 2, 0, 0, 0, []), (365, .iconst 3, 1, 0, 0, 0, []), (366, .iadd, 1, 0, 0, 0, []), (367, .iaload, 1, 0, 0, 0, []), (368, .aload_n 0, 1, 0, 0, 0, []), (369, .iload 4, 2, 0, 0, 0, []), (371, .iconst 4, 1, 0, 0, 0, []), (372, .iadd, 1, 0, 0, 0, []), (373, .iaload, 1, 0, 0, 0, []), (374, .ifCond .eq 7, 3, 381, 0, 0, []), (377, .iconst 1, 1, 0, 0, 0, []), (378, .goto 4, 3, 382, 0, 0, []), (381, .iconst 0, 1, 0, 0, 0, []), (382, .invokevirtual 42, 3, 67, 5, 12, []), (385, .aload_n 2, 1, 0, 0, 0, []), (386, .aload_n 0, 1, 0, 0, 0, []), (387, .iload 4, 2, 0, 0, 0, []), (389, .iconst 1, 1, 0, 0, 0, []), (390, .iadd, 1, 0, 0, 0, []), (391, .iaload, 1, 0, 0, 0, []), (392, .aload_n 0, 1, 0, 0, 0, []), (393, .iload 4, 2, 0, 0, 0, []), (395, .iconst 2, 1, 0, 0, 0, []), (396, .iadd, 1, 0, 0, 0, []), (397, .iaload, 1, 0, 0, 0, []), (398, .aload_n 0, 1, 0, 0, 0, []), (399, .iload 4, 2, 0, 0, 0, []), (401, .iconst 3, 1, 0, 0, 0, []), (402, .iadd, 1, 0, 0, 0, []), (403, .iaload, 1, 0, 0, 0, []), (404, .aload_n 0, 1, 0, 0, 0, []), (405, .iload 4, 2, 0, 0, 0, []), (407, .iconst 4, 1, 0, 0, 0, []), (408, .iadd, 1, 0, 0, 0, []), (409, .iaload, 1, 0, 0, 0, []), (410, .ifCond .eq 7, 3, 417, 0, 0, []), (413, .iconst 1, 1, 0, 0, 0, []), (414, .goto 4, 3, 418, 0, 0, []), (417, .iconst 0, 1, 0, 0, 0, []), (418, .invokevirtual 46, 3, 220, 5, 15, []), (421, .if_icmp .eq 751, 3, 1172, 0, 0, []), (424, .iconst 0, 1, 0, 0, 0, []), (425, .ireturn, 1, 2, 0, 0, []), (426, .aload_n 1, 1, 0, 0, 0, []), (427, .aload_n 0, 1, 0, 0, 0, []), (428, .iload 4, 2, 0, 0, 0, []), (430, .iconst 1, 1, 0, 0, 0, []), (431, .iadd, 1, 0, 0, 0, []), (432, .iaload, 1, 0, 0, 0, []), (433, .aload_n 0, 1, 0, 0, 0, []), (434, .iload 4, 2, 0, 0, 0, []), (436, .iconst 2, 1, 0, 0, 0, []), (437, .iadd, 1, 0, 0, 0, []), (438, .iaload, 1, 0, 0, 0, []), (439, .invokevirtual 47, 3, 72, 3, 12, []), (442, .aload_n 2, 1, 0, 0, 0, []), (443, .aload_n 0, 1, 0, 0, 0, []), (444, .iload 4, 2, 0, 0, 0, []), (446, .iconst 1, 1, 0, 0, 0, []), (447, .iadd, 1, 0, 0, 0, []), (448, .iaload, 1, 0, 0, 0, []), (449, .aload_n 0, 1, 0, 0, 0, []), (450, .iload 4, 2, 0, 0, 0, []), (452, .iconst 2, 1, 0, 0, 0, []), (453, .iadd, 1, 0, 0, 0, []), (454, .iaload, 1, 0, 0, 0, []), (455, .invokevirtual 51, 3, 224, 3, 15, []), (458, .if_icmp .eq 714, 3, 1172, 0, 0, []), (461, .iconst 0, 1, 0, 0, 0, []), (462, .ireturn, 1, 2, 0, 0, []), (463, .aload_n 1, 1, 0, 0, 0, []), (464, .aload_n 0, 1, 0, 0, 0, []), (465, .iload 4, 2, 0, 0, 0, []), (467, .iconst 1, 1, 0, 0, 0, []), (468, .iadd, 1, 0, 0, 0, []), (469, .iaload, 1, 0, 0, 0, []), (470, .aload_n 0, 1, 0, 0, 0, []), (471, .iload 4, 2, 0, 0, 0, []), (473, .iconst 2, 1, 0, 0, 0, []), (474, .iadd, 1, 0, 0, 0, []), (475, .iaload, 1, 0, 0, 0, []), (476, .invokevirtual 52, 3, 76, 3, 12, []), (479, .aload_n 2, 1, 0, 0, 0, []), (480, .aload_n 0, 1, 0, 0, 0, []), (481, .iload 4, 2, 0, 0, 0, []), (483, .iconst 1, 1, 0, 0, 0, []), (484, .iadd, 1, 0, 0, 0, []), (485, .iaload, 1, 0, 0, 0, []), (486, .aload_n 0, 1, 0, 0, 0, []), (487, .iload 4, 2, 0, 0, 0, []), (489, .iconst 2, 1, 0, 0, 0, []), (490, .iadd, 1, 0, 0, 0, []), (491, .iaload, 1, 0, 0, 0, []), (492, .invokevirtual 55, 3, 226, 3, 15, []), (495, .if_icmp .eq 677, 3, 1172, 0, 0, []), (498, .iconst 0, 1, 0, 0, 0, []), (499, .ireturn, 1, 2, 0, 0, []), (500, .aload_n 1, 1, 0, 0, 0, []), (501, .aload_n 0, 1, 0, 0, 0, []), (502, .iload 4, 2, 0, 0, 0, []), (504, .iconst 1, 1, 0, 0, 0, []), (505, .iadd, 1, 0, 0, 0, []), (506, .iaload, 1, 0, 0, 0, []), (507, .aload_n 0, 1, 0, 0, 0, []), (508, .iload 4, 2, 0, 0, 0, []), (510, .iconst 2, 1, 0, 0, 0, []), (511, .iadd, 1, 0, 0, 0, []), (512, .iaload, 1, 0, 0, 0, []), (513, .invokevirtual 56, 3, 77, 3, 12, []), (516, .aload_n 2, 1, 0, 0, 0, []), (517, .aload_n 0, 1, 0, 0, 0, []), (518, .iload 4, 2, 0, 0, 0, []), (520, .iconst 1, 1, 0, 0, 0, []), (521, .iadd, 1, 0, 0, 0, []), (522, .iaload, 1, 0, 0, 0, []), (523, .aload_n 0, 1, 0, 0, 0, []), (524, .iload 4, 2, 0, 0, 0, []), (526, .iconst 2, 1, 0, 0, 0, []), (527, .iadd, 1, 0, 0, 0, []), (528, .iaload, 1, 0, 0, 0, []), (529, .invokevirtual 59, 3, 227, 3, 15, []), (532, .if_icmp .eq 640, 3, 1172, 0, 0, []), (535, .iconst 0, 1, 0, 0, 0, []), (536, .ireturn, 1, 2, 0, 0, []), (537, .aload_n 1, 1, 0, 0, 0, []), (538, .aload_n 0, 1, 0, 0, 0, []), (539, .iload 4, 2, 0, 0, 0, []), (541, .iconst 1, 1, 0, 0, 0, []), (542, .iadd, 1, 0, 0, 0, []), (543, .iaload, 1, 0, 0, 0, []), (544, .aload_n 0, 1, 0, 0, 0, []), (545, .iload 4, 2, 0, 0, 0, []), (547, .iconst 2, 1, 0, 0, 0, []), (548, .iadd, 1, 0, 0, 0, []), (549, .iaload, 1, 0, 0, 0, []), (550, .invokevirtual 60, 3, 78, 3, 12, []), (553, .aload_n 2, 1, 0, 0, 0, []), (554, .aload_n 0, 1, 0, 0, 0, []), (555, .iload 4, 2, 0, 0, 0, []), (557, .iconst 1, 1, 0, 0, 0, []), (558, .iadd, 1, 0, 0, 0, []), (559, .iaload, 1, 0, 0, 0, []), (560, .aload_n 0, 1, 0, 0, 0, []), (561, .iload 4, 2, 0, 0, 0, []), (563, .iconst 2, 1, 0, 0, 0, []), (564, .iadd, 1, 0, 0, 0, []), (565, .iaload, 1, 0, 0, 0, []), (566, .invokevirtual 63, 3, 228, 3, 15, []), (569, .if_icmp .eq 603, 3, 1172, 0, 0, []), (572, .iconst 0, 1, 0, 0, 0, []), (573, .ireturn, 1, 2, 0, 0, []), (574, .aload_n 1, 1, 0, 0, 0, []), (575, .aload_n 0, 1, 0, 0, 0, []), (576, .iload 4, 2, 0, 0, 0, []), (578, .iconst 1, 1, 0, 0, 0, []), (579, .iadd, 1, 0, 0, 0, []), (580, .iaload, 1, 0, 0, 0, []), (581, .aload_n 0, 1, 0, 0, 0, []), (582, .iload 4, 2, 0, 0, 0, []), (584, .iconst 2, 1, 0, 0, 0, []), (585, .iadd, 1, 0, 0, 0, []), (586, .iaload, 1, 0, 0, 0, []), (587, .invokevirtual 64, 3, 79, 3, 12, []), (590, .aload_n 2, 1, 0, 0, 0, []), (591, .aload_n 0, 1, 0, 0, 0, []), (592, .iload 4, 2, 0, 0, 0, []), (594, .iconst 1, 1, 0, 0, 0, []), (595, .iadd, 1, 0, 0, 0, []), (596, .iaload, 1, 0, 0, 0, []), (597, .aload_n 0, 1, 0, 0, 0, []), (598, .iload 4, 2, 0, 0, 0, []), (600, .iconst 2, 1, 0, 0, 0, []), (601, .iadd, 1, 0, 0, 0, []), (602, .iaload, 1, 0, 0, 0, []), (603, .invokevirtual 67, 3, 229, 3, 15, []), (606, .if_icmp .eq 566, 3, 1172, 0, 0, []), (609, .iconst 0, 1, 0, 0, 0, []), (610, .ireturn, 1, 2, 0, 0, []), (611, .aload_n 1, 1, 0, 0, 0, []), (612, .aload_n 0, 1, 0, 0, 0, []), (613, .iload 4, 2, 0, 0, 0, []), (615, .iconst 1, 1, 0, 0, 0, []), (616, .iadd, 1, 0, 0, 0, []), (617, .iaload, 1, 0, 0, 0, []), (618, .aload_n 0, 1, 0, 0, 0, []), (619, .iload 4, 2, 0, 0, 0, []), (621, .iconst 2, 1, 0, 0, 0, []), (622, .iadd, 1, 0, 0, 0, []), (623, .iaload, 1, 0, 0, 0, []), (624, .invokevirtual 68, 3, 81, 3, 12, []), (627, .aload_n 2, 1, 0, 0, 0, []), (628, .aload_n 0, 1, 0, 0, 0, []), (629, .iload 4, 2, 0, 0, 0, []), (631, .iconst 1, 1, 0, 0, 0, []), (632, .iadd, 1, 0, 0, 0, []), (633, .iaload, 1, 0, 0, 0, []), (634, .aload_n 0, 1, 0, 0, 0, []), (635, .iload 4, 2, 0, 0, 0, []), (637, .iconst 2, 1, 0, 0, 0, []), (638, .iadd, 1, 0, 0, 0, []), (639, .iaload, 1, 0, 0, 0, []), (640, .invokevirtual 71, 3, 235, 3, 15, []), (643, .if_icmp .eq 529, 3, 1172, 0, 0, []), (646, .iconst 0, 1, 0, 0, 0, []), (647, .ireturn, 1, 2, 0, 0, []), (648, .aload_n 1, 1, 0, 0, 0, []), (649, .aload_n 0, 1, 0, 0, 0, []), (650, .iload 4, 2, 0, 0, 0, []), (652, .iconst 1, 1, 0, 0, 0, []), (653, .iadd, 1, 0, 0, 0, []), (654, .iaload, 1, 0, 0, 0, []), (655, .invokevirtual 72, 3, 83, 2, 12, []), (658, .aload_n 2, 1, 0, 0, 0, []), (659, .aload_n 0, 1, 0, 0, 0, []), (660, .iload 4, 2, 0, 0, 0, []), (662, .iconst 1, 1, 0, 0, 0, []), (663, .iadd, 1, 0, 0, 0, []), (664, .iaload, 1, 0, 0, 0, []), (665, .invokevirtual 75, 3, 236, 2, 15, []), (668, .if_icmp .eq 504, 3, 1172, 0, 0, []), (671, .iconst 0, 1, 0, 0, 0, []), (672, .ireturn, 1, 2, 0, 0, []), (673, .aload_n 1, 1, 0, 0, 0, []), (674, .aload_n 0, 1, 0, 0, 0, []), (675, .iload 4, 2, 0, 0, 0, []), (677, .iconst 1, 1, 0, 0, 0, []), (678, .iadd, 1, 0, 0, 0, []), (679, .iaload, 1, 0, 0, 0, []), (680, .invokevirtual 76, 3, 84, 2, 12, []), (683, .aload_n 2, 1, 0, 0, 0, []), (684, .aload_n 0, 1, 0, 0, 0, []), (685, .iload 4, 2, 0, 0, 0, []), (687, .iconst 1, 1, 0, 0, 0, []), (688, .iadd, 1, 0, 0, 0, []), (689, .iaload, 1, 0, 0, 0, []), (690, .invokevirtual 79, 3, 237, 2, 15, []), (693, .if_icmp .eq 479, 3, 1172, 0, 0, []), (696, .iconst 0, 1, 0, 0, 0, []), (697, .ireturn, 1, 2, 0, 0, []), (698, .aload_n 1, 1, 0, 0, 0, []), (699, .aload_n 0, 1, 0, 0, 0, []), (700, .iload 4, 2, 0, 0, 0, []), (702, .iconst 1, 1, 0, 0, 0, []), (703, .iadd, 1, 0, 0, 0, []), (704, .iaload, 1, 0, 0, 0, []), (705, .invokevirtual 80, 3, 87, 2, 12, []), (708, .aload_n 2, 1, 0, 0, 0, []), (709, .aload_n 0, 1, 0, 0, 0, []), (710, .iload 4, 2, 0, 0, 0, []), (712, .iconst 1, 1, 0, 0, 0, []), (713, .iadd, 1, 0, 0, 0, []), (714, .iaload, 1, 0, 0, 0, []), (715, .invokevirtual 83, 3, 240, 2, 15, []), (718, .if_icmp .eq 454, 3, 1172, 0, 0, []), (721, .iconst 0, 1, 0, 0, 0, []), (722, .ireturn, 1, 2, 0, 0, []), (723, .aload_n 1, 1, 0, 0, 0, []), (724, .invokevirtual 84, 3, 104, 1, 12, []), (727, .aload_n 2, 1, 0, 0, 0, []), (728, .invokevirtual 87, 3, 250, 1, 15, []), (731, .if_icmp .eq 441, 3, 1172, 0, 0, []), (734, .iconst 0, 1, 0, 0, 0, []), (735, .ireturn, 1, 2, 0, 0, []), (736, .aload_n 1, 1, 0, 0, 0, []), (737, .invokevirtual 88, 3, 112, 1, 12, []), (740, .aload_n 2, 1, 0, 0, 0, []), (741, .invokevirtual 91, 3, 254, 1, 15, []), (744, .if_icmp .eq 428, 3, 1172, 0, 0, []), (747, .iconst 0, 1, 0, 0, 0, []), (748, .ireturn, 1, 2, 0, 0, []), (749, .aload_n 1, 1, 0, 0, 0, []), (750, .aload_n 0, 1, 0, 0, 0, []), (751, .iload 4, 2, 0, 0, 0, []), (753, .iconst 1, 1, 0, 0, 0, []), (754, .iadd, 1, 0, 0, 0, []), (755, .iaload, 1, 0, 0, 0, []), (756, .aload_n 0, 1, 0, 0, 0, []), (757, .iload 4, 2, 0, 0, 0, []), (759, .iconst 2, 1, 0, 0, 0, []), (760, .iadd, 1, 0, 0, 0, []), (761, .iaload, 1, 0, 0, 0, []), (762, .invokevirtual 92, 3, 113, 3, 12, []), (765, .aload_n 2, 1, 0, 0, 0, []), (766, .aload_n 0, 1, 0, 0, 0, []), (767, .iload 4, 2, 0, 0, 0, []), (769, .iconst 1, 1, 0, 0, 0, []), (770, .iadd, 1, 0, 0, 0, []), (771, .iaload, 1, 0, 0, 0, []), (772, .aload_n 0, 1, 0, 0, 0, []), (773, .iload 4, 2, 0, 0, 0, []), (775, .iconst 2, 1, 0, 0, 0, []), (776, .iadd, 1, 0, 0, 0, []), (777, .iaload, 1, 0, 0, 0, []), (778, .invokevirtual 95, 3, 255, 3, 15, []), (781, .if_icmp .eq 391, 3, 1172, 0, 0, []), (784, .iconst 0, 1, 0, 0, 0, []), (785, .ireturn, 1, 2, 0, 0, []), (786, .aload_n 1, 1, 0, 0, 0, []), (787, .aload_n 0, 1, 0, 0, 0, []), (788, .iload 4, 2, 0, 0, 0, []), (790, .iconst 1, 1, 0, 0, 0, []), (791, .iadd, 1, 0, 0, 0, []), (792, .iaload, 1, 0, 0, 0, []), (793, .invokevirtual 96, 3, 114, 2, 12, []), (796, .aload_n 2, 1, 0, 0, 0, []), (797, .aload_n 0, 1, 0, 0, 0, []), (798, .iload 4, 2, 0, 0, 0, []), (800, .iconst 1, 1, 0, 0, 0, []), (801, .iadd, 1, 0, 0, 0, []), (802, .iaload, 1, 0, 0, 0, []), (803, .invokevirtual 99, 3, 256, 2, 15, []), (806, .if_icmp .eq 366, 3, 1172, 0, 0, []), (809, .iconst 0, 1, 0, 0, 0, []), (810, .ireturn, 1, 2, 0, 0, []), (811, .aload_n 1, 1, 0, 0, 0, []), (812, .invokevirtual 100, 3, 115, 1, 12, []), (815, .aload_n 2, 1, 0, 0, 0, []), (816, .invokevirtual 103, 3, 257, 1, 15, []), (819, .if_icmp .eq 353, 3, 1172, 0, 0, []), (822, .iconst 0, 1, 0, 0, 0, []), (823, .ireturn, 1, 2, 0, 0, []), (824, .aload_n 1, 1, 0, 0, 0, []), (825, .aload_n 0, 1, 0, 0, 0, []), (826, .iload 4, 2, 0, 0, 0, []), (828, .iconst 1, 1, 0, 0, 0, []), (829, .iadd, 1, 0, 0, 0, []), (830, .iaload, 1, 0, 0, 0, []), (831, .invokevirtual 104, 3, 120, 2, 12, []), (834, .aload_n 2, 1, 0, 0, 0, []), (835, .aload_n 0, 1, 0, 0, 0, []), (836, .iload 4, 2, 0, 0, 0, []), (838, .iconst 1, 1, 0, 0, 0, []), (839, .iadd, 1, 0, 0, 0, []), (840, .iaload, 1, 0, 0, 0, []), (841, .invokevirtual 107, 3, 259, 2, 15, []), (844, .if_icmp .eq 328, 3, 1172, 0, 0, []), (847, .iconst 0, 1, 0, 0, 0, []), (848, .ireturn, 1, 2, 0, 0, []), (849, .aload_n 1, 1, 0, 0, 0, []), (850, .invokevirtual 108, 3, 132, 1, 12, []), (853, .aload_n 2, 1, 0, 0, 0, []), (854, .invokevirtual 111, 3, 263, 1, 15, []), (857, .if_icmp .eq 315, 3, 1172, 0, 0, []), (860, .iconst 0, 1, 0, 0, 0, []), (861, .ireturn, 1, 2, 0, 0, []), (862, .aload_n 1, 1, 0, 0, 0, []), (863, .aload_n 0, 1, 0, 0, 0, []), (864, .iload 4, 2, 0, 0, 0, []), (866, .iconst 1, 1, 0, 0, 0, []), (867, .iadd, 1, 0, 0, 0, []), (868, .iaload, 1, 0, 0, 0, []), (869, .ifCond .eq 7, 3, 876, 0, 0, []), (872, .iconst 1, 1, 0, 0, 0, []), (873, .goto 4, 3, 877, 0, 0, []), (876, .iconst 0, 1, 0, 0, 0, []), (877, .invokevirtual 112, 3, 133, 2, 12, []), (880, .aload_n 2, 1, 0, 0, 0, []), (881, .aload_n 0, 1, 0, 0, 0, []), (882, .iload 4, 2, 0, 0, 0, []), (884, .iconst 1, 1, 0, 0, 0, []), (885, .iadd, 1, 0, 0, 0, []), (886, .iaload, 1, 0, 0, 0, []), (887, .ifCond .eq 7, 3, 894, 0, 0, []), (890, .iconst 1, 1, 0, 0, 0, []), (891, .goto 4, 3, 895, 0, 0, []), (894, .iconst 0, 1, 0, 0, 0, []), (895, .invokevirtual 116, 3, 264, 2, 15, []), (898, .if_icmp .eq 274, 3, 1172, 0, 0, []), (901, .iconst 0, 1, 0, 0, 0, []), (902, .ireturn, 1, 2, 0, 0, []), (903, .aload_n 1, 1, 0, 0, 0, []), (904, .aload_n 0, 1, 0, 0, 0, []), (905, .iload 4, 2, 0, 0, 0, []), (907, .iconst 1, 1, 0, 0, 0, []), (908, .iadd, 1, 0, 0, 0, []), (909, .iaload, 1, 0, 0, 0, []), (910, .invokevirtual 117, 3, 146, 2, 12, []), (913, .aload_n 2, 1, 0, 0, 0, []), (914, .aload_n 0, 1, 0, 0, 0, []), (915, .iload 4, 2, 0, 0, 0, []), (917, .iconst 1, 1, 0, 0, 0, []), (918, .iadd, 1, 0, 0, 0, []), (919, .iaload, 1, 0, 0, 0, []), (920, .invokevirtual 120, 3, 265, 2, 15, []), (923, .if_icmp .eq 249, 3, 1172, 0, 0, []), (926, .iconst 0, 1, 0, 0, 0, []), (927, .ireturn, 1, 2, 0, 0, []), (928, .aload_n 1, 1, 0, 0, 0, []), (929, .aload_n 0, 1, 0, 0, 0, []), (930, .iload 4, 2, 0, 0, 0, []), (932, .iconst 1, 1, 0, 0, 0, []), (933, .iadd, 1, 0, 0, 0, []), (934, .iaload, 1, 0, 0, 0, []), (935, .aload_n 0, 1, 0, 0, 0, []), (936, .iload 4, 2, 0, 0, 0, []), (938, .iconst 2, 1, 0, 0, 0, []), (939, .iadd, 1, 0, 0, 0, []), (940, .iaload, 1, 0, 0, 0, []), (941, .aload_n 3, 1, 0, 0, 0, []), (942, .invokestatic 121, 3, 176, 4, 0, []), (945, .istore 5, 2, 0, 0, 0, []), (947, .aload_n 2, 1, 0, 0, 0, []), (948, .aload_n 0, 1, 0, 0, 0, []), (949, .iload 4, 2, 0, 0, 0, []), (951, .iconst 1, 1, 0, 0, 0, []), (952, .iadd, 1, 0, 0, 0, []), (953, .iaload, 1, 0, 0, 0, []), (954, .aload_n 0, 1, 0, 0, 0, []), (955, .iload 4, 2, 0, 0, 0, []), (957, .iconst 2, 1, 0, 0, 0, []), (958, .iadd, 1, 0, 0, 0, []), (959, .iaload, 1, 0, 0, 0, []), (960, .invokevirtual 126, 3, 269, 3, 15, []), (963, .istore 6, 2, 0, 0, 0, []), (965, .aload_n 2, 1, 0, 0, 0, []), (966, .invokevirtual 127, 3, 184, 1, 15, []), (969, .iload 5, 2, 0, 0, 0, []), (971, .if_icmp .eq 5, 3, 976, 0, 0, []), (974, .iconst 0, 1, 0, 0, 0, []), (975, .ireturn, 1, 2, 0, 0, []), (976, .iload 5, 2, 0, 0, 0, []), (978, .ifCond .ne 15, 3, 993, 0, 0, []), (981, .aload_n 3, 1, 0, 0, 0, []), (982, .iconst 0, 1, 0, 0, 0, []), (983, .laload, 1, 0, 0, 0, []), (984, .iload 6, 2, 0, 0, 0, []), (986, .i2l, 1, 0, 0, 0, []), (987, .lcmp, 1, 0, 0, 0, []), (988, .ifCond .eq 5, 3, 993, 0, 0, []), (991, .iconst 0, 1, 0, 0, 0, []), (992, .ireturn, 1, 2, 0, 0, []), (993, .goto 179, 3, 1172, 0, 0, []), (996, .aload_n 1, 1, 0, 0, 0, []), (997, .aload_n 0, 1, 0, 0, 0, []), (998, .iload 4, 2, 0, 0, 0, []), (1000, .iconst 1, 1, 0, 0, 0, []), (1001, .iadd, 1, 0, 0, 0, []), (1002, .iaload, 1, 0, 0, 0, []), (1003, .invokevirtual 130, 3, 151, 2, 12, []), (1006, .aload_n 2, 1, 0, 0, 0, []), (1007, .aload_n 0, 1, 0, 0, 0, []), (1008, .iload 4, 2, 0, 0, 0, []), (1010, .iconst 1, 1, 0, 0, 0, []), (1011, .iadd, 1, 0, 0, 0, []), (1012, .iaload, 1, 0, 0, 0, []), (1013, .invokevirtual 133, 3, 270, 2, 15, []), (1016, .if_icmp .eq 156, 3, 1172, 0, 0, []), (1019, .iconst 0, 1, 0, 0, 0, []), (1020, .ireturn, 1, 2, 0, 0, []), (1021, .aload_n 1, 1, 0, 0, 0, []), (1022, .aload_n 0, 1, 0, 0, 0, []), (1023, .iload 4, 2, 0, 0, 0, []), (1025, .iconst 1, 1, 0, 0, 0, []), (1026, .iadd, 1, 0, 0, 0, []), (1027, .iaload, 1, 0, 0, 0, []), (1028, .aload_n 0, 1, 0, 0, 0, []), (1029, .iload 4, 2, 0, 0, 0, []), (1031, .iconst 2, 1, 0, 0, 0, []), (1032, .iadd, 1, 0, 0, 0, []), (1033, .iaload, 1, 0, 0, 0, []), (1034, .aload_n 0, 1, 0, 0, 0, []), (1035, .iload 4, 2, 0, 0, 0, []), (1037, .iconst 3, 1, 0, 0, 0, []), (1038, .iadd, 1, 0, 0, 0, []), (1039, .iaload, 1, 0, 0, 0, []), (1040, .invokevirtual 134, 3, 153, 4, 12, []), (1043, .aload_n 2, 1, 0, 0, 0, []), (1044, .aload_n 0, 1, 0, 0, 0, []), (1045, .iload 4, 2, 0, 0, 0, []), (1047, .iconst 1, 1, 0, 0, 0, []), (1048, .iadd, 1, 0, 0, 0, []), (1049, .iaload, 1, 0, 0, 0, []), (1050, .aload_n 0, 1, 0, 0, 0, []), (1051, .iload 4, 2, 0, 0, 0, []), (1053, .iconst 2, 1, 0, 0, 0, []), (1054, .iadd, 1, 0, 0, 0, []), (1055, .iaload, 1, 0, 0, 0, []), (1056, .aload_n 0, 1, 0, 0, 0, []), (1057, .iload 4, 2, 0, 0, 0, []), (1059, .iconst 3, 1, 0, 0, 0, []), (1060, .iadd, 1, 0, 0, 0, []), (1061, .iaload, 1, 0, 0, 0, []), (1062, .invokevirtual 138, 3, 271, 4, 15, []), (1065, .if_icmp .eq 107, 3, 1172, 0, 0, []), (1068, .iconst 0, 1, 0, 0, 0, []), (1069, .ireturn, 1, 2, 0, 0, []), (1070, .aload_n 1, 1, 0, 0, 0, []), (1071, .invokevirtual 139, 3, 158, 1, 12, []), (1074, .aload_n 2, 1, 0, 0, 0, []), (1075, .invokevirtual 142, 3, 273, 1, 15, []), (1078, .if_icmp .eq 94, 3, 1172, 0, 0, []), (1081, .iconst 0, 1, 0, 0, 0, []), (1082, .ireturn, 1, 2, 0, 0, []), (1083, .aload_n 1, 1, 0, 0, 0, []), (1084, .aload_n 0, 1, 0, 0, 0, []), (1085, .iload 4, 2, 0, 0, 0, []), (1087, .iconst 1, 1, 0, 0, 0, []), (1088, .iadd, 1, 0, 0, 0, []), (1089, .iaload, 1, 0, 0, 0, []), (1090, .invokevirtual 143, 3, 159, 2, 12, []), (1093, .aload_n 2, 1, 0, 0, 0, []), (1094, .aload_n 0, 1, 0, 0, 0, []), (1095, .iload 4, 2, 0, 0, 0, []), (1097, .iconst 1, 1, 0, 0, 0, []), (1098, .iadd, 1, 0, 0, 0, []), (1099, .iaload, 1, 0, 0, 0, []), (1100, .invokevirtual 146, 3, 274, 2, 15, []), (1103, .if_icmp .eq 69, 3, 1172, 0, 0, []), (1106, .iconst 0, 1, 0, 0, 0, []), (1107, .ireturn, 1, 2, 0, 0, []), (1108, .aload_n 1, 1, 0, 0, 0, []), (1109, .invokevirtual 147, 3, 164, 1, 12, []), (1112, .aload_n 2, 1, 0, 0, 0, []), (1113, .invokevirtual 150, 3, 275, 1, 15, []), (1116, .if_icmp .eq 56, 3, 1172, 0, 0, []), (1119, .iconst 0, 1, 0, 0, 0, []), (1120, .ireturn, 1, 2, 0, 0, []), (1121, .aload_n 1, 1, 0, 0, 0, []), (1122, .invokevirtual 151, 3, 165, 1, 12, []), (1125, .aload_n 2, 1, 0, 0, 0, []), (1126, .invokevirtual 154, 3, 276, 1, 15, []), (1129, .if_icmp .eq 43, 3, 1172, 0, 0, []), (1132, .iconst 0, 1, 0, 0, 0, []), (1133, .ireturn, 1, 2, 0, 0, []), (1134, .aload_n 1, 1, 0, 0, 0, []), (1135, .aload_n 0, 1, 0, 0, 0, []), (1136, .iload 4, 2, 0, 0, 0, []), (1138, .iconst 1, 1, 0, 0, 0, []), (1139, .iadd, 1, 0, 0, 0, []), (1140, .iaload, 1, 0, 0, 0, []), (1141, .invokevirtual 155, 3, 173, 2, 12, []), (1144, .aload_n 2, 1, 0, 0, 0, []), (1145, .aload_n 0, 1, 0, 0, 0, []), (1146, .iload 4, 2, 0, 0, 0, []), (1148, .iconst 1, 1, 0, 0, 0, []), (1149, .iadd, 1, 0, 0, 0, []), (1150, .iaload, 1, 0, 0, 0, []), (1151, .invokevirtual 158, 3, 279, 2, 15, []), (1154, .if_icmp .eq 18, 3, 1172, 0, 0, []), (1157, .iconst 0, 1, 0, 0, 0, []), (1158, .ireturn, 1, 2, 0, 0, []), (1159, .aload_n 1, 1, 0, 0, 0, []), (1160, .invokevirtual 159, 3, 175, 1, 12, []), (1163, .aload_n 2, 1, 0, 0, 0, []), (1164, .invokevirtual 162, 3, 280, 1, 15, []), (1167, .if_icmp .eq 5, 3, 1172, 0, 0, []), (1170, .iconst 0, 1, 0, 0, 0, []), (1171, .ireturn, 1, 2, 0, 0, []), (1172, .iinc 4 6, 3, 0, 0, 0, []), (1175, .goto (-1152), 3, 23, 0, 0, []), (1178, .iconst 1, 1, 0, 0, 0, []), (1179, .ireturn, 1, 2, 0, 0, [])]
/-- WholeFields.<init>()V -/
def k_WF_init : Cd9 := [(0, .aload_n 0, 1, 0, 0, 0, []), (1, .invokespecial 1, 3, 0, 0, 50, []), (4, .aload_n 0, 1, 0, 0, 0, []), (5, .sipush 500, 3, 0, 0, 0, []), (8, .newarray .byte, 2, 37, 500, 1, []), (10, .putfield 9, 3, 11, 0, 2, []), (13, .aload_n 0, 1, 0, 0, 0, []), (14, .new 13, 3, 7, 13, 0, []), (17, .dup, 1, 0, 0, 0, []), (18, .aload_n 0, 1, 0, 0, 0, []), (19, .getfield 9, 3, 11, 0, 2, []), (22, .invokespecial 15, 3, 2, 2, 8, []), (25, .putfield 18, 3, 11, 1, 2, []), (28, .aload_n 0, 1, 0, 0, 0, []), (29, .new 22, 3, 5, 16, 0, []), (32, .dup, 1, 0, 0, 0, []), (33, .invokespecial 24, 3, 5, 1, 6, []), (36, .putfield 25, 3, 11, 2, 2, []), (39, .aload_n 0, 1, 0, 0, 0, []), (40, .new 29, 3, 3, 4, 0, []), (43, .dup, 1, 0, 0, 0, []), (44, .aload_n 0, 1, 0, 0, 0, []), (45, .getfield 25, 3, 11, 2, 2, []), (48, .invokespecial 31, 3, 6, 2, 4, []), (51, .putfield 34, 3, 11, 3, 2, []), (54, .aload_n 0, 1, 0, 0, 0, []), (55, .new 38, 3, 0, 2, 0, []), (58, .dup, 1, 0, 0, 0, []), (59, .aload_n 0, 1, 0, 0, 0, []), (60, .getfield 25, 3, 11, 2, 2, []), (63, .aload_n 0, 1, 0, 0, 0, []), (64, .getfield 34, 3, 11, 3, 2, []), (67, .invokespecial 40, 3, 7, 3, 1, []), (70, .putfield 43, 3, 11, 4, 2, []), (73, .aload_n 0, 1, 0, 0, 0, []), (74, .new 47, 3, 6, 11, 0, []), (77, .dup, 1, 0, 0, 0, []), (78, .aload_n 0, 1, 0, 0, 0, []), (79, .getfield 25, 3, 11, 2, 2, []), (82, .aload_n 0, 1, 0, 0, 0, []), (83, .getfield 34, 3, 11, 3, 2, []), (86, .aload_n 0, 1, 0, 0, 0, []), (87, .getfield 43, 3, 11, 4, 2, []), (90, .invokespecial 49, 3, 8, 4, 7, []), (93, .putfield 52, 3, 11, 5, 2, []), (96, .aload_n 0, 1, 0, 0, 0, []), (97, .new 56, 3, 4, 16, 0, []), (100, .dup, 1, 0, 0, 0, []), (101, .aload_n 0, 1, 0, 0, 0, []), (102, .getfield 25, 3, 11, 2, 2, []), (105, .aload_n 0, 1, 0, 0, 0, []), (106, .getfield 34, 3, 11, 3, 2, []), (109, .invokespecial 58, 3, 9, 3, 5, []), (112, .putfield 59, 3, 11, 6, 2, []), (115, .aload_n 0, 1, 0, 0, 0, []), (116, .new 63, 3, 10, 5, 0, []), (119, .dup, 1, 0, 0, 0, []), (120, .aload_n 0, 1, 0, 0, 0, []), (121, .getfield 25, 3, 11, 2, 2, []), (124, .invokespecial 65, 3, 10, 2, 11, []), (127, .putfield 66, 3, 11, 7, 2, []), (130, .aload_n 0, 1, 0, 0, 0, []), (131, .new 70, 3, 9, 8, 0, []), (134, .dup, 1, 0, 0, 0, []), (135, .aload_n 0, 1, 0, 0, 0, []), (136, .getfield 25, 3, 11, 2, 2, []), (139, .invokespecial 72, 3, 11, 2, 10, []), (142, .putfield 73, 3, 11, 8, 2, []), (145, .aload_n 0, 1, 0, 0, 0, []), (146, .new 77, 3, 2, 6, 0, []), (149, .dup, 1, 0, 0, 0, []), (150, .aload_n 0, 1, 0, 0, 0, []), (151, .getfield 25, 3, 11, 2, 2, []), (154, .aload_n 0, 1, 0, 0, 0, []), (155, .getfield 34, 3, 11, 3, 2, []), (158, .invokespecial 79, 3, 12, 3, 3, []), (161, .putfield 80, 3, 11, 9, 2, []), (164, .aload_n 0, 1, 0, 0, 0, []), (165, .invokevirtual 84, 3, 13, 1, 12, []), (168, .return_, 1, 0, 0, 0, [])]
/-- WholeFields$Reader.<init>([B)V -/
def k_WF_Reader_init : Cd9 := [(0, .aload_n 0, 1, 0, 0, 0, []), (1, .invokespecial 3, 3, 0, 0, 50, []), (4, .aload_n 0, 1, 0, 0, 0, []), (5, .bipush 6, 2, 0, 0, 0, []), (7, .newarray .long, 2, 42, 6, 3, []), (9, .putfield 9, 3, 7, 1, 2, []), (12, .aload_n 0, 1, 0, 0, 0, []), (13, .new 15, 3, 1, 4, 0, []), (16, .dup, 1, 0, 0, 0, []), (17, .invokespecial 17, 3, 3, 1, 2, []), (20, .putfield 18, 3, 7, 2, 2, []), (23, .aload_n 0, 1, 0, 0, 0, []), (24, .bipush 6, 2, 0, 0, 0, []), (26, .newarray .boolean, 2, 38, 6, 2, []), (28, .putfield 22, 3, 7, 8, 2, []), (31, .aload_n 0, 1, 0, 0, 0, []), (32, .bipush 6, 2, 0, 0, 0, []), (34, .newarray .int, 2, 21, 6, 0, []), (36, .putfield 26, 3, 7, 9, 2, []), (39, .aload_n 0, 1, 0, 0, 0, []), (40, .bipush 6, 2, 0, 0, 0, []), (42, .newarray .int, 2, 21, 6, 0, []), (44, .putfield 30, 3, 7, 10, 2, []), (47, .aload_n 0, 1, 0, 0, 0, []), (48, .bipush 6, 2, 0, 0, 0, []), (50, .newarray .boolean, 2, 38, 6, 2, []), (52, .putfield 33, 3, 7, 11, 2, []), (55, .aload_n 0, 1, 0, 0, 0, []), (56, .new 36, 3, 8, 7, 0, []), (59, .dup, 1, 0, 0, 0, []), (60, .aload_n 1, 1, 0, 0, 0, []), (61, .invokespecial 38, 3, 4, 2, 9, []), (64, .putfield 41, 3, 7, 0, 2, []), (67, .return_, 1, 0, 0, 0, [])]
/-- WholeFields$Book.<init>()V -/
def k_WF_Book_init : Cd9 := [(0, .aload_n 0, 1, 0, 0, 0, []), (1, .invokespecial 5, 3, 0, 0, 50, []), (4, .aload_n 0, 1, 0, 0, 0, []), (5, .sipush 240, 3, 0, 0, 0, []), (8, .newarray .int, 2, 31, 240, 0, []), (10, .putfield 11, 3, 1, 0, 2, []), (13, .aload_n 0, 1, 0, 0, 0, []), (14, .bipush 6, 2, 0, 0, 0, []), (16, .newarray .int, 2, 21, 6, 0, []), (18, .putfield 15, 3, 1, 1, 2, []), (21, .aload_n 0, 1, 0, 0, 0, []), (22, .bipush 20, 2, 0, 0, 0, []), (24, .newarray .int, 2, 25, 20, 0, []), (26, .putfield 18, 3, 1, 2, 2, []), (29, .return_, 1, 0, 0, 0, [])]
/-- WholeFields$Scanner.<init>([B)V -/
def k_WF_Scanner_init : Cd9 := [(0, .aload_n 0, 1, 0, 0, 0, []), (1, .invokespecial 3, 3, 0, 0, 50, []), (4, .aload_n 0, 1, 0, 0, 0, []), (5, .aload_n 1, 1, 0, 0, 0, []), (6, .putfield 9, 3, 8, 0, 2, []), (9, .return_, 1, 0, 0, 0, [])]
/-- WholeFields$Ground.<init>()V -/
def k_WF_Ground_init : Cd9 := [(0, .aload_n 0, 1, 0, 0, 0, []), (1, .invokespecial 3, 3, 0, 0, 50, []), (4, .aload_n 0, 1, 0, 0, 0, []), (5, .bipush 64, 2, 0, 0, 0, []), (7, .newarray .int, 2, 28, 64, 0, []), (9, .putfield 9, 3, 5, 0, 2, []), (12, .aload_n 0, 1, 0, 0, 0, []), (13, .bipush 64, 2, 0, 0, 0, []), (15, .newarray .int, 2, 28, 64, 0, []), (17, .putfield 15, 3, 5, 1, 2, []), (20, .aload_n 0, 1, 0, 0, 0, []), (21, .bipush 64, 2, 0, 0, 0, []), (23, .newarray .int, 2, 28, 64, 0, []), (25, .putfield 18, 3, 5, 2, 2, []), (28, .aload_n 0, 1, 0, 0, 0, []), (29, .bipush 6, 2, 0, 0, 0, []), (31, .newarray .int, 2, 21, 6, 0, []), (33, .putfield 21, 3, 5, 3, 2, []), (36, .aload_n 0, 1, 0, 0, 0, []), (37, .bipush 6, 2, 0, 0, 0, []), (39, .newarray .int, 2, 21, 6, 0, []), (41, .putfield 24, 3, 5, 4, 2, []), (44, .aload_n 0, 1, 0, 0, 0, []), (45, .sipush 384, 3, 0, 0, 0, []), (48, .newarray .int, 2, 34, 384, 0, []), (50, .putfield 27, 3, 5, 5, 2, []), (53, .aload_n 0, 1, 0, 0, 0, []), (54, .new 30, 3, 1, 4, 0, []), (57, .dup, 1, 0, 0, 0, []), (58, .invokespecial 32, 3, 3, 1, 2, []), (61, .putfield 33, 3, 5, 6, 2, []), (64, .return_, 1, 0, 0, 0, [])]
/-- WholeFields$Drawing.<init>(LWholeFields$Ground;)V -/
def k_WF_Drawing_init : Cd9 := [(0, .aload_n 0, 1, 0, 0, 0, []), (1, .invokespecial 3, 3, 0, 0, 50, []), (4, .aload_n 0, 1, 0, 0, 0, []), (5, .bipush 64, 2, 0, 0, 0, []), (7, .newarray .int, 2, 28, 64, 0, []), (9, .putfield 9, 3, 3, 1, 2, []), (12, .aload_n 0, 1, 0, 0, 0, []), (13, .bipush 6, 2, 0, 0, 0, []), (15, .newarray .long, 2, 42, 6, 3, []), (17, .putfield 15, 3, 3, 2, 2, []), (20, .aload_n 0, 1, 0, 0, 0, []), (21, .aload_n 1, 1, 0, 0, 0, []), (22, .putfield 19, 3, 3, 0, 2, []), (25, .return_, 1, 0, 0, 0, [])]
/-- WholeFields$Accounts.<init>(LWholeFields$Ground;LWholeFields$Drawing;)V -/
def k_WF_Accounts_init : Cd9 := [(0, .aload_n 0, 1, 0, 0, 0, []), (1, .invokespecial 3, 3, 0, 0, 50, []), (4, .aload_n 0, 1, 0, 0, 0, []), (5, .aload_n 1, 1, 0, 0, 0, []), (6, .putfield 9, 3, 0, 0, 2, []), (9, .aload_n 0, 1, 0, 0, 0, []), (10, .aload_n 2, 1, 0, 0, 0, []), (11, .putfield 15, 3, 0, 1, 2, []), (14, .return_, 1, 0, 0, 0, [])]
/-- WholeFields$Mover.<init>(LWholeFields$Ground;LWholeFields$Drawing;LWholeFields$Accounts;)V -/
def k_WF_Mover_init : Cd9 := [(0, .aload_n 0, 1, 0, 0, 0, []), (1, .invokespecial 3, 3, 0, 0, 50, []), (4, .aload_n 0, 1, 0, 0, 0, []), (5, .bipush 6, 2, 0, 0, 0, []), (7, .newarray .int, 2, 21, 6, 0, []), (9, .putfield 9, 3, 6, 3, 2, []), (12, .aload_n 0, 1, 0, 0, 0, []), (13, .aload_n 1, 1, 0, 0, 0, []), (14, .putfield 15, 3, 6, 0, 2, []), (17, .aload_n 0, 1, 0, 0, 0, []), (18, .aload_n 2, 1, 0, 0, 0, []), (19, .putfield 19, 3, 6, 1, 2, []), (22, .aload_n 0, 1, 0, 0, 0, []), (23, .aload_n 3, 1, 0, 0, 0, []), (24, .putfield 23, 3, 6, 2, 2, []), (27, .return_, 1, 0, 0, 0, [])]
/-- WholeFields$Finder.<init>(LWholeFields$Ground;LWholeFields$Drawing;)V -/
def k_WF_Finder_init : Cd9 := [(0, .aload_n 0, 1, 0, 0, 0, []), (1, .invokespecial 5, 3, 0, 0, 50, []), (4, .aload_n 0, 1, 0, 0, 0, []), (5, .bipush 9, 2, 0, 0, 0, []), (7, .newarray .int, 2, 22, 9, 0, []), (9, .putfield 11, 3, 4, 2, 2, []), (12, .aload_n 0, 1, 0, 0, 0, []), (13, .bipush 9, 2, 0, 0, 0, []), (15, .newarray .int, 2, 22, 9, 0, []), (17, .putfield 15, 3, 4, 3, 2, []), (20, .aload_n 0, 1, 0, 0, 0, []), (21, .bipush 9, 2, 0, 0, 0, []), (23, .newarray .int, 2, 22, 9, 0, []), (25, .putfield 18, 3, 4, 4, 2, []), (28, .aload_n 0, 1, 0, 0, 0, []), (29, .iconst 3, 1, 0, 0, 0, []), (30, .newarray .long, 2, 41, 3, 3, []), (32, .putfield 21, 3, 4, 5, 2, []), (35, .aload_n 0, 1, 0, 0, 0, []), (36, .bipush 9, 2, 0, 0, 0, []), (38, .newarray .int, 2, 22, 9, 0, []), (40, .putfield 25, 3, 4, 6, 2, []), (43, .aload_n 0, 1, 0, 0, 0, []), (44, .bipush 30, 2, 0, 0, 0, []), (46, .newarray .int, 2, 26, 30, 0, []), (48, .putfield 28, 3, 4, 7, 2, []), (51, .aload_n 0, 1, 0, 0, 0, []), (52, .bipush 10, 2, 0, 0, 0, []), (54, .newarray .int, 2, 23, 10, 0, []), (56, .putfield 31, 3, 4, 8, 2, []), (59, .aload_n 0, 1, 0, 0, 0, []), (60, .aload_n 1, 1, 0, 0, 0, []), (61, .putfield 34, 3, 4, 0, 2, []), (64, .aload_n 0, 1, 0, 0, 0, []), (65, .aload_n 2, 1, 0, 0, 0, []), (66, .putfield 38, 3, 4, 1, 2, []), (69, .return_, 1, 0, 0, 0, [])]
/-- WholeFields$Walker.<init>(LWholeFields$Ground;)V -/
def k_WF_Walker_init : Cd9 := [(0, .aload_n 0, 1, 0, 0, 0, []), (1, .invokespecial 3, 3, 0, 0, 50, []), (4, .aload_n 0, 1, 0, 0, 0, []), (5, .sipush 144, 3, 0, 0, 0, []), (8, .newarray .int, 2, 30, 144, 0, []), (10, .putfield 11, 3, 10, 1, 2, []), (13, .aload_n 0, 1, 0, 0, 0, []), (14, .sipush 144, 3, 0, 0, 0, []), (17, .newarray .int, 2, 30, 144, 0, []), (19, .putfield 15, 3, 10, 2, 2, []), (22, .aload_n 0, 1, 0, 0, 0, []), (23, .aload_n 1, 1, 0, 0, 0, []), (24, .putfield 18, 3, 10, 0, 2, []), (27, .return_, 1, 0, 0, 0, [])]
/-- WholeFields$Splitter.<init>(LWholeFields$Ground;)V -/
def k_WF_Splitter_init : Cd9 := [(0, .aload_n 0, 1, 0, 0, 0, []), (1, .invokespecial 1, 3, 0, 0, 50, []), (4, .aload_n 0, 1, 0, 0, 0, []), (5, .bipush 12, 2, 0, 0, 0, []), (7, .newarray .int, 2, 24, 12, 0, []), (9, .putfield 9, 3, 9, 1, 2, []), (12, .aload_n 0, 1, 0, 0, 0, []), (13, .bipush 12, 2, 0, 0, 0, []), (15, .newarray .int, 2, 24, 12, 0, []), (17, .putfield 13, 3, 9, 2, 2, []), (20, .aload_n 0, 1, 0, 0, 0, []), (21, .aload_n 1, 1, 0, 0, 0, []), (22, .putfield 16, 3, 9, 0, 2, []), (25, .return_, 1, 0, 0, 0, [])]
/-- WholeFields$Ditcher.<init>(LWholeFields$Ground;LWholeFields$Drawing;)V -/
def k_WF_Ditcher_init : Cd9 := [(0, .aload_n 0, 1, 0, 0, 0, []), (1, .invokespecial 5, 3, 0, 0, 50, []), (4, .aload_n 0, 1, 0, 0, 0, []), (5, .iconst 4, 1, 0, 0, 0, []), (6, .newarray .int, 2, 20, 4, 0, []), (8, .putfield 11, 3, 2, 2, 2, []), (11, .aload_n 0, 1, 0, 0, 0, []), (12, .bipush 81, 2, 0, 0, 0, []), (14, .newarray .int, 2, 29, 81, 0, []), (16, .putfield 15, 3, 2, 3, 2, []), (19, .aload_n 0, 1, 0, 0, 0, []), (20, .sipush 648, 3, 0, 0, 0, []), (23, .newarray .int, 2, 35, 648, 0, []), (25, .putfield 18, 3, 2, 4, 2, []), (28, .aload_n 0, 1, 0, 0, 0, []), (29, .aload_n 1, 1, 0, 0, 0, []), (30, .putfield 21, 3, 2, 0, 2, []), (33, .aload_n 0, 1, 0, 0, 0, []), (34, .aload_n 2, 1, 0, 0, 0, []), (35, .putfield 25, 3, 2, 1, 2, []), (38, .return_, 1, 0, 0, 0, [])]
/-- WholeFields.forgetGround()V -/
def k_WF_forgetGround : Cd9 := [(0, .aload_n 0, 1, 0, 0, 0, []), (1, .getfield 34, 3, 11, 3, 2, []), (4, .invokevirtual 313, 3, 14, 1, 4, []), (7, .aload_n 0, 1, 0, 0, 0, []), (8, .getfield 80, 3, 11, 9, 2, []), (11, .iconst 0, 1, 0, 0, 0, []), (12, .putfield 292, 3, 2, 5, 0, []), (15, .aload_n 0, 1, 0, 0, 0, []), (16, .iconst (-1), 1, 0, 0, 0, []), (17, .putfield 203, 3, 11, 13, 0, []), (20, .aload_n 0, 1, 0, 0, 0, []), (21, .iconst (-1), 1, 0, 0, 0, []), (22, .putfield 275, 3, 11, 14, 0, []), (25, .return_, 1, 0, 0, 0, [])]
/-- WholeFields$Drawing.wipe()V -/
def k_WF_Drawing_wipe : Cd9 := [(0, .aload_n 0, 1, 0, 0, 0, []), (1, .getfield 9, 3, 3, 1, 2, []), (4, .iconst (-1), 1, 0, 0, 0, []), (5, .invokestatic 23, 3, 15, 2, 0, []), (8, .aload_n 0, 1, 0, 0, 0, []), (9, .getfield 15, 3, 3, 2, 2, []), (12, .lconst 0, 1, 0, 0, 0, []), (13, .invokestatic 29, 3, 16, 2, 0, []), (16, .return_, 1, 0, 0, 0, [])]
/-- java/util/Arrays.fill([II)V -/
def k_Arrays_fill : Cd9 := [(0, .iconst 0, 1, 0, 0, 0, []), (1, .istore_n 2, 1, 0, 0, 0, []), (2, .aload_n 0, 1, 0, 0, 0, []), (3, .arraylength, 1, 0, 0, 0, []), (4, .istore_n 3, 1, 0, 0, 0, []), (5, .iload_n 2, 1, 0, 0, 0, []), (6, .iload_n 3, 1, 0, 0, 0, []), (7, .if_icmp .ge 13, 3, 20, 0, 0, []), (10, .aload_n 0, 1, 0, 0, 0, []), (11, .iload_n 2, 1, 0, 0, 0, []), (12, .iload_n 1, 1, 0, 0, 0, []), (13, .iastore, 1, 0, 0, 0, []), (14, .iinc 2 1, 3, 0, 0, 0, []), (17, .goto (-12), 3, 5, 0, 0, []), (20, .return_, 1, 0, 0, 0, [])]
/-- java/util/Arrays.fill([JJ)V -/
def k_Arrays_fill2 : Cd9 := [(0, .iconst 0, 1, 0, 0, 0, []), (1, .istore_n 3, 1, 0, 0, 0, []), (2, .aload_n 0, 1, 0, 0, 0, []), (3, .arraylength, 1, 0, 0, 0, []), (4, .istore 4, 2, 0, 0, 0, []), (6, .iload_n 3, 1, 0, 0, 0, []), (7, .iload 4, 2, 0, 0, 0, []), (9, .if_icmp .ge 13, 3, 22, 0, 0, []), (12, .aload_n 0, 1, 0, 0, 0, []), (13, .iload_n 3, 1, 0, 0, 0, []), (14, .lload_n 1, 1, 0, 0, 0, []), (15, .lastore, 1, 0, 0, 0, []), (16, .iinc 3 1, 3, 0, 0, 0, []), (19, .goto (-13), 3, 6, 0, 0, []), (22, .return_, 1, 0, 0, 0, [])]
/-- WholeFields.feed(IIIII)I -/
def k_WF_feed : Cd9 := [(0, .aload_n 0, 1, 0, 0, 0, []), (1, .getfield 87, 3, 11, 10, 0, []), (4, .bipush 20, 2, 0, 0, 0, []), (6, .iadd, 1, 0, 0, 0, []), (7, .sipush 500, 3, 0, 0, 0, []), (10, .if_icmp .le 5, 3, 15, 0, 0, []), (13, .iconst (-1), 1, 0, 0, 0, []), (14, .ireturn, 1, 0, 0, 0, []), (15, .aload_n 0, 1, 0, 0, 0, []), (16, .iload_n 1, 1, 0, 0, 0, []), (17, .invokevirtual 91, 3, 18, 2, 12, []), (20, .aload_n 0, 1, 0, 0, 0, []), (21, .iload_n 2, 1, 0, 0, 0, []), (22, .invokevirtual 91, 3, 18, 2, 12, []), (25, .aload_n 0, 1, 0, 0, 0, []), (26, .iload_n 3, 1, 0, 0, 0, []), (27, .invokevirtual 91, 3, 18, 2, 12, []), (30, .aload_n 0, 1, 0, 0, 0, []), (31, .iload 4, 2, 0, 0, 0, []), (33, .invokevirtual 91, 3, 18, 2, 12, []), (36, .aload_n 0, 1, 0, 0, 0, []), (37, .iload 5, 2, 0, 0, 0, []), (39, .invokevirtual 91, 3, 18, 2, 12, []), (42, .aload_n 0, 1, 0, 0, 0, []), (43, .getfield 87, 3, 11, 10, 0, []), (46, .ireturn, 1, 0, 0, 0, [])]
/-- WholeFields.putFour(I)V -/
def k_WF_putFour : Cd9 := [(0, .bipush 24, 2, 0, 0, 0, []), (2, .istore_n 2, 1, 0, 0, 0, []), (3, .iload_n 2, 1, 0, 0, 0, []), (4, .ifCond .lt 42, 3, 46, 0, 0, []), (7, .aload_n 0, 1, 0, 0, 0, []), (8, .getfield 87, 3, 11, 10, 0, []), (11, .sipush 500, 3, 0, 0, 0, []), (14, .if_icmp .ge 26, 3, 40, 0, 0, []), (17, .aload_n 0, 1, 0, 0, 0, []), (18, .getfield 9, 3, 11, 0, 2, []), (21, .aload_n 0, 1, 0, 0, 0, []), (22, .getfield 87, 3, 11, 10, 0, []), (25, .iload_n 1, 1, 0, 0, 0, []), (26, .iload_n 2, 1, 0, 0, 0, []), (27, .iushr, 1, 0, 0, 0, []), (28, .i2b, 1, 0, 0, 0, []), (29, .bastore, 1, 0, 0, 0, []), (30, .aload_n 0, 1, 0, 0, 0, []), (31, .dup, 1, 0, 0, 0, []), (32, .getfield 87, 3, 11, 10, 0, []), (35, .iconst 1, 1, 0, 0, 0, []), (36, .iadd, 1, 0, 0, 0, []), (37, .putfield 87, 3, 11, 10, 0, []), (40, .iinc 2 (-8), 3, 0, 0, 0, []), (43, .goto (-40), 3, 3, 0, 0, []), (46, .return_, 1, 0, 0, 0, [])]
/-- WholeFields.book(I)I -/
def k_WF_book : Cd9 := [(0, .iload_n 1, 1, 0, 0, 0, []), (1, .ifCond .lt 11, 3, 12, 0, 0, []), (4, .iload_n 1, 1, 0, 0, 0, []), (5, .aload_n 0, 1, 0, 0, 0, []), (6, .getfield 87, 3, 11, 10, 0, []), (9, .if_icmp .le 9, 3, 18, 0, 0, []), (12, .aload_n 0, 1, 0, 0, 0, []), (13, .iconst 2, 1, 0, 0, 0, []), (14, .invokevirtual 95, 3, 20, 2, 12, []), (17, .ireturn, 1, 0, 0, 0, []), (18, .aload_n 0, 1, 0, 0, 0, []), (19, .iconst 0, 1, 0, 0, 0, []), (20, .putfield 87, 3, 11, 10, 0, []), (23, .aload_n 0, 1, 0, 0, 0, []), (24, .getfield 18, 3, 11, 1, 2, []), (27, .iload_n 1, 1, 0, 0, 0, []), (28, .invokevirtual 99, 3, 21, 2, 8, []), (31, .istore_n 2, 1, 0, 0, 0, []), (32, .aload_n 0, 1, 0, 0, 0, []), (33, .aload_n 0, 1, 0, 0, 0, []), (34, .getfield 18, 3, 11, 1, 2, []), (37, .getfield 103, 3, 7, 3, 0, []), (40, .putfield 106, 3, 11, 11, 0, []), (43, .aload_n 0, 1, 0, 0, 0, []), (44, .aload_n 0, 1, 0, 0, 0, []), (45, .getfield 18, 3, 11, 1, 2, []), (48, .getfield 107, 3, 7, 4, 0, []), (51, .putfield 110, 3, 11, 12, 0, []), (54, .iload_n 2, 1, 0, 0, 0, []), (55, .ifCond .ne 9, 3, 64, 0, 0, []), (58, .aload_n 0, 1, 0, 0, 0, []), (59, .iconst 4, 1, 0, 0, 0, []), (60, .invokevirtual 95, 3, 20, 2, 12, []), (63, .ireturn, 1, 0, 0, 0, []), (64, .aload_n 0, 1, 0, 0, 0, []), (65, .getfield 25, 3, 11, 2, 2, []), (68, .getfield 111, 3, 5, 6, 2, []), (71, .astore_n 3, 1, 0, 0, 0, []), (72, .aload_n 0, 1, 0, 0, 0, []), (73, .getfield 25, 3, 11, 2, 2, []), (76, .aload_n 0, 1, 0, 0, 0, []), (77, .getfield 18, 3, 11, 1, 2, []), (80, .getfield 115, 3, 7, 2, 2, []), (83, .putfield 111, 3, 5, 6, 2, []), (86, .aload_n 0, 1, 0, 0, 0, []), (87, .getfield 18, 3, 11, 1, 2, []), (90, .aload_n 3, 1, 0, 0, 0, []), (91, .putfield 115, 3, 7, 2, 2, []), (94, .aload_n 0, 1, 0, 0, 0, []), (95, .getfield 25, 3, 11, 2, 2, []), (98, .invokevirtual 118, 3, 50, 1, 6, []), (101, .aload_n 0, 1, 0, 0, 0, []), (102, .invokevirtual 84, 3, 13, 1, 12, []), (105, .aload_n 0, 1, 0, 0, 0, []), (106, .aload_n 0, 1, 0, 0, 0, []), (107, .getfield 25, 3, 11, 2, 2, []), (110, .getfield 111, 3, 5, 6, 2, []), (113, .getfield 121, 3, 1, 3, 0, []), (116, .invokevirtual 126, 3, 51, 2, 12, []), (119, .ireturn, 1, 0, 0, 0, [])]
/-- WholeFields.refuse(I)I -/
def k_WF_refuse : Cd9 := [(0, .aload_n 0, 1, 0, 0, 0, []), (1, .iload_n 1, 1, 0, 0, 0, []), (2, .putfield 129, 3, 11, 15, 0, []), (5, .iconst (-1), 1, 0, 0, 0, []), (6, .ireturn, 1, 0, 0, 0, [])]
/-- WholeFields$Reader.read(I)Z -/
def k_WF_Reader_read : Cd9 := [(0, .aload_n 0, 1, 0, 0, 0, []), (1, .iconst 0, 1, 0, 0, 0, []), (2, .putfield 45, 3, 7, 3, 0, []), (5, .aload_n 0, 1, 0, 0, 0, []), (6, .iconst 0, 1, 0, 0, 0, []), (7, .putfield 49, 3, 7, 4, 0, []), (10, .aload_n 0, 1, 0, 0, 0, []), (11, .iconst 0, 1, 0, 0, 0, []), (12, .putfield 52, 3, 7, 5, 0, []), (15, .aload_n 0, 1, 0, 0, 0, []), (16, .getfield 18, 3, 7, 2, 2, []), (19, .invokevirtual 55, 3, 22, 1, 2, []), (22, .aload_n 0, 1, 0, 0, 0, []), (23, .getfield 41, 3, 7, 0, 2, []), (26, .iload_n 1, 1, 0, 0, 0, []), (27, .invokevirtual 58, 3, 23, 2, 9, []), (30, .iconst 0, 1, 0, 0, 0, []), (31, .istore_n 2, 1, 0, 0, 0, []), (32, .iload_n 2, 1, 0, 0, 0, []), (33, .sipush 500, 3, 0, 0, 0, []), (36, .if_icmp .gt 36, 3, 72, 0, 0, []), (39, .aload_n 0, 1, 0, 0, 0, []), (40, .getfield 45, 3, 7, 3, 0, []), (43, .ifCond .ne 29, 3, 72, 0, 0, []), (46, .aload_n 0, 1, 0, 0, 0, []), (47, .getfield 52, 3, 7, 5, 0, []), (50, .bipush 6, 2, 0, 0, 0, []), (52, .if_icmp .eq 20, 3, 72, 0, 0, []), (55, .aload_n 0, 1, 0, 0, 0, []), (56, .getfield 41, 3, 7, 0, 2, []), (59, .invokevirtual 61, 3, 26, 1, 9, []), (62, .aload_n 0, 1, 0, 0, 0, []), (63, .invokevirtual 64, 3, 32, 1, 8, []), (66, .iinc 2 1, 3, 0, 0, 0, []), (69, .goto (-37), 3, 32, 0, 0, []), (72, .aload_n 0, 1, 0, 0, 0, []), (73, .getfield 45, 3, 7, 3, 0, []), (76, .ifCond .ne 7, 3, 83, 0, 0, []), (79, .iconst 1, 1, 0, 0, 0, []), (80, .goto 4, 3, 84, 0, 0, []), (83, .iconst 0, 1, 0, 0, 0, []), (84, .ireturn, 1, 2, 0, 0, [])]
/-- WholeFields$Book.begin()V -/
def k_WF_Book_begin : Cd9 := [(0, .aload_n 0, 1, 0, 0, 0, []), (1, .iconst 0, 1, 0, 0, 0, []), (2, .putfield 21, 3, 1, 3, 0, []), (5, .return_, 1, 0, 0, 0, [])]
/-- WholeFields$Scanner.begin(I)V -/
def k_WF_Scanner_begin : Cd9 := [(0, .aload_n 0, 1, 0, 0, 0, []), (1, .iconst 0, 1, 0, 0, 0, []), (2, .iload_n 1, 1, 0, 0, 0, []), (3, .sipush 500, 3, 0, 0, 0, []), (6, .invokestatic 15, 3, 24, 2, 61, []), (9, .invokestatic 21, 3, 25, 2, 62, []), (12, .putfield 24, 3, 8, 1, 0, []), (15, .aload_n 0, 1, 0, 0, 0, []), (16, .iconst 0, 1, 0, 0, 0, []), (17, .putfield 28, 3, 8, 2, 0, []), (20, .return_, 1, 0, 0, 0, [])]
/-- java/lang/Math.min(II)I -/
def k_Math_min : Cd9 := [(0, .iload_n 0, 1, 0, 0, 0, []), (1, .iload_n 1, 1, 0, 0, 0, []), (2, .if_icmp .gt 7, 3, 9, 0, 0, []), (5, .iload_n 0, 1, 0, 0, 0, []), (6, .goto 4, 3, 10, 0, 0, []), (9, .iload_n 1, 1, 0, 0, 0, []), (10, .ireturn, 1, 0, 0, 0, [])]
/-- java/lang/Math.max(II)I -/
def k_Math_max : Cd9 := [(0, .iload_n 0, 1, 0, 0, 0, []), (1, .iload_n 1, 1, 0, 0, 0, []), (2, .if_icmp .lt 7, 3, 9, 0, 0, []), (5, .iload_n 0, 1, 0, 0, 0, []), (6, .goto 4, 3, 10, 0, 0, []), (9, .iload_n 1, 1, 0, 0, 0, []), (10, .ireturn, 1, 0, 0, 0, [])]
/-- WholeFields$Scanner.advance()V -/
def k_WF_Scanner_advance : Cd9 := [(0, .aload_n 0, 1, 0, 0, 0, []), (1, .lconst 0, 1, 0, 0, 0, []), (2, .putfield 34, 3, 8, 4, 1, []), (5, .aload_n 0, 1, 0, 0, 0, []), (6, .iconst (-1), 1, 0, 0, 0, []), (7, .putfield 38, 3, 8, 5, 0, []), (10, .aload_n 0, 1, 0, 0, 0, []), (11, .iconst 0, 1, 0, 0, 0, []), (12, .putfield 41, 3, 8, 6, 0, []), (15, .aload_n 0, 1, 0, 0, 0, []), (16, .getfield 28, 3, 8, 2, 0, []), (19, .aload_n 0, 1, 0, 0, 0, []), (20, .getfield 24, 3, 8, 1, 0, []), (23, .if_icmp .ge 30, 3, 53, 0, 0, []), (26, .aload_n 0, 1, 0, 0, 0, []), (27, .getfield 9, 3, 8, 0, 2, []), (30, .aload_n 0, 1, 0, 0, 0, []), (31, .getfield 28, 3, 8, 2, 0, []), (34, .baload, 1, 0, 0, 0, []), (35, .bipush 32, 2, 0, 0, 0, []), (37, .if_icmp .ne 16, 3, 53, 0, 0, []), (40, .aload_n 0, 1, 0, 0, 0, []), (41, .dup, 1, 0, 0, 0, []), (42, .getfield 28, 3, 8, 2, 0, []), (45, .iconst 1, 1, 0, 0, 0, []), (46, .iadd, 1, 0, 0, 0, []), (47, .putfield 28, 3, 8, 2, 0, []), (50, .goto (-35), 3, 15, 0, 0, []), (53, .aload_n 0, 1, 0, 0, 0, []), (54, .aload_n 0, 1, 0, 0, 0, []), (55, .getfield 28, 3, 8, 2, 0, []), (58, .putfield 31, 3, 8, 3, 0, []), (61, .aload_n 0, 1, 0, 0, 0, []), (62, .getfield 28, 3, 8, 2, 0, []), (65, .aload_n 0, 1, 0, 0, 0, []), (66, .getfield 24, 3, 8, 1, 0, []), (69, .if_icmp .lt 4, 3, 73, 0, 0, []), (72, .return_, 1, 0, 0, 0, []), (73, .aload_n 0, 1, 0, 0, 0, []), (74, .getfield 9, 3, 8, 0, 2, []), (77, .aload_n 0, 1, 0, 0, 0, []), (78, .getfield 28, 3, 8, 2, 0, []), (81, .baload, 1, 0, 0, 0, []), (82, .istore_n 1, 1, 0, 0, 0, []), (83, .iload_n 1, 1, 0, 0, 0, []), (84, .invokestatic 44, 3, 27, 1, 0, []), (87, .ifCond .eq 10, 3, 97, 0, 0, []), (90, .aload_n 0, 1, 0, 0, 0, []), (91, .invokevirtual 48, 3, 28, 1, 9, []), (94, .goto 39, 3, 133, 0, 0, []), (97, .iload_n 1, 1, 0, 0, 0, []), (98, .invokestatic 51, 3, 29, 1, 0, []), (101, .ifCond .eq 10, 3, 111, 0, 0, []), (104, .aload_n 0, 1, 0, 0, 0, []), (105, .invokevirtual 54, 3, 30, 1, 9, []), (108, .goto 25, 3, 133, 0, 0, []), (111, .iload_n 1, 1, 0, 0, 0, []), (112, .invokestatic 57, 3, 31, 1, 0, []), (115, .ifCond .eq 18, 3, 133, 0, 0, []), (118, .aload_n 0, 1, 0, 0, 0, []), (119, .iload_n 1, 1, 0, 0, 0, []), (120, .putfield 41, 3, 8, 6, 0, []), (123, .aload_n 0, 1, 0, 0, 0, []), (124, .dup, 1, 0, 0, 0, []), (125, .getfield 28, 3, 8, 2, 0, []), (128, .iconst 1, 1, 0, 0, 0, []), (129, .iadd, 1, 0, 0, 0, []), (130, .putfield 28, 3, 8, 2, 0, []), (133, .return_, 1, 0, 0, 0, [])]
/-- WholeFields$Scanner.isLetter(I)Z -/
def k_WF_Scanner_isLetter : Cd9 := [(0, .iload_n 0, 1, 0, 0, 0, []), (1, .bipush 97, 2, 0, 0, 0, []), (3, .if_icmp .lt 13, 3, 16, 0, 0, []), (6, .iload_n 0, 1, 0, 0, 0, []), (7, .bipush 122, 2, 0, 0, 0, []), (9, .if_icmp .gt 7, 3, 16, 0, 0, []), (12, .iconst 1, 1, 0, 0, 0, []), (13, .goto 4, 3, 17, 0, 0, []), (16, .iconst 0, 1, 0, 0, 0, []), (17, .ireturn, 1, 2, 0, 0, [])]
/-- WholeFields$Scanner.readWord()V -/
def k_WF_Scanner_readWord : Cd9 := [(0, .lconst 0, 1, 0, 0, 0, []), (1, .lstore_n 1, 1, 0, 0, 0, []), (2, .aload_n 0, 1, 0, 0, 0, []), (3, .getfield 28, 3, 8, 2, 0, []), (6, .aload_n 0, 1, 0, 0, 0, []), (7, .getfield 24, 3, 8, 1, 0, []), (10, .if_icmp .ge 47, 3, 57, 0, 0, []), (13, .aload_n 0, 1, 0, 0, 0, []), (14, .getfield 9, 3, 8, 0, 2, []), (17, .aload_n 0, 1, 0, 0, 0, []), (18, .getfield 28, 3, 8, 2, 0, []), (21, .baload, 1, 0, 0, 0, []), (22, .invokestatic 44, 3, 27, 1, 0, []), (25, .ifCond .eq 32, 3, 57, 0, 0, []), (28, .lload_n 1, 1, 0, 0, 0, []), (29, .bipush 8, 2, 0, 0, 0, []), (31, .lshl, 1, 0, 0, 0, []), (32, .aload_n 0, 1, 0, 0, 0, []), (33, .getfield 9, 3, 8, 0, 2, []), (36, .aload_n 0, 1, 0, 0, 0, []), (37, .getfield 28, 3, 8, 2, 0, []), (40, .baload, 1, 0, 0, 0, []), (41, .i2l, 1, 0, 0, 0, []), (42, .lor, 1, 0, 0, 0, []), (43, .lstore_n 1, 1, 0, 0, 0, []), (44, .aload_n 0, 1, 0, 0, 0, []), (45, .dup, 1, 0, 0, 0, []), (46, .getfield 28, 3, 8, 2, 0, []), (49, .iconst 1, 1, 0, 0, 0, []), (50, .iadd, 1, 0, 0, 0, []), (51, .putfield 28, 3, 8, 2, 0, []), (54, .goto (-52), 3, 2, 0, 0, []), (57, .aload_n 0, 1, 0, 0, 0, []), (58, .aload_n 0, 1, 0, 0, 0, []), (59, .getfield 28, 3, 8, 2, 0, []), (62, .aload_n 0, 1, 0, 0, 0, []), (63, .getfield 31, 3, 8, 3, 0, []), (66, .isub, 1, 0, 0, 0, []), (67, .bipush 8, 2, 0, 0, 0, []), (69, .if_icmp .gt 7, 3, 76, 0, 0, []), (72, .lload_n 1, 1, 0, 0, 0, []), (73, .goto 4, 3, 77, 0, 0, []), (76, .lconst 0, 1, 0, 0, 0, []), (77, .putfield 34, 3, 8, 4, 1, []), (80, .return_, 1, 0, 0, 0, [])]
/-- WholeFields$Scanner.isDigit(I)Z -/
def k_WF_Scanner_isDigit : Cd9 := [(0, .iload_n 0, 1, 0, 0, 0, []), (1, .bipush 48, 2, 0, 0, 0, []), (3, .if_icmp .lt 13, 3, 16, 0, 0, []), (6, .iload_n 0, 1, 0, 0, 0, []), (7, .bipush 57, 2, 0, 0, 0, []), (9, .if_icmp .gt 7, 3, 16, 0, 0, []), (12, .iconst 1, 1, 0, 0, 0, []), (13, .goto 4, 3, 17, 0, 0, []), (16, .iconst 0, 1, 0, 0, 0, []), (17, .ireturn, 1, 2, 0, 0, [])]
/-- WholeFields$Scanner.readWhole()V -/
def k_WF_Scanner_readWhole : Cd9 := [(0, .iconst 0, 1, 0, 0, 0, []), (1, .istore_n 1, 1, 0, 0, 0, []), (2, .aload_n 0, 1, 0, 0, 0, []), (3, .getfield 28, 3, 8, 2, 0, []), (6, .aload_n 0, 1, 0, 0, 0, []), (7, .getfield 24, 3, 8, 1, 0, []), (10, .if_icmp .ge 49, 3, 59, 0, 0, []), (13, .aload_n 0, 1, 0, 0, 0, []), (14, .getfield 9, 3, 8, 0, 2, []), (17, .aload_n 0, 1, 0, 0, 0, []), (18, .getfield 28, 3, 8, 2, 0, []), (21, .baload, 1, 0, 0, 0, []), (22, .invokestatic 51, 3, 29, 1, 0, []), (25, .ifCond .eq 34, 3, 59, 0, 0, []), (28, .iload_n 1, 1, 0, 0, 0, []), (29, .bipush 10, 2, 0, 0, 0, []), (31, .imul, 1, 0, 0, 0, []), (32, .aload_n 0, 1, 0, 0, 0, []), (33, .getfield 9, 3, 8, 0, 2, []), (36, .aload_n 0, 1, 0, 0, 0, []), (37, .getfield 28, 3, 8, 2, 0, []), (40, .baload, 1, 0, 0, 0, []), (41, .bipush 48, 2, 0, 0, 0, []), (43, .isub, 1, 0, 0, 0, []), (44, .iadd, 1, 0, 0, 0, []), (45, .istore_n 1, 1, 0, 0, 0, []), (46, .aload_n 0, 1, 0, 0, 0, []), (47, .dup, 1, 0, 0, 0, []), (48, .getfield 28, 3, 8, 2, 0, []), (51, .iconst 1, 1, 0, 0, 0, []), (52, .iadd, 1, 0, 0, 0, []), (53, .putfield 28, 3, 8, 2, 0, []), (56, .goto (-54), 3, 2, 0, 0, []), (59, .aload_n 0, 1, 0, 0, 0, []), (60, .aload_n 0, 1, 0, 0, 0, []), (61, .getfield 28, 3, 8, 2, 0, []), (64, .aload_n 0, 1, 0, 0, 0, []), (65, .getfield 31, 3, 8, 3, 0, []), (68, .isub, 1, 0, 0, 0, []), (69, .iconst 3, 1, 0, 0, 0, []), (70, .if_icmp .gt 7, 3, 77, 0, 0, []), (73, .iload_n 1, 1, 0, 0, 0, []), (74, .goto 4, 3, 78, 0, 0, []), (77, .iconst (-1), 1, 0, 0, 0, []), (78, .putfield 38, 3, 8, 5, 0, []), (81, .return_, 1, 0, 0, 0, [])]
/-- WholeFields$Scanner.isSign(I)Z -/
def k_WF_Scanner_isSign : Cd9 := [(0, .iload_n 0, 1, 0, 0, 0, []), (1, .bipush 59, 2, 0, 0, 0, []), (3, .if_icmp .eq 39, 3, 42, 0, 0, []), (6, .iload_n 0, 1, 0, 0, 0, []), (7, .bipush 44, 2, 0, 0, 0, []), (9, .if_icmp .eq 33, 3, 42, 0, 0, []), (12, .iload_n 0, 1, 0, 0, 0, []), (13, .bipush 43, 2, 0, 0, 0, []), (15, .if_icmp .eq 27, 3, 42, 0, 0, []), (18, .iload_n 0, 1, 0, 0, 0, []), (19, .bipush 45, 2, 0, 0, 0, []), (21, .if_icmp .eq 21, 3, 42, 0, 0, []), (24, .iload_n 0, 1, 0, 0, 0, []), (25, .bipush 42, 2, 0, 0, 0, []), (27, .if_icmp .eq 15, 3, 42, 0, 0, []), (30, .iload_n 0, 1, 0, 0, 0, []), (31, .bipush 40, 2, 0, 0, 0, []), (33, .if_icmp .eq 9, 3, 42, 0, 0, []), (36, .iload_n 0, 1, 0, 0, 0, []), (37, .bipush 41, 2, 0, 0, 0, []), (39, .if_icmp .ne 7, 3, 46, 0, 0, []), (42, .iconst 1, 1, 0, 0, 0, []), (43, .goto 4, 3, 47, 0, 0, []), (46, .iconst 0, 1, 0, 0, 0, []), (47, .ireturn, 1, 2, 0, 0, [])]
/-- WholeFields$Reader.takeToken()V -/
def k_WF_Reader_takeToken : Cd9 := [(0, .aload_n 0, 1, 0, 0, 0, []), (1, .getfield 52, 3, 7, 5, 0, []), (4, .tableswitch 111 0 4 #[36, 63, 70, 97, 104], 36, 115, 0, 0, [(0, 40), (1, 67), (2, 74), (3, 101), (4, 108)]), (40, .aload_n 0, 1, 0, 0, 0, []), (41, .aload_n 0, 1, 0, 0, 0, []), (42, .getfield 41, 3, 7, 0, 2, []), (45, .getfield 70, 3, 8, 4, 1, []), (48, .ldc2_w 74, 3, 0, 0, 0, []), (51, .lcmp, 1, 0, 0, 0, []), (52, .ifCond .ne 7, 3, 59, 0, 0, []), (55, .iconst 1, 1, 0, 0, 0, []), (56, .goto 4, 3, 60, 0, 0, []), (59, .iconst 0, 1, 0, 0, 0, []), (60, .iconst 1, 1, 0, 0, 0, []), (61, .invokevirtual 76, 3, 33, 3, 8, []), (64, .goto 55, 3, 119, 0, 0, []), (67, .aload_n 0, 1, 0, 0, 0, []), (68, .invokevirtual 80, 3, 35, 1, 8, []), (71, .goto 48, 3, 119, 0, 0, []), (74, .aload_n 0, 1, 0, 0, 0, []), (75, .aload_n 0, 1, 0, 0, 0, []), (76, .getfield 41, 3, 7, 0, 2, []), (79, .getfield 70, 3, 8, 4, 1, []), (82, .ldc2_w 83, 3, 1, 0, 0, []), (85, .lcmp, 1, 0, 0, 0, []), (86, .ifCond .ne 7, 3, 93, 0, 0, []), (89, .iconst 1, 1, 0, 0, 0, []), (90, .goto 4, 3, 94, 0, 0, []), (93, .iconst 0, 1, 0, 0, 0, []), (94, .iconst 3, 1, 0, 0, 0, []), (95, .invokevirtual 76, 3, 33, 3, 8, []), (98, .goto 21, 3, 119, 0, 0, []), (101, .aload_n 0, 1, 0, 0, 0, []), (102, .invokevirtual 85, 3, 40, 1, 8, []), (105, .goto 14, 3, 119, 0, 0, []), (108, .aload_n 0, 1, 0, 0, 0, []), (109, .invokevirtual 88, 3, 44, 1, 8, []), (112, .goto 7, 3, 119, 0, 0, []), (115, .aload_n 0, 1, 0, 0, 0, []), (116, .invokevirtual 91, 3, 45, 1, 8, []), (119, .return_, 1, 0, 0, 0, [])]
/-- WholeFields$Reader.goOn(ZI)V -/
def k_WF_Reader_goOn : Cd9 := [(0, .iload_n 1, 1, 0, 0, 0, []), (1, .ifCond .eq 11, 3, 12, 0, 0, []), (4, .aload_n 0, 1, 0, 0, 0, []), (5, .iload_n 2, 1, 0, 0, 0, []), (6, .putfield 52, 3, 7, 5, 0, []), (9, .goto 8, 3, 17, 0, 0, []), (12, .aload_n 0, 1, 0, 0, 0, []), (13, .iconst 1, 1, 0, 0, 0, []), (14, .invokevirtual 94, 3, 34, 2, 8, []), (17, .return_, 1, 0, 0, 0, [])]
/-- WholeFields$Reader.fail(I)V -/
def k_WF_Reader_fail : Cd9 := [(0, .aload_n 0, 1, 0, 0, 0, []), (1, .iload_n 1, 1, 0, 0, 0, []), (2, .putfield 45, 3, 7, 3, 0, []), (5, .aload_n 0, 1, 0, 0, 0, []), (6, .aload_n 0, 1, 0, 0, 0, []), (7, .getfield 41, 3, 7, 0, 2, []), (10, .getfield 67, 3, 8, 3, 0, []), (13, .putfield 49, 3, 7, 4, 0, []), (16, .return_, 1, 0, 0, 0, [])]
/-- WholeFields$Reader.takeName()V -/
def k_WF_Reader_takeName : Cd9 := [(0, .aload_n 0, 1, 0, 0, 0, []), (1, .getfield 41, 3, 7, 0, 2, []), (4, .getfield 70, 3, 8, 4, 1, []), (7, .lstore_n 1, 1, 0, 0, 0, []), (8, .lload_n 1, 1, 0, 0, 0, []), (9, .lconst 0, 1, 0, 0, 0, []), (10, .lcmp, 1, 0, 0, 0, []), (11, .ifCond .eq 27, 3, 38, 0, 0, []), (14, .lload_n 1, 1, 0, 0, 0, []), (15, .ldc2_w 74, 3, 0, 0, 0, []), (18, .lcmp, 1, 0, 0, 0, []), (19, .ifCond .eq 19, 3, 38, 0, 0, []), (22, .lload_n 1, 1, 0, 0, 0, []), (23, .ldc2_w 83, 3, 1, 0, 0, []), (26, .lcmp, 1, 0, 0, 0, []), (27, .ifCond .eq 11, 3, 38, 0, 0, []), (30, .lload_n 1, 1, 0, 0, 0, []), (31, .invokestatic 97, 3, 36, 1, 0, []), (34, .iconst (-1), 1, 0, 0, 0, []), (35, .if_icmp .eq 11, 3, 46, 0, 0, []), (38, .aload_n 0, 1, 0, 0, 0, []), (39, .iconst 1, 1, 0, 0, 0, []), (40, .invokevirtual 94, 3, 34, 2, 8, []), (43, .goto 80, 3, 123, 0, 0, []), (46, .aload_n 0, 1, 0, 0, 0, []), (47, .lload_n 1, 1, 0, 0, 0, []), (48, .invokevirtual 101, 3, 37, 2, 8, []), (51, .ifCond .eq 11, 3, 62, 0, 0, []), (54, .aload_n 0, 1, 0, 0, 0, []), (55, .iconst 3, 1, 0, 0, 0, []), (56, .invokevirtual 94, 3, 34, 2, 8, []), (59, .goto 64, 3, 123, 0, 0, []), (62, .aload_n 0, 1, 0, 0, 0, []), (63, .getfield 18, 3, 7, 2, 2, []), (66, .getfield 105, 3, 1, 3, 0, []), (69, .bipush 6, 2, 0, 0, 0, []), (71, .if_icmp .lt 11, 3, 82, 0, 0, []), (74, .aload_n 0, 1, 0, 0, 0, []), (75, .iconst 5, 1, 0, 0, 0, []), (76, .invokevirtual 94, 3, 34, 2, 8, []), (79, .goto 44, 3, 123, 0, 0, []), (82, .aload_n 0, 1, 0, 0, 0, []), (83, .getfield 9, 3, 7, 1, 2, []), (86, .aload_n 0, 1, 0, 0, 0, []), (87, .getfield 18, 3, 7, 2, 2, []), (90, .getfield 105, 3, 1, 3, 0, []), (93, .lload_n 1, 1, 0, 0, 0, []), (94, .lastore, 1, 0, 0, 0, []), (95, .aload_n 0, 1, 0, 0, 0, []), (96, .getfield 18, 3, 7, 2, 2, []), (99, .invokevirtual 108, 3, 38, 1, 2, []), (102, .aload_n 0, 1, 0, 0, 0, []), (103, .iconst 0, 1, 0, 0, 0, []), (104, .putfield 111, 3, 7, 6, 0, []), (107, .aload_n 0, 1, 0, 0, 0, []), (108, .iconst 0, 1, 0, 0, 0, []), (109, .putfield 114, 3, 7, 12, 0, []), (112, .aload_n 0, 1, 0, 0, 0, []), (113, .iconst (-1), 1, 0, 0, 0, []), (114, .iconst 0, 1, 0, 0, 0, []), (115, .invokevirtual 117, 3, 39, 3, 8, []), (118, .aload_n 0, 1, 0, 0, 0, []), (119, .iconst 2, 1, 0, 0, 0, []), (120, .putfield 52, 3, 7, 5, 0, []), (123, .return_, 1, 0, 0, 0, [])]
/-- WholeFields$Reader.stepOf(J)I -/
def k_WF_Reader_stepOf : Cd9 := [(0, .lload_n 0, 1, 0, 0, 0, []), (1, .ldc2_w 121, 3, 2, 0, 0, []), (4, .lcmp, 1, 0, 0, 0, []), (5, .ifCond .ne 6, 3, 11, 0, 0, []), (8, .bipush 100, 2, 0, 0, 0, []), (10, .ireturn, 1, 0, 0, 0, []), (11, .lload_n 0, 1, 0, 0, 0, []), (12, .ldc2_w 123, 3, 3, 0, 0, []), (15, .lcmp, 1, 0, 0, 0, []), (16, .ifCond .ne 6, 3, 22, 0, 0, []), (19, .bipush 101, 2, 0, 0, 0, []), (21, .ireturn, 1, 0, 0, 0, []), (22, .lload_n 0, 1, 0, 0, 0, []), (23, .ldc2_w 125, 3, 4, 0, 0, []), (26, .lcmp, 1, 0, 0, 0, []), (27, .ifCond .ne 6, 3, 33, 0, 0, []), (30, .bipush 102, 2, 0, 0, 0, []), (32, .ireturn, 1, 0, 0, 0, []), (33, .lload_n 0, 1, 0, 0, 0, []), (34, .ldc2_w 127, 3, 5, 0, 0, []), (37, .lcmp, 1, 0, 0, 0, []), (38, .ifCond .ne 6, 3, 44, 0, 0, []), (41, .bipush 103, 2, 0, 0, 0, []), (43, .ireturn, 1, 0, 0, 0, []), (44, .lload_n 0, 1, 0, 0, 0, []), (45, .ldc2_w 129, 3, 6, 0, 0, []), (48, .lcmp, 1, 0, 0, 0, []), (49, .ifCond .ne 6, 3, 55, 0, 0, []), (52, .bipush 107, 2, 0, 0, 0, []), (54, .ireturn, 1, 0, 0, 0, []), (55, .lload_n 0, 1, 0, 0, 0, []), (56, .ldc2_w 131, 3, 7, 0, 0, []), (59, .lcmp, 1, 0, 0, 0, []), (60, .ifCond .ne 8, 3, 68, 0, 0, []), (63, .bipush 108, 2, 0, 0, 0, []), (65, .goto 4, 3, 69, 0, 0, []), (68, .iconst (-1), 1, 0, 0, 0, []), (69, .ireturn, 1, 0, 0, 0, [])]
/-- WholeFields$Reader.isNameTold(J)Z -/
def k_WF_Reader_isNameTold : Cd9 := [(0, .iconst 0, 1, 0, 0, 0, []), (1, .istore_n 3, 1, 0, 0, 0, []), (2, .iload_n 3, 1, 0, 0, 0, []), (3, .aload_n 0, 1, 0, 0, 0, []), (4, .getfield 18, 3, 7, 2, 2, []), (7, .getfield 105, 3, 1, 3, 0, []), (10, .if_icmp .ge 28, 3, 38, 0, 0, []), (13, .iload_n 3, 1, 0, 0, 0, []), (14, .bipush 6, 2, 0, 0, 0, []), (16, .if_icmp .ge 22, 3, 38, 0, 0, []), (19, .aload_n 0, 1, 0, 0, 0, []), (20, .getfield 9, 3, 7, 1, 2, []), (23, .iload_n 3, 1, 0, 0, 0, []), (24, .laload, 1, 0, 0, 0, []), (25, .lload_n 1, 1, 0, 0, 0, []), (26, .lcmp, 1, 0, 0, 0, []), (27, .ifCond .ne 5, 3, 32, 0, 0, []), (30, .iconst 1, 1, 0, 0, 0, []), (31, .ireturn, 1, 2, 0, 0, []), (32, .iinc 3 1, 3, 0, 0, 0, []), (35, .goto (-33), 3, 2, 0, 0, []), (38, .iconst 0, 1, 0, 0, 0, []), (39, .ireturn, 1, 2, 0, 0, [])]
/-- WholeFields$Book.addOwner()V -/
def k_WF_Book_addOwner : Cd9 := [(0, .aload_n 0, 1, 0, 0, 0, []), (1, .getfield 21, 3, 1, 3, 0, []), (4, .bipush 6, 2, 0, 0, 0, []), (6, .if_icmp .ge 23, 3, 29, 0, 0, []), (9, .aload_n 0, 1, 0, 0, 0, []), (10, .getfield 15, 3, 1, 1, 2, []), (13, .aload_n 0, 1, 0, 0, 0, []), (14, .getfield 21, 3, 1, 3, 0, []), (17, .iconst 0, 1, 0, 0, 0, []), (18, .iastore, 1, 0, 0, 0, []), (19, .aload_n 0, 1, 0, 0, 0, []), (20, .dup, 1, 0, 0, 0, []), (21, .getfield 21, 3, 1, 3, 0, []), (24, .iconst 1, 1, 0, 0, 0, []), (25, .iadd, 1, 0, 0, 0, []), (26, .putfield 21, 3, 1, 3, 0, []), (29, .return_, 1, 0, 0, 0, [])]
/-- WholeFields$Reader.beginWorth(IZ)V -/
def k_WF_Reader_beginWorth : Cd9 := [(0, .aload_n 0, 1, 0, 0, 0, []), (1, .getfield 22, 3, 7, 8, 2, []), (4, .aload_n 0, 1, 0, 0, 0, []), (5, .getfield 114, 3, 7, 12, 0, []), (8, .iconst 0, 1, 0, 0, 0, []), (9, .bastore, 1, 0, 0, 0, []), (10, .aload_n 0, 1, 0, 0, 0, []), (11, .getfield 26, 3, 7, 9, 2, []), (14, .aload_n 0, 1, 0, 0, 0, []), (15, .getfield 114, 3, 7, 12, 0, []), (18, .iconst (-1), 1, 0, 0, 0, []), (19, .iastore, 1, 0, 0, 0, []), (20, .aload_n 0, 1, 0, 0, 0, []), (21, .getfield 30, 3, 7, 10, 2, []), (24, .aload_n 0, 1, 0, 0, 0, []), (25, .getfield 114, 3, 7, 12, 0, []), (28, .iload_n 1, 1, 0, 0, 0, []), (29, .iastore, 1, 0, 0, 0, []), (30, .aload_n 0, 1, 0, 0, 0, []), (31, .getfield 33, 3, 7, 11, 2, []), (34, .aload_n 0, 1, 0, 0, 0, []), (35, .getfield 114, 3, 7, 12, 0, []), (38, .iload_n 2, 1, 0, 0, 0, []), (39, .bastore, 1, 0, 0, 0, []), (40, .return_, 1, 0, 0, 0, [])]
/-- WholeFields$Reader.takeFactor()V -/
def k_WF_Reader_takeFactor : Cd9 := [(0, .aload_n 0, 1, 0, 0, 0, []), (1, .getfield 41, 3, 7, 0, 2, []), (4, .getfield 133, 3, 8, 5, 0, []), (7, .iconst (-1), 1, 0, 0, 0, []), (8, .if_icmp .eq 13, 3, 21, 0, 0, []), (11, .aload_n 0, 1, 0, 0, 0, []), (12, .getfield 41, 3, 7, 0, 2, []), (15, .getfield 133, 3, 8, 5, 0, []), (18, .goto 13, 3, 31, 0, 0, []), (21, .aload_n 0, 1, 0, 0, 0, []), (22, .getfield 41, 3, 7, 0, 2, []), (25, .getfield 70, 3, 8, 4, 1, []), (28, .invokestatic 97, 3, 36, 1, 0, []), (31, .istore_n 1, 1, 0, 0, 0, []), (32, .iload_n 1, 1, 0, 0, 0, []), (33, .iconst (-1), 1, 0, 0, 0, []), (34, .if_icmp .ne 23, 3, 57, 0, 0, []), (37, .aload_n 0, 1, 0, 0, 0, []), (38, .getfield 41, 3, 7, 0, 2, []), (41, .getfield 136, 3, 8, 6, 0, []), (44, .bipush 40, 2, 0, 0, 0, []), (46, .if_icmp .eq 11, 3, 57, 0, 0, []), (49, .aload_n 0, 1, 0, 0, 0, []), (50, .iconst 1, 1, 0, 0, 0, []), (51, .invokevirtual 94, 3, 34, 2, 8, []), (54, .goto 55, 3, 109, 0, 0, []), (57, .aload_n 0, 1, 0, 0, 0, []), (58, .getfield 41, 3, 7, 0, 2, []), (61, .getfield 133, 3, 8, 5, 0, []), (64, .bipush 99, 2, 0, 0, 0, []), (66, .if_icmp .le 11, 3, 77, 0, 0, []), (69, .aload_n 0, 1, 0, 0, 0, []), (70, .iconst 4, 1, 0, 0, 0, []), (71, .invokevirtual 94, 3, 34, 2, 8, []), (74, .goto 35, 3, 109, 0, 0, []), (77, .aload_n 0, 1, 0, 0, 0, []), (78, .getfield 111, 3, 7, 6, 0, []), (81, .bipush 20, 2, 0, 0, 0, []), (83, .if_icmp .lt 11, 3, 94, 0, 0, []), (86, .aload_n 0, 1, 0, 0, 0, []), (87, .iconst 5, 1, 0, 0, 0, []), (88, .invokevirtual 94, 3, 34, 2, 8, []), (91, .goto 18, 3, 109, 0, 0, []), (94, .aload_n 0, 1, 0, 0, 0, []), (95, .dup, 1, 0, 0, 0, []), (96, .getfield 111, 3, 7, 6, 0, []), (99, .iconst 1, 1, 0, 0, 0, []), (100, .iadd, 1, 0, 0, 0, []), (101, .putfield 111, 3, 7, 6, 0, []), (104, .aload_n 0, 1, 0, 0, 0, []), (105, .iload_n 1, 1, 0, 0, 0, []), (106, .invokevirtual 139, 3, 41, 2, 8, []), (109, .return_, 1, 0, 0, 0, [])]
/-- WholeFields$Reader.beginFactor(I)V -/
def k_WF_Reader_beginFactor : Cd9 := [(0, .iload_n 1, 1, 0, 0, 0, []), (1, .iconst (-1), 1, 0, 0, 0, []), (2, .if_icmp .ne 11, 3, 13, 0, 0, []), (5, .aload_n 0, 1, 0, 0, 0, []), (6, .iconst (-1), 1, 0, 0, 0, []), (7, .invokevirtual 142, 3, 42, 2, 8, []), (10, .goto 41, 3, 51, 0, 0, []), (13, .iload_n 1, 1, 0, 0, 0, []), (14, .bipush 107, 2, 0, 0, 0, []), (16, .if_icmp .eq 9, 3, 25, 0, 0, []), (19, .iload_n 1, 1, 0, 0, 0, []), (20, .bipush 108, 2, 0, 0, 0, []), (22, .if_icmp .ne 16, 3, 38, 0, 0, []), (25, .aload_n 0, 1, 0, 0, 0, []), (26, .iload_n 1, 1, 0, 0, 0, []), (27, .putfield 145, 3, 7, 7, 0, []), (30, .aload_n 0, 1, 0, 0, 0, []), (31, .iconst 4, 1, 0, 0, 0, []), (32, .putfield 52, 3, 7, 5, 0, []), (35, .goto 16, 3, 51, 0, 0, []), (38, .aload_n 0, 1, 0, 0, 0, []), (39, .getfield 18, 3, 7, 2, 2, []), (42, .iload_n 1, 1, 0, 0, 0, []), (43, .invokevirtual 148, 3, 43, 2, 2, []), (46, .aload_n 0, 1, 0, 0, 0, []), (47, .iconst 5, 1, 0, 0, 0, []), (48, .putfield 52, 3, 7, 5, 0, []), (51, .return_, 1, 0, 0, 0, [])]
/-- WholeFields$Reader.openWorth(I)V -/
def k_WF_Reader_openWorth : Cd9 := [(0, .aload_n 0, 1, 0, 0, 0, []), (1, .getfield 114, 3, 7, 12, 0, []), (4, .iconst 5, 1, 0, 0, 0, []), (5, .if_icmp .lt 11, 3, 16, 0, 0, []), (8, .aload_n 0, 1, 0, 0, 0, []), (9, .iconst 5, 1, 0, 0, 0, []), (10, .invokevirtual 94, 3, 34, 2, 8, []), (13, .goto 33, 3, 46, 0, 0, []), (16, .aload_n 0, 1, 0, 0, 0, []), (17, .dup, 1, 0, 0, 0, []), (18, .getfield 114, 3, 7, 12, 0, []), (21, .iconst 1, 1, 0, 0, 0, []), (22, .iadd, 1, 0, 0, 0, []), (23, .putfield 114, 3, 7, 12, 0, []), (26, .aload_n 0, 1, 0, 0, 0, []), (27, .iload_n 1, 1, 0, 0, 0, []), (28, .iload_n 1, 1, 0, 0, 0, []), (29, .iconst (-1), 1, 0, 0, 0, []), (30, .if_icmp .eq 7, 3, 37, 0, 0, []), (33, .iconst 1, 1, 0, 0, 0, []), (34, .goto 4, 3, 38, 0, 0, []), (37, .iconst 0, 1, 0, 0, 0, []), (38, .invokevirtual 117, 3, 39, 3, 8, []), (41, .aload_n 0, 1, 0, 0, 0, []), (42, .iconst 3, 1, 0, 0, 0, []), (43, .putfield 52, 3, 7, 5, 0, []), (46, .return_, 1, 0, 0, 0, [])]
/-- WholeFields$Book.addStep(I)V -/
def k_WF_Book_addStep : Cd9 := [(0, .aload_n 0, 1, 0, 0, 0, []), (1, .getfield 21, 3, 1, 3, 0, []), (4, .iconst 1, 1, 0, 0, 0, []), (5, .isub, 1, 0, 0, 0, []), (6, .istore_n 2, 1, 0, 0, 0, []), (7, .iload_n 2, 1, 0, 0, 0, []), (8, .ifCond .lt 47, 3, 55, 0, 0, []), (11, .iload_n 2, 1, 0, 0, 0, []), (12, .bipush 6, 2, 0, 0, 0, []), (14, .if_icmp .ge 41, 3, 55, 0, 0, []), (17, .aload_n 0, 1, 0, 0, 0, []), (18, .getfield 15, 3, 1, 1, 2, []), (21, .iload_n 2, 1, 0, 0, 0, []), (22, .iaload, 1, 0, 0, 0, []), (23, .bipush 40, 2, 0, 0, 0, []), (25, .if_icmp .ge 30, 3, 55, 0, 0, []), (28, .aload_n 0, 1, 0, 0, 0, []), (29, .getfield 11, 3, 1, 0, 2, []), (32, .iload_n 2, 1, 0, 0, 0, []), (33, .bipush 40, 2, 0, 0, 0, []), (35, .imul, 1, 0, 0, 0, []), (36, .aload_n 0, 1, 0, 0, 0, []), (37, .getfield 15, 3, 1, 1, 2, []), (40, .iload_n 2, 1, 0, 0, 0, []), (41, .iaload, 1, 0, 0, 0, []), (42, .iadd, 1, 0, 0, 0, []), (43, .iload_n 1, 1, 0, 0, 0, []), (44, .iastore, 1, 0, 0, 0, []), (45, .aload_n 0, 1, 0, 0, 0, []), (46, .getfield 15, 3, 1, 1, 2, []), (49, .iload_n 2, 1, 0, 0, 0, []), (50, .dup2, 1, 0, 0, 0, []), (51, .iaload, 1, 0, 0, 0, []), (52, .iconst 1, 1, 0, 0, 0, []), (53, .iadd, 1, 0, 0, 0, []), (54, .iastore, 1, 0, 0, 0, []), (55, .return_, 1, 0, 0, 0, [])]
/-- WholeFields$Reader.takeOpen()V -/
def k_WF_Reader_takeOpen : Cd9 := [(0, .aload_n 0, 1, 0, 0, 0, []), (1, .getfield 41, 3, 7, 0, 2, []), (4, .getfield 136, 3, 8, 6, 0, []), (7, .bipush 40, 2, 0, 0, 0, []), (9, .if_icmp .ne 14, 3, 23, 0, 0, []), (12, .aload_n 0, 1, 0, 0, 0, []), (13, .aload_n 0, 1, 0, 0, 0, []), (14, .getfield 145, 3, 7, 7, 0, []), (17, .invokevirtual 142, 3, 42, 2, 8, []), (20, .goto 8, 3, 28, 0, 0, []), (23, .aload_n 0, 1, 0, 0, 0, []), (24, .iconst 1, 1, 0, 0, 0, []), (25, .invokevirtual 94, 3, 34, 2, 8, []), (28, .return_, 1, 0, 0, 0, [])]
/-- WholeFields$Reader.takeBehindFactor()V -/
def k_WF_Reader_takeBehindFactor : Cd9 := [(0, .aload_n 0, 1, 0, 0, 0, []), (1, .getfield 41, 3, 7, 0, 2, []), (4, .getfield 136, 3, 8, 6, 0, []), (7, .istore_n 1, 1, 0, 0, 0, []), (8, .aload_n 0, 1, 0, 0, 0, []), (9, .invokevirtual 151, 3, 46, 1, 8, []), (12, .iload_n 1, 1, 0, 0, 0, []), (13, .bipush 42, 2, 0, 0, 0, []), (15, .if_icmp .ne 19, 3, 34, 0, 0, []), (18, .aload_n 0, 1, 0, 0, 0, []), (19, .getfield 22, 3, 7, 8, 2, []), (22, .aload_n 0, 1, 0, 0, 0, []), (23, .getfield 114, 3, 7, 12, 0, []), (26, .iconst 1, 1, 0, 0, 0, []), (27, .bastore, 1, 0, 0, 0, []), (28, .aload_n 0, 1, 0, 0, 0, []), (29, .iconst 3, 1, 0, 0, 0, []), (30, .putfield 52, 3, 7, 5, 0, []), (33, .return_, 1, 0, 0, 0, []), (34, .aload_n 0, 1, 0, 0, 0, []), (35, .invokevirtual 154, 3, 47, 1, 8, []), (38, .iload_n 1, 1, 0, 0, 0, []), (39, .bipush 43, 2, 0, 0, 0, []), (41, .if_icmp .eq 9, 3, 50, 0, 0, []), (44, .iload_n 1, 1, 0, 0, 0, []), (45, .bipush 45, 2, 0, 0, 0, []), (47, .if_icmp .ne 33, 3, 80, 0, 0, []), (50, .aload_n 0, 1, 0, 0, 0, []), (51, .getfield 26, 3, 7, 9, 2, []), (54, .aload_n 0, 1, 0, 0, 0, []), (55, .getfield 114, 3, 7, 12, 0, []), (58, .iload_n 1, 1, 0, 0, 0, []), (59, .bipush 43, 2, 0, 0, 0, []), (61, .if_icmp .ne 8, 3, 69, 0, 0, []), (64, .bipush 104, 2, 0, 0, 0, []), (66, .goto 5, 3, 71, 0, 0, []), (69, .bipush 105, 2, 0, 0, 0, []), (71, .iastore, 1, 0, 0, 0, []), (72, .aload_n 0, 1, 0, 0, 0, []), (73, .iconst 3, 1, 0, 0, 0, []), (74, .putfield 52, 3, 7, 5, 0, []), (77, .goto 120, 3, 197, 0, 0, []), (80, .iload_n 1, 1, 0, 0, 0, []), (81, .bipush 44, 2, 0, 0, 0, []), (83, .if_icmp .ne 33, 3, 116, 0, 0, []), (86, .aload_n 0, 1, 0, 0, 0, []), (87, .getfield 33, 3, 7, 11, 2, []), (90, .aload_n 0, 1, 0, 0, 0, []), (91, .getfield 114, 3, 7, 12, 0, []), (94, .baload, 1, 0, 0, 0, []), (95, .ifCond .eq 21, 3, 116, 0, 0, []), (98, .aload_n 0, 1, 0, 0, 0, []), (99, .getfield 33, 3, 7, 11, 2, []), (102, .aload_n 0, 1, 0, 0, 0, []), (103, .getfield 114, 3, 7, 12, 0, []), (106, .iconst 0, 1, 0, 0, 0, []), (107, .bastore, 1, 0, 0, 0, []), (108, .aload_n 0, 1, 0, 0, 0, []), (109, .iconst 3, 1, 0, 0, 0, []), (110, .putfield 52, 3, 7, 5, 0, []), (113, .goto 84, 3, 197, 0, 0, []), (116, .iload_n 1, 1, 0, 0, 0, []), (117, .bipush 41, 2, 0, 0, 0, []), (119, .if_icmp .ne 29, 3, 148, 0, 0, []), (122, .aload_n 0, 1, 0, 0, 0, []), (123, .getfield 114, 3, 7, 12, 0, []), (126, .ifCond .le 22, 3, 148, 0, 0, []), (129, .aload_n 0, 1, 0, 0, 0, []), (130, .getfield 33, 3, 7, 11, 2, []), (133, .aload_n 0, 1, 0, 0, 0, []), (134, .getfield 114, 3, 7, 12, 0, []), (137, .baload, 1, 0, 0, 0, []), (138, .ifCond .ne 10, 3, 148, 0, 0, []), (141, .aload_n 0, 1, 0, 0, 0, []), (142, .invokevirtual 157, 3, 48, 1, 8, []), (145, .goto 52, 3, 197, 0, 0, []), (148, .iload_n 1, 1, 0, 0, 0, []), (149, .bipush 59, 2, 0, 0, 0, []), (151, .if_icmp .ne 18, 3, 169, 0, 0, []), (154, .aload_n 0, 1, 0, 0, 0, []), (155, .getfield 114, 3, 7, 12, 0, []), (158, .ifCond .ne 11, 3, 169, 0, 0, []), (161, .aload_n 0, 1, 0, 0, 0, []), (162, .iconst 0, 1, 0, 0, 0, []), (163, .putfield 52, 3, 7, 5, 0, []), (166, .goto 31, 3, 197, 0, 0, []), (169, .aload_n 0, 1, 0, 0, 0, []), (170, .aload_n 0, 1, 0, 0, 0, []), (171, .getfield 41, 3, 7, 0, 2, []), (174, .invokevirtual 160, 3, 49, 1, 9, []), (177, .ifCond .eq 14, 3, 191, 0, 0, []), (180, .aload_n 0, 1, 0, 0, 0, []), (181, .getfield 114, 3, 7, 12, 0, []), (184, .ifCond .ne 7, 3, 191, 0, 0, []), (187, .iconst 1, 1, 0, 0, 0, []), (188, .goto 4, 3, 192, 0, 0, []), (191, .iconst 0, 1, 0, 0, 0, []), (192, .bipush 6, 2, 0, 0, 0, []), (194, .invokevirtual 76, 3, 33, 3, 8, []), (197, .return_, 1, 0, 0, 0, [])]
/-- WholeFields$Reader.endFactor()V -/
def k_WF_Reader_endFactor : Cd9 := [(0, .aload_n 0, 1, 0, 0, 0, []), (1, .getfield 22, 3, 7, 8, 2, []), (4, .aload_n 0, 1, 0, 0, 0, []), (5, .getfield 114, 3, 7, 12, 0, []), (8, .baload, 1, 0, 0, 0, []), (9, .ifCond .eq 22, 3, 31, 0, 0, []), (12, .aload_n 0, 1, 0, 0, 0, []), (13, .getfield 18, 3, 7, 2, 2, []), (16, .bipush 106, 2, 0, 0, 0, []), (18, .invokevirtual 148, 3, 43, 2, 2, []), (21, .aload_n 0, 1, 0, 0, 0, []), (22, .getfield 22, 3, 7, 8, 2, []), (25, .aload_n 0, 1, 0, 0, 0, []), (26, .getfield 114, 3, 7, 12, 0, []), (29, .iconst 0, 1, 0, 0, 0, []), (30, .bastore, 1, 0, 0, 0, []), (31, .return_, 1, 0, 0, 0, [])]
/-- WholeFields$Reader.endTerm()V -/
def k_WF_Reader_endTerm : Cd9 := [(0, .aload_n 0, 1, 0, 0, 0, []), (1, .getfield 26, 3, 7, 9, 2, []), (4, .aload_n 0, 1, 0, 0, 0, []), (5, .getfield 114, 3, 7, 12, 0, []), (8, .iaload, 1, 0, 0, 0, []), (9, .iconst (-1), 1, 0, 0, 0, []), (10, .if_icmp .eq 29, 3, 39, 0, 0, []), (13, .aload_n 0, 1, 0, 0, 0, []), (14, .getfield 18, 3, 7, 2, 2, []), (17, .aload_n 0, 1, 0, 0, 0, []), (18, .getfield 26, 3, 7, 9, 2, []), (21, .aload_n 0, 1, 0, 0, 0, []), (22, .getfield 114, 3, 7, 12, 0, []), (25, .iaload, 1, 0, 0, 0, []), (26, .invokevirtual 148, 3, 43, 2, 2, []), (29, .aload_n 0, 1, 0, 0, 0, []), (30, .getfield 26, 3, 7, 9, 2, []), (33, .aload_n 0, 1, 0, 0, 0, []), (34, .getfield 114, 3, 7, 12, 0, []), (37, .iconst (-1), 1, 0, 0, 0, []), (38, .iastore, 1, 0, 0, 0, []), (39, .return_, 1, 0, 0, 0, [])]
/-- WholeFields$Reader.closeWorth()V -/
def k_WF_Reader_closeWorth : Cd9 := [(0, .aload_n 0, 1, 0, 0, 0, []), (1, .getfield 30, 3, 7, 10, 2, []), (4, .aload_n 0, 1, 0, 0, 0, []), (5, .getfield 114, 3, 7, 12, 0, []), (8, .iaload, 1, 0, 0, 0, []), (9, .iconst (-1), 1, 0, 0, 0, []), (10, .if_icmp .eq 19, 3, 29, 0, 0, []), (13, .aload_n 0, 1, 0, 0, 0, []), (14, .getfield 18, 3, 7, 2, 2, []), (17, .aload_n 0, 1, 0, 0, 0, []), (18, .getfield 30, 3, 7, 10, 2, []), (21, .aload_n 0, 1, 0, 0, 0, []), (22, .getfield 114, 3, 7, 12, 0, []), (25, .iaload, 1, 0, 0, 0, []), (26, .invokevirtual 148, 3, 43, 2, 2, []), (29, .aload_n 0, 1, 0, 0, 0, []), (30, .dup, 1, 0, 0, 0, []), (31, .getfield 114, 3, 7, 12, 0, []), (34, .iconst 1, 1, 0, 0, 0, []), (35, .isub, 1, 0, 0, 0, []), (36, .putfield 114, 3, 7, 12, 0, []), (39, .return_, 1, 0, 0, 0, [])]
/-- WholeFields$Scanner.isAtEnd()Z -/
def k_WF_Scanner_isAtEnd : Cd9 := [(0, .aload_n 0, 1, 0, 0, 0, []), (1, .getfield 31, 3, 8, 3, 0, []), (4, .aload_n 0, 1, 0, 0, 0, []), (5, .getfield 24, 3, 8, 1, 0, []), (8, .if_icmp .lt 7, 3, 15, 0, 0, []), (11, .iconst 1, 1, 0, 0, 0, []), (12, .goto 4, 3, 16, 0, 0, []), (15, .iconst 0, 1, 0, 0, 0, []), (16, .ireturn, 1, 2, 0, 0, [])]
/-- WholeFields$Ground.leave()V -/
def k_WF_Ground_leave : Cd9 := [(0, .aload_n 0, 1, 0, 0, 0, []), (1, .iconst 0, 1, 0, 0, 0, []), (2, .putfield 37, 3, 5, 7, 0, []), (5, .aload_n 0, 1, 0, 0, 0, []), (6, .iconst 0, 1, 0, 0, 0, []), (7, .putfield 41, 3, 5, 8, 0, []), (10, .aload_n 0, 1, 0, 0, 0, []), (11, .iconst 0, 1, 0, 0, 0, []), (12, .putfield 44, 3, 5, 9, 0, []), (15, .aload_n 0, 1, 0, 0, 0, []), (16, .iconst 0, 1, 0, 0, 0, []), (17, .putfield 47, 3, 5, 10, 0, []), (20, .aload_n 0, 1, 0, 0, 0, []), (21, .iconst 0, 1, 0, 0, 0, []), (22, .putfield 50, 3, 5, 11, 0, []), (25, .aload_n 0, 1, 0, 0, 0, []), (26, .lconst 0, 1, 0, 0, 0, []), (27, .putfield 53, 3, 5, 12, 1, []), (30, .aload_n 0, 1, 0, 0, 0, []), (31, .lconst 0, 1, 0, 0, 0, []), (32, .putfield 57, 3, 5, 13, 1, []), (35, .aload_n 0, 1, 0, 0, 0, []), (36, .lconst 0, 1, 0, 0, 0, []), (37, .putfield 60, 3, 5, 14, 1, []), (40, .aload_n 0, 1, 0, 0, 0, []), (41, .lconst 0, 1, 0, 0, 0, []), (42, .putfield 63, 3, 5, 15, 1, []), (45, .aload_n 0, 1, 0, 0, 0, []), (46, .getfield 21, 3, 5, 3, 2, []), (49, .iconst 0, 1, 0, 0, 0, []), (50, .invokestatic 66, 3, 15, 2, 0, []), (53, .aload_n 0, 1, 0, 0, 0, []), (54, .getfield 24, 3, 5, 4, 2, []), (57, .iconst 0, 1, 0, 0, 0, []), (58, .invokestatic 66, 3, 15, 2, 0, []), (61, .return_, 1, 0, 0, 0, [])]
/-- WholeFields.pass(I)I -/
def k_WF_pass : Cd9 := [(0, .aload_n 0, 1, 0, 0, 0, []), (1, .iconst 0, 1, 0, 0, 0, []), (2, .putfield 129, 3, 11, 15, 0, []), (5, .iload_n 1, 1, 0, 0, 0, []), (6, .ireturn, 1, 0, 0, 0, [])]
/-- WholeFields.fault()I -/
def k_WF_fault : Cd9 := [(0, .aload_n 0, 1, 0, 0, 0, []), (1, .getfield 106, 3, 11, 11, 0, []), (4, .ireturn, 1, 0, 0, 0, [])]
/-- WholeFields.where()I -/
def k_WF_where : Cd9 := [(0, .aload_n 0, 1, 0, 0, 0, []), (1, .getfield 129, 3, 11, 15, 0, []), (4, .iconst 4, 1, 0, 0, 0, []), (5, .if_icmp .ne 10, 3, 15, 0, 0, []), (8, .aload_n 0, 1, 0, 0, 0, []), (9, .getfield 110, 3, 11, 12, 0, []), (12, .goto 4, 3, 16, 0, 0, []), (15, .iconst (-1), 1, 0, 0, 0, []), (16, .ireturn, 1, 0, 0, 0, [])]
/-- WholeFields.ground(II)I -/
def k_WF_ground : Cd9 := [(0, .aload_n 0, 1, 0, 0, 0, []), (1, .getfield 25, 3, 11, 2, 2, []), (4, .getfield 111, 3, 5, 6, 2, []), (7, .getfield 121, 3, 1, 3, 0, []), (10, .ifCond .ne 9, 3, 19, 0, 0, []), (13, .aload_n 0, 1, 0, 0, 0, []), (14, .iconst 1, 1, 0, 0, 0, []), (15, .invokevirtual 95, 3, 20, 2, 12, []), (18, .ireturn, 1, 0, 0, 0, []), (19, .iload_n 1, 1, 0, 0, 0, []), (20, .iconst 1, 1, 0, 0, 0, []), (21, .if_icmp .lt 20, 3, 41, 0, 0, []), (24, .iload_n 1, 1, 0, 0, 0, []), (25, .bipush 8, 2, 0, 0, 0, []), (27, .if_icmp .gt 14, 3, 41, 0, 0, []), (30, .iload_n 2, 1, 0, 0, 0, []), (31, .iconst 1, 1, 0, 0, 0, []), (32, .if_icmp .lt 9, 3, 41, 0, 0, []), (35, .iload_n 2, 1, 0, 0, 0, []), (36, .bipush 8, 2, 0, 0, 0, []), (38, .if_icmp .le 9, 3, 47, 0, 0, []), (41, .aload_n 0, 1, 0, 0, 0, []), (42, .iconst 2, 1, 0, 0, 0, []), (43, .invokevirtual 95, 3, 20, 2, 12, []), (46, .ireturn, 1, 0, 0, 0, []), (47, .aload_n 0, 1, 0, 0, 0, []), (48, .getfield 25, 3, 11, 2, 2, []), (51, .iload_n 1, 1, 0, 0, 0, []), (52, .iload_n 2, 1, 0, 0, 0, []), (53, .invokevirtual 132, 3, 55, 3, 6, []), (56, .aload_n 0, 1, 0, 0, 0, []), (57, .invokevirtual 84, 3, 13, 1, 12, []), (60, .aload_n 0, 1, 0, 0, 0, []), (61, .aload_n 0, 1, 0, 0, 0, []), (62, .getfield 25, 3, 11, 2, 2, []), (65, .getfield 136, 3, 5, 9, 0, []), (68, .invokevirtual 126, 3, 51, 2, 12, []), (71, .ireturn, 1, 0, 0, 0, [])]
/-- WholeFields$Ground.lay(II)V -/
def k_WF_Ground_lay : Cd9 := [(0, .aload_n 0, 1, 0, 0, 0, []), (1, .invokevirtual 72, 3, 50, 1, 6, []), (4, .aload_n 0, 1, 0, 0, 0, []), (5, .iload_n 1, 1, 0, 0, 0, []), (6, .putfield 37, 3, 5, 7, 0, []), (9, .aload_n 0, 1, 0, 0, 0, []), (10, .iload_n 2, 1, 0, 0, 0, []), (11, .putfield 41, 3, 5, 8, 0, []), (14, .aload_n 0, 1, 0, 0, 0, []), (15, .iload_n 1, 1, 0, 0, 0, []), (16, .iload_n 2, 1, 0, 0, 0, []), (17, .imul, 1, 0, 0, 0, []), (18, .putfield 44, 3, 5, 9, 0, []), (21, .aload_n 0, 1, 0, 0, 0, []), (22, .iconst 1, 1, 0, 0, 0, []), (23, .putfield 47, 3, 5, 10, 0, []), (26, .aload_n 0, 1, 0, 0, 0, []), (27, .bipush 20, 2, 0, 0, 0, []), (29, .putfield 50, 3, 5, 11, 0, []), (32, .aload_n 0, 1, 0, 0, 0, []), (33, .ldc2_w 75, 3, 8, 0, 0, []), (36, .bipush 64, 2, 0, 0, 0, []), (38, .aload_n 0, 1, 0, 0, 0, []), (39, .getfield 44, 3, 5, 9, 0, []), (42, .isub, 1, 0, 0, 0, []), (43, .lushr, 1, 0, 0, 0, []), (44, .putfield 53, 3, 5, 12, 1, []), (47, .iconst 0, 1, 0, 0, 0, []), (48, .istore_n 3, 1, 0, 0, 0, []), (49, .iload_n 3, 1, 0, 0, 0, []), (50, .aload_n 0, 1, 0, 0, 0, []), (51, .getfield 41, 3, 5, 8, 0, []), (54, .if_icmp .ge 26, 3, 80, 0, 0, []), (57, .aload_n 0, 1, 0, 0, 0, []), (58, .dup, 1, 0, 0, 0, []), (59, .getfield 60, 3, 5, 14, 1, []), (62, .lconst 1, 1, 0, 0, 0, []), (63, .iload_n 3, 1, 0, 0, 0, []), (64, .aload_n 0, 1, 0, 0, 0, []), (65, .getfield 37, 3, 5, 7, 0, []), (68, .imul, 1, 0, 0, 0, []), (69, .lshl, 1, 0, 0, 0, []), (70, .lor, 1, 0, 0, 0, []), (71, .putfield 60, 3, 5, 14, 1, []), (74, .iinc 3 1, 3, 0, 0, 0, []), (77, .goto (-28), 3, 49, 0, 0, []), (80, .aload_n 0, 1, 0, 0, 0, []), (81, .aload_n 0, 1, 0, 0, 0, []), (82, .getfield 60, 3, 5, 14, 1, []), (85, .aload_n 0, 1, 0, 0, 0, []), (86, .getfield 37, 3, 5, 7, 0, []), (89, .iconst 1, 1, 0, 0, 0, []), (90, .isub, 1, 0, 0, 0, []), (91, .lshl, 1, 0, 0, 0, []), (92, .putfield 63, 3, 5, 15, 1, []), (95, .aload_n 0, 1, 0, 0, 0, []), (96, .getfield 9, 3, 5, 0, 2, []), (99, .iconst 5, 1, 0, 0, 0, []), (100, .invokestatic 66, 3, 15, 2, 0, []), (103, .aload_n 0, 1, 0, 0, 0, []), (104, .getfield 15, 3, 5, 1, 2, []), (107, .iconst 0, 1, 0, 0, 0, []), (108, .invokestatic 66, 3, 15, 2, 0, []), (111, .aload_n 0, 1, 0, 0, 0, []), (112, .getfield 18, 3, 5, 2, 2, []), (115, .iconst (-1), 1, 0, 0, 0, []), (116, .invokestatic 66, 3, 15, 2, 0, []), (119, .aload_n 0, 1, 0, 0, 0, []), (120, .aload_n 0, 1, 0, 0, 0, []), (121, .getfield 53, 3, 5, 12, 1, []), (124, .invokevirtual 77, 3, 56, 2, 6, []), (127, .return_, 1, 0, 0, 0, [])]
/-- WholeFields$Ground.reckonPrices(J)V -/
def k_WF_Ground_reckonPrices : Cd9 := [(0, .iconst 0, 1, 0, 0, 0, []), (1, .istore_n 3, 1, 0, 0, 0, []), (2, .iload_n 3, 1, 0, 0, 0, []), (3, .aload_n 0, 1, 0, 0, 0, []), (4, .getfield 33, 3, 5, 6, 2, []), (7, .getfield 85, 3, 1, 3, 0, []), (10, .if_icmp .ge 15, 3, 25, 0, 0, []), (13, .aload_n 0, 1, 0, 0, 0, []), (14, .iload_n 3, 1, 0, 0, 0, []), (15, .lload_n 1, 1, 0, 0, 0, []), (16, .invokevirtual 92, 3, 57, 3, 6, []), (19, .iinc 3 1, 3, 0, 0, 0, []), (22, .goto (-20), 3, 2, 0, 0, []), (25, .return_, 1, 0, 0, 0, [])]
/-- WholeFields$Ground.reckonPricesTo(IJ)V -/
def k_WF_Ground_reckonPricesTo : Cd9 := [(0, .iconst 0, 1, 0, 0, 0, []), (1, .istore 4, 2, 0, 0, 0, []), (3, .iload 4, 2, 0, 0, 0, []), (5, .aload_n 0, 1, 0, 0, 0, []), (6, .getfield 44, 3, 5, 9, 0, []), (9, .if_icmp .ge 88, 3, 97, 0, 0, []), (12, .lload_n 2, 1, 0, 0, 0, []), (13, .iload 4, 2, 0, 0, 0, []), (15, .lushr, 1, 0, 0, 0, []), (16, .lconst 1, 1, 0, 0, 0, []), (17, .land, 1, 0, 0, 0, []), (18, .lconst 0, 1, 0, 0, 0, []), (19, .lcmp, 1, 0, 0, 0, []), (20, .ifCond .eq 71, 3, 91, 0, 0, []), (23, .aload_n 0, 1, 0, 0, 0, []), (24, .lconst 1, 1, 0, 0, 0, []), (25, .iload 4, 2, 0, 0, 0, []), (27, .lshl, 1, 0, 0, 0, []), (28, .invokevirtual 88, 3, 58, 2, 6, []), (31, .aload_n 0, 1, 0, 0, 0, []), (32, .getfield 57, 3, 5, 13, 1, []), (35, .land, 1, 0, 0, 0, []), (36, .lconst 0, 1, 0, 0, 0, []), (37, .lcmp, 1, 0, 0, 0, []), (38, .ifCond .eq 7, 3, 45, 0, 0, []), (41, .iconst 1, 1, 0, 0, 0, []), (42, .goto 4, 3, 46, 0, 0, []), (45, .iconst 0, 1, 0, 0, 0, []), (46, .istore 5, 2, 0, 0, 0, []), (48, .aload_n 0, 1, 0, 0, 0, []), (49, .getfield 27, 3, 5, 5, 2, []), (52, .iload_n 1, 1, 0, 0, 0, []), (53, .bipush 64, 2, 0, 0, 0, []), (55, .imul, 1, 0, 0, 0, []), (56, .iload 4, 2, 0, 0, 0, []), (58, .iadd, 1, 0, 0, 0, []), (59, .aload_n 0, 1, 0, 0, 0, []), (60, .getfield 33, 3, 5, 6, 2, []), (63, .iload_n 1, 1, 0, 0, 0, []), (64, .aload_n 0, 1, 0, 0, 0, []), (65, .getfield 9, 3, 5, 0, 2, []), (68, .iload 4, 2, 0, 0, 0, []), (70, .iaload, 1, 0, 0, 0, []), (71, .aload_n 0, 1, 0, 0, 0, []), (72, .getfield 15, 3, 5, 1, 2, []), (75, .iload 4, 2, 0, 0, 0, []), (77, .iaload, 1, 0, 0, 0, []), (78, .aload_n 0, 1, 0, 0, 0, []), (79, .iload_n 1, 1, 0, 0, 0, []), (80, .iload 4, 2, 0, 0, 0, []), (82, .invokevirtual 96, 3, 61, 3, 6, []), (85, .iload 5, 2, 0, 0, 0, []), (87, .invokevirtual 100, 3, 63, 6, 2, []), (90, .iastore, 1, 0, 0, 0, []), (91, .iinc 4 1, 3, 0, 0, 0, []), (94, .goto (-91), 3, 3, 0, 0, []), (97, .return_, 1, 0, 0, 0, [])]
/-- WholeFields$Ground.beside(J)J -/
def k_WF_Ground_beside : Cd9 := [(0, .aload_n 0, 1, 0, 0, 0, []), (1, .lload_n 1, 1, 0, 0, 0, []), (2, .invokevirtual 110, 3, 59, 2, 6, []), (5, .aload_n 0, 1, 0, 0, 0, []), (6, .lload_n 1, 1, 0, 0, 0, []), (7, .invokevirtual 113, 3, 60, 2, 6, []), (10, .lor, 1, 0, 0, 0, []), (11, .lload_n 1, 1, 0, 0, 0, []), (12, .aload_n 0, 1, 0, 0, 0, []), (13, .getfield 37, 3, 5, 7, 0, []), (16, .lshl, 1, 0, 0, 0, []), (17, .lor, 1, 0, 0, 0, []), (18, .lload_n 1, 1, 0, 0, 0, []), (19, .aload_n 0, 1, 0, 0, 0, []), (20, .getfield 37, 3, 5, 7, 0, []), (23, .lushr, 1, 0, 0, 0, []), (24, .lor, 1, 0, 0, 0, []), (25, .aload_n 0, 1, 0, 0, 0, []), (26, .getfield 53, 3, 5, 12, 1, []), (29, .land, 1, 0, 0, 0, []), (30, .lreturn, 1, 0, 0, 0, [])]
/-- WholeFields$Ground.eastOf(J)J -/
def k_WF_Ground_eastOf : Cd9 := [(0, .lload_n 1, 1, 0, 0, 0, []), (1, .aload_n 0, 1, 0, 0, 0, []), (2, .getfield 63, 3, 5, 15, 1, []), (5, .ldc2_w 75, 3, 8, 0, 0, []), (8, .lxor, 1, 0, 0, 0, []), (9, .land, 1, 0, 0, 0, []), (10, .iconst 1, 1, 0, 0, 0, []), (11, .lshl, 1, 0, 0, 0, []), (12, .lreturn, 1, 0, 0, 0, [])]
/-- WholeFields$Ground.westOf(J)J -/
def k_WF_Ground_westOf : Cd9 := [(0, .lload_n 1, 1, 0, 0, 0, []), (1, .aload_n 0, 1, 0, 0, 0, []), (2, .getfield 60, 3, 5, 14, 1, []), (5, .ldc2_w 75, 3, 8, 0, 0, []), (8, .lxor, 1, 0, 0, 0, []), (9, .land, 1, 0, 0, 0, []), (10, .iconst 1, 1, 0, 0, 0, []), (11, .lushr, 1, 0, 0, 0, []), (12, .lreturn, 1, 0, 0, 0, [])]
/-- WholeFields$Ground.steps(II)I -/
def k_WF_Ground_steps : Cd9 := [(0, .aload_n 0, 1, 0, 0, 0, []), (1, .getfield 37, 3, 5, 7, 0, []), (4, .ifCond .gt 5, 3, 9, 0, 0, []), (7, .iconst 0, 1, 0, 0, 0, []), (8, .ireturn, 1, 0, 0, 0, []), (9, .aload_n 0, 1, 0, 0, 0, []), (10, .getfield 21, 3, 5, 3, 2, []), (13, .iload_n 1, 1, 0, 0, 0, []), (14, .iaload, 1, 0, 0, 0, []), (15, .istore_n 3, 1, 0, 0, 0, []), (16, .iload_n 2, 1, 0, 0, 0, []), (17, .aload_n 0, 1, 0, 0, 0, []), (18, .getfield 37, 3, 5, 7, 0, []), (21, .irem, 1, 0, 0, 0, []), (22, .iload_n 3, 1, 0, 0, 0, []), (23, .aload_n 0, 1, 0, 0, 0, []), (24, .getfield 37, 3, 5, 7, 0, []), (27, .irem, 1, 0, 0, 0, []), (28, .isub, 1, 0, 0, 0, []), (29, .invokestatic 104, 3, 62, 1, 63, []), (32, .iload_n 2, 1, 0, 0, 0, []), (33, .aload_n 0, 1, 0, 0, 0, []), (34, .getfield 37, 3, 5, 7, 0, []), (37, .idiv, 1, 0, 0, 0, []), (38, .iload_n 3, 1, 0, 0, 0, []), (39, .aload_n 0, 1, 0, 0, 0, []), (40, .getfield 37, 3, 5, 7, 0, []), (43, .idiv, 1, 0, 0, 0, []), (44, .isub, 1, 0, 0, 0, []), (45, .invokestatic 104, 3, 62, 1, 63, []), (48, .iadd, 1, 0, 0, 0, []), (49, .ireturn, 1, 0, 0, 0, [])]
/-- java/lang/Math.abs(I)I -/
def k_Math_abs : Cd9 := [(0, .iload_n 0, 1, 0, 0, 0, []), (1, .ifCond .ge 8, 3, 9, 0, 0, []), (4, .iload_n 0, 1, 0, 0, 0, []), (5, .ineg, 1, 0, 0, 0, []), (6, .goto 4, 3, 10, 0, 0, []), (9, .iload_n 0, 1, 0, 0, 0, []), (10, .ireturn, 1, 0, 0, 0, [])]
/-- WholeFields$Book.reckon(IIIII)I -/
def k_WF_Book_reckon : Cd9 := [(0, .iload_n 1, 1, 0, 0, 0, []), (1, .ifCond .lt 11, 3, 12, 0, 0, []), (4, .iload_n 1, 1, 0, 0, 0, []), (5, .aload_n 0, 1, 0, 0, 0, []), (6, .getfield 21, 3, 1, 3, 0, []), (9, .if_icmp .lt 5, 3, 14, 0, 0, []), (12, .iconst 0, 1, 0, 0, 0, []), (13, .ireturn, 1, 0, 0, 0, []), (14, .iconst 0, 1, 0, 0, 0, []), (15, .istore 6, 2, 0, 0, 0, []), (17, .iload_n 1, 1, 0, 0, 0, []), (18, .bipush 40, 2, 0, 0, 0, []), (20, .imul, 1, 0, 0, 0, []), (21, .istore 7, 2, 0, 0, 0, []), (23, .iload 7, 2, 0, 0, 0, []), (25, .aload_n 0, 1, 0, 0, 0, []), (26, .getfield 15, 3, 1, 1, 2, []), (29, .iload_n 1, 1, 0, 0, 0, []), (30, .iaload, 1, 0, 0, 0, []), (31, .iadd, 1, 0, 0, 0, []), (32, .istore 8, 2, 0, 0, 0, []), (34, .iload 7, 2, 0, 0, 0, []), (36, .istore 9, 2, 0, 0, 0, []), (38, .iload 9, 2, 0, 0, 0, []), (40, .iload 8, 2, 0, 0, 0, []), (42, .if_icmp .ge 95, 3, 137, 0, 0, []), (45, .aload_n 0, 1, 0, 0, 0, []), (46, .getfield 11, 3, 1, 0, 2, []), (49, .iload 9, 2, 0, 0, 0, []), (51, .iaload, 1, 0, 0, 0, []), (52, .istore 10, 2, 0, 0, 0, []), (54, .iload 10, 2, 0, 0, 0, []), (56, .bipush 104, 2, 0, 0, 0, []), (58, .if_icmp .lt 45, 3, 103, 0, 0, []), (61, .iload 6, 2, 0, 0, 0, []), (63, .iconst 2, 1, 0, 0, 0, []), (64, .if_icmp .lt 67, 3, 131, 0, 0, []), (67, .iinc 6 (-1), 3, 0, 0, 0, []), (70, .aload_n 0, 1, 0, 0, 0, []), (71, .getfield 18, 3, 1, 2, 2, []), (74, .iload 6, 2, 0, 0, 0, []), (76, .iconst 1, 1, 0, 0, 0, []), (77, .isub, 1, 0, 0, 0, []), (78, .iload 10, 2, 0, 0, 0, []), (80, .aload_n 0, 1, 0, 0, 0, []), (81, .getfield 18, 3, 1, 2, 2, []), (84, .iload 6, 2, 0, 0, 0, []), (86, .iconst 1, 1, 0, 0, 0, []), (87, .isub, 1, 0, 0, 0, []), (88, .iaload, 1, 0, 0, 0, []), (89, .aload_n 0, 1, 0, 0, 0, []), (90, .getfield 18, 3, 1, 2, 2, []), (93, .iload 6, 2, 0, 0, 0, []), (95, .iaload, 1, 0, 0, 0, []), (96, .invokestatic 25, 3, 64, 3, 0, []), (99, .iastore, 1, 0, 0, 0, []), (100, .goto 31, 3, 131, 0, 0, []), (103, .iload 6, 2, 0, 0, 0, []), (105, .bipush 20, 2, 0, 0, 0, []), (107, .if_icmp .ge 24, 3, 131, 0, 0, []), (110, .aload_n 0, 1, 0, 0, 0, []), (111, .getfield 18, 3, 1, 2, 2, []), (114, .iload 6, 2, 0, 0, 0, []), (116, .iload 10, 2, 0, 0, 0, []), (118, .iload_n 2, 1, 0, 0, 0, []), (119, .iload_n 3, 1, 0, 0, 0, []), (120, .iload 4, 2, 0, 0, 0, []), (122, .iload 5, 2, 0, 0, 0, []), (124, .invokestatic 29, 3, 66, 5, 0, []), (127, .iastore, 1, 0, 0, 0, []), (128, .iinc 6 1, 3, 0, 0, 0, []), (131, .iinc 9 1, 3, 0, 0, 0, []), (134, .goto (-96), 3, 38, 0, 0, []), (137, .aload_n 0, 1, 0, 0, 0, []), (138, .getfield 18, 3, 1, 2, 2, []), (141, .iconst 0, 1, 0, 0, 0, []), (142, .iaload, 1, 0, 0, 0, []), (143, .ireturn, 1, 0, 0, 0, [])]
/-- WholeFields$Book.join(III)I -/
def k_WF_Book_join : Cd9 := [(0, .iload_n 0, 1, 0, 0, 0, []), (1, .tableswitch 58 104 107 #[31, 38, 45, 52], 31, 59, 0, 0, [(104, 32), (105, 39), (106, 46), (107, 53)]), (32, .iload_n 1, 1, 0, 0, 0, []), (33, .iload_n 2, 1, 0, 0, 0, []), (34, .iadd, 1, 0, 0, 0, []), (35, .invokestatic 33, 3, 65, 1, 0, []), (38, .ireturn, 1, 0, 0, 0, []), (39, .iload_n 1, 1, 0, 0, 0, []), (40, .iload_n 2, 1, 0, 0, 0, []), (41, .isub, 1, 0, 0, 0, []), (42, .invokestatic 33, 3, 65, 1, 0, []), (45, .ireturn, 1, 0, 0, 0, []), (46, .iload_n 1, 1, 0, 0, 0, []), (47, .iload_n 2, 1, 0, 0, 0, []), (48, .imul, 1, 0, 0, 0, []), (49, .invokestatic 33, 3, 65, 1, 0, []), (52, .ireturn, 1, 0, 0, 0, []), (53, .iload_n 1, 1, 0, 0, 0, []), (54, .iload_n 2, 1, 0, 0, 0, []), (55, .invokestatic 37, 3, 24, 2, 61, []), (58, .ireturn, 1, 0, 0, 0, []), (59, .iload_n 1, 1, 0, 0, 0, []), (60, .iload_n 2, 1, 0, 0, 0, []), (61, .invokestatic 43, 3, 25, 2, 62, []), (64, .ireturn, 1, 0, 0, 0, [])]
/-- WholeFields$Book.cut(I)I -/
def k_WF_Book_cut : Cd9 := [(0, .sipush (-10000), 3, 0, 0, 0, []), (3, .sipush 10000, 3, 0, 0, 0, []), (6, .iload_n 0, 1, 0, 0, 0, []), (7, .invokestatic 37, 3, 24, 2, 61, []), (10, .invokestatic 43, 3, 25, 2, 62, []), (13, .ireturn, 1, 0, 0, 0, [])]
/-- WholeFields$Book.single(IIIII)I -/
def k_WF_Book_single : Cd9 := [(0, .iload_n 0, 1, 0, 0, 0, []), (1, .tableswitch 40 100 103 #[31, 33, 35, 37], 31, 41, 0, 0, [(100, 32), (101, 34), (102, 36), (103, 38)]), (32, .iload_n 1, 1, 0, 0, 0, []), (33, .ireturn, 1, 0, 0, 0, []), (34, .iload_n 2, 1, 0, 0, 0, []), (35, .ireturn, 1, 0, 0, 0, []), (36, .iload_n 3, 1, 0, 0, 0, []), (37, .ireturn, 1, 0, 0, 0, []), (38, .iload 4, 2, 0, 0, 0, []), (40, .ireturn, 1, 0, 0, 0, []), (41, .iload_n 0, 1, 0, 0, 0, []), (42, .ireturn, 1, 0, 0, 0, [])]
/-- WholeFields.cell(IIIZ)Z -/
def k_WF_cell : Cd9 := [(0, .aload_n 0, 1, 0, 0, 0, []), (1, .getfield 25, 3, 11, 2, 2, []), (4, .iload_n 1, 1, 0, 0, 0, []), (5, .invokevirtual 139, 3, 68, 2, 6, []), (8, .ifCond .ne 9, 3, 17, 0, 0, []), (11, .aload_n 0, 1, 0, 0, 0, []), (12, .iconst 1, 1, 0, 0, 0, []), (13, .invokevirtual 142, 3, 69, 2, 12, []), (16, .ireturn, 1, 2, 0, 0, []), (17, .iload_n 2, 1, 0, 0, 0, []), (18, .ifCond .lt 19, 3, 37, 0, 0, []), (21, .iload_n 2, 1, 0, 0, 0, []), (22, .bipush 9, 2, 0, 0, 0, []), (24, .if_icmp .gt 13, 3, 37, 0, 0, []), (27, .iload_n 3, 1, 0, 0, 0, []), (28, .ifCond .lt 9, 3, 37, 0, 0, []), (31, .iload_n 3, 1, 0, 0, 0, []), (32, .bipush 9, 2, 0, 0, 0, []), (34, .if_icmp .le 9, 3, 43, 0, 0, []), (37, .aload_n 0, 1, 0, 0, 0, []), (38, .iconst 2, 1, 0, 0, 0, []), (39, .invokevirtual 142, 3, 69, 2, 12, []), (42, .ireturn, 1, 2, 0, 0, []), (43, .aload_n 0, 1, 0, 0, 0, []), (44, .getfield 25, 3, 11, 2, 2, []), (47, .iload_n 1, 1, 0, 0, 0, []), (48, .iload_n 2, 1, 0, 0, 0, []), (49, .iload_n 3, 1, 0, 0, 0, []), (50, .iload 4, 2, 0, 0, 0, []), (52, .invokevirtual 145, 3, 70, 5, 6, []), (55, .aload_n 0, 1, 0, 0, 0, []), (56, .invokevirtual 149, 3, 71, 1, 12, []), (59, .ireturn, 1, 2, 0, 0, [])]
/-- WholeFields$Ground.isCell(I)Z -/
def k_WF_Ground_isCell : Cd9 := [(0, .iload_n 1, 1, 0, 0, 0, []), (1, .ifCond .lt 15, 3, 16, 0, 0, []), (4, .iload_n 1, 1, 0, 0, 0, []), (5, .aload_n 0, 1, 0, 0, 0, []), (6, .getfield 44, 3, 5, 9, 0, []), (9, .if_icmp .ge 7, 3, 16, 0, 0, []), (12, .iconst 1, 1, 0, 0, 0, []), (13, .goto 4, 3, 17, 0, 0, []), (16, .iconst 0, 1, 0, 0, 0, []), (17, .ireturn, 1, 2, 0, 0, [])]
/-- WholeFields.deny(I)Z -/
def k_WF_deny : Cd9 := [(0, .aload_n 0, 1, 0, 0, 0, []), (1, .iload_n 1, 1, 0, 0, 0, []), (2, .putfield 129, 3, 11, 15, 0, []), (5, .iconst 0, 1, 0, 0, 0, []), (6, .ireturn, 1, 2, 0, 0, [])]
/-- WholeFields$Ground.change(IIIZ)V -/
def k_WF_Ground_change : Cd9 := [(0, .aload_n 0, 1, 0, 0, 0, []), (1, .getfield 9, 3, 5, 0, 2, []), (4, .iload_n 1, 1, 0, 0, 0, []), (5, .iload_n 2, 1, 0, 0, 0, []), (6, .iastore, 1, 0, 0, 0, []), (7, .aload_n 0, 1, 0, 0, 0, []), (8, .getfield 15, 3, 5, 1, 2, []), (11, .iload_n 1, 1, 0, 0, 0, []), (12, .iload_n 3, 1, 0, 0, 0, []), (13, .iastore, 1, 0, 0, 0, []), (14, .aload_n 0, 1, 0, 0, 0, []), (15, .iload 4, 2, 0, 0, 0, []), (17, .ifCond .eq 14, 3, 31, 0, 0, []), (20, .aload_n 0, 1, 0, 0, 0, []), (21, .getfield 57, 3, 5, 13, 1, []), (24, .lconst 1, 1, 0, 0, 0, []), (25, .iload_n 1, 1, 0, 0, 0, []), (26, .lshl, 1, 0, 0, 0, []), (27, .lor, 1, 0, 0, 0, []), (28, .goto 15, 3, 43, 0, 0, []), (31, .aload_n 0, 1, 0, 0, 0, []), (32, .getfield 57, 3, 5, 13, 1, []), (35, .lconst 1, 1, 0, 0, 0, []), (36, .iload_n 1, 1, 0, 0, 0, []), (37, .lshl, 1, 0, 0, 0, []), (38, .ldc2_w 75, 3, 8, 0, 0, []), (41, .lxor, 1, 0, 0, 0, []), (42, .land, 1, 0, 0, 0, []), (43, .putfield 57, 3, 5, 13, 1, []), (46, .aload_n 0, 1, 0, 0, 0, []), (47, .lconst 1, 1, 0, 0, 0, []), (48, .iload_n 1, 1, 0, 0, 0, []), (49, .lshl, 1, 0, 0, 0, []), (50, .aload_n 0, 1, 0, 0, 0, []), (51, .lconst 1, 1, 0, 0, 0, []), (52, .iload_n 1, 1, 0, 0, 0, []), (53, .lshl, 1, 0, 0, 0, []), (54, .invokevirtual 88, 3, 58, 2, 6, []), (57, .lor, 1, 0, 0, 0, []), (58, .invokevirtual 77, 3, 56, 2, 6, []), (61, .return_, 1, 0, 0, 0, [])]
/-- WholeFields.allow()Z -/
def k_WF_allow : Cd9 := [(0, .aload_n 0, 1, 0, 0, 0, []), (1, .iconst 0, 1, 0, 0, 0, []), (2, .putfield 129, 3, 11, 15, 0, []), (5, .iconst 1, 1, 0, 0, 0, []), (6, .ireturn, 1, 2, 0, 0, [])]
/-- WholeFields.door(II)Z -/
def k_WF_door : Cd9 := [(0, .aload_n 0, 1, 0, 0, 0, []), (1, .getfield 25, 3, 11, 2, 2, []), (4, .iload_n 1, 1, 0, 0, 0, []), (5, .invokevirtual 153, 3, 73, 2, 6, []), (8, .ifCond .eq 14, 3, 22, 0, 0, []), (11, .aload_n 0, 1, 0, 0, 0, []), (12, .getfield 25, 3, 11, 2, 2, []), (15, .iload_n 2, 1, 0, 0, 0, []), (16, .invokevirtual 139, 3, 68, 2, 6, []), (19, .ifCond .ne 9, 3, 28, 0, 0, []), (22, .aload_n 0, 1, 0, 0, 0, []), (23, .iconst 1, 1, 0, 0, 0, []), (24, .invokevirtual 142, 3, 69, 2, 12, []), (27, .ireturn, 1, 2, 0, 0, []), (28, .aload_n 0, 1, 0, 0, 0, []), (29, .getfield 25, 3, 11, 2, 2, []), (32, .iload_n 1, 1, 0, 0, 0, []), (33, .iload_n 2, 1, 0, 0, 0, []), (34, .invokevirtual 156, 3, 75, 3, 6, []), (37, .aload_n 0, 1, 0, 0, 0, []), (38, .invokevirtual 149, 3, 71, 1, 12, []), (41, .ireturn, 1, 2, 0, 0, [])]
/-- WholeFields$Ground.isOwner(I)Z -/
def k_WF_Ground_isOwner : Cd9 := [(0, .aload_n 0, 1, 0, 0, 0, []), (1, .invokevirtual 81, 3, 74, 1, 6, []), (4, .ifCond .eq 22, 3, 26, 0, 0, []), (7, .iload_n 1, 1, 0, 0, 0, []), (8, .ifCond .lt 18, 3, 26, 0, 0, []), (11, .iload_n 1, 1, 0, 0, 0, []), (12, .aload_n 0, 1, 0, 0, 0, []), (13, .getfield 33, 3, 5, 6, 2, []), (16, .getfield 85, 3, 1, 3, 0, []), (19, .if_icmp .ge 7, 3, 26, 0, 0, []), (22, .iconst 1, 1, 0, 0, 0, []), (23, .goto 4, 3, 27, 0, 0, []), (26, .iconst 0, 1, 0, 0, 0, []), (27, .ireturn, 1, 2, 0, 0, [])]
/-- WholeFields$Ground.stands()Z -/
def k_WF_Ground_stands : Cd9 := [(0, .aload_n 0, 1, 0, 0, 0, []), (1, .getfield 44, 3, 5, 9, 0, []), (4, .ifCond .le 7, 3, 11, 0, 0, []), (7, .iconst 1, 1, 0, 0, 0, []), (8, .goto 4, 3, 12, 0, 0, []), (11, .iconst 0, 1, 0, 0, 0, []), (12, .ireturn, 1, 2, 0, 0, [])]
/-- WholeFields$Ground.moveDoor(II)V -/
def k_WF_Ground_moveDoor : Cd9 := [(0, .aload_n 0, 1, 0, 0, 0, []), (1, .getfield 21, 3, 5, 3, 2, []), (4, .iload_n 1, 1, 0, 0, 0, []), (5, .iload_n 2, 1, 0, 0, 0, []), (6, .iastore, 1, 0, 0, 0, []), (7, .aload_n 0, 1, 0, 0, 0, []), (8, .iload_n 1, 1, 0, 0, 0, []), (9, .aload_n 0, 1, 0, 0, 0, []), (10, .getfield 53, 3, 5, 12, 1, []), (13, .invokevirtual 92, 3, 57, 3, 6, []), (16, .return_, 1, 0, 0, 0, [])]
/-- WholeFields.keep(II)Z -/
def k_WF_keep : Cd9 := [(0, .aload_n 0, 1, 0, 0, 0, []), (1, .getfield 25, 3, 11, 2, 2, []), (4, .iload_n 1, 1, 0, 0, 0, []), (5, .invokevirtual 139, 3, 68, 2, 6, []), (8, .ifCond .eq 19, 3, 27, 0, 0, []), (11, .iload_n 2, 1, 0, 0, 0, []), (12, .iconst (-1), 1, 0, 0, 0, []), (13, .if_icmp .eq 20, 3, 33, 0, 0, []), (16, .aload_n 0, 1, 0, 0, 0, []), (17, .getfield 25, 3, 11, 2, 2, []), (20, .iload_n 2, 1, 0, 0, 0, []), (21, .invokevirtual 153, 3, 73, 2, 6, []), (24, .ifCond .ne 9, 3, 33, 0, 0, []), (27, .aload_n 0, 1, 0, 0, 0, []), (28, .iconst 1, 1, 0, 0, 0, []), (29, .invokevirtual 142, 3, 69, 2, 12, []), (32, .ireturn, 1, 2, 0, 0, []), (33, .aload_n 0, 1, 0, 0, 0, []), (34, .getfield 25, 3, 11, 2, 2, []), (37, .getfield 159, 3, 5, 2, 2, []), (40, .iload_n 1, 1, 0, 0, 0, []), (41, .iload_n 2, 1, 0, 0, 0, []), (42, .iastore, 1, 0, 0, 0, []), (43, .aload_n 0, 1, 0, 0, 0, []), (44, .invokevirtual 149, 3, 71, 1, 12, []), (47, .ireturn, 1, 2, 0, 0, [])]
/-- WholeFields.had(II)Z -/
def k_WF_had : Cd9 := [(0, .aload_n 0, 1, 0, 0, 0, []), (1, .getfield 25, 3, 11, 2, 2, []), (4, .iload_n 1, 1, 0, 0, 0, []), (5, .invokevirtual 153, 3, 73, 2, 6, []), (8, .ifCond .ne 9, 3, 17, 0, 0, []), (11, .aload_n 0, 1, 0, 0, 0, []), (12, .iconst 1, 1, 0, 0, 0, []), (13, .invokevirtual 142, 3, 69, 2, 12, []), (16, .ireturn, 1, 2, 0, 0, []), (17, .iload_n 2, 1, 0, 0, 0, []), (18, .ifCond .lt 9, 3, 27, 0, 0, []), (21, .iload_n 2, 1, 0, 0, 0, []), (22, .ldc 163, 2, 0, 0, 0, []), (24, .if_icmp .le 9, 3, 33, 0, 0, []), (27, .aload_n 0, 1, 0, 0, 0, []), (28, .iconst 2, 1, 0, 0, 0, []), (29, .invokevirtual 142, 3, 69, 2, 12, []), (32, .ireturn, 1, 2, 0, 0, []), (33, .aload_n 0, 1, 0, 0, 0, []), (34, .getfield 25, 3, 11, 2, 2, []), (37, .getfield 164, 3, 5, 4, 2, []), (40, .iload_n 1, 1, 0, 0, 0, []), (41, .iload_n 2, 1, 0, 0, 0, []), (42, .iastore, 1, 0, 0, 0, []), (43, .aload_n 0, 1, 0, 0, 0, []), (44, .invokevirtual 149, 3, 71, 1, 12, []), (47, .ireturn, 1, 2, 0, 0, [])]
/-- WholeFields.set(II)Z -/
def k_WF_set : Cd9 := [(0, .aload_n 0, 1, 0, 0, 0, []), (1, .getfield 25, 3, 11, 2, 2, []), (4, .invokevirtual 167, 3, 74, 1, 6, []), (7, .ifCond .eq 12, 3, 19, 0, 0, []), (10, .iload_n 1, 1, 0, 0, 0, []), (11, .ifCond .lt 8, 3, 19, 0, 0, []), (14, .iload_n 1, 1, 0, 0, 0, []), (15, .iconst 1, 1, 0, 0, 0, []), (16, .if_icmp .le 9, 3, 25, 0, 0, []), (19, .aload_n 0, 1, 0, 0, 0, []), (20, .iconst 1, 1, 0, 0, 0, []), (21, .invokevirtual 142, 3, 69, 2, 12, []), (24, .ireturn, 1, 2, 0, 0, []), (25, .iload_n 1, 1, 0, 0, 0, []), (26, .ifCond .ne 30, 3, 56, 0, 0, []), (29, .iload_n 2, 1, 0, 0, 0, []), (30, .iconst 1, 1, 0, 0, 0, []), (31, .if_icmp .lt 8, 3, 39, 0, 0, []), (34, .iload_n 2, 1, 0, 0, 0, []), (35, .iconst 2, 1, 0, 0, 0, []), (36, .if_icmp .le 9, 3, 45, 0, 0, []), (39, .aload_n 0, 1, 0, 0, 0, []), (40, .iconst 2, 1, 0, 0, 0, []), (41, .invokevirtual 142, 3, 69, 2, 12, []), (44, .ireturn, 1, 2, 0, 0, []), (45, .aload_n 0, 1, 0, 0, 0, []), (46, .getfield 25, 3, 11, 2, 2, []), (49, .iload_n 2, 1, 0, 0, 0, []), (50, .putfield 170, 3, 5, 10, 0, []), (53, .goto 27, 3, 80, 0, 0, []), (56, .iload_n 2, 1, 0, 0, 0, []), (57, .ifCond .lt 9, 3, 66, 0, 0, []), (60, .iload_n 2, 1, 0, 0, 0, []), (61, .bipush 20, 2, 0, 0, 0, []), (63, .if_icmp .le 9, 3, 72, 0, 0, []), (66, .aload_n 0, 1, 0, 0, 0, []), (67, .iconst 2, 1, 0, 0, 0, []), (68, .invokevirtual 142, 3, 69, 2, 12, []), (71, .ireturn, 1, 2, 0, 0, []), (72, .aload_n 0, 1, 0, 0, 0, []), (73, .getfield 25, 3, 11, 2, 2, []), (76, .iload_n 2, 1, 0, 0, 0, []), (77, .putfield 173, 3, 5, 11, 0, []), (80, .aload_n 0, 1, 0, 0, 0, []), (81, .invokevirtual 149, 3, 71, 1, 12, []), (84, .ireturn, 1, 2, 0, 0, [])]
/-- WholeFields.value(II)I -/
def k_WF_value : Cd9 := [(0, .aload_n 0, 1, 0, 0, 0, []), (1, .getfield 25, 3, 11, 2, 2, []), (4, .iload_n 1, 1, 0, 0, 0, []), (5, .invokevirtual 153, 3, 73, 2, 6, []), (8, .ifCond .eq 14, 3, 22, 0, 0, []), (11, .aload_n 0, 1, 0, 0, 0, []), (12, .getfield 25, 3, 11, 2, 2, []), (15, .iload_n 2, 1, 0, 0, 0, []), (16, .invokevirtual 139, 3, 68, 2, 6, []), (19, .ifCond .ne 6, 3, 25, 0, 0, []), (22, .ldc 176, 2, 1, 0, 0, []), (24, .ireturn, 1, 0, 0, 0, []), (25, .aload_n 0, 1, 0, 0, 0, []), (26, .getfield 25, 3, 11, 2, 2, []), (29, .iload_n 1, 1, 0, 0, 0, []), (30, .iload_n 2, 1, 0, 0, 0, []), (31, .invokevirtual 177, 3, 80, 3, 6, []), (34, .ireturn, 1, 0, 0, 0, [])]
/-- WholeFields$Ground.price(II)I -/
def k_WF_Ground_price : Cd9 := [(0, .aload_n 0, 1, 0, 0, 0, []), (1, .getfield 27, 3, 5, 5, 2, []), (4, .iload_n 1, 1, 0, 0, 0, []), (5, .bipush 64, 2, 0, 0, 0, []), (7, .imul, 1, 0, 0, 0, []), (8, .iload_n 2, 1, 0, 0, 0, []), (9, .iadd, 1, 0, 0, 0, []), (10, .iaload, 1, 0, 0, 0, []), (11, .ireturn, 1, 0, 0, 0, [])]
/-- WholeFields.draw(II)Z -/
def k_WF_draw : Cd9 := [(0, .aload_n 0, 1, 0, 0, 0, []), (1, .getfield 25, 3, 11, 2, 2, []), (4, .iload_n 1, 1, 0, 0, 0, []), (5, .invokevirtual 139, 3, 68, 2, 6, []), (8, .ifCond .eq 19, 3, 27, 0, 0, []), (11, .iload_n 2, 1, 0, 0, 0, []), (12, .iconst (-1), 1, 0, 0, 0, []), (13, .if_icmp .eq 20, 3, 33, 0, 0, []), (16, .aload_n 0, 1, 0, 0, 0, []), (17, .getfield 25, 3, 11, 2, 2, []), (20, .iload_n 2, 1, 0, 0, 0, []), (21, .invokevirtual 153, 3, 73, 2, 6, []), (24, .ifCond .ne 9, 3, 33, 0, 0, []), (27, .aload_n 0, 1, 0, 0, 0, []), (28, .iconst 1, 1, 0, 0, 0, []), (29, .invokevirtual 142, 3, 69, 2, 12, []), (32, .ireturn, 1, 2, 0, 0, []), (33, .aload_n 0, 1, 0, 0, 0, []), (34, .getfield 34, 3, 11, 3, 2, []), (37, .getfield 181, 3, 3, 1, 2, []), (40, .iload_n 1, 1, 0, 0, 0, []), (41, .iaload, 1, 0, 0, 0, []), (42, .iload_n 2, 1, 0, 0, 0, []), (43, .if_icmp .ne 9, 3, 52, 0, 0, []), (46, .aload_n 0, 1, 0, 0, 0, []), (47, .iconst 5, 1, 0, 0, 0, []), (48, .invokevirtual 142, 3, 69, 2, 12, []), (51, .ireturn, 1, 2, 0, 0, []), (52, .aload_n 0, 1, 0, 0, 0, []), (53, .getfield 34, 3, 11, 3, 2, []), (56, .iload_n 1, 1, 0, 0, 0, []), (57, .iload_n 2, 1, 0, 0, 0, []), (58, .invokevirtual 184, 3, 82, 3, 4, []), (61, .aload_n 0, 1, 0, 0, 0, []), (62, .invokevirtual 149, 3, 71, 1, 12, []), (65, .ireturn, 1, 2, 0, 0, [])]
/-- WholeFields$Drawing.give(II)V -/
def k_WF_Drawing_give : Cd9 := [(0, .aload_n 0, 1, 0, 0, 0, []), (1, .getfield 9, 3, 3, 1, 2, []), (4, .iload_n 1, 1, 0, 0, 0, []), (5, .iaload, 1, 0, 0, 0, []), (6, .istore_n 3, 1, 0, 0, 0, []), (7, .iload_n 3, 1, 0, 0, 0, []), (8, .ifCond .lt 25, 3, 33, 0, 0, []), (11, .iload_n 3, 1, 0, 0, 0, []), (12, .bipush 6, 2, 0, 0, 0, []), (14, .if_icmp .ge 19, 3, 33, 0, 0, []), (17, .aload_n 0, 1, 0, 0, 0, []), (18, .getfield 15, 3, 3, 2, 2, []), (21, .iload_n 3, 1, 0, 0, 0, []), (22, .dup2, 1, 0, 0, 0, []), (23, .laload, 1, 0, 0, 0, []), (24, .lconst 1, 1, 0, 0, 0, []), (25, .iload_n 1, 1, 0, 0, 0, []), (26, .lshl, 1, 0, 0, 0, []), (27, .ldc2_w 32, 3, 9, 0, 0, []), (30, .lxor, 1, 0, 0, 0, []), (31, .land, 1, 0, 0, 0, []), (32, .lastore, 1, 0, 0, 0, []), (33, .iload_n 2, 1, 0, 0, 0, []), (34, .ifCond .lt 21, 3, 55, 0, 0, []), (37, .iload_n 2, 1, 0, 0, 0, []), (38, .bipush 6, 2, 0, 0, 0, []), (40, .if_icmp .ge 15, 3, 55, 0, 0, []), (43, .aload_n 0, 1, 0, 0, 0, []), (44, .getfield 15, 3, 3, 2, 2, []), (47, .iload_n 2, 1, 0, 0, 0, []), (48, .dup2, 1, 0, 0, 0, []), (49, .laload, 1, 0, 0, 0, []), (50, .lconst 1, 1, 0, 0, 0, []), (51, .iload_n 1, 1, 0, 0, 0, []), (52, .lshl, 1, 0, 0, 0, []), (53, .lor, 1, 0, 0, 0, []), (54, .lastore, 1, 0, 0, 0, []), (55, .aload_n 0, 1, 0, 0, 0, []), (56, .getfield 9, 3, 3, 1, 2, []), (59, .iload_n 1, 1, 0, 0, 0, []), (60, .iload_n 2, 1, 0, 0, 0, []), (61, .iastore, 1, 0, 0, 0, []), (62, .return_, 1, 0, 0, 0, [])]
/-- WholeFields.whose(I)I -/
def k_WF_whose : Cd9 := [(0, .aload_n 0, 1, 0, 0, 0, []), (1, .getfield 25, 3, 11, 2, 2, []), (4, .iload_n 1, 1, 0, 0, 0, []), (5, .invokevirtual 139, 3, 68, 2, 6, []), (8, .ifCond .ne 5, 3, 13, 0, 0, []), (11, .iconst (-1), 1, 0, 0, 0, []), (12, .ireturn, 1, 0, 0, 0, []), (13, .aload_n 0, 1, 0, 0, 0, []), (14, .getfield 34, 3, 11, 3, 2, []), (17, .getfield 181, 3, 3, 1, 2, []), (20, .iload_n 1, 1, 0, 0, 0, []), (21, .iaload, 1, 0, 0, 0, []), (22, .istore_n 2, 1, 0, 0, 0, []), (23, .iload_n 2, 1, 0, 0, 0, []), (24, .iconst (-1), 1, 0, 0, 0, []), (25, .if_icmp .ne 8, 3, 33, 0, 0, []), (28, .bipush (-2), 2, 0, 0, 0, []), (30, .goto 4, 3, 34, 0, 0, []), (33, .iload_n 2, 1, 0, 0, 0, []), (34, .ireturn, 1, 0, 0, 0, [])]
/-- WholeFields.sum(I)I -/
def k_WF_sum : Cd9 := [(0, .aload_n 0, 1, 0, 0, 0, []), (1, .getfield 25, 3, 11, 2, 2, []), (4, .iload_n 1, 1, 0, 0, 0, []), (5, .invokevirtual 153, 3, 73, 2, 6, []), (8, .ifCond .eq 14, 3, 22, 0, 0, []), (11, .aload_n 0, 1, 0, 0, 0, []), (12, .getfield 43, 3, 11, 4, 2, []), (15, .iload_n 1, 1, 0, 0, 0, []), (16, .invokevirtual 187, 3, 85, 2, 1, []), (19, .goto 5, 3, 24, 0, 0, []), (22, .ldc 176, 2, 1, 0, 0, []), (24, .ireturn, 1, 0, 0, 0, [])]
/-- WholeFields$Accounts.sumOf(I)I -/
def k_WF_Accounts_sumOf : Cd9 := [(0, .aload_n 0, 1, 0, 0, 0, []), (1, .iload_n 1, 1, 0, 0, 0, []), (2, .aload_n 0, 1, 0, 0, 0, []), (3, .getfield 15, 3, 0, 1, 2, []), (6, .getfield 38, 3, 3, 2, 2, []), (9, .iload_n 1, 1, 0, 0, 0, []), (10, .laload, 1, 0, 0, 0, []), (11, .invokevirtual 44, 3, 86, 3, 1, []), (14, .ireturn, 1, 0, 0, 0, [])]
/-- WholeFields$Accounts.fieldSum(IJ)I -/
def k_WF_Accounts_fieldSum : Cd9 := [(0, .iconst 0, 1, 0, 0, 0, []), (1, .istore 4, 2, 0, 0, 0, []), (3, .iconst 0, 1, 0, 0, 0, []), (4, .istore 5, 2, 0, 0, 0, []), (6, .iload 5, 2, 0, 0, 0, []), (8, .aload_n 0, 1, 0, 0, 0, []), (9, .getfield 9, 3, 0, 0, 2, []), (12, .getfield 48, 3, 5, 9, 0, []), (15, .if_icmp .ge 35, 3, 50, 0, 0, []), (18, .lload_n 2, 1, 0, 0, 0, []), (19, .iload 5, 2, 0, 0, 0, []), (21, .lushr, 1, 0, 0, 0, []), (22, .lconst 1, 1, 0, 0, 0, []), (23, .land, 1, 0, 0, 0, []), (24, .lconst 0, 1, 0, 0, 0, []), (25, .lcmp, 1, 0, 0, 0, []), (26, .ifCond .eq 18, 3, 44, 0, 0, []), (29, .iload 4, 2, 0, 0, 0, []), (31, .aload_n 0, 1, 0, 0, 0, []), (32, .getfield 9, 3, 0, 0, 2, []), (35, .iload_n 1, 1, 0, 0, 0, []), (36, .iload 5, 2, 0, 0, 0, []), (38, .invokevirtual 54, 3, 80, 3, 6, []), (41, .iadd, 1, 0, 0, 0, []), (42, .istore 4, 2, 0, 0, 0, []), (44, .iinc 5 1, 3, 0, 0, 0, []), (47, .goto (-41), 3, 6, 0, 0, []), (50, .iload 4, 2, 0, 0, 0, []), (52, .ireturn, 1, 0, 0, 0, [])]
/-- WholeFields.total(I)I -/
def k_WF_total : Cd9 := [(0, .aload_n 0, 1, 0, 0, 0, []), (1, .getfield 25, 3, 11, 2, 2, []), (4, .invokevirtual 167, 3, 74, 1, 6, []), (7, .ifCond .eq 13, 3, 20, 0, 0, []), (10, .iload_n 1, 1, 0, 0, 0, []), (11, .ifCond .lt 9, 3, 20, 0, 0, []), (14, .iload_n 1, 1, 0, 0, 0, []), (15, .bipush 6, 2, 0, 0, 0, []), (17, .if_icmp .le 9, 3, 26, 0, 0, []), (20, .aload_n 0, 1, 0, 0, 0, []), (21, .iconst 1, 1, 0, 0, 0, []), (22, .invokevirtual 190, 3, 88, 2, 12, []), (25, .ireturn, 1, 0, 0, 0, []), (26, .aload_n 0, 1, 0, 0, 0, []), (27, .aload_n 0, 1, 0, 0, 0, []), (28, .getfield 43, 3, 11, 4, 2, []), (31, .iload_n 1, 1, 0, 0, 0, []), (32, .invokevirtual 193, 3, 89, 2, 1, []), (35, .invokevirtual 126, 3, 51, 2, 12, []), (38, .ireturn, 1, 0, 0, 0, [])]
/-- WholeFields.refuseNumber(I)I -/
def k_WF_refuseNumber : Cd9 := [(0, .aload_n 0, 1, 0, 0, 0, []), (1, .iload_n 1, 1, 0, 0, 0, []), (2, .putfield 129, 3, 11, 15, 0, []), (5, .ldc 176, 2, 1, 0, 0, []), (7, .ireturn, 1, 0, 0, 0, [])]
/-- WholeFields$Accounts.tell(I)I -/
def k_WF_Accounts_tell : Cd9 := [(0, .iload_n 1, 1, 0, 0, 0, []), (1, .tableswitch 74 0 5 #[39, 44, 49, 54, 64, 69], 39, 75, 0, 0, [(0, 40), (1, 45), (2, 50), (3, 55), (4, 65), (5, 70)]), (40, .aload_n 0, 1, 0, 0, 0, []), (41, .invokevirtual 19, 3, 90, 1, 1, []), (44, .ireturn, 1, 0, 0, 0, []), (45, .aload_n 0, 1, 0, 0, 0, []), (46, .invokevirtual 23, 3, 91, 1, 1, []), (49, .ireturn, 1, 0, 0, 0, []), (50, .aload_n 0, 1, 0, 0, 0, []), (51, .invokevirtual 26, 3, 93, 1, 1, []), (54, .ireturn, 1, 0, 0, 0, []), (55, .aload_n 0, 1, 0, 0, 0, []), (56, .invokevirtual 26, 3, 93, 1, 1, []), (59, .aload_n 0, 1, 0, 0, 0, []), (60, .invokevirtual 19, 3, 90, 1, 1, []), (63, .isub, 1, 0, 0, 0, []), (64, .ireturn, 1, 0, 0, 0, []), (65, .aload_n 0, 1, 0, 0, 0, []), (66, .invokevirtual 29, 3, 96, 1, 1, []), (69, .ireturn, 1, 0, 0, 0, []), (70, .aload_n 0, 1, 0, 0, 0, []), (71, .invokevirtual 32, 3, 98, 1, 1, []), (74, .ireturn, 1, 0, 0, 0, []), (75, .aload_n 0, 1, 0, 0, 0, []), (76, .invokevirtual 35, 3, 100, 1, 1, []), (79, .ireturn, 1, 0, 0, 0, [])]
/-- WholeFields$Accounts.totalOfAll()I -/
def k_WF_Accounts_totalOfAll : Cd9 := [(0, .iconst 0, 1, 0, 0, 0, []), (1, .istore_n 1, 1, 0, 0, 0, []), (2, .iconst 0, 1, 0, 0, 0, []), (3, .istore_n 2, 1, 0, 0, 0, []), (4, .iload_n 2, 1, 0, 0, 0, []), (5, .aload_n 0, 1, 0, 0, 0, []), (6, .getfield 9, 3, 0, 0, 2, []), (9, .getfield 62, 3, 5, 6, 2, []), (12, .getfield 66, 3, 1, 3, 0, []), (15, .if_icmp .ge 17, 3, 32, 0, 0, []), (18, .iload_n 1, 1, 0, 0, 0, []), (19, .aload_n 0, 1, 0, 0, 0, []), (20, .iload_n 2, 1, 0, 0, 0, []), (21, .invokevirtual 71, 3, 85, 2, 1, []), (24, .iadd, 1, 0, 0, 0, []), (25, .istore_n 1, 1, 0, 0, 0, []), (26, .iinc 2 1, 3, 0, 0, 0, []), (29, .goto (-25), 3, 4, 0, 0, []), (32, .iload_n 1, 1, 0, 0, 0, []), (33, .ireturn, 1, 0, 0, 0, [])]
/-- WholeFields$Accounts.shortOfAll()I -/
def k_WF_Accounts_shortOfAll : Cd9 := [(0, .iconst 0, 1, 0, 0, 0, []), (1, .istore_n 1, 1, 0, 0, 0, []), (2, .iconst 0, 1, 0, 0, 0, []), (3, .istore_n 2, 1, 0, 0, 0, []), (4, .iload_n 2, 1, 0, 0, 0, []), (5, .aload_n 0, 1, 0, 0, 0, []), (6, .getfield 9, 3, 0, 0, 2, []), (9, .getfield 62, 3, 5, 6, 2, []), (12, .getfield 66, 3, 1, 3, 0, []), (15, .if_icmp .ge 22, 3, 37, 0, 0, []), (18, .iload_n 1, 1, 0, 0, 0, []), (19, .aload_n 0, 1, 0, 0, 0, []), (20, .iload_n 2, 1, 0, 0, 0, []), (21, .aload_n 0, 1, 0, 0, 0, []), (22, .iload_n 2, 1, 0, 0, 0, []), (23, .invokevirtual 71, 3, 85, 2, 1, []), (26, .invokevirtual 75, 3, 92, 3, 1, []), (29, .iadd, 1, 0, 0, 0, []), (30, .istore_n 1, 1, 0, 0, 0, []), (31, .iinc 2 1, 3, 0, 0, 0, []), (34, .goto (-30), 3, 4, 0, 0, []), (37, .iload_n 1, 1, 0, 0, 0, []), (38, .ireturn, 1, 0, 0, 0, [])]
/-- WholeFields$Accounts.shortBy(II)I -/
def k_WF_Accounts_shortBy : Cd9 := [(0, .aload_n 0, 1, 0, 0, 0, []), (1, .getfield 9, 3, 0, 0, 2, []), (4, .getfield 58, 3, 5, 4, 2, []), (7, .iload_n 1, 1, 0, 0, 0, []), (8, .iaload, 1, 0, 0, 0, []), (9, .iload_n 2, 1, 0, 0, 0, []), (10, .isub, 1, 0, 0, 0, []), (11, .istore_n 3, 1, 0, 0, 0, []), (12, .iload_n 3, 1, 0, 0, 0, []), (13, .ifCond .le 7, 3, 20, 0, 0, []), (16, .iload_n 3, 1, 0, 0, 0, []), (17, .goto 4, 3, 21, 0, 0, []), (20, .iconst 0, 1, 0, 0, 0, []), (21, .ireturn, 1, 0, 0, 0, [])]
/-- WholeFields$Accounts.bound()I -/
def k_WF_Accounts_bound : Cd9 := [(0, .iconst 0, 1, 0, 0, 0, []), (1, .istore_n 1, 1, 0, 0, 0, []), (2, .iconst 0, 1, 0, 0, 0, []), (3, .istore_n 2, 1, 0, 0, 0, []), (4, .iload_n 2, 1, 0, 0, 0, []), (5, .aload_n 0, 1, 0, 0, 0, []), (6, .getfield 9, 3, 0, 0, 2, []), (9, .getfield 48, 3, 5, 9, 0, []), (12, .if_icmp .ge 55, 3, 67, 0, 0, []), (15, .aload_n 0, 1, 0, 0, 0, []), (16, .getfield 9, 3, 0, 0, 2, []), (19, .iload_n 2, 1, 0, 0, 0, []), (20, .invokevirtual 78, 3, 94, 2, 6, []), (23, .ifCond .ne 38, 3, 61, 0, 0, []), (26, .aload_n 0, 1, 0, 0, 0, []), (27, .getfield 9, 3, 0, 0, 2, []), (30, .getfield 82, 3, 5, 2, 2, []), (33, .iload_n 2, 1, 0, 0, 0, []), (34, .iaload, 1, 0, 0, 0, []), (35, .istore_n 3, 1, 0, 0, 0, []), (36, .iload_n 1, 1, 0, 0, 0, []), (37, .iload_n 3, 1, 0, 0, 0, []), (38, .iconst (-1), 1, 0, 0, 0, []), (39, .if_icmp .eq 15, 3, 54, 0, 0, []), (42, .aload_n 0, 1, 0, 0, 0, []), (43, .getfield 9, 3, 0, 0, 2, []), (46, .iload_n 3, 1, 0, 0, 0, []), (47, .iload_n 2, 1, 0, 0, 0, []), (48, .invokevirtual 54, 3, 80, 3, 6, []), (51, .goto 8, 3, 59, 0, 0, []), (54, .aload_n 0, 1, 0, 0, 0, []), (55, .iload_n 2, 1, 0, 0, 0, []), (56, .invokevirtual 85, 3, 95, 2, 1, []), (59, .iadd, 1, 0, 0, 0, []), (60, .istore_n 1, 1, 0, 0, 0, []), (61, .iinc 2 1, 3, 0, 0, 0, []), (64, .goto (-60), 3, 4, 0, 0, []), (67, .iload_n 1, 1, 0, 0, 0, []), (68, .ireturn, 1, 0, 0, 0, [])]
/-- WholeFields$Ground.isWater(I)Z -/
def k_WF_Ground_isWater : Cd9 := [(0, .aload_n 0, 1, 0, 0, 0, []), (1, .getfield 57, 3, 5, 13, 1, []), (4, .iload_n 1, 1, 0, 0, 0, []), (5, .lushr, 1, 0, 0, 0, []), (6, .lconst 1, 1, 0, 0, 0, []), (7, .land, 1, 0, 0, 0, []), (8, .lconst 0, 1, 0, 0, 0, []), (9, .lcmp, 1, 0, 0, 0, []), (10, .ifCond .eq 7, 3, 17, 0, 0, []), (13, .iconst 1, 1, 0, 0, 0, []), (14, .goto 4, 3, 18, 0, 0, []), (17, .iconst 0, 1, 0, 0, 0, []), (18, .ireturn, 1, 2, 0, 0, [])]
/-- WholeFields$Accounts.greatestPrice(I)I -/
def k_WF_Accounts_greatestPrice : Cd9 := [(0, .aload_n 0, 1, 0, 0, 0, []), (1, .getfield 9, 3, 0, 0, 2, []), (4, .iconst 0, 1, 0, 0, 0, []), (5, .iload_n 1, 1, 0, 0, 0, []), (6, .invokevirtual 54, 3, 80, 3, 6, []), (9, .istore_n 2, 1, 0, 0, 0, []), (10, .iconst 1, 1, 0, 0, 0, []), (11, .istore_n 3, 1, 0, 0, 0, []), (12, .iload_n 3, 1, 0, 0, 0, []), (13, .aload_n 0, 1, 0, 0, 0, []), (14, .getfield 9, 3, 0, 0, 2, []), (17, .getfield 62, 3, 5, 6, 2, []), (20, .getfield 66, 3, 1, 3, 0, []), (23, .if_icmp .ge 23, 3, 46, 0, 0, []), (26, .iload_n 2, 1, 0, 0, 0, []), (27, .aload_n 0, 1, 0, 0, 0, []), (28, .getfield 9, 3, 0, 0, 2, []), (31, .iload_n 3, 1, 0, 0, 0, []), (32, .iload_n 1, 1, 0, 0, 0, []), (33, .invokevirtual 54, 3, 80, 3, 6, []), (36, .invokestatic 88, 3, 25, 2, 62, []), (39, .istore_n 2, 1, 0, 0, 0, []), (40, .iinc 3 1, 3, 0, 0, 0, []), (43, .goto (-31), 3, 12, 0, 0, []), (46, .iload_n 2, 1, 0, 0, 0, []), (47, .ireturn, 1, 0, 0, 0, [])]
/-- WholeFields$Accounts.envyPairs()I -/
def k_WF_Accounts_envyPairs : Cd9 := [(0, .iconst 0, 1, 0, 0, 0, []), (1, .istore_n 1, 1, 0, 0, 0, []), (2, .iconst 0, 1, 0, 0, 0, []), (3, .istore_n 2, 1, 0, 0, 0, []), (4, .iload_n 2, 1, 0, 0, 0, []), (5, .aload_n 0, 1, 0, 0, 0, []), (6, .getfield 9, 3, 0, 0, 2, []), (9, .getfield 62, 3, 5, 6, 2, []), (12, .getfield 66, 3, 1, 3, 0, []), (15, .if_icmp .ge 48, 3, 63, 0, 0, []), (18, .iconst 0, 1, 0, 0, 0, []), (19, .istore_n 3, 1, 0, 0, 0, []), (20, .iload_n 3, 1, 0, 0, 0, []), (21, .aload_n 0, 1, 0, 0, 0, []), (22, .getfield 9, 3, 0, 0, 2, []), (25, .getfield 62, 3, 5, 6, 2, []), (28, .getfield 66, 3, 1, 3, 0, []), (31, .if_icmp .ge 26, 3, 57, 0, 0, []), (34, .iload_n 2, 1, 0, 0, 0, []), (35, .iload_n 3, 1, 0, 0, 0, []), (36, .if_icmp .eq 15, 3, 51, 0, 0, []), (39, .aload_n 0, 1, 0, 0, 0, []), (40, .iload_n 2, 1, 0, 0, 0, []), (41, .iload_n 3, 1, 0, 0, 0, []), (42, .invokevirtual 93, 3, 97, 3, 1, []), (45, .ifCond .eq 6, 3, 51, 0, 0, []), (48, .iinc 1 1, 3, 0, 0, 0, []), (51, .iinc 3 1, 3, 0, 0, 0, []), (54, .goto (-34), 3, 20, 0, 0, []), (57, .iinc 2 1, 3, 0, 0, 0, []), (60, .goto (-56), 3, 4, 0, 0, []), (63, .iload_n 1, 1, 0, 0, 0, []), (64, .ireturn, 1, 0, 0, 0, [])]
/-- WholeFields$Accounts.feelsEnvy(II)Z -/
def k_WF_Accounts_feelsEnvy : Cd9 := [(0, .aload_n 0, 1, 0, 0, 0, []), (1, .getfield 15, 3, 0, 1, 2, []), (4, .getfield 38, 3, 3, 2, 2, []), (7, .iload_n 2, 1, 0, 0, 0, []), (8, .laload, 1, 0, 0, 0, []), (9, .lstore_n 3, 1, 0, 0, 0, []), (10, .lload_n 3, 1, 0, 0, 0, []), (11, .lconst 0, 1, 0, 0, 0, []), (12, .lcmp, 1, 0, 0, 0, []), (13, .ifCond .eq 21, 3, 34, 0, 0, []), (16, .aload_n 0, 1, 0, 0, 0, []), (17, .iload_n 1, 1, 0, 0, 0, []), (18, .lload_n 3, 1, 0, 0, 0, []), (19, .invokevirtual 44, 3, 86, 3, 1, []), (22, .aload_n 0, 1, 0, 0, 0, []), (23, .iload_n 1, 1, 0, 0, 0, []), (24, .invokevirtual 71, 3, 85, 2, 1, []), (27, .if_icmp .le 7, 3, 34, 0, 0, []), (30, .iconst 1, 1, 0, 0, 0, []), (31, .goto 4, 3, 35, 0, 0, []), (34, .iconst 0, 1, 0, 0, 0, []), (35, .ireturn, 1, 2, 0, 0, [])]
/-- WholeFields$Accounts.yesVotes()I -/
def k_WF_Accounts_yesVotes : Cd9 := [(0, .iconst 0, 1, 0, 0, 0, []), (1, .istore_n 1, 1, 0, 0, 0, []), (2, .iconst 0, 1, 0, 0, 0, []), (3, .istore_n 2, 1, 0, 0, 0, []), (4, .iload_n 2, 1, 0, 0, 0, []), (5, .aload_n 0, 1, 0, 0, 0, []), (6, .getfield 9, 3, 0, 0, 2, []), (9, .getfield 62, 3, 5, 6, 2, []), (12, .getfield 66, 3, 1, 3, 0, []), (15, .if_icmp .ge 20, 3, 35, 0, 0, []), (18, .aload_n 0, 1, 0, 0, 0, []), (19, .iload_n 2, 1, 0, 0, 0, []), (20, .invokevirtual 106, 3, 99, 2, 1, []), (23, .ifCond .eq 6, 3, 29, 0, 0, []), (26, .iinc 1 1, 3, 0, 0, 0, []), (29, .iinc 2 1, 3, 0, 0, 0, []), (32, .goto (-28), 3, 4, 0, 0, []), (35, .iload_n 1, 1, 0, 0, 0, []), (36, .ireturn, 1, 0, 0, 0, [])]
/-- WholeFields$Accounts.saysYes(I)Z -/
def k_WF_Accounts_saysYes : Cd9 := [(0, .iconst 0, 1, 0, 0, 0, []), (1, .istore_n 2, 1, 0, 0, 0, []), (2, .iload_n 2, 1, 0, 0, 0, []), (3, .aload_n 0, 1, 0, 0, 0, []), (4, .getfield 9, 3, 0, 0, 2, []), (7, .getfield 48, 3, 5, 9, 0, []), (10, .if_icmp .ge 43, 3, 53, 0, 0, []), (13, .aload_n 0, 1, 0, 0, 0, []), (14, .getfield 15, 3, 0, 1, 2, []), (17, .getfield 97, 3, 3, 1, 2, []), (20, .iload_n 2, 1, 0, 0, 0, []), (21, .iaload, 1, 0, 0, 0, []), (22, .iload_n 1, 1, 0, 0, 0, []), (23, .if_icmp .ne 24, 3, 47, 0, 0, []), (26, .aload_n 0, 1, 0, 0, 0, []), (27, .getfield 9, 3, 0, 0, 2, []), (30, .iload_n 1, 1, 0, 0, 0, []), (31, .iload_n 2, 1, 0, 0, 0, []), (32, .invokevirtual 100, 3, 61, 3, 6, []), (35, .aload_n 0, 1, 0, 0, 0, []), (36, .getfield 9, 3, 0, 0, 2, []), (39, .getfield 103, 3, 5, 11, 0, []), (42, .if_icmp .le 5, 3, 47, 0, 0, []), (45, .iconst 0, 1, 0, 0, 0, []), (46, .ireturn, 1, 2, 0, 0, []), (47, .iinc 2 1, 3, 0, 0, 0, []), (50, .goto (-48), 3, 2, 0, 0, []), (53, .aload_n 0, 1, 0, 0, 0, []), (54, .iload_n 1, 1, 0, 0, 0, []), (55, .invokevirtual 71, 3, 85, 2, 1, []), (58, .aload_n 0, 1, 0, 0, 0, []), (59, .getfield 9, 3, 0, 0, 2, []), (62, .getfield 58, 3, 5, 4, 2, []), (65, .iload_n 1, 1, 0, 0, 0, []), (66, .iaload, 1, 0, 0, 0, []), (67, .if_icmp .lt 7, 3, 74, 0, 0, []), (70, .iconst 1, 1, 0, 0, 0, []), (71, .goto 4, 3, 75, 0, 0, []), (74, .iconst 0, 1, 0, 0, 0, []), (75, .ireturn, 1, 2, 0, 0, [])]
/-- WholeFields$Accounts.borderLength()I -/
def k_WF_Accounts_borderLength : Cd9 := [(0, .aload_n 0, 1, 0, 0, 0, []), (1, .getfield 15, 3, 0, 1, 2, []), (4, .invokevirtual 109, 3, 101, 1, 4, []), (7, .lstore_n 1, 1, 0, 0, 0, []), (8, .aload_n 0, 1, 0, 0, 0, []), (9, .getfield 9, 3, 0, 0, 2, []), (12, .getfield 113, 3, 5, 12, 1, []), (15, .lload_n 1, 1, 0, 0, 0, []), (16, .ldc2_w 117, 3, 10, 0, 0, []), (19, .lxor, 1, 0, 0, 0, []), (20, .land, 1, 0, 0, 0, []), (21, .lstore_n 3, 1, 0, 0, 0, []), (22, .iconst 0, 1, 0, 0, 0, []), (23, .istore 5, 2, 0, 0, 0, []), (25, .iconst 0, 1, 0, 0, 0, []), (26, .istore 6, 2, 0, 0, 0, []), (28, .iconst 0, 1, 0, 0, 0, []), (29, .istore 7, 2, 0, 0, 0, []), (31, .iload 7, 2, 0, 0, 0, []), (33, .aload_n 0, 1, 0, 0, 0, []), (34, .getfield 9, 3, 0, 0, 2, []), (37, .getfield 62, 3, 5, 6, 2, []), (40, .getfield 66, 3, 1, 3, 0, []), (43, .if_icmp .ge 58, 3, 101, 0, 0, []), (46, .aload_n 0, 1, 0, 0, 0, []), (47, .getfield 15, 3, 0, 1, 2, []), (50, .getfield 38, 3, 3, 2, 2, []), (53, .iload 7, 2, 0, 0, 0, []), (55, .laload, 1, 0, 0, 0, []), (56, .lstore 8, 2, 0, 0, 0, []), (58, .iload 5, 2, 0, 0, 0, []), (60, .aload_n 0, 1, 0, 0, 0, []), (61, .getfield 9, 3, 0, 0, 2, []), (64, .lload 8, 2, 0, 0, 0, []), (66, .lload_n 1, 1, 0, 0, 0, []), (67, .lload 8, 2, 0, 0, 0, []), (69, .ldc2_w 117, 3, 10, 0, 0, []), (72, .lxor, 1, 0, 0, 0, []), (73, .land, 1, 0, 0, 0, []), (74, .invokevirtual 119, 3, 102, 3, 6, []), (77, .iadd, 1, 0, 0, 0, []), (78, .istore 5, 2, 0, 0, 0, []), (80, .iload 6, 2, 0, 0, 0, []), (82, .aload_n 0, 1, 0, 0, 0, []), (83, .getfield 9, 3, 0, 0, 2, []), (86, .lload 8, 2, 0, 0, 0, []), (88, .lload_n 3, 1, 0, 0, 0, []), (89, .invokevirtual 119, 3, 102, 3, 6, []), (92, .iadd, 1, 0, 0, 0, []), (93, .istore 6, 2, 0, 0, 0, []), (95, .iinc 7 1, 3, 0, 0, 0, []), (98, .goto (-67), 3, 31, 0, 0, []), (101, .iload 5, 2, 0, 0, 0, []), (103, .iconst 2, 1, 0, 0, 0, []), (104, .idiv, 1, 0, 0, 0, []), (105, .iload 6, 2, 0, 0, 0, []), (107, .iadd, 1, 0, 0, 0, []), (108, .ireturn, 1, 0, 0, 0, [])]
/-- WholeFields$Drawing.owned()J -/
def k_WF_Drawing_owned : Cd9 := [(0, .lconst 0, 1, 0, 0, 0, []), (1, .lstore_n 1, 1, 0, 0, 0, []), (2, .iconst 0, 1, 0, 0, 0, []), (3, .istore_n 3, 1, 0, 0, 0, []), (4, .iload_n 3, 1, 0, 0, 0, []), (5, .bipush 6, 2, 0, 0, 0, []), (7, .if_icmp .ge 18, 3, 25, 0, 0, []), (10, .lload_n 1, 1, 0, 0, 0, []), (11, .aload_n 0, 1, 0, 0, 0, []), (12, .getfield 15, 3, 3, 2, 2, []), (15, .iload_n 3, 1, 0, 0, 0, []), (16, .laload, 1, 0, 0, 0, []), (17, .lor, 1, 0, 0, 0, []), (18, .lstore_n 1, 1, 0, 0, 0, []), (19, .iinc 3 1, 3, 0, 0, 0, []), (22, .goto (-18), 3, 4, 0, 0, []), (25, .lload_n 1, 1, 0, 0, 0, []), (26, .lreturn, 1, 0, 0, 0, [])]
/-- WholeFields$Ground.sidesBetween(JJ)I -/
def k_WF_Ground_sidesBetween : Cd9 := [(0, .aload_n 0, 1, 0, 0, 0, []), (1, .lload_n 1, 1, 0, 0, 0, []), (2, .invokevirtual 110, 3, 59, 2, 6, []), (5, .lload_n 3, 1, 0, 0, 0, []), (6, .land, 1, 0, 0, 0, []), (7, .invokestatic 116, 3, 103, 1, 0, []), (10, .aload_n 0, 1, 0, 0, 0, []), (11, .lload_n 1, 1, 0, 0, 0, []), (12, .invokevirtual 113, 3, 60, 2, 6, []), (15, .lload_n 3, 1, 0, 0, 0, []), (16, .land, 1, 0, 0, 0, []), (17, .invokestatic 116, 3, 103, 1, 0, []), (20, .iadd, 1, 0, 0, 0, []), (21, .lload_n 1, 1, 0, 0, 0, []), (22, .aload_n 0, 1, 0, 0, 0, []), (23, .getfield 37, 3, 5, 7, 0, []), (26, .lshl, 1, 0, 0, 0, []), (27, .lload_n 3, 1, 0, 0, 0, []), (28, .land, 1, 0, 0, 0, []), (29, .invokestatic 116, 3, 103, 1, 0, []), (32, .iadd, 1, 0, 0, 0, []), (33, .lload_n 1, 1, 0, 0, 0, []), (34, .aload_n 0, 1, 0, 0, 0, []), (35, .getfield 37, 3, 5, 7, 0, []), (38, .lushr, 1, 0, 0, 0, []), (39, .lload_n 3, 1, 0, 0, 0, []), (40, .land, 1, 0, 0, 0, []), (41, .invokestatic 116, 3, 103, 1, 0, []), (44, .iadd, 1, 0, 0, 0, []), (45, .ireturn, 1, 0, 0, 0, [])]
/-- java/lang/Long.bitCount(J)I -/
def k_Long_bitCount : Cd9 := [(0, .lload_n 0, 1, 0, 0, 0, []), (1, .lload_n 0, 1, 0, 0, 0, []), (2, .iconst 1, 1, 0, 0, 0, []), (3, .lushr, 1, 0, 0, 0, []), (4, .ldc2_w 314, 3, 11, 0, 0, []), (7, .land, 1, 0, 0, 0, []), (8, .lsub, 1, 0, 0, 0, []), (9, .lstore_n 0, 1, 0, 0, 0, []), (10, .lload_n 0, 1, 0, 0, 0, []), (11, .ldc2_w 316, 3, 12, 0, 0, []), (14, .land, 1, 0, 0, 0, []), (15, .lload_n 0, 1, 0, 0, 0, []), (16, .iconst 2, 1, 0, 0, 0, []), (17, .lushr, 1, 0, 0, 0, []), (18, .ldc2_w 316, 3, 12, 0, 0, []), (21, .land, 1, 0, 0, 0, []), (22, .ladd, 1, 0, 0, 0, []), (23, .lstore_n 0, 1, 0, 0, 0, []), (24, .lload_n 0, 1, 0, 0, 0, []), (25, .lload_n 0, 1, 0, 0, 0, []), (26, .iconst 4, 1, 0, 0, 0, []), (27, .lushr, 1, 0, 0, 0, []), (28, .ladd, 1, 0, 0, 0, []), (29, .ldc2_w 318, 3, 13, 0, 0, []), (32, .land, 1, 0, 0, 0, []), (33, .lstore_n 0, 1, 0, 0, 0, []), (34, .lload_n 0, 1, 0, 0, 0, []), (35, .lload_n 0, 1, 0, 0, 0, []), (36, .bipush 8, 2, 0, 0, 0, []), (38, .lushr, 1, 0, 0, 0, []), (39, .ladd, 1, 0, 0, 0, []), (40, .lstore_n 0, 1, 0, 0, 0, []), (41, .lload_n 0, 1, 0, 0, 0, []), (42, .lload_n 0, 1, 0, 0, 0, []), (43, .bipush 16, 2, 0, 0, 0, []), (45, .lushr, 1, 0, 0, 0, []), (46, .ladd, 1, 0, 0, 0, []), (47, .lstore_n 0, 1, 0, 0, 0, []), (48, .lload_n 0, 1, 0, 0, 0, []), (49, .lload_n 0, 1, 0, 0, 0, []), (50, .bipush 32, 2, 0, 0, 0, []), (52, .lushr, 1, 0, 0, 0, []), (53, .ladd, 1, 0, 0, 0, []), (54, .lstore_n 0, 1, 0, 0, 0, []), (55, .lload_n 0, 1, 0, 0, 0, []), (56, .l2i, 1, 0, 0, 0, []), (57, .bipush 127, 2, 0, 0, 0, []), (59, .iand, 1, 0, 0, 0, []), (60, .ireturn, 1, 0, 0, 0, [])]
/-- WholeFields.bars()I -/
def k_WF_bars : Cd9 := [(0, .aload_n 0, 1, 0, 0, 0, []), (1, .getfield 25, 3, 11, 2, 2, []), (4, .invokevirtual 167, 3, 74, 1, 6, []), (7, .ifCond .ne 9, 3, 16, 0, 0, []), (10, .aload_n 0, 1, 0, 0, 0, []), (11, .iconst 1, 1, 0, 0, 0, []), (12, .invokevirtual 95, 3, 20, 2, 12, []), (15, .ireturn, 1, 0, 0, 0, []), (16, .aload_n 0, 1, 0, 0, 0, []), (17, .getfield 34, 3, 11, 3, 2, []), (20, .invokevirtual 196, 3, 105, 1, 4, []), (23, .istore_n 1, 1, 0, 0, 0, []), (24, .aload_n 0, 1, 0, 0, 0, []), (25, .aload_n 0, 1, 0, 0, 0, []), (26, .getfield 34, 3, 11, 3, 2, []), (29, .getfield 200, 3, 3, 3, 0, []), (32, .putfield 203, 3, 11, 13, 0, []), (35, .aload_n 0, 1, 0, 0, 0, []), (36, .iload_n 1, 1, 0, 0, 0, []), (37, .invokevirtual 126, 3, 51, 2, 12, []), (40, .ireturn, 1, 0, 0, 0, [])]
/-- WholeFields$Drawing.findBar()I -/
def k_WF_Drawing_findBar : Cd9 := [(0, .aload_n 0, 1, 0, 0, 0, []), (1, .invokevirtual 47, 3, 106, 1, 4, []), (4, .lstore_n 1, 1, 0, 0, 0, []), (5, .lload_n 1, 1, 0, 0, 0, []), (6, .lconst 0, 1, 0, 0, 0, []), (7, .lcmp, 1, 0, 0, 0, []), (8, .ifCond .eq 13, 3, 21, 0, 0, []), (11, .aload_n 0, 1, 0, 0, 0, []), (12, .iconst 1, 1, 0, 0, 0, []), (13, .lload_n 1, 1, 0, 0, 0, []), (14, .invokestatic 50, 3, 107, 1, 0, []), (17, .invokevirtual 54, 3, 108, 3, 4, []), (20, .ireturn, 1, 0, 0, 0, []), (21, .iconst 0, 1, 0, 0, 0, []), (22, .istore_n 3, 1, 0, 0, 0, []), (23, .iload_n 3, 1, 0, 0, 0, []), (24, .aload_n 0, 1, 0, 0, 0, []), (25, .getfield 19, 3, 3, 0, 2, []), (28, .getfield 58, 3, 5, 9, 0, []), (31, .if_icmp .ge 47, 3, 78, 0, 0, []), (34, .aload_n 0, 1, 0, 0, 0, []), (35, .getfield 19, 3, 3, 0, 2, []), (38, .getfield 62, 3, 5, 2, 2, []), (41, .iload_n 3, 1, 0, 0, 0, []), (42, .iaload, 1, 0, 0, 0, []), (43, .iconst (-1), 1, 0, 0, 0, []), (44, .if_icmp .eq 28, 3, 72, 0, 0, []), (47, .aload_n 0, 1, 0, 0, 0, []), (48, .getfield 19, 3, 3, 0, 2, []), (51, .getfield 62, 3, 5, 2, 2, []), (54, .iload_n 3, 1, 0, 0, 0, []), (55, .iaload, 1, 0, 0, 0, []), (56, .aload_n 0, 1, 0, 0, 0, []), (57, .getfield 9, 3, 3, 1, 2, []), (60, .iload_n 3, 1, 0, 0, 0, []), (61, .iaload, 1, 0, 0, 0, []), (62, .if_icmp .eq 10, 3, 72, 0, 0, []), (65, .aload_n 0, 1, 0, 0, 0, []), (66, .iconst 2, 1, 0, 0, 0, []), (67, .iload_n 3, 1, 0, 0, 0, []), (68, .invokevirtual 54, 3, 108, 3, 4, []), (71, .ireturn, 1, 0, 0, 0, []), (72, .iinc 3 1, 3, 0, 0, 0, []), (75, .goto (-52), 3, 23, 0, 0, []), (78, .iconst 0, 1, 0, 0, 0, []), (79, .istore_n 3, 1, 0, 0, 0, []), (80, .iload_n 3, 1, 0, 0, 0, []), (81, .bipush 6, 2, 0, 0, 0, []), (83, .if_icmp .ge 32, 3, 115, 0, 0, []), (86, .aload_n 0, 1, 0, 0, 0, []), (87, .getfield 19, 3, 3, 0, 2, []), (90, .aload_n 0, 1, 0, 0, 0, []), (91, .getfield 15, 3, 3, 2, 2, []), (94, .iload_n 3, 1, 0, 0, 0, []), (95, .laload, 1, 0, 0, 0, []), (96, .invokevirtual 65, 3, 109, 2, 6, []), (99, .ifCond .ne 10, 3, 109, 0, 0, []), (102, .aload_n 0, 1, 0, 0, 0, []), (103, .iconst 3, 1, 0, 0, 0, []), (104, .iload_n 3, 1, 0, 0, 0, []), (105, .invokevirtual 54, 3, 108, 3, 4, []), (108, .ireturn, 1, 0, 0, 0, []), (109, .iinc 3 1, 3, 0, 0, 0, []), (112, .goto (-32), 3, 80, 0, 0, []), (115, .aload_n 0, 1, 0, 0, 0, []), (116, .getfield 19, 3, 3, 0, 2, []), (119, .getfield 69, 3, 5, 10, 0, []), (122, .iconst 2, 1, 0, 0, 0, []), (123, .if_icmp .ne 10, 3, 133, 0, 0, []), (126, .aload_n 0, 1, 0, 0, 0, []), (127, .invokevirtual 72, 3, 110, 1, 4, []), (130, .goto 4, 3, 134, 0, 0, []), (133, .lconst 0, 1, 0, 0, 0, []), (134, .lstore_n 3, 1, 0, 0, 0, []), (135, .lload_n 3, 1, 0, 0, 0, []), (136, .lconst 0, 1, 0, 0, 0, []), (137, .lcmp, 1, 0, 0, 0, []), (138, .ifCond .eq 15, 3, 153, 0, 0, []), (141, .aload_n 0, 1, 0, 0, 0, []), (142, .iconst 4, 1, 0, 0, 0, []), (143, .lload_n 3, 1, 0, 0, 0, []), (144, .invokestatic 50, 3, 107, 1, 0, []), (147, .invokevirtual 54, 3, 108, 3, 4, []), (150, .goto 10, 3, 160, 0, 0, []), (153, .aload_n 0, 1, 0, 0, 0, []), (154, .iconst 0, 1, 0, 0, 0, []), (155, .bipush (-2), 2, 0, 0, 0, []), (157, .invokevirtual 54, 3, 108, 3, 4, []), (160, .ireturn, 1, 0, 0, 0, [])]
/-- WholeFields$Drawing.free()J -/
def k_WF_Drawing_free : Cd9 := [(0, .aload_n 0, 1, 0, 0, 0, []), (1, .getfield 19, 3, 3, 0, 2, []), (4, .getfield 34, 3, 5, 12, 1, []), (7, .aload_n 0, 1, 0, 0, 0, []), (8, .getfield 19, 3, 3, 0, 2, []), (11, .getfield 40, 3, 5, 13, 1, []), (14, .ldc2_w 32, 3, 9, 0, 0, []), (17, .lxor, 1, 0, 0, 0, []), (18, .land, 1, 0, 0, 0, []), (19, .aload_n 0, 1, 0, 0, 0, []), (20, .invokevirtual 43, 3, 101, 1, 4, []), (23, .ldc2_w 32, 3, 9, 0, 0, []), (26, .lxor, 1, 0, 0, 0, []), (27, .land, 1, 0, 0, 0, []), (28, .lreturn, 1, 0, 0, 0, [])]
/-- WholeFields$Ground.least(J)I -/
def k_WF_Ground_least : Cd9 := [(0, .lload_n 0, 1, 0, 0, 0, []), (1, .lload_n 0, 1, 0, 0, 0, []), (2, .lneg, 1, 0, 0, 0, []), (3, .land, 1, 0, 0, 0, []), (4, .lconst 1, 1, 0, 0, 0, []), (5, .lsub, 1, 0, 0, 0, []), (6, .invokestatic 116, 3, 103, 1, 0, []), (9, .ireturn, 1, 0, 0, 0, [])]
/-- WholeFields$Drawing.barredBy(II)I -/
def k_WF_Drawing_barredBy : Cd9 := [(0, .aload_n 0, 1, 0, 0, 0, []), (1, .iload_n 2, 1, 0, 0, 0, []), (2, .putfield 75, 3, 3, 3, 0, []), (5, .iload_n 1, 1, 0, 0, 0, []), (6, .ireturn, 1, 0, 0, 0, [])]
/-- WholeFields$Ground.hangsTogether(J)Z -/
def k_WF_Ground_hangsTogether : Cd9 := [(0, .aload_n 0, 1, 0, 0, 0, []), (1, .getfield 60, 3, 5, 14, 1, []), (4, .ldc2_w 75, 3, 8, 0, 0, []), (7, .lxor, 1, 0, 0, 0, []), (8, .lstore_n 3, 1, 0, 0, 0, []), (9, .aload_n 0, 1, 0, 0, 0, []), (10, .getfield 63, 3, 5, 15, 1, []), (13, .ldc2_w 75, 3, 8, 0, 0, []), (16, .lxor, 1, 0, 0, 0, []), (17, .lstore 5, 2, 0, 0, 0, []), (19, .lload_n 1, 1, 0, 0, 0, []), (20, .lload_n 1, 1, 0, 0, 0, []), (21, .lneg, 1, 0, 0, 0, []), (22, .land, 1, 0, 0, 0, []), (23, .lstore 7, 2, 0, 0, 0, []), (25, .iconst 0, 1, 0, 0, 0, []), (26, .istore 9, 2, 0, 0, 0, []), (28, .iload 9, 2, 0, 0, 0, []), (30, .aload_n 0, 1, 0, 0, 0, []), (31, .getfield 44, 3, 5, 9, 0, []), (34, .if_icmp .ge 61, 3, 95, 0, 0, []), (37, .lload 7, 2, 0, 0, 0, []), (39, .lload 7, 2, 0, 0, 0, []), (41, .lload 5, 2, 0, 0, 0, []), (43, .land, 1, 0, 0, 0, []), (44, .iconst 1, 1, 0, 0, 0, []), (45, .lshl, 1, 0, 0, 0, []), (46, .lor, 1, 0, 0, 0, []), (47, .lload 7, 2, 0, 0, 0, []), (49, .lload_n 3, 1, 0, 0, 0, []), (50, .land, 1, 0, 0, 0, []), (51, .iconst 1, 1, 0, 0, 0, []), (52, .lushr, 1, 0, 0, 0, []), (53, .lor, 1, 0, 0, 0, []), (54, .lload 7, 2, 0, 0, 0, []), (56, .aload_n 0, 1, 0, 0, 0, []), (57, .getfield 37, 3, 5, 7, 0, []), (60, .lshl, 1, 0, 0, 0, []), (61, .lor, 1, 0, 0, 0, []), (62, .lload 7, 2, 0, 0, 0, []), (64, .aload_n 0, 1, 0, 0, 0, []), (65, .getfield 37, 3, 5, 7, 0, []), (68, .lushr, 1, 0, 0, 0, []), (69, .lor, 1, 0, 0, 0, []), (70, .lload_n 1, 1, 0, 0, 0, []), (71, .land, 1, 0, 0, 0, []), (72, .lstore 10, 2, 0, 0, 0, []), (74, .lload 10, 2, 0, 0, 0, []), (76, .lload 7, 2, 0, 0, 0, []), (78, .lcmp, 1, 0, 0, 0, []), (79, .ifCond .ne 6, 3, 85, 0, 0, []), (82, .goto 13, 3, 95, 0, 0, []), (85, .lload 10, 2, 0, 0, 0, []), (87, .lstore 7, 2, 0, 0, 0, []), (89, .iinc 9 1, 3, 0, 0, 0, []), (92, .goto (-64), 3, 28, 0, 0, []), (95, .lload 7, 2, 0, 0, 0, []), (97, .lload_n 1, 1, 0, 0, 0, []), (98, .lcmp, 1, 0, 0, 0, []), (99, .ifCond .ne 7, 3, 106, 0, 0, []), (102, .iconst 1, 1, 0, 0, 0, []), (103, .goto 4, 3, 107, 0, 0, []), (106, .iconst 0, 1, 0, 0, 0, []), (107, .ireturn, 1, 2, 0, 0, [])]
/-- WholeFields$Drawing.thinOfAll()J -/
def k_WF_Drawing_thinOfAll : Cd9 := [(0, .lconst 0, 1, 0, 0, 0, []), (1, .lstore_n 1, 1, 0, 0, 0, []), (2, .iconst 0, 1, 0, 0, 0, []), (3, .istore_n 3, 1, 0, 0, 0, []), (4, .iload_n 3, 1, 0, 0, 0, []), (5, .bipush 6, 2, 0, 0, 0, []), (7, .if_icmp .ge 25, 3, 32, 0, 0, []), (10, .lload_n 1, 1, 0, 0, 0, []), (11, .aload_n 0, 1, 0, 0, 0, []), (12, .getfield 19, 3, 3, 0, 2, []), (15, .aload_n 0, 1, 0, 0, 0, []), (16, .getfield 15, 3, 3, 2, 2, []), (19, .iload_n 3, 1, 0, 0, 0, []), (20, .laload, 1, 0, 0, 0, []), (21, .invokevirtual 78, 3, 111, 2, 6, []), (24, .lor, 1, 0, 0, 0, []), (25, .lstore_n 1, 1, 0, 0, 0, []), (26, .iinc 3 1, 3, 0, 0, 0, []), (29, .goto (-25), 3, 4, 0, 0, []), (32, .lload_n 1, 1, 0, 0, 0, []), (33, .lreturn, 1, 0, 0, 0, [])]
/-- WholeFields$Ground.thinCells(J)J -/
def k_WF_Ground_thinCells : Cd9 := [(0, .lload_n 1, 1, 0, 0, 0, []), (1, .aload_n 0, 1, 0, 0, 0, []), (2, .lload_n 1, 1, 0, 0, 0, []), (3, .invokevirtual 113, 3, 60, 2, 6, []), (6, .land, 1, 0, 0, 0, []), (7, .lstore_n 3, 1, 0, 0, 0, []), (8, .lload_n 3, 1, 0, 0, 0, []), (9, .lload_n 3, 1, 0, 0, 0, []), (10, .aload_n 0, 1, 0, 0, 0, []), (11, .getfield 37, 3, 5, 7, 0, []), (14, .lushr, 1, 0, 0, 0, []), (15, .land, 1, 0, 0, 0, []), (16, .lstore 5, 2, 0, 0, 0, []), (18, .lload 5, 2, 0, 0, 0, []), (20, .lload 5, 2, 0, 0, 0, []), (22, .iconst 1, 1, 0, 0, 0, []), (23, .lshl, 1, 0, 0, 0, []), (24, .lor, 1, 0, 0, 0, []), (25, .lstore 7, 2, 0, 0, 0, []), (27, .lload_n 1, 1, 0, 0, 0, []), (28, .lload 7, 2, 0, 0, 0, []), (30, .lload 7, 2, 0, 0, 0, []), (32, .aload_n 0, 1, 0, 0, 0, []), (33, .getfield 37, 3, 5, 7, 0, []), (36, .lshl, 1, 0, 0, 0, []), (37, .lor, 1, 0, 0, 0, []), (38, .ldc2_w 75, 3, 8, 0, 0, []), (41, .lxor, 1, 0, 0, 0, []), (42, .land, 1, 0, 0, 0, []), (43, .lreturn, 1, 0, 0, 0, [])]
/-- WholeFields.barred()I -/
def k_WF_barred : Cd9 := [(0, .aload_n 0, 1, 0, 0, 0, []), (1, .getfield 203, 3, 11, 13, 0, []), (4, .ireturn, 1, 0, 0, 0, [])]
/-- WholeFields.envies(II)I -/
def k_WF_envies : Cd9 := [(0, .aload_n 0, 1, 0, 0, 0, []), (1, .getfield 25, 3, 11, 2, 2, []), (4, .iload_n 1, 1, 0, 0, 0, []), (5, .invokevirtual 153, 3, 73, 2, 6, []), (8, .ifCond .eq 19, 3, 27, 0, 0, []), (11, .aload_n 0, 1, 0, 0, 0, []), (12, .getfield 25, 3, 11, 2, 2, []), (15, .iload_n 2, 1, 0, 0, 0, []), (16, .invokevirtual 153, 3, 73, 2, 6, []), (19, .ifCond .eq 8, 3, 27, 0, 0, []), (22, .iload_n 1, 1, 0, 0, 0, []), (23, .iload_n 2, 1, 0, 0, 0, []), (24, .if_icmp .ne 9, 3, 33, 0, 0, []), (27, .aload_n 0, 1, 0, 0, 0, []), (28, .iconst 1, 1, 0, 0, 0, []), (29, .invokevirtual 95, 3, 20, 2, 12, []), (32, .ireturn, 1, 0, 0, 0, []), (33, .aload_n 0, 1, 0, 0, 0, []), (34, .aload_n 0, 1, 0, 0, 0, []), (35, .getfield 43, 3, 11, 4, 2, []), (38, .iload_n 1, 1, 0, 0, 0, []), (39, .iload_n 2, 1, 0, 0, 0, []), (40, .invokevirtual 206, 3, 97, 3, 1, []), (43, .ifCond .eq 7, 3, 50, 0, 0, []), (46, .iconst 1, 1, 0, 0, 0, []), (47, .goto 4, 3, 51, 0, 0, []), (50, .iconst 0, 1, 0, 0, 0, []), (51, .invokevirtual 126, 3, 51, 2, 12, []), (54, .ireturn, 1, 0, 0, 0, [])]
/-- WholeFields.votes(I)I -/
def k_WF_votes : Cd9 := [(0, .aload_n 0, 1, 0, 0, 0, []), (1, .getfield 25, 3, 11, 2, 2, []), (4, .iload_n 1, 1, 0, 0, 0, []), (5, .invokevirtual 153, 3, 73, 2, 6, []), (8, .ifCond .ne 9, 3, 17, 0, 0, []), (11, .aload_n 0, 1, 0, 0, 0, []), (12, .iconst 1, 1, 0, 0, 0, []), (13, .invokevirtual 95, 3, 20, 2, 12, []), (16, .ireturn, 1, 0, 0, 0, []), (17, .aload_n 0, 1, 0, 0, 0, []), (18, .aload_n 0, 1, 0, 0, 0, []), (19, .getfield 43, 3, 11, 4, 2, []), (22, .iload_n 1, 1, 0, 0, 0, []), (23, .invokevirtual 210, 3, 99, 2, 1, []), (26, .ifCond .eq 7, 3, 33, 0, 0, []), (29, .iconst 1, 1, 0, 0, 0, []), (30, .goto 4, 3, 34, 0, 0, []), (33, .iconst 0, 1, 0, 0, 0, []), (34, .invokevirtual 126, 3, 51, 2, 12, []), (37, .ireturn, 1, 0, 0, 0, [])]
/-- WholeFields.grow()I -/
def k_WF_grow : Cd9 := [(0, .aload_n 0, 1, 0, 0, 0, []), (1, .getfield 25, 3, 11, 2, 2, []), (4, .invokevirtual 167, 3, 74, 1, 6, []), (7, .ifCond .ne 9, 3, 16, 0, 0, []), (10, .aload_n 0, 1, 0, 0, 0, []), (11, .iconst 1, 1, 0, 0, 0, []), (12, .invokevirtual 95, 3, 20, 2, 12, []), (15, .ireturn, 1, 0, 0, 0, []), (16, .aload_n 0, 1, 0, 0, 0, []), (17, .getfield 34, 3, 11, 3, 2, []), (20, .invokevirtual 213, 3, 116, 1, 4, []), (23, .aload_n 0, 1, 0, 0, 0, []), (24, .aload_n 0, 1, 0, 0, 0, []), (25, .getfield 34, 3, 11, 3, 2, []), (28, .invokevirtual 216, 3, 106, 1, 4, []), (31, .invokestatic 220, 3, 103, 1, 0, []), (34, .invokevirtual 126, 3, 51, 2, 12, []), (37, .ireturn, 1, 0, 0, 0, [])]
/-- WholeFields$Drawing.growFromDoors()V -/
def k_WF_Drawing_growFromDoors : Cd9 := [(0, .aload_n 0, 1, 0, 0, 0, []), (1, .invokevirtual 82, 3, 14, 1, 4, []), (4, .aload_n 0, 1, 0, 0, 0, []), (5, .invokevirtual 85, 3, 117, 1, 4, []), (8, .aload_n 0, 1, 0, 0, 0, []), (9, .invokevirtual 88, 3, 118, 1, 4, []), (12, .iconst 1, 1, 0, 0, 0, []), (13, .istore_n 1, 1, 0, 0, 0, []), (14, .iconst 0, 1, 0, 0, 0, []), (15, .istore_n 2, 1, 0, 0, 0, []), (16, .iload_n 2, 1, 0, 0, 0, []), (17, .aload_n 0, 1, 0, 0, 0, []), (18, .getfield 19, 3, 3, 0, 2, []), (21, .getfield 58, 3, 5, 9, 0, []), (24, .if_icmp .gt 45, 3, 69, 0, 0, []), (27, .iload_n 1, 1, 0, 0, 0, []), (28, .ifCond .eq 41, 3, 69, 0, 0, []), (31, .iconst 0, 1, 0, 0, 0, []), (32, .istore_n 1, 1, 0, 0, 0, []), (33, .iconst 0, 1, 0, 0, 0, []), (34, .istore_n 3, 1, 0, 0, 0, []), (35, .iload_n 3, 1, 0, 0, 0, []), (36, .aload_n 0, 1, 0, 0, 0, []), (37, .getfield 19, 3, 3, 0, 2, []), (40, .getfield 91, 3, 5, 6, 2, []), (43, .getfield 95, 3, 1, 3, 0, []), (46, .if_icmp .ge 17, 3, 63, 0, 0, []), (49, .iload_n 1, 1, 0, 0, 0, []), (50, .aload_n 0, 1, 0, 0, 0, []), (51, .iload_n 3, 1, 0, 0, 0, []), (52, .invokevirtual 100, 3, 119, 2, 4, []), (55, .ior, 1, 0, 0, 0, []), (56, .istore_n 1, 1, 0, 0, 0, []), (57, .iinc 3 1, 3, 0, 0, 0, []), (60, .goto (-25), 3, 35, 0, 0, []), (63, .iinc 2 1, 3, 0, 0, 0, []), (66, .goto (-50), 3, 16, 0, 0, []), (69, .return_, 1, 0, 0, 0, [])]
/-- WholeFields$Drawing.giveKept()V -/
def k_WF_Drawing_giveKept : Cd9 := [(0, .iconst 0, 1, 0, 0, 0, []), (1, .istore_n 1, 1, 0, 0, 0, []), (2, .iload_n 1, 1, 0, 0, 0, []), (3, .aload_n 0, 1, 0, 0, 0, []), (4, .getfield 19, 3, 3, 0, 2, []), (7, .getfield 58, 3, 5, 9, 0, []), (10, .if_icmp .ge 36, 3, 46, 0, 0, []), (13, .aload_n 0, 1, 0, 0, 0, []), (14, .getfield 19, 3, 3, 0, 2, []), (17, .getfield 62, 3, 5, 2, 2, []), (20, .iload_n 1, 1, 0, 0, 0, []), (21, .iaload, 1, 0, 0, 0, []), (22, .iconst (-1), 1, 0, 0, 0, []), (23, .if_icmp .eq 17, 3, 40, 0, 0, []), (26, .aload_n 0, 1, 0, 0, 0, []), (27, .iload_n 1, 1, 0, 0, 0, []), (28, .aload_n 0, 1, 0, 0, 0, []), (29, .getfield 19, 3, 3, 0, 2, []), (32, .getfield 62, 3, 5, 2, 2, []), (35, .iload_n 1, 1, 0, 0, 0, []), (36, .iaload, 1, 0, 0, 0, []), (37, .invokevirtual 104, 3, 82, 3, 4, []), (40, .iinc 1 1, 3, 0, 0, 0, []), (43, .goto (-41), 3, 2, 0, 0, []), (46, .return_, 1, 0, 0, 0, [])]
/-- WholeFields$Drawing.giveDoors()V -/
def k_WF_Drawing_giveDoors : Cd9 := [(0, .iconst 0, 1, 0, 0, 0, []), (1, .istore_n 1, 1, 0, 0, 0, []), (2, .iload_n 1, 1, 0, 0, 0, []), (3, .aload_n 0, 1, 0, 0, 0, []), (4, .getfield 19, 3, 3, 0, 2, []), (7, .getfield 91, 3, 5, 6, 2, []), (10, .getfield 95, 3, 1, 3, 0, []), (13, .if_icmp .ge 46, 3, 59, 0, 0, []), (16, .aload_n 0, 1, 0, 0, 0, []), (17, .getfield 19, 3, 3, 0, 2, []), (20, .getfield 108, 3, 5, 3, 2, []), (23, .iload_n 1, 1, 0, 0, 0, []), (24, .iaload, 1, 0, 0, 0, []), (25, .istore_n 2, 1, 0, 0, 0, []), (26, .aload_n 0, 1, 0, 0, 0, []), (27, .getfield 19, 3, 3, 0, 2, []), (30, .iload_n 2, 1, 0, 0, 0, []), (31, .invokevirtual 111, 3, 94, 2, 6, []), (34, .ifCond .ne 19, 3, 53, 0, 0, []), (37, .aload_n 0, 1, 0, 0, 0, []), (38, .getfield 9, 3, 3, 1, 2, []), (41, .iload_n 2, 1, 0, 0, 0, []), (42, .iaload, 1, 0, 0, 0, []), (43, .iconst (-1), 1, 0, 0, 0, []), (44, .if_icmp .ne 9, 3, 53, 0, 0, []), (47, .aload_n 0, 1, 0, 0, 0, []), (48, .iload_n 2, 1, 0, 0, 0, []), (49, .iload_n 1, 1, 0, 0, 0, []), (50, .invokevirtual 104, 3, 82, 3, 4, []), (53, .iinc 1 1, 3, 0, 0, 0, []), (56, .goto (-54), 3, 2, 0, 0, []), (59, .return_, 1, 0, 0, 0, [])]
/-- WholeFields$Drawing.takeOne(I)Z -/
def k_WF_Drawing_takeOne : Cd9 := [(0, .aload_n 0, 1, 0, 0, 0, []), (1, .getfield 19, 3, 3, 0, 2, []), (4, .aload_n 0, 1, 0, 0, 0, []), (5, .getfield 15, 3, 3, 2, 2, []), (8, .iload_n 1, 1, 0, 0, 0, []), (9, .laload, 1, 0, 0, 0, []), (10, .invokevirtual 114, 3, 58, 2, 6, []), (13, .aload_n 0, 1, 0, 0, 0, []), (14, .invokevirtual 47, 3, 106, 1, 4, []), (17, .land, 1, 0, 0, 0, []), (18, .lstore_n 2, 1, 0, 0, 0, []), (19, .iconst (-1), 1, 0, 0, 0, []), (20, .istore 4, 2, 0, 0, 0, []), (22, .iconst 0, 1, 0, 0, 0, []), (23, .istore 5, 2, 0, 0, 0, []), (25, .iconst 0, 1, 0, 0, 0, []), (26, .istore 6, 2, 0, 0, 0, []), (28, .iload 6, 2, 0, 0, 0, []), (30, .aload_n 0, 1, 0, 0, 0, []), (31, .getfield 19, 3, 3, 0, 2, []), (34, .getfield 58, 3, 5, 9, 0, []), (37, .if_icmp .ge 57, 3, 94, 0, 0, []), (40, .lload_n 2, 1, 0, 0, 0, []), (41, .iload 6, 2, 0, 0, 0, []), (43, .lushr, 1, 0, 0, 0, []), (44, .lconst 1, 1, 0, 0, 0, []), (45, .land, 1, 0, 0, 0, []), (46, .lconst 0, 1, 0, 0, 0, []), (47, .lcmp, 1, 0, 0, 0, []), (48, .ifCond .eq 40, 3, 88, 0, 0, []), (51, .iload 4, 2, 0, 0, 0, []), (53, .iconst (-1), 1, 0, 0, 0, []), (54, .if_icmp .eq 18, 3, 72, 0, 0, []), (57, .aload_n 0, 1, 0, 0, 0, []), (58, .getfield 19, 3, 3, 0, 2, []), (61, .iload_n 1, 1, 0, 0, 0, []), (62, .iload 6, 2, 0, 0, 0, []), (64, .invokevirtual 117, 3, 80, 3, 6, []), (67, .iload 5, 2, 0, 0, 0, []), (69, .if_icmp .le 19, 3, 88, 0, 0, []), (72, .iload 6, 2, 0, 0, 0, []), (74, .istore 4, 2, 0, 0, 0, []), (76, .aload_n 0, 1, 0, 0, 0, []), (77, .getfield 19, 3, 3, 0, 2, []), (80, .iload_n 1, 1, 0, 0, 0, []), (81, .iload 6, 2, 0, 0, 0, []), (83, .invokevirtual 117, 3, 80, 3, 6, []), (86, .istore 5, 2, 0, 0, 0, []), (88, .iinc 6 1, 3, 0, 0, 0, []), (91, .goto (-63), 3, 28, 0, 0, []), (94, .iload 4, 2, 0, 0, 0, []), (96, .iconst (-1), 1, 0, 0, 0, []), (97, .if_icmp .ne 5, 3, 102, 0, 0, []), (100, .iconst 0, 1, 0, 0, 0, []), (101, .ireturn, 1, 2, 0, 0, []), (102, .aload_n 0, 1, 0, 0, 0, []), (103, .iload 4, 2, 0, 0, 0, []), (105, .iload_n 1, 1, 0, 0, 0, []), (106, .invokevirtual 104, 3, 82, 3, 4, []), (109, .iconst 1, 1, 0, 0, 0, []), (110, .ireturn, 1, 2, 0, 0, [])]
/-- WholeFields.better(I)I -/
def k_WF_better : Cd9 := [(0, .aload_n 0, 1, 0, 0, 0, []), (1, .getfield 25, 3, 11, 2, 2, []), (4, .invokevirtual 167, 3, 74, 1, 6, []), (7, .ifCond .ne 9, 3, 16, 0, 0, []), (10, .aload_n 0, 1, 0, 0, 0, []), (11, .iconst 1, 1, 0, 0, 0, []), (12, .invokevirtual 95, 3, 20, 2, 12, []), (15, .ireturn, 1, 0, 0, 0, []), (16, .iload_n 1, 1, 0, 0, 0, []), (17, .iconst 1, 1, 0, 0, 0, []), (18, .if_icmp .lt 9, 3, 27, 0, 0, []), (21, .iload_n 1, 1, 0, 0, 0, []), (22, .bipush 100, 2, 0, 0, 0, []), (24, .if_icmp .le 9, 3, 33, 0, 0, []), (27, .aload_n 0, 1, 0, 0, 0, []), (28, .iconst 2, 1, 0, 0, 0, []), (29, .invokevirtual 95, 3, 20, 2, 12, []), (32, .ireturn, 1, 0, 0, 0, []), (33, .aload_n 0, 1, 0, 0, 0, []), (34, .getfield 34, 3, 11, 3, 2, []), (37, .invokevirtual 196, 3, 105, 1, 4, []), (40, .ifCond .eq 9, 3, 49, 0, 0, []), (43, .aload_n 0, 1, 0, 0, 0, []), (44, .iconst 5, 1, 0, 0, 0, []), (45, .invokevirtual 95, 3, 20, 2, 12, []), (48, .ireturn, 1, 0, 0, 0, []), (49, .aload_n 0, 1, 0, 0, 0, []), (50, .aload_n 0, 1, 0, 0, 0, []), (51, .getfield 52, 3, 11, 5, 2, []), (54, .iload_n 1, 1, 0, 0, 0, []), (55, .invokevirtual 226, 3, 121, 2, 7, []), (58, .invokevirtual 126, 3, 51, 2, 12, []), (61, .ireturn, 1, 0, 0, 0, [])]
/-- WholeFields$Mover.run(I)I -/
def k_WF_Mover_run : Cd9 := [(0, .iconst 0, 1, 0, 0, 0, []), (1, .istore_n 2, 1, 0, 0, 0, []), (2, .iload_n 2, 1, 0, 0, 0, []), (3, .iload_n 1, 1, 0, 0, 0, []), (4, .if_icmp .ge 22, 3, 26, 0, 0, []), (7, .aload_n 0, 1, 0, 0, 0, []), (8, .invokevirtual 27, 3, 122, 1, 7, []), (11, .ifCond .ne 5, 3, 16, 0, 0, []), (14, .iload_n 2, 1, 0, 0, 0, []), (15, .ireturn, 1, 0, 0, 0, []), (16, .aload_n 0, 1, 0, 0, 0, []), (17, .invokevirtual 31, 3, 131, 1, 7, []), (20, .iinc 2 1, 3, 0, 0, 0, []), (23, .goto (-21), 3, 2, 0, 0, []), (26, .iload_n 1, 1, 0, 0, 0, []), (27, .ireturn, 1, 0, 0, 0, [])]
/-- WholeFields$Mover.seek()Z -/
def k_WF_Mover_seek : Cd9 := [(0, .aload_n 0, 1, 0, 0, 0, []), (1, .iconst 0, 1, 0, 0, 0, []), (2, .putfield 53, 3, 6, 4, 0, []), (5, .aload_n 0, 1, 0, 0, 0, []), (6, .iconst 0, 1, 0, 0, 0, []), (7, .putfield 56, 3, 6, 5, 0, []), (10, .iconst 0, 1, 0, 0, 0, []), (11, .istore_n 1, 1, 0, 0, 0, []), (12, .iload_n 1, 1, 0, 0, 0, []), (13, .aload_n 0, 1, 0, 0, 0, []), (14, .getfield 15, 3, 6, 0, 2, []), (17, .getfield 59, 3, 5, 6, 2, []), (20, .getfield 65, 3, 1, 3, 0, []), (23, .if_icmp .ge 61, 3, 84, 0, 0, []), (26, .aload_n 0, 1, 0, 0, 0, []), (27, .getfield 9, 3, 6, 3, 2, []), (30, .iload_n 1, 1, 0, 0, 0, []), (31, .aload_n 0, 1, 0, 0, 0, []), (32, .getfield 23, 3, 6, 2, 2, []), (35, .iload_n 1, 1, 0, 0, 0, []), (36, .invokevirtual 70, 3, 85, 2, 1, []), (39, .iastore, 1, 0, 0, 0, []), (40, .aload_n 0, 1, 0, 0, 0, []), (41, .dup, 1, 0, 0, 0, []), (42, .getfield 53, 3, 6, 4, 0, []), (45, .aload_n 0, 1, 0, 0, 0, []), (46, .getfield 23, 3, 6, 2, 2, []), (49, .iload_n 1, 1, 0, 0, 0, []), (50, .aload_n 0, 1, 0, 0, 0, []), (51, .getfield 9, 3, 6, 3, 2, []), (54, .iload_n 1, 1, 0, 0, 0, []), (55, .iaload, 1, 0, 0, 0, []), (56, .invokevirtual 76, 3, 92, 3, 1, []), (59, .iadd, 1, 0, 0, 0, []), (60, .putfield 53, 3, 6, 4, 0, []), (63, .aload_n 0, 1, 0, 0, 0, []), (64, .dup, 1, 0, 0, 0, []), (65, .getfield 56, 3, 6, 5, 0, []), (68, .aload_n 0, 1, 0, 0, 0, []), (69, .getfield 9, 3, 6, 3, 2, []), (72, .iload_n 1, 1, 0, 0, 0, []), (73, .iaload, 1, 0, 0, 0, []), (74, .iadd, 1, 0, 0, 0, []), (75, .putfield 56, 3, 6, 5, 0, []), (78, .iinc 1 1, 3, 0, 0, 0, []), (81, .goto (-69), 3, 12, 0, 0, []), (84, .aload_n 0, 1, 0, 0, 0, []), (85, .aload_n 0, 1, 0, 0, 0, []), (86, .getfield 53, 3, 6, 4, 0, []), (89, .putfield 80, 3, 6, 6, 0, []), (92, .aload_n 0, 1, 0, 0, 0, []), (93, .aload_n 0, 1, 0, 0, 0, []), (94, .getfield 56, 3, 6, 5, 0, []), (97, .putfield 83, 3, 6, 7, 0, []), (100, .aload_n 0, 1, 0, 0, 0, []), (101, .iconst (-1), 1, 0, 0, 0, []), (102, .putfield 39, 3, 6, 8, 0, []), (105, .iconst 0, 1, 0, 0, 0, []), (106, .istore_n 1, 1, 0, 0, 0, []), (107, .iload_n 1, 1, 0, 0, 0, []), (108, .aload_n 0, 1, 0, 0, 0, []), (109, .getfield 15, 3, 6, 0, 2, []), (112, .getfield 86, 3, 5, 9, 0, []), (115, .if_icmp .ge 22, 3, 137, 0, 0, []), (118, .aload_n 0, 1, 0, 0, 0, []), (119, .iload_n 1, 1, 0, 0, 0, []), (120, .invokevirtual 89, 3, 123, 2, 7, []), (123, .ifCond .eq 8, 3, 131, 0, 0, []), (126, .aload_n 0, 1, 0, 0, 0, []), (127, .iload_n 1, 1, 0, 0, 0, []), (128, .invokevirtual 93, 3, 124, 2, 7, []), (131, .iinc 1 1, 3, 0, 0, 0, []), (134, .goto (-27), 3, 107, 0, 0, []), (137, .iconst 0, 1, 0, 0, 0, []), (138, .istore_n 1, 1, 0, 0, 0, []), (139, .iload_n 1, 1, 0, 0, 0, []), (140, .aload_n 0, 1, 0, 0, 0, []), (141, .getfield 15, 3, 6, 0, 2, []), (144, .getfield 86, 3, 5, 9, 0, []), (147, .if_icmp .ge 22, 3, 169, 0, 0, []), (150, .aload_n 0, 1, 0, 0, 0, []), (151, .iload_n 1, 1, 0, 0, 0, []), (152, .invokevirtual 89, 3, 123, 2, 7, []), (155, .ifCond .eq 8, 3, 163, 0, 0, []), (158, .aload_n 0, 1, 0, 0, 0, []), (159, .iload_n 1, 1, 0, 0, 0, []), (160, .invokevirtual 97, 3, 130, 2, 7, []), (163, .iinc 1 1, 3, 0, 0, 0, []), (166, .goto (-27), 3, 139, 0, 0, []), (169, .aload_n 0, 1, 0, 0, 0, []), (170, .getfield 39, 3, 6, 8, 0, []), (173, .iconst (-1), 1, 0, 0, 0, []), (174, .if_icmp .eq 7, 3, 181, 0, 0, []), (177, .iconst 1, 1, 0, 0, 0, []), (178, .goto 4, 3, 182, 0, 0, []), (181, .iconst 0, 1, 0, 0, 0, []), (182, .ireturn, 1, 2, 0, 0, [])]
/-- WholeFields$Mover.mayMove(I)Z -/
def k_WF_Mover_mayMove : Cd9 := [(0, .aload_n 0, 1, 0, 0, 0, []), (1, .getfield 15, 3, 6, 0, 2, []), (4, .iload_n 1, 1, 0, 0, 0, []), (5, .invokevirtual 100, 3, 94, 2, 6, []), (8, .ifCond .ne 33, 3, 41, 0, 0, []), (11, .aload_n 0, 1, 0, 0, 0, []), (12, .getfield 15, 3, 6, 0, 2, []), (15, .getfield 103, 3, 5, 2, 2, []), (18, .iload_n 1, 1, 0, 0, 0, []), (19, .iaload, 1, 0, 0, 0, []), (20, .iconst (-1), 1, 0, 0, 0, []), (21, .if_icmp .ne 20, 3, 41, 0, 0, []), (24, .aload_n 0, 1, 0, 0, 0, []), (25, .getfield 19, 3, 6, 1, 2, []), (28, .getfield 34, 3, 3, 1, 2, []), (31, .iload_n 1, 1, 0, 0, 0, []), (32, .iaload, 1, 0, 0, 0, []), (33, .iconst (-1), 1, 0, 0, 0, []), (34, .if_icmp .eq 7, 3, 41, 0, 0, []), (37, .iconst 1, 1, 0, 0, 0, []), (38, .goto 4, 3, 42, 0, 0, []), (41, .iconst 0, 1, 0, 0, 0, []), (42, .ireturn, 1, 2, 0, 0, [])]
/-- WholeFields$Mover.tryOwners(I)V -/
def k_WF_Mover_tryOwners : Cd9 := [(0, .aload_n 0, 1, 0, 0, 0, []), (1, .getfield 19, 3, 6, 1, 2, []), (4, .getfield 34, 3, 3, 1, 2, []), (7, .iload_n 1, 1, 0, 0, 0, []), (8, .iaload, 1, 0, 0, 0, []), (9, .istore_n 2, 1, 0, 0, 0, []), (10, .aload_n 0, 1, 0, 0, 0, []), (11, .getfield 15, 3, 6, 0, 2, []), (14, .iload_n 2, 1, 0, 0, 0, []), (15, .iload_n 1, 1, 0, 0, 0, []), (16, .invokevirtual 106, 3, 80, 3, 6, []), (19, .istore_n 3, 1, 0, 0, 0, []), (20, .iconst 0, 1, 0, 0, 0, []), (21, .istore 4, 2, 0, 0, 0, []), (23, .iload 4, 2, 0, 0, 0, []), (25, .aload_n 0, 1, 0, 0, 0, []), (26, .getfield 15, 3, 6, 0, 2, []), (29, .getfield 59, 3, 5, 6, 2, []), (32, .getfield 65, 3, 1, 3, 0, []), (35, .if_icmp .ge 81, 3, 116, 0, 0, []), (38, .iload 4, 2, 0, 0, 0, []), (40, .iload_n 2, 1, 0, 0, 0, []), (41, .if_icmp .eq 69, 3, 110, 0, 0, []), (44, .aload_n 0, 1, 0, 0, 0, []), (45, .getfield 15, 3, 6, 0, 2, []), (48, .iload 4, 2, 0, 0, 0, []), (50, .iload_n 1, 1, 0, 0, 0, []), (51, .invokevirtual 106, 3, 80, 3, 6, []), (54, .istore 5, 2, 0, 0, 0, []), (56, .aload_n 0, 1, 0, 0, 0, []), (57, .iload_n 2, 1, 0, 0, 0, []), (58, .iload_n 3, 1, 0, 0, 0, []), (59, .ineg, 1, 0, 0, 0, []), (60, .iload 4, 2, 0, 0, 0, []), (62, .iload 5, 2, 0, 0, 0, []), (64, .invokevirtual 109, 3, 125, 5, 7, []), (67, .ifCond .eq 43, 3, 110, 0, 0, []), (70, .aload_n 0, 1, 0, 0, 0, []), (71, .iload_n 2, 1, 0, 0, 0, []), (72, .iload 4, 2, 0, 0, 0, []), (74, .lconst 1, 1, 0, 0, 0, []), (75, .iload_n 1, 1, 0, 0, 0, []), (76, .lshl, 1, 0, 0, 0, []), (77, .invokevirtual 113, 3, 127, 4, 7, []), (80, .ifCond .eq 30, 3, 110, 0, 0, []), (83, .aload_n 0, 1, 0, 0, 0, []), (84, .iload_n 2, 1, 0, 0, 0, []), (85, .iload_n 3, 1, 0, 0, 0, []), (86, .ineg, 1, 0, 0, 0, []), (87, .iload 4, 2, 0, 0, 0, []), (89, .iload 5, 2, 0, 0, 0, []), (91, .invokevirtual 117, 3, 129, 5, 7, []), (94, .aload_n 0, 1, 0, 0, 0, []), (95, .iload_n 1, 1, 0, 0, 0, []), (96, .putfield 39, 3, 6, 8, 0, []), (99, .aload_n 0, 1, 0, 0, 0, []), (100, .iload 4, 2, 0, 0, 0, []), (102, .putfield 43, 3, 6, 9, 0, []), (105, .aload_n 0, 1, 0, 0, 0, []), (106, .iconst (-1), 1, 0, 0, 0, []), (107, .putfield 50, 3, 6, 10, 0, []), (110, .iinc 4 1, 3, 0, 0, 0, []), (113, .goto (-90), 3, 23, 0, 0, []), (116, .return_, 1, 0, 0, 0, [])]
/-- WholeFields$Mover.improves(IIII)Z -/
def k_WF_Mover_improves : Cd9 := [(0, .aload_n 0, 1, 0, 0, 0, []), (1, .iload_n 1, 1, 0, 0, 0, []), (2, .iload_n 2, 1, 0, 0, 0, []), (3, .iload_n 3, 1, 0, 0, 0, []), (4, .iload 4, 2, 0, 0, 0, []), (6, .invokevirtual 121, 3, 126, 5, 7, []), (9, .istore 5, 2, 0, 0, 0, []), (11, .iload 5, 2, 0, 0, 0, []), (13, .aload_n 0, 1, 0, 0, 0, []), (14, .getfield 80, 3, 6, 6, 0, []), (17, .if_icmp .lt 28, 3, 45, 0, 0, []), (20, .iload 5, 2, 0, 0, 0, []), (22, .aload_n 0, 1, 0, 0, 0, []), (23, .getfield 80, 3, 6, 6, 0, []), (26, .if_icmp .ne 23, 3, 49, 0, 0, []), (29, .aload_n 0, 1, 0, 0, 0, []), (30, .getfield 56, 3, 6, 5, 0, []), (33, .iload_n 2, 1, 0, 0, 0, []), (34, .iadd, 1, 0, 0, 0, []), (35, .iload 4, 2, 0, 0, 0, []), (37, .iadd, 1, 0, 0, 0, []), (38, .aload_n 0, 1, 0, 0, 0, []), (39, .getfield 83, 3, 6, 7, 0, []), (42, .if_icmp .le 7, 3, 49, 0, 0, []), (45, .iconst 1, 1, 0, 0, 0, []), (46, .goto 4, 3, 50, 0, 0, []), (49, .iconst 0, 1, 0, 0, 0, []), (50, .ireturn, 1, 2, 0, 0, [])]
/-- WholeFields$Mover.shortBehind(IIII)I -/
def k_WF_Mover_shortBehind : Cd9 := [(0, .aload_n 0, 1, 0, 0, 0, []), (1, .getfield 53, 3, 6, 4, 0, []), (4, .aload_n 0, 1, 0, 0, 0, []), (5, .getfield 23, 3, 6, 2, 2, []), (8, .iload_n 1, 1, 0, 0, 0, []), (9, .aload_n 0, 1, 0, 0, 0, []), (10, .getfield 9, 3, 6, 3, 2, []), (13, .iload_n 1, 1, 0, 0, 0, []), (14, .iaload, 1, 0, 0, 0, []), (15, .invokevirtual 76, 3, 92, 3, 1, []), (18, .isub, 1, 0, 0, 0, []), (19, .aload_n 0, 1, 0, 0, 0, []), (20, .getfield 23, 3, 6, 2, 2, []), (23, .iload_n 3, 1, 0, 0, 0, []), (24, .aload_n 0, 1, 0, 0, 0, []), (25, .getfield 9, 3, 6, 3, 2, []), (28, .iload_n 3, 1, 0, 0, 0, []), (29, .iaload, 1, 0, 0, 0, []), (30, .invokevirtual 76, 3, 92, 3, 1, []), (33, .isub, 1, 0, 0, 0, []), (34, .aload_n 0, 1, 0, 0, 0, []), (35, .getfield 23, 3, 6, 2, 2, []), (38, .iload_n 1, 1, 0, 0, 0, []), (39, .aload_n 0, 1, 0, 0, 0, []), (40, .getfield 9, 3, 6, 3, 2, []), (43, .iload_n 1, 1, 0, 0, 0, []), (44, .iaload, 1, 0, 0, 0, []), (45, .iload_n 2, 1, 0, 0, 0, []), (46, .iadd, 1, 0, 0, 0, []), (47, .invokevirtual 76, 3, 92, 3, 1, []), (50, .iadd, 1, 0, 0, 0, []), (51, .aload_n 0, 1, 0, 0, 0, []), (52, .getfield 23, 3, 6, 2, 2, []), (55, .iload_n 3, 1, 0, 0, 0, []), (56, .aload_n 0, 1, 0, 0, 0, []), (57, .getfield 9, 3, 6, 3, 2, []), (60, .iload_n 3, 1, 0, 0, 0, []), (61, .iaload, 1, 0, 0, 0, []), (62, .iload 4, 2, 0, 0, 0, []), (64, .iadd, 1, 0, 0, 0, []), (65, .invokevirtual 76, 3, 92, 3, 1, []), (68, .iadd, 1, 0, 0, 0, []), (69, .ireturn, 1, 0, 0, 0, [])]
/-- WholeFields$Mover.isLawful(IIJ)Z -/
def k_WF_Mover_isLawful : Cd9 := [(0, .aload_n 0, 1, 0, 0, 0, []), (1, .getfield 15, 3, 6, 0, 2, []), (4, .aload_n 0, 1, 0, 0, 0, []), (5, .getfield 19, 3, 6, 1, 2, []), (8, .getfield 125, 3, 3, 2, 2, []), (11, .iload_n 1, 1, 0, 0, 0, []), (12, .laload, 1, 0, 0, 0, []), (13, .lload_n 3, 1, 0, 0, 0, []), (14, .lxor, 1, 0, 0, 0, []), (15, .invokevirtual 129, 3, 128, 2, 6, []), (18, .ifCond .eq 28, 3, 46, 0, 0, []), (21, .aload_n 0, 1, 0, 0, 0, []), (22, .getfield 15, 3, 6, 0, 2, []), (25, .aload_n 0, 1, 0, 0, 0, []), (26, .getfield 19, 3, 6, 1, 2, []), (29, .getfield 125, 3, 3, 2, 2, []), (32, .iload_n 2, 1, 0, 0, 0, []), (33, .laload, 1, 0, 0, 0, []), (34, .lload_n 3, 1, 0, 0, 0, []), (35, .lxor, 1, 0, 0, 0, []), (36, .invokevirtual 129, 3, 128, 2, 6, []), (39, .ifCond .eq 7, 3, 46, 0, 0, []), (42, .iconst 1, 1, 0, 0, 0, []), (43, .goto 4, 3, 47, 0, 0, []), (46, .iconst 0, 1, 0, 0, 0, []), (47, .ireturn, 1, 2, 0, 0, [])]
/-- WholeFields$Ground.isFieldLawful(J)Z -/
def k_WF_Ground_isFieldLawful : Cd9 := [(0, .aload_n 0, 1, 0, 0, 0, []), (1, .lload_n 1, 1, 0, 0, 0, []), (2, .invokevirtual 122, 3, 109, 2, 6, []), (5, .ifCond .eq 25, 3, 30, 0, 0, []), (8, .aload_n 0, 1, 0, 0, 0, []), (9, .getfield 47, 3, 5, 10, 0, []), (12, .iconst 2, 1, 0, 0, 0, []), (13, .if_icmp .ne 13, 3, 26, 0, 0, []), (16, .aload_n 0, 1, 0, 0, 0, []), (17, .lload_n 1, 1, 0, 0, 0, []), (18, .invokevirtual 126, 3, 111, 2, 6, []), (21, .lconst 0, 1, 0, 0, 0, []), (22, .lcmp, 1, 0, 0, 0, []), (23, .ifCond .ne 7, 3, 30, 0, 0, []), (26, .iconst 1, 1, 0, 0, 0, []), (27, .goto 4, 3, 31, 0, 0, []), (30, .iconst 0, 1, 0, 0, 0, []), (31, .ireturn, 1, 2, 0, 0, [])]
/-- WholeFields$Mover.hold(IIII)V -/
def k_WF_Mover_hold : Cd9 := [(0, .aload_n 0, 1, 0, 0, 0, []), (1, .aload_n 0, 1, 0, 0, 0, []), (2, .iload_n 1, 1, 0, 0, 0, []), (3, .iload_n 2, 1, 0, 0, 0, []), (4, .iload_n 3, 1, 0, 0, 0, []), (5, .iload 4, 2, 0, 0, 0, []), (7, .invokevirtual 121, 3, 126, 5, 7, []), (10, .putfield 80, 3, 6, 6, 0, []), (13, .aload_n 0, 1, 0, 0, 0, []), (14, .aload_n 0, 1, 0, 0, 0, []), (15, .getfield 56, 3, 6, 5, 0, []), (18, .iload_n 2, 1, 0, 0, 0, []), (19, .iadd, 1, 0, 0, 0, []), (20, .iload 4, 2, 0, 0, 0, []), (22, .iadd, 1, 0, 0, 0, []), (23, .putfield 83, 3, 6, 7, 0, []), (26, .return_, 1, 0, 0, 0, [])]
/-- WholeFields$Mover.tryCells(I)V -/
def k_WF_Mover_tryCells : Cd9 := [(0, .aload_n 0, 1, 0, 0, 0, []), (1, .getfield 19, 3, 6, 1, 2, []), (4, .getfield 34, 3, 3, 1, 2, []), (7, .iload_n 1, 1, 0, 0, 0, []), (8, .iaload, 1, 0, 0, 0, []), (9, .istore_n 2, 1, 0, 0, 0, []), (10, .aload_n 0, 1, 0, 0, 0, []), (11, .getfield 15, 3, 6, 0, 2, []), (14, .iload_n 2, 1, 0, 0, 0, []), (15, .iload_n 1, 1, 0, 0, 0, []), (16, .invokevirtual 106, 3, 80, 3, 6, []), (19, .istore_n 3, 1, 0, 0, 0, []), (20, .iload_n 1, 1, 0, 0, 0, []), (21, .iconst 1, 1, 0, 0, 0, []), (22, .iadd, 1, 0, 0, 0, []), (23, .istore 4, 2, 0, 0, 0, []), (25, .iload 4, 2, 0, 0, 0, []), (27, .aload_n 0, 1, 0, 0, 0, []), (28, .getfield 15, 3, 6, 0, 2, []), (31, .getfield 86, 3, 5, 9, 0, []), (34, .if_icmp .ge 134, 3, 168, 0, 0, []), (37, .aload_n 0, 1, 0, 0, 0, []), (38, .getfield 19, 3, 6, 1, 2, []), (41, .getfield 34, 3, 3, 1, 2, []), (44, .iload 4, 2, 0, 0, 0, []), (46, .iaload, 1, 0, 0, 0, []), (47, .istore 5, 2, 0, 0, 0, []), (49, .iload 5, 2, 0, 0, 0, []), (51, .iload_n 2, 1, 0, 0, 0, []), (52, .if_icmp .eq 110, 3, 162, 0, 0, []), (55, .aload_n 0, 1, 0, 0, 0, []), (56, .iload 4, 2, 0, 0, 0, []), (58, .invokevirtual 89, 3, 123, 2, 7, []), (61, .ifCond .eq 101, 3, 162, 0, 0, []), (64, .aload_n 0, 1, 0, 0, 0, []), (65, .getfield 15, 3, 6, 0, 2, []), (68, .iload_n 2, 1, 0, 0, 0, []), (69, .iload 4, 2, 0, 0, 0, []), (71, .invokevirtual 106, 3, 80, 3, 6, []), (74, .iload_n 3, 1, 0, 0, 0, []), (75, .isub, 1, 0, 0, 0, []), (76, .istore 6, 2, 0, 0, 0, []), (78, .aload_n 0, 1, 0, 0, 0, []), (79, .getfield 15, 3, 6, 0, 2, []), (82, .iload 5, 2, 0, 0, 0, []), (84, .iload_n 1, 1, 0, 0, 0, []), (85, .invokevirtual 106, 3, 80, 3, 6, []), (88, .aload_n 0, 1, 0, 0, 0, []), (89, .getfield 15, 3, 6, 0, 2, []), (92, .iload 5, 2, 0, 0, 0, []), (94, .iload 4, 2, 0, 0, 0, []), (96, .invokevirtual 106, 3, 80, 3, 6, []), (99, .isub, 1, 0, 0, 0, []), (100, .istore 7, 2, 0, 0, 0, []), (102, .aload_n 0, 1, 0, 0, 0, []), (103, .iload_n 2, 1, 0, 0, 0, []), (104, .iload 6, 2, 0, 0, 0, []), (106, .iload 5, 2, 0, 0, 0, []), (108, .iload 7, 2, 0, 0, 0, []), (110, .invokevirtual 109, 3, 125, 5, 7, []), (113, .ifCond .eq 49, 3, 162, 0, 0, []), (116, .aload_n 0, 1, 0, 0, 0, []), (117, .iload_n 2, 1, 0, 0, 0, []), (118, .iload 5, 2, 0, 0, 0, []), (120, .lconst 1, 1, 0, 0, 0, []), (121, .iload_n 1, 1, 0, 0, 0, []), (122, .lshl, 1, 0, 0, 0, []), (123, .lconst 1, 1, 0, 0, 0, []), (124, .iload 4, 2, 0, 0, 0, []), (126, .lshl, 1, 0, 0, 0, []), (127, .lor, 1, 0, 0, 0, []), (128, .invokevirtual 113, 3, 127, 4, 7, []), (131, .ifCond .eq 31, 3, 162, 0, 0, []), (134, .aload_n 0, 1, 0, 0, 0, []), (135, .iload_n 2, 1, 0, 0, 0, []), (136, .iload 6, 2, 0, 0, 0, []), (138, .iload 5, 2, 0, 0, 0, []), (140, .iload 7, 2, 0, 0, 0, []), (142, .invokevirtual 117, 3, 129, 5, 7, []), (145, .aload_n 0, 1, 0, 0, 0, []), (146, .iload_n 1, 1, 0, 0, 0, []), (147, .putfield 39, 3, 6, 8, 0, []), (150, .aload_n 0, 1, 0, 0, 0, []), (151, .iload 5, 2, 0, 0, 0, []), (153, .putfield 43, 3, 6, 9, 0, []), (156, .aload_n 0, 1, 0, 0, 0, []), (157, .iload 4, 2, 0, 0, 0, []), (159, .putfield 50, 3, 6, 10, 0, []), (162, .iinc 4 1, 3, 0, 0, 0, []), (165, .goto (-140), 3, 25, 0, 0, []), (168, .return_, 1, 0, 0, 0, [])]
/-- WholeFields$Mover.make()V -/
def k_WF_Mover_make : Cd9 := [(0, .aload_n 0, 1, 0, 0, 0, []), (1, .getfield 19, 3, 6, 1, 2, []), (4, .getfield 34, 3, 3, 1, 2, []), (7, .aload_n 0, 1, 0, 0, 0, []), (8, .getfield 39, 3, 6, 8, 0, []), (11, .iaload, 1, 0, 0, 0, []), (12, .istore_n 1, 1, 0, 0, 0, []), (13, .aload_n 0, 1, 0, 0, 0, []), (14, .getfield 19, 3, 6, 1, 2, []), (17, .aload_n 0, 1, 0, 0, 0, []), (18, .getfield 39, 3, 6, 8, 0, []), (21, .aload_n 0, 1, 0, 0, 0, []), (22, .getfield 43, 3, 6, 9, 0, []), (25, .invokevirtual 46, 3, 82, 3, 4, []), (28, .aload_n 0, 1, 0, 0, 0, []), (29, .getfield 50, 3, 6, 10, 0, []), (32, .iconst (-1), 1, 0, 0, 0, []), (33, .if_icmp .eq 15, 3, 48, 0, 0, []), (36, .aload_n 0, 1, 0, 0, 0, []), (37, .getfield 19, 3, 6, 1, 2, []), (40, .aload_n 0, 1, 0, 0, 0, []), (41, .getfield 50, 3, 6, 10, 0, []), (44, .iload_n 1, 1, 0, 0, 0, []), (45, .invokevirtual 46, 3, 82, 3, 4, []), (48, .return_, 1, 0, 0, 0, [])]
/-- WholeFields.can()I -/
def k_WF_can : Cd9 := [(0, .aload_n 0, 1, 0, 0, 0, []), (1, .getfield 25, 3, 11, 2, 2, []), (4, .invokevirtual 167, 3, 74, 1, 6, []), (7, .ifCond .ne 9, 3, 16, 0, 0, []), (10, .aload_n 0, 1, 0, 0, 0, []), (11, .iconst 1, 1, 0, 0, 0, []), (12, .invokevirtual 95, 3, 20, 2, 12, []), (15, .ireturn, 1, 0, 0, 0, []), (16, .aload_n 0, 1, 0, 0, 0, []), (17, .getfield 34, 3, 11, 3, 2, []), (20, .invokevirtual 196, 3, 105, 1, 4, []), (23, .ifCond .eq 9, 3, 32, 0, 0, []), (26, .aload_n 0, 1, 0, 0, 0, []), (27, .iconst 5, 1, 0, 0, 0, []), (28, .invokevirtual 95, 3, 20, 2, 12, []), (31, .ireturn, 1, 0, 0, 0, []), (32, .aload_n 0, 1, 0, 0, 0, []), (33, .aload_n 0, 1, 0, 0, 0, []), (34, .getfield 52, 3, 11, 5, 2, []), (37, .invokevirtual 229, 3, 122, 1, 7, []), (40, .ifCond .eq 7, 3, 47, 0, 0, []), (43, .iconst 1, 1, 0, 0, 0, []), (44, .goto 4, 3, 48, 0, 0, []), (47, .iconst 0, 1, 0, 0, 0, []), (48, .invokevirtual 126, 3, 51, 2, 12, []), (51, .ireturn, 1, 0, 0, 0, [])]
/-- WholeFields.best(Z)I -/
def k_WF_best : Cd9 := [(0, .aload_n 0, 1, 0, 0, 0, []), (1, .getfield 25, 3, 11, 2, 2, []), (4, .invokevirtual 167, 3, 74, 1, 6, []), (7, .ifCond .ne 9, 3, 16, 0, 0, []), (10, .aload_n 0, 1, 0, 0, 0, []), (11, .iconst 1, 1, 0, 0, 0, []), (12, .invokevirtual 190, 3, 88, 2, 12, []), (15, .ireturn, 1, 0, 0, 0, []), (16, .aload_n 0, 1, 0, 0, 0, []), (17, .getfield 59, 3, 11, 6, 2, []), (20, .invokevirtual 232, 3, 134, 1, 5, []), (23, .ifCond .ne 9, 3, 32, 0, 0, []), (26, .aload_n 0, 1, 0, 0, 0, []), (27, .iconst 5, 1, 0, 0, 0, []), (28, .invokevirtual 190, 3, 88, 2, 12, []), (31, .ireturn, 1, 0, 0, 0, []), (32, .aload_n 0, 1, 0, 0, 0, []), (33, .getfield 59, 3, 11, 6, 2, []), (36, .iload_n 1, 1, 0, 0, 0, []), (37, .invokevirtual 235, 3, 135, 2, 5, []), (40, .ifCond .ne 10, 3, 50, 0, 0, []), (43, .aload_n 0, 1, 0, 0, 0, []), (44, .bipush 6, 2, 0, 0, 0, []), (46, .invokevirtual 190, 3, 88, 2, 12, []), (49, .ireturn, 1, 0, 0, 0, []), (50, .aload_n 0, 1, 0, 0, 0, []), (51, .aload_n 0, 1, 0, 0, 0, []), (52, .getfield 59, 3, 11, 6, 2, []), (55, .getfield 239, 3, 4, 15, 0, []), (58, .invokevirtual 126, 3, 51, 2, 12, []), (61, .ireturn, 1, 0, 0, 0, [])]
/-- WholeFields$Finder.isFew()Z -/
def k_WF_Finder_isFew : Cd9 := [(0, .aload_n 0, 1, 0, 0, 0, []), (1, .getfield 34, 3, 4, 0, 2, []), (4, .getfield 42, 3, 5, 12, 1, []), (7, .aload_n 0, 1, 0, 0, 0, []), (8, .getfield 34, 3, 4, 0, 2, []), (11, .getfield 48, 3, 5, 13, 1, []), (14, .ldc2_w 51, 3, 14, 0, 0, []), (17, .lxor, 1, 0, 0, 0, []), (18, .land, 1, 0, 0, 0, []), (19, .invokestatic 53, 3, 103, 1, 0, []), (22, .bipush 9, 2, 0, 0, 0, []), (24, .if_icmp .gt 21, 3, 45, 0, 0, []), (27, .aload_n 0, 1, 0, 0, 0, []), (28, .getfield 34, 3, 4, 0, 2, []), (31, .getfield 59, 3, 5, 6, 2, []), (34, .getfield 63, 3, 1, 3, 0, []), (37, .iconst 3, 1, 0, 0, 0, []), (38, .if_icmp .gt 7, 3, 45, 0, 0, []), (41, .iconst 1, 1, 0, 0, 0, []), (42, .goto 4, 3, 46, 0, 0, []), (45, .iconst 0, 1, 0, 0, 0, []), (46, .ireturn, 1, 2, 0, 0, [])]
/-- WholeFields$Finder.search(Z)Z -/
def k_WF_Finder_search : Cd9 := [(0, .aload_n 0, 1, 0, 0, 0, []), (1, .iload_n 1, 1, 0, 0, 0, []), (2, .putfield 69, 3, 4, 11, 3, []), (5, .aload_n 0, 1, 0, 0, 0, []), (6, .iconst 0, 1, 0, 0, 0, []), (7, .putfield 73, 3, 4, 12, 3, []), (10, .aload_n 0, 1, 0, 0, 0, []), (11, .aload_n 0, 1, 0, 0, 0, []), (12, .getfield 34, 3, 4, 0, 2, []), (15, .getfield 59, 3, 5, 6, 2, []), (18, .getfield 63, 3, 1, 3, 0, []), (21, .iconst 3, 1, 0, 0, 0, []), (22, .invokestatic 76, 3, 24, 2, 61, []), (25, .putfield 82, 3, 4, 10, 0, []), (28, .aload_n 0, 1, 0, 0, 0, []), (29, .getfield 21, 3, 4, 5, 2, []), (32, .lconst 0, 1, 0, 0, 0, []), (33, .invokestatic 83, 3, 16, 2, 0, []), (36, .aload_n 0, 1, 0, 0, 0, []), (37, .getfield 25, 3, 4, 6, 2, []), (40, .iconst 0, 1, 0, 0, 0, []), (41, .invokestatic 89, 3, 15, 2, 0, []), (44, .aload_n 0, 1, 0, 0, 0, []), (45, .invokevirtual 92, 3, 136, 1, 5, []), (48, .ifCond .ne 5, 3, 53, 0, 0, []), (51, .iconst 0, 1, 0, 0, 0, []), (52, .ireturn, 1, 2, 0, 0, []), (53, .aload_n 0, 1, 0, 0, 0, []), (54, .invokevirtual 96, 3, 137, 1, 5, []), (57, .aload_n 0, 1, 0, 0, 0, []), (58, .iconst 0, 1, 0, 0, 0, []), (59, .invokevirtual 99, 3, 139, 2, 5, []), (62, .aload_n 0, 1, 0, 0, 0, []), (63, .getfield 73, 3, 4, 12, 3, []), (66, .ifCond .eq 45, 3, 111, 0, 0, []), (69, .aload_n 0, 1, 0, 0, 0, []), (70, .getfield 38, 3, 4, 1, 2, []), (73, .invokevirtual 103, 3, 14, 1, 4, []), (76, .iconst 0, 1, 0, 0, 0, []), (77, .istore_n 2, 1, 0, 0, 0, []), (78, .iload_n 2, 1, 0, 0, 0, []), (79, .aload_n 0, 1, 0, 0, 0, []), (80, .getfield 108, 3, 4, 9, 0, []), (83, .if_icmp .ge 28, 3, 111, 0, 0, []), (86, .aload_n 0, 1, 0, 0, 0, []), (87, .getfield 38, 3, 4, 1, 2, []), (90, .aload_n 0, 1, 0, 0, 0, []), (91, .getfield 11, 3, 4, 2, 2, []), (94, .iload_n 2, 1, 0, 0, 0, []), (95, .iaload, 1, 0, 0, 0, []), (96, .aload_n 0, 1, 0, 0, 0, []), (97, .getfield 18, 3, 4, 4, 2, []), (100, .iload_n 2, 1, 0, 0, 0, []), (101, .iaload, 1, 0, 0, 0, []), (102, .invokevirtual 111, 3, 82, 3, 4, []), (105, .iinc 2 1, 3, 0, 0, 0, []), (108, .goto (-30), 3, 78, 0, 0, []), (111, .aload_n 0, 1, 0, 0, 0, []), (112, .getfield 73, 3, 4, 12, 3, []), (115, .ireturn, 1, 2, 0, 0, [])]
/-- WholeFields$Finder.gatherCells()Z -/
def k_WF_Finder_gatherCells : Cd9 := [(0, .aload_n 0, 1, 0, 0, 0, []), (1, .iconst 0, 1, 0, 0, 0, []), (2, .putfield 108, 3, 4, 9, 0, []), (5, .iconst 0, 1, 0, 0, 0, []), (6, .istore_n 1, 1, 0, 0, 0, []), (7, .iload_n 1, 1, 0, 0, 0, []), (8, .aload_n 0, 1, 0, 0, 0, []), (9, .getfield 34, 3, 4, 0, 2, []), (12, .getfield 115, 3, 5, 9, 0, []), (15, .if_icmp .ge 67, 3, 82, 0, 0, []), (18, .aload_n 0, 1, 0, 0, 0, []), (19, .getfield 34, 3, 4, 0, 2, []), (22, .iload_n 1, 1, 0, 0, 0, []), (23, .invokevirtual 117, 3, 94, 2, 6, []), (26, .ifCond .ne 35, 3, 61, 0, 0, []), (29, .aload_n 0, 1, 0, 0, 0, []), (30, .getfield 108, 3, 4, 9, 0, []), (33, .bipush 9, 2, 0, 0, 0, []), (35, .if_icmp .ge 41, 3, 76, 0, 0, []), (38, .aload_n 0, 1, 0, 0, 0, []), (39, .getfield 11, 3, 4, 2, 2, []), (42, .aload_n 0, 1, 0, 0, 0, []), (43, .getfield 108, 3, 4, 9, 0, []), (46, .iload_n 1, 1, 0, 0, 0, []), (47, .iastore, 1, 0, 0, 0, []), (48, .aload_n 0, 1, 0, 0, 0, []), (49, .dup, 1, 0, 0, 0, []), (50, .getfield 108, 3, 4, 9, 0, []), (53, .iconst 1, 1, 0, 0, 0, []), (54, .iadd, 1, 0, 0, 0, []), (55, .putfield 108, 3, 4, 9, 0, []), (58, .goto 18, 3, 76, 0, 0, []), (61, .aload_n 0, 1, 0, 0, 0, []), (62, .getfield 34, 3, 4, 0, 2, []), (65, .getfield 121, 3, 5, 2, 2, []), (68, .iload_n 1, 1, 0, 0, 0, []), (69, .iaload, 1, 0, 0, 0, []), (70, .iconst (-1), 1, 0, 0, 0, []), (71, .if_icmp .eq 5, 3, 76, 0, 0, []), (74, .iconst 0, 1, 0, 0, 0, []), (75, .ireturn, 1, 2, 0, 0, []), (76, .iinc 1 1, 3, 0, 0, 0, []), (79, .goto (-72), 3, 7, 0, 0, []), (82, .iconst 1, 1, 0, 0, 0, []), (83, .ireturn, 1, 2, 0, 0, [])]
/-- WholeFields$Finder.gatherHopes()V -/
def k_WF_Finder_gatherHopes : Cd9 := [(0, .aload_n 0, 1, 0, 0, 0, []), (1, .getfield 28, 3, 4, 7, 2, []), (4, .iconst 0, 1, 0, 0, 0, []), (5, .invokestatic 89, 3, 15, 2, 0, []), (8, .aload_n 0, 1, 0, 0, 0, []), (9, .getfield 31, 3, 4, 8, 2, []), (12, .iconst 0, 1, 0, 0, 0, []), (13, .invokestatic 89, 3, 15, 2, 0, []), (16, .aload_n 0, 1, 0, 0, 0, []), (17, .getfield 108, 3, 4, 9, 0, []), (20, .iconst 1, 1, 0, 0, 0, []), (21, .isub, 1, 0, 0, 0, []), (22, .istore_n 1, 1, 0, 0, 0, []), (23, .iload_n 1, 1, 0, 0, 0, []), (24, .ifCond .lt 117, 3, 141, 0, 0, []), (27, .ldc 124, 2, 2, 0, 0, []), (29, .istore_n 2, 1, 0, 0, 0, []), (30, .iconst 0, 1, 0, 0, 0, []), (31, .istore_n 3, 1, 0, 0, 0, []), (32, .iload_n 3, 1, 0, 0, 0, []), (33, .aload_n 0, 1, 0, 0, 0, []), (34, .getfield 82, 3, 4, 10, 0, []), (37, .if_icmp .ge 82, 3, 119, 0, 0, []), (40, .aload_n 0, 1, 0, 0, 0, []), (41, .iload_n 3, 1, 0, 0, 0, []), (42, .aload_n 0, 1, 0, 0, 0, []), (43, .getfield 11, 3, 4, 2, 2, []), (46, .iload_n 1, 1, 0, 0, 0, []), (47, .iaload, 1, 0, 0, 0, []), (48, .invokevirtual 125, 3, 138, 3, 5, []), (51, .ifCond .eq 20, 3, 71, 0, 0, []), (54, .aload_n 0, 1, 0, 0, 0, []), (55, .getfield 34, 3, 4, 0, 2, []), (58, .iload_n 3, 1, 0, 0, 0, []), (59, .aload_n 0, 1, 0, 0, 0, []), (60, .getfield 11, 3, 4, 2, 2, []), (63, .iload_n 1, 1, 0, 0, 0, []), (64, .iaload, 1, 0, 0, 0, []), (65, .invokevirtual 129, 3, 80, 3, 6, []), (68, .goto 5, 3, 73, 0, 0, []), (71, .ldc 124, 2, 2, 0, 0, []), (73, .istore 4, 2, 0, 0, 0, []), (75, .aload_n 0, 1, 0, 0, 0, []), (76, .getfield 28, 3, 4, 7, 2, []), (79, .iload_n 3, 1, 0, 0, 0, []), (80, .bipush 10, 2, 0, 0, 0, []), (82, .imul, 1, 0, 0, 0, []), (83, .iload_n 1, 1, 0, 0, 0, []), (84, .iadd, 1, 0, 0, 0, []), (85, .aload_n 0, 1, 0, 0, 0, []), (86, .getfield 28, 3, 4, 7, 2, []), (89, .iload_n 3, 1, 0, 0, 0, []), (90, .bipush 10, 2, 0, 0, 0, []), (92, .imul, 1, 0, 0, 0, []), (93, .iload_n 1, 1, 0, 0, 0, []), (94, .iadd, 1, 0, 0, 0, []), (95, .iconst 1, 1, 0, 0, 0, []), (96, .iadd, 1, 0, 0, 0, []), (97, .iaload, 1, 0, 0, 0, []), (98, .iconst 0, 1, 0, 0, 0, []), (99, .iload 4, 2, 0, 0, 0, []), (101, .invokestatic 132, 3, 25, 2, 62, []), (104, .iadd, 1, 0, 0, 0, []), (105, .iastore, 1, 0, 0, 0, []), (106, .iload_n 2, 1, 0, 0, 0, []), (107, .iload 4, 2, 0, 0, 0, []), (109, .invokestatic 132, 3, 25, 2, 62, []), (112, .istore_n 2, 1, 0, 0, 0, []), (113, .iinc 3 1, 3, 0, 0, 0, []), (116, .goto (-84), 3, 32, 0, 0, []), (119, .aload_n 0, 1, 0, 0, 0, []), (120, .getfield 31, 3, 4, 8, 2, []), (123, .iload_n 1, 1, 0, 0, 0, []), (124, .aload_n 0, 1, 0, 0, 0, []), (125, .getfield 31, 3, 4, 8, 2, []), (128, .iload_n 1, 1, 0, 0, 0, []), (129, .iconst 1, 1, 0, 0, 0, []), (130, .iadd, 1, 0, 0, 0, []), (131, .iaload, 1, 0, 0, 0, []), (132, .iload_n 2, 1, 0, 0, 0, []), (133, .iadd, 1, 0, 0, 0, []), (134, .iastore, 1, 0, 0, 0, []), (135, .iinc 1 (-1), 3, 0, 0, 0, []), (138, .goto (-115), 3, 23, 0, 0, []), (141, .return_, 1, 0, 0, 0, [])]
/-- WholeFields$Finder.mayHave(II)Z -/
def k_WF_Finder_mayHave : Cd9 := [(0, .aload_n 0, 1, 0, 0, 0, []), (1, .getfield 34, 3, 4, 0, 2, []), (4, .getfield 121, 3, 5, 2, 2, []), (7, .iload_n 2, 1, 0, 0, 0, []), (8, .iaload, 1, 0, 0, 0, []), (9, .iconst (-1), 1, 0, 0, 0, []), (10, .if_icmp .eq 16, 3, 26, 0, 0, []), (13, .aload_n 0, 1, 0, 0, 0, []), (14, .getfield 34, 3, 4, 0, 2, []), (17, .getfield 121, 3, 5, 2, 2, []), (20, .iload_n 2, 1, 0, 0, 0, []), (21, .iaload, 1, 0, 0, 0, []), (22, .iload_n 1, 1, 0, 0, 0, []), (23, .if_icmp .ne 7, 3, 30, 0, 0, []), (26, .iconst 1, 1, 0, 0, 0, []), (27, .goto 4, 3, 31, 0, 0, []), (30, .iconst 0, 1, 0, 0, 0, []), (31, .ireturn, 1, 2, 0, 0, [])]
/-- WholeFields$Finder.descend(I)V -/
def k_WF_Finder_descend : Cd9 := [(0, .aload_n 0, 1, 0, 0, 0, []), (1, .getfield 73, 3, 4, 12, 3, []), (4, .ifCond .eq 19, 3, 23, 0, 0, []), (7, .aload_n 0, 1, 0, 0, 0, []), (8, .getfield 135, 3, 4, 13, 0, []), (11, .ifCond .ne 12, 3, 23, 0, 0, []), (14, .aload_n 0, 1, 0, 0, 0, []), (15, .iload_n 1, 1, 0, 0, 0, []), (16, .invokevirtual 138, 3, 140, 2, 5, []), (19, .ifCond .ne 4, 3, 23, 0, 0, []), (22, .return_, 1, 0, 0, 0, []), (23, .iload_n 1, 1, 0, 0, 0, []), (24, .aload_n 0, 1, 0, 0, 0, []), (25, .getfield 108, 3, 4, 9, 0, []), (28, .if_icmp .ge 9, 3, 37, 0, 0, []), (31, .iload_n 1, 1, 0, 0, 0, []), (32, .bipush 9, 2, 0, 0, 0, []), (34, .if_icmp .lt 8, 3, 42, 0, 0, []), (37, .aload_n 0, 1, 0, 0, 0, []), (38, .invokevirtual 141, 3, 141, 1, 5, []), (41, .return_, 1, 0, 0, 0, []), (42, .aload_n 0, 1, 0, 0, 0, []), (43, .getfield 11, 3, 4, 2, 2, []), (46, .iload_n 1, 1, 0, 0, 0, []), (47, .iaload, 1, 0, 0, 0, []), (48, .istore_n 2, 1, 0, 0, 0, []), (49, .iconst 0, 1, 0, 0, 0, []), (50, .istore_n 3, 1, 0, 0, 0, []), (51, .iload_n 3, 1, 0, 0, 0, []), (52, .aload_n 0, 1, 0, 0, 0, []), (53, .getfield 82, 3, 4, 10, 0, []), (56, .if_icmp .ge 46, 3, 102, 0, 0, []), (59, .aload_n 0, 1, 0, 0, 0, []), (60, .iload_n 3, 1, 0, 0, 0, []), (61, .iload_n 2, 1, 0, 0, 0, []), (62, .invokevirtual 125, 3, 138, 3, 5, []), (65, .ifCond .eq 31, 3, 96, 0, 0, []), (68, .aload_n 0, 1, 0, 0, 0, []), (69, .getfield 15, 3, 4, 3, 2, []), (72, .iload_n 1, 1, 0, 0, 0, []), (73, .iload_n 3, 1, 0, 0, 0, []), (74, .iastore, 1, 0, 0, 0, []), (75, .aload_n 0, 1, 0, 0, 0, []), (76, .iload_n 2, 1, 0, 0, 0, []), (77, .iload_n 3, 1, 0, 0, 0, []), (78, .iconst 1, 1, 0, 0, 0, []), (79, .invokevirtual 144, 3, 145, 4, 5, []), (82, .aload_n 0, 1, 0, 0, 0, []), (83, .iload_n 1, 1, 0, 0, 0, []), (84, .iconst 1, 1, 0, 0, 0, []), (85, .iadd, 1, 0, 0, 0, []), (86, .invokevirtual 99, 3, 139, 2, 5, []), (89, .aload_n 0, 1, 0, 0, 0, []), (90, .iload_n 2, 1, 0, 0, 0, []), (91, .iload_n 3, 1, 0, 0, 0, []), (92, .iconst (-1), 1, 0, 0, 0, []), (93, .invokevirtual 144, 3, 145, 4, 5, []), (96, .iinc 3 1, 3, 0, 0, 0, []), (99, .goto (-48), 3, 51, 0, 0, []), (102, .return_, 1, 0, 0, 0, [])]
/-- WholeFields$Finder.isHopeful(I)Z -/
def k_WF_Finder_isHopeful : Cd9 := [(0, .aload_n 0, 1, 0, 0, 0, []), (1, .getfield 31, 3, 4, 8, 2, []), (4, .iload_n 1, 1, 0, 0, 0, []), (5, .iaload, 1, 0, 0, 0, []), (6, .istore_n 2, 1, 0, 0, 0, []), (7, .iconst 0, 1, 0, 0, 0, []), (8, .istore_n 3, 1, 0, 0, 0, []), (9, .iconst 0, 1, 0, 0, 0, []), (10, .istore 4, 2, 0, 0, 0, []), (12, .iload 4, 2, 0, 0, 0, []), (14, .aload_n 0, 1, 0, 0, 0, []), (15, .getfield 82, 3, 4, 10, 0, []), (18, .if_icmp .ge 70, 3, 88, 0, 0, []), (21, .aload_n 0, 1, 0, 0, 0, []), (22, .getfield 25, 3, 4, 6, 2, []), (25, .iload 4, 2, 0, 0, 0, []), (27, .iconst 3, 1, 0, 0, 0, []), (28, .imul, 1, 0, 0, 0, []), (29, .iload 4, 2, 0, 0, 0, []), (31, .iadd, 1, 0, 0, 0, []), (32, .iaload, 1, 0, 0, 0, []), (33, .istore 5, 2, 0, 0, 0, []), (35, .aload_n 0, 1, 0, 0, 0, []), (36, .getfield 34, 3, 4, 0, 2, []), (39, .getfield 148, 3, 5, 4, 2, []), (42, .iload 4, 2, 0, 0, 0, []), (44, .iaload, 1, 0, 0, 0, []), (45, .iload 5, 2, 0, 0, 0, []), (47, .isub, 1, 0, 0, 0, []), (48, .aload_n 0, 1, 0, 0, 0, []), (49, .getfield 28, 3, 4, 7, 2, []), (52, .iload 4, 2, 0, 0, 0, []), (54, .bipush 10, 2, 0, 0, 0, []), (56, .imul, 1, 0, 0, 0, []), (57, .iload_n 1, 1, 0, 0, 0, []), (58, .iadd, 1, 0, 0, 0, []), (59, .iaload, 1, 0, 0, 0, []), (60, .isub, 1, 0, 0, 0, []), (61, .istore 6, 2, 0, 0, 0, []), (63, .iload_n 3, 1, 0, 0, 0, []), (64, .iload 6, 2, 0, 0, 0, []), (66, .ifCond .le 8, 3, 74, 0, 0, []), (69, .iload 6, 2, 0, 0, 0, []), (71, .goto 4, 3, 75, 0, 0, []), (74, .iconst 0, 1, 0, 0, 0, []), (75, .iadd, 1, 0, 0, 0, []), (76, .istore_n 3, 1, 0, 0, 0, []), (77, .iload_n 2, 1, 0, 0, 0, []), (78, .iload 5, 2, 0, 0, 0, []), (80, .iadd, 1, 0, 0, 0, []), (81, .istore_n 2, 1, 0, 0, 0, []), (82, .iinc 4 1, 3, 0, 0, 0, []), (85, .goto (-73), 3, 12, 0, 0, []), (88, .iload_n 3, 1, 0, 0, 0, []), (89, .aload_n 0, 1, 0, 0, 0, []), (90, .getfield 151, 3, 4, 14, 0, []), (93, .if_icmp .lt 19, 3, 112, 0, 0, []), (96, .iload_n 3, 1, 0, 0, 0, []), (97, .aload_n 0, 1, 0, 0, 0, []), (98, .getfield 151, 3, 4, 14, 0, []), (101, .if_icmp .ne 15, 3, 116, 0, 0, []), (104, .iload_n 2, 1, 0, 0, 0, []), (105, .aload_n 0, 1, 0, 0, 0, []), (106, .getfield 154, 3, 4, 15, 0, []), (109, .if_icmp .le 7, 3, 116, 0, 0, []), (112, .iconst 1, 1, 0, 0, 0, []), (113, .goto 4, 3, 117, 0, 0, []), (116, .iconst 0, 1, 0, 0, 0, []), (117, .ireturn, 1, 2, 0, 0, [])]
/-- WholeFields$Finder.weigh()V -/
def k_WF_Finder_weigh : Cd9 := [(0, .aload_n 0, 1, 0, 0, 0, []), (1, .getfield 69, 3, 4, 11, 3, []), (4, .ifCond .eq 10, 3, 14, 0, 0, []), (7, .aload_n 0, 1, 0, 0, 0, []), (8, .invokevirtual 157, 3, 142, 1, 5, []), (11, .goto 4, 3, 15, 0, 0, []), (14, .iconst 0, 1, 0, 0, 0, []), (15, .istore_n 1, 1, 0, 0, 0, []), (16, .iconst 0, 1, 0, 0, 0, []), (17, .istore_n 2, 1, 0, 0, 0, []), (18, .iconst 0, 1, 0, 0, 0, []), (19, .istore_n 3, 1, 0, 0, 0, []), (20, .iconst 0, 1, 0, 0, 0, []), (21, .istore 4, 2, 0, 0, 0, []), (23, .iload 4, 2, 0, 0, 0, []), (25, .aload_n 0, 1, 0, 0, 0, []), (26, .getfield 82, 3, 4, 10, 0, []), (29, .if_icmp .ge 57, 3, 86, 0, 0, []), (32, .aload_n 0, 1, 0, 0, 0, []), (33, .getfield 25, 3, 4, 6, 2, []), (36, .iload 4, 2, 0, 0, 0, []), (38, .iconst 3, 1, 0, 0, 0, []), (39, .imul, 1, 0, 0, 0, []), (40, .iload 4, 2, 0, 0, 0, []), (42, .iadd, 1, 0, 0, 0, []), (43, .iaload, 1, 0, 0, 0, []), (44, .istore 5, 2, 0, 0, 0, []), (46, .aload_n 0, 1, 0, 0, 0, []), (47, .getfield 34, 3, 4, 0, 2, []), (50, .getfield 148, 3, 5, 4, 2, []), (53, .iload 4, 2, 0, 0, 0, []), (55, .iaload, 1, 0, 0, 0, []), (56, .iload 5, 2, 0, 0, 0, []), (58, .isub, 1, 0, 0, 0, []), (59, .istore 6, 2, 0, 0, 0, []), (61, .iload_n 2, 1, 0, 0, 0, []), (62, .iload 6, 2, 0, 0, 0, []), (64, .ifCond .le 8, 3, 72, 0, 0, []), (67, .iload 6, 2, 0, 0, 0, []), (69, .goto 4, 3, 73, 0, 0, []), (72, .iconst 0, 1, 0, 0, 0, []), (73, .iadd, 1, 0, 0, 0, []), (74, .istore_n 2, 1, 0, 0, 0, []), (75, .iload_n 3, 1, 0, 0, 0, []), (76, .iload 5, 2, 0, 0, 0, []), (78, .iadd, 1, 0, 0, 0, []), (79, .istore_n 3, 1, 0, 0, 0, []), (80, .iinc 4 1, 3, 0, 0, 0, []), (83, .goto (-60), 3, 23, 0, 0, []), (86, .aload_n 0, 1, 0, 0, 0, []), (87, .getfield 73, 3, 4, 12, 3, []), (90, .ifCond .eq 13, 3, 103, 0, 0, []), (93, .aload_n 0, 1, 0, 0, 0, []), (94, .iload_n 1, 1, 0, 0, 0, []), (95, .iload_n 2, 1, 0, 0, 0, []), (96, .iload_n 3, 1, 0, 0, 0, []), (97, .invokevirtual 161, 3, 143, 4, 5, []), (100, .ifCond .eq 10, 3, 110, 0, 0, []), (103, .aload_n 0, 1, 0, 0, 0, []), (104, .invokevirtual 165, 3, 144, 1, 5, []), (107, .ifCond .ne 4, 3, 111, 0, 0, []), (110, .return_, 1, 0, 0, 0, []), (111, .aload_n 0, 1, 0, 0, 0, []), (112, .iconst 1, 1, 0, 0, 0, []), (113, .putfield 73, 3, 4, 12, 3, []), (116, .aload_n 0, 1, 0, 0, 0, []), (117, .iload_n 1, 1, 0, 0, 0, []), (118, .putfield 135, 3, 4, 13, 0, []), (121, .aload_n 0, 1, 0, 0, 0, []), (122, .iload_n 2, 1, 0, 0, 0, []), (123, .putfield 151, 3, 4, 14, 0, []), (126, .aload_n 0, 1, 0, 0, 0, []), (127, .iload_n 3, 1, 0, 0, 0, []), (128, .putfield 154, 3, 4, 15, 0, []), (131, .aload_n 0, 1, 0, 0, 0, []), (132, .getfield 15, 3, 4, 3, 2, []), (135, .iconst 0, 1, 0, 0, 0, []), (136, .aload_n 0, 1, 0, 0, 0, []), (137, .getfield 18, 3, 4, 4, 2, []), (140, .iconst 0, 1, 0, 0, 0, []), (141, .bipush 9, 2, 0, 0, 0, []), (143, .invokestatic 168, 3, 0, 0, 60, []), (146, .return_, 1, 0, 0, 0, [])]
/-- WholeFields$Finder.envyPairs()I -/
def k_WF_Finder_envyPairs : Cd9 := [(0, .iconst 0, 1, 0, 0, 0, []), (1, .istore_n 1, 1, 0, 0, 0, []), (2, .iconst 0, 1, 0, 0, 0, []), (3, .istore_n 2, 1, 0, 0, 0, []), (4, .iload_n 2, 1, 0, 0, 0, []), (5, .aload_n 0, 1, 0, 0, 0, []), (6, .getfield 82, 3, 4, 10, 0, []), (9, .if_icmp .ge 68, 3, 77, 0, 0, []), (12, .aload_n 0, 1, 0, 0, 0, []), (13, .getfield 25, 3, 4, 6, 2, []), (16, .iload_n 2, 1, 0, 0, 0, []), (17, .iconst 3, 1, 0, 0, 0, []), (18, .imul, 1, 0, 0, 0, []), (19, .iload_n 2, 1, 0, 0, 0, []), (20, .iadd, 1, 0, 0, 0, []), (21, .iaload, 1, 0, 0, 0, []), (22, .istore_n 3, 1, 0, 0, 0, []), (23, .iconst 0, 1, 0, 0, 0, []), (24, .istore 4, 2, 0, 0, 0, []), (26, .iload 4, 2, 0, 0, 0, []), (28, .aload_n 0, 1, 0, 0, 0, []), (29, .getfield 82, 3, 4, 10, 0, []), (32, .if_icmp .ge 39, 3, 71, 0, 0, []), (35, .aload_n 0, 1, 0, 0, 0, []), (36, .getfield 21, 3, 4, 5, 2, []), (39, .iload 4, 2, 0, 0, 0, []), (41, .laload, 1, 0, 0, 0, []), (42, .lconst 0, 1, 0, 0, 0, []), (43, .lcmp, 1, 0, 0, 0, []), (44, .ifCond .eq 21, 3, 65, 0, 0, []), (47, .aload_n 0, 1, 0, 0, 0, []), (48, .getfield 25, 3, 4, 6, 2, []), (51, .iload_n 2, 1, 0, 0, 0, []), (52, .iconst 3, 1, 0, 0, 0, []), (53, .imul, 1, 0, 0, 0, []), (54, .iload 4, 2, 0, 0, 0, []), (56, .iadd, 1, 0, 0, 0, []), (57, .iaload, 1, 0, 0, 0, []), (58, .iload_n 3, 1, 0, 0, 0, []), (59, .if_icmp .le 6, 3, 65, 0, 0, []), (62, .iinc 1 1, 3, 0, 0, 0, []), (65, .iinc 4 1, 3, 0, 0, 0, []), (68, .goto (-42), 3, 26, 0, 0, []), (71, .iinc 2 1, 3, 0, 0, 0, []), (74, .goto (-70), 3, 4, 0, 0, []), (77, .iload_n 1, 1, 0, 0, 0, []), (78, .ireturn, 1, 0, 0, 0, [])]
/-- WholeFields$Finder.isBest(III)Z -/
def k_WF_Finder_isBest : Cd9 := [(0, .iload_n 1, 1, 0, 0, 0, []), (1, .aload_n 0, 1, 0, 0, 0, []), (2, .getfield 135, 3, 4, 13, 0, []), (5, .if_icmp .eq 17, 3, 22, 0, 0, []), (8, .iload_n 1, 1, 0, 0, 0, []), (9, .aload_n 0, 1, 0, 0, 0, []), (10, .getfield 135, 3, 4, 13, 0, []), (13, .if_icmp .ge 7, 3, 20, 0, 0, []), (16, .iconst 1, 1, 0, 0, 0, []), (17, .goto 4, 3, 21, 0, 0, []), (20, .iconst 0, 1, 0, 0, 0, []), (21, .ireturn, 1, 2, 0, 0, []), (22, .iload_n 2, 1, 0, 0, 0, []), (23, .aload_n 0, 1, 0, 0, 0, []), (24, .getfield 151, 3, 4, 14, 0, []), (27, .if_icmp .lt 19, 3, 46, 0, 0, []), (30, .iload_n 2, 1, 0, 0, 0, []), (31, .aload_n 0, 1, 0, 0, 0, []), (32, .getfield 151, 3, 4, 14, 0, []), (35, .if_icmp .ne 15, 3, 50, 0, 0, []), (38, .iload_n 3, 1, 0, 0, 0, []), (39, .aload_n 0, 1, 0, 0, 0, []), (40, .getfield 154, 3, 4, 15, 0, []), (43, .if_icmp .le 7, 3, 50, 0, 0, []), (46, .iconst 1, 1, 0, 0, 0, []), (47, .goto 4, 3, 51, 0, 0, []), (50, .iconst 0, 1, 0, 0, 0, []), (51, .ireturn, 1, 2, 0, 0, [])]
/-- WholeFields$Finder.areLawful()Z -/
def k_WF_Finder_areLawful : Cd9 := [(0, .iconst 0, 1, 0, 0, 0, []), (1, .istore_n 1, 1, 0, 0, 0, []), (2, .iload_n 1, 1, 0, 0, 0, []), (3, .aload_n 0, 1, 0, 0, 0, []), (4, .getfield 82, 3, 4, 10, 0, []), (7, .if_icmp .ge 27, 3, 34, 0, 0, []), (10, .aload_n 0, 1, 0, 0, 0, []), (11, .getfield 34, 3, 4, 0, 2, []), (14, .aload_n 0, 1, 0, 0, 0, []), (15, .getfield 21, 3, 4, 5, 2, []), (18, .iload_n 1, 1, 0, 0, 0, []), (19, .laload, 1, 0, 0, 0, []), (20, .invokevirtual 174, 3, 128, 2, 6, []), (23, .ifCond .ne 5, 3, 28, 0, 0, []), (26, .iconst 0, 1, 0, 0, 0, []), (27, .ireturn, 1, 2, 0, 0, []), (28, .iinc 1 1, 3, 0, 0, 0, []), (31, .goto (-29), 3, 2, 0, 0, []), (34, .iconst 1, 1, 0, 0, 0, []), (35, .ireturn, 1, 2, 0, 0, [])]
/-- WholeFields$Finder.turn(III)V -/
def k_WF_Finder_turn : Cd9 := [(0, .aload_n 0, 1, 0, 0, 0, []), (1, .getfield 21, 3, 4, 5, 2, []), (4, .iload_n 2, 1, 0, 0, 0, []), (5, .dup2, 1, 0, 0, 0, []), (6, .laload, 1, 0, 0, 0, []), (7, .lconst 1, 1, 0, 0, 0, []), (8, .iload_n 1, 1, 0, 0, 0, []), (9, .lshl, 1, 0, 0, 0, []), (10, .lxor, 1, 0, 0, 0, []), (11, .lastore, 1, 0, 0, 0, []), (12, .iconst 0, 1, 0, 0, 0, []), (13, .istore 4, 2, 0, 0, 0, []), (15, .iload 4, 2, 0, 0, 0, []), (17, .aload_n 0, 1, 0, 0, 0, []), (18, .getfield 82, 3, 4, 10, 0, []), (21, .if_icmp .ge 35, 3, 56, 0, 0, []), (24, .aload_n 0, 1, 0, 0, 0, []), (25, .getfield 25, 3, 4, 6, 2, []), (28, .iload 4, 2, 0, 0, 0, []), (30, .iconst 3, 1, 0, 0, 0, []), (31, .imul, 1, 0, 0, 0, []), (32, .iload_n 2, 1, 0, 0, 0, []), (33, .iadd, 1, 0, 0, 0, []), (34, .dup2, 1, 0, 0, 0, []), (35, .iaload, 1, 0, 0, 0, []), (36, .iload_n 3, 1, 0, 0, 0, []), (37, .aload_n 0, 1, 0, 0, 0, []), (38, .getfield 34, 3, 4, 0, 2, []), (41, .iload 4, 2, 0, 0, 0, []), (43, .iload_n 1, 1, 0, 0, 0, []), (44, .invokevirtual 129, 3, 80, 3, 6, []), (47, .imul, 1, 0, 0, 0, []), (48, .iadd, 1, 0, 0, 0, []), (49, .iastore, 1, 0, 0, 0, []), (50, .iinc 4 1, 3, 0, 0, 0, []), (53, .goto (-38), 3, 15, 0, 0, []), (56, .return_, 1, 0, 0, 0, [])]
/-- WholeFields.stakes(I)I -/
def k_WF_stakes : Cd9 := [(0, .aload_n 0, 1, 0, 0, 0, []), (1, .getfield 25, 3, 11, 2, 2, []), (4, .iload_n 1, 1, 0, 0, 0, []), (5, .invokevirtual 153, 3, 73, 2, 6, []), (8, .ifCond .ne 9, 3, 17, 0, 0, []), (11, .aload_n 0, 1, 0, 0, 0, []), (12, .iconst 1, 1, 0, 0, 0, []), (13, .invokevirtual 95, 3, 20, 2, 12, []), (16, .ireturn, 1, 0, 0, 0, []), (17, .aload_n 0, 1, 0, 0, 0, []), (18, .getfield 66, 3, 11, 7, 2, []), (21, .aload_n 0, 1, 0, 0, 0, []), (22, .getfield 34, 3, 11, 3, 2, []), (25, .getfield 242, 3, 3, 2, 2, []), (28, .iload_n 1, 1, 0, 0, 0, []), (29, .laload, 1, 0, 0, 0, []), (30, .invokevirtual 246, 3, 147, 2, 11, []), (33, .ifCond .ne 9, 3, 42, 0, 0, []), (36, .aload_n 0, 1, 0, 0, 0, []), (37, .iconst 5, 1, 0, 0, 0, []), (38, .invokevirtual 95, 3, 20, 2, 12, []), (41, .ireturn, 1, 0, 0, 0, []), (42, .aload_n 0, 1, 0, 0, 0, []), (43, .aload_n 0, 1, 0, 0, 0, []), (44, .getfield 66, 3, 11, 7, 2, []), (47, .getfield 250, 3, 10, 3, 0, []), (50, .invokevirtual 126, 3, 51, 2, 12, []), (53, .ireturn, 1, 0, 0, 0, [])]
/-- WholeFields$Walker.walk(J)Z -/
def k_WF_Walker_walk : Cd9 := [(0, .aload_n 0, 1, 0, 0, 0, []), (1, .iconst 0, 1, 0, 0, 0, []), (2, .putfield 22, 3, 10, 3, 0, []), (5, .aload_n 0, 1, 0, 0, 0, []), (6, .lload_n 1, 1, 0, 0, 0, []), (7, .putfield 26, 3, 10, 4, 1, []), (10, .aload_n 0, 1, 0, 0, 0, []), (11, .getfield 18, 3, 10, 0, 2, []), (14, .getfield 30, 3, 5, 7, 0, []), (17, .istore_n 3, 1, 0, 0, 0, []), (18, .aload_n 0, 1, 0, 0, 0, []), (19, .getfield 26, 3, 10, 4, 1, []), (22, .lconst 0, 1, 0, 0, 0, []), (23, .lcmp, 1, 0, 0, 0, []), (24, .ifCond .eq 21, 3, 45, 0, 0, []), (27, .iload_n 3, 1, 0, 0, 0, []), (28, .ifCond .le 17, 3, 45, 0, 0, []), (31, .aload_n 0, 1, 0, 0, 0, []), (32, .getfield 18, 3, 10, 0, 2, []), (35, .aload_n 0, 1, 0, 0, 0, []), (36, .getfield 26, 3, 10, 4, 1, []), (39, .invokevirtual 35, 3, 109, 2, 6, []), (42, .ifCond .ne 5, 3, 47, 0, 0, []), (45, .iconst 0, 1, 0, 0, 0, []), (46, .ireturn, 1, 2, 0, 0, []), (47, .aload_n 0, 1, 0, 0, 0, []), (48, .getfield 26, 3, 10, 4, 1, []), (51, .invokestatic 39, 3, 107, 1, 0, []), (54, .iload_n 3, 1, 0, 0, 0, []), (55, .irem, 1, 0, 0, 0, []), (56, .istore 4, 2, 0, 0, 0, []), (58, .aload_n 0, 1, 0, 0, 0, []), (59, .getfield 26, 3, 10, 4, 1, []), (62, .invokestatic 39, 3, 107, 1, 0, []), (65, .iload_n 3, 1, 0, 0, 0, []), (66, .idiv, 1, 0, 0, 0, []), (67, .istore 5, 2, 0, 0, 0, []), (69, .iload 4, 2, 0, 0, 0, []), (71, .istore 6, 2, 0, 0, 0, []), (73, .iload 5, 2, 0, 0, 0, []), (75, .istore 7, 2, 0, 0, 0, []), (77, .iconst 0, 1, 0, 0, 0, []), (78, .istore 8, 2, 0, 0, 0, []), (80, .aload_n 0, 1, 0, 0, 0, []), (81, .iload 6, 2, 0, 0, 0, []), (83, .iload 7, 2, 0, 0, 0, []), (85, .invokevirtual 43, 3, 148, 3, 11, []), (88, .iconst 0, 1, 0, 0, 0, []), (89, .istore 9, 2, 0, 0, 0, []), (91, .iload 9, 2, 0, 0, 0, []), (93, .sipush 144, 3, 0, 0, 0, []), (96, .if_icmp .ge 79, 3, 175, 0, 0, []), (99, .iload 6, 2, 0, 0, 0, []), (101, .getstatic 47, 3, 90, 0, 2, []), (104, .iload 8, 2, 0, 0, 0, []), (106, .iaload, 1, 0, 0, 0, []), (107, .iadd, 1, 0, 0, 0, []), (108, .istore 6, 2, 0, 0, 0, []), (110, .iload 7, 2, 0, 0, 0, []), (112, .getstatic 50, 3, 91, 0, 2, []), (115, .iload 8, 2, 0, 0, 0, []), (117, .iaload, 1, 0, 0, 0, []), (118, .iadd, 1, 0, 0, 0, []), (119, .istore 7, 2, 0, 0, 0, []), (121, .iload 6, 2, 0, 0, 0, []), (123, .iload 4, 2, 0, 0, 0, []), (125, .if_icmp .ne 13, 3, 138, 0, 0, []), (128, .iload 7, 2, 0, 0, 0, []), (130, .iload 5, 2, 0, 0, 0, []), (132, .if_icmp .ne 6, 3, 138, 0, 0, []), (135, .goto 40, 3, 175, 0, 0, []), (138, .aload_n 0, 1, 0, 0, 0, []), (139, .iload 6, 2, 0, 0, 0, []), (141, .iload 7, 2, 0, 0, 0, []), (143, .iload 8, 2, 0, 0, 0, []), (145, .invokevirtual 53, 3, 149, 4, 11, []), (148, .istore 10, 2, 0, 0, 0, []), (150, .iload 10, 2, 0, 0, 0, []), (152, .iload 8, 2, 0, 0, 0, []), (154, .if_icmp .eq 15, 3, 169, 0, 0, []), (157, .aload_n 0, 1, 0, 0, 0, []), (158, .iload 6, 2, 0, 0, 0, []), (160, .iload 7, 2, 0, 0, 0, []), (162, .invokevirtual 43, 3, 148, 3, 11, []), (165, .iload 10, 2, 0, 0, 0, []), (167, .istore 8, 2, 0, 0, 0, []), (169, .iinc 9 1, 3, 0, 0, 0, []), (172, .goto (-81), 3, 91, 0, 0, []), (175, .iconst 1, 1, 0, 0, 0, []), (176, .ireturn, 1, 2, 0, 0, [])]
/-- WholeFields$Walker.mark(II)V -/
def k_WF_Walker_mark : Cd9 := [(0, .aload_n 0, 1, 0, 0, 0, []), (1, .getfield 22, 3, 10, 3, 0, []), (4, .sipush 144, 3, 0, 0, 0, []), (7, .if_icmp .ge 33, 3, 40, 0, 0, []), (10, .aload_n 0, 1, 0, 0, 0, []), (11, .getfield 11, 3, 10, 1, 2, []), (14, .aload_n 0, 1, 0, 0, 0, []), (15, .getfield 22, 3, 10, 3, 0, []), (18, .iload_n 1, 1, 0, 0, 0, []), (19, .iastore, 1, 0, 0, 0, []), (20, .aload_n 0, 1, 0, 0, 0, []), (21, .getfield 15, 3, 10, 2, 2, []), (24, .aload_n 0, 1, 0, 0, 0, []), (25, .getfield 22, 3, 10, 3, 0, []), (28, .iload_n 2, 1, 0, 0, 0, []), (29, .iastore, 1, 0, 0, 0, []), (30, .aload_n 0, 1, 0, 0, 0, []), (31, .dup, 1, 0, 0, 0, []), (32, .getfield 22, 3, 10, 3, 0, []), (35, .iconst 1, 1, 0, 0, 0, []), (36, .iadd, 1, 0, 0, 0, []), (37, .putfield 22, 3, 10, 3, 0, []), (40, .return_, 1, 0, 0, 0, [])]
/-- WholeFields$Walker.turnAt(III)I -/
def k_WF_Walker_turnAt : Cd9 := [(0, .iload_n 3, 1, 0, 0, 0, []), (1, .iconst 1, 1, 0, 0, 0, []), (2, .iadd, 1, 0, 0, 0, []), (3, .iconst 3, 1, 0, 0, 0, []), (4, .iand, 1, 0, 0, 0, []), (5, .istore 4, 2, 0, 0, 0, []), (7, .aload_n 0, 1, 0, 0, 0, []), (8, .iload_n 1, 1, 0, 0, 0, []), (9, .getstatic 57, 3, 92, 0, 2, []), (12, .iload 4, 2, 0, 0, 0, []), (14, .iaload, 1, 0, 0, 0, []), (15, .iadd, 1, 0, 0, 0, []), (16, .iload_n 2, 1, 0, 0, 0, []), (17, .getstatic 60, 3, 93, 0, 2, []), (20, .iload 4, 2, 0, 0, 0, []), (22, .iaload, 1, 0, 0, 0, []), (23, .iadd, 1, 0, 0, 0, []), (24, .invokevirtual 63, 3, 150, 3, 11, []), (27, .ifCond .ne 6, 3, 33, 0, 0, []), (30, .iload 4, 2, 0, 0, 0, []), (32, .ireturn, 1, 0, 0, 0, []), (33, .aload_n 0, 1, 0, 0, 0, []), (34, .iload_n 1, 1, 0, 0, 0, []), (35, .getstatic 57, 3, 92, 0, 2, []), (38, .iload_n 3, 1, 0, 0, 0, []), (39, .iaload, 1, 0, 0, 0, []), (40, .iadd, 1, 0, 0, 0, []), (41, .iload_n 2, 1, 0, 0, 0, []), (42, .getstatic 60, 3, 93, 0, 2, []), (45, .iload_n 3, 1, 0, 0, 0, []), (46, .iaload, 1, 0, 0, 0, []), (47, .iadd, 1, 0, 0, 0, []), (48, .invokevirtual 63, 3, 150, 3, 11, []), (51, .ifCond .eq 11, 3, 62, 0, 0, []), (54, .iload_n 3, 1, 0, 0, 0, []), (55, .iconst 3, 1, 0, 0, 0, []), (56, .iadd, 1, 0, 0, 0, []), (57, .iconst 3, 1, 0, 0, 0, []), (58, .iand, 1, 0, 0, 0, []), (59, .goto 4, 3, 63, 0, 0, []), (62, .iload_n 3, 1, 0, 0, 0, []), (63, .ireturn, 1, 0, 0, 0, [])]
/-- WholeFields$Walker.isInField(II)Z -/
def k_WF_Walker_isInField : Cd9 := [(0, .iload_n 1, 1, 0, 0, 0, []), (1, .ifCond .lt 56, 3, 57, 0, 0, []), (4, .iload_n 1, 1, 0, 0, 0, []), (5, .aload_n 0, 1, 0, 0, 0, []), (6, .getfield 18, 3, 10, 0, 2, []), (9, .getfield 30, 3, 5, 7, 0, []), (12, .if_icmp .ge 45, 3, 57, 0, 0, []), (15, .iload_n 2, 1, 0, 0, 0, []), (16, .ifCond .lt 41, 3, 57, 0, 0, []), (19, .iload_n 2, 1, 0, 0, 0, []), (20, .aload_n 0, 1, 0, 0, 0, []), (21, .getfield 18, 3, 10, 0, 2, []), (24, .getfield 67, 3, 5, 8, 0, []), (27, .if_icmp .ge 30, 3, 57, 0, 0, []), (30, .aload_n 0, 1, 0, 0, 0, []), (31, .getfield 26, 3, 10, 4, 1, []), (34, .iload_n 2, 1, 0, 0, 0, []), (35, .aload_n 0, 1, 0, 0, 0, []), (36, .getfield 18, 3, 10, 0, 2, []), (39, .getfield 30, 3, 5, 7, 0, []), (42, .imul, 1, 0, 0, 0, []), (43, .iload_n 1, 1, 0, 0, 0, []), (44, .iadd, 1, 0, 0, 0, []), (45, .lushr, 1, 0, 0, 0, []), (46, .lconst 1, 1, 0, 0, 0, []), (47, .land, 1, 0, 0, 0, []), (48, .lconst 0, 1, 0, 0, 0, []), (49, .lcmp, 1, 0, 0, 0, []), (50, .ifCond .eq 7, 3, 57, 0, 0, []), (53, .iconst 1, 1, 0, 0, 0, []), (54, .goto 4, 3, 58, 0, 0, []), (57, .iconst 0, 1, 0, 0, 0, []), (58, .ireturn, 1, 2, 0, 0, [])]
/-- WholeFields.within(I)I -/
def k_WF_within : Cd9 := [(0, .aload_n 0, 1, 0, 0, 0, []), (1, .getfield 25, 3, 11, 2, 2, []), (4, .iload_n 1, 1, 0, 0, 0, []), (5, .invokevirtual 153, 3, 73, 2, 6, []), (8, .ifCond .ne 9, 3, 17, 0, 0, []), (11, .aload_n 0, 1, 0, 0, 0, []), (12, .iconst 1, 1, 0, 0, 0, []), (13, .invokevirtual 95, 3, 20, 2, 12, []), (16, .ireturn, 1, 0, 0, 0, []), (17, .aload_n 0, 1, 0, 0, 0, []), (18, .getfield 66, 3, 11, 7, 2, []), (21, .aload_n 0, 1, 0, 0, 0, []), (22, .getfield 34, 3, 11, 3, 2, []), (25, .getfield 242, 3, 3, 2, 2, []), (28, .iload_n 1, 1, 0, 0, 0, []), (29, .laload, 1, 0, 0, 0, []), (30, .invokevirtual 246, 3, 147, 2, 11, []), (33, .ifCond .ne 9, 3, 42, 0, 0, []), (36, .aload_n 0, 1, 0, 0, 0, []), (37, .iconst 5, 1, 0, 0, 0, []), (38, .invokevirtual 95, 3, 20, 2, 12, []), (41, .ireturn, 1, 0, 0, 0, []), (42, .aload_n 0, 1, 0, 0, 0, []), (43, .aload_n 0, 1, 0, 0, 0, []), (44, .getfield 66, 3, 11, 7, 2, []), (47, .invokevirtual 263, 3, 152, 1, 11, []), (50, .invokevirtual 126, 3, 51, 2, 12, []), (53, .ireturn, 1, 0, 0, 0, [])]
/-- WholeFields$Walker.area()I -/
def k_WF_Walker_area : Cd9 := [(0, .iconst 0, 1, 0, 0, 0, []), (1, .istore_n 1, 1, 0, 0, 0, []), (2, .iconst 0, 1, 0, 0, 0, []), (3, .istore_n 2, 1, 0, 0, 0, []), (4, .iload_n 2, 1, 0, 0, 0, []), (5, .aload_n 0, 1, 0, 0, 0, []), (6, .getfield 22, 3, 10, 3, 0, []), (9, .if_icmp .ge 50, 3, 59, 0, 0, []), (12, .iload_n 2, 1, 0, 0, 0, []), (13, .iconst 1, 1, 0, 0, 0, []), (14, .iadd, 1, 0, 0, 0, []), (15, .aload_n 0, 1, 0, 0, 0, []), (16, .getfield 22, 3, 10, 3, 0, []), (19, .if_icmp .ge 9, 3, 28, 0, 0, []), (22, .iload_n 2, 1, 0, 0, 0, []), (23, .iconst 1, 1, 0, 0, 0, []), (24, .iadd, 1, 0, 0, 0, []), (25, .goto 4, 3, 29, 0, 0, []), (28, .iconst 0, 1, 0, 0, 0, []), (29, .istore_n 3, 1, 0, 0, 0, []), (30, .iload_n 1, 1, 0, 0, 0, []), (31, .aload_n 0, 1, 0, 0, 0, []), (32, .getfield 11, 3, 10, 1, 2, []), (35, .iload_n 2, 1, 0, 0, 0, []), (36, .iaload, 1, 0, 0, 0, []), (37, .aload_n 0, 1, 0, 0, 0, []), (38, .getfield 15, 3, 10, 2, 2, []), (41, .iload_n 3, 1, 0, 0, 0, []), (42, .iaload, 1, 0, 0, 0, []), (43, .aload_n 0, 1, 0, 0, 0, []), (44, .getfield 15, 3, 10, 2, 2, []), (47, .iload_n 2, 1, 0, 0, 0, []), (48, .iaload, 1, 0, 0, 0, []), (49, .isub, 1, 0, 0, 0, []), (50, .imul, 1, 0, 0, 0, []), (51, .iadd, 1, 0, 0, 0, []), (52, .istore_n 1, 1, 0, 0, 0, []), (53, .iinc 2 1, 3, 0, 0, 0, []), (56, .goto (-52), 3, 4, 0, 0, []), (59, .iload_n 1, 1, 0, 0, 0, []), (60, .ireturn, 1, 0, 0, 0, [])]
/-- WholeFields.split(III)I -/
def k_WF_split : Cd9 := [(0, .aload_n 0, 1, 0, 0, 0, []), (1, .getfield 25, 3, 11, 2, 2, []), (4, .iload_n 1, 1, 0, 0, 0, []), (5, .invokevirtual 153, 3, 73, 2, 6, []), (8, .ifCond .ne 9, 3, 17, 0, 0, []), (11, .aload_n 0, 1, 0, 0, 0, []), (12, .iconst 1, 1, 0, 0, 0, []), (13, .invokevirtual 95, 3, 20, 2, 12, []), (16, .ireturn, 1, 0, 0, 0, []), (17, .iload_n 2, 1, 0, 0, 0, []), (18, .iload_n 3, 1, 0, 0, 0, []), (19, .if_icmp .le 9, 3, 28, 0, 0, []), (22, .aload_n 0, 1, 0, 0, 0, []), (23, .iconst 2, 1, 0, 0, 0, []), (24, .invokevirtual 95, 3, 20, 2, 12, []), (27, .ireturn, 1, 0, 0, 0, []), (28, .aload_n 0, 1, 0, 0, 0, []), (29, .getfield 73, 3, 11, 8, 2, []), (32, .iload_n 1, 1, 0, 0, 0, []), (33, .aload_n 0, 1, 0, 0, 0, []), (34, .getfield 34, 3, 11, 3, 2, []), (37, .getfield 242, 3, 3, 2, 2, []), (40, .iload_n 1, 1, 0, 0, 0, []), (41, .laload, 1, 0, 0, 0, []), (42, .invokevirtual 266, 3, 154, 3, 10, []), (45, .ifCond .ne 9, 3, 54, 0, 0, []), (48, .aload_n 0, 1, 0, 0, 0, []), (49, .iconst 5, 1, 0, 0, 0, []), (50, .invokevirtual 95, 3, 20, 2, 12, []), (53, .ireturn, 1, 0, 0, 0, []), (54, .aload_n 0, 1, 0, 0, 0, []), (55, .getfield 73, 3, 11, 8, 2, []), (58, .iload_n 2, 1, 0, 0, 0, []), (59, .iload_n 3, 1, 0, 0, 0, []), (60, .invokevirtual 270, 3, 155, 3, 10, []), (63, .ifCond .ne 10, 3, 73, 0, 0, []), (66, .aload_n 0, 1, 0, 0, 0, []), (67, .bipush 6, 2, 0, 0, 0, []), (69, .invokevirtual 95, 3, 20, 2, 12, []), (72, .ireturn, 1, 0, 0, 0, []), (73, .aload_n 0, 1, 0, 0, 0, []), (74, .aload_n 0, 1, 0, 0, 0, []), (75, .getfield 73, 3, 11, 8, 2, []), (78, .getfield 272, 3, 9, 7, 0, []), (81, .putfield 275, 3, 11, 14, 0, []), (84, .aload_n 0, 1, 0, 0, 0, []), (85, .aload_n 0, 1, 0, 0, 0, []), (86, .getfield 73, 3, 11, 8, 2, []), (89, .getfield 278, 3, 9, 5, 0, []), (92, .invokevirtual 126, 3, 51, 2, 12, []), (95, .ireturn, 1, 0, 0, 0, [])]
/-- WholeFields$Splitter.take(IJ)Z -/
def k_WF_Splitter_take : Cd9 := [(0, .aload_n 0, 1, 0, 0, 0, []), (1, .lload_n 2, 1, 0, 0, 0, []), (2, .putfield 20, 3, 9, 3, 1, []), (5, .aload_n 0, 1, 0, 0, 0, []), (6, .iconst 0, 1, 0, 0, 0, []), (7, .putfield 24, 3, 9, 4, 0, []), (10, .aload_n 0, 1, 0, 0, 0, []), (11, .getfield 20, 3, 9, 3, 1, []), (14, .invokestatic 28, 3, 103, 1, 0, []), (17, .istore 4, 2, 0, 0, 0, []), (19, .iload 4, 2, 0, 0, 0, []), (21, .iconst 2, 1, 0, 0, 0, []), (22, .if_icmp .lt 24, 3, 46, 0, 0, []), (25, .iload 4, 2, 0, 0, 0, []), (27, .bipush 12, 2, 0, 0, 0, []), (29, .if_icmp .gt 17, 3, 46, 0, 0, []), (32, .aload_n 0, 1, 0, 0, 0, []), (33, .getfield 16, 3, 9, 0, 2, []), (36, .aload_n 0, 1, 0, 0, 0, []), (37, .getfield 20, 3, 9, 3, 1, []), (40, .invokevirtual 34, 3, 109, 2, 6, []), (43, .ifCond .ne 5, 3, 48, 0, 0, []), (46, .iconst 0, 1, 0, 0, 0, []), (47, .ireturn, 1, 2, 0, 0, []), (48, .iconst 0, 1, 0, 0, 0, []), (49, .istore 5, 2, 0, 0, 0, []), (51, .iconst 0, 1, 0, 0, 0, []), (52, .istore 6, 2, 0, 0, 0, []), (54, .iload 6, 2, 0, 0, 0, []), (56, .aload_n 0, 1, 0, 0, 0, []), (57, .getfield 16, 3, 9, 0, 2, []), (60, .getfield 40, 3, 5, 9, 0, []), (63, .if_icmp .ge 86, 3, 149, 0, 0, []), (66, .aload_n 0, 1, 0, 0, 0, []), (67, .getfield 24, 3, 9, 4, 0, []), (70, .bipush 12, 2, 0, 0, 0, []), (72, .if_icmp .ge 77, 3, 149, 0, 0, []), (75, .aload_n 0, 1, 0, 0, 0, []), (76, .getfield 20, 3, 9, 3, 1, []), (79, .iload 6, 2, 0, 0, 0, []), (81, .lushr, 1, 0, 0, 0, []), (82, .lconst 1, 1, 0, 0, 0, []), (83, .land, 1, 0, 0, 0, []), (84, .lconst 0, 1, 0, 0, 0, []), (85, .lcmp, 1, 0, 0, 0, []), (86, .ifCond .eq 57, 3, 143, 0, 0, []), (89, .aload_n 0, 1, 0, 0, 0, []), (90, .getfield 9, 3, 9, 1, 2, []), (93, .aload_n 0, 1, 0, 0, 0, []), (94, .getfield 24, 3, 9, 4, 0, []), (97, .aload_n 0, 1, 0, 0, 0, []), (98, .getfield 16, 3, 9, 0, 2, []), (101, .iload_n 1, 1, 0, 0, 0, []), (102, .iload 6, 2, 0, 0, 0, []), (104, .invokevirtual 43, 3, 80, 3, 6, []), (107, .iastore, 1, 0, 0, 0, []), (108, .aload_n 0, 1, 0, 0, 0, []), (109, .getfield 13, 3, 9, 2, 2, []), (112, .aload_n 0, 1, 0, 0, 0, []), (113, .getfield 24, 3, 9, 4, 0, []), (116, .iload 5, 2, 0, 0, 0, []), (118, .iastore, 1, 0, 0, 0, []), (119, .iload 5, 2, 0, 0, 0, []), (121, .aload_n 0, 1, 0, 0, 0, []), (122, .getfield 9, 3, 9, 1, 2, []), (125, .aload_n 0, 1, 0, 0, 0, []), (126, .getfield 24, 3, 9, 4, 0, []), (129, .iaload, 1, 0, 0, 0, []), (130, .iadd, 1, 0, 0, 0, []), (131, .istore 5, 2, 0, 0, 0, []), (133, .aload_n 0, 1, 0, 0, 0, []), (134, .dup, 1, 0, 0, 0, []), (135, .getfield 24, 3, 9, 4, 0, []), (138, .iconst 1, 1, 0, 0, 0, []), (139, .iadd, 1, 0, 0, 0, []), (140, .putfield 24, 3, 9, 4, 0, []), (143, .iinc 6 1, 3, 0, 0, 0, []), (146, .goto (-92), 3, 54, 0, 0, []), (149, .iconst 1, 1, 0, 0, 0, []), (150, .ireturn, 1, 2, 0, 0, [])]
/-- WholeFields$Splitter.search(II)Z -/
def k_WF_Splitter_search : Cd9 := [(0, .aload_n 0, 1, 0, 0, 0, []), (1, .iconst 0, 1, 0, 0, 0, []), (2, .putfield 47, 3, 9, 7, 0, []), (5, .iconst 1, 1, 0, 0, 0, []), (6, .aload_n 0, 1, 0, 0, 0, []), (7, .getfield 24, 3, 9, 4, 0, []), (10, .ishl, 1, 0, 0, 0, []), (11, .iconst 1, 1, 0, 0, 0, []), (12, .isub, 1, 0, 0, 0, []), (13, .istore_n 3, 1, 0, 0, 0, []), (14, .lconst 0, 1, 0, 0, 0, []), (15, .lstore 4, 2, 0, 0, 0, []), (17, .iconst 0, 1, 0, 0, 0, []), (18, .istore 6, 2, 0, 0, 0, []), (20, .iconst 1, 1, 0, 0, 0, []), (21, .istore 7, 2, 0, 0, 0, []), (23, .iload 7, 2, 0, 0, 0, []), (25, .iload_n 3, 1, 0, 0, 0, []), (26, .if_icmp .ge 76, 3, 102, 0, 0, []), (29, .iload 7, 2, 0, 0, 0, []), (31, .i2l, 1, 0, 0, 0, []), (32, .invokestatic 50, 3, 107, 1, 0, []), (35, .bipush 11, 2, 0, 0, 0, []), (37, .invokestatic 53, 3, 24, 2, 61, []), (40, .istore 8, 2, 0, 0, 0, []), (42, .iload 6, 2, 0, 0, 0, []), (44, .aload_n 0, 1, 0, 0, 0, []), (45, .getfield 9, 3, 9, 1, 2, []), (48, .iload 8, 2, 0, 0, 0, []), (50, .iaload, 1, 0, 0, 0, []), (51, .aload_n 0, 1, 0, 0, 0, []), (52, .getfield 13, 3, 9, 2, 2, []), (55, .iload 8, 2, 0, 0, 0, []), (57, .iaload, 1, 0, 0, 0, []), (58, .isub, 1, 0, 0, 0, []), (59, .iadd, 1, 0, 0, 0, []), (60, .istore 6, 2, 0, 0, 0, []), (62, .lload 4, 2, 0, 0, 0, []), (64, .aload_n 0, 1, 0, 0, 0, []), (65, .getfield 20, 3, 9, 3, 1, []), (68, .lsub, 1, 0, 0, 0, []), (69, .aload_n 0, 1, 0, 0, 0, []), (70, .getfield 20, 3, 9, 3, 1, []), (73, .land, 1, 0, 0, 0, []), (74, .lstore 4, 2, 0, 0, 0, []), (76, .iload 6, 2, 0, 0, 0, []), (78, .iload_n 1, 1, 0, 0, 0, []), (79, .if_icmp .lt 17, 3, 96, 0, 0, []), (82, .iload 6, 2, 0, 0, 0, []), (84, .iload_n 2, 1, 0, 0, 0, []), (85, .if_icmp .gt 11, 3, 96, 0, 0, []), (88, .aload_n 0, 1, 0, 0, 0, []), (89, .iload 7, 2, 0, 0, 0, []), (91, .lload 4, 2, 0, 0, 0, []), (93, .invokevirtual 58, 3, 156, 3, 10, []), (96, .iinc 7 1, 3, 0, 0, 0, []), (99, .goto (-76), 3, 23, 0, 0, []), (102, .aload_n 0, 1, 0, 0, 0, []), (103, .getfield 47, 3, 9, 7, 0, []), (106, .ifCond .eq 7, 3, 113, 0, 0, []), (109, .iconst 1, 1, 0, 0, 0, []), (110, .goto 4, 3, 114, 0, 0, []), (113, .iconst 0, 1, 0, 0, 0, []), (114, .ireturn, 1, 2, 0, 0, [])]
/-- WholeFields$Splitter.weigh(IJ)V -/
def k_WF_Splitter_weigh : Cd9 := [(0, .aload_n 0, 1, 0, 0, 0, []), (1, .getfield 20, 3, 9, 3, 1, []), (4, .lload_n 2, 1, 0, 0, 0, []), (5, .ldc2_w 62, 3, 15, 0, 0, []), (8, .lxor, 1, 0, 0, 0, []), (9, .land, 1, 0, 0, 0, []), (10, .lstore 4, 2, 0, 0, 0, []), (12, .aload_n 0, 1, 0, 0, 0, []), (13, .getfield 16, 3, 9, 0, 2, []), (16, .lload_n 2, 1, 0, 0, 0, []), (17, .lload 4, 2, 0, 0, 0, []), (19, .invokevirtual 64, 3, 102, 3, 6, []), (22, .istore 6, 2, 0, 0, 0, []), (24, .iload_n 1, 1, 0, 0, 0, []), (25, .invokestatic 68, 3, 157, 1, 0, []), (28, .istore 7, 2, 0, 0, 0, []), (30, .aload_n 0, 1, 0, 0, 0, []), (31, .getfield 47, 3, 9, 7, 0, []), (34, .ifCond .eq 30, 3, 64, 0, 0, []), (37, .iload 6, 2, 0, 0, 0, []), (39, .aload_n 0, 1, 0, 0, 0, []), (40, .getfield 73, 3, 9, 5, 0, []), (43, .if_icmp .lt 21, 3, 64, 0, 0, []), (46, .iload 6, 2, 0, 0, 0, []), (48, .aload_n 0, 1, 0, 0, 0, []), (49, .getfield 73, 3, 9, 5, 0, []), (52, .if_icmp .ne 16, 3, 68, 0, 0, []), (55, .iload 7, 2, 0, 0, 0, []), (57, .aload_n 0, 1, 0, 0, 0, []), (58, .getfield 76, 3, 9, 6, 0, []), (61, .if_icmp .ge 7, 3, 68, 0, 0, []), (64, .iconst 1, 1, 0, 0, 0, []), (65, .goto 4, 3, 69, 0, 0, []), (68, .iconst 0, 1, 0, 0, 0, []), (69, .istore 8, 2, 0, 0, 0, []), (71, .iload 8, 2, 0, 0, 0, []), (73, .ifCond .eq 43, 3, 116, 0, 0, []), (76, .aload_n 0, 1, 0, 0, 0, []), (77, .getfield 16, 3, 9, 0, 2, []), (80, .lload_n 2, 1, 0, 0, 0, []), (81, .invokevirtual 34, 3, 109, 2, 6, []), (84, .ifCond .eq 32, 3, 116, 0, 0, []), (87, .aload_n 0, 1, 0, 0, 0, []), (88, .getfield 16, 3, 9, 0, 2, []), (91, .lload 4, 2, 0, 0, 0, []), (93, .invokevirtual 34, 3, 109, 2, 6, []), (96, .ifCond .eq 20, 3, 116, 0, 0, []), (99, .aload_n 0, 1, 0, 0, 0, []), (100, .iload_n 1, 1, 0, 0, 0, []), (101, .putfield 47, 3, 9, 7, 0, []), (104, .aload_n 0, 1, 0, 0, 0, []), (105, .iload 6, 2, 0, 0, 0, []), (107, .putfield 73, 3, 9, 5, 0, []), (110, .aload_n 0, 1, 0, 0, 0, []), (111, .iload 7, 2, 0, 0, 0, []), (113, .putfield 76, 3, 9, 6, 0, []), (116, .return_, 1, 0, 0, 0, [])]
/-- java/lang/Integer.bitCount(I)I -/
def k_Integer_bitCount : Cd9 := [(0, .iload_n 0, 1, 0, 0, 0, []), (1, .iload_n 0, 1, 0, 0, 0, []), (2, .iconst 1, 1, 0, 0, 0, []), (3, .iushr, 1, 0, 0, 0, []), (4, .ldc_w 265, 3, 3, 0, 0, []), (7, .iand, 1, 0, 0, 0, []), (8, .isub, 1, 0, 0, 0, []), (9, .istore_n 0, 1, 0, 0, 0, []), (10, .iload_n 0, 1, 0, 0, 0, []), (11, .ldc_w 266, 3, 4, 0, 0, []), (14, .iand, 1, 0, 0, 0, []), (15, .iload_n 0, 1, 0, 0, 0, []), (16, .iconst 2, 1, 0, 0, 0, []), (17, .iushr, 1, 0, 0, 0, []), (18, .ldc_w 266, 3, 4, 0, 0, []), (21, .iand, 1, 0, 0, 0, []), (22, .iadd, 1, 0, 0, 0, []), (23, .istore_n 0, 1, 0, 0, 0, []), (24, .iload_n 0, 1, 0, 0, 0, []), (25, .iload_n 0, 1, 0, 0, 0, []), (26, .iconst 4, 1, 0, 0, 0, []), (27, .iushr, 1, 0, 0, 0, []), (28, .iadd, 1, 0, 0, 0, []), (29, .ldc_w 267, 3, 5, 0, 0, []), (32, .iand, 1, 0, 0, 0, []), (33, .istore_n 0, 1, 0, 0, 0, []), (34, .iload_n 0, 1, 0, 0, 0, []), (35, .iload_n 0, 1, 0, 0, 0, []), (36, .bipush 8, 2, 0, 0, 0, []), (38, .iushr, 1, 0, 0, 0, []), (39, .iadd, 1, 0, 0, 0, []), (40, .istore_n 0, 1, 0, 0, 0, []), (41, .iload_n 0, 1, 0, 0, 0, []), (42, .iload_n 0, 1, 0, 0, 0, []), (43, .bipush 16, 2, 0, 0, 0, []), (45, .iushr, 1, 0, 0, 0, []), (46, .iadd, 1, 0, 0, 0, []), (47, .istore_n 0, 1, 0, 0, 0, []), (48, .iload_n 0, 1, 0, 0, 0, []), (49, .bipush 63, 2, 0, 0, 0, []), (51, .iand, 1, 0, 0, 0, []), (52, .ireturn, 1, 0, 0, 0, [])]
/-- WholeFields.part()I -/
def k_WF_part : Cd9 := [(0, .aload_n 0, 1, 0, 0, 0, []), (1, .getfield 275, 3, 11, 14, 0, []), (4, .ireturn, 1, 0, 0, 0, [])]
/-- WholeFields.corner(I)I -/
def k_WF_corner : Cd9 := [(0, .iload_n 1, 1, 0, 0, 0, []), (1, .ifCond .lt 14, 3, 15, 0, 0, []), (4, .iload_n 1, 1, 0, 0, 0, []), (5, .aload_n 0, 1, 0, 0, 0, []), (6, .getfield 25, 3, 11, 2, 2, []), (9, .invokevirtual 281, 3, 160, 1, 6, []), (12, .if_icmp .lt 9, 3, 21, 0, 0, []), (15, .aload_n 0, 1, 0, 0, 0, []), (16, .iconst 1, 1, 0, 0, 0, []), (17, .invokevirtual 95, 3, 20, 2, 12, []), (20, .ireturn, 1, 0, 0, 0, []), (21, .aload_n 0, 1, 0, 0, 0, []), (22, .getfield 80, 3, 11, 9, 2, []), (25, .invokevirtual 284, 3, 161, 1, 3, []), (28, .ifCond .eq 9, 3, 37, 0, 0, []), (31, .aload_n 0, 1, 0, 0, 0, []), (32, .iconst 3, 1, 0, 0, 0, []), (33, .invokevirtual 95, 3, 20, 2, 12, []), (36, .ireturn, 1, 0, 0, 0, []), (37, .aload_n 0, 1, 0, 0, 0, []), (38, .getfield 80, 3, 11, 9, 2, []), (41, .iload_n 1, 1, 0, 0, 0, []), (42, .invokevirtual 287, 3, 162, 2, 3, []), (45, .ifCond .eq 9, 3, 54, 0, 0, []), (48, .aload_n 0, 1, 0, 0, 0, []), (49, .iconst 5, 1, 0, 0, 0, []), (50, .invokevirtual 95, 3, 20, 2, 12, []), (53, .ireturn, 1, 0, 0, 0, []), (54, .aload_n 0, 1, 0, 0, 0, []), (55, .getfield 80, 3, 11, 9, 2, []), (58, .iload_n 1, 1, 0, 0, 0, []), (59, .invokevirtual 290, 3, 163, 2, 3, []), (62, .aload_n 0, 1, 0, 0, 0, []), (63, .aload_n 0, 1, 0, 0, 0, []), (64, .getfield 80, 3, 11, 9, 2, []), (67, .getfield 292, 3, 2, 5, 0, []), (70, .invokevirtual 126, 3, 51, 2, 12, []), (73, .ireturn, 1, 0, 0, 0, [])]
/-- WholeFields$Ground.corners()I -/
def k_WF_Ground_corners : Cd9 := [(0, .aload_n 0, 1, 0, 0, 0, []), (1, .invokevirtual 81, 3, 74, 1, 6, []), (4, .ifCond .eq 19, 3, 23, 0, 0, []), (7, .aload_n 0, 1, 0, 0, 0, []), (8, .getfield 37, 3, 5, 7, 0, []), (11, .iconst 1, 1, 0, 0, 0, []), (12, .iadd, 1, 0, 0, 0, []), (13, .aload_n 0, 1, 0, 0, 0, []), (14, .getfield 41, 3, 5, 8, 0, []), (17, .iconst 1, 1, 0, 0, 0, []), (18, .iadd, 1, 0, 0, 0, []), (19, .imul, 1, 0, 0, 0, []), (20, .goto 4, 3, 24, 0, 0, []), (23, .iconst 0, 1, 0, 0, 0, []), (24, .ireturn, 1, 0, 0, 0, [])]
/-- WholeFields$Ditcher.isFull()Z -/
def k_WF_Ditcher_isFull : Cd9 := [(0, .aload_n 0, 1, 0, 0, 0, []), (1, .getfield 29, 3, 2, 5, 0, []), (4, .iconst 4, 1, 0, 0, 0, []), (5, .if_icmp .lt 7, 3, 12, 0, 0, []), (8, .iconst 1, 1, 0, 0, 0, []), (9, .goto 4, 3, 13, 0, 0, []), (12, .iconst 0, 1, 0, 0, 0, []), (13, .ireturn, 1, 2, 0, 0, [])]
/-- WholeFields$Ditcher.isTold(I)Z -/
def k_WF_Ditcher_isTold : Cd9 := [(0, .iconst 0, 1, 0, 0, 0, []), (1, .istore_n 2, 1, 0, 0, 0, []), (2, .iload_n 2, 1, 0, 0, 0, []), (3, .aload_n 0, 1, 0, 0, 0, []), (4, .getfield 29, 3, 2, 5, 0, []), (7, .if_icmp .ge 26, 3, 33, 0, 0, []), (10, .iload_n 2, 1, 0, 0, 0, []), (11, .iconst 4, 1, 0, 0, 0, []), (12, .if_icmp .ge 21, 3, 33, 0, 0, []), (15, .aload_n 0, 1, 0, 0, 0, []), (16, .getfield 11, 3, 2, 2, 2, []), (19, .iload_n 2, 1, 0, 0, 0, []), (20, .iaload, 1, 0, 0, 0, []), (21, .iload_n 1, 1, 0, 0, 0, []), (22, .if_icmp .ne 5, 3, 27, 0, 0, []), (25, .iconst 1, 1, 0, 0, 0, []), (26, .ireturn, 1, 2, 0, 0, []), (27, .iinc 2 1, 3, 0, 0, 0, []), (30, .goto (-28), 3, 2, 0, 0, []), (33, .iconst 0, 1, 0, 0, 0, []), (34, .ireturn, 1, 2, 0, 0, [])]
/-- WholeFields$Ditcher.tell(I)V -/
def k_WF_Ditcher_tell : Cd9 := [(0, .aload_n 0, 1, 0, 0, 0, []), (1, .getfield 29, 3, 2, 5, 0, []), (4, .iconst 4, 1, 0, 0, 0, []), (5, .if_icmp .ge 23, 3, 28, 0, 0, []), (8, .aload_n 0, 1, 0, 0, 0, []), (9, .getfield 11, 3, 2, 2, 2, []), (12, .aload_n 0, 1, 0, 0, 0, []), (13, .getfield 29, 3, 2, 5, 0, []), (16, .iload_n 1, 1, 0, 0, 0, []), (17, .iastore, 1, 0, 0, 0, []), (18, .aload_n 0, 1, 0, 0, 0, []), (19, .dup, 1, 0, 0, 0, []), (20, .getfield 29, 3, 2, 5, 0, []), (23, .iconst 1, 1, 0, 0, 0, []), (24, .iadd, 1, 0, 0, 0, []), (25, .putfield 29, 3, 2, 5, 0, []), (28, .return_, 1, 0, 0, 0, [])]
/-- WholeFields.clear()I -/
def k_WF_clear : Cd9 := [(0, .aload_n 0, 1, 0, 0, 0, []), (1, .getfield 80, 3, 11, 9, 2, []), (4, .getfield 292, 3, 2, 5, 0, []), (7, .istore_n 1, 1, 0, 0, 0, []), (8, .aload_n 0, 1, 0, 0, 0, []), (9, .getfield 80, 3, 11, 9, 2, []), (12, .iconst 0, 1, 0, 0, 0, []), (13, .putfield 292, 3, 2, 5, 0, []), (16, .iload_n 1, 1, 0, 0, 0, []), (17, .ireturn, 1, 0, 0, 0, [])]
/-- WholeFields.ditches()I -/
def k_WF_ditches : Cd9 := [(0, .aload_n 0, 1, 0, 0, 0, []), (1, .getfield 25, 3, 11, 2, 2, []), (4, .invokevirtual 167, 3, 74, 1, 6, []), (7, .ifCond .ne 9, 3, 16, 0, 0, []), (10, .aload_n 0, 1, 0, 0, 0, []), (11, .iconst 1, 1, 0, 0, 0, []), (12, .invokevirtual 95, 3, 20, 2, 12, []), (15, .ireturn, 1, 0, 0, 0, []), (16, .aload_n 0, 1, 0, 0, 0, []), (17, .getfield 80, 3, 11, 9, 2, []), (20, .getfield 292, 3, 2, 5, 0, []), (23, .ifCond .ne 9, 3, 32, 0, 0, []), (26, .aload_n 0, 1, 0, 0, 0, []), (27, .iconst 5, 1, 0, 0, 0, []), (28, .invokevirtual 95, 3, 20, 2, 12, []), (31, .ireturn, 1, 0, 0, 0, []), (32, .aload_n 0, 1, 0, 0, 0, []), (33, .getfield 80, 3, 11, 9, 2, []), (36, .invokevirtual 295, 3, 166, 1, 3, []), (39, .istore_n 1, 1, 0, 0, 0, []), (40, .iload_n 1, 1, 0, 0, 0, []), (41, .iconst (-1), 1, 0, 0, 0, []), (42, .if_icmp .ne 12, 3, 54, 0, 0, []), (45, .aload_n 0, 1, 0, 0, 0, []), (46, .bipush 6, 2, 0, 0, 0, []), (48, .invokevirtual 95, 3, 20, 2, 12, []), (51, .goto 8, 3, 59, 0, 0, []), (54, .aload_n 0, 1, 0, 0, 0, []), (55, .iload_n 1, 1, 0, 0, 0, []), (56, .invokevirtual 126, 3, 51, 2, 12, []), (59, .ireturn, 1, 0, 0, 0, [])]
/-- WholeFields$Ditcher.leastLength()I -/
def k_WF_Ditcher_leastLength : Cd9 := [(0, .aload_n 0, 1, 0, 0, 0, []), (1, .getfield 29, 3, 2, 5, 0, []), (4, .iconst 2, 1, 0, 0, 0, []), (5, .if_icmp .lt 11, 3, 16, 0, 0, []), (8, .aload_n 0, 1, 0, 0, 0, []), (9, .getfield 29, 3, 2, 5, 0, []), (12, .iconst 4, 1, 0, 0, 0, []), (13, .if_icmp .le 5, 3, 18, 0, 0, []), (16, .iconst 0, 1, 0, 0, 0, []), (17, .ireturn, 1, 0, 0, 0, []), (18, .aload_n 0, 1, 0, 0, 0, []), (19, .invokevirtual 33, 3, 167, 1, 3, []), (22, .aload_n 0, 1, 0, 0, 0, []), (23, .getfield 29, 3, 2, 5, 0, []), (26, .iconst 1, 1, 0, 0, 0, []), (27, .isub, 1, 0, 0, 0, []), (28, .istore_n 1, 1, 0, 0, 0, []), (29, .iconst 1, 1, 0, 0, 0, []), (30, .iload_n 1, 1, 0, 0, 0, []), (31, .ishl, 1, 0, 0, 0, []), (32, .iconst 1, 1, 0, 0, 0, []), (33, .isub, 1, 0, 0, 0, []), (34, .istore_n 2, 1, 0, 0, 0, []), (35, .iconst 1, 1, 0, 0, 0, []), (36, .istore_n 3, 1, 0, 0, 0, []), (37, .iload_n 3, 1, 0, 0, 0, []), (38, .iload_n 2, 1, 0, 0, 0, []), (39, .if_icmp .gt 22, 3, 61, 0, 0, []), (42, .aload_n 0, 1, 0, 0, 0, []), (43, .iload_n 3, 1, 0, 0, 0, []), (44, .invokevirtual 36, 3, 169, 2, 3, []), (47, .aload_n 0, 1, 0, 0, 0, []), (48, .iload_n 3, 1, 0, 0, 0, []), (49, .bipush 81, 2, 0, 0, 0, []), (51, .imul, 1, 0, 0, 0, []), (52, .invokevirtual 40, 3, 171, 2, 3, []), (55, .iinc 3 1, 3, 0, 0, 0, []), (58, .goto (-21), 3, 37, 0, 0, []), (61, .aload_n 0, 1, 0, 0, 0, []), (62, .getfield 18, 3, 2, 4, 2, []), (65, .iload_n 2, 1, 0, 0, 0, []), (66, .bipush 81, 2, 0, 0, 0, []), (68, .imul, 1, 0, 0, 0, []), (69, .aload_n 0, 1, 0, 0, 0, []), (70, .getfield 11, 3, 2, 2, 2, []), (73, .iload_n 1, 1, 0, 0, 0, []), (74, .iaload, 1, 0, 0, 0, []), (75, .iadd, 1, 0, 0, 0, []), (76, .iaload, 1, 0, 0, 0, []), (77, .istore_n 3, 1, 0, 0, 0, []), (78, .iload_n 3, 1, 0, 0, 0, []), (79, .sipush 1000, 3, 0, 0, 0, []), (82, .if_icmp .ge 7, 3, 89, 0, 0, []), (85, .iload_n 3, 1, 0, 0, 0, []), (86, .goto 4, 3, 90, 0, 0, []), (89, .iconst (-1), 1, 0, 0, 0, []), (90, .ireturn, 1, 0, 0, 0, [])]
/-- WholeFields$Ditcher.findWays()V -/
def k_WF_Ditcher_findWays : Cd9 := [(0, .aload_n 0, 1, 0, 0, 0, []), (1, .getfield 21, 3, 2, 0, 2, []), (4, .getfield 43, 3, 5, 7, 0, []), (7, .istore_n 1, 1, 0, 0, 0, []), (8, .iconst 0, 1, 0, 0, 0, []), (9, .istore_n 2, 1, 0, 0, 0, []), (10, .iload_n 2, 1, 0, 0, 0, []), (11, .aload_n 0, 1, 0, 0, 0, []), (12, .getfield 21, 3, 2, 0, 2, []), (15, .getfield 48, 3, 5, 8, 0, []), (18, .if_icmp .gt 79, 3, 97, 0, 0, []), (21, .iconst 0, 1, 0, 0, 0, []), (22, .istore_n 3, 1, 0, 0, 0, []), (23, .iload_n 3, 1, 0, 0, 0, []), (24, .iload_n 1, 1, 0, 0, 0, []), (25, .if_icmp .gt 66, 3, 91, 0, 0, []), (28, .aload_n 0, 1, 0, 0, 0, []), (29, .iload_n 3, 1, 0, 0, 0, []), (30, .iload_n 2, 1, 0, 0, 0, []), (31, .iconst 1, 1, 0, 0, 0, []), (32, .isub, 1, 0, 0, 0, []), (33, .iload_n 3, 1, 0, 0, 0, []), (34, .iload_n 2, 1, 0, 0, 0, []), (35, .invokevirtual 51, 3, 168, 5, 3, []), (38, .ifCond .eq 7, 3, 45, 0, 0, []), (41, .iconst 1, 1, 0, 0, 0, []), (42, .goto 4, 3, 46, 0, 0, []), (45, .iconst 0, 1, 0, 0, 0, []), (46, .istore 4, 2, 0, 0, 0, []), (48, .aload_n 0, 1, 0, 0, 0, []), (49, .iload_n 3, 1, 0, 0, 0, []), (50, .iconst 1, 1, 0, 0, 0, []), (51, .isub, 1, 0, 0, 0, []), (52, .iload_n 2, 1, 0, 0, 0, []), (53, .iload_n 3, 1, 0, 0, 0, []), (54, .iload_n 2, 1, 0, 0, 0, []), (55, .invokevirtual 51, 3, 168, 5, 3, []), (58, .ifCond .eq 7, 3, 65, 0, 0, []), (61, .iconst 2, 1, 0, 0, 0, []), (62, .goto 4, 3, 66, 0, 0, []), (65, .iconst 0, 1, 0, 0, 0, []), (66, .istore 5, 2, 0, 0, 0, []), (68, .aload_n 0, 1, 0, 0, 0, []), (69, .getfield 15, 3, 2, 3, 2, []), (72, .iload_n 2, 1, 0, 0, 0, []), (73, .iload_n 1, 1, 0, 0, 0, []), (74, .iconst 1, 1, 0, 0, 0, []), (75, .iadd, 1, 0, 0, 0, []), (76, .imul, 1, 0, 0, 0, []), (77, .iload_n 3, 1, 0, 0, 0, []), (78, .iadd, 1, 0, 0, 0, []), (79, .iload 4, 2, 0, 0, 0, []), (81, .iload 5, 2, 0, 0, 0, []), (83, .ior, 1, 0, 0, 0, []), (84, .iastore, 1, 0, 0, 0, []), (85, .iinc 3 1, 3, 0, 0, 0, []), (88, .goto (-65), 3, 23, 0, 0, []), (91, .iinc 2 1, 3, 0, 0, 0, []), (94, .goto (-84), 3, 10, 0, 0, []), (97, .return_, 1, 0, 0, 0, [])]
/-- WholeFields$Ditcher.isBorder(IIII)Z -/
def k_WF_Ditcher_isBorder : Cd9 := [(0, .iload_n 1, 1, 0, 0, 0, []), (1, .ifCond .lt 30, 3, 31, 0, 0, []), (4, .iload_n 2, 1, 0, 0, 0, []), (5, .ifCond .lt 26, 3, 31, 0, 0, []), (8, .iload_n 3, 1, 0, 0, 0, []), (9, .aload_n 0, 1, 0, 0, 0, []), (10, .getfield 21, 3, 2, 0, 2, []), (13, .getfield 43, 3, 5, 7, 0, []), (16, .if_icmp .ge 15, 3, 31, 0, 0, []), (19, .iload 4, 2, 0, 0, 0, []), (21, .aload_n 0, 1, 0, 0, 0, []), (22, .getfield 21, 3, 2, 0, 2, []), (25, .getfield 48, 3, 5, 8, 0, []), (28, .if_icmp .lt 5, 3, 33, 0, 0, []), (31, .iconst 0, 1, 0, 0, 0, []), (32, .ireturn, 1, 2, 0, 0, []), (33, .aload_n 0, 1, 0, 0, 0, []), (34, .getfield 25, 3, 2, 1, 2, []), (37, .getfield 55, 3, 3, 1, 2, []), (40, .iload_n 2, 1, 0, 0, 0, []), (41, .aload_n 0, 1, 0, 0, 0, []), (42, .getfield 21, 3, 2, 0, 2, []), (45, .getfield 43, 3, 5, 7, 0, []), (48, .imul, 1, 0, 0, 0, []), (49, .iload_n 1, 1, 0, 0, 0, []), (50, .iadd, 1, 0, 0, 0, []), (51, .iaload, 1, 0, 0, 0, []), (52, .aload_n 0, 1, 0, 0, 0, []), (53, .getfield 25, 3, 2, 1, 2, []), (56, .getfield 55, 3, 3, 1, 2, []), (59, .iload 4, 2, 0, 0, 0, []), (61, .aload_n 0, 1, 0, 0, 0, []), (62, .getfield 21, 3, 2, 0, 2, []), (65, .getfield 43, 3, 5, 7, 0, []), (68, .imul, 1, 0, 0, 0, []), (69, .iload_n 3, 1, 0, 0, 0, []), (70, .iadd, 1, 0, 0, 0, []), (71, .iaload, 1, 0, 0, 0, []), (72, .if_icmp .eq 7, 3, 79, 0, 0, []), (75, .iconst 1, 1, 0, 0, 0, []), (76, .goto 4, 3, 80, 0, 0, []), (79, .iconst 0, 1, 0, 0, 0, []), (80, .ireturn, 1, 2, 0, 0, [])]
/-- WholeFields$Ditcher.joinParts(I)V -/
def k_WF_Ditcher_joinParts : Cd9 := [(0, .iload_n 1, 1, 0, 0, 0, []), (1, .bipush 81, 2, 0, 0, 0, []), (3, .imul, 1, 0, 0, 0, []), (4, .istore_n 2, 1, 0, 0, 0, []), (5, .iconst 0, 1, 0, 0, 0, []), (6, .istore_n 3, 1, 0, 0, 0, []), (7, .iload_n 3, 1, 0, 0, 0, []), (8, .bipush 81, 2, 0, 0, 0, []), (10, .if_icmp .ge 20, 3, 30, 0, 0, []), (13, .aload_n 0, 1, 0, 0, 0, []), (14, .getfield 18, 3, 2, 4, 2, []), (17, .iload_n 2, 1, 0, 0, 0, []), (18, .iload_n 3, 1, 0, 0, 0, []), (19, .iadd, 1, 0, 0, 0, []), (20, .sipush 1000, 3, 0, 0, 0, []), (23, .iastore, 1, 0, 0, 0, []), (24, .iinc 3 1, 3, 0, 0, 0, []), (27, .goto (-20), 3, 7, 0, 0, []), (30, .iconst 0, 1, 0, 0, 0, []), (31, .istore_n 3, 1, 0, 0, 0, []), (32, .iload_n 3, 1, 0, 0, 0, []), (33, .aload_n 0, 1, 0, 0, 0, []), (34, .getfield 29, 3, 2, 5, 0, []), (37, .iconst 1, 1, 0, 0, 0, []), (38, .isub, 1, 0, 0, 0, []), (39, .if_icmp .ge 35, 3, 74, 0, 0, []), (42, .iload_n 3, 1, 0, 0, 0, []), (43, .iconst 4, 1, 0, 0, 0, []), (44, .if_icmp .ge 30, 3, 74, 0, 0, []), (47, .iload_n 1, 1, 0, 0, 0, []), (48, .iconst 1, 1, 0, 0, 0, []), (49, .iload_n 3, 1, 0, 0, 0, []), (50, .ishl, 1, 0, 0, 0, []), (51, .if_icmp .ne 17, 3, 68, 0, 0, []), (54, .aload_n 0, 1, 0, 0, 0, []), (55, .getfield 18, 3, 2, 4, 2, []), (58, .iload_n 2, 1, 0, 0, 0, []), (59, .aload_n 0, 1, 0, 0, 0, []), (60, .getfield 11, 3, 2, 2, 2, []), (63, .iload_n 3, 1, 0, 0, 0, []), (64, .iaload, 1, 0, 0, 0, []), (65, .iadd, 1, 0, 0, 0, []), (66, .iconst 0, 1, 0, 0, 0, []), (67, .iastore, 1, 0, 0, 0, []), (68, .iinc 3 1, 3, 0, 0, 0, []), (71, .goto (-39), 3, 32, 0, 0, []), (74, .iconst 1, 1, 0, 0, 0, []), (75, .istore_n 3, 1, 0, 0, 0, []), (76, .iload_n 3, 1, 0, 0, 0, []), (77, .iload_n 1, 1, 0, 0, 0, []), (78, .if_icmp .ge 32, 3, 110, 0, 0, []), (81, .iload_n 3, 1, 0, 0, 0, []), (82, .iload_n 1, 1, 0, 0, 0, []), (83, .iconst (-1), 1, 0, 0, 0, []), (84, .ixor, 1, 0, 0, 0, []), (85, .iand, 1, 0, 0, 0, []), (86, .ifCond .ne 18, 3, 104, 0, 0, []), (89, .aload_n 0, 1, 0, 0, 0, []), (90, .iload_n 2, 1, 0, 0, 0, []), (91, .iload_n 3, 1, 0, 0, 0, []), (92, .bipush 81, 2, 0, 0, 0, []), (94, .imul, 1, 0, 0, 0, []), (95, .iload_n 1, 1, 0, 0, 0, []), (96, .iload_n 3, 1, 0, 0, 0, []), (97, .ixor, 1, 0, 0, 0, []), (98, .bipush 81, 2, 0, 0, 0, []), (100, .imul, 1, 0, 0, 0, []), (101, .invokevirtual 60, 3, 170, 4, 3, []), (104, .iinc 3 1, 3, 0, 0, 0, []), (107, .goto (-31), 3, 76, 0, 0, []), (110, .return_, 1, 0, 0, 0, [])]
/-- WholeFields$Ditcher.joinTwo(III)V -/
def k_WF_Ditcher_joinTwo : Cd9 := [(0, .aload_n 0, 1, 0, 0, 0, []), (1, .getfield 21, 3, 2, 0, 2, []), (4, .invokevirtual 64, 3, 160, 1, 6, []), (7, .istore 4, 2, 0, 0, 0, []), (9, .iconst 0, 1, 0, 0, 0, []), (10, .istore 5, 2, 0, 0, 0, []), (12, .iload 5, 2, 0, 0, 0, []), (14, .iload 4, 2, 0, 0, 0, []), (16, .if_icmp .ge 49, 3, 65, 0, 0, []), (19, .aload_n 0, 1, 0, 0, 0, []), (20, .getfield 18, 3, 2, 4, 2, []), (23, .iload_n 1, 1, 0, 0, 0, []), (24, .iload 5, 2, 0, 0, 0, []), (26, .iadd, 1, 0, 0, 0, []), (27, .aload_n 0, 1, 0, 0, 0, []), (28, .getfield 18, 3, 2, 4, 2, []), (31, .iload_n 1, 1, 0, 0, 0, []), (32, .iload 5, 2, 0, 0, 0, []), (34, .iadd, 1, 0, 0, 0, []), (35, .iaload, 1, 0, 0, 0, []), (36, .aload_n 0, 1, 0, 0, 0, []), (37, .getfield 18, 3, 2, 4, 2, []), (40, .iload_n 2, 1, 0, 0, 0, []), (41, .iload 5, 2, 0, 0, 0, []), (43, .iadd, 1, 0, 0, 0, []), (44, .iaload, 1, 0, 0, 0, []), (45, .aload_n 0, 1, 0, 0, 0, []), (46, .getfield 18, 3, 2, 4, 2, []), (49, .iload_n 3, 1, 0, 0, 0, []), (50, .iload 5, 2, 0, 0, 0, []), (52, .iadd, 1, 0, 0, 0, []), (53, .iaload, 1, 0, 0, 0, []), (54, .iadd, 1, 0, 0, 0, []), (55, .invokestatic 67, 3, 24, 2, 61, []), (58, .iastore, 1, 0, 0, 0, []), (59, .iinc 5 1, 3, 0, 0, 0, []), (62, .goto (-50), 3, 12, 0, 0, []), (65, .return_, 1, 0, 0, 0, [])]
/-- WholeFields$Ditcher.settle(I)V -/
def k_WF_Ditcher_settle : Cd9 := [(0, .aload_n 0, 1, 0, 0, 0, []), (1, .getfield 21, 3, 2, 0, 2, []), (4, .invokevirtual 64, 3, 160, 1, 6, []), (7, .istore_n 2, 1, 0, 0, 0, []), (8, .iconst 1, 1, 0, 0, 0, []), (9, .istore_n 3, 1, 0, 0, 0, []), (10, .iconst 0, 1, 0, 0, 0, []), (11, .istore 4, 2, 0, 0, 0, []), (13, .iload 4, 2, 0, 0, 0, []), (15, .iload_n 2, 1, 0, 0, 0, []), (16, .if_icmp .gt 116, 3, 132, 0, 0, []), (19, .iload_n 3, 1, 0, 0, 0, []), (20, .ifCond .eq 112, 3, 132, 0, 0, []), (23, .iconst 0, 1, 0, 0, 0, []), (24, .istore_n 3, 1, 0, 0, 0, []), (25, .iconst 0, 1, 0, 0, 0, []), (26, .istore 5, 2, 0, 0, 0, []), (28, .iload 5, 2, 0, 0, 0, []), (30, .iload_n 2, 1, 0, 0, 0, []), (31, .if_icmp .ge 95, 3, 126, 0, 0, []), (34, .iload 4, 2, 0, 0, 0, []), (36, .iconst 1, 1, 0, 0, 0, []), (37, .iand, 1, 0, 0, 0, []), (38, .ifCond .ne 8, 3, 46, 0, 0, []), (41, .iload 5, 2, 0, 0, 0, []), (43, .goto 9, 3, 52, 0, 0, []), (46, .iload_n 2, 1, 0, 0, 0, []), (47, .iconst 1, 1, 0, 0, 0, []), (48, .isub, 1, 0, 0, 0, []), (49, .iload 5, 2, 0, 0, 0, []), (51, .isub, 1, 0, 0, 0, []), (52, .istore 6, 2, 0, 0, 0, []), (54, .aload_n 0, 1, 0, 0, 0, []), (55, .getfield 15, 3, 2, 3, 2, []), (58, .iload 6, 2, 0, 0, 0, []), (60, .iaload, 1, 0, 0, 0, []), (61, .iconst 1, 1, 0, 0, 0, []), (62, .iand, 1, 0, 0, 0, []), (63, .ifCond .eq 20, 3, 83, 0, 0, []), (66, .iload_n 3, 1, 0, 0, 0, []), (67, .aload_n 0, 1, 0, 0, 0, []), (68, .iload_n 1, 1, 0, 0, 0, []), (69, .iload 6, 2, 0, 0, 0, []), (71, .iadd, 1, 0, 0, 0, []), (72, .iload_n 1, 1, 0, 0, 0, []), (73, .iload 6, 2, 0, 0, 0, []), (75, .iadd, 1, 0, 0, 0, []), (76, .iconst 1, 1, 0, 0, 0, []), (77, .iadd, 1, 0, 0, 0, []), (78, .invokevirtual 73, 3, 172, 3, 3, []), (81, .ior, 1, 0, 0, 0, []), (82, .istore_n 3, 1, 0, 0, 0, []), (83, .aload_n 0, 1, 0, 0, 0, []), (84, .getfield 15, 3, 2, 3, 2, []), (87, .iload 6, 2, 0, 0, 0, []), (89, .iaload, 1, 0, 0, 0, []), (90, .iconst 2, 1, 0, 0, 0, []), (91, .iand, 1, 0, 0, 0, []), (92, .ifCond .eq 28, 3, 120, 0, 0, []), (95, .iload_n 3, 1, 0, 0, 0, []), (96, .aload_n 0, 1, 0, 0, 0, []), (97, .iload_n 1, 1, 0, 0, 0, []), (98, .iload 6, 2, 0, 0, 0, []), (100, .iadd, 1, 0, 0, 0, []), (101, .iload_n 1, 1, 0, 0, 0, []), (102, .iload 6, 2, 0, 0, 0, []), (104, .iadd, 1, 0, 0, 0, []), (105, .aload_n 0, 1, 0, 0, 0, []), (106, .getfield 21, 3, 2, 0, 2, []), (109, .getfield 43, 3, 5, 7, 0, []), (112, .iadd, 1, 0, 0, 0, []), (113, .iconst 1, 1, 0, 0, 0, []), (114, .iadd, 1, 0, 0, 0, []), (115, .invokevirtual 73, 3, 172, 3, 3, []), (118, .ior, 1, 0, 0, 0, []), (119, .istore_n 3, 1, 0, 0, 0, []), (120, .iinc 5 1, 3, 0, 0, 0, []), (123, .goto (-95), 3, 28, 0, 0, []), (126, .iinc 4 1, 3, 0, 0, 0, []), (129, .goto (-116), 3, 13, 0, 0, []), (132, .return_, 1, 0, 0, 0, [])]
/-- WholeFields$Ditcher.level(II)Z -/
def k_WF_Ditcher_level : Cd9 := [(0, .aload_n 0, 1, 0, 0, 0, []), (1, .getfield 18, 3, 2, 4, 2, []), (4, .iload_n 1, 1, 0, 0, 0, []), (5, .iaload, 1, 0, 0, 0, []), (6, .aload_n 0, 1, 0, 0, 0, []), (7, .getfield 18, 3, 2, 4, 2, []), (10, .iload_n 2, 1, 0, 0, 0, []), (11, .iaload, 1, 0, 0, 0, []), (12, .iconst 1, 1, 0, 0, 0, []), (13, .iadd, 1, 0, 0, 0, []), (14, .if_icmp .le 19, 3, 33, 0, 0, []), (17, .aload_n 0, 1, 0, 0, 0, []), (18, .getfield 18, 3, 2, 4, 2, []), (21, .iload_n 1, 1, 0, 0, 0, []), (22, .aload_n 0, 1, 0, 0, 0, []), (23, .getfield 18, 3, 2, 4, 2, []), (26, .iload_n 2, 1, 0, 0, 0, []), (27, .iaload, 1, 0, 0, 0, []), (28, .iconst 1, 1, 0, 0, 0, []), (29, .iadd, 1, 0, 0, 0, []), (30, .iastore, 1, 0, 0, 0, []), (31, .iconst 1, 1, 0, 0, 0, []), (32, .ireturn, 1, 2, 0, 0, []), (33, .aload_n 0, 1, 0, 0, 0, []), (34, .getfield 18, 3, 2, 4, 2, []), (37, .iload_n 2, 1, 0, 0, 0, []), (38, .iaload, 1, 0, 0, 0, []), (39, .aload_n 0, 1, 0, 0, 0, []), (40, .getfield 18, 3, 2, 4, 2, []), (43, .iload_n 1, 1, 0, 0, 0, []), (44, .iaload, 1, 0, 0, 0, []), (45, .iconst 1, 1, 0, 0, 0, []), (46, .iadd, 1, 0, 0, 0, []), (47, .if_icmp .le 19, 3, 66, 0, 0, []), (50, .aload_n 0, 1, 0, 0, 0, []), (51, .getfield 18, 3, 2, 4, 2, []), (54, .iload_n 2, 1, 0, 0, 0, []), (55, .aload_n 0, 1, 0, 0, 0, []), (56, .getfield 18, 3, 2, 4, 2, []), (59, .iload_n 1, 1, 0, 0, 0, []), (60, .iaload, 1, 0, 0, 0, []), (61, .iconst 1, 1, 0, 0, 0, []), (62, .iadd, 1, 0, 0, 0, []), (63, .iastore, 1, 0, 0, 0, []), (64, .iconst 1, 1, 0, 0, 0, []), (65, .ireturn, 1, 2, 0, 0, []), (66, .iconst 0, 1, 0, 0, 0, []), (67, .ireturn, 1, 2, 0, 0, [])]
/-- WholeFields.count(I)I -/
def k_WF_count : Cd9 := [(0, .iload_n 1, 1, 0, 0, 0, []), (1, .tableswitch 141 0 8 #[51, 62, 70, 81, 89, 112, 120, 128, 136], 51, 142, 0, 0, [(0, 52), (1, 63), (2, 71), (3, 82), (4, 90), (5, 113), (6, 121), (7, 129), (8, 137)]), (52, .aload_n 0, 1, 0, 0, 0, []), (53, .getfield 25, 3, 11, 2, 2, []), (56, .getfield 111, 3, 5, 6, 2, []), (59, .getfield 121, 3, 1, 3, 0, []), (62, .ireturn, 1, 0, 0, 0, []), (63, .aload_n 0, 1, 0, 0, 0, []), (64, .getfield 25, 3, 11, 2, 2, []), (67, .getfield 136, 3, 5, 9, 0, []), (70, .ireturn, 1, 0, 0, 0, []), (71, .aload_n 0, 1, 0, 0, 0, []), (72, .getfield 25, 3, 11, 2, 2, []), (75, .getfield 298, 3, 5, 13, 1, []), (78, .invokestatic 220, 3, 103, 1, 0, []), (81, .ireturn, 1, 0, 0, 0, []), (82, .aload_n 0, 1, 0, 0, 0, []), (83, .getfield 25, 3, 11, 2, 2, []), (86, .invokevirtual 302, 3, 174, 1, 6, []), (89, .ireturn, 1, 0, 0, 0, []), (90, .aload_n 0, 1, 0, 0, 0, []), (91, .getfield 25, 3, 11, 2, 2, []), (94, .getfield 305, 3, 5, 12, 1, []), (97, .aload_n 0, 1, 0, 0, 0, []), (98, .getfield 34, 3, 11, 3, 2, []), (101, .invokevirtual 308, 3, 101, 1, 4, []), (104, .ldc2_w 311, 3, 16, 0, 0, []), (107, .lxor, 1, 0, 0, 0, []), (108, .land, 1, 0, 0, 0, []), (109, .invokestatic 220, 3, 103, 1, 0, []), (112, .ireturn, 1, 0, 0, 0, []), (113, .aload_n 0, 1, 0, 0, 0, []), (114, .getfield 80, 3, 11, 9, 2, []), (117, .getfield 292, 3, 2, 5, 0, []), (120, .ireturn, 1, 0, 0, 0, []), (121, .aload_n 0, 1, 0, 0, 0, []), (122, .getfield 25, 3, 11, 2, 2, []), (125, .getfield 170, 3, 5, 10, 0, []), (128, .ireturn, 1, 0, 0, 0, []), (129, .aload_n 0, 1, 0, 0, 0, []), (130, .getfield 25, 3, 11, 2, 2, []), (133, .getfield 173, 3, 5, 11, 0, []), (136, .ireturn, 1, 0, 0, 0, []), (137, .aload_n 0, 1, 0, 0, 0, []), (138, .getfield 87, 3, 11, 10, 0, []), (141, .ireturn, 1, 0, 0, 0, []), (142, .iconst (-1), 1, 0, 0, 0, []), (143, .ireturn, 1, 0, 0, 0, [])]
/-- WholeFields$Ground.keptCells()I -/
def k_WF_Ground_keptCells : Cd9 := [(0, .iconst 0, 1, 0, 0, 0, []), (1, .istore_n 1, 1, 0, 0, 0, []), (2, .iconst 0, 1, 0, 0, 0, []), (3, .istore_n 2, 1, 0, 0, 0, []), (4, .iload_n 2, 1, 0, 0, 0, []), (5, .aload_n 0, 1, 0, 0, 0, []), (6, .getfield 44, 3, 5, 9, 0, []), (9, .if_icmp .ge 22, 3, 31, 0, 0, []), (12, .aload_n 0, 1, 0, 0, 0, []), (13, .getfield 18, 3, 5, 2, 2, []), (16, .iload_n 2, 1, 0, 0, 0, []), (17, .iaload, 1, 0, 0, 0, []), (18, .iconst (-1), 1, 0, 0, 0, []), (19, .if_icmp .eq 6, 3, 25, 0, 0, []), (22, .iinc 1 1, 3, 0, 0, 0, []), (25, .iinc 2 1, 3, 0, 0, 0, []), (28, .goto (-24), 3, 4, 0, 0, []), (31, .iload_n 1, 1, 0, 0, 0, []), (32, .ireturn, 1, 0, 0, 0, [])]
/-- WholeFields.trouble()I -/
def k_WF_trouble : Cd9 := [(0, .aload_n 0, 1, 0, 0, 0, []), (1, .getfield 129, 3, 11, 15, 0, []), (4, .ireturn, 1, 0, 0, 0, [])]
/-- WholeFieldsLaw.stake(LWholeFields;II[J)I -/
def k_WFLaw_stake : Cd9 := [(0, .aload_n 3, 1, 0, 0, 0, []), (1, .iconst 0, 1, 0, 0, 0, []), (2, .aload_n 0, 1, 0, 0, 0, []), (3, .iload_n 1, 1, 0, 0, 0, []), (4, .iload_n 2, 1, 0, 0, 0, []), (5, .invokevirtual 7, 3, 177, 3, 12, []), (8, .i2l, 1, 0, 0, 0, []), (9, .lastore, 1, 0, 0, 0, []), (10, .goto 7, 3, 17, 0, 0, []), (13, .astore 4, 2, 0, 0, 0, []), (15, .iconst 1, 1, 0, 0, 0, []), (16, .ireturn, 1, 0, 0, 0, []), (17, .iconst 0, 1, 0, 0, 0, []), (18, .ireturn, 1, 0, 0, 0, [])]
/-- WholeFields.stake(II)I -/
def k_WF_stake : Cd9 := [(0, .aload_n 0, 1, 0, 0, 0, []), (1, .getfield 25, 3, 11, 2, 2, []), (4, .iload_n 1, 1, 0, 0, 0, []), (5, .invokevirtual 153, 3, 73, 2, 6, []), (8, .ifCond .eq 37, 3, 45, 0, 0, []), (11, .aload_n 0, 1, 0, 0, 0, []), (12, .getfield 66, 3, 11, 7, 2, []), (15, .aload_n 0, 1, 0, 0, 0, []), (16, .getfield 34, 3, 11, 3, 2, []), (19, .getfield 242, 3, 3, 2, 2, []), (22, .iload_n 1, 1, 0, 0, 0, []), (23, .laload, 1, 0, 0, 0, []), (24, .invokevirtual 246, 3, 147, 2, 11, []), (27, .ifCond .eq 18, 3, 45, 0, 0, []), (30, .iload_n 2, 1, 0, 0, 0, []), (31, .ifCond .lt 14, 3, 45, 0, 0, []), (34, .iload_n 2, 1, 0, 0, 0, []), (35, .aload_n 0, 1, 0, 0, 0, []), (36, .getfield 66, 3, 11, 7, 2, []), (39, .getfield 250, 3, 10, 3, 0, []), (42, .if_icmp .lt 13, 3, 55, 0, 0, []), (45, .new 253, 3, 0, 6, 77, []), (48, .dup, 1, 0, 0, 0, []), (49, .ldc 255, 2, 0, 0, 1, []), (51, .invokespecial 257, 3, 0, 0, 99, []), (54, .athrow, 1, 0, 0, 0, []), (55, .aload_n 0, 1, 0, 0, 0, []), (56, .getfield 66, 3, 11, 7, 2, []), (59, .iload_n 2, 1, 0, 0, 0, []), (60, .invokevirtual 260, 3, 178, 2, 11, []), (63, .ireturn, 1, 0, 0, 0, [])]
/-- WholeFields$Walker.numberOf(I)I -/
def k_WF_Walker_numberOf : Cd9 := [(0, .iload_n 1, 1, 0, 0, 0, []), (1, .ifCond .lt 37, 3, 38, 0, 0, []), (4, .iload_n 1, 1, 0, 0, 0, []), (5, .aload_n 0, 1, 0, 0, 0, []), (6, .getfield 22, 3, 10, 3, 0, []), (9, .if_icmp .ge 29, 3, 38, 0, 0, []), (12, .aload_n 0, 1, 0, 0, 0, []), (13, .getfield 18, 3, 10, 0, 2, []), (16, .getfield 30, 3, 5, 7, 0, []), (19, .iconst 1, 1, 0, 0, 0, []), (20, .iadd, 1, 0, 0, 0, []), (21, .aload_n 0, 1, 0, 0, 0, []), (22, .getfield 15, 3, 10, 2, 2, []), (25, .iload_n 1, 1, 0, 0, 0, []), (26, .iaload, 1, 0, 0, 0, []), (27, .imul, 1, 0, 0, 0, []), (28, .aload_n 0, 1, 0, 0, 0, []), (29, .getfield 11, 3, 10, 1, 2, []), (32, .iload_n 1, 1, 0, 0, 0, []), (33, .iaload, 1, 0, 0, 0, []), (34, .iadd, 1, 0, 0, 0, []), (35, .goto 4, 3, 39, 0, 0, []), (38, .iconst (-1), 1, 0, 0, 0, []), (39, .ireturn, 1, 0, 0, 0, [])]
/-- WholeFieldsModel.<init>()V -/
def k_WFModel_init : Cd9 := [(0, .aload_n 0, 1, 0, 0, 0, []), (1, .invokespecial 1, 3, 0, 0, 50, []), (4, .aload_n 0, 1, 0, 0, 0, []), (5, .iconst (-1), 1, 0, 0, 0, []), (6, .putfield 9, 3, 14, 2, 0, []), (9, .aload_n 0, 1, 0, 0, 0, []), (10, .new 13, 3, 13, 8, 0, []), (13, .dup, 1, 0, 0, 0, []), (14, .invokespecial 15, 3, 180, 1, 14, []), (17, .putfield 16, 3, 14, 6, 2, []), (20, .aload_n 0, 1, 0, 0, 0, []), (21, .sipush 500, 3, 0, 0, 0, []), (24, .newarray .byte, 2, 37, 500, 1, []), (26, .putfield 20, 3, 14, 7, 2, []), (29, .aload_n 0, 1, 0, 0, 0, []), (30, .bipush 6, 2, 0, 0, 0, []), (32, .newarray .int, 2, 21, 6, 0, []), (34, .putfield 24, 3, 14, 16, 2, []), (37, .aload_n 0, 1, 0, 0, 0, []), (38, .bipush 6, 2, 0, 0, 0, []), (40, .newarray .int, 2, 21, 6, 0, []), (42, .putfield 28, 3, 14, 17, 2, []), (45, .aload_n 0, 1, 0, 0, 0, []), (46, .bipush 6, 2, 0, 0, 0, []), (48, .newarray .int, 2, 21, 6, 0, []), (50, .putfield 31, 3, 14, 18, 2, []), (53, .aload_n 0, 1, 0, 0, 0, []), (54, .bipush 6, 2, 0, 0, 0, []), (56, .newarray .boolean, 2, 38, 6, 2, []), (58, .putfield 34, 3, 14, 19, 2, []), (61, .aload_n 0, 1, 0, 0, 0, []), (62, .iconst 1, 1, 0, 0, 0, []), (63, .putfield 38, 3, 14, 25, 0, []), (66, .aload_n 0, 1, 0, 0, 0, []), (67, .bipush 20, 2, 0, 0, 0, []), (69, .putfield 41, 3, 14, 26, 0, []), (72, .aload_n 0, 1, 0, 0, 0, []), (73, .iconst (-1), 1, 0, 0, 0, []), (74, .putfield 44, 3, 14, 28, 0, []), (77, .aload_n 0, 1, 0, 0, 0, []), (78, .iconst (-1), 1, 0, 0, 0, []), (79, .putfield 47, 3, 14, 29, 0, []), (82, .aload_n 0, 1, 0, 0, 0, []), (83, .bipush 64, 2, 0, 0, 0, []), (85, .newarray .int, 2, 28, 64, 0, []), (87, .putfield 50, 3, 14, 30, 2, []), (90, .aload_n 0, 1, 0, 0, 0, []), (91, .bipush 64, 2, 0, 0, 0, []), (93, .newarray .int, 2, 28, 64, 0, []), (95, .putfield 53, 3, 14, 31, 2, []), (98, .aload_n 0, 1, 0, 0, 0, []), (99, .bipush 64, 2, 0, 0, 0, []), (101, .newarray .int, 2, 28, 64, 0, []), (103, .putfield 56, 3, 14, 32, 2, []), (106, .aload_n 0, 1, 0, 0, 0, []), (107, .bipush 64, 2, 0, 0, 0, []), (109, .newarray .int, 2, 28, 64, 0, []), (111, .putfield 59, 3, 14, 33, 2, []), (114, .aload_n 0, 1, 0, 0, 0, []), (115, .bipush 6, 2, 0, 0, 0, []), (117, .newarray .int, 2, 21, 6, 0, []), (119, .putfield 62, 3, 14, 34, 2, []), (122, .aload_n 0, 1, 0, 0, 0, []), (123, .bipush 6, 2, 0, 0, 0, []), (125, .newarray .int, 2, 21, 6, 0, []), (127, .putfield 65, 3, 14, 35, 2, []), (130, .aload_n 0, 1, 0, 0, 0, []), (131, .iconst 4, 1, 0, 0, 0, []), (132, .newarray .int, 2, 20, 4, 0, []), (134, .putfield 68, 3, 14, 36, 2, []), (137, .aload_n 0, 1, 0, 0, 0, []), (138, .bipush 64, 2, 0, 0, 0, []), (140, .newarray .boolean, 2, 39, 64, 2, []), (142, .putfield 71, 3, 14, 37, 2, []), (145, .aload_n 0, 1, 0, 0, 0, []), (146, .bipush 48, 2, 0, 0, 0, []), (148, .newarray .int, 2, 27, 48, 0, []), (150, .putfield 74, 3, 14, 38, 2, []), (153, .aload_n 0, 1, 0, 0, 0, []), (154, .sipush 384, 3, 0, 0, 0, []), (157, .newarray .int, 2, 34, 384, 0, []), (159, .putfield 77, 3, 14, 39, 2, []), (162, .aload_n 0, 1, 0, 0, 0, []), (163, .bipush 64, 2, 0, 0, 0, []), (165, .newarray .int, 2, 28, 64, 0, []), (167, .putfield 80, 3, 14, 40, 2, []), (170, .aload_n 0, 1, 0, 0, 0, []), (171, .bipush 64, 2, 0, 0, 0, []), (173, .newarray .boolean, 2, 39, 64, 2, []), (175, .putfield 83, 3, 14, 41, 2, []), (178, .aload_n 0, 1, 0, 0, 0, []), (179, .bipush 64, 2, 0, 0, 0, []), (181, .newarray .int, 2, 28, 64, 0, []), (183, .putfield 86, 3, 14, 48, 2, []), (186, .aload_n 0, 1, 0, 0, 0, []), (187, .bipush 64, 2, 0, 0, 0, []), (189, .newarray .int, 2, 28, 64, 0, []), (191, .putfield 89, 3, 14, 49, 2, []), (194, .aload_n 0, 1, 0, 0, 0, []), (195, .sipush 256, 3, 0, 0, 0, []), (198, .newarray .int, 2, 32, 256, 0, []), (200, .putfield 92, 3, 14, 51, 2, []), (203, .aload_n 0, 1, 0, 0, 0, []), (204, .bipush 64, 2, 0, 0, 0, []), (206, .newarray .int, 2, 28, 64, 0, []), (208, .putfield 95, 3, 14, 52, 2, []), (211, .aload_n 0, 1, 0, 0, 0, []), (212, .bipush 64, 2, 0, 0, 0, []), (214, .newarray .int, 2, 28, 64, 0, []), (216, .putfield 98, 3, 14, 53, 2, []), (219, .aload_n 0, 1, 0, 0, 0, []), (220, .sipush 1296, 3, 0, 0, 0, []), (223, .newarray .int, 2, 36, 1296, 0, []), (225, .putfield 101, 3, 14, 54, 2, []), (228, .return_, 1, 0, 0, 0, [])]
/-- WholeFieldsModel$Stop.<init>()V -/
def k_WFModel_Stop_init : Cd9 := [(0, .aload_n 0, 1, 0, 0, 0, []), (1, .aconst_null, 1, 0, 0, 0, []), (2, .aconst_null, 1, 0, 0, 0, []), (3, .iconst 0, 1, 0, 0, 0, []), (4, .iconst 0, 1, 0, 0, 0, []), (5, .invokespecial 1, 3, 181, 5, 14, []), (8, .return_, 1, 0, 0, 0, [])]
/-- java/lang/RuntimeException.<init>(Ljava/lang/String;Ljava/lang/Throwable;ZZ)V -/
def k_RuntimeException_init : Cd9 := [(0, .aload_n 0, 1, 0, 0, 0, []), (1, .aload_n 1, 1, 0, 0, 0, []), (2, .aload_n 2, 1, 0, 0, 0, []), (3, .iload_n 3, 1, 0, 0, 0, []), (4, .iload 4, 2, 0, 0, 0, []), (6, .invokespecial 16, 3, 182, 5, 14, []), (9, .return_, 1, 0, 0, 0, [])]
/-- java/lang/Exception.<init>(Ljava/lang/String;Ljava/lang/Throwable;ZZ)V -/
def k_Exception_init : Cd9 := [(0, .aload_n 0, 1, 0, 0, 0, []), (1, .aload_n 1, 1, 0, 0, 0, []), (2, .aload_n 2, 1, 0, 0, 0, []), (3, .iload_n 3, 1, 0, 0, 0, []), (4, .iload 4, 2, 0, 0, 0, []), (6, .invokespecial 16, 3, 183, 5, 14, []), (9, .return_, 1, 0, 0, 0, [])]
/-- java/lang/Throwable.<init>(Ljava/lang/String;Ljava/lang/Throwable;ZZ)V -/
def k_Throwable_init : Cd9 := [(0, .aload_n 0, 1, 0, 0, 0, []), (1, .invokespecial 1, 3, 0, 0, 50, []), (4, .aload_n 0, 1, 0, 0, 0, []), (5, .aload_n 0, 1, 0, 0, 0, []), (6, .putfield 7, 3, 13, 0, 2, []), (9, .aload_n 0, 1, 0, 0, 0, []), (10, .getstatic 13, 3, 0, 0, 3, []), (13, .putfield 17, 3, 13, 1, 2, []), (16, .aload_n 0, 1, 0, 0, 0, []), (17, .getstatic 20, 3, 0, 0, 3, []), (20, .putfield 24, 3, 13, 2, 2, []), (23, .iload 4, 2, 0, 0, 0, []), (25, .ifCond .eq 11, 3, 36, 0, 0, []), (28, .aload_n 0, 1, 0, 0, 0, []), (29, .invokevirtual 27, 3, 0, 0, 99, []), (32, .pop, 1, 0, 0, 0, []), (33, .goto 8, 3, 41, 0, 0, []), (36, .aload_n 0, 1, 0, 0, 0, []), (37, .aconst_null, 1, 0, 0, 0, []), (38, .putfield 17, 3, 13, 1, 2, []), (41, .aload_n 0, 1, 0, 0, 0, []), (42, .aload_n 1, 1, 0, 0, 0, []), (43, .putfield 31, 3, 13, 3, 2, []), (46, .aload_n 0, 1, 0, 0, 0, []), (47, .aload_n 2, 1, 0, 0, 0, []), (48, .putfield 7, 3, 13, 0, 2, []), (51, .iload_n 3, 1, 0, 0, 0, []), (52, .ifCond .ne 8, 3, 60, 0, 0, []), (55, .aload_n 0, 1, 0, 0, 0, []), (56, .aconst_null, 1, 0, 0, 0, []), (57, .putfield 24, 3, 13, 2, 2, []), (60, .return_, 1, 0, 0, 0, [])]
/-- WholeFieldsModel.thrown()I -/
def k_WFModel_thrown : Cd9 := [(0, .aload_n 0, 1, 0, 0, 0, []), (1, .getfield 104, 3, 14, 0, 0, []), (4, .ireturn, 1, 0, 0, 0, [])]
/-- WholeFieldsModel.feed(IIIII)I -/
def k_WFModel_feed : Cd9 := [(0, .aload_n 0, 1, 0, 0, 0, []), (1, .iconst 0, 1, 0, 0, 0, []), (2, .putfield 104, 3, 14, 0, 0, []), (5, .aload_n 0, 1, 0, 0, 0, []), (6, .getfield 241, 3, 14, 8, 0, []), (9, .bipush 20, 2, 0, 0, 0, []), (11, .iadd, 1, 0, 0, 0, []), (12, .sipush 500, 3, 0, 0, 0, []), (15, .if_icmp .le 5, 3, 20, 0, 0, []), (18, .iconst (-1), 1, 0, 0, 0, []), (19, .ireturn, 1, 0, 0, 0, []), (20, .iconst 0, 1, 0, 0, 0, []), (21, .istore 6, 2, 0, 0, 0, []), (23, .iload 6, 2, 0, 0, 0, []), (25, .bipush 20, 2, 0, 0, 0, []), (27, .if_icmp .ge 90, 3, 117, 0, 0, []), (30, .iload 6, 2, 0, 0, 0, []), (32, .iconst 4, 1, 0, 0, 0, []), (33, .if_icmp .ge 7, 3, 40, 0, 0, []), (36, .iload_n 1, 1, 0, 0, 0, []), (37, .goto 39, 3, 76, 0, 0, []), (40, .iload 6, 2, 0, 0, 0, []), (42, .bipush 8, 2, 0, 0, 0, []), (44, .if_icmp .ge 7, 3, 51, 0, 0, []), (47, .iload_n 2, 1, 0, 0, 0, []), (48, .goto 28, 3, 76, 0, 0, []), (51, .iload 6, 2, 0, 0, 0, []), (53, .bipush 12, 2, 0, 0, 0, []), (55, .if_icmp .ge 7, 3, 62, 0, 0, []), (58, .iload_n 3, 1, 0, 0, 0, []), (59, .goto 17, 3, 76, 0, 0, []), (62, .iload 6, 2, 0, 0, 0, []), (64, .bipush 16, 2, 0, 0, 0, []), (66, .if_icmp .ge 8, 3, 74, 0, 0, []), (69, .iload 4, 2, 0, 0, 0, []), (71, .goto 5, 3, 76, 0, 0, []), (74, .iload 5, 2, 0, 0, 0, []), (76, .istore 7, 2, 0, 0, 0, []), (78, .aload_n 0, 1, 0, 0, 0, []), (79, .getfield 20, 3, 14, 7, 2, []), (82, .aload_n 0, 1, 0, 0, 0, []), (83, .getfield 241, 3, 14, 8, 0, []), (86, .iload 7, 2, 0, 0, 0, []), (88, .bipush 24, 2, 0, 0, 0, []), (90, .bipush 8, 2, 0, 0, 0, []), (92, .iload 6, 2, 0, 0, 0, []), (94, .iconst 4, 1, 0, 0, 0, []), (95, .irem, 1, 0, 0, 0, []), (96, .imul, 1, 0, 0, 0, []), (97, .isub, 1, 0, 0, 0, []), (98, .ishr, 1, 0, 0, 0, []), (99, .i2b, 1, 0, 0, 0, []), (100, .bastore, 1, 0, 0, 0, []), (101, .aload_n 0, 1, 0, 0, 0, []), (102, .dup, 1, 0, 0, 0, []), (103, .getfield 241, 3, 14, 8, 0, []), (106, .iconst 1, 1, 0, 0, 0, []), (107, .iadd, 1, 0, 0, 0, []), (108, .putfield 241, 3, 14, 8, 0, []), (111, .iinc 6 1, 3, 0, 0, 0, []), (114, .goto (-91), 3, 23, 0, 0, []), (117, .aload_n 0, 1, 0, 0, 0, []), (118, .getfield 241, 3, 14, 8, 0, []), (121, .ireturn, 1, 0, 0, 0, [])]
/-- WholeFieldsModel.book(I)I -/
def k_WFModel_book : Cd9 := [(0, .aload_n 0, 1, 0, 0, 0, []), (1, .iconst 0, 1, 0, 0, 0, []), (2, .putfield 104, 3, 14, 0, 0, []), (5, .iload_n 1, 1, 0, 0, 0, []), (6, .ifCond .lt 11, 3, 17, 0, 0, []), (9, .iload_n 1, 1, 0, 0, 0, []), (10, .aload_n 0, 1, 0, 0, 0, []), (11, .getfield 241, 3, 14, 8, 0, []), (14, .if_icmp .le 9, 3, 23, 0, 0, []), (17, .aload_n 0, 1, 0, 0, 0, []), (18, .iconst 2, 1, 0, 0, 0, []), (19, .invokevirtual 244, 3, 187, 2, 15, []), (22, .ireturn, 1, 0, 0, 0, []), (23, .aload_n 0, 1, 0, 0, 0, []), (24, .iload_n 1, 1, 0, 0, 0, []), (25, .putfield 120, 3, 14, 9, 0, []), (28, .aload_n 0, 1, 0, 0, 0, []), (29, .iconst 0, 1, 0, 0, 0, []), (30, .putfield 241, 3, 14, 8, 0, []), (33, .aload_n 0, 1, 0, 0, 0, []), (34, .iconst 0, 1, 0, 0, 0, []), (35, .putfield 135, 3, 14, 10, 0, []), (38, .aload_n 0, 1, 0, 0, 0, []), (39, .iconst 0, 1, 0, 0, 0, []), (40, .putfield 247, 3, 14, 3, 0, []), (43, .aload_n 0, 1, 0, 0, 0, []), (44, .new 201, 3, 12, 4, 0, []), (47, .dup, 1, 0, 0, 0, []), (48, .invokespecial 250, 3, 188, 1, 13, []), (51, .putfield 196, 3, 14, 5, 2, []), (54, .aload_n 0, 1, 0, 0, 0, []), (55, .invokevirtual 189, 3, 189, 1, 15, []), (58, .aload_n 0, 1, 0, 0, 0, []), (59, .invokevirtual 251, 3, 193, 1, 15, []), (62, .goto 27, 3, 89, 0, 0, []), (65, .astore_n 2, 1, 0, 0, 0, []), (66, .aload_n 0, 1, 0, 0, 0, []), (67, .aload_n 2, 1, 0, 0, 0, []), (68, .getfield 113, 3, 13, 5, 0, []), (71, .putfield 247, 3, 14, 3, 0, []), (74, .aload_n 0, 1, 0, 0, 0, []), (75, .iconst 4, 1, 0, 0, 0, []), (76, .putfield 107, 3, 14, 1, 0, []), (79, .aload_n 0, 1, 0, 0, 0, []), (80, .aload_n 2, 1, 0, 0, 0, []), (81, .getfield 119, 3, 13, 6, 0, []), (84, .putfield 9, 3, 14, 2, 0, []), (87, .iconst (-1), 1, 0, 0, 0, []), (88, .ireturn, 1, 0, 0, 0, []), (89, .aload_n 0, 1, 0, 0, 0, []), (90, .aload_n 0, 1, 0, 0, 0, []), (91, .getfield 196, 3, 14, 5, 2, []), (94, .putfield 254, 3, 14, 4, 2, []), (97, .aload_n 0, 1, 0, 0, 0, []), (98, .iconst 0, 1, 0, 0, 0, []), (99, .iconst 0, 1, 0, 0, 0, []), (100, .invokevirtual 257, 3, 214, 3, 15, []), (103, .aload_n 0, 1, 0, 0, 0, []), (104, .aload_n 0, 1, 0, 0, 0, []), (105, .getfield 254, 3, 14, 4, 2, []), (108, .getfield 206, 3, 12, 0, 0, []), (111, .invokevirtual 261, 3, 215, 2, 15, []), (114, .ireturn, 1, 0, 0, 0, [])]
/-- WholeFieldsModel.refused(I)I -/
def k_WFModel_refused : Cd9 := [(0, .aload_n 0, 1, 0, 0, 0, []), (1, .iload_n 1, 1, 0, 0, 0, []), (2, .putfield 107, 3, 14, 1, 0, []), (5, .aload_n 0, 1, 0, 0, 0, []), (6, .iconst (-1), 1, 0, 0, 0, []), (7, .putfield 9, 3, 14, 2, 0, []), (10, .iconst (-1), 1, 0, 0, 0, []), (11, .ireturn, 1, 0, 0, 0, [])]
/-- WholeFieldsModel$Book.<init>()V -/
def k_WFModel_Book_init : Cd9 := [(0, .aload_n 0, 1, 0, 0, 0, []), (1, .invokespecial 3, 3, 0, 0, 50, []), (4, .aload_n 0, 1, 0, 0, 0, []), (5, .bipush 6, 2, 0, 0, 0, []), (7, .newarray .long, 2, 42, 6, 3, []), (9, .putfield 9, 3, 12, 1, 2, []), (12, .aload_n 0, 1, 0, 0, 0, []), (13, .sipush 288, 3, 0, 0, 0, []), (16, .newarray .int, 2, 33, 288, 0, []), (18, .putfield 15, 3, 12, 2, 2, []), (21, .aload_n 0, 1, 0, 0, 0, []), (22, .bipush 6, 2, 0, 0, 0, []), (24, .newarray .int, 2, 21, 6, 0, []), (26, .putfield 19, 3, 12, 3, 2, []), (29, .return_, 1, 0, 0, 0, [])]
/-- WholeFieldsModel.next()V -/
def k_WFModel_next : Cd9 := [(0, .aload_n 0, 1, 0, 0, 0, []), (1, .aload_n 0, 1, 0, 0, 0, []), (2, .getfield 135, 3, 14, 10, 0, []), (5, .invokevirtual 138, 3, 190, 2, 15, []), (8, .bipush 32, 2, 0, 0, 0, []), (10, .if_icmp .ne 16, 3, 26, 0, 0, []), (13, .aload_n 0, 1, 0, 0, 0, []), (14, .dup, 1, 0, 0, 0, []), (15, .getfield 135, 3, 14, 10, 0, []), (18, .iconst 1, 1, 0, 0, 0, []), (19, .iadd, 1, 0, 0, 0, []), (20, .putfield 135, 3, 14, 10, 0, []), (23, .goto (-23), 3, 0, 0, 0, []), (26, .aload_n 0, 1, 0, 0, 0, []), (27, .aload_n 0, 1, 0, 0, 0, []), (28, .getfield 135, 3, 14, 10, 0, []), (31, .putfield 116, 3, 14, 12, 0, []), (34, .aload_n 0, 1, 0, 0, 0, []), (35, .iconst 0, 1, 0, 0, 0, []), (36, .putfield 142, 3, 14, 11, 0, []), (39, .aload_n 0, 1, 0, 0, 0, []), (40, .iconst 0, 1, 0, 0, 0, []), (41, .putfield 145, 3, 14, 13, 0, []), (44, .aload_n 0, 1, 0, 0, 0, []), (45, .aload_n 0, 1, 0, 0, 0, []), (46, .getfield 135, 3, 14, 10, 0, []), (49, .invokevirtual 138, 3, 190, 2, 15, []), (52, .istore_n 1, 1, 0, 0, 0, []), (53, .iconst 0, 1, 0, 0, 0, []), (54, .istore_n 2, 1, 0, 0, 0, []), (55, .iload_n 1, 1, 0, 0, 0, []), (56, .iconst (-1), 1, 0, 0, 0, []), (57, .if_icmp .ne 11, 3, 68, 0, 0, []), (60, .aload_n 0, 1, 0, 0, 0, []), (61, .iconst 1, 1, 0, 0, 0, []), (62, .putfield 142, 3, 14, 11, 0, []), (65, .goto 237, 3, 302, 0, 0, []), (68, .iload_n 1, 1, 0, 0, 0, []), (69, .invokestatic 148, 3, 191, 1, 0, []), (72, .ifCond .eq 85, 3, 157, 0, 0, []), (75, .aload_n 0, 1, 0, 0, 0, []), (76, .lconst 0, 1, 0, 0, 0, []), (77, .putfield 152, 3, 14, 15, 1, []), (80, .aload_n 0, 1, 0, 0, 0, []), (81, .aload_n 0, 1, 0, 0, 0, []), (82, .getfield 135, 3, 14, 10, 0, []), (85, .invokevirtual 138, 3, 190, 2, 15, []), (88, .invokestatic 148, 3, 191, 1, 0, []), (91, .ifCond .eq 52, 3, 143, 0, 0, []), (94, .iload_n 2, 1, 0, 0, 0, []), (95, .bipush 8, 2, 0, 0, 0, []), (97, .if_icmp .ge 30, 3, 127, 0, 0, []), (100, .aload_n 0, 1, 0, 0, 0, []), (101, .ldc2_w 129, 3, 17, 0, 0, []), (104, .aload_n 0, 1, 0, 0, 0, []), (105, .getfield 152, 3, 14, 15, 1, []), (108, .lmul, 1, 0, 0, 0, []), (109, .aload_n 0, 1, 0, 0, 0, []), (110, .aload_n 0, 1, 0, 0, 0, []), (111, .getfield 135, 3, 14, 10, 0, []), (114, .invokevirtual 138, 3, 190, 2, 15, []), (117, .bipush 97, 2, 0, 0, 0, []), (119, .isub, 1, 0, 0, 0, []), (120, .iconst 1, 1, 0, 0, 0, []), (121, .iadd, 1, 0, 0, 0, []), (122, .i2l, 1, 0, 0, 0, []), (123, .ladd, 1, 0, 0, 0, []), (124, .putfield 152, 3, 14, 15, 1, []), (127, .iinc 2 1, 3, 0, 0, 0, []), (130, .aload_n 0, 1, 0, 0, 0, []), (131, .dup, 1, 0, 0, 0, []), (132, .getfield 135, 3, 14, 10, 0, []), (135, .iconst 1, 1, 0, 0, 0, []), (136, .iadd, 1, 0, 0, 0, []), (137, .putfield 135, 3, 14, 10, 0, []), (140, .goto (-60), 3, 80, 0, 0, []), (143, .iload_n 2, 1, 0, 0, 0, []), (144, .bipush 8, 2, 0, 0, 0, []), (146, .if_icmp .gt 156, 3, 302, 0, 0, []), (149, .aload_n 0, 1, 0, 0, 0, []), (150, .iconst 2, 1, 0, 0, 0, []), (151, .putfield 142, 3, 14, 11, 0, []), (154, .goto 148, 3, 302, 0, 0, []), (157, .iload_n 1, 1, 0, 0, 0, []), (158, .invokestatic 156, 3, 192, 1, 0, []), (161, .ifCond .eq 79, 3, 240, 0, 0, []), (164, .aload_n 0, 1, 0, 0, 0, []), (165, .iconst 0, 1, 0, 0, 0, []), (166, .putfield 159, 3, 14, 14, 0, []), (169, .aload_n 0, 1, 0, 0, 0, []), (170, .aload_n 0, 1, 0, 0, 0, []), (171, .getfield 135, 3, 14, 10, 0, []), (174, .invokevirtual 138, 3, 190, 2, 15, []), (177, .invokestatic 156, 3, 192, 1, 0, []), (180, .ifCond .eq 47, 3, 227, 0, 0, []), (183, .iload_n 2, 1, 0, 0, 0, []), (184, .iconst 3, 1, 0, 0, 0, []), (185, .if_icmp .ge 26, 3, 211, 0, 0, []), (188, .aload_n 0, 1, 0, 0, 0, []), (189, .bipush 10, 2, 0, 0, 0, []), (191, .aload_n 0, 1, 0, 0, 0, []), (192, .getfield 159, 3, 14, 14, 0, []), (195, .imul, 1, 0, 0, 0, []), (196, .aload_n 0, 1, 0, 0, 0, []), (197, .aload_n 0, 1, 0, 0, 0, []), (198, .getfield 135, 3, 14, 10, 0, []), (201, .invokevirtual 138, 3, 190, 2, 15, []), (204, .iadd, 1, 0, 0, 0, []), (205, .bipush 48, 2, 0, 0, 0, []), (207, .isub, 1, 0, 0, 0, []), (208, .putfield 159, 3, 14, 14, 0, []), (211, .iinc 2 1, 3, 0, 0, 0, []), (214, .aload_n 0, 1, 0, 0, 0, []), (215, .dup, 1, 0, 0, 0, []), (216, .getfield 135, 3, 14, 10, 0, []), (219, .iconst 1, 1, 0, 0, 0, []), (220, .iadd, 1, 0, 0, 0, []), (221, .putfield 135, 3, 14, 10, 0, []), (224, .goto (-55), 3, 169, 0, 0, []), (227, .iload_n 2, 1, 0, 0, 0, []), (228, .iconst 4, 1, 0, 0, 0, []), (229, .if_icmp .ge 73, 3, 302, 0, 0, []), (232, .aload_n 0, 1, 0, 0, 0, []), (233, .iconst 3, 1, 0, 0, 0, []), (234, .putfield 142, 3, 14, 11, 0, []), (237, .goto 65, 3, 302, 0, 0, []), (240, .iload_n 1, 1, 0, 0, 0, []), (241, .bipush 59, 2, 0, 0, 0, []), (243, .if_icmp .eq 39, 3, 282, 0, 0, []), (246, .iload_n 1, 1, 0, 0, 0, []), (247, .bipush 44, 2, 0, 0, 0, []), (249, .if_icmp .eq 33, 3, 282, 0, 0, []), (252, .iload_n 1, 1, 0, 0, 0, []), (253, .bipush 43, 2, 0, 0, 0, []), (255, .if_icmp .eq 27, 3, 282, 0, 0, []), (258, .iload_n 1, 1, 0, 0, 0, []), (259, .bipush 45, 2, 0, 0, 0, []), (261, .if_icmp .eq 21, 3, 282, 0, 0, []), (264, .iload_n 1, 1, 0, 0, 0, []), (265, .bipush 42, 2, 0, 0, 0, []), (267, .if_icmp .eq 15, 3, 282, 0, 0, []), (270, .iload_n 1, 1, 0, 0, 0, []), (271, .bipush 40, 2, 0, 0, 0, []), (273, .if_icmp .eq 9, 3, 282, 0, 0, []), (276, .iload_n 1, 1, 0, 0, 0, []), (277, .bipush 41, 2, 0, 0, 0, []), (279, .if_icmp .ne 23, 3, 302, 0, 0, []), (282, .aload_n 0, 1, 0, 0, 0, []), (283, .iconst 4, 1, 0, 0, 0, []), (284, .putfield 142, 3, 14, 11, 0, []), (287, .aload_n 0, 1, 0, 0, 0, []), (288, .iload_n 1, 1, 0, 0, 0, []), (289, .putfield 145, 3, 14, 13, 0, []), (292, .aload_n 0, 1, 0, 0, 0, []), (293, .dup, 1, 0, 0, 0, []), (294, .getfield 135, 3, 14, 10, 0, []), (297, .iconst 1, 1, 0, 0, 0, []), (298, .iadd, 1, 0, 0, 0, []), (299, .putfield 135, 3, 14, 10, 0, []), (302, .return_, 1, 0, 0, 0, [])]
/-- WholeFieldsModel.byteAt(I)I -/
def k_WFModel_byteAt : Cd9 := [(0, .iload_n 1, 1, 0, 0, 0, []), (1, .aload_n 0, 1, 0, 0, 0, []), (2, .getfield 120, 3, 14, 9, 0, []), (5, .if_icmp .ge 16, 3, 21, 0, 0, []), (8, .aload_n 0, 1, 0, 0, 0, []), (9, .getfield 20, 3, 14, 7, 2, []), (12, .iload_n 1, 1, 0, 0, 0, []), (13, .baload, 1, 0, 0, 0, []), (14, .sipush 255, 3, 0, 0, 0, []), (17, .iand, 1, 0, 0, 0, []), (18, .goto 4, 3, 22, 0, 0, []), (21, .iconst (-1), 1, 0, 0, 0, []), (22, .ireturn, 1, 0, 0, 0, [])]
/-- WholeFieldsModel.isLetter(I)Z -/
def k_WFModel_isLetter : Cd9 := [(0, .iload_n 0, 1, 0, 0, 0, []), (1, .bipush 97, 2, 0, 0, 0, []), (3, .if_icmp .lt 13, 3, 16, 0, 0, []), (6, .iload_n 0, 1, 0, 0, 0, []), (7, .bipush 122, 2, 0, 0, 0, []), (9, .if_icmp .gt 7, 3, 16, 0, 0, []), (12, .iconst 1, 1, 0, 0, 0, []), (13, .goto 4, 3, 17, 0, 0, []), (16, .iconst 0, 1, 0, 0, 0, []), (17, .ireturn, 1, 2, 0, 0, [])]
/-- WholeFieldsModel.isDigit(I)Z -/
def k_WFModel_isDigit : Cd9 := [(0, .iload_n 0, 1, 0, 0, 0, []), (1, .bipush 48, 2, 0, 0, 0, []), (3, .if_icmp .lt 13, 3, 16, 0, 0, []), (6, .iload_n 0, 1, 0, 0, 0, []), (7, .bipush 57, 2, 0, 0, 0, []), (9, .if_icmp .gt 7, 3, 16, 0, 0, []), (12, .iconst 1, 1, 0, 0, 0, []), (13, .goto 4, 3, 17, 0, 0, []), (16, .iconst 0, 1, 0, 0, 0, []), (17, .ireturn, 1, 2, 0, 0, [])]
/-- WholeFieldsModel.readBook()V -/
def k_WFModel_readBook : Cd9 := [(0, .iconst 1, 1, 0, 0, 0, []), (1, .istore_n 1, 1, 0, 0, 0, []), (2, .iload_n 1, 1, 0, 0, 0, []), (3, .ifCond .eq 150, 3, 153, 0, 0, []), (6, .aload_n 0, 1, 0, 0, 0, []), (7, .ldc 166, 2, 1, 0, 1, []), (9, .invokevirtual 168, 3, 194, 2, 15, []), (12, .ifCond .ne 9, 3, 21, 0, 0, []), (15, .aload_n 0, 1, 0, 0, 0, []), (16, .iconst 1, 1, 0, 0, 0, []), (17, .invokevirtual 186, 3, 203, 2, 15, []), (20, .athrow, 1, 0, 0, 0, []), (21, .aload_n 0, 1, 0, 0, 0, []), (22, .invokevirtual 189, 3, 189, 1, 15, []), (25, .aload_n 0, 1, 0, 0, 0, []), (26, .invokevirtual 192, 3, 204, 1, 15, []), (29, .ifCond .ne 9, 3, 38, 0, 0, []), (32, .aload_n 0, 1, 0, 0, 0, []), (33, .iconst 1, 1, 0, 0, 0, []), (34, .invokevirtual 186, 3, 203, 2, 15, []), (37, .athrow, 1, 0, 0, 0, []), (38, .aload_n 0, 1, 0, 0, 0, []), (39, .getfield 196, 3, 14, 5, 2, []), (42, .aload_n 0, 1, 0, 0, 0, []), (43, .getfield 152, 3, 14, 15, 1, []), (46, .invokevirtual 200, 3, 206, 2, 13, []), (49, .ifCond .eq 9, 3, 58, 0, 0, []), (52, .aload_n 0, 1, 0, 0, 0, []), (53, .iconst 3, 1, 0, 0, 0, []), (54, .invokevirtual 186, 3, 203, 2, 15, []), (57, .athrow, 1, 0, 0, 0, []), (58, .aload_n 0, 1, 0, 0, 0, []), (59, .getfield 196, 3, 14, 5, 2, []), (62, .getfield 206, 3, 12, 0, 0, []), (65, .bipush 6, 2, 0, 0, 0, []), (67, .if_icmp .ne 9, 3, 76, 0, 0, []), (70, .aload_n 0, 1, 0, 0, 0, []), (71, .iconst 5, 1, 0, 0, 0, []), (72, .invokevirtual 186, 3, 203, 2, 15, []), (75, .athrow, 1, 0, 0, 0, []), (76, .aload_n 0, 1, 0, 0, 0, []), (77, .getfield 196, 3, 14, 5, 2, []), (80, .getfield 209, 3, 12, 1, 2, []), (83, .aload_n 0, 1, 0, 0, 0, []), (84, .getfield 196, 3, 14, 5, 2, []), (87, .getfield 206, 3, 12, 0, 0, []), (90, .aload_n 0, 1, 0, 0, 0, []), (91, .getfield 152, 3, 14, 15, 1, []), (94, .lastore, 1, 0, 0, 0, []), (95, .aload_n 0, 1, 0, 0, 0, []), (96, .invokevirtual 189, 3, 189, 1, 15, []), (99, .aload_n 0, 1, 0, 0, 0, []), (100, .ldc 172, 2, 2, 0, 1, []), (102, .invokevirtual 168, 3, 194, 2, 15, []), (105, .ifCond .ne 9, 3, 114, 0, 0, []), (108, .aload_n 0, 1, 0, 0, 0, []), (109, .iconst 1, 1, 0, 0, 0, []), (110, .invokevirtual 186, 3, 203, 2, 15, []), (113, .athrow, 1, 0, 0, 0, []), (114, .aload_n 0, 1, 0, 0, 0, []), (115, .invokevirtual 189, 3, 189, 1, 15, []), (118, .aload_n 0, 1, 0, 0, 0, []), (119, .invokevirtual 213, 3, 207, 1, 15, []), (122, .aload_n 0, 1, 0, 0, 0, []), (123, .getfield 196, 3, 14, 5, 2, []), (126, .dup, 1, 0, 0, 0, []), (127, .getfield 206, 3, 12, 0, 0, []), (130, .iconst 1, 1, 0, 0, 0, []), (131, .iadd, 1, 0, 0, 0, []), (132, .putfield 206, 3, 12, 0, 0, []), (135, .aload_n 0, 1, 0, 0, 0, []), (136, .bipush 59, 2, 0, 0, 0, []), (138, .invokevirtual 216, 3, 210, 2, 15, []), (141, .istore_n 1, 1, 0, 0, 0, []), (142, .iload_n 1, 1, 0, 0, 0, []), (143, .ifCond .eq (-141), 3, 2, 0, 0, []), (146, .aload_n 0, 1, 0, 0, 0, []), (147, .invokevirtual 189, 3, 189, 1, 15, []), (150, .goto (-148), 3, 2, 0, 0, []), (153, .aload_n 0, 1, 0, 0, 0, []), (154, .getfield 142, 3, 14, 11, 0, []), (157, .iconst 1, 1, 0, 0, 0, []), (158, .if_icmp .eq 9, 3, 167, 0, 0, []), (161, .aload_n 0, 1, 0, 0, 0, []), (162, .iconst 1, 1, 0, 0, 0, []), (163, .invokevirtual 186, 3, 203, 2, 15, []), (166, .athrow, 1, 0, 0, 0, []), (167, .return_, 1, 0, 0, 0, [])]
/-- WholeFieldsModel.isWord(Ljava/lang/String;)Z -/
def k_WFModel_isWord : Cd9 := [(0, .aload_n 0, 1, 0, 0, 0, []), (1, .getfield 142, 3, 14, 11, 0, []), (4, .iconst 2, 1, 0, 0, 0, []), (5, .if_icmp .ne 19, 3, 24, 0, 0, []), (8, .aload_n 0, 1, 0, 0, 0, []), (9, .getfield 152, 3, 14, 15, 1, []), (12, .aload_n 1, 1, 0, 0, 0, []), (13, .invokestatic 162, 3, 195, 1, 0, []), (16, .lcmp, 1, 0, 0, 0, []), (17, .ifCond .ne 7, 3, 24, 0, 0, []), (20, .iconst 1, 1, 0, 0, 0, []), (21, .goto 4, 3, 25, 0, 0, []), (24, .iconst 0, 1, 0, 0, 0, []), (25, .ireturn, 1, 2, 0, 0, [])]
/-- WholeFieldsModel.wordOf(Ljava/lang/String;)J -/
def k_WFModel_wordOf : Cd9 := [(0, .lconst 0, 1, 0, 0, 0, []), (1, .lstore_n 1, 1, 0, 0, 0, []), (2, .iconst 0, 1, 0, 0, 0, []), (3, .istore_n 3, 1, 0, 0, 0, []), (4, .iload_n 3, 1, 0, 0, 0, []), (5, .aload_n 0, 1, 0, 0, 0, []), (6, .invokevirtual 123, 3, 196, 1, 81, []), (9, .if_icmp .ge 27, 3, 36, 0, 0, []), (12, .ldc2_w 129, 3, 17, 0, 0, []), (15, .lload_n 1, 1, 0, 0, 0, []), (16, .lmul, 1, 0, 0, 0, []), (17, .aload_n 0, 1, 0, 0, 0, []), (18, .iload_n 3, 1, 0, 0, 0, []), (19, .invokevirtual 131, 3, 198, 2, 81, []), (22, .bipush 97, 2, 0, 0, 0, []), (24, .isub, 1, 0, 0, 0, []), (25, .iconst 1, 1, 0, 0, 0, []), (26, .iadd, 1, 0, 0, 0, []), (27, .i2l, 1, 0, 0, 0, []), (28, .ladd, 1, 0, 0, 0, []), (29, .lstore_n 1, 1, 0, 0, 0, []), (30, .iinc 3 1, 3, 0, 0, 0, []), (33, .goto (-29), 3, 4, 0, 0, []), (36, .lload_n 1, 1, 0, 0, 0, []), (37, .lreturn, 1, 0, 0, 0, [])]
/-- java/lang/String.length()I -/
def k_String_length : Cd9 := [(0, .aload_n 0, 1, 0, 0, 0, []), (1, .getfield 9, 3, 80, 0, 2, []), (4, .arraylength, 1, 0, 0, 0, []), (5, .aload_n 0, 1, 0, 0, 0, []), (6, .invokevirtual 335, 3, 197, 1, 81, []), (9, .ishr, 1, 0, 0, 0, []), (10, .ireturn, 1, 0, 0, 0, [])]
/-- java/lang/String.coder()B -/
def k_String_coder : Cd9 := [(0, .getstatic 38, 3, 0, 1, 0, []), (3, .ifCond .eq 10, 3, 13, 0, 0, []), (6, .aload_n 0, 1, 0, 0, 0, []), (7, .getfield 15, 3, 80, 1, 0, []), (10, .goto 4, 3, 14, 0, 0, []), (13, .iconst 1, 1, 0, 0, 0, []), (14, .ireturn, 1, 1, 0, 0, [])]
/-- java/lang/String.charAt(I)C -/
def k_String_charAt : Cd9 := [(0, .aload_n 0, 1, 0, 0, 0, []), (1, .invokevirtual 492, 3, 199, 1, 81, []), (4, .ifCond .eq 12, 3, 16, 0, 0, []), (7, .aload_n 0, 1, 0, 0, 0, []), (8, .getfield 9, 3, 80, 0, 2, []), (11, .iload_n 1, 1, 0, 0, 0, []), (12, .invokestatic 495, 3, 200, 2, 0, []), (15, .ireturn, 1, 4, 0, 0, []), (16, .aload_n 0, 1, 0, 0, 0, []), (17, .getfield 9, 3, 80, 0, 2, []), (20, .iload_n 1, 1, 0, 0, 0, []), (21, .invokestatic 498, 3, 0, 0, 99, []), (24, .ireturn, 1, 4, 0, 0, [])]
/-- java/lang/String.isLatin1()Z -/
def k_String_isLatin1 : Cd9 := [(0, .getstatic 38, 3, 0, 1, 0, []), (3, .ifCond .eq 14, 3, 17, 0, 0, []), (6, .aload_n 0, 1, 0, 0, 0, []), (7, .getfield 15, 3, 80, 1, 0, []), (10, .ifCond .ne 7, 3, 17, 0, 0, []), (13, .iconst 1, 1, 0, 0, 0, []), (14, .goto 4, 3, 18, 0, 0, []), (17, .iconst 0, 1, 0, 0, 0, []), (18, .ireturn, 1, 2, 0, 0, [])]
/-- java/lang/StringLatin1.charAt([BI)C -/
def k_StringLatin1_charAt : Cd9 := [(0, .iload_n 1, 1, 0, 0, 0, []), (1, .aload_n 0, 1, 0, 0, 0, []), (2, .arraylength, 1, 0, 0, 0, []), (3, .invokestatic 9, 3, 201, 2, 0, []), (6, .aload_n 0, 1, 0, 0, 0, []), (7, .iload_n 1, 1, 0, 0, 0, []), (8, .baload, 1, 0, 0, 0, []), (9, .sipush 255, 3, 0, 0, 0, []), (12, .iand, 1, 0, 0, 0, []), (13, .i2c, 1, 0, 0, 0, []), (14, .ireturn, 1, 4, 0, 0, [])]
/-- java/lang/String.checkIndex(II)V -/
def k_String_checkIndex : Cd9 := [(0, .iload_n 0, 1, 0, 0, 0, []), (1, .iload_n 1, 1, 0, 0, 0, []), (2, .getstatic 1053, 3, 0, 0, 3, []), (5, .invokestatic 1059, 3, 202, 3, 0, []), (8, .pop, 1, 0, 0, 0, []), (9, .return_, 1, 0, 0, 0, [])]
/-- jdk/internal/util/Preconditions.checkIndex(IILjava/util/function/BiFunction;)I -/
def k_Preconditions_checkIndex : Cd9 := [(0, .iload_n 0, 1, 0, 0, 0, []), (1, .ifCond .lt 8, 3, 9, 0, 0, []), (4, .iload_n 0, 1, 0, 0, 0, []), (5, .iload_n 1, 1, 0, 0, 0, []), (6, .if_icmp .lt 10, 3, 16, 0, 0, []), (9, .aload_n 2, 1, 0, 0, 0, []), (10, .iload_n 0, 1, 0, 0, 0, []), (11, .iload_n 1, 1, 0, 0, 0, []), (12, .invokestatic 95, 3, 0, 0, 99, []), (15, .athrow, 1, 0, 0, 0, []), (16, .iload_n 0, 1, 0, 0, 0, []), (17, .ireturn, 1, 0, 0, 0, [])]
/-- WholeFieldsModel.stop(I)LWholeFieldsModel$Stop; -/
def k_WFModel_stop : Cd9 := [(0, .aload_n 0, 1, 0, 0, 0, []), (1, .getfield 16, 3, 14, 6, 2, []), (4, .iload_n 1, 1, 0, 0, 0, []), (5, .putfield 113, 3, 13, 5, 0, []), (8, .aload_n 0, 1, 0, 0, 0, []), (9, .getfield 16, 3, 14, 6, 2, []), (12, .aload_n 0, 1, 0, 0, 0, []), (13, .getfield 116, 3, 14, 12, 0, []), (16, .putfield 119, 3, 13, 6, 0, []), (19, .aload_n 0, 1, 0, 0, 0, []), (20, .getfield 16, 3, 14, 6, 2, []), (23, .areturn, 1, 0, 0, 0, [])]
/-- WholeFieldsModel.isName()Z -/
def k_WFModel_isName : Cd9 := [(0, .aload_n 0, 1, 0, 0, 0, []), (1, .getfield 142, 3, 14, 11, 0, []), (4, .iconst 2, 1, 0, 0, 0, []), (5, .if_icmp .ne 51, 3, 56, 0, 0, []), (8, .aload_n 0, 1, 0, 0, 0, []), (9, .ldc 166, 2, 1, 0, 1, []), (11, .invokevirtual 168, 3, 194, 2, 15, []), (14, .ifCond .ne 42, 3, 56, 0, 0, []), (17, .aload_n 0, 1, 0, 0, 0, []), (18, .ldc 172, 2, 2, 0, 1, []), (20, .invokevirtual 168, 3, 194, 2, 15, []), (23, .ifCond .ne 33, 3, 56, 0, 0, []), (26, .aload_n 0, 1, 0, 0, 0, []), (27, .invokevirtual 173, 3, 205, 1, 15, []), (30, .iconst (-1), 1, 0, 0, 0, []), (31, .if_icmp .ne 25, 3, 56, 0, 0, []), (34, .aload_n 0, 1, 0, 0, 0, []), (35, .ldc 176, 2, 7, 0, 1, []), (37, .invokevirtual 168, 3, 194, 2, 15, []), (40, .ifCond .ne 16, 3, 56, 0, 0, []), (43, .aload_n 0, 1, 0, 0, 0, []), (44, .ldc 178, 2, 8, 0, 1, []), (46, .invokevirtual 168, 3, 194, 2, 15, []), (49, .ifCond .ne 7, 3, 56, 0, 0, []), (52, .iconst 1, 1, 0, 0, 0, []), (53, .goto 4, 3, 57, 0, 0, []), (56, .iconst 0, 1, 0, 0, 0, []), (57, .ireturn, 1, 2, 0, 0, [])]
/-- WholeFieldsModel.thing()I -/
def k_WFModel_thing : Cd9 := [(0, .aload_n 0, 1, 0, 0, 0, []), (1, .ldc 180, 2, 3, 0, 1, []), (3, .invokevirtual 168, 3, 194, 2, 15, []), (6, .ifCond .eq 8, 3, 14, 0, 0, []), (9, .bipush 100, 2, 0, 0, 0, []), (11, .goto 46, 3, 57, 0, 0, []), (14, .aload_n 0, 1, 0, 0, 0, []), (15, .ldc 181, 2, 4, 0, 1, []), (17, .invokevirtual 168, 3, 194, 2, 15, []), (20, .ifCond .eq 8, 3, 28, 0, 0, []), (23, .bipush 101, 2, 0, 0, 0, []), (25, .goto 32, 3, 57, 0, 0, []), (28, .aload_n 0, 1, 0, 0, 0, []), (29, .ldc 182, 2, 5, 0, 1, []), (31, .invokevirtual 168, 3, 194, 2, 15, []), (34, .ifCond .eq 8, 3, 42, 0, 0, []), (37, .bipush 102, 2, 0, 0, 0, []), (39, .goto 18, 3, 57, 0, 0, []), (42, .aload_n 0, 1, 0, 0, 0, []), (43, .ldc 184, 2, 6, 0, 1, []), (45, .invokevirtual 168, 3, 194, 2, 15, []), (48, .ifCond .eq 8, 3, 56, 0, 0, []), (51, .bipush 103, 2, 0, 0, 0, []), (53, .goto 4, 3, 57, 0, 0, []), (56, .iconst (-1), 1, 0, 0, 0, []), (57, .ireturn, 1, 0, 0, 0, [])]
/-- WholeFieldsModel$Book.has(J)Z -/
def k_WFModel_Book_has : Cd9 := [(0, .iconst 0, 1, 0, 0, 0, []), (1, .istore_n 3, 1, 0, 0, 0, []), (2, .iload_n 3, 1, 0, 0, 0, []), (3, .aload_n 0, 1, 0, 0, 0, []), (4, .getfield 22, 3, 12, 0, 0, []), (7, .if_icmp .ge 22, 3, 29, 0, 0, []), (10, .aload_n 0, 1, 0, 0, 0, []), (11, .getfield 9, 3, 12, 1, 2, []), (14, .iload_n 3, 1, 0, 0, 0, []), (15, .laload, 1, 0, 0, 0, []), (16, .lload_n 1, 1, 0, 0, 0, []), (17, .lcmp, 1, 0, 0, 0, []), (18, .ifCond .ne 5, 3, 23, 0, 0, []), (21, .iconst 1, 1, 0, 0, 0, []), (22, .ireturn, 1, 2, 0, 0, []), (23, .iinc 3 1, 3, 0, 0, 0, []), (26, .goto (-24), 3, 2, 0, 0, []), (29, .iconst 0, 1, 0, 0, 0, []), (30, .ireturn, 1, 2, 0, 0, [])]
/-- WholeFieldsModel.readWorth()V -/
def k_WFModel_readWorth : Cd9 := [(0, .aload_n 0, 1, 0, 0, 0, []), (1, .iconst 0, 1, 0, 0, 0, []), (2, .putfield 219, 3, 14, 20, 0, []), (5, .aload_n 0, 1, 0, 0, 0, []), (6, .iconst 0, 1, 0, 0, 0, []), (7, .putfield 226, 3, 14, 21, 0, []), (10, .aload_n 0, 1, 0, 0, 0, []), (11, .iconst 0, 1, 0, 0, 0, []), (12, .invokevirtual 222, 3, 208, 2, 15, []), (15, .iconst 1, 1, 0, 0, 0, []), (16, .istore_n 1, 1, 0, 0, 0, []), (17, .iload_n 1, 1, 0, 0, 0, []), (18, .ifCond .eq 29, 3, 47, 0, 0, []), (21, .aload_n 0, 1, 0, 0, 0, []), (22, .invokevirtual 229, 3, 209, 1, 15, []), (25, .ifCond .ne 6, 3, 31, 0, 0, []), (28, .goto (-11), 3, 17, 0, 0, []), (31, .aload_n 0, 1, 0, 0, 0, []), (32, .invokevirtual 232, 3, 213, 1, 15, []), (35, .ifCond .ne 7, 3, 42, 0, 0, []), (38, .iconst 1, 1, 0, 0, 0, []), (39, .goto 4, 3, 43, 0, 0, []), (42, .iconst 0, 1, 0, 0, 0, []), (43, .istore_n 1, 1, 0, 0, 0, []), (44, .goto (-27), 3, 17, 0, 0, []), (47, .return_, 1, 0, 0, 0, [])]
/-- WholeFieldsModel.begins(I)V -/
def k_WFModel_begins : Cd9 := [(0, .aload_n 0, 1, 0, 0, 0, []), (1, .getfield 24, 3, 14, 16, 2, []), (4, .aload_n 0, 1, 0, 0, 0, []), (5, .getfield 219, 3, 14, 20, 0, []), (8, .iload_n 1, 1, 0, 0, 0, []), (9, .iastore, 1, 0, 0, 0, []), (10, .aload_n 0, 1, 0, 0, 0, []), (11, .getfield 28, 3, 14, 17, 2, []), (14, .aload_n 0, 1, 0, 0, 0, []), (15, .getfield 219, 3, 14, 20, 0, []), (18, .iconst 0, 1, 0, 0, 0, []), (19, .iastore, 1, 0, 0, 0, []), (20, .aload_n 0, 1, 0, 0, 0, []), (21, .getfield 31, 3, 14, 18, 2, []), (24, .aload_n 0, 1, 0, 0, 0, []), (25, .getfield 219, 3, 14, 20, 0, []), (28, .iconst 0, 1, 0, 0, 0, []), (29, .iastore, 1, 0, 0, 0, []), (30, .aload_n 0, 1, 0, 0, 0, []), (31, .getfield 34, 3, 14, 19, 2, []), (34, .aload_n 0, 1, 0, 0, 0, []), (35, .getfield 219, 3, 14, 20, 0, []), (38, .iconst 0, 1, 0, 0, 0, []), (39, .bastore, 1, 0, 0, 0, []), (40, .return_, 1, 0, 0, 0, [])]
/-- WholeFieldsModel.readFactor()Z -/
def k_WFModel_readFactor : Cd9 := [(0, .aload_n 0, 1, 0, 0, 0, []), (1, .ldc 176, 2, 7, 0, 1, []), (3, .invokevirtual 168, 3, 194, 2, 15, []), (6, .ifCond .ne 12, 3, 18, 0, 0, []), (9, .aload_n 0, 1, 0, 0, 0, []), (10, .ldc 178, 2, 8, 0, 1, []), (12, .invokevirtual 168, 3, 194, 2, 15, []), (15, .ifCond .eq 7, 3, 22, 0, 0, []), (18, .iconst 1, 1, 0, 0, 0, []), (19, .goto 4, 3, 23, 0, 0, []), (22, .iconst 0, 1, 0, 0, 0, []), (23, .istore_n 1, 1, 0, 0, 0, []), (24, .aload_n 0, 1, 0, 0, 0, []), (25, .getfield 142, 3, 14, 11, 0, []), (28, .iconst 3, 1, 0, 0, 0, []), (29, .if_icmp .eq 30, 3, 59, 0, 0, []), (32, .aload_n 0, 1, 0, 0, 0, []), (33, .invokevirtual 173, 3, 205, 1, 15, []), (36, .iconst (-1), 1, 0, 0, 0, []), (37, .if_icmp .ne 22, 3, 59, 0, 0, []), (40, .iload_n 1, 1, 0, 0, 0, []), (41, .ifCond .ne 18, 3, 59, 0, 0, []), (44, .aload_n 0, 1, 0, 0, 0, []), (45, .bipush 40, 2, 0, 0, 0, []), (47, .invokevirtual 216, 3, 210, 2, 15, []), (50, .ifCond .ne 9, 3, 59, 0, 0, []), (53, .aload_n 0, 1, 0, 0, 0, []), (54, .iconst 1, 1, 0, 0, 0, []), (55, .invokevirtual 186, 3, 203, 2, 15, []), (58, .athrow, 1, 0, 0, 0, []), (59, .aload_n 0, 1, 0, 0, 0, []), (60, .getfield 142, 3, 14, 11, 0, []), (63, .iconst 3, 1, 0, 0, 0, []), (64, .if_icmp .ne 18, 3, 82, 0, 0, []), (67, .aload_n 0, 1, 0, 0, 0, []), (68, .getfield 159, 3, 14, 14, 0, []), (71, .bipush 99, 2, 0, 0, 0, []), (73, .if_icmp .le 9, 3, 82, 0, 0, []), (76, .aload_n 0, 1, 0, 0, 0, []), (77, .iconst 4, 1, 0, 0, 0, []), (78, .invokevirtual 186, 3, 203, 2, 15, []), (81, .athrow, 1, 0, 0, 0, []), (82, .aload_n 0, 1, 0, 0, 0, []), (83, .getfield 226, 3, 14, 21, 0, []), (86, .bipush 20, 2, 0, 0, 0, []), (88, .if_icmp .ne 9, 3, 97, 0, 0, []), (91, .aload_n 0, 1, 0, 0, 0, []), (92, .iconst 5, 1, 0, 0, 0, []), (93, .invokevirtual 186, 3, 203, 2, 15, []), (96, .athrow, 1, 0, 0, 0, []), (97, .aload_n 0, 1, 0, 0, 0, []), (98, .dup, 1, 0, 0, 0, []), (99, .getfield 226, 3, 14, 21, 0, []), (102, .iconst 1, 1, 0, 0, 0, []), (103, .iadd, 1, 0, 0, 0, []), (104, .putfield 226, 3, 14, 21, 0, []), (107, .iload_n 1, 1, 0, 0, 0, []), (108, .ifCond .eq 31, 3, 139, 0, 0, []), (111, .aload_n 0, 1, 0, 0, 0, []), (112, .ldc 176, 2, 7, 0, 1, []), (114, .invokevirtual 168, 3, 194, 2, 15, []), (117, .ifCond .eq 8, 3, 125, 0, 0, []), (120, .bipush 113, 2, 0, 0, 0, []), (122, .goto 5, 3, 127, 0, 0, []), (125, .bipush 114, 2, 0, 0, 0, []), (127, .istore_n 2, 1, 0, 0, 0, []), (128, .aload_n 0, 1, 0, 0, 0, []), (129, .invokevirtual 189, 3, 189, 1, 15, []), (132, .aload_n 0, 1, 0, 0, 0, []), (133, .iload_n 2, 1, 0, 0, 0, []), (134, .invokevirtual 235, 3, 211, 2, 15, []), (137, .iconst 0, 1, 0, 0, 0, []), (138, .ireturn, 1, 2, 0, 0, []), (139, .aload_n 0, 1, 0, 0, 0, []), (140, .bipush 40, 2, 0, 0, 0, []), (142, .invokevirtual 216, 3, 210, 2, 15, []), (145, .ifCond .eq 10, 3, 155, 0, 0, []), (148, .aload_n 0, 1, 0, 0, 0, []), (149, .iconst 0, 1, 0, 0, 0, []), (150, .invokevirtual 235, 3, 211, 2, 15, []), (153, .iconst 0, 1, 0, 0, 0, []), (154, .ireturn, 1, 2, 0, 0, []), (155, .aload_n 0, 1, 0, 0, 0, []), (156, .getfield 196, 3, 14, 5, 2, []), (159, .aload_n 0, 1, 0, 0, 0, []), (160, .getfield 142, 3, 14, 11, 0, []), (163, .iconst 3, 1, 0, 0, 0, []), (164, .if_icmp .ne 10, 3, 174, 0, 0, []), (167, .aload_n 0, 1, 0, 0, 0, []), (168, .getfield 159, 3, 14, 14, 0, []), (171, .goto 7, 3, 178, 0, 0, []), (174, .aload_n 0, 1, 0, 0, 0, []), (175, .invokevirtual 173, 3, 205, 1, 15, []), (178, .invokevirtual 238, 3, 212, 2, 13, []), (181, .aload_n 0, 1, 0, 0, 0, []), (182, .invokevirtual 189, 3, 189, 1, 15, []), (185, .iconst 1, 1, 0, 0, 0, []), (186, .ireturn, 1, 2, 0, 0, [])]
/-- WholeFieldsModel.is(I)Z -/
def k_WFModel_is : Cd9 := [(0, .aload_n 0, 1, 0, 0, 0, []), (1, .getfield 142, 3, 14, 11, 0, []), (4, .iconst 4, 1, 0, 0, 0, []), (5, .if_icmp .ne 15, 3, 20, 0, 0, []), (8, .aload_n 0, 1, 0, 0, 0, []), (9, .getfield 145, 3, 14, 13, 0, []), (12, .iload_n 1, 1, 0, 0, 0, []), (13, .if_icmp .ne 7, 3, 20, 0, 0, []), (16, .iconst 1, 1, 0, 0, 0, []), (17, .goto 4, 3, 21, 0, 0, []), (20, .iconst 0, 1, 0, 0, 0, []), (21, .ireturn, 1, 2, 0, 0, [])]
/-- WholeFieldsModel.opens(I)V -/
def k_WFModel_opens : Cd9 := [(0, .aload_n 0, 1, 0, 0, 0, []), (1, .bipush 40, 2, 0, 0, 0, []), (3, .invokevirtual 216, 3, 210, 2, 15, []), (6, .ifCond .ne 9, 3, 15, 0, 0, []), (9, .aload_n 0, 1, 0, 0, 0, []), (10, .iconst 1, 1, 0, 0, 0, []), (11, .invokevirtual 186, 3, 203, 2, 15, []), (14, .athrow, 1, 0, 0, 0, []), (15, .aload_n 0, 1, 0, 0, 0, []), (16, .getfield 219, 3, 14, 20, 0, []), (19, .iconst 5, 1, 0, 0, 0, []), (20, .if_icmp .ne 9, 3, 29, 0, 0, []), (23, .aload_n 0, 1, 0, 0, 0, []), (24, .iconst 5, 1, 0, 0, 0, []), (25, .invokevirtual 186, 3, 203, 2, 15, []), (28, .athrow, 1, 0, 0, 0, []), (29, .aload_n 0, 1, 0, 0, 0, []), (30, .invokevirtual 189, 3, 189, 1, 15, []), (33, .aload_n 0, 1, 0, 0, 0, []), (34, .dup, 1, 0, 0, 0, []), (35, .getfield 219, 3, 14, 20, 0, []), (38, .iconst 1, 1, 0, 0, 0, []), (39, .iadd, 1, 0, 0, 0, []), (40, .putfield 219, 3, 14, 20, 0, []), (43, .aload_n 0, 1, 0, 0, 0, []), (44, .iload_n 1, 1, 0, 0, 0, []), (45, .invokevirtual 222, 3, 208, 2, 15, []), (48, .return_, 1, 0, 0, 0, [])]
/-- WholeFieldsModel$Book.adds(I)V -/
def k_WFModel_Book_adds : Cd9 := [(0, .aload_n 0, 1, 0, 0, 0, []), (1, .getfield 15, 3, 12, 2, 2, []), (4, .bipush 48, 2, 0, 0, 0, []), (6, .aload_n 0, 1, 0, 0, 0, []), (7, .getfield 22, 3, 12, 0, 0, []), (10, .imul, 1, 0, 0, 0, []), (11, .aload_n 0, 1, 0, 0, 0, []), (12, .getfield 19, 3, 12, 3, 2, []), (15, .aload_n 0, 1, 0, 0, 0, []), (16, .getfield 22, 3, 12, 0, 0, []), (19, .iaload, 1, 0, 0, 0, []), (20, .iadd, 1, 0, 0, 0, []), (21, .iload_n 1, 1, 0, 0, 0, []), (22, .iastore, 1, 0, 0, 0, []), (23, .aload_n 0, 1, 0, 0, 0, []), (24, .getfield 19, 3, 12, 3, 2, []), (27, .aload_n 0, 1, 0, 0, 0, []), (28, .getfield 22, 3, 12, 0, 0, []), (31, .dup2, 1, 0, 0, 0, []), (32, .iaload, 1, 0, 0, 0, []), (33, .iconst 1, 1, 0, 0, 0, []), (34, .iadd, 1, 0, 0, 0, []), (35, .iastore, 1, 0, 0, 0, []), (36, .return_, 1, 0, 0, 0, [])]
/-- WholeFieldsModel.isOver()Z -/
def k_WFModel_isOver : Cd9 := [(0, .aload_n 0, 1, 0, 0, 0, []), (1, .getfield 34, 3, 14, 19, 2, []), (4, .aload_n 0, 1, 0, 0, 0, []), (5, .getfield 219, 3, 14, 20, 0, []), (8, .baload, 1, 0, 0, 0, []), (9, .ifCond .eq 12, 3, 21, 0, 0, []), (12, .aload_n 0, 1, 0, 0, 0, []), (13, .getfield 196, 3, 14, 5, 2, []), (16, .bipush 112, 2, 0, 0, 0, []), (18, .invokevirtual 238, 3, 212, 2, 13, []), (21, .aload_n 0, 1, 0, 0, 0, []), (22, .getfield 34, 3, 14, 19, 2, []), (25, .aload_n 0, 1, 0, 0, 0, []), (26, .getfield 219, 3, 14, 20, 0, []), (29, .aload_n 0, 1, 0, 0, 0, []), (30, .bipush 42, 2, 0, 0, 0, []), (32, .invokevirtual 216, 3, 210, 2, 15, []), (35, .bastore, 1, 0, 0, 0, []), (36, .aload_n 0, 1, 0, 0, 0, []), (37, .getfield 34, 3, 14, 19, 2, []), (40, .aload_n 0, 1, 0, 0, 0, []), (41, .getfield 219, 3, 14, 20, 0, []), (44, .baload, 1, 0, 0, 0, []), (45, .ifCond .eq 9, 3, 54, 0, 0, []), (48, .aload_n 0, 1, 0, 0, 0, []), (49, .invokevirtual 189, 3, 189, 1, 15, []), (52, .iconst 0, 1, 0, 0, 0, []), (53, .ireturn, 1, 2, 0, 0, []), (54, .aload_n 0, 1, 0, 0, 0, []), (55, .getfield 31, 3, 14, 18, 2, []), (58, .aload_n 0, 1, 0, 0, 0, []), (59, .getfield 219, 3, 14, 20, 0, []), (62, .iaload, 1, 0, 0, 0, []), (63, .ifCond .eq 19, 3, 82, 0, 0, []), (66, .aload_n 0, 1, 0, 0, 0, []), (67, .getfield 196, 3, 14, 5, 2, []), (70, .aload_n 0, 1, 0, 0, 0, []), (71, .getfield 31, 3, 14, 18, 2, []), (74, .aload_n 0, 1, 0, 0, 0, []), (75, .getfield 219, 3, 14, 20, 0, []), (78, .iaload, 1, 0, 0, 0, []), (79, .invokevirtual 238, 3, 212, 2, 13, []), (82, .aload_n 0, 1, 0, 0, 0, []), (83, .getfield 31, 3, 14, 18, 2, []), (86, .aload_n 0, 1, 0, 0, 0, []), (87, .getfield 219, 3, 14, 20, 0, []), (90, .aload_n 0, 1, 0, 0, 0, []), (91, .bipush 43, 2, 0, 0, 0, []), (93, .invokevirtual 216, 3, 210, 2, 15, []), (96, .ifCond .eq 8, 3, 104, 0, 0, []), (99, .bipush 110, 2, 0, 0, 0, []), (101, .goto 18, 3, 119, 0, 0, []), (104, .aload_n 0, 1, 0, 0, 0, []), (105, .bipush 45, 2, 0, 0, 0, []), (107, .invokevirtual 216, 3, 210, 2, 15, []), (110, .ifCond .eq 8, 3, 118, 0, 0, []), (113, .bipush 111, 2, 0, 0, 0, []), (115, .goto 4, 3, 119, 0, 0, []), (118, .iconst 0, 1, 0, 0, 0, []), (119, .iastore, 1, 0, 0, 0, []), (120, .aload_n 0, 1, 0, 0, 0, []), (121, .getfield 31, 3, 14, 18, 2, []), (124, .aload_n 0, 1, 0, 0, 0, []), (125, .getfield 219, 3, 14, 20, 0, []), (128, .iaload, 1, 0, 0, 0, []), (129, .ifCond .eq 9, 3, 138, 0, 0, []), (132, .aload_n 0, 1, 0, 0, 0, []), (133, .invokevirtual 189, 3, 189, 1, 15, []), (136, .iconst 0, 1, 0, 0, 0, []), (137, .ireturn, 1, 2, 0, 0, []), (138, .aload_n 0, 1, 0, 0, 0, []), (139, .getfield 219, 3, 14, 20, 0, []), (142, .ifCond .ne 5, 3, 147, 0, 0, []), (145, .iconst 1, 1, 0, 0, 0, []), (146, .ireturn, 1, 2, 0, 0, []), (147, .aload_n 0, 1, 0, 0, 0, []), (148, .getfield 24, 3, 14, 16, 2, []), (151, .aload_n 0, 1, 0, 0, 0, []), (152, .getfield 219, 3, 14, 20, 0, []), (155, .iaload, 1, 0, 0, 0, []), (156, .ifCond .eq 46, 3, 202, 0, 0, []), (159, .aload_n 0, 1, 0, 0, 0, []), (160, .getfield 28, 3, 14, 17, 2, []), (163, .aload_n 0, 1, 0, 0, 0, []), (164, .getfield 219, 3, 14, 20, 0, []), (167, .iaload, 1, 0, 0, 0, []), (168, .ifCond .ne 34, 3, 202, 0, 0, []), (171, .aload_n 0, 1, 0, 0, 0, []), (172, .bipush 44, 2, 0, 0, 0, []), (174, .invokevirtual 216, 3, 210, 2, 15, []), (177, .ifCond .ne 9, 3, 186, 0, 0, []), (180, .aload_n 0, 1, 0, 0, 0, []), (181, .iconst 1, 1, 0, 0, 0, []), (182, .invokevirtual 186, 3, 203, 2, 15, []), (185, .athrow, 1, 0, 0, 0, []), (186, .aload_n 0, 1, 0, 0, 0, []), (187, .invokevirtual 189, 3, 189, 1, 15, []), (190, .aload_n 0, 1, 0, 0, 0, []), (191, .getfield 28, 3, 14, 17, 2, []), (194, .aload_n 0, 1, 0, 0, 0, []), (195, .getfield 219, 3, 14, 20, 0, []), (198, .iconst 1, 1, 0, 0, 0, []), (199, .iastore, 1, 0, 0, 0, []), (200, .iconst 0, 1, 0, 0, 0, []), (201, .ireturn, 1, 2, 0, 0, []), (202, .aload_n 0, 1, 0, 0, 0, []), (203, .bipush 41, 2, 0, 0, 0, []), (205, .invokevirtual 216, 3, 210, 2, 15, []), (208, .ifCond .ne 9, 3, 217, 0, 0, []), (211, .aload_n 0, 1, 0, 0, 0, []), (212, .iconst 1, 1, 0, 0, 0, []), (213, .invokevirtual 186, 3, 203, 2, 15, []), (216, .athrow, 1, 0, 0, 0, []), (217, .aload_n 0, 1, 0, 0, 0, []), (218, .invokevirtual 189, 3, 189, 1, 15, []), (221, .aload_n 0, 1, 0, 0, 0, []), (222, .getfield 24, 3, 14, 16, 2, []), (225, .aload_n 0, 1, 0, 0, 0, []), (226, .getfield 219, 3, 14, 20, 0, []), (229, .iaload, 1, 0, 0, 0, []), (230, .ifCond .eq 19, 3, 249, 0, 0, []), (233, .aload_n 0, 1, 0, 0, 0, []), (234, .getfield 196, 3, 14, 5, 2, []), (237, .aload_n 0, 1, 0, 0, 0, []), (238, .getfield 24, 3, 14, 16, 2, []), (241, .aload_n 0, 1, 0, 0, 0, []), (242, .getfield 219, 3, 14, 20, 0, []), (245, .iaload, 1, 0, 0, 0, []), (246, .invokevirtual 238, 3, 212, 2, 13, []), (249, .aload_n 0, 1, 0, 0, 0, []), (250, .dup, 1, 0, 0, 0, []), (251, .getfield 219, 3, 14, 20, 0, []), (254, .iconst 1, 1, 0, 0, 0, []), (255, .isub, 1, 0, 0, 0, []), (256, .putfield 219, 3, 14, 20, 0, []), (259, .goto (-259), 3, 0, 0, 0, [])]
/-- WholeFieldsModel.lays(II)V -/
def k_WFModel_lays : Cd9 := [(0, .aload_n 0, 1, 0, 0, 0, []), (1, .iload_n 1, 1, 0, 0, 0, []), (2, .putfield 264, 3, 14, 22, 0, []), (5, .aload_n 0, 1, 0, 0, 0, []), (6, .iload_n 2, 1, 0, 0, 0, []), (7, .putfield 267, 3, 14, 23, 0, []), (10, .aload_n 0, 1, 0, 0, 0, []), (11, .iload_n 1, 1, 0, 0, 0, []), (12, .iload_n 2, 1, 0, 0, 0, []), (13, .imul, 1, 0, 0, 0, []), (14, .putfield 270, 3, 14, 24, 0, []), (17, .iconst 0, 1, 0, 0, 0, []), (18, .istore_n 3, 1, 0, 0, 0, []), (19, .iload_n 3, 1, 0, 0, 0, []), (20, .bipush 64, 2, 0, 0, 0, []), (22, .if_icmp .ge 44, 3, 66, 0, 0, []), (25, .aload_n 0, 1, 0, 0, 0, []), (26, .getfield 50, 3, 14, 30, 2, []), (29, .iload_n 3, 1, 0, 0, 0, []), (30, .iconst 5, 1, 0, 0, 0, []), (31, .iastore, 1, 0, 0, 0, []), (32, .aload_n 0, 1, 0, 0, 0, []), (33, .getfield 53, 3, 14, 31, 2, []), (36, .iload_n 3, 1, 0, 0, 0, []), (37, .iconst 0, 1, 0, 0, 0, []), (38, .iastore, 1, 0, 0, 0, []), (39, .aload_n 0, 1, 0, 0, 0, []), (40, .getfield 71, 3, 14, 37, 2, []), (43, .iload_n 3, 1, 0, 0, 0, []), (44, .iconst 0, 1, 0, 0, 0, []), (45, .bastore, 1, 0, 0, 0, []), (46, .aload_n 0, 1, 0, 0, 0, []), (47, .getfield 56, 3, 14, 32, 2, []), (50, .iload_n 3, 1, 0, 0, 0, []), (51, .iconst (-1), 1, 0, 0, 0, []), (52, .iastore, 1, 0, 0, 0, []), (53, .aload_n 0, 1, 0, 0, 0, []), (54, .getfield 59, 3, 14, 33, 2, []), (57, .iload_n 3, 1, 0, 0, 0, []), (58, .iconst (-1), 1, 0, 0, 0, []), (59, .iastore, 1, 0, 0, 0, []), (60, .iinc 3 1, 3, 0, 0, 0, []), (63, .goto (-44), 3, 19, 0, 0, []), (66, .iconst 0, 1, 0, 0, 0, []), (67, .istore_n 3, 1, 0, 0, 0, []), (68, .iload_n 3, 1, 0, 0, 0, []), (69, .bipush 6, 2, 0, 0, 0, []), (71, .if_icmp .ge 23, 3, 94, 0, 0, []), (74, .aload_n 0, 1, 0, 0, 0, []), (75, .getfield 62, 3, 14, 34, 2, []), (78, .iload_n 3, 1, 0, 0, 0, []), (79, .iconst 0, 1, 0, 0, 0, []), (80, .iastore, 1, 0, 0, 0, []), (81, .aload_n 0, 1, 0, 0, 0, []), (82, .getfield 65, 3, 14, 35, 2, []), (85, .iload_n 3, 1, 0, 0, 0, []), (86, .iconst 0, 1, 0, 0, 0, []), (87, .iastore, 1, 0, 0, 0, []), (88, .iinc 3 1, 3, 0, 0, 0, []), (91, .goto (-23), 3, 68, 0, 0, []), (94, .aload_n 0, 1, 0, 0, 0, []), (95, .iconst 1, 1, 0, 0, 0, []), (96, .putfield 38, 3, 14, 25, 0, []), (99, .aload_n 0, 1, 0, 0, 0, []), (100, .bipush 20, 2, 0, 0, 0, []), (102, .putfield 41, 3, 14, 26, 0, []), (105, .aload_n 0, 1, 0, 0, 0, []), (106, .iconst 0, 1, 0, 0, 0, []), (107, .putfield 273, 3, 14, 27, 0, []), (110, .aload_n 0, 1, 0, 0, 0, []), (111, .iconst (-1), 1, 0, 0, 0, []), (112, .putfield 44, 3, 14, 28, 0, []), (115, .aload_n 0, 1, 0, 0, 0, []), (116, .iconst (-1), 1, 0, 0, 0, []), (117, .putfield 47, 3, 14, 29, 0, []), (120, .return_, 1, 0, 0, 0, [])]
/-- WholeFieldsModel.done(I)I -/
def k_WFModel_done : Cd9 := [(0, .aload_n 0, 1, 0, 0, 0, []), (1, .iconst 0, 1, 0, 0, 0, []), (2, .putfield 107, 3, 14, 1, 0, []), (5, .aload_n 0, 1, 0, 0, 0, []), (6, .iconst (-1), 1, 0, 0, 0, []), (7, .putfield 9, 3, 14, 2, 0, []), (10, .iload_n 1, 1, 0, 0, 0, []), (11, .ireturn, 1, 0, 0, 0, [])]
/-- WholeFieldsModel.fault()I -/
def k_WFModel_fault : Cd9 := [(0, .aload_n 0, 1, 0, 0, 0, []), (1, .iconst 0, 1, 0, 0, 0, []), (2, .putfield 104, 3, 14, 0, 0, []), (5, .aload_n 0, 1, 0, 0, 0, []), (6, .getfield 247, 3, 14, 3, 0, []), (9, .ireturn, 1, 0, 0, 0, [])]
/-- WholeFieldsModel.where()I -/
def k_WFModel_where : Cd9 := [(0, .aload_n 0, 1, 0, 0, 0, []), (1, .iconst 0, 1, 0, 0, 0, []), (2, .putfield 104, 3, 14, 0, 0, []), (5, .aload_n 0, 1, 0, 0, 0, []), (6, .getfield 9, 3, 14, 2, 0, []), (9, .ireturn, 1, 0, 0, 0, [])]
/-- WholeFieldsModel.ground(II)I -/
def k_WFModel_ground : Cd9 := [(0, .aload_n 0, 1, 0, 0, 0, []), (1, .iconst 0, 1, 0, 0, 0, []), (2, .putfield 104, 3, 14, 0, 0, []), (5, .aload_n 0, 1, 0, 0, 0, []), (6, .getfield 254, 3, 14, 4, 2, []), (9, .ifnonnull 9, 3, 18, 0, 0, []), (12, .aload_n 0, 1, 0, 0, 0, []), (13, .iconst 1, 1, 0, 0, 0, []), (14, .invokevirtual 244, 3, 187, 2, 15, []), (17, .ireturn, 1, 0, 0, 0, []), (18, .iload_n 1, 1, 0, 0, 0, []), (19, .iconst 1, 1, 0, 0, 0, []), (20, .bipush 8, 2, 0, 0, 0, []), (22, .invokestatic 276, 3, 219, 3, 0, []), (25, .ifCond .eq 13, 3, 38, 0, 0, []), (28, .iload_n 2, 1, 0, 0, 0, []), (29, .iconst 1, 1, 0, 0, 0, []), (30, .bipush 8, 2, 0, 0, 0, []), (32, .invokestatic 276, 3, 219, 3, 0, []), (35, .ifCond .ne 9, 3, 44, 0, 0, []), (38, .aload_n 0, 1, 0, 0, 0, []), (39, .iconst 2, 1, 0, 0, 0, []), (40, .invokevirtual 244, 3, 187, 2, 15, []), (43, .ireturn, 1, 0, 0, 0, []), (44, .aload_n 0, 1, 0, 0, 0, []), (45, .iload_n 1, 1, 0, 0, 0, []), (46, .iload_n 2, 1, 0, 0, 0, []), (47, .invokevirtual 257, 3, 214, 3, 15, []), (50, .aload_n 0, 1, 0, 0, 0, []), (51, .aload_n 0, 1, 0, 0, 0, []), (52, .getfield 270, 3, 14, 24, 0, []), (55, .invokevirtual 261, 3, 215, 2, 15, []), (58, .ireturn, 1, 0, 0, 0, [])]
/-- WholeFieldsModel.in(III)Z -/
def k_WFModel_in : Cd9 := [(0, .iload_n 0, 1, 0, 0, 0, []), (1, .iload_n 1, 1, 0, 0, 0, []), (2, .if_icmp .lt 12, 3, 14, 0, 0, []), (5, .iload_n 0, 1, 0, 0, 0, []), (6, .iload_n 2, 1, 0, 0, 0, []), (7, .if_icmp .gt 7, 3, 14, 0, 0, []), (10, .iconst 1, 1, 0, 0, 0, []), (11, .goto 4, 3, 15, 0, 0, []), (14, .iconst 0, 1, 0, 0, 0, []), (15, .ireturn, 1, 2, 0, 0, [])]
/-- WholeFieldsModel.cell(IIIZ)Z -/
def k_WFModel_cell : Cd9 := [(0, .aload_n 0, 1, 0, 0, 0, []), (1, .iconst 0, 1, 0, 0, 0, []), (2, .putfield 104, 3, 14, 0, 0, []), (5, .aload_n 0, 1, 0, 0, 0, []), (6, .iload_n 1, 1, 0, 0, 0, []), (7, .invokevirtual 280, 3, 221, 2, 15, []), (10, .ifCond .ne 9, 3, 19, 0, 0, []), (13, .aload_n 0, 1, 0, 0, 0, []), (14, .iconst 1, 1, 0, 0, 0, []), (15, .invokevirtual 283, 3, 222, 2, 15, []), (18, .ireturn, 1, 2, 0, 0, []), (19, .iload_n 2, 1, 0, 0, 0, []), (20, .iconst 0, 1, 0, 0, 0, []), (21, .bipush 9, 2, 0, 0, 0, []), (23, .invokestatic 276, 3, 219, 3, 0, []), (26, .ifCond .eq 13, 3, 39, 0, 0, []), (29, .iload_n 3, 1, 0, 0, 0, []), (30, .iconst 0, 1, 0, 0, 0, []), (31, .bipush 9, 2, 0, 0, 0, []), (33, .invokestatic 276, 3, 219, 3, 0, []), (36, .ifCond .ne 9, 3, 45, 0, 0, []), (39, .aload_n 0, 1, 0, 0, 0, []), (40, .iconst 2, 1, 0, 0, 0, []), (41, .invokevirtual 283, 3, 222, 2, 15, []), (44, .ireturn, 1, 2, 0, 0, []), (45, .aload_n 0, 1, 0, 0, 0, []), (46, .getfield 50, 3, 14, 30, 2, []), (49, .iload_n 1, 1, 0, 0, 0, []), (50, .iload_n 2, 1, 0, 0, 0, []), (51, .iastore, 1, 0, 0, 0, []), (52, .aload_n 0, 1, 0, 0, 0, []), (53, .getfield 53, 3, 14, 31, 2, []), (56, .iload_n 1, 1, 0, 0, 0, []), (57, .iload_n 3, 1, 0, 0, 0, []), (58, .iastore, 1, 0, 0, 0, []), (59, .aload_n 0, 1, 0, 0, 0, []), (60, .getfield 71, 3, 14, 37, 2, []), (63, .iload_n 1, 1, 0, 0, 0, []), (64, .iload 4, 2, 0, 0, 0, []), (66, .bastore, 1, 0, 0, 0, []), (67, .aload_n 0, 1, 0, 0, 0, []), (68, .invokevirtual 286, 3, 223, 1, 15, []), (71, .ireturn, 1, 2, 0, 0, [])]
/-- WholeFieldsModel.isCell(I)Z -/
def k_WFModel_isCell : Cd9 := [(0, .iload_n 1, 1, 0, 0, 0, []), (1, .ifCond .lt 15, 3, 16, 0, 0, []), (4, .iload_n 1, 1, 0, 0, 0, []), (5, .aload_n 0, 1, 0, 0, 0, []), (6, .getfield 270, 3, 14, 24, 0, []), (9, .if_icmp .ge 7, 3, 16, 0, 0, []), (12, .iconst 1, 1, 0, 0, 0, []), (13, .goto 4, 3, 17, 0, 0, []), (16, .iconst 0, 1, 0, 0, 0, []), (17, .ireturn, 1, 2, 0, 0, [])]
/-- WholeFieldsModel.denied(I)Z -/
def k_WFModel_denied : Cd9 := [(0, .aload_n 0, 1, 0, 0, 0, []), (1, .iload_n 1, 1, 0, 0, 0, []), (2, .putfield 107, 3, 14, 1, 0, []), (5, .aload_n 0, 1, 0, 0, 0, []), (6, .iconst (-1), 1, 0, 0, 0, []), (7, .putfield 9, 3, 14, 2, 0, []), (10, .iconst 0, 1, 0, 0, 0, []), (11, .ireturn, 1, 2, 0, 0, [])]
/-- WholeFieldsModel.granted()Z -/
def k_WFModel_granted : Cd9 := [(0, .aload_n 0, 1, 0, 0, 0, []), (1, .iconst 0, 1, 0, 0, 0, []), (2, .putfield 107, 3, 14, 1, 0, []), (5, .aload_n 0, 1, 0, 0, 0, []), (6, .iconst (-1), 1, 0, 0, 0, []), (7, .putfield 9, 3, 14, 2, 0, []), (10, .iconst 1, 1, 0, 0, 0, []), (11, .ireturn, 1, 2, 0, 0, [])]
/-- WholeFieldsModel.door(II)Z -/
def k_WFModel_door : Cd9 := [(0, .aload_n 0, 1, 0, 0, 0, []), (1, .iconst 0, 1, 0, 0, 0, []), (2, .putfield 104, 3, 14, 0, 0, []), (5, .aload_n 0, 1, 0, 0, 0, []), (6, .iload_n 1, 1, 0, 0, 0, []), (7, .invokevirtual 289, 3, 225, 2, 15, []), (10, .ifCond .eq 11, 3, 21, 0, 0, []), (13, .aload_n 0, 1, 0, 0, 0, []), (14, .iload_n 2, 1, 0, 0, 0, []), (15, .invokevirtual 280, 3, 221, 2, 15, []), (18, .ifCond .ne 9, 3, 27, 0, 0, []), (21, .aload_n 0, 1, 0, 0, 0, []), (22, .iconst 1, 1, 0, 0, 0, []), (23, .invokevirtual 283, 3, 222, 2, 15, []), (26, .ireturn, 1, 2, 0, 0, []), (27, .aload_n 0, 1, 0, 0, 0, []), (28, .getfield 62, 3, 14, 34, 2, []), (31, .iload_n 1, 1, 0, 0, 0, []), (32, .iload_n 2, 1, 0, 0, 0, []), (33, .iastore, 1, 0, 0, 0, []), (34, .aload_n 0, 1, 0, 0, 0, []), (35, .invokevirtual 286, 3, 223, 1, 15, []), (38, .ireturn, 1, 2, 0, 0, [])]
/-- WholeFieldsModel.isOwner(I)Z -/
def k_WFModel_isOwner : Cd9 := [(0, .aload_n 0, 1, 0, 0, 0, []), (1, .getfield 270, 3, 14, 24, 0, []), (4, .ifCond .le 22, 3, 26, 0, 0, []), (7, .iload_n 1, 1, 0, 0, 0, []), (8, .ifCond .lt 18, 3, 26, 0, 0, []), (11, .iload_n 1, 1, 0, 0, 0, []), (12, .aload_n 0, 1, 0, 0, 0, []), (13, .getfield 254, 3, 14, 4, 2, []), (16, .getfield 206, 3, 12, 0, 0, []), (19, .if_icmp .ge 7, 3, 26, 0, 0, []), (22, .iconst 1, 1, 0, 0, 0, []), (23, .goto 4, 3, 27, 0, 0, []), (26, .iconst 0, 1, 0, 0, 0, []), (27, .ireturn, 1, 2, 0, 0, [])]
/-- WholeFieldsModel.keep(II)Z -/
def k_WFModel_keep : Cd9 := [(0, .aload_n 0, 1, 0, 0, 0, []), (1, .iconst 0, 1, 0, 0, 0, []), (2, .putfield 104, 3, 14, 0, 0, []), (5, .aload_n 0, 1, 0, 0, 0, []), (6, .iload_n 1, 1, 0, 0, 0, []), (7, .invokevirtual 280, 3, 221, 2, 15, []), (10, .ifCond .eq 16, 3, 26, 0, 0, []), (13, .iload_n 2, 1, 0, 0, 0, []), (14, .iconst (-1), 1, 0, 0, 0, []), (15, .if_icmp .eq 17, 3, 32, 0, 0, []), (18, .aload_n 0, 1, 0, 0, 0, []), (19, .iload_n 2, 1, 0, 0, 0, []), (20, .invokevirtual 289, 3, 225, 2, 15, []), (23, .ifCond .ne 9, 3, 32, 0, 0, []), (26, .aload_n 0, 1, 0, 0, 0, []), (27, .iconst 1, 1, 0, 0, 0, []), (28, .invokevirtual 283, 3, 222, 2, 15, []), (31, .ireturn, 1, 2, 0, 0, []), (32, .aload_n 0, 1, 0, 0, 0, []), (33, .getfield 56, 3, 14, 32, 2, []), (36, .iload_n 1, 1, 0, 0, 0, []), (37, .iload_n 2, 1, 0, 0, 0, []), (38, .iastore, 1, 0, 0, 0, []), (39, .aload_n 0, 1, 0, 0, 0, []), (40, .invokevirtual 286, 3, 223, 1, 15, []), (43, .ireturn, 1, 2, 0, 0, [])]
/-- WholeFieldsModel.had(II)Z -/
def k_WFModel_had : Cd9 := [(0, .aload_n 0, 1, 0, 0, 0, []), (1, .iconst 0, 1, 0, 0, 0, []), (2, .putfield 104, 3, 14, 0, 0, []), (5, .aload_n 0, 1, 0, 0, 0, []), (6, .iload_n 1, 1, 0, 0, 0, []), (7, .invokevirtual 289, 3, 225, 2, 15, []), (10, .ifCond .ne 9, 3, 19, 0, 0, []), (13, .aload_n 0, 1, 0, 0, 0, []), (14, .iconst 1, 1, 0, 0, 0, []), (15, .invokevirtual 283, 3, 222, 2, 15, []), (18, .ireturn, 1, 2, 0, 0, []), (19, .iload_n 2, 1, 0, 0, 0, []), (20, .iconst 0, 1, 0, 0, 0, []), (21, .ldc_w 292, 3, 6, 0, 0, []), (24, .invokestatic 276, 3, 219, 3, 0, []), (27, .ifCond .ne 9, 3, 36, 0, 0, []), (30, .aload_n 0, 1, 0, 0, 0, []), (31, .iconst 2, 1, 0, 0, 0, []), (32, .invokevirtual 283, 3, 222, 2, 15, []), (35, .ireturn, 1, 2, 0, 0, []), (36, .aload_n 0, 1, 0, 0, 0, []), (37, .getfield 65, 3, 14, 35, 2, []), (40, .iload_n 1, 1, 0, 0, 0, []), (41, .iload_n 2, 1, 0, 0, 0, []), (42, .iastore, 1, 0, 0, 0, []), (43, .aload_n 0, 1, 0, 0, 0, []), (44, .invokevirtual 286, 3, 223, 1, 15, []), (47, .ireturn, 1, 2, 0, 0, [])]
/-- WholeFieldsModel.set(II)Z -/
def k_WFModel_set : Cd9 := [(0, .aload_n 0, 1, 0, 0, 0, []), (1, .iconst 0, 1, 0, 0, 0, []), (2, .putfield 104, 3, 14, 0, 0, []), (5, .aload_n 0, 1, 0, 0, 0, []), (6, .getfield 270, 3, 14, 24, 0, []), (9, .ifCond .eq 12, 3, 21, 0, 0, []), (12, .iload_n 1, 1, 0, 0, 0, []), (13, .iconst 0, 1, 0, 0, 0, []), (14, .iconst 1, 1, 0, 0, 0, []), (15, .invokestatic 276, 3, 219, 3, 0, []), (18, .ifCond .ne 9, 3, 27, 0, 0, []), (21, .aload_n 0, 1, 0, 0, 0, []), (22, .iconst 1, 1, 0, 0, 0, []), (23, .invokevirtual 283, 3, 222, 2, 15, []), (26, .ireturn, 1, 2, 0, 0, []), (27, .iload_n 1, 1, 0, 0, 0, []), (28, .ifCond .ne 15, 3, 43, 0, 0, []), (31, .iload_n 2, 1, 0, 0, 0, []), (32, .iconst 1, 1, 0, 0, 0, []), (33, .iconst 2, 1, 0, 0, 0, []), (34, .invokestatic 276, 3, 219, 3, 0, []), (37, .ifCond .ne 22, 3, 59, 0, 0, []), (40, .goto 13, 3, 53, 0, 0, []), (43, .iload_n 2, 1, 0, 0, 0, []), (44, .iconst 0, 1, 0, 0, 0, []), (45, .bipush 20, 2, 0, 0, 0, []), (47, .invokestatic 276, 3, 219, 3, 0, []), (50, .ifCond .ne 9, 3, 59, 0, 0, []), (53, .aload_n 0, 1, 0, 0, 0, []), (54, .iconst 2, 1, 0, 0, 0, []), (55, .invokevirtual 283, 3, 222, 2, 15, []), (58, .ireturn, 1, 2, 0, 0, []), (59, .iload_n 1, 1, 0, 0, 0, []), (60, .ifCond .ne 11, 3, 71, 0, 0, []), (63, .aload_n 0, 1, 0, 0, 0, []), (64, .iload_n 2, 1, 0, 0, 0, []), (65, .putfield 38, 3, 14, 25, 0, []), (68, .goto 8, 3, 76, 0, 0, []), (71, .aload_n 0, 1, 0, 0, 0, []), (72, .iload_n 2, 1, 0, 0, 0, []), (73, .putfield 41, 3, 14, 26, 0, []), (76, .aload_n 0, 1, 0, 0, 0, []), (77, .invokevirtual 286, 3, 223, 1, 15, []), (80, .ireturn, 1, 2, 0, 0, [])]
/-- WholeFieldsModel.value(II)I -/
def k_WFModel_value : Cd9 := [(0, .aload_n 0, 1, 0, 0, 0, []), (1, .iconst 0, 1, 0, 0, 0, []), (2, .putfield 104, 3, 14, 0, 0, []), (5, .aload_n 0, 1, 0, 0, 0, []), (6, .iload_n 1, 1, 0, 0, 0, []), (7, .invokevirtual 289, 3, 225, 2, 15, []), (10, .ifCond .eq 20, 3, 30, 0, 0, []), (13, .aload_n 0, 1, 0, 0, 0, []), (14, .iload_n 2, 1, 0, 0, 0, []), (15, .invokevirtual 280, 3, 221, 2, 15, []), (18, .ifCond .eq 12, 3, 30, 0, 0, []), (21, .aload_n 0, 1, 0, 0, 0, []), (22, .iload_n 1, 1, 0, 0, 0, []), (23, .iload_n 2, 1, 0, 0, 0, []), (24, .invokevirtual 318, 3, 230, 3, 15, []), (27, .goto 5, 3, 32, 0, 0, []), (30, .ldc 112, 2, 7, 0, 0, []), (32, .ireturn, 1, 0, 0, 0, [])]
/-- WholeFieldsModel.valueOf(II)I -/
def k_WFModel_valueOf : Cd9 := [(0, .iconst 0, 1, 0, 0, 0, []), (1, .istore_n 3, 1, 0, 0, 0, []), (2, .bipush 48, 2, 0, 0, 0, []), (4, .iload_n 1, 1, 0, 0, 0, []), (5, .imul, 1, 0, 0, 0, []), (6, .istore 4, 2, 0, 0, 0, []), (8, .iload 4, 2, 0, 0, 0, []), (10, .bipush 48, 2, 0, 0, 0, []), (12, .iload_n 1, 1, 0, 0, 0, []), (13, .imul, 1, 0, 0, 0, []), (14, .aload_n 0, 1, 0, 0, 0, []), (15, .getfield 254, 3, 14, 4, 2, []), (18, .getfield 300, 3, 12, 3, 2, []), (21, .iload_n 1, 1, 0, 0, 0, []), (22, .iaload, 1, 0, 0, 0, []), (23, .iadd, 1, 0, 0, 0, []), (24, .if_icmp .ge 219, 3, 243, 0, 0, []), (27, .aload_n 0, 1, 0, 0, 0, []), (28, .getfield 254, 3, 14, 4, 2, []), (31, .getfield 302, 3, 12, 2, 2, []), (34, .iload 4, 2, 0, 0, 0, []), (36, .iaload, 1, 0, 0, 0, []), (37, .istore 5, 2, 0, 0, 0, []), (39, .iload 5, 2, 0, 0, 0, []), (41, .bipush 110, 2, 0, 0, 0, []), (43, .if_icmp .ge 80, 3, 123, 0, 0, []), (46, .aload_n 0, 1, 0, 0, 0, []), (47, .getfield 74, 3, 14, 38, 2, []), (50, .iload_n 3, 1, 0, 0, 0, []), (51, .iload 5, 2, 0, 0, 0, []), (53, .bipush 100, 2, 0, 0, 0, []), (55, .if_icmp .ne 12, 3, 67, 0, 0, []), (58, .aload_n 0, 1, 0, 0, 0, []), (59, .getfield 50, 3, 14, 30, 2, []), (62, .iload_n 2, 1, 0, 0, 0, []), (63, .iaload, 1, 0, 0, 0, []), (64, .goto 52, 3, 116, 0, 0, []), (67, .iload 5, 2, 0, 0, 0, []), (69, .bipush 101, 2, 0, 0, 0, []), (71, .if_icmp .ne 12, 3, 83, 0, 0, []), (74, .aload_n 0, 1, 0, 0, 0, []), (75, .getfield 53, 3, 14, 31, 2, []), (78, .iload_n 2, 1, 0, 0, 0, []), (79, .iaload, 1, 0, 0, 0, []), (80, .goto 36, 3, 116, 0, 0, []), (83, .iload 5, 2, 0, 0, 0, []), (85, .bipush 102, 2, 0, 0, 0, []), (87, .if_icmp .ne 12, 3, 99, 0, 0, []), (90, .aload_n 0, 1, 0, 0, 0, []), (91, .iload_n 1, 1, 0, 0, 0, []), (92, .iload_n 2, 1, 0, 0, 0, []), (93, .invokevirtual 305, 3, 231, 3, 15, []), (96, .goto 20, 3, 116, 0, 0, []), (99, .iload 5, 2, 0, 0, 0, []), (101, .bipush 103, 2, 0, 0, 0, []), (103, .if_icmp .ne 11, 3, 114, 0, 0, []), (106, .aload_n 0, 1, 0, 0, 0, []), (107, .iload_n 2, 1, 0, 0, 0, []), (108, .invokevirtual 307, 3, 233, 2, 15, []), (111, .goto 5, 3, 116, 0, 0, []), (114, .iload 5, 2, 0, 0, 0, []), (116, .iastore, 1, 0, 0, 0, []), (117, .iinc 3 1, 3, 0, 0, 0, []), (120, .goto 117, 3, 237, 0, 0, []), (123, .iinc 3 (-1), 3, 0, 0, 0, []), (126, .aload_n 0, 1, 0, 0, 0, []), (127, .getfield 74, 3, 14, 38, 2, []), (130, .iload_n 3, 1, 0, 0, 0, []), (131, .iconst 1, 1, 0, 0, 0, []), (132, .isub, 1, 0, 0, 0, []), (133, .iaload, 1, 0, 0, 0, []), (134, .istore 6, 2, 0, 0, 0, []), (136, .aload_n 0, 1, 0, 0, 0, []), (137, .getfield 74, 3, 14, 38, 2, []), (140, .iload_n 3, 1, 0, 0, 0, []), (141, .iaload, 1, 0, 0, 0, []), (142, .istore 7, 2, 0, 0, 0, []), (144, .iload 5, 2, 0, 0, 0, []), (146, .bipush 110, 2, 0, 0, 0, []), (148, .if_icmp .ne 11, 3, 159, 0, 0, []), (151, .iload 6, 2, 0, 0, 0, []), (153, .iload 7, 2, 0, 0, 0, []), (155, .iadd, 1, 0, 0, 0, []), (156, .goto 57, 3, 213, 0, 0, []), (159, .iload 5, 2, 0, 0, 0, []), (161, .bipush 111, 2, 0, 0, 0, []), (163, .if_icmp .ne 11, 3, 174, 0, 0, []), (166, .iload 6, 2, 0, 0, 0, []), (168, .iload 7, 2, 0, 0, 0, []), (170, .isub, 1, 0, 0, 0, []), (171, .goto 42, 3, 213, 0, 0, []), (174, .iload 5, 2, 0, 0, 0, []), (176, .bipush 112, 2, 0, 0, 0, []), (178, .if_icmp .ne 11, 3, 189, 0, 0, []), (181, .iload 6, 2, 0, 0, 0, []), (183, .iload 7, 2, 0, 0, 0, []), (185, .imul, 1, 0, 0, 0, []), (186, .goto 27, 3, 213, 0, 0, []), (189, .iload 5, 2, 0, 0, 0, []), (191, .bipush 113, 2, 0, 0, 0, []), (193, .if_icmp .ne 13, 3, 206, 0, 0, []), (196, .iload 6, 2, 0, 0, 0, []), (198, .iload 7, 2, 0, 0, 0, []), (200, .invokestatic 310, 3, 24, 2, 61, []), (203, .goto 10, 3, 213, 0, 0, []), (206, .iload 6, 2, 0, 0, 0, []), (208, .iload 7, 2, 0, 0, 0, []), (210, .invokestatic 315, 3, 25, 2, 62, []), (213, .istore 8, 2, 0, 0, 0, []), (215, .aload_n 0, 1, 0, 0, 0, []), (216, .getfield 74, 3, 14, 38, 2, []), (219, .iload_n 3, 1, 0, 0, 0, []), (220, .iconst 1, 1, 0, 0, 0, []), (221, .isub, 1, 0, 0, 0, []), (222, .sipush (-10000), 3, 0, 0, 0, []), (225, .sipush 10000, 3, 0, 0, 0, []), (228, .iload 8, 2, 0, 0, 0, []), (230, .invokestatic 310, 3, 24, 2, 61, []), (233, .invokestatic 315, 3, 25, 2, 62, []), (236, .iastore, 1, 0, 0, 0, []), (237, .iinc 4 1, 3, 0, 0, 0, []), (240, .goto (-232), 3, 8, 0, 0, []), (243, .aload_n 0, 1, 0, 0, 0, []), (244, .getfield 74, 3, 14, 38, 2, []), (247, .iconst 0, 1, 0, 0, 0, []), (248, .iaload, 1, 0, 0, 0, []), (249, .ireturn, 1, 0, 0, 0, [])]
/-- WholeFieldsModel.far(II)I -/
def k_WFModel_far : Cd9 := [(0, .iload_n 2, 1, 0, 0, 0, []), (1, .aload_n 0, 1, 0, 0, 0, []), (2, .getfield 264, 3, 14, 22, 0, []), (5, .irem, 1, 0, 0, 0, []), (6, .aload_n 0, 1, 0, 0, 0, []), (7, .getfield 62, 3, 14, 34, 2, []), (10, .iload_n 1, 1, 0, 0, 0, []), (11, .iaload, 1, 0, 0, 0, []), (12, .aload_n 0, 1, 0, 0, 0, []), (13, .getfield 264, 3, 14, 22, 0, []), (16, .irem, 1, 0, 0, 0, []), (17, .isub, 1, 0, 0, 0, []), (18, .invokestatic 293, 3, 232, 1, 0, []), (21, .iload_n 2, 1, 0, 0, 0, []), (22, .aload_n 0, 1, 0, 0, 0, []), (23, .getfield 264, 3, 14, 22, 0, []), (26, .idiv, 1, 0, 0, 0, []), (27, .aload_n 0, 1, 0, 0, 0, []), (28, .getfield 62, 3, 14, 34, 2, []), (31, .iload_n 1, 1, 0, 0, 0, []), (32, .iaload, 1, 0, 0, 0, []), (33, .aload_n 0, 1, 0, 0, 0, []), (34, .getfield 264, 3, 14, 22, 0, []), (37, .idiv, 1, 0, 0, 0, []), (38, .isub, 1, 0, 0, 0, []), (39, .invokestatic 293, 3, 232, 1, 0, []), (42, .iadd, 1, 0, 0, 0, []), (43, .ireturn, 1, 0, 0, 0, [])]
/-- WholeFieldsModel.abs(I)I -/
def k_WFModel_abs : Cd9 := [(0, .iload_n 0, 1, 0, 0, 0, []), (1, .ifCond .ge 8, 3, 9, 0, 0, []), (4, .iload_n 0, 1, 0, 0, 0, []), (5, .ineg, 1, 0, 0, 0, []), (6, .goto 4, 3, 10, 0, 0, []), (9, .iload_n 0, 1, 0, 0, 0, []), (10, .ireturn, 1, 0, 0, 0, [])]
/-- WholeFieldsModel.waters(I)I -/
def k_WFModel_waters : Cd9 := [(0, .iconst 0, 1, 0, 0, 0, []), (1, .istore_n 2, 1, 0, 0, 0, []), (2, .iload_n 2, 1, 0, 0, 0, []), (3, .iconst 4, 1, 0, 0, 0, []), (4, .if_icmp .ge 32, 3, 36, 0, 0, []), (7, .aload_n 0, 1, 0, 0, 0, []), (8, .iload_n 1, 1, 0, 0, 0, []), (9, .iload_n 2, 1, 0, 0, 0, []), (10, .invokevirtual 296, 3, 234, 3, 15, []), (13, .istore_n 3, 1, 0, 0, 0, []), (14, .iload_n 3, 1, 0, 0, 0, []), (15, .iconst (-1), 1, 0, 0, 0, []), (16, .if_icmp .eq 14, 3, 30, 0, 0, []), (19, .aload_n 0, 1, 0, 0, 0, []), (20, .getfield 71, 3, 14, 37, 2, []), (23, .iload_n 3, 1, 0, 0, 0, []), (24, .baload, 1, 0, 0, 0, []), (25, .ifCond .eq 5, 3, 30, 0, 0, []), (28, .iconst 1, 1, 0, 0, 0, []), (29, .ireturn, 1, 0, 0, 0, []), (30, .iinc 2 1, 3, 0, 0, 0, []), (33, .goto (-31), 3, 2, 0, 0, []), (36, .iconst 0, 1, 0, 0, 0, []), (37, .ireturn, 1, 0, 0, 0, [])]
/-- WholeFieldsModel.beside(II)I -/
def k_WFModel_beside : Cd9 := [(0, .iload_n 1, 1, 0, 0, 0, []), (1, .aload_n 0, 1, 0, 0, 0, []), (2, .getfield 264, 3, 14, 22, 0, []), (5, .irem, 1, 0, 0, 0, []), (6, .iload_n 2, 1, 0, 0, 0, []), (7, .ifCond .ne 7, 3, 14, 0, 0, []), (10, .iconst 1, 1, 0, 0, 0, []), (11, .goto 13, 3, 24, 0, 0, []), (14, .iload_n 2, 1, 0, 0, 0, []), (15, .iconst 1, 1, 0, 0, 0, []), (16, .if_icmp .ne 7, 3, 23, 0, 0, []), (19, .iconst (-1), 1, 0, 0, 0, []), (20, .goto 4, 3, 24, 0, 0, []), (23, .iconst 0, 1, 0, 0, 0, []), (24, .iadd, 1, 0, 0, 0, []), (25, .istore_n 3, 1, 0, 0, 0, []), (26, .iload_n 1, 1, 0, 0, 0, []), (27, .aload_n 0, 1, 0, 0, 0, []), (28, .getfield 264, 3, 14, 22, 0, []), (31, .idiv, 1, 0, 0, 0, []), (32, .iload_n 2, 1, 0, 0, 0, []), (33, .iconst 3, 1, 0, 0, 0, []), (34, .if_icmp .ne 7, 3, 41, 0, 0, []), (37, .iconst 1, 1, 0, 0, 0, []), (38, .goto 13, 3, 51, 0, 0, []), (41, .iload_n 2, 1, 0, 0, 0, []), (42, .iconst 2, 1, 0, 0, 0, []), (43, .if_icmp .ne 7, 3, 50, 0, 0, []), (46, .iconst (-1), 1, 0, 0, 0, []), (47, .goto 4, 3, 51, 0, 0, []), (50, .iconst 0, 1, 0, 0, 0, []), (51, .iadd, 1, 0, 0, 0, []), (52, .istore 4, 2, 0, 0, 0, []), (54, .iload_n 3, 1, 0, 0, 0, []), (55, .iconst 0, 1, 0, 0, 0, []), (56, .aload_n 0, 1, 0, 0, 0, []), (57, .getfield 264, 3, 14, 22, 0, []), (60, .iconst 1, 1, 0, 0, 0, []), (61, .isub, 1, 0, 0, 0, []), (62, .invokestatic 276, 3, 219, 3, 0, []), (65, .ifCond .eq 30, 3, 95, 0, 0, []), (68, .iload 4, 2, 0, 0, 0, []), (70, .iconst 0, 1, 0, 0, 0, []), (71, .aload_n 0, 1, 0, 0, 0, []), (72, .getfield 267, 3, 14, 23, 0, []), (75, .iconst 1, 1, 0, 0, 0, []), (76, .isub, 1, 0, 0, 0, []), (77, .invokestatic 276, 3, 219, 3, 0, []), (80, .ifCond .eq 15, 3, 95, 0, 0, []), (83, .aload_n 0, 1, 0, 0, 0, []), (84, .getfield 264, 3, 14, 22, 0, []), (87, .iload 4, 2, 0, 0, 0, []), (89, .imul, 1, 0, 0, 0, []), (90, .iload_n 3, 1, 0, 0, 0, []), (91, .iadd, 1, 0, 0, 0, []), (92, .goto 4, 3, 96, 0, 0, []), (95, .iconst (-1), 1, 0, 0, 0, []), (96, .ireturn, 1, 0, 0, 0, [])]
/-- WholeFieldsModel.draw(II)Z -/
def k_WFModel_draw : Cd9 := [(0, .aload_n 0, 1, 0, 0, 0, []), (1, .iconst 0, 1, 0, 0, 0, []), (2, .putfield 104, 3, 14, 0, 0, []), (5, .aload_n 0, 1, 0, 0, 0, []), (6, .iload_n 1, 1, 0, 0, 0, []), (7, .invokevirtual 280, 3, 221, 2, 15, []), (10, .ifCond .eq 16, 3, 26, 0, 0, []), (13, .iload_n 2, 1, 0, 0, 0, []), (14, .iconst (-1), 1, 0, 0, 0, []), (15, .if_icmp .eq 17, 3, 32, 0, 0, []), (18, .aload_n 0, 1, 0, 0, 0, []), (19, .iload_n 2, 1, 0, 0, 0, []), (20, .invokevirtual 289, 3, 225, 2, 15, []), (23, .ifCond .ne 9, 3, 32, 0, 0, []), (26, .aload_n 0, 1, 0, 0, 0, []), (27, .iconst 1, 1, 0, 0, 0, []), (28, .invokevirtual 283, 3, 222, 2, 15, []), (31, .ireturn, 1, 2, 0, 0, []), (32, .aload_n 0, 1, 0, 0, 0, []), (33, .getfield 59, 3, 14, 33, 2, []), (36, .iload_n 1, 1, 0, 0, 0, []), (37, .iaload, 1, 0, 0, 0, []), (38, .iload_n 2, 1, 0, 0, 0, []), (39, .if_icmp .ne 9, 3, 48, 0, 0, []), (42, .aload_n 0, 1, 0, 0, 0, []), (43, .iconst 5, 1, 0, 0, 0, []), (44, .invokevirtual 283, 3, 222, 2, 15, []), (47, .ireturn, 1, 2, 0, 0, []), (48, .aload_n 0, 1, 0, 0, 0, []), (49, .getfield 59, 3, 14, 33, 2, []), (52, .iload_n 1, 1, 0, 0, 0, []), (53, .iload_n 2, 1, 0, 0, 0, []), (54, .iastore, 1, 0, 0, 0, []), (55, .aload_n 0, 1, 0, 0, 0, []), (56, .invokevirtual 286, 3, 223, 1, 15, []), (59, .ireturn, 1, 2, 0, 0, [])]
/-- WholeFieldsModel.whose(I)I -/
def k_WFModel_whose : Cd9 := [(0, .aload_n 0, 1, 0, 0, 0, []), (1, .iconst 0, 1, 0, 0, 0, []), (2, .putfield 104, 3, 14, 0, 0, []), (5, .aload_n 0, 1, 0, 0, 0, []), (6, .iload_n 1, 1, 0, 0, 0, []), (7, .invokevirtual 280, 3, 221, 2, 15, []), (10, .ifCond .ne 7, 3, 17, 0, 0, []), (13, .iconst (-1), 1, 0, 0, 0, []), (14, .goto 24, 3, 38, 0, 0, []), (17, .aload_n 0, 1, 0, 0, 0, []), (18, .getfield 59, 3, 14, 33, 2, []), (21, .iload_n 1, 1, 0, 0, 0, []), (22, .iaload, 1, 0, 0, 0, []), (23, .iconst (-1), 1, 0, 0, 0, []), (24, .if_icmp .ne 8, 3, 32, 0, 0, []), (27, .bipush (-2), 2, 0, 0, 0, []), (29, .goto 9, 3, 38, 0, 0, []), (32, .aload_n 0, 1, 0, 0, 0, []), (33, .getfield 59, 3, 14, 33, 2, []), (36, .iload_n 1, 1, 0, 0, 0, []), (37, .iaload, 1, 0, 0, 0, []), (38, .ireturn, 1, 0, 0, 0, [])]
/-- WholeFieldsModel.sum(I)I -/
def k_WFModel_sum : Cd9 := [(0, .aload_n 0, 1, 0, 0, 0, []), (1, .iconst 0, 1, 0, 0, 0, []), (2, .putfield 104, 3, 14, 0, 0, []), (5, .aload_n 0, 1, 0, 0, 0, []), (6, .iload_n 1, 1, 0, 0, 0, []), (7, .invokevirtual 289, 3, 225, 2, 15, []), (10, .ifCond .ne 6, 3, 16, 0, 0, []), (13, .ldc 112, 2, 7, 0, 0, []), (15, .ireturn, 1, 0, 0, 0, []), (16, .aload_n 0, 1, 0, 0, 0, []), (17, .invokevirtual 331, 3, 238, 1, 15, []), (20, .aload_n 0, 1, 0, 0, 0, []), (21, .iload_n 1, 1, 0, 0, 0, []), (22, .iload_n 1, 1, 0, 0, 0, []), (23, .invokevirtual 321, 3, 239, 3, 15, []), (26, .ireturn, 1, 0, 0, 0, [])]
/-- WholeFieldsModel.values()V -/
def k_WFModel_values : Cd9 := [(0, .iconst 0, 1, 0, 0, 0, []), (1, .istore_n 1, 1, 0, 0, 0, []), (2, .iload_n 1, 1, 0, 0, 0, []), (3, .aload_n 0, 1, 0, 0, 0, []), (4, .getfield 254, 3, 14, 4, 2, []), (7, .getfield 206, 3, 12, 0, 0, []), (10, .if_icmp .ge 42, 3, 52, 0, 0, []), (13, .iconst 0, 1, 0, 0, 0, []), (14, .istore_n 2, 1, 0, 0, 0, []), (15, .iload_n 2, 1, 0, 0, 0, []), (16, .aload_n 0, 1, 0, 0, 0, []), (17, .getfield 270, 3, 14, 24, 0, []), (20, .if_icmp .ge 26, 3, 46, 0, 0, []), (23, .aload_n 0, 1, 0, 0, 0, []), (24, .getfield 77, 3, 14, 39, 2, []), (27, .bipush 64, 2, 0, 0, 0, []), (29, .iload_n 1, 1, 0, 0, 0, []), (30, .imul, 1, 0, 0, 0, []), (31, .iload_n 2, 1, 0, 0, 0, []), (32, .iadd, 1, 0, 0, 0, []), (33, .aload_n 0, 1, 0, 0, 0, []), (34, .iload_n 1, 1, 0, 0, 0, []), (35, .iload_n 2, 1, 0, 0, 0, []), (36, .invokevirtual 318, 3, 230, 3, 15, []), (39, .iastore, 1, 0, 0, 0, []), (40, .iinc 2 1, 3, 0, 0, 0, []), (43, .goto (-28), 3, 15, 0, 0, []), (46, .iinc 1 1, 3, 0, 0, 0, []), (49, .goto (-47), 3, 2, 0, 0, []), (52, .return_, 1, 0, 0, 0, [])]
/-- WholeFieldsModel.sumOf(II)I -/
def k_WFModel_sumOf : Cd9 := [(0, .iconst 0, 1, 0, 0, 0, []), (1, .istore_n 3, 1, 0, 0, 0, []), (2, .iconst 0, 1, 0, 0, 0, []), (3, .istore 4, 2, 0, 0, 0, []), (5, .iload 4, 2, 0, 0, 0, []), (7, .aload_n 0, 1, 0, 0, 0, []), (8, .getfield 270, 3, 14, 24, 0, []), (11, .if_icmp .ge 39, 3, 50, 0, 0, []), (14, .iload_n 3, 1, 0, 0, 0, []), (15, .aload_n 0, 1, 0, 0, 0, []), (16, .getfield 59, 3, 14, 33, 2, []), (19, .iload 4, 2, 0, 0, 0, []), (21, .iaload, 1, 0, 0, 0, []), (22, .iload_n 2, 1, 0, 0, 0, []), (23, .if_icmp .ne 18, 3, 41, 0, 0, []), (26, .aload_n 0, 1, 0, 0, 0, []), (27, .getfield 77, 3, 14, 39, 2, []), (30, .bipush 64, 2, 0, 0, 0, []), (32, .iload_n 1, 1, 0, 0, 0, []), (33, .imul, 1, 0, 0, 0, []), (34, .iload 4, 2, 0, 0, 0, []), (36, .iadd, 1, 0, 0, 0, []), (37, .iaload, 1, 0, 0, 0, []), (38, .goto 4, 3, 42, 0, 0, []), (41, .iconst 0, 1, 0, 0, 0, []), (42, .iadd, 1, 0, 0, 0, []), (43, .istore_n 3, 1, 0, 0, 0, []), (44, .iinc 4 1, 3, 0, 0, 0, []), (47, .goto (-42), 3, 5, 0, 0, []), (50, .iload_n 3, 1, 0, 0, 0, []), (51, .ireturn, 1, 0, 0, 0, [])]
/-- WholeFieldsModel.total(I)I -/
def k_WFModel_total : Cd9 := [(0, .aload_n 0, 1, 0, 0, 0, []), (1, .iconst 0, 1, 0, 0, 0, []), (2, .putfield 104, 3, 14, 0, 0, []), (5, .aload_n 0, 1, 0, 0, 0, []), (6, .getfield 270, 3, 14, 24, 0, []), (9, .ifCond .eq 13, 3, 22, 0, 0, []), (12, .iload_n 1, 1, 0, 0, 0, []), (13, .iconst 0, 1, 0, 0, 0, []), (14, .bipush 6, 2, 0, 0, 0, []), (16, .invokestatic 276, 3, 219, 3, 0, []), (19, .ifCond .ne 9, 3, 28, 0, 0, []), (22, .aload_n 0, 1, 0, 0, 0, []), (23, .iconst 1, 1, 0, 0, 0, []), (24, .invokevirtual 334, 3, 241, 2, 15, []), (27, .ireturn, 1, 0, 0, 0, []), (28, .aload_n 0, 1, 0, 0, 0, []), (29, .invokevirtual 331, 3, 238, 1, 15, []), (32, .iconst 0, 1, 0, 0, 0, []), (33, .istore_n 2, 1, 0, 0, 0, []), (34, .iconst 0, 1, 0, 0, 0, []), (35, .istore_n 3, 1, 0, 0, 0, []), (36, .iload_n 3, 1, 0, 0, 0, []), (37, .aload_n 0, 1, 0, 0, 0, []), (38, .getfield 254, 3, 14, 4, 2, []), (41, .getfield 206, 3, 12, 0, 0, []), (44, .if_icmp .ge 25, 3, 69, 0, 0, []), (47, .iload_n 2, 1, 0, 0, 0, []), (48, .aload_n 0, 1, 0, 0, 0, []), (49, .iload_n 3, 1, 0, 0, 0, []), (50, .invokevirtual 337, 3, 242, 2, 15, []), (53, .ifCond .eq 7, 3, 60, 0, 0, []), (56, .iconst 1, 1, 0, 0, 0, []), (57, .goto 4, 3, 61, 0, 0, []), (60, .iconst 0, 1, 0, 0, 0, []), (61, .iadd, 1, 0, 0, 0, []), (62, .istore_n 2, 1, 0, 0, 0, []), (63, .iinc 3 1, 3, 0, 0, 0, []), (66, .goto (-30), 3, 36, 0, 0, []), (69, .iload_n 1, 1, 0, 0, 0, []), (70, .tableswitch 94 0 5 #[38, 47, 56, 65, 79, 88], 38, 164, 0, 0, [(0, 108), (1, 117), (2, 126), (3, 135), (4, 149), (5, 158)]), (108, .aload_n 0, 1, 0, 0, 0, []), (109, .aload_n 0, 1, 0, 0, 0, []), (110, .invokevirtual 340, 3, 243, 1, 15, []), (113, .invokevirtual 261, 3, 215, 2, 15, []), (116, .ireturn, 1, 0, 0, 0, []), (117, .aload_n 0, 1, 0, 0, 0, []), (118, .aload_n 0, 1, 0, 0, 0, []), (119, .invokevirtual 343, 3, 244, 1, 15, []), (122, .invokevirtual 261, 3, 215, 2, 15, []), (125, .ireturn, 1, 0, 0, 0, []), (126, .aload_n 0, 1, 0, 0, 0, []), (127, .aload_n 0, 1, 0, 0, 0, []), (128, .invokevirtual 346, 3, 245, 1, 15, []), (131, .invokevirtual 261, 3, 215, 2, 15, []), (134, .ireturn, 1, 0, 0, 0, []), (135, .aload_n 0, 1, 0, 0, 0, []), (136, .aload_n 0, 1, 0, 0, 0, []), (137, .invokevirtual 346, 3, 245, 1, 15, []), (140, .aload_n 0, 1, 0, 0, 0, []), (141, .invokevirtual 340, 3, 243, 1, 15, []), (144, .isub, 1, 0, 0, 0, []), (145, .invokevirtual 261, 3, 215, 2, 15, []), (148, .ireturn, 1, 0, 0, 0, []), (149, .aload_n 0, 1, 0, 0, 0, []), (150, .aload_n 0, 1, 0, 0, 0, []), (151, .invokevirtual 349, 3, 246, 1, 15, []), (154, .invokevirtual 261, 3, 215, 2, 15, []), (157, .ireturn, 1, 0, 0, 0, []), (158, .aload_n 0, 1, 0, 0, 0, []), (159, .iload_n 2, 1, 0, 0, 0, []), (160, .invokevirtual 261, 3, 215, 2, 15, []), (163, .ireturn, 1, 0, 0, 0, []), (164, .aload_n 0, 1, 0, 0, 0, []), (165, .aload_n 0, 1, 0, 0, 0, []), (166, .invokevirtual 352, 3, 249, 1, 15, []), (169, .invokevirtual 261, 3, 215, 2, 15, []), (172, .ireturn, 1, 0, 0, 0, [])]
/-- WholeFieldsModel.lost(I)I -/
def k_WFModel_lost : Cd9 := [(0, .aload_n 0, 1, 0, 0, 0, []), (1, .iload_n 1, 1, 0, 0, 0, []), (2, .putfield 107, 3, 14, 1, 0, []), (5, .aload_n 0, 1, 0, 0, 0, []), (6, .iconst (-1), 1, 0, 0, 0, []), (7, .putfield 9, 3, 14, 2, 0, []), (10, .ldc 112, 2, 7, 0, 0, []), (12, .ireturn, 1, 0, 0, 0, [])]
/-- WholeFieldsModel.isYes(I)Z -/
def k_WFModel_isYes : Cd9 := [(0, .iconst 0, 1, 0, 0, 0, []), (1, .istore_n 2, 1, 0, 0, 0, []), (2, .iload_n 2, 1, 0, 0, 0, []), (3, .aload_n 0, 1, 0, 0, 0, []), (4, .getfield 270, 3, 14, 24, 0, []), (7, .if_icmp .ge 34, 3, 41, 0, 0, []), (10, .aload_n 0, 1, 0, 0, 0, []), (11, .getfield 59, 3, 14, 33, 2, []), (14, .iload_n 2, 1, 0, 0, 0, []), (15, .iaload, 1, 0, 0, 0, []), (16, .iload_n 1, 1, 0, 0, 0, []), (17, .if_icmp .ne 18, 3, 35, 0, 0, []), (20, .aload_n 0, 1, 0, 0, 0, []), (21, .iload_n 1, 1, 0, 0, 0, []), (22, .iload_n 2, 1, 0, 0, 0, []), (23, .invokevirtual 305, 3, 231, 3, 15, []), (26, .aload_n 0, 1, 0, 0, 0, []), (27, .getfield 41, 3, 14, 26, 0, []), (30, .if_icmp .le 5, 3, 35, 0, 0, []), (33, .iconst 0, 1, 0, 0, 0, []), (34, .ireturn, 1, 2, 0, 0, []), (35, .iinc 2 1, 3, 0, 0, 0, []), (38, .goto (-36), 3, 2, 0, 0, []), (41, .aload_n 0, 1, 0, 0, 0, []), (42, .iload_n 1, 1, 0, 0, 0, []), (43, .iload_n 1, 1, 0, 0, 0, []), (44, .invokevirtual 321, 3, 239, 3, 15, []), (47, .aload_n 0, 1, 0, 0, 0, []), (48, .getfield 65, 3, 14, 35, 2, []), (51, .iload_n 1, 1, 0, 0, 0, []), (52, .iaload, 1, 0, 0, 0, []), (53, .if_icmp .lt 7, 3, 60, 0, 0, []), (56, .iconst 1, 1, 0, 0, 0, []), (57, .goto 4, 3, 61, 0, 0, []), (60, .iconst 0, 1, 0, 0, 0, []), (61, .ireturn, 1, 2, 0, 0, [])]
/-- WholeFieldsModel.allSums()I -/
def k_WFModel_allSums : Cd9 := [(0, .iconst 0, 1, 0, 0, 0, []), (1, .istore_n 1, 1, 0, 0, 0, []), (2, .iconst 0, 1, 0, 0, 0, []), (3, .istore_n 2, 1, 0, 0, 0, []), (4, .iload_n 2, 1, 0, 0, 0, []), (5, .aload_n 0, 1, 0, 0, 0, []), (6, .getfield 254, 3, 14, 4, 2, []), (9, .getfield 206, 3, 12, 0, 0, []), (12, .if_icmp .ge 18, 3, 30, 0, 0, []), (15, .iload_n 1, 1, 0, 0, 0, []), (16, .aload_n 0, 1, 0, 0, 0, []), (17, .iload_n 2, 1, 0, 0, 0, []), (18, .iload_n 2, 1, 0, 0, 0, []), (19, .invokevirtual 321, 3, 239, 3, 15, []), (22, .iadd, 1, 0, 0, 0, []), (23, .istore_n 1, 1, 0, 0, 0, []), (24, .iinc 2 1, 3, 0, 0, 0, []), (27, .goto (-23), 3, 4, 0, 0, []), (30, .iload_n 1, 1, 0, 0, 0, []), (31, .ireturn, 1, 0, 0, 0, [])]
/-- WholeFieldsModel.allShort()I -/
def k_WFModel_allShort : Cd9 := [(0, .iconst 0, 1, 0, 0, 0, []), (1, .istore_n 1, 1, 0, 0, 0, []), (2, .iconst 0, 1, 0, 0, 0, []), (3, .istore_n 2, 1, 0, 0, 0, []), (4, .iload_n 2, 1, 0, 0, 0, []), (5, .aload_n 0, 1, 0, 0, 0, []), (6, .getfield 254, 3, 14, 4, 2, []), (9, .getfield 206, 3, 12, 0, 0, []), (12, .if_icmp .ge 29, 3, 41, 0, 0, []), (15, .iload_n 1, 1, 0, 0, 0, []), (16, .iconst 0, 1, 0, 0, 0, []), (17, .aload_n 0, 1, 0, 0, 0, []), (18, .getfield 65, 3, 14, 35, 2, []), (21, .iload_n 2, 1, 0, 0, 0, []), (22, .iaload, 1, 0, 0, 0, []), (23, .aload_n 0, 1, 0, 0, 0, []), (24, .iload_n 2, 1, 0, 0, 0, []), (25, .iload_n 2, 1, 0, 0, 0, []), (26, .invokevirtual 321, 3, 239, 3, 15, []), (29, .isub, 1, 0, 0, 0, []), (30, .invokestatic 315, 3, 25, 2, 62, []), (33, .iadd, 1, 0, 0, 0, []), (34, .istore_n 1, 1, 0, 0, 0, []), (35, .iinc 2 1, 3, 0, 0, 0, []), (38, .goto (-34), 3, 4, 0, 0, []), (41, .iload_n 1, 1, 0, 0, 0, []), (42, .ireturn, 1, 0, 0, 0, [])]
/-- WholeFieldsModel.bound()I -/
def k_WFModel_bound : Cd9 := [(0, .iconst 0, 1, 0, 0, 0, []), (1, .istore_n 1, 1, 0, 0, 0, []), (2, .iconst 0, 1, 0, 0, 0, []), (3, .istore_n 2, 1, 0, 0, 0, []), (4, .iload_n 2, 1, 0, 0, 0, []), (5, .aload_n 0, 1, 0, 0, 0, []), (6, .getfield 270, 3, 14, 24, 0, []), (9, .if_icmp .ge 104, 3, 113, 0, 0, []), (12, .aload_n 0, 1, 0, 0, 0, []), (13, .getfield 71, 3, 14, 37, 2, []), (16, .iload_n 2, 1, 0, 0, 0, []), (17, .baload, 1, 0, 0, 0, []), (18, .ifCond .eq 6, 3, 24, 0, 0, []), (21, .goto 86, 3, 107, 0, 0, []), (24, .aload_n 0, 1, 0, 0, 0, []), (25, .getfield 77, 3, 14, 39, 2, []), (28, .aload_n 0, 1, 0, 0, 0, []), (29, .getfield 56, 3, 14, 32, 2, []), (32, .iload_n 2, 1, 0, 0, 0, []), (33, .iaload, 1, 0, 0, 0, []), (34, .iconst (-1), 1, 0, 0, 0, []), (35, .if_icmp .ne 7, 3, 42, 0, 0, []), (38, .iload_n 2, 1, 0, 0, 0, []), (39, .goto 14, 3, 53, 0, 0, []), (42, .bipush 64, 2, 0, 0, 0, []), (44, .aload_n 0, 1, 0, 0, 0, []), (45, .getfield 56, 3, 14, 32, 2, []), (48, .iload_n 2, 1, 0, 0, 0, []), (49, .iaload, 1, 0, 0, 0, []), (50, .imul, 1, 0, 0, 0, []), (51, .iload_n 2, 1, 0, 0, 0, []), (52, .iadd, 1, 0, 0, 0, []), (53, .iaload, 1, 0, 0, 0, []), (54, .istore_n 3, 1, 0, 0, 0, []), (55, .iconst 1, 1, 0, 0, 0, []), (56, .istore 4, 2, 0, 0, 0, []), (58, .iload 4, 2, 0, 0, 0, []), (60, .aload_n 0, 1, 0, 0, 0, []), (61, .getfield 254, 3, 14, 4, 2, []), (64, .getfield 206, 3, 12, 0, 0, []), (67, .if_icmp .ge 36, 3, 103, 0, 0, []), (70, .aload_n 0, 1, 0, 0, 0, []), (71, .getfield 56, 3, 14, 32, 2, []), (74, .iload_n 2, 1, 0, 0, 0, []), (75, .iaload, 1, 0, 0, 0, []), (76, .iconst (-1), 1, 0, 0, 0, []), (77, .if_icmp .ne 26, 3, 103, 0, 0, []), (80, .iload_n 3, 1, 0, 0, 0, []), (81, .aload_n 0, 1, 0, 0, 0, []), (82, .getfield 77, 3, 14, 39, 2, []), (85, .bipush 64, 2, 0, 0, 0, []), (87, .iload 4, 2, 0, 0, 0, []), (89, .imul, 1, 0, 0, 0, []), (90, .iload_n 2, 1, 0, 0, 0, []), (91, .iadd, 1, 0, 0, 0, []), (92, .iaload, 1, 0, 0, 0, []), (93, .invokestatic 315, 3, 25, 2, 62, []), (96, .istore_n 3, 1, 0, 0, 0, []), (97, .iinc 4 1, 3, 0, 0, 0, []), (100, .goto (-42), 3, 58, 0, 0, []), (103, .iload_n 1, 1, 0, 0, 0, []), (104, .iload_n 3, 1, 0, 0, 0, []), (105, .iadd, 1, 0, 0, 0, []), (106, .istore_n 1, 1, 0, 0, 0, []), (107, .iinc 2 1, 3, 0, 0, 0, []), (110, .goto (-106), 3, 4, 0, 0, []), (113, .iload_n 1, 1, 0, 0, 0, []), (114, .ireturn, 1, 0, 0, 0, [])]
/-- WholeFieldsModel.pairs()I -/
def k_WFModel_pairs : Cd9 := [(0, .iconst 0, 1, 0, 0, 0, []), (1, .istore_n 1, 1, 0, 0, 0, []), (2, .iconst 0, 1, 0, 0, 0, []), (3, .istore_n 2, 1, 0, 0, 0, []), (4, .iload_n 2, 1, 0, 0, 0, []), (5, .aload_n 0, 1, 0, 0, 0, []), (6, .getfield 254, 3, 14, 4, 2, []), (9, .getfield 206, 3, 12, 0, 0, []), (12, .if_icmp .ge 50, 3, 62, 0, 0, []), (15, .iconst 0, 1, 0, 0, 0, []), (16, .istore_n 3, 1, 0, 0, 0, []), (17, .iload_n 3, 1, 0, 0, 0, []), (18, .aload_n 0, 1, 0, 0, 0, []), (19, .getfield 254, 3, 14, 4, 2, []), (22, .getfield 206, 3, 12, 0, 0, []), (25, .if_icmp .ge 31, 3, 56, 0, 0, []), (28, .iload_n 1, 1, 0, 0, 0, []), (29, .iload_n 2, 1, 0, 0, 0, []), (30, .iload_n 3, 1, 0, 0, 0, []), (31, .if_icmp .eq 16, 3, 47, 0, 0, []), (34, .aload_n 0, 1, 0, 0, 0, []), (35, .iload_n 2, 1, 0, 0, 0, []), (36, .iload_n 3, 1, 0, 0, 0, []), (37, .invokevirtual 327, 3, 247, 3, 15, []), (40, .ifCond .eq 7, 3, 47, 0, 0, []), (43, .iconst 1, 1, 0, 0, 0, []), (44, .goto 4, 3, 48, 0, 0, []), (47, .iconst 0, 1, 0, 0, 0, []), (48, .iadd, 1, 0, 0, 0, []), (49, .istore_n 1, 1, 0, 0, 0, []), (50, .iinc 3 1, 3, 0, 0, 0, []), (53, .goto (-36), 3, 17, 0, 0, []), (56, .iinc 2 1, 3, 0, 0, 0, []), (59, .goto (-55), 3, 4, 0, 0, []), (62, .iload_n 1, 1, 0, 0, 0, []), (63, .ireturn, 1, 0, 0, 0, [])]
/-- WholeFieldsModel.isEnvying(II)Z -/
def k_WFModel_isEnvying : Cd9 := [(0, .aload_n 0, 1, 0, 0, 0, []), (1, .iload_n 2, 1, 0, 0, 0, []), (2, .invokevirtual 324, 3, 248, 2, 15, []), (5, .ifCond .le 22, 3, 27, 0, 0, []), (8, .aload_n 0, 1, 0, 0, 0, []), (9, .iload_n 1, 1, 0, 0, 0, []), (10, .iload_n 2, 1, 0, 0, 0, []), (11, .invokevirtual 321, 3, 239, 3, 15, []), (14, .aload_n 0, 1, 0, 0, 0, []), (15, .iload_n 1, 1, 0, 0, 0, []), (16, .iload_n 1, 1, 0, 0, 0, []), (17, .invokevirtual 321, 3, 239, 3, 15, []), (20, .if_icmp .le 7, 3, 27, 0, 0, []), (23, .iconst 1, 1, 0, 0, 0, []), (24, .goto 4, 3, 28, 0, 0, []), (27, .iconst 0, 1, 0, 0, 0, []), (28, .ireturn, 1, 2, 0, 0, [])]
/-- WholeFieldsModel.many(I)I -/
def k_WFModel_many : Cd9 := [(0, .iconst 0, 1, 0, 0, 0, []), (1, .istore_n 2, 1, 0, 0, 0, []), (2, .iconst 0, 1, 0, 0, 0, []), (3, .istore_n 3, 1, 0, 0, 0, []), (4, .iload_n 3, 1, 0, 0, 0, []), (5, .aload_n 0, 1, 0, 0, 0, []), (6, .getfield 270, 3, 14, 24, 0, []), (9, .if_icmp .ge 27, 3, 36, 0, 0, []), (12, .iload_n 2, 1, 0, 0, 0, []), (13, .aload_n 0, 1, 0, 0, 0, []), (14, .getfield 59, 3, 14, 33, 2, []), (17, .iload_n 3, 1, 0, 0, 0, []), (18, .iaload, 1, 0, 0, 0, []), (19, .iload_n 1, 1, 0, 0, 0, []), (20, .if_icmp .ne 7, 3, 27, 0, 0, []), (23, .iconst 1, 1, 0, 0, 0, []), (24, .goto 4, 3, 28, 0, 0, []), (27, .iconst 0, 1, 0, 0, 0, []), (28, .iadd, 1, 0, 0, 0, []), (29, .istore_n 2, 1, 0, 0, 0, []), (30, .iinc 3 1, 3, 0, 0, 0, []), (33, .goto (-29), 3, 4, 0, 0, []), (36, .iload_n 2, 1, 0, 0, 0, []), (37, .ireturn, 1, 0, 0, 0, [])]
/-- WholeFieldsModel.borders()I -/
def k_WFModel_borders : Cd9 := [(0, .iconst 0, 1, 0, 0, 0, []), (1, .istore_n 1, 1, 0, 0, 0, []), (2, .iconst 0, 1, 0, 0, 0, []), (3, .istore_n 2, 1, 0, 0, 0, []), (4, .iload_n 2, 1, 0, 0, 0, []), (5, .aload_n 0, 1, 0, 0, 0, []), (6, .getfield 270, 3, 14, 24, 0, []), (9, .if_icmp .ge 80, 3, 89, 0, 0, []), (12, .aload_n 0, 1, 0, 0, 0, []), (13, .iload_n 2, 1, 0, 0, 0, []), (14, .iconst 0, 1, 0, 0, 0, []), (15, .invokevirtual 296, 3, 234, 3, 15, []), (18, .istore_n 3, 1, 0, 0, 0, []), (19, .aload_n 0, 1, 0, 0, 0, []), (20, .iload_n 2, 1, 0, 0, 0, []), (21, .iconst 3, 1, 0, 0, 0, []), (22, .invokevirtual 296, 3, 234, 3, 15, []), (25, .istore 4, 2, 0, 0, 0, []), (27, .iload_n 1, 1, 0, 0, 0, []), (28, .iload_n 3, 1, 0, 0, 0, []), (29, .iconst (-1), 1, 0, 0, 0, []), (30, .if_icmp .eq 22, 3, 52, 0, 0, []), (33, .aload_n 0, 1, 0, 0, 0, []), (34, .getfield 59, 3, 14, 33, 2, []), (37, .iload_n 3, 1, 0, 0, 0, []), (38, .iaload, 1, 0, 0, 0, []), (39, .aload_n 0, 1, 0, 0, 0, []), (40, .getfield 59, 3, 14, 33, 2, []), (43, .iload_n 2, 1, 0, 0, 0, []), (44, .iaload, 1, 0, 0, 0, []), (45, .if_icmp .eq 7, 3, 52, 0, 0, []), (48, .iconst 1, 1, 0, 0, 0, []), (49, .goto 4, 3, 53, 0, 0, []), (52, .iconst 0, 1, 0, 0, 0, []), (53, .iload 4, 2, 0, 0, 0, []), (55, .iconst (-1), 1, 0, 0, 0, []), (56, .if_icmp .eq 23, 3, 79, 0, 0, []), (59, .aload_n 0, 1, 0, 0, 0, []), (60, .getfield 59, 3, 14, 33, 2, []), (63, .iload 4, 2, 0, 0, 0, []), (65, .iaload, 1, 0, 0, 0, []), (66, .aload_n 0, 1, 0, 0, 0, []), (67, .getfield 59, 3, 14, 33, 2, []), (70, .iload_n 2, 1, 0, 0, 0, []), (71, .iaload, 1, 0, 0, 0, []), (72, .if_icmp .eq 7, 3, 79, 0, 0, []), (75, .iconst 1, 1, 0, 0, 0, []), (76, .goto 4, 3, 80, 0, 0, []), (79, .iconst 0, 1, 0, 0, 0, []), (80, .iadd, 1, 0, 0, 0, []), (81, .iadd, 1, 0, 0, 0, []), (82, .istore_n 1, 1, 0, 0, 0, []), (83, .iinc 2 1, 3, 0, 0, 0, []), (86, .goto (-82), 3, 4, 0, 0, []), (89, .iload_n 1, 1, 0, 0, 0, []), (90, .ireturn, 1, 0, 0, 0, [])]
/-- WholeFieldsModel.bars()I -/
def k_WFModel_bars : Cd9 := [(0, .aload_n 0, 1, 0, 0, 0, []), (1, .iconst 0, 1, 0, 0, 0, []), (2, .putfield 104, 3, 14, 0, 0, []), (5, .aload_n 0, 1, 0, 0, 0, []), (6, .getfield 270, 3, 14, 24, 0, []), (9, .ifCond .ne 9, 3, 18, 0, 0, []), (12, .aload_n 0, 1, 0, 0, 0, []), (13, .iconst 1, 1, 0, 0, 0, []), (14, .invokevirtual 244, 3, 187, 2, 15, []), (17, .ireturn, 1, 0, 0, 0, []), (18, .aload_n 0, 1, 0, 0, 0, []), (19, .invokevirtual 365, 3, 251, 1, 15, []), (22, .istore_n 1, 1, 0, 0, 0, []), (23, .aload_n 0, 1, 0, 0, 0, []), (24, .iload_n 1, 1, 0, 0, 0, []), (25, .ifCond .ne 8, 3, 33, 0, 0, []), (28, .bipush (-2), 2, 0, 0, 0, []), (30, .goto 7, 3, 37, 0, 0, []), (33, .aload_n 0, 1, 0, 0, 0, []), (34, .getfield 355, 3, 14, 42, 0, []), (37, .putfield 44, 3, 14, 28, 0, []), (40, .aload_n 0, 1, 0, 0, 0, []), (41, .iload_n 1, 1, 0, 0, 0, []), (42, .invokevirtual 261, 3, 215, 2, 15, []), (45, .ireturn, 1, 0, 0, 0, [])]
/-- WholeFieldsModel.barsNow()I -/
def k_WFModel_barsNow : Cd9 := [(0, .aload_n 0, 1, 0, 0, 0, []), (1, .iconst 0, 1, 0, 0, 0, []), (2, .putfield 355, 3, 14, 42, 0, []), (5, .aload_n 0, 1, 0, 0, 0, []), (6, .getfield 355, 3, 14, 42, 0, []), (9, .aload_n 0, 1, 0, 0, 0, []), (10, .getfield 270, 3, 14, 24, 0, []), (13, .if_icmp .ge 43, 3, 56, 0, 0, []), (16, .aload_n 0, 1, 0, 0, 0, []), (17, .getfield 59, 3, 14, 33, 2, []), (20, .aload_n 0, 1, 0, 0, 0, []), (21, .getfield 355, 3, 14, 42, 0, []), (24, .iaload, 1, 0, 0, 0, []), (25, .iconst (-1), 1, 0, 0, 0, []), (26, .if_icmp .ne 17, 3, 43, 0, 0, []), (29, .aload_n 0, 1, 0, 0, 0, []), (30, .getfield 71, 3, 14, 37, 2, []), (33, .aload_n 0, 1, 0, 0, 0, []), (34, .getfield 355, 3, 14, 42, 0, []), (37, .baload, 1, 0, 0, 0, []), (38, .ifCond .ne 5, 3, 43, 0, 0, []), (41, .iconst 1, 1, 0, 0, 0, []), (42, .ireturn, 1, 0, 0, 0, []), (43, .aload_n 0, 1, 0, 0, 0, []), (44, .dup, 1, 0, 0, 0, []), (45, .getfield 355, 3, 14, 42, 0, []), (48, .iconst 1, 1, 0, 0, 0, []), (49, .iadd, 1, 0, 0, 0, []), (50, .putfield 355, 3, 14, 42, 0, []), (53, .goto (-48), 3, 5, 0, 0, []), (56, .aload_n 0, 1, 0, 0, 0, []), (57, .iconst 0, 1, 0, 0, 0, []), (58, .putfield 355, 3, 14, 42, 0, []), (61, .aload_n 0, 1, 0, 0, 0, []), (62, .getfield 355, 3, 14, 42, 0, []), (65, .aload_n 0, 1, 0, 0, 0, []), (66, .getfield 270, 3, 14, 24, 0, []), (69, .if_icmp .ge 52, 3, 121, 0, 0, []), (72, .aload_n 0, 1, 0, 0, 0, []), (73, .getfield 56, 3, 14, 32, 2, []), (76, .aload_n 0, 1, 0, 0, 0, []), (77, .getfield 355, 3, 14, 42, 0, []), (80, .iaload, 1, 0, 0, 0, []), (81, .iconst (-1), 1, 0, 0, 0, []), (82, .if_icmp .eq 26, 3, 108, 0, 0, []), (85, .aload_n 0, 1, 0, 0, 0, []), (86, .getfield 59, 3, 14, 33, 2, []), (89, .aload_n 0, 1, 0, 0, 0, []), (90, .getfield 355, 3, 14, 42, 0, []), (93, .iaload, 1, 0, 0, 0, []), (94, .aload_n 0, 1, 0, 0, 0, []), (95, .getfield 56, 3, 14, 32, 2, []), (98, .aload_n 0, 1, 0, 0, 0, []), (99, .getfield 355, 3, 14, 42, 0, []), (102, .iaload, 1, 0, 0, 0, []), (103, .if_icmp .eq 5, 3, 108, 0, 0, []), (106, .iconst 2, 1, 0, 0, 0, []), (107, .ireturn, 1, 0, 0, 0, []), (108, .aload_n 0, 1, 0, 0, 0, []), (109, .dup, 1, 0, 0, 0, []), (110, .getfield 355, 3, 14, 42, 0, []), (113, .iconst 1, 1, 0, 0, 0, []), (114, .iadd, 1, 0, 0, 0, []), (115, .putfield 355, 3, 14, 42, 0, []), (118, .goto (-57), 3, 61, 0, 0, []), (121, .aload_n 0, 1, 0, 0, 0, []), (122, .iconst 0, 1, 0, 0, 0, []), (123, .putfield 355, 3, 14, 42, 0, []), (126, .aload_n 0, 1, 0, 0, 0, []), (127, .getfield 355, 3, 14, 42, 0, []), (130, .aload_n 0, 1, 0, 0, 0, []), (131, .getfield 254, 3, 14, 4, 2, []), (134, .getfield 206, 3, 12, 0, 0, []), (137, .if_icmp .ge 33, 3, 170, 0, 0, []), (140, .aload_n 0, 1, 0, 0, 0, []), (141, .aload_n 0, 1, 0, 0, 0, []), (142, .getfield 59, 3, 14, 33, 2, []), (145, .aload_n 0, 1, 0, 0, 0, []), (146, .getfield 355, 3, 14, 42, 0, []), (149, .invokevirtual 358, 3, 252, 3, 15, []), (152, .ifCond .ne 5, 3, 157, 0, 0, []), (155, .iconst 3, 1, 0, 0, 0, []), (156, .ireturn, 1, 0, 0, 0, []), (157, .aload_n 0, 1, 0, 0, 0, []), (158, .dup, 1, 0, 0, 0, []), (159, .getfield 355, 3, 14, 42, 0, []), (162, .iconst 1, 1, 0, 0, 0, []), (163, .iadd, 1, 0, 0, 0, []), (164, .putfield 355, 3, 14, 42, 0, []), (167, .goto (-41), 3, 126, 0, 0, []), (170, .aload_n 0, 1, 0, 0, 0, []), (171, .iconst 0, 1, 0, 0, 0, []), (172, .putfield 355, 3, 14, 42, 0, []), (175, .aload_n 0, 1, 0, 0, 0, []), (176, .getfield 355, 3, 14, 42, 0, []), (179, .aload_n 0, 1, 0, 0, 0, []), (180, .getfield 270, 3, 14, 24, 0, []), (183, .if_icmp .ge 50, 3, 233, 0, 0, []), (186, .aload_n 0, 1, 0, 0, 0, []), (187, .getfield 38, 3, 14, 25, 0, []), (190, .iconst 2, 1, 0, 0, 0, []), (191, .if_icmp .ne 42, 3, 233, 0, 0, []), (194, .aload_n 0, 1, 0, 0, 0, []), (195, .getfield 59, 3, 14, 33, 2, []), (198, .aload_n 0, 1, 0, 0, 0, []), (199, .getfield 355, 3, 14, 42, 0, []), (202, .iaload, 1, 0, 0, 0, []), (203, .iconst (-1), 1, 0, 0, 0, []), (204, .if_icmp .eq 16, 3, 220, 0, 0, []), (207, .aload_n 0, 1, 0, 0, 0, []), (208, .aload_n 0, 1, 0, 0, 0, []), (209, .getfield 355, 3, 14, 42, 0, []), (212, .invokevirtual 362, 3, 253, 2, 15, []), (215, .ifCond .ne 5, 3, 220, 0, 0, []), (218, .iconst 4, 1, 0, 0, 0, []), (219, .ireturn, 1, 0, 0, 0, []), (220, .aload_n 0, 1, 0, 0, 0, []), (221, .dup, 1, 0, 0, 0, []), (222, .getfield 355, 3, 14, 42, 0, []), (225, .iconst 1, 1, 0, 0, 0, []), (226, .iadd, 1, 0, 0, 0, []), (227, .putfield 355, 3, 14, 42, 0, []), (230, .goto (-55), 3, 175, 0, 0, []), (233, .iconst 0, 1, 0, 0, 0, []), (234, .ireturn, 1, 0, 0, 0, [])]
/-- WholeFieldsModel.hangs([II)Z -/
def k_WFModel_hangs : Cd9 := [(0, .iconst 0, 1, 0, 0, 0, []), (1, .istore_n 3, 1, 0, 0, 0, []), (2, .iconst 0, 1, 0, 0, 0, []), (3, .istore 4, 2, 0, 0, 0, []), (5, .iconst 0, 1, 0, 0, 0, []), (6, .istore 5, 2, 0, 0, 0, []), (8, .iload 5, 2, 0, 0, 0, []), (10, .aload_n 0, 1, 0, 0, 0, []), (11, .getfield 270, 3, 14, 24, 0, []), (14, .if_icmp .ge 35, 3, 49, 0, 0, []), (17, .aload_n 0, 1, 0, 0, 0, []), (18, .getfield 83, 3, 14, 41, 2, []), (21, .iload 5, 2, 0, 0, 0, []), (23, .iconst 0, 1, 0, 0, 0, []), (24, .bastore, 1, 0, 0, 0, []), (25, .iload 4, 2, 0, 0, 0, []), (27, .aload_n 1, 1, 0, 0, 0, []), (28, .iload 5, 2, 0, 0, 0, []), (30, .iaload, 1, 0, 0, 0, []), (31, .iload_n 2, 1, 0, 0, 0, []), (32, .if_icmp .ne 7, 3, 39, 0, 0, []), (35, .iconst 1, 1, 0, 0, 0, []), (36, .goto 4, 3, 40, 0, 0, []), (39, .iconst 0, 1, 0, 0, 0, []), (40, .iadd, 1, 0, 0, 0, []), (41, .istore 4, 2, 0, 0, 0, []), (43, .iinc 5 1, 3, 0, 0, 0, []), (46, .goto (-38), 3, 8, 0, 0, []), (49, .iconst 0, 1, 0, 0, 0, []), (50, .istore 5, 2, 0, 0, 0, []), (52, .iload 5, 2, 0, 0, 0, []), (54, .aload_n 0, 1, 0, 0, 0, []), (55, .getfield 270, 3, 14, 24, 0, []), (58, .if_icmp .ge 42, 3, 100, 0, 0, []), (61, .iload_n 3, 1, 0, 0, 0, []), (62, .ifCond .ne 38, 3, 100, 0, 0, []), (65, .aload_n 1, 1, 0, 0, 0, []), (66, .iload 5, 2, 0, 0, 0, []), (68, .iaload, 1, 0, 0, 0, []), (69, .iload_n 2, 1, 0, 0, 0, []), (70, .if_icmp .eq 6, 3, 76, 0, 0, []), (73, .goto 21, 3, 94, 0, 0, []), (76, .aload_n 0, 1, 0, 0, 0, []), (77, .getfield 80, 3, 14, 40, 2, []), (80, .iconst 0, 1, 0, 0, 0, []), (81, .iload 5, 2, 0, 0, 0, []), (83, .iastore, 1, 0, 0, 0, []), (84, .aload_n 0, 1, 0, 0, 0, []), (85, .getfield 83, 3, 14, 41, 2, []), (88, .iload 5, 2, 0, 0, 0, []), (90, .iconst 1, 1, 0, 0, 0, []), (91, .bastore, 1, 0, 0, 0, []), (92, .iconst 1, 1, 0, 0, 0, []), (93, .istore_n 3, 1, 0, 0, 0, []), (94, .iinc 5 1, 3, 0, 0, 0, []), (97, .goto (-45), 3, 52, 0, 0, []), (100, .iconst 0, 1, 0, 0, 0, []), (101, .istore 5, 2, 0, 0, 0, []), (103, .iload 5, 2, 0, 0, 0, []), (105, .iload_n 3, 1, 0, 0, 0, []), (106, .if_icmp .ge 85, 3, 191, 0, 0, []), (109, .iconst 0, 1, 0, 0, 0, []), (110, .istore 6, 2, 0, 0, 0, []), (112, .iload 6, 2, 0, 0, 0, []), (114, .iconst 4, 1, 0, 0, 0, []), (115, .if_icmp .ge 70, 3, 185, 0, 0, []), (118, .aload_n 0, 1, 0, 0, 0, []), (119, .aload_n 0, 1, 0, 0, 0, []), (120, .getfield 80, 3, 14, 40, 2, []), (123, .iload 5, 2, 0, 0, 0, []), (125, .iaload, 1, 0, 0, 0, []), (126, .iload 6, 2, 0, 0, 0, []), (128, .invokevirtual 296, 3, 234, 3, 15, []), (131, .istore 7, 2, 0, 0, 0, []), (133, .iload 7, 2, 0, 0, 0, []), (135, .iconst (-1), 1, 0, 0, 0, []), (136, .if_icmp .eq 43, 3, 179, 0, 0, []), (139, .aload_n 0, 1, 0, 0, 0, []), (140, .getfield 83, 3, 14, 41, 2, []), (143, .iload 7, 2, 0, 0, 0, []), (145, .baload, 1, 0, 0, 0, []), (146, .ifCond .ne 33, 3, 179, 0, 0, []), (149, .aload_n 1, 1, 0, 0, 0, []), (150, .iload 7, 2, 0, 0, 0, []), (152, .iaload, 1, 0, 0, 0, []), (153, .iload_n 2, 1, 0, 0, 0, []), (154, .if_icmp .eq 6, 3, 160, 0, 0, []), (157, .goto 22, 3, 179, 0, 0, []), (160, .aload_n 0, 1, 0, 0, 0, []), (161, .getfield 83, 3, 14, 41, 2, []), (164, .iload 7, 2, 0, 0, 0, []), (166, .iconst 1, 1, 0, 0, 0, []), (167, .bastore, 1, 0, 0, 0, []), (168, .aload_n 0, 1, 0, 0, 0, []), (169, .getfield 80, 3, 14, 40, 2, []), (172, .iload_n 3, 1, 0, 0, 0, []), (173, .iload 7, 2, 0, 0, 0, []), (175, .iastore, 1, 0, 0, 0, []), (176, .iinc 3 1, 3, 0, 0, 0, []), (179, .iinc 6 1, 3, 0, 0, 0, []), (182, .goto (-70), 3, 112, 0, 0, []), (185, .iinc 5 1, 3, 0, 0, 0, []), (188, .goto (-85), 3, 103, 0, 0, []), (191, .iload_n 3, 1, 0, 0, 0, []), (192, .iload 4, 2, 0, 0, 0, []), (194, .if_icmp .ne 7, 3, 201, 0, 0, []), (197, .iconst 1, 1, 0, 0, 0, []), (198, .goto 4, 3, 202, 0, 0, []), (201, .iconst 0, 1, 0, 0, 0, []), (202, .ireturn, 1, 2, 0, 0, [])]
/-- WholeFieldsModel.isSquare(I)Z -/
def k_WFModel_isSquare : Cd9 := [(0, .iconst 0, 1, 0, 0, 0, []), (1, .istore_n 2, 1, 0, 0, 0, []), (2, .iload_n 2, 1, 0, 0, 0, []), (3, .iconst 4, 1, 0, 0, 0, []), (4, .if_icmp .ge 147, 3, 151, 0, 0, []), (7, .iload_n 1, 1, 0, 0, 0, []), (8, .aload_n 0, 1, 0, 0, 0, []), (9, .getfield 264, 3, 14, 22, 0, []), (12, .irem, 1, 0, 0, 0, []), (13, .iload_n 2, 1, 0, 0, 0, []), (14, .iconst 2, 1, 0, 0, 0, []), (15, .irem, 1, 0, 0, 0, []), (16, .isub, 1, 0, 0, 0, []), (17, .istore_n 3, 1, 0, 0, 0, []), (18, .iload_n 1, 1, 0, 0, 0, []), (19, .aload_n 0, 1, 0, 0, 0, []), (20, .getfield 264, 3, 14, 22, 0, []), (23, .idiv, 1, 0, 0, 0, []), (24, .iload_n 2, 1, 0, 0, 0, []), (25, .iconst 2, 1, 0, 0, 0, []), (26, .idiv, 1, 0, 0, 0, []), (27, .isub, 1, 0, 0, 0, []), (28, .istore 4, 2, 0, 0, 0, []), (30, .iload_n 3, 1, 0, 0, 0, []), (31, .iconst 0, 1, 0, 0, 0, []), (32, .aload_n 0, 1, 0, 0, 0, []), (33, .getfield 264, 3, 14, 22, 0, []), (36, .iconst 2, 1, 0, 0, 0, []), (37, .isub, 1, 0, 0, 0, []), (38, .invokestatic 276, 3, 219, 3, 0, []), (41, .ifCond .eq 104, 3, 145, 0, 0, []), (44, .iload 4, 2, 0, 0, 0, []), (46, .iconst 0, 1, 0, 0, 0, []), (47, .aload_n 0, 1, 0, 0, 0, []), (48, .getfield 267, 3, 14, 23, 0, []), (51, .iconst 2, 1, 0, 0, 0, []), (52, .isub, 1, 0, 0, 0, []), (53, .invokestatic 276, 3, 219, 3, 0, []), (56, .ifCond .ne 6, 3, 62, 0, 0, []), (59, .goto 86, 3, 145, 0, 0, []), (62, .aload_n 0, 1, 0, 0, 0, []), (63, .getfield 264, 3, 14, 22, 0, []), (66, .iload 4, 2, 0, 0, 0, []), (68, .imul, 1, 0, 0, 0, []), (69, .iload_n 3, 1, 0, 0, 0, []), (70, .iadd, 1, 0, 0, 0, []), (71, .istore 5, 2, 0, 0, 0, []), (73, .aload_n 0, 1, 0, 0, 0, []), (74, .getfield 59, 3, 14, 33, 2, []), (77, .iload_n 1, 1, 0, 0, 0, []), (78, .iaload, 1, 0, 0, 0, []), (79, .istore 6, 2, 0, 0, 0, []), (81, .aload_n 0, 1, 0, 0, 0, []), (82, .getfield 59, 3, 14, 33, 2, []), (85, .iload 5, 2, 0, 0, 0, []), (87, .iaload, 1, 0, 0, 0, []), (88, .iload 6, 2, 0, 0, 0, []), (90, .if_icmp .ne 55, 3, 145, 0, 0, []), (93, .aload_n 0, 1, 0, 0, 0, []), (94, .getfield 59, 3, 14, 33, 2, []), (97, .iload 5, 2, 0, 0, 0, []), (99, .iconst 1, 1, 0, 0, 0, []), (100, .iadd, 1, 0, 0, 0, []), (101, .iaload, 1, 0, 0, 0, []), (102, .iload 6, 2, 0, 0, 0, []), (104, .if_icmp .ne 41, 3, 145, 0, 0, []), (107, .aload_n 0, 1, 0, 0, 0, []), (108, .getfield 59, 3, 14, 33, 2, []), (111, .iload 5, 2, 0, 0, 0, []), (113, .aload_n 0, 1, 0, 0, 0, []), (114, .getfield 264, 3, 14, 22, 0, []), (117, .iadd, 1, 0, 0, 0, []), (118, .iaload, 1, 0, 0, 0, []), (119, .iload 6, 2, 0, 0, 0, []), (121, .if_icmp .ne 24, 3, 145, 0, 0, []), (124, .aload_n 0, 1, 0, 0, 0, []), (125, .getfield 59, 3, 14, 33, 2, []), (128, .iload 5, 2, 0, 0, 0, []), (130, .aload_n 0, 1, 0, 0, 0, []), (131, .getfield 264, 3, 14, 22, 0, []), (134, .iadd, 1, 0, 0, 0, []), (135, .iconst 1, 1, 0, 0, 0, []), (136, .iadd, 1, 0, 0, 0, []), (137, .iaload, 1, 0, 0, 0, []), (138, .iload 6, 2, 0, 0, 0, []), (140, .if_icmp .ne 5, 3, 145, 0, 0, []), (143, .iconst 1, 1, 0, 0, 0, []), (144, .ireturn, 1, 2, 0, 0, []), (145, .iinc 2 1, 3, 0, 0, 0, []), (148, .goto (-146), 3, 2, 0, 0, []), (151, .iconst 0, 1, 0, 0, 0, []), (152, .ireturn, 1, 2, 0, 0, [])]
/-- WholeFieldsModel.barred()I -/
def k_WFModel_barred : Cd9 := [(0, .aload_n 0, 1, 0, 0, 0, []), (1, .iconst 0, 1, 0, 0, 0, []), (2, .putfield 104, 3, 14, 0, 0, []), (5, .aload_n 0, 1, 0, 0, 0, []), (6, .getfield 44, 3, 14, 28, 0, []), (9, .ireturn, 1, 0, 0, 0, [])]
/-- WholeFieldsModel.envies(II)I -/
def k_WFModel_envies : Cd9 := [(0, .aload_n 0, 1, 0, 0, 0, []), (1, .iconst 0, 1, 0, 0, 0, []), (2, .putfield 104, 3, 14, 0, 0, []), (5, .aload_n 0, 1, 0, 0, 0, []), (6, .iload_n 1, 1, 0, 0, 0, []), (7, .invokevirtual 289, 3, 225, 2, 15, []), (10, .ifCond .eq 16, 3, 26, 0, 0, []), (13, .aload_n 0, 1, 0, 0, 0, []), (14, .iload_n 2, 1, 0, 0, 0, []), (15, .invokevirtual 289, 3, 225, 2, 15, []), (18, .ifCond .eq 8, 3, 26, 0, 0, []), (21, .iload_n 1, 1, 0, 0, 0, []), (22, .iload_n 2, 1, 0, 0, 0, []), (23, .if_icmp .ne 9, 3, 32, 0, 0, []), (26, .aload_n 0, 1, 0, 0, 0, []), (27, .iconst 1, 1, 0, 0, 0, []), (28, .invokevirtual 244, 3, 187, 2, 15, []), (31, .ireturn, 1, 0, 0, 0, []), (32, .aload_n 0, 1, 0, 0, 0, []), (33, .invokevirtual 331, 3, 238, 1, 15, []), (36, .aload_n 0, 1, 0, 0, 0, []), (37, .aload_n 0, 1, 0, 0, 0, []), (38, .iload_n 1, 1, 0, 0, 0, []), (39, .iload_n 2, 1, 0, 0, 0, []), (40, .invokevirtual 327, 3, 247, 3, 15, []), (43, .ifCond .eq 7, 3, 50, 0, 0, []), (46, .iconst 1, 1, 0, 0, 0, []), (47, .goto 4, 3, 51, 0, 0, []), (50, .iconst 0, 1, 0, 0, 0, []), (51, .invokevirtual 261, 3, 215, 2, 15, []), (54, .ireturn, 1, 0, 0, 0, [])]
/-- WholeFieldsModel.votes(I)I -/
def k_WFModel_votes : Cd9 := [(0, .aload_n 0, 1, 0, 0, 0, []), (1, .iconst 0, 1, 0, 0, 0, []), (2, .putfield 104, 3, 14, 0, 0, []), (5, .aload_n 0, 1, 0, 0, 0, []), (6, .iload_n 1, 1, 0, 0, 0, []), (7, .invokevirtual 289, 3, 225, 2, 15, []), (10, .ifCond .ne 9, 3, 19, 0, 0, []), (13, .aload_n 0, 1, 0, 0, 0, []), (14, .iconst 1, 1, 0, 0, 0, []), (15, .invokevirtual 244, 3, 187, 2, 15, []), (18, .ireturn, 1, 0, 0, 0, []), (19, .aload_n 0, 1, 0, 0, 0, []), (20, .invokevirtual 331, 3, 238, 1, 15, []), (23, .aload_n 0, 1, 0, 0, 0, []), (24, .aload_n 0, 1, 0, 0, 0, []), (25, .iload_n 1, 1, 0, 0, 0, []), (26, .invokevirtual 337, 3, 242, 2, 15, []), (29, .ifCond .eq 7, 3, 36, 0, 0, []), (32, .iconst 1, 1, 0, 0, 0, []), (33, .goto 4, 3, 37, 0, 0, []), (36, .iconst 0, 1, 0, 0, 0, []), (37, .invokevirtual 261, 3, 215, 2, 15, []), (40, .ireturn, 1, 0, 0, 0, [])]
/-- WholeFieldsModel.grow()I -/
def k_WFModel_grow : Cd9 := [(0, .aload_n 0, 1, 0, 0, 0, []), (1, .iconst 0, 1, 0, 0, 0, []), (2, .putfield 104, 3, 14, 0, 0, []), (5, .aload_n 0, 1, 0, 0, 0, []), (6, .getfield 270, 3, 14, 24, 0, []), (9, .ifCond .ne 9, 3, 18, 0, 0, []), (12, .aload_n 0, 1, 0, 0, 0, []), (13, .iconst 1, 1, 0, 0, 0, []), (14, .invokevirtual 244, 3, 187, 2, 15, []), (17, .ireturn, 1, 0, 0, 0, []), (18, .aload_n 0, 1, 0, 0, 0, []), (19, .invokevirtual 331, 3, 238, 1, 15, []), (22, .iconst 0, 1, 0, 0, 0, []), (23, .istore_n 1, 1, 0, 0, 0, []), (24, .iload_n 1, 1, 0, 0, 0, []), (25, .aload_n 0, 1, 0, 0, 0, []), (26, .getfield 270, 3, 14, 24, 0, []), (29, .if_icmp .ge 21, 3, 50, 0, 0, []), (32, .aload_n 0, 1, 0, 0, 0, []), (33, .getfield 59, 3, 14, 33, 2, []), (36, .iload_n 1, 1, 0, 0, 0, []), (37, .aload_n 0, 1, 0, 0, 0, []), (38, .getfield 56, 3, 14, 32, 2, []), (41, .iload_n 1, 1, 0, 0, 0, []), (42, .iaload, 1, 0, 0, 0, []), (43, .iastore, 1, 0, 0, 0, []), (44, .iinc 1 1, 3, 0, 0, 0, []), (47, .goto (-23), 3, 24, 0, 0, []), (50, .iconst 0, 1, 0, 0, 0, []), (51, .istore_n 1, 1, 0, 0, 0, []), (52, .iload_n 1, 1, 0, 0, 0, []), (53, .aload_n 0, 1, 0, 0, 0, []), (54, .getfield 254, 3, 14, 4, 2, []), (57, .getfield 206, 3, 12, 0, 0, []), (60, .if_icmp .ge 50, 3, 110, 0, 0, []), (63, .aload_n 0, 1, 0, 0, 0, []), (64, .getfield 59, 3, 14, 33, 2, []), (67, .aload_n 0, 1, 0, 0, 0, []), (68, .getfield 62, 3, 14, 34, 2, []), (71, .iload_n 1, 1, 0, 0, 0, []), (72, .iaload, 1, 0, 0, 0, []), (73, .iaload, 1, 0, 0, 0, []), (74, .iconst (-1), 1, 0, 0, 0, []), (75, .if_icmp .ne 29, 3, 104, 0, 0, []), (78, .aload_n 0, 1, 0, 0, 0, []), (79, .getfield 71, 3, 14, 37, 2, []), (82, .aload_n 0, 1, 0, 0, 0, []), (83, .getfield 62, 3, 14, 34, 2, []), (86, .iload_n 1, 1, 0, 0, 0, []), (87, .iaload, 1, 0, 0, 0, []), (88, .baload, 1, 0, 0, 0, []), (89, .ifCond .ne 15, 3, 104, 0, 0, []), (92, .aload_n 0, 1, 0, 0, 0, []), (93, .getfield 59, 3, 14, 33, 2, []), (96, .aload_n 0, 1, 0, 0, 0, []), (97, .getfield 62, 3, 14, 34, 2, []), (100, .iload_n 1, 1, 0, 0, 0, []), (101, .iaload, 1, 0, 0, 0, []), (102, .iload_n 1, 1, 0, 0, 0, []), (103, .iastore, 1, 0, 0, 0, []), (104, .iinc 1 1, 3, 0, 0, 0, []), (107, .goto (-55), 3, 52, 0, 0, []), (110, .iconst 1, 1, 0, 0, 0, []), (111, .istore_n 1, 1, 0, 0, 0, []), (112, .iload_n 1, 1, 0, 0, 0, []), (113, .ifCond .eq 50, 3, 163, 0, 0, []), (116, .iconst 0, 1, 0, 0, 0, []), (117, .istore_n 1, 1, 0, 0, 0, []), (118, .iconst 0, 1, 0, 0, 0, []), (119, .istore_n 2, 1, 0, 0, 0, []), (120, .iload_n 2, 1, 0, 0, 0, []), (121, .aload_n 0, 1, 0, 0, 0, []), (122, .getfield 254, 3, 14, 4, 2, []), (125, .getfield 206, 3, 12, 0, 0, []), (128, .if_icmp .ge 32, 3, 160, 0, 0, []), (131, .aload_n 0, 1, 0, 0, 0, []), (132, .iload_n 2, 1, 0, 0, 0, []), (133, .invokevirtual 368, 3, 258, 2, 15, []), (136, .istore_n 3, 1, 0, 0, 0, []), (137, .iload_n 3, 1, 0, 0, 0, []), (138, .iconst (-1), 1, 0, 0, 0, []), (139, .if_icmp .ne 6, 3, 145, 0, 0, []), (142, .goto 12, 3, 154, 0, 0, []), (145, .aload_n 0, 1, 0, 0, 0, []), (146, .getfield 59, 3, 14, 33, 2, []), (149, .iload_n 3, 1, 0, 0, 0, []), (150, .iload_n 2, 1, 0, 0, 0, []), (151, .iastore, 1, 0, 0, 0, []), (152, .iconst 1, 1, 0, 0, 0, []), (153, .istore_n 1, 1, 0, 0, 0, []), (154, .iinc 2 1, 3, 0, 0, 0, []), (157, .goto (-37), 3, 120, 0, 0, []), (160, .goto (-48), 3, 112, 0, 0, []), (163, .iconst 0, 1, 0, 0, 0, []), (164, .istore_n 2, 1, 0, 0, 0, []), (165, .iconst 0, 1, 0, 0, 0, []), (166, .istore_n 3, 1, 0, 0, 0, []), (167, .iload_n 3, 1, 0, 0, 0, []), (168, .aload_n 0, 1, 0, 0, 0, []), (169, .getfield 270, 3, 14, 24, 0, []), (172, .if_icmp .ge 36, 3, 208, 0, 0, []), (175, .iload_n 2, 1, 0, 0, 0, []), (176, .aload_n 0, 1, 0, 0, 0, []), (177, .getfield 59, 3, 14, 33, 2, []), (180, .iload_n 3, 1, 0, 0, 0, []), (181, .iaload, 1, 0, 0, 0, []), (182, .iconst (-1), 1, 0, 0, 0, []), (183, .if_icmp .ne 16, 3, 199, 0, 0, []), (186, .aload_n 0, 1, 0, 0, 0, []), (187, .getfield 71, 3, 14, 37, 2, []), (190, .iload_n 3, 1, 0, 0, 0, []), (191, .baload, 1, 0, 0, 0, []), (192, .ifCond .ne 7, 3, 199, 0, 0, []), (195, .iconst 1, 1, 0, 0, 0, []), (196, .goto 4, 3, 200, 0, 0, []), (199, .iconst 0, 1, 0, 0, 0, []), (200, .iadd, 1, 0, 0, 0, []), (201, .istore_n 2, 1, 0, 0, 0, []), (202, .iinc 3 1, 3, 0, 0, 0, []), (205, .goto (-38), 3, 167, 0, 0, []), (208, .aload_n 0, 1, 0, 0, 0, []), (209, .iload_n 2, 1, 0, 0, 0, []), (210, .invokevirtual 261, 3, 215, 2, 15, []), (213, .ireturn, 1, 0, 0, 0, [])]
/-- WholeFieldsModel.taken(I)I -/
def k_WFModel_taken : Cd9 := [(0, .iconst (-1), 1, 0, 0, 0, []), (1, .istore_n 2, 1, 0, 0, 0, []), (2, .iconst 0, 1, 0, 0, 0, []), (3, .istore_n 3, 1, 0, 0, 0, []), (4, .iload_n 3, 1, 0, 0, 0, []), (5, .aload_n 0, 1, 0, 0, 0, []), (6, .getfield 270, 3, 14, 24, 0, []), (9, .if_icmp .ge 125, 3, 134, 0, 0, []), (12, .aload_n 0, 1, 0, 0, 0, []), (13, .getfield 71, 3, 14, 37, 2, []), (16, .iload_n 3, 1, 0, 0, 0, []), (17, .baload, 1, 0, 0, 0, []), (18, .ifCond .ne 110, 3, 128, 0, 0, []), (21, .aload_n 0, 1, 0, 0, 0, []), (22, .getfield 59, 3, 14, 33, 2, []), (25, .iload_n 3, 1, 0, 0, 0, []), (26, .iaload, 1, 0, 0, 0, []), (27, .iconst (-1), 1, 0, 0, 0, []), (28, .if_icmp .eq 6, 3, 34, 0, 0, []), (31, .goto 97, 3, 128, 0, 0, []), (34, .iconst 0, 1, 0, 0, 0, []), (35, .istore 4, 2, 0, 0, 0, []), (37, .iconst 0, 1, 0, 0, 0, []), (38, .istore 5, 2, 0, 0, 0, []), (40, .iload 5, 2, 0, 0, 0, []), (42, .iconst 4, 1, 0, 0, 0, []), (43, .if_icmp .ge 48, 3, 91, 0, 0, []), (46, .iload 4, 2, 0, 0, 0, []), (48, .ifCond .ne 30, 3, 78, 0, 0, []), (51, .aload_n 0, 1, 0, 0, 0, []), (52, .iload_n 3, 1, 0, 0, 0, []), (53, .iload 5, 2, 0, 0, 0, []), (55, .invokevirtual 296, 3, 234, 3, 15, []), (58, .iconst (-1), 1, 0, 0, 0, []), (59, .if_icmp .eq 23, 3, 82, 0, 0, []), (62, .aload_n 0, 1, 0, 0, 0, []), (63, .getfield 59, 3, 14, 33, 2, []), (66, .aload_n 0, 1, 0, 0, 0, []), (67, .iload_n 3, 1, 0, 0, 0, []), (68, .iload 5, 2, 0, 0, 0, []), (70, .invokevirtual 296, 3, 234, 3, 15, []), (73, .iaload, 1, 0, 0, 0, []), (74, .iload_n 1, 1, 0, 0, 0, []), (75, .if_icmp .ne 7, 3, 82, 0, 0, []), (78, .iconst 1, 1, 0, 0, 0, []), (79, .goto 4, 3, 83, 0, 0, []), (82, .iconst 0, 1, 0, 0, 0, []), (83, .istore 4, 2, 0, 0, 0, []), (85, .iinc 5 1, 3, 0, 0, 0, []), (88, .goto (-48), 3, 40, 0, 0, []), (91, .iload 4, 2, 0, 0, 0, []), (93, .ifCond .eq 35, 3, 128, 0, 0, []), (96, .iload_n 2, 1, 0, 0, 0, []), (97, .iconst (-1), 1, 0, 0, 0, []), (98, .if_icmp .eq 28, 3, 126, 0, 0, []), (101, .aload_n 0, 1, 0, 0, 0, []), (102, .getfield 77, 3, 14, 39, 2, []), (105, .bipush 64, 2, 0, 0, 0, []), (107, .iload_n 1, 1, 0, 0, 0, []), (108, .imul, 1, 0, 0, 0, []), (109, .iload_n 3, 1, 0, 0, 0, []), (110, .iadd, 1, 0, 0, 0, []), (111, .iaload, 1, 0, 0, 0, []), (112, .aload_n 0, 1, 0, 0, 0, []), (113, .getfield 77, 3, 14, 39, 2, []), (116, .bipush 64, 2, 0, 0, 0, []), (118, .iload_n 1, 1, 0, 0, 0, []), (119, .imul, 1, 0, 0, 0, []), (120, .iload_n 2, 1, 0, 0, 0, []), (121, .iadd, 1, 0, 0, 0, []), (122, .iaload, 1, 0, 0, 0, []), (123, .if_icmp .le 5, 3, 128, 0, 0, []), (126, .iload_n 3, 1, 0, 0, 0, []), (127, .istore_n 2, 1, 0, 0, 0, []), (128, .iinc 3 1, 3, 0, 0, 0, []), (131, .goto (-127), 3, 4, 0, 0, []), (134, .iload_n 2, 1, 0, 0, 0, []), (135, .ireturn, 1, 0, 0, 0, [])]
/-- WholeFieldsModel.better(I)I -/
def k_WFModel_better : Cd9 := [(0, .aload_n 0, 1, 0, 0, 0, []), (1, .iconst 0, 1, 0, 0, 0, []), (2, .putfield 104, 3, 14, 0, 0, []), (5, .aload_n 0, 1, 0, 0, 0, []), (6, .getfield 270, 3, 14, 24, 0, []), (9, .ifCond .ne 9, 3, 18, 0, 0, []), (12, .aload_n 0, 1, 0, 0, 0, []), (13, .iconst 1, 1, 0, 0, 0, []), (14, .invokevirtual 244, 3, 187, 2, 15, []), (17, .ireturn, 1, 0, 0, 0, []), (18, .iload_n 1, 1, 0, 0, 0, []), (19, .iconst 1, 1, 0, 0, 0, []), (20, .bipush 100, 2, 0, 0, 0, []), (22, .invokestatic 276, 3, 219, 3, 0, []), (25, .ifCond .ne 9, 3, 34, 0, 0, []), (28, .aload_n 0, 1, 0, 0, 0, []), (29, .iconst 2, 1, 0, 0, 0, []), (30, .invokevirtual 244, 3, 187, 2, 15, []), (33, .ireturn, 1, 0, 0, 0, []), (34, .aload_n 0, 1, 0, 0, 0, []), (35, .invokevirtual 365, 3, 251, 1, 15, []), (38, .ifCond .eq 9, 3, 47, 0, 0, []), (41, .aload_n 0, 1, 0, 0, 0, []), (42, .iconst 5, 1, 0, 0, 0, []), (43, .invokevirtual 244, 3, 187, 2, 15, []), (46, .ireturn, 1, 0, 0, 0, []), (47, .aload_n 0, 1, 0, 0, 0, []), (48, .invokevirtual 331, 3, 238, 1, 15, []), (51, .iconst 0, 1, 0, 0, 0, []), (52, .istore_n 2, 1, 0, 0, 0, []), (53, .iload_n 2, 1, 0, 0, 0, []), (54, .iload_n 1, 1, 0, 0, 0, []), (55, .if_icmp .ge 52, 3, 107, 0, 0, []), (58, .aload_n 0, 1, 0, 0, 0, []), (59, .invokevirtual 393, 3, 260, 1, 15, []), (62, .ifCond .eq 45, 3, 107, 0, 0, []), (65, .aload_n 0, 1, 0, 0, 0, []), (66, .getfield 380, 3, 14, 46, 0, []), (69, .iconst (-1), 1, 0, 0, 0, []), (70, .if_icmp .ne 19, 3, 89, 0, 0, []), (73, .aload_n 0, 1, 0, 0, 0, []), (74, .getfield 59, 3, 14, 33, 2, []), (77, .aload_n 0, 1, 0, 0, 0, []), (78, .getfield 377, 3, 14, 45, 0, []), (81, .aload_n 0, 1, 0, 0, 0, []), (82, .getfield 383, 3, 14, 47, 0, []), (85, .iastore, 1, 0, 0, 0, []), (86, .goto 15, 3, 101, 0, 0, []), (89, .aload_n 0, 1, 0, 0, 0, []), (90, .aload_n 0, 1, 0, 0, 0, []), (91, .getfield 377, 3, 14, 45, 0, []), (94, .aload_n 0, 1, 0, 0, 0, []), (95, .getfield 380, 3, 14, 46, 0, []), (98, .invokevirtual 390, 3, 262, 3, 15, []), (101, .iinc 2 1, 3, 0, 0, 0, []), (104, .goto (-51), 3, 53, 0, 0, []), (107, .aload_n 0, 1, 0, 0, 0, []), (108, .iload_n 2, 1, 0, 0, 0, []), (109, .invokevirtual 261, 3, 215, 2, 15, []), (112, .ireturn, 1, 0, 0, 0, [])]
/-- WholeFieldsModel.isMoved()Z -/
def k_WFModel_isMoved : Cd9 := [(0, .aload_n 0, 1, 0, 0, 0, []), (1, .aload_n 0, 1, 0, 0, 0, []), (2, .invokevirtual 343, 3, 244, 1, 15, []), (5, .putfield 371, 3, 14, 43, 0, []), (8, .aload_n 0, 1, 0, 0, 0, []), (9, .aload_n 0, 1, 0, 0, 0, []), (10, .invokevirtual 340, 3, 243, 1, 15, []), (13, .putfield 374, 3, 14, 44, 0, []), (16, .aload_n 0, 1, 0, 0, 0, []), (17, .iconst (-1), 1, 0, 0, 0, []), (18, .putfield 377, 3, 14, 45, 0, []), (21, .iconst 0, 1, 0, 0, 0, []), (22, .istore_n 1, 1, 0, 0, 0, []), (23, .iload_n 1, 1, 0, 0, 0, []), (24, .aload_n 0, 1, 0, 0, 0, []), (25, .getfield 270, 3, 14, 24, 0, []), (28, .if_icmp .ge 76, 3, 104, 0, 0, []), (31, .aload_n 0, 1, 0, 0, 0, []), (32, .getfield 71, 3, 14, 37, 2, []), (35, .iload_n 1, 1, 0, 0, 0, []), (36, .baload, 1, 0, 0, 0, []), (37, .ifCond .eq 6, 3, 43, 0, 0, []), (40, .goto 58, 3, 98, 0, 0, []), (43, .aload_n 0, 1, 0, 0, 0, []), (44, .getfield 59, 3, 14, 33, 2, []), (47, .iload_n 1, 1, 0, 0, 0, []), (48, .iaload, 1, 0, 0, 0, []), (49, .istore_n 2, 1, 0, 0, 0, []), (50, .iconst 0, 1, 0, 0, 0, []), (51, .istore_n 3, 1, 0, 0, 0, []), (52, .iload_n 3, 1, 0, 0, 0, []), (53, .aload_n 0, 1, 0, 0, 0, []), (54, .getfield 254, 3, 14, 4, 2, []), (57, .getfield 206, 3, 12, 0, 0, []), (60, .if_icmp .ge 31, 3, 91, 0, 0, []), (63, .iload_n 3, 1, 0, 0, 0, []), (64, .iload_n 2, 1, 0, 0, 0, []), (65, .if_icmp .ne 6, 3, 71, 0, 0, []), (68, .goto 17, 3, 85, 0, 0, []), (71, .aload_n 0, 1, 0, 0, 0, []), (72, .getfield 59, 3, 14, 33, 2, []), (75, .iload_n 1, 1, 0, 0, 0, []), (76, .iload_n 3, 1, 0, 0, 0, []), (77, .iastore, 1, 0, 0, 0, []), (78, .aload_n 0, 1, 0, 0, 0, []), (79, .iload_n 1, 1, 0, 0, 0, []), (80, .iconst (-1), 1, 0, 0, 0, []), (81, .iload_n 3, 1, 0, 0, 0, []), (82, .invokevirtual 386, 3, 261, 4, 15, []), (85, .iinc 3 1, 3, 0, 0, 0, []), (88, .goto (-36), 3, 52, 0, 0, []), (91, .aload_n 0, 1, 0, 0, 0, []), (92, .getfield 59, 3, 14, 33, 2, []), (95, .iload_n 1, 1, 0, 0, 0, []), (96, .iload_n 2, 1, 0, 0, 0, []), (97, .iastore, 1, 0, 0, 0, []), (98, .iinc 1 1, 3, 0, 0, 0, []), (101, .goto (-78), 3, 23, 0, 0, []), (104, .iconst 0, 1, 0, 0, 0, []), (105, .istore_n 1, 1, 0, 0, 0, []), (106, .iload_n 1, 1, 0, 0, 0, []), (107, .aload_n 0, 1, 0, 0, 0, []), (108, .getfield 270, 3, 14, 24, 0, []), (111, .if_icmp .ge 82, 3, 193, 0, 0, []), (114, .iload_n 1, 1, 0, 0, 0, []), (115, .iconst 1, 1, 0, 0, 0, []), (116, .iadd, 1, 0, 0, 0, []), (117, .istore_n 2, 1, 0, 0, 0, []), (118, .iload_n 2, 1, 0, 0, 0, []), (119, .aload_n 0, 1, 0, 0, 0, []), (120, .getfield 270, 3, 14, 24, 0, []), (123, .if_icmp .ge 64, 3, 187, 0, 0, []), (126, .aload_n 0, 1, 0, 0, 0, []), (127, .getfield 71, 3, 14, 37, 2, []), (130, .iload_n 1, 1, 0, 0, 0, []), (131, .baload, 1, 0, 0, 0, []), (132, .ifCond .ne 49, 3, 181, 0, 0, []), (135, .aload_n 0, 1, 0, 0, 0, []), (136, .getfield 71, 3, 14, 37, 2, []), (139, .iload_n 2, 1, 0, 0, 0, []), (140, .baload, 1, 0, 0, 0, []), (141, .ifCond .ne 40, 3, 181, 0, 0, []), (144, .aload_n 0, 1, 0, 0, 0, []), (145, .getfield 59, 3, 14, 33, 2, []), (148, .iload_n 1, 1, 0, 0, 0, []), (149, .iaload, 1, 0, 0, 0, []), (150, .aload_n 0, 1, 0, 0, 0, []), (151, .getfield 59, 3, 14, 33, 2, []), (154, .iload_n 2, 1, 0, 0, 0, []), (155, .iaload, 1, 0, 0, 0, []), (156, .if_icmp .ne 6, 3, 162, 0, 0, []), (159, .goto 22, 3, 181, 0, 0, []), (162, .aload_n 0, 1, 0, 0, 0, []), (163, .iload_n 1, 1, 0, 0, 0, []), (164, .iload_n 2, 1, 0, 0, 0, []), (165, .invokevirtual 390, 3, 262, 3, 15, []), (168, .aload_n 0, 1, 0, 0, 0, []), (169, .iload_n 1, 1, 0, 0, 0, []), (170, .iload_n 2, 1, 0, 0, 0, []), (171, .iconst (-1), 1, 0, 0, 0, []), (172, .invokevirtual 386, 3, 261, 4, 15, []), (175, .aload_n 0, 1, 0, 0, 0, []), (176, .iload_n 1, 1, 0, 0, 0, []), (177, .iload_n 2, 1, 0, 0, 0, []), (178, .invokevirtual 390, 3, 262, 3, 15, []), (181, .iinc 2 1, 3, 0, 0, 0, []), (184, .goto (-66), 3, 118, 0, 0, []), (187, .iinc 1 1, 3, 0, 0, 0, []), (190, .goto (-84), 3, 106, 0, 0, []), (193, .aload_n 0, 1, 0, 0, 0, []), (194, .getfield 377, 3, 14, 45, 0, []), (197, .iconst (-1), 1, 0, 0, 0, []), (198, .if_icmp .eq 7, 3, 205, 0, 0, []), (201, .iconst 1, 1, 0, 0, 0, []), (202, .goto 4, 3, 206, 0, 0, []), (205, .iconst 0, 1, 0, 0, 0, []), (206, .ireturn, 1, 2, 0, 0, [])]
/-- WholeFieldsModel.looks(III)V -/
def k_WFModel_looks : Cd9 := [(0, .aload_n 0, 1, 0, 0, 0, []), (1, .invokevirtual 343, 3, 244, 1, 15, []), (4, .istore 4, 2, 0, 0, 0, []), (6, .aload_n 0, 1, 0, 0, 0, []), (7, .invokevirtual 340, 3, 243, 1, 15, []), (10, .istore 5, 2, 0, 0, 0, []), (12, .iload 4, 2, 0, 0, 0, []), (14, .aload_n 0, 1, 0, 0, 0, []), (15, .getfield 371, 3, 14, 43, 0, []), (18, .if_icmp .lt 21, 3, 39, 0, 0, []), (21, .iload 4, 2, 0, 0, 0, []), (23, .aload_n 0, 1, 0, 0, 0, []), (24, .getfield 371, 3, 14, 43, 0, []), (27, .if_icmp .ne 16, 3, 43, 0, 0, []), (30, .iload 5, 2, 0, 0, 0, []), (32, .aload_n 0, 1, 0, 0, 0, []), (33, .getfield 374, 3, 14, 44, 0, []), (36, .if_icmp .le 7, 3, 43, 0, 0, []), (39, .iconst 1, 1, 0, 0, 0, []), (40, .goto 4, 3, 44, 0, 0, []), (43, .iconst 0, 1, 0, 0, 0, []), (44, .istore 6, 2, 0, 0, 0, []), (46, .iload 6, 2, 0, 0, 0, []), (48, .ifCond .eq 10, 3, 58, 0, 0, []), (51, .aload_n 0, 1, 0, 0, 0, []), (52, .invokevirtual 365, 3, 251, 1, 15, []), (55, .ifCond .eq 4, 3, 59, 0, 0, []), (58, .return_, 1, 0, 0, 0, []), (59, .aload_n 0, 1, 0, 0, 0, []), (60, .iload 4, 2, 0, 0, 0, []), (62, .putfield 371, 3, 14, 43, 0, []), (65, .aload_n 0, 1, 0, 0, 0, []), (66, .iload 5, 2, 0, 0, 0, []), (68, .putfield 374, 3, 14, 44, 0, []), (71, .aload_n 0, 1, 0, 0, 0, []), (72, .iload_n 1, 1, 0, 0, 0, []), (73, .putfield 377, 3, 14, 45, 0, []), (76, .aload_n 0, 1, 0, 0, 0, []), (77, .iload_n 2, 1, 0, 0, 0, []), (78, .putfield 380, 3, 14, 46, 0, []), (81, .aload_n 0, 1, 0, 0, 0, []), (82, .iload_n 3, 1, 0, 0, 0, []), (83, .putfield 383, 3, 14, 47, 0, []), (86, .return_, 1, 0, 0, 0, [])]
/-- WholeFieldsModel.exchanges(II)V -/
def k_WFModel_exchanges : Cd9 := [(0, .aload_n 0, 1, 0, 0, 0, []), (1, .getfield 59, 3, 14, 33, 2, []), (4, .iload_n 1, 1, 0, 0, 0, []), (5, .iaload, 1, 0, 0, 0, []), (6, .istore_n 3, 1, 0, 0, 0, []), (7, .aload_n 0, 1, 0, 0, 0, []), (8, .getfield 59, 3, 14, 33, 2, []), (11, .iload_n 1, 1, 0, 0, 0, []), (12, .aload_n 0, 1, 0, 0, 0, []), (13, .getfield 59, 3, 14, 33, 2, []), (16, .iload_n 2, 1, 0, 0, 0, []), (17, .iaload, 1, 0, 0, 0, []), (18, .iastore, 1, 0, 0, 0, []), (19, .aload_n 0, 1, 0, 0, 0, []), (20, .getfield 59, 3, 14, 33, 2, []), (23, .iload_n 2, 1, 0, 0, 0, []), (24, .iload_n 3, 1, 0, 0, 0, []), (25, .iastore, 1, 0, 0, 0, []), (26, .return_, 1, 0, 0, 0, [])]
/-- WholeFieldsModel.can()I -/
def k_WFModel_can : Cd9 := [(0, .aload_n 0, 1, 0, 0, 0, []), (1, .iconst 0, 1, 0, 0, 0, []), (2, .putfield 104, 3, 14, 0, 0, []), (5, .aload_n 0, 1, 0, 0, 0, []), (6, .getfield 270, 3, 14, 24, 0, []), (9, .ifCond .ne 9, 3, 18, 0, 0, []), (12, .aload_n 0, 1, 0, 0, 0, []), (13, .iconst 1, 1, 0, 0, 0, []), (14, .invokevirtual 244, 3, 187, 2, 15, []), (17, .ireturn, 1, 0, 0, 0, []), (18, .aload_n 0, 1, 0, 0, 0, []), (19, .invokevirtual 365, 3, 251, 1, 15, []), (22, .ifCond .eq 9, 3, 31, 0, 0, []), (25, .aload_n 0, 1, 0, 0, 0, []), (26, .iconst 5, 1, 0, 0, 0, []), (27, .invokevirtual 244, 3, 187, 2, 15, []), (30, .ireturn, 1, 0, 0, 0, []), (31, .aload_n 0, 1, 0, 0, 0, []), (32, .invokevirtual 331, 3, 238, 1, 15, []), (35, .aload_n 0, 1, 0, 0, 0, []), (36, .aload_n 0, 1, 0, 0, 0, []), (37, .invokevirtual 393, 3, 260, 1, 15, []), (40, .ifCond .eq 7, 3, 47, 0, 0, []), (43, .iconst 1, 1, 0, 0, 0, []), (44, .goto 4, 3, 48, 0, 0, []), (47, .iconst 0, 1, 0, 0, 0, []), (48, .invokevirtual 261, 3, 215, 2, 15, []), (51, .ireturn, 1, 0, 0, 0, [])]
/-- WholeFieldsModel.best(Z)I -/
def k_WFModel_best : Cd9 := [(0, .aload_n 0, 1, 0, 0, 0, []), (1, .iconst 0, 1, 0, 0, 0, []), (2, .putfield 104, 3, 14, 0, 0, []), (5, .aload_n 0, 1, 0, 0, 0, []), (6, .getfield 270, 3, 14, 24, 0, []), (9, .ifCond .ne 9, 3, 18, 0, 0, []), (12, .aload_n 0, 1, 0, 0, 0, []), (13, .iconst 1, 1, 0, 0, 0, []), (14, .invokevirtual 334, 3, 241, 2, 15, []), (17, .ireturn, 1, 0, 0, 0, []), (18, .iconst 0, 1, 0, 0, 0, []), (19, .istore_n 2, 1, 0, 0, 0, []), (20, .iconst 0, 1, 0, 0, 0, []), (21, .istore_n 3, 1, 0, 0, 0, []), (22, .iload_n 3, 1, 0, 0, 0, []), (23, .aload_n 0, 1, 0, 0, 0, []), (24, .getfield 270, 3, 14, 24, 0, []), (27, .if_icmp .ge 26, 3, 53, 0, 0, []), (30, .iload_n 2, 1, 0, 0, 0, []), (31, .aload_n 0, 1, 0, 0, 0, []), (32, .getfield 71, 3, 14, 37, 2, []), (35, .iload_n 3, 1, 0, 0, 0, []), (36, .baload, 1, 0, 0, 0, []), (37, .ifCond .eq 7, 3, 44, 0, 0, []), (40, .iconst 0, 1, 0, 0, 0, []), (41, .goto 4, 3, 45, 0, 0, []), (44, .iconst 1, 1, 0, 0, 0, []), (45, .iadd, 1, 0, 0, 0, []), (46, .istore_n 2, 1, 0, 0, 0, []), (47, .iinc 3 1, 3, 0, 0, 0, []), (50, .goto (-28), 3, 22, 0, 0, []), (53, .iload_n 2, 1, 0, 0, 0, []), (54, .bipush 9, 2, 0, 0, 0, []), (56, .if_icmp .gt 14, 3, 70, 0, 0, []), (59, .aload_n 0, 1, 0, 0, 0, []), (60, .getfield 254, 3, 14, 4, 2, []), (63, .getfield 206, 3, 12, 0, 0, []), (66, .iconst 3, 1, 0, 0, 0, []), (67, .if_icmp .le 9, 3, 76, 0, 0, []), (70, .aload_n 0, 1, 0, 0, 0, []), (71, .iconst 5, 1, 0, 0, 0, []), (72, .invokevirtual 334, 3, 241, 2, 15, []), (75, .ireturn, 1, 0, 0, 0, []), (76, .aload_n 0, 1, 0, 0, 0, []), (77, .invokevirtual 331, 3, 238, 1, 15, []), (80, .iconst 1, 1, 0, 0, 0, []), (81, .istore_n 3, 1, 0, 0, 0, []), (82, .iconst 0, 1, 0, 0, 0, []), (83, .istore 4, 2, 0, 0, 0, []), (85, .iload 4, 2, 0, 0, 0, []), (87, .iload_n 2, 1, 0, 0, 0, []), (88, .if_icmp .ge 19, 3, 107, 0, 0, []), (91, .iload_n 3, 1, 0, 0, 0, []), (92, .aload_n 0, 1, 0, 0, 0, []), (93, .getfield 254, 3, 14, 4, 2, []), (96, .getfield 206, 3, 12, 0, 0, []), (99, .imul, 1, 0, 0, 0, []), (100, .istore_n 3, 1, 0, 0, 0, []), (101, .iinc 4 1, 3, 0, 0, 0, []), (104, .goto (-19), 3, 85, 0, 0, []), (107, .iconst 0, 1, 0, 0, 0, []), (108, .istore 4, 2, 0, 0, 0, []), (110, .iload 4, 2, 0, 0, 0, []), (112, .aload_n 0, 1, 0, 0, 0, []), (113, .getfield 270, 3, 14, 24, 0, []), (116, .if_icmp .ge 23, 3, 139, 0, 0, []), (119, .aload_n 0, 1, 0, 0, 0, []), (120, .getfield 86, 3, 14, 48, 2, []), (123, .iload 4, 2, 0, 0, 0, []), (125, .aload_n 0, 1, 0, 0, 0, []), (126, .getfield 59, 3, 14, 33, 2, []), (129, .iload 4, 2, 0, 0, 0, []), (131, .iaload, 1, 0, 0, 0, []), (132, .iastore, 1, 0, 0, 0, []), (133, .iinc 4 1, 3, 0, 0, 0, []), (136, .goto (-26), 3, 110, 0, 0, []), (139, .iconst 0, 1, 0, 0, 0, []), (140, .istore 4, 2, 0, 0, 0, []), (142, .iconst 0, 1, 0, 0, 0, []), (143, .istore 5, 2, 0, 0, 0, []), (145, .iconst 0, 1, 0, 0, 0, []), (146, .istore 6, 2, 0, 0, 0, []), (148, .iconst 0, 1, 0, 0, 0, []), (149, .istore 7, 2, 0, 0, 0, []), (151, .iconst 0, 1, 0, 0, 0, []), (152, .istore 8, 2, 0, 0, 0, []), (154, .iload 8, 2, 0, 0, 0, []), (156, .iload_n 3, 1, 0, 0, 0, []), (157, .if_icmp .ge 217, 3, 374, 0, 0, []), (160, .iload 8, 2, 0, 0, 0, []), (162, .istore 9, 2, 0, 0, 0, []), (164, .aload_n 0, 1, 0, 0, 0, []), (165, .getfield 270, 3, 14, 24, 0, []), (168, .iconst 1, 1, 0, 0, 0, []), (169, .isub, 1, 0, 0, 0, []), (170, .istore 10, 2, 0, 0, 0, []), (172, .iload 10, 2, 0, 0, 0, []), (174, .ifCond .lt 59, 3, 233, 0, 0, []), (177, .aload_n 0, 1, 0, 0, 0, []), (178, .getfield 59, 3, 14, 33, 2, []), (181, .iload 10, 2, 0, 0, 0, []), (183, .iconst (-1), 1, 0, 0, 0, []), (184, .iastore, 1, 0, 0, 0, []), (185, .aload_n 0, 1, 0, 0, 0, []), (186, .getfield 71, 3, 14, 37, 2, []), (189, .iload 10, 2, 0, 0, 0, []), (191, .baload, 1, 0, 0, 0, []), (192, .ifCond .eq 6, 3, 198, 0, 0, []), (195, .goto 32, 3, 227, 0, 0, []), (198, .aload_n 0, 1, 0, 0, 0, []), (199, .getfield 59, 3, 14, 33, 2, []), (202, .iload 10, 2, 0, 0, 0, []), (204, .iload 9, 2, 0, 0, 0, []), (206, .aload_n 0, 1, 0, 0, 0, []), (207, .getfield 254, 3, 14, 4, 2, []), (210, .getfield 206, 3, 12, 0, 0, []), (213, .irem, 1, 0, 0, 0, []), (214, .iastore, 1, 0, 0, 0, []), (215, .iload 9, 2, 0, 0, 0, []), (217, .aload_n 0, 1, 0, 0, 0, []), (218, .getfield 254, 3, 14, 4, 2, []), (221, .getfield 206, 3, 12, 0, 0, []), (224, .idiv, 1, 0, 0, 0, []), (225, .istore 9, 2, 0, 0, 0, []), (227, .iinc 10 (-1), 3, 0, 0, 0, []), (230, .goto (-58), 3, 172, 0, 0, []), (233, .iload_n 1, 1, 0, 0, 0, []), (234, .ifCond .eq 10, 3, 244, 0, 0, []), (237, .aload_n 0, 1, 0, 0, 0, []), (238, .invokevirtual 349, 3, 246, 1, 15, []), (241, .goto 4, 3, 245, 0, 0, []), (244, .iconst 0, 1, 0, 0, 0, []), (245, .istore 10, 2, 0, 0, 0, []), (247, .aload_n 0, 1, 0, 0, 0, []), (248, .invokevirtual 343, 3, 244, 1, 15, []), (251, .istore 11, 2, 0, 0, 0, []), (253, .aload_n 0, 1, 0, 0, 0, []), (254, .invokevirtual 340, 3, 243, 1, 15, []), (257, .istore 12, 2, 0, 0, 0, []), (259, .iload 4, 2, 0, 0, 0, []), (261, .ifCond .eq 38, 3, 299, 0, 0, []), (264, .iload 10, 2, 0, 0, 0, []), (266, .iload 5, 2, 0, 0, 0, []), (268, .if_icmp .lt 31, 3, 299, 0, 0, []), (271, .iload 10, 2, 0, 0, 0, []), (273, .iload 5, 2, 0, 0, 0, []), (275, .if_icmp .ne 28, 3, 303, 0, 0, []), (278, .iload 11, 2, 0, 0, 0, []), (280, .iload 6, 2, 0, 0, 0, []), (282, .if_icmp .lt 17, 3, 299, 0, 0, []), (285, .iload 11, 2, 0, 0, 0, []), (287, .iload 6, 2, 0, 0, 0, []), (289, .if_icmp .ne 14, 3, 303, 0, 0, []), (292, .iload 12, 2, 0, 0, 0, []), (294, .iload 7, 2, 0, 0, 0, []), (296, .if_icmp .le 7, 3, 303, 0, 0, []), (299, .iconst 1, 1, 0, 0, 0, []), (300, .goto 4, 3, 304, 0, 0, []), (303, .iconst 0, 1, 0, 0, 0, []), (304, .istore 13, 2, 0, 0, 0, []), (306, .iload 13, 2, 0, 0, 0, []), (308, .ifCond .eq 60, 3, 368, 0, 0, []), (311, .aload_n 0, 1, 0, 0, 0, []), (312, .invokevirtual 365, 3, 251, 1, 15, []), (315, .ifCond .eq 6, 3, 321, 0, 0, []), (318, .goto 50, 3, 368, 0, 0, []), (321, .iconst 1, 1, 0, 0, 0, []), (322, .istore 4, 2, 0, 0, 0, []), (324, .iload 10, 2, 0, 0, 0, []), (326, .istore 5, 2, 0, 0, 0, []), (328, .iload 11, 2, 0, 0, 0, []), (330, .istore 6, 2, 0, 0, 0, []), (332, .iload 12, 2, 0, 0, 0, []), (334, .istore 7, 2, 0, 0, 0, []), (336, .iconst 0, 1, 0, 0, 0, []), (337, .istore 14, 2, 0, 0, 0, []), (339, .iload 14, 2, 0, 0, 0, []), (341, .aload_n 0, 1, 0, 0, 0, []), (342, .getfield 270, 3, 14, 24, 0, []), (345, .if_icmp .ge 23, 3, 368, 0, 0, []), (348, .aload_n 0, 1, 0, 0, 0, []), (349, .getfield 89, 3, 14, 49, 2, []), (352, .iload 14, 2, 0, 0, 0, []), (354, .aload_n 0, 1, 0, 0, 0, []), (355, .getfield 59, 3, 14, 33, 2, []), (358, .iload 14, 2, 0, 0, 0, []), (360, .iaload, 1, 0, 0, 0, []), (361, .iastore, 1, 0, 0, 0, []), (362, .iinc 14 1, 3, 0, 0, 0, []), (365, .goto (-26), 3, 339, 0, 0, []), (368, .iinc 8 1, 3, 0, 0, 0, []), (371, .goto (-217), 3, 154, 0, 0, []), (374, .iconst 0, 1, 0, 0, 0, []), (375, .istore 8, 2, 0, 0, 0, []), (377, .iload 8, 2, 0, 0, 0, []), (379, .aload_n 0, 1, 0, 0, 0, []), (380, .getfield 270, 3, 14, 24, 0, []), (383, .if_icmp .ge 38, 3, 421, 0, 0, []), (386, .aload_n 0, 1, 0, 0, 0, []), (387, .getfield 59, 3, 14, 33, 2, []), (390, .iload 8, 2, 0, 0, 0, []), (392, .iload 4, 2, 0, 0, 0, []), (394, .ifCond .eq 13, 3, 407, 0, 0, []), (397, .aload_n 0, 1, 0, 0, 0, []), (398, .getfield 89, 3, 14, 49, 2, []), (401, .iload 8, 2, 0, 0, 0, []), (403, .iaload, 1, 0, 0, 0, []), (404, .goto 10, 3, 414, 0, 0, []), (407, .aload_n 0, 1, 0, 0, 0, []), (408, .getfield 86, 3, 14, 48, 2, []), (411, .iload 8, 2, 0, 0, 0, []), (413, .iaload, 1, 0, 0, 0, []), (414, .iastore, 1, 0, 0, 0, []), (415, .iinc 8 1, 3, 0, 0, 0, []), (418, .goto (-41), 3, 377, 0, 0, []), (421, .iload 4, 2, 0, 0, 0, []), (423, .ifCond .eq 12, 3, 435, 0, 0, []), (426, .aload_n 0, 1, 0, 0, 0, []), (427, .iload 7, 2, 0, 0, 0, []), (429, .invokevirtual 261, 3, 215, 2, 15, []), (432, .goto 9, 3, 441, 0, 0, []), (435, .aload_n 0, 1, 0, 0, 0, []), (436, .bipush 6, 2, 0, 0, 0, []), (438, .invokevirtual 334, 3, 241, 2, 15, []), (441, .ireturn, 1, 0, 0, 0, [])]
/-- WholeFieldsModel.stakes(I)I -/
def k_WFModel_stakes : Cd9 := [(0, .aload_n 0, 1, 0, 0, 0, []), (1, .iconst 0, 1, 0, 0, 0, []), (2, .putfield 104, 3, 14, 0, 0, []), (5, .aload_n 0, 1, 0, 0, 0, []), (6, .iload_n 1, 1, 0, 0, 0, []), (7, .invokevirtual 289, 3, 225, 2, 15, []), (10, .ifCond .ne 9, 3, 19, 0, 0, []), (13, .aload_n 0, 1, 0, 0, 0, []), (14, .iconst 1, 1, 0, 0, 0, []), (15, .invokevirtual 244, 3, 187, 2, 15, []), (18, .ireturn, 1, 0, 0, 0, []), (19, .aload_n 0, 1, 0, 0, 0, []), (20, .iload_n 1, 1, 0, 0, 0, []), (21, .invokevirtual 402, 3, 266, 2, 15, []), (24, .ifCond .ne 9, 3, 33, 0, 0, []), (27, .aload_n 0, 1, 0, 0, 0, []), (28, .iconst 5, 1, 0, 0, 0, []), (29, .invokevirtual 244, 3, 187, 2, 15, []), (32, .ireturn, 1, 0, 0, 0, []), (33, .aload_n 0, 1, 0, 0, 0, []), (34, .iload_n 1, 1, 0, 0, 0, []), (35, .invokevirtual 405, 3, 267, 2, 15, []), (38, .aload_n 0, 1, 0, 0, 0, []), (39, .aload_n 0, 1, 0, 0, 0, []), (40, .getfield 396, 3, 14, 50, 0, []), (43, .invokevirtual 261, 3, 215, 2, 15, []), (46, .ireturn, 1, 0, 0, 0, [])]
/-- WholeFieldsModel.isField(I)Z -/
def k_WFModel_isField : Cd9 := [(0, .aload_n 0, 1, 0, 0, 0, []), (1, .iload_n 1, 1, 0, 0, 0, []), (2, .invokevirtual 324, 3, 248, 2, 15, []), (5, .ifCond .le 19, 3, 24, 0, 0, []), (8, .aload_n 0, 1, 0, 0, 0, []), (9, .aload_n 0, 1, 0, 0, 0, []), (10, .getfield 59, 3, 14, 33, 2, []), (13, .iload_n 1, 1, 0, 0, 0, []), (14, .invokevirtual 358, 3, 252, 3, 15, []), (17, .ifCond .eq 7, 3, 24, 0, 0, []), (20, .iconst 1, 1, 0, 0, 0, []), (21, .goto 4, 3, 25, 0, 0, []), (24, .iconst 0, 1, 0, 0, 0, []), (25, .ireturn, 1, 2, 0, 0, [])]
/-- WholeFieldsModel.walks(I)V -/
def k_WFModel_walks : Cd9 := [(0, .iconst 0, 1, 0, 0, 0, []), (1, .istore_n 2, 1, 0, 0, 0, []), (2, .aload_n 0, 1, 0, 0, 0, []), (3, .getfield 59, 3, 14, 33, 2, []), (6, .iload_n 2, 1, 0, 0, 0, []), (7, .iaload, 1, 0, 0, 0, []), (8, .iload_n 1, 1, 0, 0, 0, []), (9, .if_icmp .eq 9, 3, 18, 0, 0, []), (12, .iinc 2 1, 3, 0, 0, 0, []), (15, .goto (-13), 3, 2, 0, 0, []), (18, .iload_n 2, 1, 0, 0, 0, []), (19, .aload_n 0, 1, 0, 0, 0, []), (20, .getfield 264, 3, 14, 22, 0, []), (23, .irem, 1, 0, 0, 0, []), (24, .istore_n 3, 1, 0, 0, 0, []), (25, .iload_n 2, 1, 0, 0, 0, []), (26, .aload_n 0, 1, 0, 0, 0, []), (27, .getfield 264, 3, 14, 22, 0, []), (30, .idiv, 1, 0, 0, 0, []), (31, .istore 4, 2, 0, 0, 0, []), (33, .iconst 0, 1, 0, 0, 0, []), (34, .istore 5, 2, 0, 0, 0, []), (36, .aload_n 0, 1, 0, 0, 0, []), (37, .iconst 0, 1, 0, 0, 0, []), (38, .putfield 396, 3, 14, 50, 0, []), (41, .iload 5, 2, 0, 0, 0, []), (43, .ifCond .ne 7, 3, 50, 0, 0, []), (46, .iconst 1, 1, 0, 0, 0, []), (47, .goto 14, 3, 61, 0, 0, []), (50, .iload 5, 2, 0, 0, 0, []), (52, .iconst 2, 1, 0, 0, 0, []), (53, .if_icmp .ne 7, 3, 60, 0, 0, []), (56, .iconst (-1), 1, 0, 0, 0, []), (57, .goto 4, 3, 61, 0, 0, []), (60, .iconst 0, 1, 0, 0, 0, []), (61, .istore 6, 2, 0, 0, 0, []), (63, .iload 5, 2, 0, 0, 0, []), (65, .iconst 1, 1, 0, 0, 0, []), (66, .if_icmp .ne 7, 3, 73, 0, 0, []), (69, .iconst 1, 1, 0, 0, 0, []), (70, .goto 14, 3, 84, 0, 0, []), (73, .iload 5, 2, 0, 0, 0, []), (75, .iconst 3, 1, 0, 0, 0, []), (76, .if_icmp .ne 7, 3, 83, 0, 0, []), (79, .iconst (-1), 1, 0, 0, 0, []), (80, .goto 4, 3, 84, 0, 0, []), (83, .iconst 0, 1, 0, 0, 0, []), (84, .istore 7, 2, 0, 0, 0, []), (86, .aload_n 0, 1, 0, 0, 0, []), (87, .getfield 396, 3, 14, 50, 0, []), (90, .ifCond .ne 25, 3, 115, 0, 0, []), (93, .aload_n 0, 1, 0, 0, 0, []), (94, .getfield 92, 3, 14, 51, 2, []), (97, .iconst 0, 1, 0, 0, 0, []), (98, .aload_n 0, 1, 0, 0, 0, []), (99, .getfield 264, 3, 14, 22, 0, []), (102, .iconst 1, 1, 0, 0, 0, []), (103, .iadd, 1, 0, 0, 0, []), (104, .iload 4, 2, 0, 0, 0, []), (106, .imul, 1, 0, 0, 0, []), (107, .iload_n 3, 1, 0, 0, 0, []), (108, .iadd, 1, 0, 0, 0, []), (109, .iastore, 1, 0, 0, 0, []), (110, .aload_n 0, 1, 0, 0, 0, []), (111, .iconst 1, 1, 0, 0, 0, []), (112, .putfield 396, 3, 14, 50, 0, []), (115, .iload_n 3, 1, 0, 0, 0, []), (116, .iload 6, 2, 0, 0, 0, []), (118, .iadd, 1, 0, 0, 0, []), (119, .istore_n 3, 1, 0, 0, 0, []), (120, .iload 4, 2, 0, 0, 0, []), (122, .iload 7, 2, 0, 0, 0, []), (124, .iadd, 1, 0, 0, 0, []), (125, .istore 4, 2, 0, 0, 0, []), (127, .iload 5, 2, 0, 0, 0, []), (129, .ifCond .eq 9, 3, 138, 0, 0, []), (132, .iload 5, 2, 0, 0, 0, []), (134, .iconst 3, 1, 0, 0, 0, []), (135, .if_icmp .ne 7, 3, 142, 0, 0, []), (138, .iload_n 3, 1, 0, 0, 0, []), (139, .goto 6, 3, 145, 0, 0, []), (142, .iload_n 3, 1, 0, 0, 0, []), (143, .iconst 1, 1, 0, 0, 0, []), (144, .isub, 1, 0, 0, 0, []), (145, .istore 8, 2, 0, 0, 0, []), (147, .iload 5, 2, 0, 0, 0, []), (149, .ifCond .eq 9, 3, 158, 0, 0, []), (152, .iload 5, 2, 0, 0, 0, []), (154, .iconst 1, 1, 0, 0, 0, []), (155, .if_icmp .ne 8, 3, 163, 0, 0, []), (158, .iload 4, 2, 0, 0, 0, []), (160, .goto 7, 3, 167, 0, 0, []), (163, .iload 4, 2, 0, 0, 0, []), (165, .iconst 1, 1, 0, 0, 0, []), (166, .isub, 1, 0, 0, 0, []), (167, .istore 9, 2, 0, 0, 0, []), (169, .iload 5, 2, 0, 0, 0, []), (171, .ifCond .eq 9, 3, 180, 0, 0, []), (174, .iload 5, 2, 0, 0, 0, []), (176, .iconst 1, 1, 0, 0, 0, []), (177, .if_icmp .ne 7, 3, 184, 0, 0, []), (180, .iload_n 3, 1, 0, 0, 0, []), (181, .goto 6, 3, 187, 0, 0, []), (184, .iload_n 3, 1, 0, 0, 0, []), (185, .iconst 1, 1, 0, 0, 0, []), (186, .isub, 1, 0, 0, 0, []), (187, .istore 10, 2, 0, 0, 0, []), (189, .iload 5, 2, 0, 0, 0, []), (191, .iconst 1, 1, 0, 0, 0, []), (192, .if_icmp .eq 9, 3, 201, 0, 0, []), (195, .iload 5, 2, 0, 0, 0, []), (197, .iconst 2, 1, 0, 0, 0, []), (198, .if_icmp .ne 8, 3, 206, 0, 0, []), (201, .iload 4, 2, 0, 0, 0, []), (203, .goto 7, 3, 210, 0, 0, []), (206, .iload 4, 2, 0, 0, 0, []), (208, .iconst 1, 1, 0, 0, 0, []), (209, .isub, 1, 0, 0, 0, []), (210, .istore 11, 2, 0, 0, 0, []), (212, .aload_n 0, 1, 0, 0, 0, []), (213, .iload_n 1, 1, 0, 0, 0, []), (214, .iload 8, 2, 0, 0, 0, []), (216, .iload 9, 2, 0, 0, 0, []), (218, .invokevirtual 399, 3, 268, 4, 15, []), (221, .ifCond .ne 10, 3, 231, 0, 0, []), (224, .iload 5, 2, 0, 0, 0, []), (226, .iconst 1, 1, 0, 0, 0, []), (227, .iadd, 1, 0, 0, 0, []), (228, .goto 24, 3, 252, 0, 0, []), (231, .aload_n 0, 1, 0, 0, 0, []), (232, .iload_n 1, 1, 0, 0, 0, []), (233, .iload 10, 2, 0, 0, 0, []), (235, .iload 11, 2, 0, 0, 0, []), (237, .invokevirtual 399, 3, 268, 4, 15, []), (240, .ifCond .eq 10, 3, 250, 0, 0, []), (243, .iload 5, 2, 0, 0, 0, []), (245, .iconst 3, 1, 0, 0, 0, []), (246, .iadd, 1, 0, 0, 0, []), (247, .goto 5, 3, 252, 0, 0, []), (250, .iload 5, 2, 0, 0, 0, []), (252, .istore 12, 2, 0, 0, 0, []), (254, .aload_n 0, 1, 0, 0, 0, []), (255, .getfield 264, 3, 14, 22, 0, []), (258, .iload 4, 2, 0, 0, 0, []), (260, .imul, 1, 0, 0, 0, []), (261, .iload_n 3, 1, 0, 0, 0, []), (262, .iadd, 1, 0, 0, 0, []), (263, .iload_n 2, 1, 0, 0, 0, []), (264, .if_icmp .ne 35, 3, 299, 0, 0, []), (267, .iload 4, 2, 0, 0, 0, []), (269, .iload_n 2, 1, 0, 0, 0, []), (270, .aload_n 0, 1, 0, 0, 0, []), (271, .getfield 264, 3, 14, 22, 0, []), (274, .idiv, 1, 0, 0, 0, []), (275, .if_icmp .ne 24, 3, 299, 0, 0, []), (278, .iload_n 3, 1, 0, 0, 0, []), (279, .iload_n 2, 1, 0, 0, 0, []), (280, .aload_n 0, 1, 0, 0, 0, []), (281, .getfield 264, 3, 14, 22, 0, []), (284, .irem, 1, 0, 0, 0, []), (285, .if_icmp .ne 14, 3, 299, 0, 0, []), (288, .iload 12, 2, 0, 0, 0, []), (290, .iconst 4, 1, 0, 0, 0, []), (291, .irem, 1, 0, 0, 0, []), (292, .ifCond .ne 7, 3, 299, 0, 0, []), (295, .iconst 1, 1, 0, 0, 0, []), (296, .goto 4, 3, 300, 0, 0, []), (299, .iconst 0, 1, 0, 0, 0, []), (300, .istore 13, 2, 0, 0, 0, []), (302, .iload 12, 2, 0, 0, 0, []), (304, .iconst 4, 1, 0, 0, 0, []), (305, .irem, 1, 0, 0, 0, []), (306, .iload 5, 2, 0, 0, 0, []), (308, .if_icmp .eq 38, 3, 346, 0, 0, []), (311, .iload 13, 2, 0, 0, 0, []), (313, .ifCond .ne 33, 3, 346, 0, 0, []), (316, .aload_n 0, 1, 0, 0, 0, []), (317, .getfield 92, 3, 14, 51, 2, []), (320, .aload_n 0, 1, 0, 0, 0, []), (321, .getfield 396, 3, 14, 50, 0, []), (324, .aload_n 0, 1, 0, 0, 0, []), (325, .getfield 264, 3, 14, 22, 0, []), (328, .iconst 1, 1, 0, 0, 0, []), (329, .iadd, 1, 0, 0, 0, []), (330, .iload 4, 2, 0, 0, 0, []), (332, .imul, 1, 0, 0, 0, []), (333, .iload_n 3, 1, 0, 0, 0, []), (334, .iadd, 1, 0, 0, 0, []), (335, .iastore, 1, 0, 0, 0, []), (336, .aload_n 0, 1, 0, 0, 0, []), (337, .dup, 1, 0, 0, 0, []), (338, .getfield 396, 3, 14, 50, 0, []), (341, .iconst 1, 1, 0, 0, 0, []), (342, .iadd, 1, 0, 0, 0, []), (343, .putfield 396, 3, 14, 50, 0, []), (346, .iload 12, 2, 0, 0, 0, []), (348, .iconst 4, 1, 0, 0, 0, []), (349, .irem, 1, 0, 0, 0, []), (350, .istore 5, 2, 0, 0, 0, []), (352, .iload 5, 2, 0, 0, 0, []), (354, .ifCond .ne (-313), 3, 41, 0, 0, []), (357, .iload 4, 2, 0, 0, 0, []), (359, .iload_n 2, 1, 0, 0, 0, []), (360, .aload_n 0, 1, 0, 0, 0, []), (361, .getfield 264, 3, 14, 22, 0, []), (364, .idiv, 1, 0, 0, 0, []), (365, .if_icmp .ne (-324), 3, 41, 0, 0, []), (368, .iload_n 3, 1, 0, 0, 0, []), (369, .iload_n 2, 1, 0, 0, 0, []), (370, .aload_n 0, 1, 0, 0, 0, []), (371, .getfield 264, 3, 14, 22, 0, []), (374, .irem, 1, 0, 0, 0, []), (375, .if_icmp .ne (-334), 3, 41, 0, 0, []), (378, .return_, 1, 0, 0, 0, [])]
/-- WholeFieldsModel.isIn(III)Z -/
def k_WFModel_isIn : Cd9 := [(0, .iload_n 2, 1, 0, 0, 0, []), (1, .iconst 0, 1, 0, 0, 0, []), (2, .aload_n 0, 1, 0, 0, 0, []), (3, .getfield 264, 3, 14, 22, 0, []), (6, .iconst 1, 1, 0, 0, 0, []), (7, .isub, 1, 0, 0, 0, []), (8, .invokestatic 276, 3, 219, 3, 0, []), (11, .ifCond .eq 38, 3, 49, 0, 0, []), (14, .iload_n 3, 1, 0, 0, 0, []), (15, .iconst 0, 1, 0, 0, 0, []), (16, .aload_n 0, 1, 0, 0, 0, []), (17, .getfield 267, 3, 14, 23, 0, []), (20, .iconst 1, 1, 0, 0, 0, []), (21, .isub, 1, 0, 0, 0, []), (22, .invokestatic 276, 3, 219, 3, 0, []), (25, .ifCond .eq 24, 3, 49, 0, 0, []), (28, .aload_n 0, 1, 0, 0, 0, []), (29, .getfield 59, 3, 14, 33, 2, []), (32, .aload_n 0, 1, 0, 0, 0, []), (33, .getfield 264, 3, 14, 22, 0, []), (36, .iload_n 3, 1, 0, 0, 0, []), (37, .imul, 1, 0, 0, 0, []), (38, .iload_n 2, 1, 0, 0, 0, []), (39, .iadd, 1, 0, 0, 0, []), (40, .iaload, 1, 0, 0, 0, []), (41, .iload_n 1, 1, 0, 0, 0, []), (42, .if_icmp .ne 7, 3, 49, 0, 0, []), (45, .iconst 1, 1, 0, 0, 0, []), (46, .goto 4, 3, 50, 0, 0, []), (49, .iconst 0, 1, 0, 0, 0, []), (50, .ireturn, 1, 2, 0, 0, [])]
/-- WholeFieldsModel.stake(II)I -/
def k_WFModel_stake : Cd9 := [(0, .aload_n 0, 1, 0, 0, 0, []), (1, .iconst 1, 1, 0, 0, 0, []), (2, .putfield 104, 3, 14, 0, 0, []), (5, .aload_n 0, 1, 0, 0, 0, []), (6, .iload_n 1, 1, 0, 0, 0, []), (7, .invokevirtual 289, 3, 225, 2, 15, []), (10, .ifCond .eq 11, 3, 21, 0, 0, []), (13, .aload_n 0, 1, 0, 0, 0, []), (14, .iload_n 1, 1, 0, 0, 0, []), (15, .invokevirtual 402, 3, 266, 2, 15, []), (18, .ifCond .ne 5, 3, 23, 0, 0, []), (21, .iconst 0, 1, 0, 0, 0, []), (22, .ireturn, 1, 0, 0, 0, []), (23, .aload_n 0, 1, 0, 0, 0, []), (24, .iload_n 1, 1, 0, 0, 0, []), (25, .invokevirtual 405, 3, 267, 2, 15, []), (28, .iload_n 2, 1, 0, 0, 0, []), (29, .ifCond .lt 11, 3, 40, 0, 0, []), (32, .iload_n 2, 1, 0, 0, 0, []), (33, .aload_n 0, 1, 0, 0, 0, []), (34, .getfield 396, 3, 14, 50, 0, []), (37, .if_icmp .lt 5, 3, 42, 0, 0, []), (40, .iconst 0, 1, 0, 0, 0, []), (41, .ireturn, 1, 0, 0, 0, []), (42, .aload_n 0, 1, 0, 0, 0, []), (43, .iconst 0, 1, 0, 0, 0, []), (44, .putfield 104, 3, 14, 0, 0, []), (47, .aload_n 0, 1, 0, 0, 0, []), (48, .getfield 92, 3, 14, 51, 2, []), (51, .iload_n 2, 1, 0, 0, 0, []), (52, .iaload, 1, 0, 0, 0, []), (53, .ireturn, 1, 0, 0, 0, [])]
/-- WholeFieldsModel.within(I)I -/
def k_WFModel_within : Cd9 := [(0, .aload_n 0, 1, 0, 0, 0, []), (1, .iconst 0, 1, 0, 0, 0, []), (2, .putfield 104, 3, 14, 0, 0, []), (5, .aload_n 0, 1, 0, 0, 0, []), (6, .iload_n 1, 1, 0, 0, 0, []), (7, .invokevirtual 289, 3, 225, 2, 15, []), (10, .ifCond .ne 9, 3, 19, 0, 0, []), (13, .aload_n 0, 1, 0, 0, 0, []), (14, .iconst 1, 1, 0, 0, 0, []), (15, .invokevirtual 244, 3, 187, 2, 15, []), (18, .ireturn, 1, 0, 0, 0, []), (19, .aload_n 0, 1, 0, 0, 0, []), (20, .iload_n 1, 1, 0, 0, 0, []), (21, .invokevirtual 402, 3, 266, 2, 15, []), (24, .ifCond .ne 9, 3, 33, 0, 0, []), (27, .aload_n 0, 1, 0, 0, 0, []), (28, .iconst 5, 1, 0, 0, 0, []), (29, .invokevirtual 244, 3, 187, 2, 15, []), (32, .ireturn, 1, 0, 0, 0, []), (33, .aload_n 0, 1, 0, 0, 0, []), (34, .iload_n 1, 1, 0, 0, 0, []), (35, .invokevirtual 405, 3, 267, 2, 15, []), (38, .iconst 0, 1, 0, 0, 0, []), (39, .istore_n 2, 1, 0, 0, 0, []), (40, .iconst 0, 1, 0, 0, 0, []), (41, .istore_n 3, 1, 0, 0, 0, []), (42, .iload_n 3, 1, 0, 0, 0, []), (43, .aload_n 0, 1, 0, 0, 0, []), (44, .getfield 396, 3, 14, 50, 0, []), (47, .if_icmp .ge 74, 3, 121, 0, 0, []), (50, .aload_n 0, 1, 0, 0, 0, []), (51, .getfield 92, 3, 14, 51, 2, []), (54, .iload_n 3, 1, 0, 0, 0, []), (55, .iaload, 1, 0, 0, 0, []), (56, .istore 4, 2, 0, 0, 0, []), (58, .aload_n 0, 1, 0, 0, 0, []), (59, .getfield 92, 3, 14, 51, 2, []), (62, .iload_n 3, 1, 0, 0, 0, []), (63, .iconst 1, 1, 0, 0, 0, []), (64, .iadd, 1, 0, 0, 0, []), (65, .aload_n 0, 1, 0, 0, 0, []), (66, .getfield 396, 3, 14, 50, 0, []), (69, .irem, 1, 0, 0, 0, []), (70, .iaload, 1, 0, 0, 0, []), (71, .istore 5, 2, 0, 0, 0, []), (73, .iload_n 2, 1, 0, 0, 0, []), (74, .iload 4, 2, 0, 0, 0, []), (76, .aload_n 0, 1, 0, 0, 0, []), (77, .getfield 264, 3, 14, 22, 0, []), (80, .iconst 1, 1, 0, 0, 0, []), (81, .iadd, 1, 0, 0, 0, []), (82, .irem, 1, 0, 0, 0, []), (83, .iload 5, 2, 0, 0, 0, []), (85, .aload_n 0, 1, 0, 0, 0, []), (86, .getfield 264, 3, 14, 22, 0, []), (89, .iconst 1, 1, 0, 0, 0, []), (90, .iadd, 1, 0, 0, 0, []), (91, .idiv, 1, 0, 0, 0, []), (92, .imul, 1, 0, 0, 0, []), (93, .iload 5, 2, 0, 0, 0, []), (95, .aload_n 0, 1, 0, 0, 0, []), (96, .getfield 264, 3, 14, 22, 0, []), (99, .iconst 1, 1, 0, 0, 0, []), (100, .iadd, 1, 0, 0, 0, []), (101, .irem, 1, 0, 0, 0, []), (102, .iload 4, 2, 0, 0, 0, []), (104, .aload_n 0, 1, 0, 0, 0, []), (105, .getfield 264, 3, 14, 22, 0, []), (108, .iconst 1, 1, 0, 0, 0, []), (109, .iadd, 1, 0, 0, 0, []), (110, .idiv, 1, 0, 0, 0, []), (111, .imul, 1, 0, 0, 0, []), (112, .isub, 1, 0, 0, 0, []), (113, .iadd, 1, 0, 0, 0, []), (114, .istore_n 2, 1, 0, 0, 0, []), (115, .iinc 3 1, 3, 0, 0, 0, []), (118, .goto (-76), 3, 42, 0, 0, []), (121, .aload_n 0, 1, 0, 0, 0, []), (122, .iload_n 2, 1, 0, 0, 0, []), (123, .invokestatic 293, 3, 232, 1, 0, []), (126, .iconst 2, 1, 0, 0, 0, []), (127, .idiv, 1, 0, 0, 0, []), (128, .invokevirtual 261, 3, 215, 2, 15, []), (131, .ireturn, 1, 0, 0, 0, [])]
/-- WholeFieldsModel.split(III)I -/
def k_WFModel_split : Cd9 := [(0, .aload_n 0, 1, 0, 0, 0, []), (1, .iconst 0, 1, 0, 0, 0, []), (2, .putfield 104, 3, 14, 0, 0, []), (5, .aload_n 0, 1, 0, 0, 0, []), (6, .iload_n 1, 1, 0, 0, 0, []), (7, .invokevirtual 289, 3, 225, 2, 15, []), (10, .ifCond .ne 9, 3, 19, 0, 0, []), (13, .aload_n 0, 1, 0, 0, 0, []), (14, .iconst 1, 1, 0, 0, 0, []), (15, .invokevirtual 244, 3, 187, 2, 15, []), (18, .ireturn, 1, 0, 0, 0, []), (19, .iload_n 2, 1, 0, 0, 0, []), (20, .iload_n 3, 1, 0, 0, 0, []), (21, .if_icmp .le 9, 3, 30, 0, 0, []), (24, .aload_n 0, 1, 0, 0, 0, []), (25, .iconst 2, 1, 0, 0, 0, []), (26, .invokevirtual 244, 3, 187, 2, 15, []), (29, .ireturn, 1, 0, 0, 0, []), (30, .aload_n 0, 1, 0, 0, 0, []), (31, .iload_n 1, 1, 0, 0, 0, []), (32, .invokevirtual 324, 3, 248, 2, 15, []), (35, .istore 4, 2, 0, 0, 0, []), (37, .iload 4, 2, 0, 0, 0, []), (39, .bipush 12, 2, 0, 0, 0, []), (41, .if_icmp .gt 21, 3, 62, 0, 0, []), (44, .iload 4, 2, 0, 0, 0, []), (46, .iconst 2, 1, 0, 0, 0, []), (47, .if_icmp .lt 15, 3, 62, 0, 0, []), (50, .aload_n 0, 1, 0, 0, 0, []), (51, .aload_n 0, 1, 0, 0, 0, []), (52, .getfield 59, 3, 14, 33, 2, []), (55, .iload_n 1, 1, 0, 0, 0, []), (56, .invokevirtual 358, 3, 252, 3, 15, []), (59, .ifCond .ne 9, 3, 68, 0, 0, []), (62, .aload_n 0, 1, 0, 0, 0, []), (63, .iconst 5, 1, 0, 0, 0, []), (64, .invokevirtual 244, 3, 187, 2, 15, []), (67, .ireturn, 1, 0, 0, 0, []), (68, .aload_n 0, 1, 0, 0, 0, []), (69, .invokevirtual 331, 3, 238, 1, 15, []), (72, .iconst 0, 1, 0, 0, 0, []), (73, .istore 5, 2, 0, 0, 0, []), (75, .iconst 0, 1, 0, 0, 0, []), (76, .istore 6, 2, 0, 0, 0, []), (78, .iload 6, 2, 0, 0, 0, []), (80, .aload_n 0, 1, 0, 0, 0, []), (81, .getfield 270, 3, 14, 24, 0, []), (84, .if_icmp .ge 43, 3, 127, 0, 0, []), (87, .aload_n 0, 1, 0, 0, 0, []), (88, .getfield 95, 3, 14, 52, 2, []), (91, .iload 6, 2, 0, 0, 0, []), (93, .iconst (-1), 1, 0, 0, 0, []), (94, .iastore, 1, 0, 0, 0, []), (95, .aload_n 0, 1, 0, 0, 0, []), (96, .getfield 59, 3, 14, 33, 2, []), (99, .iload 6, 2, 0, 0, 0, []), (101, .iaload, 1, 0, 0, 0, []), (102, .iload_n 1, 1, 0, 0, 0, []), (103, .if_icmp .eq 6, 3, 109, 0, 0, []), (106, .goto 15, 3, 121, 0, 0, []), (109, .aload_n 0, 1, 0, 0, 0, []), (110, .getfield 98, 3, 14, 53, 2, []), (113, .iload 5, 2, 0, 0, 0, []), (115, .iload 6, 2, 0, 0, 0, []), (117, .iastore, 1, 0, 0, 0, []), (118, .iinc 5 1, 3, 0, 0, 0, []), (121, .iinc 6 1, 3, 0, 0, 0, []), (124, .goto (-46), 3, 78, 0, 0, []), (127, .iconst 0, 1, 0, 0, 0, []), (128, .istore 6, 2, 0, 0, 0, []), (130, .iconst 0, 1, 0, 0, 0, []), (131, .istore 7, 2, 0, 0, 0, []), (133, .iconst 1, 1, 0, 0, 0, []), (134, .istore 8, 2, 0, 0, 0, []), (136, .iload 8, 2, 0, 0, 0, []), (138, .iconst 1, 1, 0, 0, 0, []), (139, .iload 4, 2, 0, 0, 0, []), (141, .ishl, 1, 0, 0, 0, []), (142, .iconst 1, 1, 0, 0, 0, []), (143, .isub, 1, 0, 0, 0, []), (144, .if_icmp .ge 267, 3, 411, 0, 0, []), (147, .iconst 0, 1, 0, 0, 0, []), (148, .istore 9, 2, 0, 0, 0, []), (150, .iconst 0, 1, 0, 0, 0, []), (151, .istore 10, 2, 0, 0, 0, []), (153, .iload 10, 2, 0, 0, 0, []), (155, .iload 4, 2, 0, 0, 0, []), (157, .if_icmp .ge 65, 3, 222, 0, 0, []), (160, .aload_n 0, 1, 0, 0, 0, []), (161, .getfield 95, 3, 14, 52, 2, []), (164, .aload_n 0, 1, 0, 0, 0, []), (165, .getfield 98, 3, 14, 53, 2, []), (168, .iload 10, 2, 0, 0, 0, []), (170, .iaload, 1, 0, 0, 0, []), (171, .iload 8, 2, 0, 0, 0, []), (173, .iload 10, 2, 0, 0, 0, []), (175, .ishr, 1, 0, 0, 0, []), (176, .iconst 1, 1, 0, 0, 0, []), (177, .iand, 1, 0, 0, 0, []), (178, .iastore, 1, 0, 0, 0, []), (179, .iload 9, 2, 0, 0, 0, []), (181, .iload 8, 2, 0, 0, 0, []), (183, .iload 10, 2, 0, 0, 0, []), (185, .ishr, 1, 0, 0, 0, []), (186, .iconst 1, 1, 0, 0, 0, []), (187, .iand, 1, 0, 0, 0, []), (188, .iconst 1, 1, 0, 0, 0, []), (189, .if_icmp .ne 23, 3, 212, 0, 0, []), (192, .aload_n 0, 1, 0, 0, 0, []), (193, .getfield 77, 3, 14, 39, 2, []), (196, .bipush 64, 2, 0, 0, 0, []), (198, .iload_n 1, 1, 0, 0, 0, []), (199, .imul, 1, 0, 0, 0, []), (200, .aload_n 0, 1, 0, 0, 0, []), (201, .getfield 98, 3, 14, 53, 2, []), (204, .iload 10, 2, 0, 0, 0, []), (206, .iaload, 1, 0, 0, 0, []), (207, .iadd, 1, 0, 0, 0, []), (208, .iaload, 1, 0, 0, 0, []), (209, .goto 4, 3, 213, 0, 0, []), (212, .iconst 0, 1, 0, 0, 0, []), (213, .iadd, 1, 0, 0, 0, []), (214, .istore 9, 2, 0, 0, 0, []), (216, .iinc 10 1, 3, 0, 0, 0, []), (219, .goto (-66), 3, 153, 0, 0, []), (222, .iload 9, 2, 0, 0, 0, []), (224, .iload_n 2, 1, 0, 0, 0, []), (225, .iload_n 3, 1, 0, 0, 0, []), (226, .invokestatic 276, 3, 219, 3, 0, []), (229, .ifCond .ne 6, 3, 235, 0, 0, []), (232, .goto 173, 3, 405, 0, 0, []), (235, .iconst 0, 1, 0, 0, 0, []), (236, .istore 10, 2, 0, 0, 0, []), (238, .iconst 0, 1, 0, 0, 0, []), (239, .istore 11, 2, 0, 0, 0, []), (241, .iload 11, 2, 0, 0, 0, []), (243, .iload 4, 2, 0, 0, 0, []), (245, .if_icmp .ge 81, 3, 326, 0, 0, []), (248, .iconst 0, 1, 0, 0, 0, []), (249, .istore 12, 2, 0, 0, 0, []), (251, .iload 12, 2, 0, 0, 0, []), (253, .iconst 4, 1, 0, 0, 0, []), (254, .if_icmp .ge 66, 3, 320, 0, 0, []), (257, .aload_n 0, 1, 0, 0, 0, []), (258, .aload_n 0, 1, 0, 0, 0, []), (259, .getfield 98, 3, 14, 53, 2, []), (262, .iload 11, 2, 0, 0, 0, []), (264, .iaload, 1, 0, 0, 0, []), (265, .iload 12, 2, 0, 0, 0, []), (267, .invokevirtual 296, 3, 234, 3, 15, []), (270, .istore 13, 2, 0, 0, 0, []), (272, .iload 10, 2, 0, 0, 0, []), (274, .aload_n 0, 1, 0, 0, 0, []), (275, .getfield 95, 3, 14, 52, 2, []), (278, .aload_n 0, 1, 0, 0, 0, []), (279, .getfield 98, 3, 14, 53, 2, []), (282, .iload 11, 2, 0, 0, 0, []), (284, .iaload, 1, 0, 0, 0, []), (285, .iaload, 1, 0, 0, 0, []), (286, .iconst 1, 1, 0, 0, 0, []), (287, .if_icmp .ne 23, 3, 310, 0, 0, []), (290, .iload 13, 2, 0, 0, 0, []), (292, .iconst (-1), 1, 0, 0, 0, []), (293, .if_icmp .eq 17, 3, 310, 0, 0, []), (296, .aload_n 0, 1, 0, 0, 0, []), (297, .getfield 95, 3, 14, 52, 2, []), (300, .iload 13, 2, 0, 0, 0, []), (302, .iaload, 1, 0, 0, 0, []), (303, .ifCond .ne 7, 3, 310, 0, 0, []), (306, .iconst 1, 1, 0, 0, 0, []), (307, .goto 4, 3, 311, 0, 0, []), (310, .iconst 0, 1, 0, 0, 0, []), (311, .iadd, 1, 0, 0, 0, []), (312, .istore 10, 2, 0, 0, 0, []), (314, .iinc 12 1, 3, 0, 0, 0, []), (317, .goto (-66), 3, 251, 0, 0, []), (320, .iinc 11 1, 3, 0, 0, 0, []), (323, .goto (-82), 3, 241, 0, 0, []), (326, .iload 6, 2, 0, 0, 0, []), (328, .ifCond .eq 30, 3, 358, 0, 0, []), (331, .iload 10, 2, 0, 0, 0, []), (333, .iload 7, 2, 0, 0, 0, []), (335, .if_icmp .lt 23, 3, 358, 0, 0, []), (338, .iload 10, 2, 0, 0, 0, []), (340, .iload 7, 2, 0, 0, 0, []), (342, .if_icmp .ne 20, 3, 362, 0, 0, []), (345, .iload 8, 2, 0, 0, 0, []), (347, .invokestatic 408, 3, 272, 1, 0, []), (350, .iload 6, 2, 0, 0, 0, []), (352, .invokestatic 408, 3, 272, 1, 0, []), (355, .if_icmp .ge 7, 3, 362, 0, 0, []), (358, .iconst 1, 1, 0, 0, 0, []), (359, .goto 4, 3, 363, 0, 0, []), (362, .iconst 0, 1, 0, 0, 0, []), (363, .istore 11, 2, 0, 0, 0, []), (365, .iload 11, 2, 0, 0, 0, []), (367, .ifCond .eq 38, 3, 405, 0, 0, []), (370, .aload_n 0, 1, 0, 0, 0, []), (371, .aload_n 0, 1, 0, 0, 0, []), (372, .getfield 95, 3, 14, 52, 2, []), (375, .iconst 0, 1, 0, 0, 0, []), (376, .invokevirtual 358, 3, 252, 3, 15, []), (379, .ifCond .eq 26, 3, 405, 0, 0, []), (382, .aload_n 0, 1, 0, 0, 0, []), (383, .aload_n 0, 1, 0, 0, 0, []), (384, .getfield 95, 3, 14, 52, 2, []), (387, .iconst 1, 1, 0, 0, 0, []), (388, .invokevirtual 358, 3, 252, 3, 15, []), (391, .ifCond .ne 6, 3, 397, 0, 0, []), (394, .goto 11, 3, 405, 0, 0, []), (397, .iload 8, 2, 0, 0, 0, []), (399, .istore 6, 2, 0, 0, 0, []), (401, .iload 10, 2, 0, 0, 0, []), (403, .istore 7, 2, 0, 0, 0, []), (405, .iinc 8 1, 3, 0, 0, 0, []), (408, .goto (-272), 3, 136, 0, 0, []), (411, .iload 6, 2, 0, 0, 0, []), (413, .ifCond .ne 10, 3, 423, 0, 0, []), (416, .aload_n 0, 1, 0, 0, 0, []), (417, .bipush 6, 2, 0, 0, 0, []), (419, .invokevirtual 244, 3, 187, 2, 15, []), (422, .ireturn, 1, 0, 0, 0, []), (423, .aload_n 0, 1, 0, 0, 0, []), (424, .iload 6, 2, 0, 0, 0, []), (426, .putfield 47, 3, 14, 29, 0, []), (429, .aload_n 0, 1, 0, 0, 0, []), (430, .iload 7, 2, 0, 0, 0, []), (432, .invokevirtual 261, 3, 215, 2, 15, []), (435, .ireturn, 1, 0, 0, 0, [])]
/-- WholeFieldsModel.bits(I)I -/
def k_WFModel_bits : Cd9 := [(0, .iconst 0, 1, 0, 0, 0, []), (1, .istore_n 1, 1, 0, 0, 0, []), (2, .iload_n 0, 1, 0, 0, 0, []), (3, .istore_n 2, 1, 0, 0, 0, []), (4, .iload_n 2, 1, 0, 0, 0, []), (5, .ifCond .eq 15, 3, 20, 0, 0, []), (8, .iinc 1 1, 3, 0, 0, 0, []), (11, .iload_n 2, 1, 0, 0, 0, []), (12, .iload_n 2, 1, 0, 0, 0, []), (13, .iconst 1, 1, 0, 0, 0, []), (14, .isub, 1, 0, 0, 0, []), (15, .iand, 1, 0, 0, 0, []), (16, .istore_n 2, 1, 0, 0, 0, []), (17, .goto (-13), 3, 4, 0, 0, []), (20, .iload_n 1, 1, 0, 0, 0, []), (21, .ireturn, 1, 0, 0, 0, [])]
/-- WholeFieldsModel.part()I -/
def k_WFModel_part : Cd9 := [(0, .aload_n 0, 1, 0, 0, 0, []), (1, .iconst 0, 1, 0, 0, 0, []), (2, .putfield 104, 3, 14, 0, 0, []), (5, .aload_n 0, 1, 0, 0, 0, []), (6, .getfield 47, 3, 14, 29, 0, []), (9, .ireturn, 1, 0, 0, 0, [])]
/-- WholeFieldsModel.corner(I)I -/
def k_WFModel_corner : Cd9 := [(0, .aload_n 0, 1, 0, 0, 0, []), (1, .iconst 0, 1, 0, 0, 0, []), (2, .putfield 104, 3, 14, 0, 0, []), (5, .aload_n 0, 1, 0, 0, 0, []), (6, .getfield 270, 3, 14, 24, 0, []), (9, .ifCond .eq 24, 3, 33, 0, 0, []), (12, .iload_n 1, 1, 0, 0, 0, []), (13, .ifCond .lt 20, 3, 33, 0, 0, []), (16, .iload_n 1, 1, 0, 0, 0, []), (17, .aload_n 0, 1, 0, 0, 0, []), (18, .getfield 264, 3, 14, 22, 0, []), (21, .iconst 1, 1, 0, 0, 0, []), (22, .iadd, 1, 0, 0, 0, []), (23, .aload_n 0, 1, 0, 0, 0, []), (24, .getfield 267, 3, 14, 23, 0, []), (27, .iconst 1, 1, 0, 0, 0, []), (28, .iadd, 1, 0, 0, 0, []), (29, .imul, 1, 0, 0, 0, []), (30, .if_icmp .lt 9, 3, 39, 0, 0, []), (33, .aload_n 0, 1, 0, 0, 0, []), (34, .iconst 1, 1, 0, 0, 0, []), (35, .invokevirtual 244, 3, 187, 2, 15, []), (38, .ireturn, 1, 0, 0, 0, []), (39, .aload_n 0, 1, 0, 0, 0, []), (40, .getfield 273, 3, 14, 27, 0, []), (43, .iconst 4, 1, 0, 0, 0, []), (44, .if_icmp .ne 9, 3, 53, 0, 0, []), (47, .aload_n 0, 1, 0, 0, 0, []), (48, .iconst 3, 1, 0, 0, 0, []), (49, .invokevirtual 244, 3, 187, 2, 15, []), (52, .ireturn, 1, 0, 0, 0, []), (53, .iconst 0, 1, 0, 0, 0, []), (54, .istore_n 2, 1, 0, 0, 0, []), (55, .iload_n 2, 1, 0, 0, 0, []), (56, .aload_n 0, 1, 0, 0, 0, []), (57, .getfield 273, 3, 14, 27, 0, []), (60, .if_icmp .ge 25, 3, 85, 0, 0, []), (63, .aload_n 0, 1, 0, 0, 0, []), (64, .getfield 68, 3, 14, 36, 2, []), (67, .iload_n 2, 1, 0, 0, 0, []), (68, .iaload, 1, 0, 0, 0, []), (69, .iload_n 1, 1, 0, 0, 0, []), (70, .if_icmp .ne 9, 3, 79, 0, 0, []), (73, .aload_n 0, 1, 0, 0, 0, []), (74, .iconst 5, 1, 0, 0, 0, []), (75, .invokevirtual 244, 3, 187, 2, 15, []), (78, .ireturn, 1, 0, 0, 0, []), (79, .iinc 2 1, 3, 0, 0, 0, []), (82, .goto (-27), 3, 55, 0, 0, []), (85, .aload_n 0, 1, 0, 0, 0, []), (86, .getfield 68, 3, 14, 36, 2, []), (89, .aload_n 0, 1, 0, 0, 0, []), (90, .getfield 273, 3, 14, 27, 0, []), (93, .iload_n 1, 1, 0, 0, 0, []), (94, .iastore, 1, 0, 0, 0, []), (95, .aload_n 0, 1, 0, 0, 0, []), (96, .dup, 1, 0, 0, 0, []), (97, .getfield 273, 3, 14, 27, 0, []), (100, .iconst 1, 1, 0, 0, 0, []), (101, .iadd, 1, 0, 0, 0, []), (102, .putfield 273, 3, 14, 27, 0, []), (105, .aload_n 0, 1, 0, 0, 0, []), (106, .aload_n 0, 1, 0, 0, 0, []), (107, .getfield 273, 3, 14, 27, 0, []), (110, .invokevirtual 261, 3, 215, 2, 15, []), (113, .ireturn, 1, 0, 0, 0, [])]
/-- WholeFieldsModel.clear()I -/
def k_WFModel_clear : Cd9 := [(0, .aload_n 0, 1, 0, 0, 0, []), (1, .iconst 0, 1, 0, 0, 0, []), (2, .putfield 104, 3, 14, 0, 0, []), (5, .aload_n 0, 1, 0, 0, 0, []), (6, .getfield 273, 3, 14, 27, 0, []), (9, .istore_n 1, 1, 0, 0, 0, []), (10, .aload_n 0, 1, 0, 0, 0, []), (11, .iconst 0, 1, 0, 0, 0, []), (12, .putfield 273, 3, 14, 27, 0, []), (15, .iload_n 1, 1, 0, 0, 0, []), (16, .ireturn, 1, 0, 0, 0, [])]
/-- WholeFieldsModel.ditches()I -/
def k_WFModel_ditches : Cd9 := [(0, .aload_n 0, 1, 0, 0, 0, []), (1, .iconst 0, 1, 0, 0, 0, []), (2, .putfield 104, 3, 14, 0, 0, []), (5, .aload_n 0, 1, 0, 0, 0, []), (6, .getfield 270, 3, 14, 24, 0, []), (9, .ifCond .ne 9, 3, 18, 0, 0, []), (12, .aload_n 0, 1, 0, 0, 0, []), (13, .iconst 1, 1, 0, 0, 0, []), (14, .invokevirtual 244, 3, 187, 2, 15, []), (17, .ireturn, 1, 0, 0, 0, []), (18, .aload_n 0, 1, 0, 0, 0, []), (19, .getfield 273, 3, 14, 27, 0, []), (22, .ifCond .ne 9, 3, 31, 0, 0, []), (25, .aload_n 0, 1, 0, 0, 0, []), (26, .iconst 5, 1, 0, 0, 0, []), (27, .invokevirtual 244, 3, 187, 2, 15, []), (30, .ireturn, 1, 0, 0, 0, []), (31, .aload_n 0, 1, 0, 0, 0, []), (32, .getfield 264, 3, 14, 22, 0, []), (35, .iconst 1, 1, 0, 0, 0, []), (36, .iadd, 1, 0, 0, 0, []), (37, .aload_n 0, 1, 0, 0, 0, []), (38, .getfield 267, 3, 14, 23, 0, []), (41, .iconst 1, 1, 0, 0, 0, []), (42, .iadd, 1, 0, 0, 0, []), (43, .imul, 1, 0, 0, 0, []), (44, .istore_n 1, 1, 0, 0, 0, []), (45, .iconst 1, 1, 0, 0, 0, []), (46, .istore_n 2, 1, 0, 0, 0, []), (47, .iload_n 2, 1, 0, 0, 0, []), (48, .iconst 1, 1, 0, 0, 0, []), (49, .aload_n 0, 1, 0, 0, 0, []), (50, .getfield 273, 3, 14, 27, 0, []), (53, .ishl, 1, 0, 0, 0, []), (54, .if_icmp .ge 153, 3, 207, 0, 0, []), (57, .iconst 0, 1, 0, 0, 0, []), (58, .istore_n 3, 1, 0, 0, 0, []), (59, .iload_n 3, 1, 0, 0, 0, []), (60, .iload_n 1, 1, 0, 0, 0, []), (61, .if_icmp .ge 135, 3, 196, 0, 0, []), (64, .ldc_w 292, 3, 6, 0, 0, []), (67, .istore 4, 2, 0, 0, 0, []), (69, .iconst 0, 1, 0, 0, 0, []), (70, .istore 5, 2, 0, 0, 0, []), (72, .iload 5, 2, 0, 0, 0, []), (74, .aload_n 0, 1, 0, 0, 0, []), (75, .getfield 273, 3, 14, 27, 0, []), (78, .if_icmp .ge 36, 3, 114, 0, 0, []), (81, .iload_n 2, 1, 0, 0, 0, []), (82, .iconst 1, 1, 0, 0, 0, []), (83, .iload 5, 2, 0, 0, 0, []), (85, .ishl, 1, 0, 0, 0, []), (86, .if_icmp .ne 18, 3, 104, 0, 0, []), (89, .aload_n 0, 1, 0, 0, 0, []), (90, .getfield 68, 3, 14, 36, 2, []), (93, .iload 5, 2, 0, 0, 0, []), (95, .iaload, 1, 0, 0, 0, []), (96, .iload_n 3, 1, 0, 0, 0, []), (97, .if_icmp .ne 7, 3, 104, 0, 0, []), (100, .iconst 0, 1, 0, 0, 0, []), (101, .goto 5, 3, 106, 0, 0, []), (104, .iload 4, 2, 0, 0, 0, []), (106, .istore 4, 2, 0, 0, 0, []), (108, .iinc 5 1, 3, 0, 0, 0, []), (111, .goto (-39), 3, 72, 0, 0, []), (114, .iload_n 2, 1, 0, 0, 0, []), (115, .iconst 1, 1, 0, 0, 0, []), (116, .isub, 1, 0, 0, 0, []), (117, .iload_n 2, 1, 0, 0, 0, []), (118, .iand, 1, 0, 0, 0, []), (119, .istore 5, 2, 0, 0, 0, []), (121, .iload 5, 2, 0, 0, 0, []), (123, .ifCond .le 48, 3, 171, 0, 0, []), (126, .iload 4, 2, 0, 0, 0, []), (128, .aload_n 0, 1, 0, 0, 0, []), (129, .getfield 101, 3, 14, 54, 2, []), (132, .bipush 81, 2, 0, 0, 0, []), (134, .iload 5, 2, 0, 0, 0, []), (136, .imul, 1, 0, 0, 0, []), (137, .iload_n 3, 1, 0, 0, 0, []), (138, .iadd, 1, 0, 0, 0, []), (139, .iaload, 1, 0, 0, 0, []), (140, .aload_n 0, 1, 0, 0, 0, []), (141, .getfield 101, 3, 14, 54, 2, []), (144, .bipush 81, 2, 0, 0, 0, []), (146, .iload_n 2, 1, 0, 0, 0, []), (147, .iload 5, 2, 0, 0, 0, []), (149, .ixor, 1, 0, 0, 0, []), (150, .imul, 1, 0, 0, 0, []), (151, .iload_n 3, 1, 0, 0, 0, []), (152, .iadd, 1, 0, 0, 0, []), (153, .iaload, 1, 0, 0, 0, []), (154, .iadd, 1, 0, 0, 0, []), (155, .invokestatic 310, 3, 24, 2, 61, []), (158, .istore 4, 2, 0, 0, 0, []), (160, .iload 5, 2, 0, 0, 0, []), (162, .iconst 1, 1, 0, 0, 0, []), (163, .isub, 1, 0, 0, 0, []), (164, .iload_n 2, 1, 0, 0, 0, []), (165, .iand, 1, 0, 0, 0, []), (166, .istore 5, 2, 0, 0, 0, []), (168, .goto (-47), 3, 121, 0, 0, []), (171, .aload_n 0, 1, 0, 0, 0, []), (172, .getfield 101, 3, 14, 54, 2, []), (175, .bipush 81, 2, 0, 0, 0, []), (177, .iload_n 2, 1, 0, 0, 0, []), (178, .imul, 1, 0, 0, 0, []), (179, .iload_n 3, 1, 0, 0, 0, []), (180, .iadd, 1, 0, 0, 0, []), (181, .iload 4, 2, 0, 0, 0, []), (183, .ldc_w 292, 3, 6, 0, 0, []), (186, .invokestatic 310, 3, 24, 2, 61, []), (189, .iastore, 1, 0, 0, 0, []), (190, .iinc 3 1, 3, 0, 0, 0, []), (193, .goto (-134), 3, 59, 0, 0, []), (196, .aload_n 0, 1, 0, 0, 0, []), (197, .iload_n 2, 1, 0, 0, 0, []), (198, .invokevirtual 415, 3, 277, 2, 15, []), (201, .iinc 2 1, 3, 0, 0, 0, []), (204, .goto (-157), 3, 47, 0, 0, []), (207, .aload_n 0, 1, 0, 0, 0, []), (208, .getfield 101, 3, 14, 54, 2, []), (211, .bipush 81, 2, 0, 0, 0, []), (213, .iconst 1, 1, 0, 0, 0, []), (214, .aload_n 0, 1, 0, 0, 0, []), (215, .getfield 273, 3, 14, 27, 0, []), (218, .ishl, 1, 0, 0, 0, []), (219, .iconst 1, 1, 0, 0, 0, []), (220, .isub, 1, 0, 0, 0, []), (221, .imul, 1, 0, 0, 0, []), (222, .aload_n 0, 1, 0, 0, 0, []), (223, .getfield 68, 3, 14, 36, 2, []), (226, .iconst 0, 1, 0, 0, 0, []), (227, .iaload, 1, 0, 0, 0, []), (228, .iadd, 1, 0, 0, 0, []), (229, .iaload, 1, 0, 0, 0, []), (230, .istore_n 2, 1, 0, 0, 0, []), (231, .iload_n 2, 1, 0, 0, 0, []), (232, .ldc_w 292, 3, 6, 0, 0, []), (235, .if_icmp .lt 12, 3, 247, 0, 0, []), (238, .aload_n 0, 1, 0, 0, 0, []), (239, .bipush 6, 2, 0, 0, 0, []), (241, .invokevirtual 244, 3, 187, 2, 15, []), (244, .goto 8, 3, 252, 0, 0, []), (247, .aload_n 0, 1, 0, 0, 0, []), (248, .iload_n 2, 1, 0, 0, 0, []), (249, .invokevirtual 261, 3, 215, 2, 15, []), (252, .ireturn, 1, 0, 0, 0, [])]
/-- WholeFieldsModel.spreads(I)V -/
def k_WFModel_spreads : Cd9 := [(0, .aload_n 0, 1, 0, 0, 0, []), (1, .getfield 264, 3, 14, 22, 0, []), (4, .iconst 1, 1, 0, 0, 0, []), (5, .iadd, 1, 0, 0, 0, []), (6, .aload_n 0, 1, 0, 0, 0, []), (7, .getfield 267, 3, 14, 23, 0, []), (10, .iconst 1, 1, 0, 0, 0, []), (11, .iadd, 1, 0, 0, 0, []), (12, .imul, 1, 0, 0, 0, []), (13, .istore_n 2, 1, 0, 0, 0, []), (14, .iconst 1, 1, 0, 0, 0, []), (15, .istore_n 3, 1, 0, 0, 0, []), (16, .iload_n 3, 1, 0, 0, 0, []), (17, .ifCond .eq 165, 3, 182, 0, 0, []), (20, .iconst 0, 1, 0, 0, 0, []), (21, .istore_n 3, 1, 0, 0, 0, []), (22, .iconst 0, 1, 0, 0, 0, []), (23, .istore 4, 2, 0, 0, 0, []), (25, .iload 4, 2, 0, 0, 0, []), (27, .iload_n 2, 1, 0, 0, 0, []), (28, .if_icmp .ge 151, 3, 179, 0, 0, []), (31, .iconst 0, 1, 0, 0, 0, []), (32, .istore 5, 2, 0, 0, 0, []), (34, .iload 5, 2, 0, 0, 0, []), (36, .iconst 2, 1, 0, 0, 0, []), (37, .if_icmp .ge 136, 3, 173, 0, 0, []), (40, .aload_n 0, 1, 0, 0, 0, []), (41, .iload 4, 2, 0, 0, 0, []), (43, .iload 5, 2, 0, 0, 0, []), (45, .iconst 1, 1, 0, 0, 0, []), (46, .if_icmp .ne 7, 3, 53, 0, 0, []), (49, .iconst 1, 1, 0, 0, 0, []), (50, .goto 4, 3, 54, 0, 0, []), (53, .iconst 0, 1, 0, 0, 0, []), (54, .invokevirtual 411, 3, 278, 3, 15, []), (57, .ifCond .ne 6, 3, 63, 0, 0, []), (60, .goto 107, 3, 167, 0, 0, []), (63, .bipush 81, 2, 0, 0, 0, []), (65, .iload_n 1, 1, 0, 0, 0, []), (66, .imul, 1, 0, 0, 0, []), (67, .iload 4, 2, 0, 0, 0, []), (69, .iadd, 1, 0, 0, 0, []), (70, .istore 6, 2, 0, 0, 0, []), (72, .iload 6, 2, 0, 0, 0, []), (74, .iload 5, 2, 0, 0, 0, []), (76, .iconst 1, 1, 0, 0, 0, []), (77, .if_icmp .ne 12, 3, 89, 0, 0, []), (80, .aload_n 0, 1, 0, 0, 0, []), (81, .getfield 264, 3, 14, 22, 0, []), (84, .iconst 1, 1, 0, 0, 0, []), (85, .iadd, 1, 0, 0, 0, []), (86, .goto 4, 3, 90, 0, 0, []), (89, .iconst 1, 1, 0, 0, 0, []), (90, .iadd, 1, 0, 0, 0, []), (91, .istore 7, 2, 0, 0, 0, []), (93, .aload_n 0, 1, 0, 0, 0, []), (94, .getfield 101, 3, 14, 54, 2, []), (97, .iload 6, 2, 0, 0, 0, []), (99, .iaload, 1, 0, 0, 0, []), (100, .iconst 1, 1, 0, 0, 0, []), (101, .iadd, 1, 0, 0, 0, []), (102, .aload_n 0, 1, 0, 0, 0, []), (103, .getfield 101, 3, 14, 54, 2, []), (106, .iload 7, 2, 0, 0, 0, []), (108, .iaload, 1, 0, 0, 0, []), (109, .if_icmp .ge 21, 3, 130, 0, 0, []), (112, .aload_n 0, 1, 0, 0, 0, []), (113, .getfield 101, 3, 14, 54, 2, []), (116, .iload 7, 2, 0, 0, 0, []), (118, .aload_n 0, 1, 0, 0, 0, []), (119, .getfield 101, 3, 14, 54, 2, []), (122, .iload 6, 2, 0, 0, 0, []), (124, .iaload, 1, 0, 0, 0, []), (125, .iconst 1, 1, 0, 0, 0, []), (126, .iadd, 1, 0, 0, 0, []), (127, .iastore, 1, 0, 0, 0, []), (128, .iconst 1, 1, 0, 0, 0, []), (129, .istore_n 3, 1, 0, 0, 0, []), (130, .aload_n 0, 1, 0, 0, 0, []), (131, .getfield 101, 3, 14, 54, 2, []), (134, .iload 7, 2, 0, 0, 0, []), (136, .iaload, 1, 0, 0, 0, []), (137, .iconst 1, 1, 0, 0, 0, []), (138, .iadd, 1, 0, 0, 0, []), (139, .aload_n 0, 1, 0, 0, 0, []), (140, .getfield 101, 3, 14, 54, 2, []), (143, .iload 6, 2, 0, 0, 0, []), (145, .iaload, 1, 0, 0, 0, []), (146, .if_icmp .ge 21, 3, 167, 0, 0, []), (149, .aload_n 0, 1, 0, 0, 0, []), (150, .getfield 101, 3, 14, 54, 2, []), (153, .iload 6, 2, 0, 0, 0, []), (155, .aload_n 0, 1, 0, 0, 0, []), (156, .getfield 101, 3, 14, 54, 2, []), (159, .iload 7, 2, 0, 0, 0, []), (161, .iaload, 1, 0, 0, 0, []), (162, .iconst 1, 1, 0, 0, 0, []), (163, .iadd, 1, 0, 0, 0, []), (164, .iastore, 1, 0, 0, 0, []), (165, .iconst 1, 1, 0, 0, 0, []), (166, .istore_n 3, 1, 0, 0, 0, []), (167, .iinc 5 1, 3, 0, 0, 0, []), (170, .goto (-136), 3, 34, 0, 0, []), (173, .iinc 4 1, 3, 0, 0, 0, []), (176, .goto (-151), 3, 25, 0, 0, []), (179, .goto (-163), 3, 16, 0, 0, []), (182, .return_, 1, 0, 0, 0, [])]
/-- WholeFieldsModel.isBorder(IZ)Z -/
def k_WFModel_isBorder : Cd9 := [(0, .iload_n 1, 1, 0, 0, 0, []), (1, .aload_n 0, 1, 0, 0, 0, []), (2, .getfield 264, 3, 14, 22, 0, []), (5, .iconst 1, 1, 0, 0, 0, []), (6, .iadd, 1, 0, 0, 0, []), (7, .irem, 1, 0, 0, 0, []), (8, .istore_n 3, 1, 0, 0, 0, []), (9, .iload_n 1, 1, 0, 0, 0, []), (10, .aload_n 0, 1, 0, 0, 0, []), (11, .getfield 264, 3, 14, 22, 0, []), (14, .iconst 1, 1, 0, 0, 0, []), (15, .iadd, 1, 0, 0, 0, []), (16, .idiv, 1, 0, 0, 0, []), (17, .istore 4, 2, 0, 0, 0, []), (19, .iload_n 2, 1, 0, 0, 0, []), (20, .ifCond .eq 65, 3, 85, 0, 0, []), (23, .iload_n 3, 1, 0, 0, 0, []), (24, .iconst 1, 1, 0, 0, 0, []), (25, .aload_n 0, 1, 0, 0, 0, []), (26, .getfield 264, 3, 14, 22, 0, []), (29, .iconst 1, 1, 0, 0, 0, []), (30, .isub, 1, 0, 0, 0, []), (31, .invokestatic 276, 3, 219, 3, 0, []), (34, .ifCond .eq 49, 3, 83, 0, 0, []), (37, .iload 4, 2, 0, 0, 0, []), (39, .aload_n 0, 1, 0, 0, 0, []), (40, .getfield 267, 3, 14, 23, 0, []), (43, .if_icmp .ge 40, 3, 83, 0, 0, []), (46, .aload_n 0, 1, 0, 0, 0, []), (47, .getfield 59, 3, 14, 33, 2, []), (50, .aload_n 0, 1, 0, 0, 0, []), (51, .getfield 264, 3, 14, 22, 0, []), (54, .iload 4, 2, 0, 0, 0, []), (56, .imul, 1, 0, 0, 0, []), (57, .iload_n 3, 1, 0, 0, 0, []), (58, .iadd, 1, 0, 0, 0, []), (59, .iaload, 1, 0, 0, 0, []), (60, .aload_n 0, 1, 0, 0, 0, []), (61, .getfield 59, 3, 14, 33, 2, []), (64, .aload_n 0, 1, 0, 0, 0, []), (65, .getfield 264, 3, 14, 22, 0, []), (68, .iload 4, 2, 0, 0, 0, []), (70, .imul, 1, 0, 0, 0, []), (71, .iload_n 3, 1, 0, 0, 0, []), (72, .iadd, 1, 0, 0, 0, []), (73, .iconst 1, 1, 0, 0, 0, []), (74, .isub, 1, 0, 0, 0, []), (75, .iaload, 1, 0, 0, 0, []), (76, .if_icmp .eq 7, 3, 83, 0, 0, []), (79, .iconst 1, 1, 0, 0, 0, []), (80, .goto 4, 3, 84, 0, 0, []), (83, .iconst 0, 1, 0, 0, 0, []), (84, .ireturn, 1, 2, 0, 0, []), (85, .iload 4, 2, 0, 0, 0, []), (87, .iconst 1, 1, 0, 0, 0, []), (88, .aload_n 0, 1, 0, 0, 0, []), (89, .getfield 267, 3, 14, 23, 0, []), (92, .iconst 1, 1, 0, 0, 0, []), (93, .isub, 1, 0, 0, 0, []), (94, .invokestatic 276, 3, 219, 3, 0, []), (97, .ifCond .eq 48, 3, 145, 0, 0, []), (100, .iload_n 3, 1, 0, 0, 0, []), (101, .aload_n 0, 1, 0, 0, 0, []), (102, .getfield 264, 3, 14, 22, 0, []), (105, .if_icmp .ge 40, 3, 145, 0, 0, []), (108, .aload_n 0, 1, 0, 0, 0, []), (109, .getfield 59, 3, 14, 33, 2, []), (112, .aload_n 0, 1, 0, 0, 0, []), (113, .getfield 264, 3, 14, 22, 0, []), (116, .iload 4, 2, 0, 0, 0, []), (118, .imul, 1, 0, 0, 0, []), (119, .iload_n 3, 1, 0, 0, 0, []), (120, .iadd, 1, 0, 0, 0, []), (121, .iaload, 1, 0, 0, 0, []), (122, .aload_n 0, 1, 0, 0, 0, []), (123, .getfield 59, 3, 14, 33, 2, []), (126, .aload_n 0, 1, 0, 0, 0, []), (127, .getfield 264, 3, 14, 22, 0, []), (130, .iload 4, 2, 0, 0, 0, []), (132, .iconst 1, 1, 0, 0, 0, []), (133, .isub, 1, 0, 0, 0, []), (134, .imul, 1, 0, 0, 0, []), (135, .iload_n 3, 1, 0, 0, 0, []), (136, .iadd, 1, 0, 0, 0, []), (137, .iaload, 1, 0, 0, 0, []), (138, .if_icmp .eq 7, 3, 145, 0, 0, []), (141, .iconst 1, 1, 0, 0, 0, []), (142, .goto 4, 3, 146, 0, 0, []), (145, .iconst 0, 1, 0, 0, 0, []), (146, .ireturn, 1, 2, 0, 0, [])]
/-- WholeFieldsModel.count(I)I -/
def k_WFModel_count : Cd9 := [(0, .aload_n 0, 1, 0, 0, 0, []), (1, .iconst 0, 1, 0, 0, 0, []), (2, .putfield 104, 3, 14, 0, 0, []), (5, .iconst 0, 1, 0, 0, 0, []), (6, .istore_n 2, 1, 0, 0, 0, []), (7, .iload_n 1, 1, 0, 0, 0, []), (8, .tableswitch 225 0 8 #[52, 71, 76, 111, 147, 183, 188, 204, 220], 52, 233, 0, 0, [(0, 60), (1, 79), (2, 84), (3, 119), (4, 155), (5, 191), (6, 196), (7, 212), (8, 228)]), (60, .aload_n 0, 1, 0, 0, 0, []), (61, .getfield 254, 3, 14, 4, 2, []), (64, .ifnonnull 7, 3, 71, 0, 0, []), (67, .iconst 0, 1, 0, 0, 0, []), (68, .goto 10, 3, 78, 0, 0, []), (71, .aload_n 0, 1, 0, 0, 0, []), (72, .getfield 254, 3, 14, 4, 2, []), (75, .getfield 206, 3, 12, 0, 0, []), (78, .ireturn, 1, 0, 0, 0, []), (79, .aload_n 0, 1, 0, 0, 0, []), (80, .getfield 270, 3, 14, 24, 0, []), (83, .ireturn, 1, 0, 0, 0, []), (84, .iconst 0, 1, 0, 0, 0, []), (85, .istore_n 3, 1, 0, 0, 0, []), (86, .iload_n 3, 1, 0, 0, 0, []), (87, .aload_n 0, 1, 0, 0, 0, []), (88, .getfield 270, 3, 14, 24, 0, []), (91, .if_icmp .ge 26, 3, 117, 0, 0, []), (94, .iload_n 2, 1, 0, 0, 0, []), (95, .aload_n 0, 1, 0, 0, 0, []), (96, .getfield 71, 3, 14, 37, 2, []), (99, .iload_n 3, 1, 0, 0, 0, []), (100, .baload, 1, 0, 0, 0, []), (101, .ifCond .eq 7, 3, 108, 0, 0, []), (104, .iconst 1, 1, 0, 0, 0, []), (105, .goto 4, 3, 109, 0, 0, []), (108, .iconst 0, 1, 0, 0, 0, []), (109, .iadd, 1, 0, 0, 0, []), (110, .istore_n 2, 1, 0, 0, 0, []), (111, .iinc 3 1, 3, 0, 0, 0, []), (114, .goto (-28), 3, 86, 0, 0, []), (117, .iload_n 2, 1, 0, 0, 0, []), (118, .ireturn, 1, 0, 0, 0, []), (119, .iconst 0, 1, 0, 0, 0, []), (120, .istore_n 3, 1, 0, 0, 0, []), (121, .iload_n 3, 1, 0, 0, 0, []), (122, .aload_n 0, 1, 0, 0, 0, []), (123, .getfield 270, 3, 14, 24, 0, []), (126, .if_icmp .ge 27, 3, 153, 0, 0, []), (129, .iload_n 2, 1, 0, 0, 0, []), (130, .aload_n 0, 1, 0, 0, 0, []), (131, .getfield 56, 3, 14, 32, 2, []), (134, .iload_n 3, 1, 0, 0, 0, []), (135, .iaload, 1, 0, 0, 0, []), (136, .iconst (-1), 1, 0, 0, 0, []), (137, .if_icmp .eq 7, 3, 144, 0, 0, []), (140, .iconst 1, 1, 0, 0, 0, []), (141, .goto 4, 3, 145, 0, 0, []), (144, .iconst 0, 1, 0, 0, 0, []), (145, .iadd, 1, 0, 0, 0, []), (146, .istore_n 2, 1, 0, 0, 0, []), (147, .iinc 3 1, 3, 0, 0, 0, []), (150, .goto (-29), 3, 121, 0, 0, []), (153, .iload_n 2, 1, 0, 0, 0, []), (154, .ireturn, 1, 0, 0, 0, []), (155, .iconst 0, 1, 0, 0, 0, []), (156, .istore_n 3, 1, 0, 0, 0, []), (157, .iload_n 3, 1, 0, 0, 0, []), (158, .aload_n 0, 1, 0, 0, 0, []), (159, .getfield 270, 3, 14, 24, 0, []), (162, .if_icmp .ge 27, 3, 189, 0, 0, []), (165, .iload_n 2, 1, 0, 0, 0, []), (166, .aload_n 0, 1, 0, 0, 0, []), (167, .getfield 59, 3, 14, 33, 2, []), (170, .iload_n 3, 1, 0, 0, 0, []), (171, .iaload, 1, 0, 0, 0, []), (172, .iconst (-1), 1, 0, 0, 0, []), (173, .if_icmp .ne 7, 3, 180, 0, 0, []), (176, .iconst 1, 1, 0, 0, 0, []), (177, .goto 4, 3, 181, 0, 0, []), (180, .iconst 0, 1, 0, 0, 0, []), (181, .iadd, 1, 0, 0, 0, []), (182, .istore_n 2, 1, 0, 0, 0, []), (183, .iinc 3 1, 3, 0, 0, 0, []), (186, .goto (-29), 3, 157, 0, 0, []), (189, .iload_n 2, 1, 0, 0, 0, []), (190, .ireturn, 1, 0, 0, 0, []), (191, .aload_n 0, 1, 0, 0, 0, []), (192, .getfield 273, 3, 14, 27, 0, []), (195, .ireturn, 1, 0, 0, 0, []), (196, .aload_n 0, 1, 0, 0, 0, []), (197, .getfield 270, 3, 14, 24, 0, []), (200, .ifCond .ne 7, 3, 207, 0, 0, []), (203, .iconst 0, 1, 0, 0, 0, []), (204, .goto 7, 3, 211, 0, 0, []), (207, .aload_n 0, 1, 0, 0, 0, []), (208, .getfield 38, 3, 14, 25, 0, []), (211, .ireturn, 1, 0, 0, 0, []), (212, .aload_n 0, 1, 0, 0, 0, []), (213, .getfield 270, 3, 14, 24, 0, []), (216, .ifCond .ne 7, 3, 223, 0, 0, []), (219, .iconst 0, 1, 0, 0, 0, []), (220, .goto 7, 3, 227, 0, 0, []), (223, .aload_n 0, 1, 0, 0, 0, []), (224, .getfield 41, 3, 14, 26, 0, []), (227, .ireturn, 1, 0, 0, 0, []), (228, .aload_n 0, 1, 0, 0, 0, []), (229, .getfield 241, 3, 14, 8, 0, []), (232, .ireturn, 1, 0, 0, 0, []), (233, .iconst (-1), 1, 0, 0, 0, []), (234, .ireturn, 1, 0, 0, 0, [])]
/-- WholeFieldsModel.trouble()I -/
def k_WFModel_trouble : Cd9 := [(0, .aload_n 0, 1, 0, 0, 0, []), (1, .iconst 0, 1, 0, 0, 0, []), (2, .putfield 104, 3, 14, 0, 0, []), (5, .aload_n 0, 1, 0, 0, 0, []), (6, .getfield 107, 3, 14, 1, 0, []), (9, .ireturn, 1, 0, 0, 0, [])]
def cdTab : List Cd9 := [k_WFLaw_law, k_WF_init, k_WF_Reader_init, k_WF_Book_init, k_WF_Scanner_init, k_WF_Ground_init, k_WF_Drawing_init, k_WF_Accounts_init, k_WF_Mover_init, k_WF_Finder_init, k_WF_Walker_init, k_WF_Splitter_init, k_WF_Ditcher_init, k_WF_forgetGround, k_WF_Drawing_wipe, k_Arrays_fill, k_Arrays_fill2, k_WF_feed, k_WF_putFour, k_WF_book, k_WF_refuse, k_WF_Reader_read, k_WF_Book_begin, k_WF_Scanner_begin, k_Math_min, k_Math_max, k_WF_Scanner_advance, k_WF_Scanner_isLetter, k_WF_Scanner_readWord, k_WF_Scanner_isDigit, k_WF_Scanner_readWhole, k_WF_Scanner_isSign, k_WF_Reader_takeToken, k_WF_Reader_goOn, k_WF_Reader_fail, k_WF_Reader_takeName, k_WF_Reader_stepOf, k_WF_Reader_isNameTold, k_WF_Book_addOwner, k_WF_Reader_beginWorth, k_WF_Reader_takeFactor, k_WF_Reader_beginFactor, k_WF_Reader_openWorth, k_WF_Book_addStep, k_WF_Reader_takeOpen, k_WF_Reader_takeBehindFactor, k_WF_Reader_endFactor, k_WF_Reader_endTerm, k_WF_Reader_closeWorth, k_WF_Scanner_isAtEnd, k_WF_Ground_leave, k_WF_pass, k_WF_fault, k_WF_where, k_WF_ground, k_WF_Ground_lay, k_WF_Ground_reckonPrices, k_WF_Ground_reckonPricesTo, k_WF_Ground_beside, k_WF_Ground_eastOf, k_WF_Ground_westOf, k_WF_Ground_steps, k_Math_abs, k_WF_Book_reckon, k_WF_Book_join, k_WF_Book_cut, k_WF_Book_single, k_WF_cell, k_WF_Ground_isCell, k_WF_deny, k_WF_Ground_change, k_WF_allow, k_WF_door, k_WF_Ground_isOwner, k_WF_Ground_stands, k_WF_Ground_moveDoor, k_WF_keep, k_WF_had, k_WF_set, k_WF_value, k_WF_Ground_price, k_WF_draw, k_WF_Drawing_give, k_WF_whose, k_WF_sum, k_WF_Accounts_sumOf, k_WF_Accounts_fieldSum, k_WF_total, k_WF_refuseNumber, k_WF_Accounts_tell, k_WF_Accounts_totalOfAll, k_WF_Accounts_shortOfAll, k_WF_Accounts_shortBy, k_WF_Accounts_bound, k_WF_Ground_isWater, k_WF_Accounts_greatestPrice, k_WF_Accounts_envyPairs, k_WF_Accounts_feelsEnvy, k_WF_Accounts_yesVotes, k_WF_Accounts_saysYes, k_WF_Accounts_borderLength, k_WF_Drawing_owned, k_WF_Ground_sidesBetween, k_Long_bitCount, k_WF_bars, k_WF_Drawing_findBar, k_WF_Drawing_free, k_WF_Ground_least, k_WF_Drawing_barredBy, k_WF_Ground_hangsTogether, k_WF_Drawing_thinOfAll, k_WF_Ground_thinCells, k_WF_barred, k_WF_envies, k_WF_votes, k_WF_grow, k_WF_Drawing_growFromDoors, k_WF_Drawing_giveKept, k_WF_Drawing_giveDoors, k_WF_Drawing_takeOne, k_WF_better, k_WF_Mover_run, k_WF_Mover_seek, k_WF_Mover_mayMove, k_WF_Mover_tryOwners, k_WF_Mover_improves, k_WF_Mover_shortBehind, k_WF_Mover_isLawful, k_WF_Ground_isFieldLawful, k_WF_Mover_hold, k_WF_Mover_tryCells, k_WF_Mover_make, k_WF_can, k_WF_best, k_WF_Finder_isFew, k_WF_Finder_search, k_WF_Finder_gatherCells, k_WF_Finder_gatherHopes, k_WF_Finder_mayHave, k_WF_Finder_descend, k_WF_Finder_isHopeful, k_WF_Finder_weigh, k_WF_Finder_envyPairs, k_WF_Finder_isBest, k_WF_Finder_areLawful, k_WF_Finder_turn, k_WF_stakes, k_WF_Walker_walk, k_WF_Walker_mark, k_WF_Walker_turnAt, k_WF_Walker_isInField, k_WF_within, k_WF_Walker_area, k_WF_split, k_WF_Splitter_take, k_WF_Splitter_search, k_WF_Splitter_weigh, k_Integer_bitCount, k_WF_part, k_WF_corner, k_WF_Ground_corners, k_WF_Ditcher_isFull, k_WF_Ditcher_isTold, k_WF_Ditcher_tell, k_WF_clear, k_WF_ditches, k_WF_Ditcher_leastLength, k_WF_Ditcher_findWays, k_WF_Ditcher_isBorder, k_WF_Ditcher_joinParts, k_WF_Ditcher_joinTwo, k_WF_Ditcher_settle, k_WF_Ditcher_level, k_WF_count, k_WF_Ground_keptCells, k_WF_trouble, k_WFLaw_stake, k_WF_stake, k_WF_Walker_numberOf, k_WFModel_init, k_WFModel_Stop_init, k_RuntimeException_init, k_Exception_init, k_Throwable_init, k_WFModel_thrown, k_WFModel_feed, k_WFModel_book, k_WFModel_refused, k_WFModel_Book_init, k_WFModel_next, k_WFModel_byteAt, k_WFModel_isLetter, k_WFModel_isDigit, k_WFModel_readBook, k_WFModel_isWord, k_WFModel_wordOf, k_String_length, k_String_coder, k_String_charAt, k_String_isLatin1, k_StringLatin1_charAt, k_String_checkIndex, k_Preconditions_checkIndex, k_WFModel_stop, k_WFModel_isName, k_WFModel_thing, k_WFModel_Book_has, k_WFModel_readWorth, k_WFModel_begins, k_WFModel_readFactor, k_WFModel_is, k_WFModel_opens, k_WFModel_Book_adds, k_WFModel_isOver, k_WFModel_lays, k_WFModel_done, k_WFModel_fault, k_WFModel_where, k_WFModel_ground, k_WFModel_in, k_WFModel_cell, k_WFModel_isCell, k_WFModel_denied, k_WFModel_granted, k_WFModel_door, k_WFModel_isOwner, k_WFModel_keep, k_WFModel_had, k_WFModel_set, k_WFModel_value, k_WFModel_valueOf, k_WFModel_far, k_WFModel_abs, k_WFModel_waters, k_WFModel_beside, k_WFModel_draw, k_WFModel_whose, k_WFModel_sum, k_WFModel_values, k_WFModel_sumOf, k_WFModel_total, k_WFModel_lost, k_WFModel_isYes, k_WFModel_allSums, k_WFModel_allShort, k_WFModel_bound, k_WFModel_pairs, k_WFModel_isEnvying, k_WFModel_many, k_WFModel_borders, k_WFModel_bars, k_WFModel_barsNow, k_WFModel_hangs, k_WFModel_isSquare, k_WFModel_barred, k_WFModel_envies, k_WFModel_votes, k_WFModel_grow, k_WFModel_taken, k_WFModel_better, k_WFModel_isMoved, k_WFModel_looks, k_WFModel_exchanges, k_WFModel_can, k_WFModel_best, k_WFModel_stakes, k_WFModel_isField, k_WFModel_walks, k_WFModel_isIn, k_WFModel_stake, k_WFModel_within, k_WFModel_split, k_WFModel_bits, k_WFModel_part, k_WFModel_corner, k_WFModel_clear, k_WFModel_ditches, k_WFModel_spreads, k_WFModel_isBorder, k_WFModel_count, k_WFModel_trouble]
def mxTab : List Nat := [7, 1, 2, 1, 2, 1, 2, 3, 4, 3, 2, 2, 3, 1, 1, 4, 5, 6, 3, 4, 2, 3, 1, 2, 2, 2, 2, 1, 3, 1, 2, 1, 1, 3, 2, 3, 2, 4, 1, 3, 2, 2, 2, 3, 1, 2, 1, 1, 1, 1, 1, 2, 1, 1, 3, 4, 4, 6, 3, 3, 3, 4, 1, 11, 3, 1, 5, 5, 2, 2, 5, 1, 3, 2, 1, 3, 3, 3, 3, 3, 3, 3, 4, 3, 2, 2, 6, 2, 2, 2, 3, 3, 4, 4, 2, 4, 4, 5, 3, 3, 10, 4, 5, 2, 2, 5, 1, 2, 3, 12, 4, 9, 1, 3, 2, 1, 4, 2, 3, 7, 2, 3, 2, 2, 6, 6, 5, 5, 3, 5, 8, 2, 1, 2, 1, 3, 2, 5, 3, 4, 7, 7, 5, 4, 2, 5, 2, 11, 3, 5, 3, 2, 4, 4, 7, 9, 9, 1, 1, 2, 1, 1, 3, 2, 2, 2, 4, 6, 5, 4, 6, 7, 3, 2, 3, 1, 5, 3, 2, 1, 1, 5, 5, 5, 1, 8, 3, 2, 1, 3, 2, 1, 1, 2, 2, 4, 1, 1, 2, 1, 2, 2, 3, 2, 1, 1, 4, 2, 2, 3, 2, 2, 2, 1, 4, 2, 1, 1, 3, 3, 5, 2, 2, 1, 3, 2, 3, 3, 3, 3, 9, 3, 1, 4, 5, 3, 2, 2, 3, 5, 4, 2, 3, 3, 3, 5, 4, 3, 4, 5, 2, 1, 8, 7, 1, 3, 2, 4, 6, 3, 4, 7, 4, 1, 15, 2, 2, 14, 4, 3, 6, 14, 3, 1, 3, 2, 6, 8, 5, 4, 1]
def nth9 {α : Type} : List α → Nat → α → α
  | [], _, d => d
  | a :: _, 0, _ => a
  | _ :: r, n + 1, d => nth9 r n d
def cdT (M : Nat) : Cd9 := nth9 cdTab M []
def mxT (M : Nat) : Nat := nth9 mxTab M 0
abbrev M_WFLaw_law : Nat := 0
abbrev M_WF_init : Nat := 1
abbrev M_WF_Reader_init : Nat := 2
abbrev M_WF_Book_init : Nat := 3
abbrev M_WF_Scanner_init : Nat := 4
abbrev M_WF_Ground_init : Nat := 5
abbrev M_WF_Drawing_init : Nat := 6
abbrev M_WF_Accounts_init : Nat := 7
abbrev M_WF_Mover_init : Nat := 8
abbrev M_WF_Finder_init : Nat := 9
abbrev M_WF_Walker_init : Nat := 10
abbrev M_WF_Splitter_init : Nat := 11
abbrev M_WF_Ditcher_init : Nat := 12
abbrev M_WF_forgetGround : Nat := 13
abbrev M_WF_Drawing_wipe : Nat := 14
abbrev M_Arrays_fill : Nat := 15
abbrev M_Arrays_fill2 : Nat := 16
abbrev M_WF_feed : Nat := 17
abbrev M_WF_putFour : Nat := 18
abbrev M_WF_book : Nat := 19
abbrev M_WF_refuse : Nat := 20
abbrev M_WF_Reader_read : Nat := 21
abbrev M_WF_Book_begin : Nat := 22
abbrev M_WF_Scanner_begin : Nat := 23
abbrev M_Math_min : Nat := 24
abbrev M_Math_max : Nat := 25
abbrev M_WF_Scanner_advance : Nat := 26
abbrev M_WF_Scanner_isLetter : Nat := 27
abbrev M_WF_Scanner_readWord : Nat := 28
abbrev M_WF_Scanner_isDigit : Nat := 29
abbrev M_WF_Scanner_readWhole : Nat := 30
abbrev M_WF_Scanner_isSign : Nat := 31
abbrev M_WF_Reader_takeToken : Nat := 32
abbrev M_WF_Reader_goOn : Nat := 33
abbrev M_WF_Reader_fail : Nat := 34
abbrev M_WF_Reader_takeName : Nat := 35
abbrev M_WF_Reader_stepOf : Nat := 36
abbrev M_WF_Reader_isNameTold : Nat := 37
abbrev M_WF_Book_addOwner : Nat := 38
abbrev M_WF_Reader_beginWorth : Nat := 39
abbrev M_WF_Reader_takeFactor : Nat := 40
abbrev M_WF_Reader_beginFactor : Nat := 41
abbrev M_WF_Reader_openWorth : Nat := 42
abbrev M_WF_Book_addStep : Nat := 43
abbrev M_WF_Reader_takeOpen : Nat := 44
abbrev M_WF_Reader_takeBehindFactor : Nat := 45
abbrev M_WF_Reader_endFactor : Nat := 46
abbrev M_WF_Reader_endTerm : Nat := 47
abbrev M_WF_Reader_closeWorth : Nat := 48
abbrev M_WF_Scanner_isAtEnd : Nat := 49
abbrev M_WF_Ground_leave : Nat := 50
abbrev M_WF_pass : Nat := 51
abbrev M_WF_fault : Nat := 52
abbrev M_WF_where : Nat := 53
abbrev M_WF_ground : Nat := 54
abbrev M_WF_Ground_lay : Nat := 55
abbrev M_WF_Ground_reckonPrices : Nat := 56
abbrev M_WF_Ground_reckonPricesTo : Nat := 57
abbrev M_WF_Ground_beside : Nat := 58
abbrev M_WF_Ground_eastOf : Nat := 59
abbrev M_WF_Ground_westOf : Nat := 60
abbrev M_WF_Ground_steps : Nat := 61
abbrev M_Math_abs : Nat := 62
abbrev M_WF_Book_reckon : Nat := 63
abbrev M_WF_Book_join : Nat := 64
abbrev M_WF_Book_cut : Nat := 65
abbrev M_WF_Book_single : Nat := 66
abbrev M_WF_cell : Nat := 67
abbrev M_WF_Ground_isCell : Nat := 68
abbrev M_WF_deny : Nat := 69
abbrev M_WF_Ground_change : Nat := 70
abbrev M_WF_allow : Nat := 71
abbrev M_WF_door : Nat := 72
abbrev M_WF_Ground_isOwner : Nat := 73
abbrev M_WF_Ground_stands : Nat := 74
abbrev M_WF_Ground_moveDoor : Nat := 75
abbrev M_WF_keep : Nat := 76
abbrev M_WF_had : Nat := 77
abbrev M_WF_set : Nat := 78
abbrev M_WF_value : Nat := 79
abbrev M_WF_Ground_price : Nat := 80
abbrev M_WF_draw : Nat := 81
abbrev M_WF_Drawing_give : Nat := 82
abbrev M_WF_whose : Nat := 83
abbrev M_WF_sum : Nat := 84
abbrev M_WF_Accounts_sumOf : Nat := 85
abbrev M_WF_Accounts_fieldSum : Nat := 86
abbrev M_WF_total : Nat := 87
abbrev M_WF_refuseNumber : Nat := 88
abbrev M_WF_Accounts_tell : Nat := 89
abbrev M_WF_Accounts_totalOfAll : Nat := 90
abbrev M_WF_Accounts_shortOfAll : Nat := 91
abbrev M_WF_Accounts_shortBy : Nat := 92
abbrev M_WF_Accounts_bound : Nat := 93
abbrev M_WF_Ground_isWater : Nat := 94
abbrev M_WF_Accounts_greatestPrice : Nat := 95
abbrev M_WF_Accounts_envyPairs : Nat := 96
abbrev M_WF_Accounts_feelsEnvy : Nat := 97
abbrev M_WF_Accounts_yesVotes : Nat := 98
abbrev M_WF_Accounts_saysYes : Nat := 99
abbrev M_WF_Accounts_borderLength : Nat := 100
abbrev M_WF_Drawing_owned : Nat := 101
abbrev M_WF_Ground_sidesBetween : Nat := 102
abbrev M_Long_bitCount : Nat := 103
abbrev M_WF_bars : Nat := 104
abbrev M_WF_Drawing_findBar : Nat := 105
abbrev M_WF_Drawing_free : Nat := 106
abbrev M_WF_Ground_least : Nat := 107
abbrev M_WF_Drawing_barredBy : Nat := 108
abbrev M_WF_Ground_hangsTogether : Nat := 109
abbrev M_WF_Drawing_thinOfAll : Nat := 110
abbrev M_WF_Ground_thinCells : Nat := 111
abbrev M_WF_barred : Nat := 112
abbrev M_WF_envies : Nat := 113
abbrev M_WF_votes : Nat := 114
abbrev M_WF_grow : Nat := 115
abbrev M_WF_Drawing_growFromDoors : Nat := 116
abbrev M_WF_Drawing_giveKept : Nat := 117
abbrev M_WF_Drawing_giveDoors : Nat := 118
abbrev M_WF_Drawing_takeOne : Nat := 119
abbrev M_WF_better : Nat := 120
abbrev M_WF_Mover_run : Nat := 121
abbrev M_WF_Mover_seek : Nat := 122
abbrev M_WF_Mover_mayMove : Nat := 123
abbrev M_WF_Mover_tryOwners : Nat := 124
abbrev M_WF_Mover_improves : Nat := 125
abbrev M_WF_Mover_shortBehind : Nat := 126
abbrev M_WF_Mover_isLawful : Nat := 127
abbrev M_WF_Ground_isFieldLawful : Nat := 128
abbrev M_WF_Mover_hold : Nat := 129
abbrev M_WF_Mover_tryCells : Nat := 130
abbrev M_WF_Mover_make : Nat := 131
abbrev M_WF_can : Nat := 132
abbrev M_WF_best : Nat := 133
abbrev M_WF_Finder_isFew : Nat := 134
abbrev M_WF_Finder_search : Nat := 135
abbrev M_WF_Finder_gatherCells : Nat := 136
abbrev M_WF_Finder_gatherHopes : Nat := 137
abbrev M_WF_Finder_mayHave : Nat := 138
abbrev M_WF_Finder_descend : Nat := 139
abbrev M_WF_Finder_isHopeful : Nat := 140
abbrev M_WF_Finder_weigh : Nat := 141
abbrev M_WF_Finder_envyPairs : Nat := 142
abbrev M_WF_Finder_isBest : Nat := 143
abbrev M_WF_Finder_areLawful : Nat := 144
abbrev M_WF_Finder_turn : Nat := 145
abbrev M_WF_stakes : Nat := 146
abbrev M_WF_Walker_walk : Nat := 147
abbrev M_WF_Walker_mark : Nat := 148
abbrev M_WF_Walker_turnAt : Nat := 149
abbrev M_WF_Walker_isInField : Nat := 150
abbrev M_WF_within : Nat := 151
abbrev M_WF_Walker_area : Nat := 152
abbrev M_WF_split : Nat := 153
abbrev M_WF_Splitter_take : Nat := 154
abbrev M_WF_Splitter_search : Nat := 155
abbrev M_WF_Splitter_weigh : Nat := 156
abbrev M_Integer_bitCount : Nat := 157
abbrev M_WF_part : Nat := 158
abbrev M_WF_corner : Nat := 159
abbrev M_WF_Ground_corners : Nat := 160
abbrev M_WF_Ditcher_isFull : Nat := 161
abbrev M_WF_Ditcher_isTold : Nat := 162
abbrev M_WF_Ditcher_tell : Nat := 163
abbrev M_WF_clear : Nat := 164
abbrev M_WF_ditches : Nat := 165
abbrev M_WF_Ditcher_leastLength : Nat := 166
abbrev M_WF_Ditcher_findWays : Nat := 167
abbrev M_WF_Ditcher_isBorder : Nat := 168
abbrev M_WF_Ditcher_joinParts : Nat := 169
abbrev M_WF_Ditcher_joinTwo : Nat := 170
abbrev M_WF_Ditcher_settle : Nat := 171
abbrev M_WF_Ditcher_level : Nat := 172
abbrev M_WF_count : Nat := 173
abbrev M_WF_Ground_keptCells : Nat := 174
abbrev M_WF_trouble : Nat := 175
abbrev M_WFLaw_stake : Nat := 176
abbrev M_WF_stake : Nat := 177
abbrev M_WF_Walker_numberOf : Nat := 178
abbrev M_WFModel_init : Nat := 179
abbrev M_WFModel_Stop_init : Nat := 180
abbrev M_RuntimeException_init : Nat := 181
abbrev M_Exception_init : Nat := 182
abbrev M_Throwable_init : Nat := 183
abbrev M_WFModel_thrown : Nat := 184
abbrev M_WFModel_feed : Nat := 185
abbrev M_WFModel_book : Nat := 186
abbrev M_WFModel_refused : Nat := 187
abbrev M_WFModel_Book_init : Nat := 188
abbrev M_WFModel_next : Nat := 189
abbrev M_WFModel_byteAt : Nat := 190
abbrev M_WFModel_isLetter : Nat := 191
abbrev M_WFModel_isDigit : Nat := 192
abbrev M_WFModel_readBook : Nat := 193
abbrev M_WFModel_isWord : Nat := 194
abbrev M_WFModel_wordOf : Nat := 195
abbrev M_String_length : Nat := 196
abbrev M_String_coder : Nat := 197
abbrev M_String_charAt : Nat := 198
abbrev M_String_isLatin1 : Nat := 199
abbrev M_StringLatin1_charAt : Nat := 200
abbrev M_String_checkIndex : Nat := 201
abbrev M_Preconditions_checkIndex : Nat := 202
abbrev M_WFModel_stop : Nat := 203
abbrev M_WFModel_isName : Nat := 204
abbrev M_WFModel_thing : Nat := 205
abbrev M_WFModel_Book_has : Nat := 206
abbrev M_WFModel_readWorth : Nat := 207
abbrev M_WFModel_begins : Nat := 208
abbrev M_WFModel_readFactor : Nat := 209
abbrev M_WFModel_is : Nat := 210
abbrev M_WFModel_opens : Nat := 211
abbrev M_WFModel_Book_adds : Nat := 212
abbrev M_WFModel_isOver : Nat := 213
abbrev M_WFModel_lays : Nat := 214
abbrev M_WFModel_done : Nat := 215
abbrev M_WFModel_fault : Nat := 216
abbrev M_WFModel_where : Nat := 217
abbrev M_WFModel_ground : Nat := 218
abbrev M_WFModel_in : Nat := 219
abbrev M_WFModel_cell : Nat := 220
abbrev M_WFModel_isCell : Nat := 221
abbrev M_WFModel_denied : Nat := 222
abbrev M_WFModel_granted : Nat := 223
abbrev M_WFModel_door : Nat := 224
abbrev M_WFModel_isOwner : Nat := 225
abbrev M_WFModel_keep : Nat := 226
abbrev M_WFModel_had : Nat := 227
abbrev M_WFModel_set : Nat := 228
abbrev M_WFModel_value : Nat := 229
abbrev M_WFModel_valueOf : Nat := 230
abbrev M_WFModel_far : Nat := 231
abbrev M_WFModel_abs : Nat := 232
abbrev M_WFModel_waters : Nat := 233
abbrev M_WFModel_beside : Nat := 234
abbrev M_WFModel_draw : Nat := 235
abbrev M_WFModel_whose : Nat := 236
abbrev M_WFModel_sum : Nat := 237
abbrev M_WFModel_values : Nat := 238
abbrev M_WFModel_sumOf : Nat := 239
abbrev M_WFModel_total : Nat := 240
abbrev M_WFModel_lost : Nat := 241
abbrev M_WFModel_isYes : Nat := 242
abbrev M_WFModel_allSums : Nat := 243
abbrev M_WFModel_allShort : Nat := 244
abbrev M_WFModel_bound : Nat := 245
abbrev M_WFModel_pairs : Nat := 246
abbrev M_WFModel_isEnvying : Nat := 247
abbrev M_WFModel_many : Nat := 248
abbrev M_WFModel_borders : Nat := 249
abbrev M_WFModel_bars : Nat := 250
abbrev M_WFModel_barsNow : Nat := 251
abbrev M_WFModel_hangs : Nat := 252
abbrev M_WFModel_isSquare : Nat := 253
abbrev M_WFModel_barred : Nat := 254
abbrev M_WFModel_envies : Nat := 255
abbrev M_WFModel_votes : Nat := 256
abbrev M_WFModel_grow : Nat := 257
abbrev M_WFModel_taken : Nat := 258
abbrev M_WFModel_better : Nat := 259
abbrev M_WFModel_isMoved : Nat := 260
abbrev M_WFModel_looks : Nat := 261
abbrev M_WFModel_exchanges : Nat := 262
abbrev M_WFModel_can : Nat := 263
abbrev M_WFModel_best : Nat := 264
abbrev M_WFModel_stakes : Nat := 265
abbrev M_WFModel_isField : Nat := 266
abbrev M_WFModel_walks : Nat := 267
abbrev M_WFModel_isIn : Nat := 268
abbrev M_WFModel_stake : Nat := 269
abbrev M_WFModel_within : Nat := 270
abbrev M_WFModel_split : Nat := 271
abbrev M_WFModel_bits : Nat := 272
abbrev M_WFModel_part : Nat := 273
abbrev M_WFModel_corner : Nat := 274
abbrev M_WFModel_clear : Nat := 275
abbrev M_WFModel_ditches : Nat := 276
abbrev M_WFModel_spreads : Nat := 277
abbrev M_WFModel_isBorder : Nat := 278
abbrev M_WFModel_count : Nat := 279
abbrev M_WFModel_trouble : Nat := 280
/-- the two tables of handlers: from, to, at, the thing caught (0 NoSuchElementException, 1 Stop) -/
def hdT (M : Nat) : List (Nat × Nat × Nat × Nat) := if M = 176 then [(0, 10, 13, 0)] else if M = 186 then [(54, 62, 65, 1)] else []
def cI9 (k : Nat) : Int32 := nth9 [1000000, (-2147483648), (-2147483648), 1431655765, 858993459, 252645135, 1000000, (-2147483648)] k 0
def cJ9 (k : Nat) : Int64 := nth9 [478745093490, 512970880104, 1936681324, 7824756, 6709618, 512736126322, 465557353332, 1836020596, (-1), (-1), (-1), 6148914691236517205, 3689348814741910323, 1085102592571150095, (-1), (-1), (-1), 32] k 0
/-- the kinds of arrays: type (0 int, 1 byte, 2 boolean, 3 long), length -/
def akT : List (Nat × Nat × Nat) := [(20, 0, 4), (21, 0, 6), (22, 0, 9), (23, 0, 10), (24, 0, 12), (25, 0, 20), (26, 0, 30), (27, 0, 48), (28, 0, 64), (29, 0, 81), (30, 0, 144), (31, 0, 240), (32, 0, 256), (33, 0, 288), (34, 0, 384), (35, 0, 648), (36, 0, 1296), (37, 1, 500), (38, 2, 6), (39, 2, 64), (40, 3, 1), (41, 3, 3), (42, 3, 6)]
def aTy (k : Nat) : Nat := if k = 99 then 0 else if k = 81 then 1 else if 90 ≤ k then 0 else match akT.lookup k with
  | some q => q.1
  | none => 9
def kLn (k : Nat) : Nat := if 90 ≤ k then 4 else match akT.lookup k with
  | some q => q.2
  | none => 0
def strT : List (List Int32) := [[116, 104, 101, 114, 101, 32, 105, 115, 32, 110, 111, 32, 115, 117, 99, 104, 32, 115, 116, 97, 107, 101], [111, 119, 110, 101, 114], [119, 111, 114, 116, 104], [115, 111, 105, 108], [119, 101, 116], [102, 97, 114], [119, 97, 116, 101, 114], [108, 101, 97, 115, 116], [109, 111, 115, 116]]
def roT (k j i : Nat) : Int32 := if k = 81 then nth9 (nth9 strT j []) i 0 else if k = 90 then nth9 [1, 0, -1, 0] i 0 else if k = 91 then nth9 [0, 1, 0, -1] i 0 else if k = 92 then nth9 [0, 0, -1, -1] i 0 else nth9 [-1, 0, 0, -1] i 0
end
section
/-! printed by program (wip/gen/gen8.py): names, fields, links; what Lean must decide of them -/
def onT : List String := ["WholeFields$Accounts", "WholeFields$Book", "WholeFields$Ditcher", "WholeFields$Drawing", "WholeFields$Finder", "WholeFields$Ground", "WholeFields$Mover", "WholeFields$Reader", "WholeFields$Scanner", "WholeFields$Splitter", "WholeFields$Walker", "WholeFields", "WholeFieldsModel$Book", "WholeFieldsModel$Stop", "WholeFieldsModel", "WholeFieldsLaw", "java/lang/Exception", "java/lang/Integer", "java/lang/Long", "java/lang/Math", "java/lang/RuntimeException", "java/lang/String", "java/lang/StringLatin1", "java/lang/Throwable", "java/util/Arrays", "jdk/internal/util/Preconditions"]
def onm (k : Nat) : String := nth9 onT k ""
def TC_0 : u_T := fun k => match k with
  | 0 => ("WholeFields$Accounts", "ground", "LWholeFields$Ground;", true)
  | _ => ("WholeFields$Accounts", "drawing", "LWholeFields$Drawing;", true)
def yC_0 : Nat → FieldType := fun k => match k with
  | 0 => .object "WholeFields$Ground"
  | _ => .object "WholeFields$Drawing"
def TC_1 : u_T := fun k => match k with
  | 0 => ("WholeFields$Book", "steps", "[I", true)
  | 1 => ("WholeFields$Book", "lengths", "[I", true)
  | 2 => ("WholeFields$Book", "stack", "[I", true)
  | _ => ("WholeFields$Book", "owners", "I", false)
def yC_1 : Nat → FieldType := fun k => match k with
  | 0 => .array .int
  | 1 => .array .int
  | 2 => .array .int
  | _ => .int
def TC_2 : u_T := fun k => match k with
  | 0 => ("WholeFields$Ditcher", "ground", "LWholeFields$Ground;", true)
  | 1 => ("WholeFields$Ditcher", "drawing", "LWholeFields$Drawing;", true)
  | 2 => ("WholeFields$Ditcher", "corners", "[I", true)
  | 3 => ("WholeFields$Ditcher", "ways", "[I", true)
  | 4 => ("WholeFields$Ditcher", "lengths", "[I", true)
  | _ => ("WholeFields$Ditcher", "told", "I", false)
def yC_2 : Nat → FieldType := fun k => match k with
  | 0 => .object "WholeFields$Ground"
  | 1 => .object "WholeFields$Drawing"
  | 2 => .array .int
  | 3 => .array .int
  | 4 => .array .int
  | _ => .int
def TC_3 : u_T := fun k => match k with
  | 0 => ("WholeFields$Drawing", "ground", "LWholeFields$Ground;", true)
  | 1 => ("WholeFields$Drawing", "holder", "[I", true)
  | 2 => ("WholeFields$Drawing", "fields", "[J", true)
  | _ => ("WholeFields$Drawing", "barAt", "I", false)
def yC_3 : Nat → FieldType := fun k => match k with
  | 0 => .object "WholeFields$Ground"
  | 1 => .array .int
  | 2 => .array .long
  | _ => .int
def TC_4 : u_T := fun k => match k with
  | 0 => ("WholeFields$Finder", "ground", "LWholeFields$Ground;", true)
  | 1 => ("WholeFields$Finder", "drawing", "LWholeFields$Drawing;", true)
  | 2 => ("WholeFields$Finder", "cells", "[I", true)
  | 3 => ("WholeFields$Finder", "picks", "[I", true)
  | 4 => ("WholeFields$Finder", "found", "[I", true)
  | 5 => ("WholeFields$Finder", "fields", "[J", true)
  | 6 => ("WholeFields$Finder", "worths", "[I", true)
  | 7 => ("WholeFields$Finder", "hopes", "[I", true)
  | 8 => ("WholeFields$Finder", "hopesOfAll", "[I", true)
  | 9 => ("WholeFields$Finder", "size", "I", false)
  | 10 => ("WholeFields$Finder", "owners", "I", false)
  | 11 => ("WholeFields$Finder", "calm", "Z", false)
  | 12 => ("WholeFields$Finder", "isFound", "Z", false)
  | 13 => ("WholeFields$Finder", "bestEnvy", "I", false)
  | 14 => ("WholeFields$Finder", "bestShort", "I", false)
  | _ => ("WholeFields$Finder", "bestTotal", "I", false)
def yC_4 : Nat → FieldType := fun k => match k with
  | 0 => .object "WholeFields$Ground"
  | 1 => .object "WholeFields$Drawing"
  | 2 => .array .int
  | 3 => .array .int
  | 4 => .array .int
  | 5 => .array .long
  | 6 => .array .int
  | 7 => .array .int
  | 8 => .array .int
  | 9 => .int
  | 10 => .int
  | 11 => .boolean
  | 12 => .boolean
  | 13 => .int
  | 14 => .int
  | _ => .int
def TC_5 : u_T := fun k => match k with
  | 0 => ("WholeFields$Ground", "soil", "[I", true)
  | 1 => ("WholeFields$Ground", "wet", "[I", true)
  | 2 => ("WholeFields$Ground", "kept", "[I", true)
  | 3 => ("WholeFields$Ground", "doors", "[I", true)
  | 4 => ("WholeFields$Ground", "had", "[I", true)
  | 5 => ("WholeFields$Ground", "prices", "[I", true)
  | 6 => ("WholeFields$Ground", "book", "LWholeFields$Book;", false)
  | 7 => ("WholeFields$Ground", "wide", "I", false)
  | 8 => ("WholeFields$Ground", "high", "I", false)
  | 9 => ("WholeFields$Ground", "cells", "I", false)
  | 10 => ("WholeFields$Ground", "width", "I", false)
  | 11 => ("WholeFields$Ground", "limit", "I", false)
  | 12 => ("WholeFields$Ground", "all", "J", false)
  | 13 => ("WholeFields$Ground", "water", "J", false)
  | 14 => ("WholeFields$Ground", "firstColumn", "J", false)
  | _ => ("WholeFields$Ground", "lastColumn", "J", false)
def yC_5 : Nat → FieldType := fun k => match k with
  | 0 => .array .int
  | 1 => .array .int
  | 2 => .array .int
  | 3 => .array .int
  | 4 => .array .int
  | 5 => .array .int
  | 6 => .object "WholeFields$Book"
  | 7 => .int
  | 8 => .int
  | 9 => .int
  | 10 => .int
  | 11 => .int
  | 12 => .long
  | 13 => .long
  | 14 => .long
  | _ => .long
def TC_6 : u_T := fun k => match k with
  | 0 => ("WholeFields$Mover", "ground", "LWholeFields$Ground;", true)
  | 1 => ("WholeFields$Mover", "drawing", "LWholeFields$Drawing;", true)
  | 2 => ("WholeFields$Mover", "accounts", "LWholeFields$Accounts;", true)
  | 3 => ("WholeFields$Mover", "sums", "[I", true)
  | 4 => ("WholeFields$Mover", "nowShort", "I", false)
  | 5 => ("WholeFields$Mover", "nowTotal", "I", false)
  | 6 => ("WholeFields$Mover", "bestShort", "I", false)
  | 7 => ("WholeFields$Mover", "bestTotal", "I", false)
  | 8 => ("WholeFields$Mover", "bestCell", "I", false)
  | 9 => ("WholeFields$Mover", "bestOwner", "I", false)
  | _ => ("WholeFields$Mover", "bestOther", "I", false)
def yC_6 : Nat → FieldType := fun k => match k with
  | 0 => .object "WholeFields$Ground"
  | 1 => .object "WholeFields$Drawing"
  | 2 => .object "WholeFields$Accounts"
  | 3 => .array .int
  | 4 => .int
  | 5 => .int
  | 6 => .int
  | 7 => .int
  | 8 => .int
  | 9 => .int
  | _ => .int
def TC_7 : u_T := fun k => match k with
  | 0 => ("WholeFields$Reader", "scanner", "LWholeFields$Scanner;", true)
  | 1 => ("WholeFields$Reader", "names", "[J", true)
  | 2 => ("WholeFields$Reader", "draft", "LWholeFields$Book;", false)
  | 3 => ("WholeFields$Reader", "fault", "I", false)
  | 4 => ("WholeFields$Reader", "place", "I", false)
  | 5 => ("WholeFields$Reader", "state", "I", false)
  | 6 => ("WholeFields$Reader", "factors", "I", false)
  | 7 => ("WholeFields$Reader", "chooserAhead", "I", false)
  | 8 => ("WholeFields$Reader", "product", "[Z", true)
  | 9 => ("WholeFields$Reader", "addition", "[I", true)
  | 10 => ("WholeFields$Reader", "chooser", "[I", true)
  | 11 => ("WholeFields$Reader", "comma", "[Z", true)
  | _ => ("WholeFields$Reader", "open", "I", false)
def yC_7 : Nat → FieldType := fun k => match k with
  | 0 => .object "WholeFields$Scanner"
  | 1 => .array .long
  | 2 => .object "WholeFields$Book"
  | 3 => .int
  | 4 => .int
  | 5 => .int
  | 6 => .int
  | 7 => .int
  | 8 => .array .boolean
  | 9 => .array .int
  | 10 => .array .int
  | 11 => .array .boolean
  | _ => .int
def TC_8 : u_T := fun k => match k with
  | 0 => ("WholeFields$Scanner", "tape", "[B", true)
  | 1 => ("WholeFields$Scanner", "end", "I", false)
  | 2 => ("WholeFields$Scanner", "next", "I", false)
  | 3 => ("WholeFields$Scanner", "start", "I", false)
  | 4 => ("WholeFields$Scanner", "word", "J", false)
  | 5 => ("WholeFields$Scanner", "whole", "I", false)
  | _ => ("WholeFields$Scanner", "sign", "I", false)
def yC_8 : Nat → FieldType := fun k => match k with
  | 0 => .array .byte
  | 1 => .int
  | 2 => .int
  | 3 => .int
  | 4 => .long
  | 5 => .int
  | _ => .int
def TC_9 : u_T := fun k => match k with
  | 0 => ("WholeFields$Splitter", "ground", "LWholeFields$Ground;", true)
  | 1 => ("WholeFields$Splitter", "values", "[I", true)
  | 2 => ("WholeFields$Splitter", "ahead", "[I", true)
  | 3 => ("WholeFields$Splitter", "field", "J", false)
  | 4 => ("WholeFields$Splitter", "size", "I", false)
  | 5 => ("WholeFields$Splitter", "bestBorder", "I", false)
  | 6 => ("WholeFields$Splitter", "bestCells", "I", false)
  | _ => ("WholeFields$Splitter", "bestBits", "I", false)
def yC_9 : Nat → FieldType := fun k => match k with
  | 0 => .object "WholeFields$Ground"
  | 1 => .array .int
  | 2 => .array .int
  | 3 => .long
  | 4 => .int
  | 5 => .int
  | 6 => .int
  | _ => .int
def TC_10 : u_T := fun k => match k with
  | 0 => ("WholeFields$Walker", "ground", "LWholeFields$Ground;", true)
  | 1 => ("WholeFields$Walker", "turnX", "[I", true)
  | 2 => ("WholeFields$Walker", "turnY", "[I", true)
  | 3 => ("WholeFields$Walker", "turns", "I", false)
  | _ => ("WholeFields$Walker", "field", "J", false)
def yC_10 : Nat → FieldType := fun k => match k with
  | 0 => .object "WholeFields$Ground"
  | 1 => .array .int
  | 2 => .array .int
  | 3 => .int
  | _ => .long
def TC_11 : u_T := fun k => match k with
  | 0 => ("WholeFields", "tape", "[B", true)
  | 1 => ("WholeFields", "reader", "LWholeFields$Reader;", true)
  | 2 => ("WholeFields", "ground", "LWholeFields$Ground;", true)
  | 3 => ("WholeFields", "drawing", "LWholeFields$Drawing;", true)
  | 4 => ("WholeFields", "accounts", "LWholeFields$Accounts;", true)
  | 5 => ("WholeFields", "mover", "LWholeFields$Mover;", true)
  | 6 => ("WholeFields", "finder", "LWholeFields$Finder;", true)
  | 7 => ("WholeFields", "walker", "LWholeFields$Walker;", true)
  | 8 => ("WholeFields", "splitter", "LWholeFields$Splitter;", true)
  | 9 => ("WholeFields", "ditcher", "LWholeFields$Ditcher;", true)
  | 10 => ("WholeFields", "held", "I", false)
  | 11 => ("WholeFields", "fault", "I", false)
  | 12 => ("WholeFields", "place", "I", false)
  | 13 => ("WholeFields", "barredAt", "I", false)
  | 14 => ("WholeFields", "partBits", "I", false)
  | _ => ("WholeFields", "trouble", "I", false)
def yC_11 : Nat → FieldType := fun k => match k with
  | 0 => .array .byte
  | 1 => .object "WholeFields$Reader"
  | 2 => .object "WholeFields$Ground"
  | 3 => .object "WholeFields$Drawing"
  | 4 => .object "WholeFields$Accounts"
  | 5 => .object "WholeFields$Mover"
  | 6 => .object "WholeFields$Finder"
  | 7 => .object "WholeFields$Walker"
  | 8 => .object "WholeFields$Splitter"
  | 9 => .object "WholeFields$Ditcher"
  | 10 => .int
  | 11 => .int
  | 12 => .int
  | 13 => .int
  | 14 => .int
  | _ => .int
def TC_12 : u_T := fun k => match k with
  | 0 => ("WholeFieldsModel$Book", "owners", "I", false)
  | 1 => ("WholeFieldsModel$Book", "name", "[J", true)
  | 2 => ("WholeFieldsModel$Book", "program", "[I", true)
  | _ => ("WholeFieldsModel$Book", "size", "[I", true)
def yC_12 : Nat → FieldType := fun k => match k with
  | 0 => .int
  | 1 => .array .long
  | 2 => .array .int
  | _ => .array .int
def TC_13 : u_T := fun k => match k with
  | 0 => ("java/lang/Throwable", "cause", "Ljava/lang/Throwable;", false)
  | 1 => ("java/lang/Throwable", "stackTrace", "[Ljava/lang/StackTraceElement;", false)
  | 2 => ("java/lang/Throwable", "suppressedExceptions", "Ljava/util/List;", false)
  | 3 => ("java/lang/Throwable", "detailMessage", "Ljava/lang/String;", false)
  | 4 => ("java/lang/Throwable", "backtrace", "Ljava/lang/Object;", false)
  | 5 => ("WholeFieldsModel$Stop", "kind", "I", false)
  | 6 => ("WholeFieldsModel$Stop", "place", "I", false)
  | _ => ("java/lang/Throwable", "depth", "I", false)
def yC_13 : Nat → FieldType := fun k => match k with
  | 0 => .object "java/lang/Throwable"
  | 1 => .array (.object "java/lang/StackTraceElement")
  | 2 => .object "java/util/List"
  | 3 => .object "java/lang/String"
  | 4 => .object "java/lang/Object"
  | 5 => .int
  | 6 => .int
  | _ => .int
def TC_14 : u_T := fun k => match k with
  | 0 => ("WholeFieldsModel", "thrown", "I", false)
  | 1 => ("WholeFieldsModel", "trouble", "I", false)
  | 2 => ("WholeFieldsModel", "where", "I", false)
  | 3 => ("WholeFieldsModel", "fault", "I", false)
  | 4 => ("WholeFieldsModel", "book", "LWholeFieldsModel$Book;", false)
  | 5 => ("WholeFieldsModel", "fresh", "LWholeFieldsModel$Book;", false)
  | 6 => ("WholeFieldsModel", "stop", "LWholeFieldsModel$Stop;", true)
  | 7 => ("WholeFieldsModel", "tape", "[B", true)
  | 8 => ("WholeFieldsModel", "taped", "I", false)
  | 9 => ("WholeFieldsModel", "size", "I", false)
  | 10 => ("WholeFieldsModel", "at", "I", false)
  | 11 => ("WholeFieldsModel", "sort", "I", false)
  | 12 => ("WholeFieldsModel", "place", "I", false)
  | 13 => ("WholeFieldsModel", "mark", "I", false)
  | 14 => ("WholeFieldsModel", "number", "I", false)
  | 15 => ("WholeFieldsModel", "word", "J", false)
  | 16 => ("WholeFieldsModel", "bracket", "[I", true)
  | 17 => ("WholeFieldsModel", "half", "[I", true)
  | 18 => ("WholeFieldsModel", "waits", "[I", true)
  | 19 => ("WholeFieldsModel", "isProduct", "[Z", true)
  | 20 => ("WholeFieldsModel", "deep", "I", false)
  | 21 => ("WholeFieldsModel", "factors", "I", false)
  | 22 => ("WholeFieldsModel", "wide", "I", false)
  | 23 => ("WholeFieldsModel", "high", "I", false)
  | 24 => ("WholeFieldsModel", "cells", "I", false)
  | 25 => ("WholeFieldsModel", "width", "I", false)
  | 26 => ("WholeFieldsModel", "limit", "I", false)
  | 27 => ("WholeFieldsModel", "corners", "I", false)
  | 28 => ("WholeFieldsModel", "barredAt", "I", false)
  | 29 => ("WholeFieldsModel", "parted", "I", false)
  | 30 => ("WholeFieldsModel", "soil", "[I", true)
  | 31 => ("WholeFieldsModel", "wet", "[I", true)
  | 32 => ("WholeFieldsModel", "kept", "[I", true)
  | 33 => ("WholeFieldsModel", "whose", "[I", true)
  | 34 => ("WholeFieldsModel", "door", "[I", true)
  | 35 => ("WholeFieldsModel", "had", "[I", true)
  | 36 => ("WholeFieldsModel", "corner", "[I", true)
  | 37 => ("WholeFieldsModel", "isWater", "[Z", true)
  | 38 => ("WholeFieldsModel", "heap", "[I", true)
  | 39 => ("WholeFieldsModel", "worth", "[I", true)
  | 40 => ("WholeFieldsModel", "queue", "[I", true)
  | 41 => ("WholeFieldsModel", "isSeen", "[Z", true)
  | 42 => ("WholeFieldsModel", "atBar", "I", false)
  | 43 => ("WholeFieldsModel", "leastShort", "I", false)
  | 44 => ("WholeFieldsModel", "mostTotal", "I", false)
  | 45 => ("WholeFieldsModel", "moveOne", "I", false)
  | 46 => ("WholeFieldsModel", "moveOther", "I", false)
  | 47 => ("WholeFieldsModel", "moveTo", "I", false)
  | 48 => ("WholeFieldsModel", "before", "[I", true)
  | 49 => ("WholeFieldsModel", "found", "[I", true)
  | 50 => ("WholeFieldsModel", "stakes", "I", false)
  | 51 => ("WholeFieldsModel", "stake", "[I", true)
  | 52 => ("WholeFieldsModel", "side", "[I", true)
  | 53 => ("WholeFieldsModel", "row", "[I", true)
  | _ => ("WholeFieldsModel", "joined", "[I", true)
def yC_14 : Nat → FieldType := fun k => match k with
  | 0 => .int
  | 1 => .int
  | 2 => .int
  | 3 => .int
  | 4 => .object "WholeFieldsModel$Book"
  | 5 => .object "WholeFieldsModel$Book"
  | 6 => .object "WholeFieldsModel$Stop"
  | 7 => .array .byte
  | 8 => .int
  | 9 => .int
  | 10 => .int
  | 11 => .int
  | 12 => .int
  | 13 => .int
  | 14 => .int
  | 15 => .long
  | 16 => .array .int
  | 17 => .array .int
  | 18 => .array .int
  | 19 => .array .boolean
  | 20 => .int
  | 21 => .int
  | 22 => .int
  | 23 => .int
  | 24 => .int
  | 25 => .int
  | 26 => .int
  | 27 => .int
  | 28 => .int
  | 29 => .int
  | 30 => .array .int
  | 31 => .array .int
  | 32 => .array .int
  | 33 => .array .int
  | 34 => .array .int
  | 35 => .array .int
  | 36 => .array .int
  | 37 => .array .boolean
  | 38 => .array .int
  | 39 => .array .int
  | 40 => .array .int
  | 41 => .array .boolean
  | 42 => .int
  | 43 => .int
  | 44 => .int
  | 45 => .int
  | 46 => .int
  | 47 => .int
  | 48 => .array .int
  | 49 => .array .int
  | 50 => .int
  | 51 => .array .int
  | 52 => .array .int
  | 53 => .array .int
  | _ => .array .int
abbrev vwC : List vw_C := [("WholeFields$Accounts", TC_0, 2), ("WholeFields$Book", TC_1, 4), ("WholeFields$Ditcher", TC_2, 6), ("WholeFields$Drawing", TC_3, 4), ("WholeFields$Finder", TC_4, 16), ("WholeFields$Ground", TC_5, 16), ("WholeFields$Mover", TC_6, 11), ("WholeFields$Reader", TC_7, 13), ("WholeFields$Scanner", TC_8, 7), ("WholeFields$Splitter", TC_9, 8), ("WholeFields$Walker", TC_10, 5), ("WholeFields", TC_11, 16), ("WholeFieldsModel$Book", TC_12, 4), ("WholeFieldsModel$Stop", TC_13, 8), ("WholeFieldsModel", TC_14, 55)]
def tyTab : List (Nat → FieldType) := [yC_0, yC_1, yC_2, yC_3, yC_4, yC_5, yC_6, yC_7, yC_8, yC_9, yC_10, yC_11, yC_12, yC_13, yC_14]
def clT (k : Nat) : vw_C := nth9 vwC k ("", TC_0, 0)
def tyT (k : Nat) : Nat → FieldType := nth9 tyTab k yC_0
def mYT : List MethodName := [⟨"WholeFieldsLaw", "law", "([I)Z"⟩, ⟨"WholeFields", "<init>", "()V"⟩, ⟨"WholeFields$Reader", "<init>", "([B)V"⟩, ⟨"WholeFields$Book", "<init>", "()V"⟩, ⟨"WholeFields$Scanner", "<init>", "([B)V"⟩, ⟨"WholeFields$Ground", "<init>", "()V"⟩, ⟨"WholeFields$Drawing", "<init>", "(LWholeFields$Ground;)V"⟩, ⟨"WholeFields$Accounts", "<init>", "(LWholeFields$Ground;LWholeFields$Drawing;)V"⟩, ⟨"WholeFields$Mover", "<init>", "(LWholeFields$Ground;LWholeFields$Drawing;LWholeFields$Accounts;)V"⟩, ⟨"WholeFields$Finder", "<init>", "(LWholeFields$Ground;LWholeFields$Drawing;)V"⟩, ⟨"WholeFields$Walker", "<init>", "(LWholeFields$Ground;)V"⟩, ⟨"WholeFields$Splitter", "<init>", "(LWholeFields$Ground;)V"⟩, ⟨"WholeFields$Ditcher", "<init>", "(LWholeFields$Ground;LWholeFields$Drawing;)V"⟩, ⟨"WholeFields", "forgetGround", "()V"⟩, ⟨"WholeFields$Drawing", "wipe", "()V"⟩, ⟨"java/util/Arrays", "fill", "([II)V"⟩, ⟨"java/util/Arrays", "fill", "([JJ)V"⟩, ⟨"WholeFields", "feed", "(IIIII)I"⟩, ⟨"WholeFields", "putFour", "(I)V"⟩, ⟨"WholeFields", "book", "(I)I"⟩, ⟨"WholeFields", "refuse", "(I)I"⟩, ⟨"WholeFields$Reader", "read", "(I)Z"⟩, ⟨"WholeFields$Book", "begin", "()V"⟩, ⟨"WholeFields$Scanner", "begin", "(I)V"⟩, ⟨"java/lang/Math", "min", "(II)I"⟩, ⟨"java/lang/Math", "max", "(II)I"⟩, ⟨"WholeFields$Scanner", "advance", "()V"⟩, ⟨"WholeFields$Scanner", "isLetter", "(I)Z"⟩, ⟨"WholeFields$Scanner", "readWord", "()V"⟩, ⟨"WholeFields$Scanner", "isDigit", "(I)Z"⟩, ⟨"WholeFields$Scanner", "readWhole", "()V"⟩, ⟨"WholeFields$Scanner", "isSign", "(I)Z"⟩, ⟨"WholeFields$Reader", "takeToken", "()V"⟩, ⟨"WholeFields$Reader", "goOn", "(ZI)V"⟩, ⟨"WholeFields$Reader", "fail", "(I)V"⟩, ⟨"WholeFields$Reader", "takeName", "()V"⟩, ⟨"WholeFields$Reader", "stepOf", "(J)I"⟩, ⟨"WholeFields$Reader", "isNameTold", "(J)Z"⟩, ⟨"WholeFields$Book", "addOwner", "()V"⟩, ⟨"WholeFields$Reader", "beginWorth", "(IZ)V"⟩, ⟨"WholeFields$Reader", "takeFactor", "()V"⟩, ⟨"WholeFields$Reader", "beginFactor", "(I)V"⟩, ⟨"WholeFields$Reader", "openWorth", "(I)V"⟩, ⟨"WholeFields$Book", "addStep", "(I)V"⟩, ⟨"WholeFields$Reader", "takeOpen", "()V"⟩, ⟨"WholeFields$Reader", "takeBehindFactor", "()V"⟩, ⟨"WholeFields$Reader", "endFactor", "()V"⟩, ⟨"WholeFields$Reader", "endTerm", "()V"⟩, ⟨"WholeFields$Reader", "closeWorth", "()V"⟩, ⟨"WholeFields$Scanner", "isAtEnd", "()Z"⟩, ⟨"WholeFields$Ground", "leave", "()V"⟩, ⟨"WholeFields", "pass", "(I)I"⟩, ⟨"WholeFields", "fault", "()I"⟩, ⟨"WholeFields", "where", "()I"⟩, ⟨"WholeFields", "ground", "(II)I"⟩, ⟨"WholeFields$Ground", "lay", "(II)V"⟩, ⟨"WholeFields$Ground", "reckonPrices", "(J)V"⟩, ⟨"WholeFields$Ground", "reckonPricesTo", "(IJ)V"⟩, ⟨"WholeFields$Ground", "beside", "(J)J"⟩, ⟨"WholeFields$Ground", "eastOf", "(J)J"⟩, ⟨"WholeFields$Ground", "westOf", "(J)J"⟩, ⟨"WholeFields$Ground", "steps", "(II)I"⟩, ⟨"java/lang/Math", "abs", "(I)I"⟩, ⟨"WholeFields$Book", "reckon", "(IIIII)I"⟩, ⟨"WholeFields$Book", "join", "(III)I"⟩, ⟨"WholeFields$Book", "cut", "(I)I"⟩, ⟨"WholeFields$Book", "single", "(IIIII)I"⟩, ⟨"WholeFields", "cell", "(IIIZ)Z"⟩, ⟨"WholeFields$Ground", "isCell", "(I)Z"⟩, ⟨"WholeFields", "deny", "(I)Z"⟩, ⟨"WholeFields$Ground", "change", "(IIIZ)V"⟩, ⟨"WholeFields", "allow", "()Z"⟩, ⟨"WholeFields", "door", "(II)Z"⟩, ⟨"WholeFields$Ground", "isOwner", "(I)Z"⟩, ⟨"WholeFields$Ground", "stands", "()Z"⟩, ⟨"WholeFields$Ground", "moveDoor", "(II)V"⟩, ⟨"WholeFields", "keep", "(II)Z"⟩, ⟨"WholeFields", "had", "(II)Z"⟩, ⟨"WholeFields", "set", "(II)Z"⟩, ⟨"WholeFields", "value", "(II)I"⟩, ⟨"WholeFields$Ground", "price", "(II)I"⟩, ⟨"WholeFields", "draw", "(II)Z"⟩, ⟨"WholeFields$Drawing", "give", "(II)V"⟩, ⟨"WholeFields", "whose", "(I)I"⟩, ⟨"WholeFields", "sum", "(I)I"⟩, ⟨"WholeFields$Accounts", "sumOf", "(I)I"⟩, ⟨"WholeFields$Accounts", "fieldSum", "(IJ)I"⟩, ⟨"WholeFields", "total", "(I)I"⟩, ⟨"WholeFields", "refuseNumber", "(I)I"⟩, ⟨"WholeFields$Accounts", "tell", "(I)I"⟩, ⟨"WholeFields$Accounts", "totalOfAll", "()I"⟩, ⟨"WholeFields$Accounts", "shortOfAll", "()I"⟩, ⟨"WholeFields$Accounts", "shortBy", "(II)I"⟩, ⟨"WholeFields$Accounts", "bound", "()I"⟩, ⟨"WholeFields$Ground", "isWater", "(I)Z"⟩, ⟨"WholeFields$Accounts", "greatestPrice", "(I)I"⟩, ⟨"WholeFields$Accounts", "envyPairs", "()I"⟩, ⟨"WholeFields$Accounts", "feelsEnvy", "(II)Z"⟩, ⟨"WholeFields$Accounts", "yesVotes", "()I"⟩, ⟨"WholeFields$Accounts", "saysYes", "(I)Z"⟩, ⟨"WholeFields$Accounts", "borderLength", "()I"⟩, ⟨"WholeFields$Drawing", "owned", "()J"⟩, ⟨"WholeFields$Ground", "sidesBetween", "(JJ)I"⟩, ⟨"java/lang/Long", "bitCount", "(J)I"⟩, ⟨"WholeFields", "bars", "()I"⟩, ⟨"WholeFields$Drawing", "findBar", "()I"⟩, ⟨"WholeFields$Drawing", "free", "()J"⟩, ⟨"WholeFields$Ground", "least", "(J)I"⟩, ⟨"WholeFields$Drawing", "barredBy", "(II)I"⟩, ⟨"WholeFields$Ground", "hangsTogether", "(J)Z"⟩, ⟨"WholeFields$Drawing", "thinOfAll", "()J"⟩, ⟨"WholeFields$Ground", "thinCells", "(J)J"⟩, ⟨"WholeFields", "barred", "()I"⟩, ⟨"WholeFields", "envies", "(II)I"⟩, ⟨"WholeFields", "votes", "(I)I"⟩, ⟨"WholeFields", "grow", "()I"⟩, ⟨"WholeFields$Drawing", "growFromDoors", "()V"⟩, ⟨"WholeFields$Drawing", "giveKept", "()V"⟩, ⟨"WholeFields$Drawing", "giveDoors", "()V"⟩, ⟨"WholeFields$Drawing", "takeOne", "(I)Z"⟩, ⟨"WholeFields", "better", "(I)I"⟩, ⟨"WholeFields$Mover", "run", "(I)I"⟩, ⟨"WholeFields$Mover", "seek", "()Z"⟩, ⟨"WholeFields$Mover", "mayMove", "(I)Z"⟩, ⟨"WholeFields$Mover", "tryOwners", "(I)V"⟩, ⟨"WholeFields$Mover", "improves", "(IIII)Z"⟩, ⟨"WholeFields$Mover", "shortBehind", "(IIII)I"⟩, ⟨"WholeFields$Mover", "isLawful", "(IIJ)Z"⟩, ⟨"WholeFields$Ground", "isFieldLawful", "(J)Z"⟩, ⟨"WholeFields$Mover", "hold", "(IIII)V"⟩, ⟨"WholeFields$Mover", "tryCells", "(I)V"⟩, ⟨"WholeFields$Mover", "make", "()V"⟩, ⟨"WholeFields", "can", "()I"⟩, ⟨"WholeFields", "best", "(Z)I"⟩, ⟨"WholeFields$Finder", "isFew", "()Z"⟩, ⟨"WholeFields$Finder", "search", "(Z)Z"⟩, ⟨"WholeFields$Finder", "gatherCells", "()Z"⟩, ⟨"WholeFields$Finder", "gatherHopes", "()V"⟩, ⟨"WholeFields$Finder", "mayHave", "(II)Z"⟩, ⟨"WholeFields$Finder", "descend", "(I)V"⟩, ⟨"WholeFields$Finder", "isHopeful", "(I)Z"⟩, ⟨"WholeFields$Finder", "weigh", "()V"⟩, ⟨"WholeFields$Finder", "envyPairs", "()I"⟩, ⟨"WholeFields$Finder", "isBest", "(III)Z"⟩, ⟨"WholeFields$Finder", "areLawful", "()Z"⟩, ⟨"WholeFields$Finder", "turn", "(III)V"⟩, ⟨"WholeFields", "stakes", "(I)I"⟩, ⟨"WholeFields$Walker", "walk", "(J)Z"⟩, ⟨"WholeFields$Walker", "mark", "(II)V"⟩, ⟨"WholeFields$Walker", "turnAt", "(III)I"⟩, ⟨"WholeFields$Walker", "isInField", "(II)Z"⟩, ⟨"WholeFields", "within", "(I)I"⟩, ⟨"WholeFields$Walker", "area", "()I"⟩, ⟨"WholeFields", "split", "(III)I"⟩, ⟨"WholeFields$Splitter", "take", "(IJ)Z"⟩, ⟨"WholeFields$Splitter", "search", "(II)Z"⟩, ⟨"WholeFields$Splitter", "weigh", "(IJ)V"⟩, ⟨"java/lang/Integer", "bitCount", "(I)I"⟩, ⟨"WholeFields", "part", "()I"⟩, ⟨"WholeFields", "corner", "(I)I"⟩, ⟨"WholeFields$Ground", "corners", "()I"⟩, ⟨"WholeFields$Ditcher", "isFull", "()Z"⟩, ⟨"WholeFields$Ditcher", "isTold", "(I)Z"⟩, ⟨"WholeFields$Ditcher", "tell", "(I)V"⟩, ⟨"WholeFields", "clear", "()I"⟩, ⟨"WholeFields", "ditches", "()I"⟩, ⟨"WholeFields$Ditcher", "leastLength", "()I"⟩, ⟨"WholeFields$Ditcher", "findWays", "()V"⟩, ⟨"WholeFields$Ditcher", "isBorder", "(IIII)Z"⟩, ⟨"WholeFields$Ditcher", "joinParts", "(I)V"⟩, ⟨"WholeFields$Ditcher", "joinTwo", "(III)V"⟩, ⟨"WholeFields$Ditcher", "settle", "(I)V"⟩, ⟨"WholeFields$Ditcher", "level", "(II)Z"⟩, ⟨"WholeFields", "count", "(I)I"⟩, ⟨"WholeFields$Ground", "keptCells", "()I"⟩, ⟨"WholeFields", "trouble", "()I"⟩, ⟨"WholeFieldsLaw", "stake", "(LWholeFields;II[J)I"⟩, ⟨"WholeFields", "stake", "(II)I"⟩, ⟨"WholeFields$Walker", "numberOf", "(I)I"⟩, ⟨"WholeFieldsModel", "<init>", "()V"⟩, ⟨"WholeFieldsModel$Stop", "<init>", "()V"⟩, ⟨"java/lang/RuntimeException", "<init>", "(Ljava/lang/String;Ljava/lang/Throwable;ZZ)V"⟩, ⟨"java/lang/Exception", "<init>", "(Ljava/lang/String;Ljava/lang/Throwable;ZZ)V"⟩, ⟨"java/lang/Throwable", "<init>", "(Ljava/lang/String;Ljava/lang/Throwable;ZZ)V"⟩, ⟨"WholeFieldsModel", "thrown", "()I"⟩, ⟨"WholeFieldsModel", "feed", "(IIIII)I"⟩, ⟨"WholeFieldsModel", "book", "(I)I"⟩, ⟨"WholeFieldsModel", "refused", "(I)I"⟩, ⟨"WholeFieldsModel$Book", "<init>", "()V"⟩, ⟨"WholeFieldsModel", "next", "()V"⟩, ⟨"WholeFieldsModel", "byteAt", "(I)I"⟩, ⟨"WholeFieldsModel", "isLetter", "(I)Z"⟩, ⟨"WholeFieldsModel", "isDigit", "(I)Z"⟩, ⟨"WholeFieldsModel", "readBook", "()V"⟩, ⟨"WholeFieldsModel", "isWord", "(Ljava/lang/String;)Z"⟩, ⟨"WholeFieldsModel", "wordOf", "(Ljava/lang/String;)J"⟩, ⟨"java/lang/String", "length", "()I"⟩, ⟨"java/lang/String", "coder", "()B"⟩, ⟨"java/lang/String", "charAt", "(I)C"⟩, ⟨"java/lang/String", "isLatin1", "()Z"⟩, ⟨"java/lang/StringLatin1", "charAt", "([BI)C"⟩, ⟨"java/lang/String", "checkIndex", "(II)V"⟩, ⟨"jdk/internal/util/Preconditions", "checkIndex", "(IILjava/util/function/BiFunction;)I"⟩, ⟨"WholeFieldsModel", "stop", "(I)LWholeFieldsModel$Stop;"⟩, ⟨"WholeFieldsModel", "isName", "()Z"⟩, ⟨"WholeFieldsModel", "thing", "()I"⟩, ⟨"WholeFieldsModel$Book", "has", "(J)Z"⟩, ⟨"WholeFieldsModel", "readWorth", "()V"⟩, ⟨"WholeFieldsModel", "begins", "(I)V"⟩, ⟨"WholeFieldsModel", "readFactor", "()Z"⟩, ⟨"WholeFieldsModel", "is", "(I)Z"⟩, ⟨"WholeFieldsModel", "opens", "(I)V"⟩, ⟨"WholeFieldsModel$Book", "adds", "(I)V"⟩, ⟨"WholeFieldsModel", "isOver", "()Z"⟩, ⟨"WholeFieldsModel", "lays", "(II)V"⟩, ⟨"WholeFieldsModel", "done", "(I)I"⟩, ⟨"WholeFieldsModel", "fault", "()I"⟩, ⟨"WholeFieldsModel", "where", "()I"⟩, ⟨"WholeFieldsModel", "ground", "(II)I"⟩, ⟨"WholeFieldsModel", "in", "(III)Z"⟩, ⟨"WholeFieldsModel", "cell", "(IIIZ)Z"⟩, ⟨"WholeFieldsModel", "isCell", "(I)Z"⟩, ⟨"WholeFieldsModel", "denied", "(I)Z"⟩, ⟨"WholeFieldsModel", "granted", "()Z"⟩, ⟨"WholeFieldsModel", "door", "(II)Z"⟩, ⟨"WholeFieldsModel", "isOwner", "(I)Z"⟩, ⟨"WholeFieldsModel", "keep", "(II)Z"⟩, ⟨"WholeFieldsModel", "had", "(II)Z"⟩, ⟨"WholeFieldsModel", "set", "(II)Z"⟩, ⟨"WholeFieldsModel", "value", "(II)I"⟩, ⟨"WholeFieldsModel", "valueOf", "(II)I"⟩, ⟨"WholeFieldsModel", "far", "(II)I"⟩, ⟨"WholeFieldsModel", "abs", "(I)I"⟩, ⟨"WholeFieldsModel", "waters", "(I)I"⟩, ⟨"WholeFieldsModel", "beside", "(II)I"⟩, ⟨"WholeFieldsModel", "draw", "(II)Z"⟩, ⟨"WholeFieldsModel", "whose", "(I)I"⟩, ⟨"WholeFieldsModel", "sum", "(I)I"⟩, ⟨"WholeFieldsModel", "values", "()V"⟩, ⟨"WholeFieldsModel", "sumOf", "(II)I"⟩, ⟨"WholeFieldsModel", "total", "(I)I"⟩, ⟨"WholeFieldsModel", "lost", "(I)I"⟩, ⟨"WholeFieldsModel", "isYes", "(I)Z"⟩, ⟨"WholeFieldsModel", "allSums", "()I"⟩, ⟨"WholeFieldsModel", "allShort", "()I"⟩, ⟨"WholeFieldsModel", "bound", "()I"⟩, ⟨"WholeFieldsModel", "pairs", "()I"⟩, ⟨"WholeFieldsModel", "isEnvying", "(II)Z"⟩, ⟨"WholeFieldsModel", "many", "(I)I"⟩, ⟨"WholeFieldsModel", "borders", "()I"⟩, ⟨"WholeFieldsModel", "bars", "()I"⟩, ⟨"WholeFieldsModel", "barsNow", "()I"⟩, ⟨"WholeFieldsModel", "hangs", "([II)Z"⟩, ⟨"WholeFieldsModel", "isSquare", "(I)Z"⟩, ⟨"WholeFieldsModel", "barred", "()I"⟩, ⟨"WholeFieldsModel", "envies", "(II)I"⟩, ⟨"WholeFieldsModel", "votes", "(I)I"⟩, ⟨"WholeFieldsModel", "grow", "()I"⟩, ⟨"WholeFieldsModel", "taken", "(I)I"⟩, ⟨"WholeFieldsModel", "better", "(I)I"⟩, ⟨"WholeFieldsModel", "isMoved", "()Z"⟩, ⟨"WholeFieldsModel", "looks", "(III)V"⟩, ⟨"WholeFieldsModel", "exchanges", "(II)V"⟩, ⟨"WholeFieldsModel", "can", "()I"⟩, ⟨"WholeFieldsModel", "best", "(Z)I"⟩, ⟨"WholeFieldsModel", "stakes", "(I)I"⟩, ⟨"WholeFieldsModel", "isField", "(I)Z"⟩, ⟨"WholeFieldsModel", "walks", "(I)V"⟩, ⟨"WholeFieldsModel", "isIn", "(III)Z"⟩, ⟨"WholeFieldsModel", "stake", "(II)I"⟩, ⟨"WholeFieldsModel", "within", "(I)I"⟩, ⟨"WholeFieldsModel", "split", "(III)I"⟩, ⟨"WholeFieldsModel", "bits", "(I)I"⟩, ⟨"WholeFieldsModel", "part", "()I"⟩, ⟨"WholeFieldsModel", "corner", "(I)I"⟩, ⟨"WholeFieldsModel", "clear", "()I"⟩, ⟨"WholeFieldsModel", "ditches", "()I"⟩, ⟨"WholeFieldsModel", "spreads", "(I)V"⟩, ⟨"WholeFieldsModel", "isBorder", "(IZ)Z"⟩, ⟨"WholeFieldsModel", "count", "(I)I"⟩, ⟨"WholeFieldsModel", "trouble", "()I"⟩]
def mBT : List ByteArray := [code, prog_1_method_1_code, prog_9_method_1_code, prog_3_method_1_code, prog_10_method_1_code, prog_7_method_1_code, prog_5_method_1_code, prog_2_method_1_code, prog_8_method_1_code, prog_6_method_1_code, prog_12_method_1_code, prog_11_method_1_code, prog_4_method_1_code, prog_1_method_36_code, prog_5_method_2_code, prog_27_method_103_code, prog_27_method_101_code, prog_1_method_2_code, prog_1_method_35_code, prog_1_method_3_code, prog_1_method_39_code, prog_9_method_2_code, prog_3_method_2_code, prog_10_method_2_code, prog_20_method_69_code, prog_20_method_65_code, prog_10_method_4_code, prog_10_method_7_code, prog_10_method_5_code, prog_10_method_8_code, prog_10_method_6_code, prog_10_method_9_code, prog_9_method_4_code, prog_9_method_5_code, prog_9_method_3_code, prog_9_method_6_code, prog_9_method_8_code, prog_9_method_7_code, prog_3_method_3_code, prog_9_method_13_code, prog_9_method_9_code, prog_9_method_10_code, prog_9_method_12_code, prog_3_method_4_code, prog_9_method_11_code, prog_9_method_14_code, prog_9_method_15_code, prog_9_method_16_code, prog_9_method_17_code, prog_10_method_3_code, prog_7_method_2_code, prog_1_method_37_code, prog_1_method_4_code, prog_1_method_5_code, prog_1_method_6_code, prog_7_method_3_code, prog_7_method_10_code, prog_7_method_11_code, prog_7_method_16_code, prog_7_method_17_code, prog_7_method_18_code, prog_7_method_15_code, prog_20_method_59_code, prog_3_method_5_code, prog_3_method_7_code, prog_3_method_8_code, prog_3_method_6_code, prog_1_method_7_code, prog_7_method_5_code, prog_1_method_41_code, prog_7_method_8_code, prog_1_method_38_code, prog_1_method_8_code, prog_7_method_6_code, prog_7_method_4_code, prog_7_method_9_code, prog_1_method_9_code, prog_1_method_10_code, prog_1_method_11_code, prog_1_method_12_code, prog_7_method_12_code, prog_1_method_13_code, prog_5_method_3_code, prog_1_method_14_code, prog_1_method_15_code, prog_2_method_3_code, prog_2_method_4_code, prog_1_method_16_code, prog_1_method_40_code, prog_2_method_2_code, prog_2_method_6_code, prog_2_method_7_code, prog_2_method_5_code, prog_2_method_8_code, prog_7_method_13_code, prog_2_method_9_code, prog_2_method_11_code, prog_2_method_10_code, prog_2_method_13_code, prog_2_method_12_code, prog_2_method_14_code, prog_5_method_4_code, prog_7_method_19_code, prog_19_method_50_code, prog_1_method_17_code, prog_5_method_6_code, prog_5_method_5_code, prog_7_method_23_code, prog_5_method_7_code, prog_7_method_20_code, prog_5_method_8_code, prog_7_method_21_code, prog_1_method_18_code, prog_1_method_19_code, prog_1_method_20_code, prog_1_method_21_code, prog_5_method_9_code, prog_5_method_10_code, prog_5_method_11_code, prog_5_method_12_code, prog_1_method_22_code, prog_8_method_2_code, prog_8_method_4_code, prog_8_method_5_code, prog_8_method_6_code, prog_8_method_9_code, prog_8_method_8_code, prog_8_method_11_code, prog_7_method_22_code, prog_8_method_10_code, prog_8_method_7_code, prog_8_method_3_code, prog_1_method_23_code, prog_1_method_24_code, prog_6_method_2_code, prog_6_method_3_code, prog_6_method_4_code, prog_6_method_5_code, prog_6_method_6_code, prog_6_method_7_code, prog_6_method_9_code, prog_6_method_10_code, prog_6_method_13_code, prog_6_method_11_code, prog_6_method_12_code, prog_6_method_8_code, prog_1_method_25_code, prog_12_method_2_code, prog_12_method_5_code, prog_12_method_3_code, prog_12_method_4_code, prog_1_method_27_code, prog_12_method_7_code, prog_1_method_28_code, prog_11_method_2_code, prog_11_method_3_code, prog_11_method_4_code, prog_18_method_49_code, prog_1_method_29_code, prog_1_method_30_code, prog_7_method_7_code, prog_4_method_2_code, prog_4_method_3_code, prog_4_method_4_code, prog_1_method_31_code, prog_1_method_32_code, prog_4_method_5_code, prog_4_method_6_code, prog_4_method_7_code, prog_4_method_8_code, prog_4_method_9_code, prog_4_method_10_code, prog_4_method_11_code, prog_1_method_33_code, prog_7_method_14_code, prog_1_method_34_code, method_3_code, prog_1_method_26_code, prog_12_method_6_code, prog_14_method_1_code, prog_16_method_1_code, prog_21_method_5_code, prog_17_method_5_code, prog_26_method_5_code, prog_14_method_2_code, prog_14_method_25_code, prog_14_method_26_code, prog_14_method_3_code, prog_15_method_1_code, prog_14_method_14_code, prog_14_method_10_code, prog_14_method_11_code, prog_14_method_12_code, prog_14_method_19_code, prog_14_method_15_code, prog_14_method_13_code, prog_22_method_54_code, prog_22_method_152_code, prog_22_method_56_code, prog_22_method_154_code, prog_23_method_2_code, prog_22_method_155_code, prog_29_method_11_code, prog_14_method_9_code, prog_14_method_17_code, prog_14_method_18_code, prog_15_method_3_code, prog_14_method_22_code, prog_14_method_21_code, prog_14_method_23_code, prog_14_method_16_code, prog_14_method_20_code, prog_15_method_2_code, prog_14_method_24_code, prog_14_method_29_code, prog_14_method_6_code, prog_14_method_27_code, prog_14_method_28_code, prog_14_method_30_code, prog_14_method_8_code, prog_14_method_33_code, prog_14_method_31_code, prog_14_method_5_code, prog_14_method_7_code, prog_14_method_34_code, prog_14_method_32_code, prog_14_method_35_code, prog_14_method_36_code, prog_14_method_37_code, prog_14_method_43_code, prog_14_method_42_code, prog_14_method_40_code, prog_14_method_39_code, prog_14_method_41_code, prog_14_method_38_code, prog_14_method_45_code, prog_14_method_46_code, prog_14_method_56_code, prog_14_method_44_code, prog_14_method_47_code, prog_14_method_57_code, prog_14_method_4_code, prog_14_method_53_code, prog_14_method_48_code, prog_14_method_49_code, prog_14_method_54_code, prog_14_method_52_code, prog_14_method_51_code, prog_14_method_50_code, prog_14_method_55_code, prog_14_method_61_code, prog_14_method_60_code, prog_14_method_58_code, prog_14_method_59_code, prog_14_method_62_code, prog_14_method_63_code, prog_14_method_64_code, prog_14_method_66_code, prog_14_method_65_code, prog_14_method_70_code, prog_14_method_68_code, prog_14_method_67_code, prog_14_method_69_code, prog_14_method_71_code, prog_14_method_72_code, prog_14_method_76_code, prog_14_method_75_code, prog_14_method_74_code, prog_14_method_73_code, prog_14_method_77_code, prog_14_method_78_code, prog_14_method_80_code, prog_14_method_79_code, prog_14_method_81_code, prog_14_method_82_code, prog_14_method_83_code, prog_14_method_86_code, prog_14_method_85_code, prog_14_method_84_code, prog_14_method_87_code, prog_14_method_88_code]
def mRT : List (Option FieldType) := [some (.boolean), none, none, none, none, none, none, none, none, none, none, none, none, none, none, none, none, some (.int), none, some (.int), some (.int), some (.boolean), none, none, some (.int), some (.int), none, some (.boolean), none, some (.boolean), none, some (.boolean), none, none, none, none, some (.int), some (.boolean), none, none, none, none, none, none, none, none, none, none, none, some (.boolean), none, some (.int), some (.int), some (.int), some (.int), none, none, none, some (.long), some (.long), some (.long), some (.int), some (.int), some (.int), some (.int), some (.int), some (.int), some (.boolean), some (.boolean), some (.boolean), none, some (.boolean), some (.boolean), some (.boolean), some (.boolean), none, some (.boolean), some (.boolean), some (.boolean), some (.int), some (.int), some (.boolean), none, some (.int), some (.int), some (.int), some (.int), some (.int), some (.int), some (.int), some (.int), some (.int), some (.int), some (.int), some (.boolean), some (.int), some (.int), some (.boolean), some (.int), some (.boolean), some (.int), some (.long), some (.int), some (.int), some (.int), some (.int), some (.long), some (.int), some (.int), some (.boolean), some (.long), some (.long), some (.int), some (.int), some (.int), some (.int), none, none, none, some (.boolean), some (.int), some (.int), some (.boolean), some (.boolean), none, some (.boolean), some (.int), some (.boolean), some (.boolean), none, none, none, some (.int), some (.int), some (.boolean), some (.boolean), some (.boolean), none, some (.boolean), none, some (.boolean), none, some (.int), some (.boolean), some (.boolean), none, some (.int), some (.boolean), none, some (.int), some (.boolean), some (.int), some (.int), some (.int), some (.boolean), some (.boolean), none, some (.int), some (.int), some (.int), some (.int), some (.boolean), some (.boolean), none, some (.int), some (.int), some (.int), none, some (.boolean), none, none, none, some (.boolean), some (.int), some (.int), some (.int), some (.int), some (.int), some (.int), none, none, none, none, none, some (.int), some (.int), some (.int), some (.int), none, none, some (.int), some (.boolean), some (.boolean), none, some (.boolean), some (.long), some (.int), some (.byte), some (.char), some (.boolean), some (.char), none, some (.int), some (.object "WholeFieldsModel$Stop"), some (.boolean), some (.int), some (.boolean), none, none, some (.boolean), some (.boolean), none, none, some (.boolean), none, some (.int), some (.int), some (.int), some (.int), some (.boolean), some (.boolean), some (.boolean), some (.boolean), some (.boolean), some (.boolean), some (.boolean), some (.boolean), some (.boolean), some (.boolean), some (.int), some (.int), some (.int), some (.int), some (.int), some (.int), some (.boolean), some (.int), some (.int), none, some (.int), some (.int), some (.int), some (.boolean), some (.int), some (.int), some (.int), some (.int), some (.boolean), some (.int), some (.int), some (.int), some (.int), some (.boolean), some (.boolean), some (.int), some (.int), some (.int), some (.int), some (.int), some (.int), some (.boolean), none, none, some (.int), some (.int), some (.int), some (.boolean), none, some (.boolean), some (.int), some (.int), some (.int), some (.int), some (.int), some (.int), some (.int), some (.int), none, some (.boolean), some (.int), some (.int)]
def mOT : List Nat := [15, 11, 7, 1, 8, 5, 3, 0, 6, 4, 10, 9, 2, 11, 3, 24, 24, 11, 11, 11, 11, 7, 1, 8, 19, 19, 8, 8, 8, 8, 8, 8, 7, 7, 7, 7, 7, 7, 1, 7, 7, 7, 7, 1, 7, 7, 7, 7, 7, 8, 5, 11, 11, 11, 11, 5, 5, 5, 5, 5, 5, 5, 19, 1, 1, 1, 1, 11, 5, 11, 5, 11, 11, 5, 5, 5, 11, 11, 11, 11, 5, 11, 3, 11, 11, 0, 0, 11, 11, 0, 0, 0, 0, 0, 5, 0, 0, 0, 0, 0, 0, 3, 5, 18, 11, 3, 3, 5, 3, 5, 3, 5, 11, 11, 11, 11, 3, 3, 3, 3, 11, 6, 6, 6, 6, 6, 6, 6, 5, 6, 6, 6, 11, 11, 4, 4, 4, 4, 4, 4, 4, 4, 4, 4, 4, 4, 11, 10, 10, 10, 10, 11, 10, 11, 9, 9, 9, 17, 11, 11, 5, 2, 2, 2, 11, 11, 2, 2, 2, 2, 2, 2, 2, 11, 5, 11, 15, 11, 10, 14, 13, 20, 16, 23, 14, 14, 14, 14, 12, 14, 14, 14, 14, 14, 14, 14, 21, 21, 21, 21, 22, 21, 25, 14, 14, 14, 12, 14, 14, 14, 14, 14, 12, 14, 14, 14, 14, 14, 14, 14, 14, 14, 14, 14, 14, 14, 14, 14, 14, 14, 14, 14, 14, 14, 14, 14, 14, 14, 14, 14, 14, 14, 14, 14, 14, 14, 14, 14, 14, 14, 14, 14, 14, 14, 14, 14, 14, 14, 14, 14, 14, 14, 14, 14, 14, 14, 14, 14, 14, 14, 14, 14, 14, 14, 14, 14, 14, 14, 14, 14, 14]
def mY (M : Nat) : MethodName := nth9 mYT M ⟨"", "", ""⟩
def mB (M : Nat) : ByteArray := nth9 mBT M code
def mRt (M : Nat) : Option FieldType := nth9 mRT M none
def mO (M : Nat) : Nat := nth9 mOT M 0
/-- field links: class, index, kind, place, the word -/
def flL : List (Nat × Nat × Nat × Nat × Nat) := [(1, 11, 1, 0, 165), (1, 15, 1, 1, 166), (1, 18, 1, 2, 167), (1, 21, 1, 3, 168), (4, 63, 1, 3, 169), (11, 121, 1, 3, 170), (6, 65, 1, 3, 171), (0, 66, 1, 3, 172), (5, 85, 1, 3, 173), (7, 105, 1, 3, 174), (3, 95, 1, 3, 175), (8, 9, 8, 0, 194), (8, 24, 8, 1, 195), (8, 28, 8, 2, 196), (8, 31, 8, 3, 197), (7, 67, 8, 3, 198), (8, 34, 8, 4, 199), (7, 70, 8, 4, 200), (8, 38, 8, 5, 201), (7, 133, 8, 5, 202), (8, 41, 8, 6, 203), (7, 136, 8, 6, 204), (7, 41, 7, 0, 221), (7, 9, 7, 1, 222), (7, 18, 7, 2, 223), (11, 115, 7, 2, 224), (7, 45, 7, 3, 225), (11, 103, 7, 3, 226), (7, 49, 7, 4, 227), (11, 107, 7, 4, 228), (7, 52, 7, 5, 229), (7, 111, 7, 6, 230), (7, 145, 7, 7, 231), (7, 22, 7, 8, 232), (7, 26, 7, 9, 233), (7, 30, 7, 10, 234), (7, 33, 7, 11, 235), (7, 114, 7, 12, 236), (5, 9, 5, 0, 272), (5, 15, 5, 1, 273), (5, 18, 5, 2, 274), (4, 121, 5, 2, 275), (6, 103, 5, 2, 276), (3, 62, 5, 2, 277), (0, 82, 5, 2, 278), (11, 159, 5, 2, 279), (5, 21, 5, 3, 280), (3, 108, 5, 3, 281), (5, 24, 5, 4, 282), (0, 58, 5, 4, 283), (4, 148, 5, 4, 284), (11, 164, 5, 4, 285), (5, 27, 5, 5, 286), (5, 33, 5, 6, 287), (4, 59, 5, 6, 288), (11, 111, 5, 6, 289), (6, 59, 5, 6, 290), (0, 62, 5, 6, 291), (3, 91, 5, 6, 292), (5, 37, 5, 7, 293), (10, 30, 5, 7, 294), (2, 43, 5, 7, 295), (5, 41, 5, 8, 296), (10, 67, 5, 8, 297), (2, 48, 5, 8, 298), (5, 44, 5, 9, 299), (9, 40, 5, 9, 300), (0, 48, 5, 9, 301), (4, 115, 5, 9, 302), (6, 86, 5, 9, 303), (3, 58, 5, 9, 304), (11, 136, 5, 9, 305), (5, 47, 5, 10, 306), (3, 69, 5, 10, 307), (11, 170, 5, 10, 308), (5, 50, 5, 11, 309), (11, 173, 5, 11, 310), (0, 103, 5, 11, 311), (4, 42, 5, 12, 312), (5, 53, 5, 12, 313), (3, 34, 5, 12, 314), (0, 113, 5, 12, 315), (11, 305, 5, 12, 316), (4, 48, 5, 13, 317), (5, 57, 5, 13, 318), (3, 40, 5, 13, 319), (11, 298, 5, 13, 320), (5, 60, 5, 14, 321), (5, 63, 5, 15, 322), (3, 19, 3, 0, 362), (3, 9, 3, 1, 363), (6, 34, 3, 1, 364), (2, 55, 3, 1, 365), (0, 97, 3, 1, 366), (11, 181, 3, 1, 367), (3, 15, 3, 2, 368), (0, 38, 3, 2, 369), (6, 125, 3, 2, 370), (11, 242, 3, 2, 371), (3, 75, 3, 3, 372), (11, 200, 3, 3, 373), (0, 9, 0, 0, 389), (0, 15, 0, 1, 390), (6, 15, 6, 0, 402), (6, 19, 6, 1, 403), (6, 23, 6, 2, 404), (6, 9, 6, 3, 405), (6, 53, 6, 4, 406), (6, 56, 6, 5, 407), (6, 80, 6, 6, 408), (6, 83, 6, 7, 409), (6, 39, 6, 8, 410), (6, 43, 6, 9, 411), (6, 50, 6, 10, 412), (4, 34, 4, 0, 442), (4, 38, 4, 1, 443), (4, 11, 4, 2, 444), (4, 15, 4, 3, 445), (4, 18, 4, 4, 446), (4, 21, 4, 5, 447), (4, 25, 4, 6, 448), (4, 28, 4, 7, 449), (4, 31, 4, 8, 450), (4, 108, 4, 9, 451), (4, 82, 4, 10, 452), (4, 69, 4, 11, 453), (4, 73, 4, 12, 454), (4, 135, 4, 13, 455), (4, 151, 4, 14, 456), (4, 154, 4, 15, 457), (11, 239, 4, 15, 458), (10, 18, 10, 0, 498), (10, 11, 10, 1, 499), (10, 15, 10, 2, 500), (10, 22, 10, 3, 501), (11, 250, 10, 3, 502), (10, 26, 10, 4, 503), (9, 16, 9, 0, 521), (9, 9, 9, 1, 522), (9, 13, 9, 2, 523), (9, 20, 9, 3, 524), (9, 24, 9, 4, 525), (9, 73, 9, 5, 526), (11, 278, 9, 5, 527), (9, 76, 9, 6, 528), (9, 47, 9, 7, 529), (11, 272, 9, 7, 530), (2, 21, 2, 0, 554), (2, 25, 2, 1, 555), (2, 11, 2, 2, 556), (2, 15, 2, 3, 557), (2, 18, 2, 4, 558), (2, 29, 2, 5, 559), (11, 292, 2, 5, 560), (11, 9, 11, 0, 588), (11, 18, 11, 1, 589), (11, 25, 11, 2, 590), (11, 34, 11, 3, 591), (11, 43, 11, 4, 592), (11, 52, 11, 5, 593), (11, 59, 11, 6, 594), (11, 66, 11, 7, 595), (11, 73, 11, 8, 596), (11, 80, 11, 9, 597), (11, 87, 11, 10, 598), (11, 106, 11, 11, 599), (11, 110, 11, 12, 600), (11, 203, 11, 13, 601), (11, 275, 11, 14, 602), (11, 129, 11, 15, 603), (23, 198, 13, 4, 1371), (23, 31, 13, 3, 1404), (23, 7, 13, 0, 1405), (23, 17, 13, 1, 1406), (23, 24, 13, 2, 1407), (14, 104, 14, 0, 1455), (14, 107, 14, 1, 1456), (14, 9, 14, 2, 1457), (14, 247, 14, 3, 1458), (14, 254, 14, 4, 1459), (14, 196, 14, 5, 1460), (14, 16, 14, 6, 1461), (14, 20, 14, 7, 1462), (14, 241, 14, 8, 1463), (14, 120, 14, 9, 1464), (14, 135, 14, 10, 1465), (14, 142, 14, 11, 1466), (14, 116, 14, 12, 1467), (14, 145, 14, 13, 1468), (14, 159, 14, 14, 1469), (14, 152, 14, 15, 1470), (14, 24, 14, 16, 1471), (14, 28, 14, 17, 1472), (14, 31, 14, 18, 1473), (14, 34, 14, 19, 1474), (14, 219, 14, 20, 1475), (14, 226, 14, 21, 1476), (14, 264, 14, 22, 1477), (14, 267, 14, 23, 1478), (14, 270, 14, 24, 1479), (14, 38, 14, 25, 1480), (14, 41, 14, 26, 1481), (14, 273, 14, 27, 1482), (14, 44, 14, 28, 1483), (14, 47, 14, 29, 1484), (14, 50, 14, 30, 1485), (14, 53, 14, 31, 1486), (14, 56, 14, 32, 1487), (14, 59, 14, 33, 1488), (14, 62, 14, 34, 1489), (14, 65, 14, 35, 1490), (14, 68, 14, 36, 1491), (14, 71, 14, 37, 1492), (14, 74, 14, 38, 1493), (14, 77, 14, 39, 1494), (14, 80, 14, 40, 1495), (14, 83, 14, 41, 1496), (14, 355, 14, 42, 1497), (14, 371, 14, 43, 1498), (14, 374, 14, 44, 1499), (14, 377, 14, 45, 1500), (14, 380, 14, 46, 1501), (14, 383, 14, 47, 1502), (14, 86, 14, 48, 1503), (14, 89, 14, 49, 1504), (14, 396, 14, 50, 1505), (14, 92, 14, 51, 1506), (14, 95, 14, 52, 1507), (14, 98, 14, 53, 1508), (14, 101, 14, 54, 1509), (12, 22, 12, 0, 1643), (12, 9, 12, 1, 1645), (12, 15, 12, 2, 1647), (12, 19, 12, 3, 1649)]
def fnL : List (Nat × Nat × Nat × Nat) := [(14, 113, 13, 5), (14, 119, 13, 6), (14, 206, 12, 0), (14, 209, 12, 1), (14, 302, 12, 2), (14, 300, 12, 3)]
def clL : List (Nat × Nat × Nat × Nat) := [(15, 8, 11, 145), (11, 13, 7, 153), (7, 15, 1, 159), (7, 36, 8, 188), (11, 22, 5, 264), (5, 30, 1, 270), (11, 29, 3, 356), (11, 38, 0, 383), (11, 47, 6, 396), (11, 56, 4, 436), (11, 63, 10, 492), (11, 70, 9, 515), (11, 77, 2, 548), (15, 16, 14, 1420), (14, 13, 13, 1426), (14, 201, 12, 1637)]
def ciL : List (Nat × Nat × Nat × Nat) := [(11, 163, 0, 884), (11, 176, 1, 894), (4, 124, 2, 1158), (17, 265, 3, 1263), (17, 266, 4, 1264), (17, 267, 5, 1265), (14, 292, 6, 1841), (14, 112, 7, 1871)]
def cjL : List (Nat × Nat × Nat × Nat) := [(7, 74, 0, 696), (7, 83, 1, 709), (7, 121, 2, 713), (7, 123, 3, 714), (7, 125, 4, 715), (7, 127, 5, 716), (7, 129, 6, 717), (7, 131, 7, 718), (5, 75, 8, 797), (3, 32, 9, 907), (0, 117, 10, 988), (18, 314, 11, 996), (18, 316, 12, 997), (18, 318, 13, 998), (4, 51, 14, 1140), (9, 62, 15, 1258), (11, 311, 16, 1337), (14, 129, 17, 1671)]
def strL : List (Nat × Nat × Nat) := [(11, 255, 0), (14, 166, 1), (14, 172, 2), (14, 180, 3), (14, 181, 4), (14, 182, 5), (14, 184, 6), (14, 176, 7), (14, 178, 8)]
def strX : List String := ["there is no such stake", "owner", "worth", "soil", "wet", "far", "water", "least", "most"]
/-- method links: class, index, method, sort (0 virtual, 1 static, 2 made, 3 made by a nest mate, 4 virtual with a table, 5 static with a table), the words -/
def mlL : List (Nat × Nat × Nat × Nat × List Nat) := [(11, 15, 2, 2, [155, 156, 118, 157]), (11, 24, 5, 3, [267, 121, 268]), (11, 31, 6, 2, [358, 359, 122, 360]), (11, 40, 7, 2, [385, 386, 123, 387]), (11, 49, 8, 2, [398, 399, 124, 400]), (11, 58, 9, 2, [438, 439, 125, 440]), (11, 65, 10, 2, [494, 495, 126, 496]), (11, 72, 11, 2, [517, 518, 127, 519]), (11, 79, 12, 2, [550, 551, 128, 552]), (11, 84, 13, 0, [574, 576, 0, 117, 577]), (11, 91, 18, 0, [641, 643, 1, 117, 644]), (11, 95, 20, 0, [649, 651, 2, 117, 652]), (11, 99, 21, 0, [653, 654, 655, 118, 656]), (11, 118, 50, 0, [771, 772, 773, 121, 774]), (11, 126, 51, 0, [776, 778, 19, 117, 779]), (11, 132, 55, 0, [792, 793, 794, 121, 795]), (11, 139, 68, 0, [844, 845, 846, 121, 847]), (11, 142, 69, 0, [848, 850, 24, 117, 851]), (11, 145, 70, 0, [852, 853, 854, 121, 855]), (11, 149, 71, 0, [856, 858, 25, 117, 859]), (11, 153, 73, 0, [864, 865, 866, 121, 867]), (11, 156, 75, 0, [872, 873, 874, 121, 875]), (11, 167, 74, 0, [889, 869, 870, 121, 871]), (11, 177, 80, 0, [895, 896, 897, 121, 898]), (11, 184, 82, 0, [903, 904, 905, 122, 906]), (11, 187, 85, 0, [916, 917, 918, 123, 919]), (11, 190, 88, 0, [929, 931, 27, 117, 932]), (11, 193, 89, 0, [933, 934, 935, 123, 936]), (11, 196, 105, 0, [1003, 1004, 1005, 122, 1006]), (11, 206, 97, 0, [1039, 968, 969, 123, 970]), (11, 210, 99, 0, [1044, 976, 977, 123, 978]), (11, 213, 116, 0, [1049, 1050, 1051, 122, 1052]), (11, 216, 106, 0, [1070, 1008, 1009, 122, 1010]), (11, 220, 103, 1, [1071, 994, 141, 995]), (11, 226, 121, 0, [1076, 1077, 1078, 124, 1079]), (11, 229, 122, 0, [1131, 1081, 1082, 124, 1083]), (11, 232, 134, 0, [1136, 1137, 1138, 125, 1139]), (11, 235, 135, 0, [1142, 1143, 1144, 125, 1145]), (11, 246, 147, 0, [1203, 1204, 1205, 126, 1206]), (11, 260, 178, 0, [1416, 1417, 1418, 126, 1419]), (11, 263, 152, 0, [1233, 1234, 1235, 126, 1236]), (11, 266, 154, 0, [1241, 1242, 1243, 127, 1244]), (11, 270, 155, 0, [1248, 1249, 1250, 127, 1251]), (11, 281, 160, 0, [1274, 1275, 1276, 121, 1277]), (11, 284, 161, 0, [1278, 1279, 1280, 128, 1281]), (11, 287, 162, 0, [1282, 1283, 1284, 128, 1285]), (11, 290, 163, 0, [1286, 1287, 1288, 128, 1289]), (11, 295, 166, 0, [1298, 1299, 1300, 128, 1301]), (11, 302, 174, 0, [1332, 1333, 1334, 121, 1335]), (11, 308, 101, 0, [1336, 985, 986, 122, 987]), (11, 313, 14, 0, [578, 579, 580, 122, 581]), (0, 19, 90, 0, [937, 939, 28, 123, 940]), (0, 23, 91, 0, [942, 944, 29, 123, 945]), (0, 26, 93, 0, [950, 952, 30, 123, 953]), (0, 29, 96, 0, [963, 965, 32, 123, 966]), (0, 32, 98, 0, [971, 973, 33, 123, 974]), (0, 35, 100, 0, [980, 982, 34, 123, 983]), (0, 44, 86, 0, [920, 922, 26, 123, 923]), (0, 54, 80, 0, [924, 896, 897, 121, 898]), (0, 71, 85, 0, [941, 917, 918, 123, 919]), (0, 75, 92, 0, [946, 947, 948, 123, 949]), (0, 78, 94, 0, [954, 955, 956, 121, 957]), (0, 85, 95, 0, [958, 960, 31, 123, 961]), (0, 88, 25, 1, [962, 669, 135, 670]), (0, 93, 97, 0, [967, 968, 969, 123, 970]), (0, 100, 61, 0, [979, 819, 820, 121, 821]), (0, 106, 99, 0, [975, 976, 977, 123, 978]), (0, 109, 101, 0, [984, 985, 986, 122, 987]), (0, 119, 102, 0, [989, 990, 991, 121, 992]), (1, 25, 64, 1, [829, 830, 119, 831]), (1, 29, 66, 1, [837, 838, 119, 839]), (1, 33, 65, 1, [832, 833, 119, 834]), (1, 37, 24, 1, [835, 666, 135, 667]), (1, 43, 25, 1, [836, 669, 135, 670]), (2, 33, 167, 0, [1302, 1304, 62, 128, 1305]), (2, 36, 169, 0, [1310, 1312, 64, 128, 1313]), (2, 40, 171, 0, [1320, 1322, 66, 128, 1323]), (2, 51, 168, 0, [1306, 1308, 63, 128, 1309]), (2, 60, 170, 0, [1314, 1316, 65, 128, 1317]), (2, 64, 160, 0, [1318, 1275, 1276, 121, 1277]), (2, 67, 24, 1, [1319, 666, 135, 667]), (2, 73, 172, 0, [1324, 1326, 67, 128, 1327]), (3, 23, 15, 1, [582, 583, 129, 584]), (3, 29, 16, 1, [585, 586, 129, 587]), (3, 43, 101, 0, [1011, 985, 986, 122, 987]), (3, 47, 106, 0, [1007, 1008, 1009, 122, 1010]), (3, 50, 107, 1, [1012, 1013, 121, 1014]), (3, 54, 108, 0, [1015, 1017, 35, 122, 1018]), (3, 65, 109, 0, [1019, 1020, 1021, 121, 1022]), (3, 72, 110, 0, [1023, 1025, 36, 122, 1026]), (3, 78, 111, 0, [1027, 1028, 1029, 121, 1030]), (3, 82, 14, 0, [1053, 579, 580, 122, 581]), (3, 85, 117, 0, [1054, 1056, 37, 122, 1057]), (3, 88, 118, 0, [1059, 1061, 38, 122, 1062]), (3, 100, 119, 0, [1064, 1066, 39, 122, 1067]), (3, 104, 82, 0, [1058, 904, 905, 122, 906]), (3, 111, 94, 0, [1063, 955, 956, 121, 957]), (3, 114, 58, 0, [1068, 807, 808, 121, 809]), (3, 117, 80, 0, [1069, 896, 897, 121, 898]), (4, 53, 103, 1, [1141, 994, 141, 995]), (4, 76, 24, 1, [1146, 666, 135, 667]), (4, 83, 16, 1, [1147, 586, 129, 587]), (4, 89, 15, 1, [1148, 583, 129, 584]), (4, 92, 136, 0, [1149, 1151, 48, 125, 1152]), (4, 96, 137, 0, [1154, 1156, 49, 125, 1157]), (4, 99, 139, 0, [1165, 1167, 51, 125, 1168]), (4, 103, 14, 0, [1197, 579, 580, 122, 581]), (4, 111, 82, 0, [1198, 904, 905, 122, 906]), (4, 117, 94, 0, [1153, 955, 956, 121, 957]), (4, 125, 138, 0, [1159, 1161, 50, 125, 1162]), (4, 129, 80, 0, [1163, 896, 897, 121, 898]), (4, 132, 25, 1, [1164, 669, 135, 670]), (4, 138, 140, 0, [1169, 1171, 52, 125, 1172]), (4, 141, 141, 0, [1173, 1175, 53, 125, 1176]), (4, 144, 145, 0, [1193, 1195, 57, 125, 1196]), (4, 157, 142, 0, [1177, 1179, 54, 125, 1180]), (4, 161, 143, 0, [1181, 1183, 55, 125, 1184]), (4, 165, 144, 0, [1185, 1187, 56, 125, 1188]), (4, 174, 128, 0, [1189, 1109, 1110, 121, 1111]), (5, 32, 3, 3, [162, 119, 163]), (5, 66, 15, 1, [775, 583, 129, 584]), (5, 72, 50, 0, [796, 772, 773, 121, 774]), (5, 77, 56, 0, [798, 800, 20, 121, 801]), (5, 81, 74, 0, [868, 869, 870, 121, 871]), (5, 88, 58, 0, [806, 807, 808, 121, 809]), (5, 92, 57, 0, [802, 804, 21, 121, 805]), (5, 96, 61, 0, [818, 819, 820, 121, 821]), (5, 100, 63, 0, [825, 826, 827, 119, 828]), (5, 104, 62, 1, [822, 823, 135, 824]), (5, 110, 59, 0, [810, 812, 22, 121, 813]), (5, 113, 60, 0, [814, 816, 23, 121, 817]), (5, 116, 103, 1, [993, 994, 141, 995]), (5, 122, 109, 0, [1112, 1020, 1021, 121, 1022]), (5, 126, 111, 0, [1113, 1028, 1029, 121, 1030]), (6, 27, 122, 0, [1080, 1081, 1082, 124, 1083]), (6, 31, 131, 0, [1122, 1124, 47, 124, 1125]), (6, 46, 82, 0, [1126, 904, 905, 122, 906]), (6, 70, 85, 0, [1084, 917, 918, 123, 919]), (6, 76, 92, 0, [1085, 947, 948, 123, 949]), (6, 89, 123, 0, [1086, 1088, 40, 124, 1089]), (6, 93, 124, 0, [1091, 1093, 41, 124, 1094]), (6, 97, 130, 0, [1118, 1120, 46, 124, 1121]), (6, 100, 94, 0, [1090, 955, 956, 121, 957]), (6, 106, 80, 0, [1095, 896, 897, 121, 898]), (6, 109, 125, 0, [1096, 1098, 42, 124, 1099]), (6, 113, 127, 0, [1104, 1106, 44, 124, 1107]), (6, 117, 129, 0, [1114, 1116, 45, 124, 1117]), (6, 121, 126, 0, [1100, 1102, 43, 124, 1103]), (6, 129, 128, 0, [1108, 1109, 1110, 121, 1111]), (7, 17, 3, 3, [162, 119, 163]), (7, 38, 4, 2, [190, 191, 120, 192]), (7, 55, 22, 0, [657, 658, 659, 119, 660]), (7, 58, 23, 0, [661, 662, 663, 120, 664]), (7, 61, 26, 0, [671, 672, 673, 120, 674]), (7, 64, 32, 0, [692, 694, 5, 118, 695]), (7, 76, 33, 0, [697, 699, 6, 118, 700]), (7, 80, 35, 0, [705, 707, 8, 118, 708]), (7, 85, 40, 0, [731, 733, 11, 118, 734]), (7, 88, 44, 0, [747, 749, 14, 118, 750]), (7, 91, 45, 0, [751, 753, 15, 118, 754]), (7, 94, 34, 0, [701, 703, 7, 118, 704]), (7, 97, 36, 1, [710, 711, 118, 712]), (7, 101, 37, 0, [719, 721, 9, 118, 722]), (7, 108, 38, 0, [723, 724, 725, 119, 726]), (7, 117, 39, 0, [727, 729, 10, 118, 730]), (7, 139, 41, 0, [735, 737, 12, 118, 738]), (7, 142, 42, 0, [739, 741, 13, 118, 742]), (7, 148, 43, 0, [743, 744, 745, 119, 746]), (7, 151, 46, 0, [755, 757, 16, 118, 758]), (7, 154, 47, 0, [759, 761, 17, 118, 762]), (7, 157, 48, 0, [763, 765, 18, 118, 766]), (7, 160, 49, 0, [767, 768, 769, 120, 770]), (8, 15, 24, 1, [665, 666, 135, 667]), (8, 21, 25, 1, [668, 669, 135, 670]), (8, 44, 27, 1, [675, 676, 120, 677]), (8, 48, 28, 0, [678, 680, 3, 120, 681]), (8, 51, 29, 1, [682, 683, 120, 684]), (8, 54, 30, 0, [685, 687, 4, 120, 688]), (8, 57, 31, 1, [689, 690, 120, 691]), (9, 28, 103, 1, [1245, 994, 141, 995]), (9, 34, 109, 0, [1246, 1020, 1021, 121, 1022]), (9, 43, 80, 0, [1247, 896, 897, 121, 898]), (9, 50, 107, 1, [1252, 1013, 121, 1014]), (9, 53, 24, 1, [1253, 666, 135, 667]), (9, 58, 156, 0, [1254, 1256, 61, 127, 1257]), (9, 64, 102, 0, [1259, 990, 991, 121, 992]), (9, 68, 157, 1, [1260, 1261, 144, 1262]), (10, 35, 109, 0, [1207, 1020, 1021, 121, 1022]), (10, 39, 107, 1, [1208, 1013, 121, 1014]), (10, 43, 148, 0, [1209, 1211, 58, 126, 1212]), (10, 53, 149, 0, [1217, 1219, 59, 126, 1220]), (10, 63, 150, 0, [1225, 1227, 60, 126, 1228]), (15, 7, 177, 0, [1346, 1347, 1348, 117, 1349]), (15, 15, 1, 2, [147, 148, 117, 149]), (15, 18, 179, 2, [1422, 1423, 130, 1424]), (15, 19, 17, 0, [637, 638, 639, 117, 640]), (15, 23, 185, 0, [1625, 1626, 1627, 130, 1628]), (15, 24, 19, 0, [645, 646, 647, 117, 648]), (15, 28, 186, 4, [1629, 1630, 1631, 130, 1632]), (15, 29, 52, 0, [780, 781, 782, 117, 783]), (15, 33, 216, 0, [1794, 1795, 1796, 130, 1797]), (15, 34, 53, 0, [784, 785, 786, 117, 787]), (15, 37, 217, 0, [1798, 1799, 1800, 130, 1801]), (15, 38, 54, 0, [788, 789, 790, 117, 791]), (15, 41, 218, 0, [1802, 1803, 1804, 130, 1805]), (15, 42, 67, 0, [840, 841, 842, 117, 843]), (15, 46, 220, 0, [1809, 1810, 1811, 130, 1812]), (15, 47, 72, 0, [860, 861, 862, 117, 863]), (15, 51, 224, 0, [1825, 1826, 1827, 130, 1828]), (15, 52, 76, 0, [876, 877, 878, 117, 879]), (15, 55, 226, 0, [1833, 1834, 1835, 130, 1836]), (15, 56, 77, 0, [880, 881, 882, 117, 883]), (15, 59, 227, 0, [1837, 1838, 1839, 130, 1840]), (15, 60, 78, 0, [885, 886, 887, 117, 888]), (15, 63, 228, 0, [1842, 1843, 1844, 130, 1845]), (15, 64, 79, 0, [890, 891, 892, 117, 893]), (15, 67, 229, 0, [1846, 1847, 1848, 130, 1849]), (15, 68, 81, 0, [899, 900, 901, 117, 902]), (15, 71, 235, 0, [1872, 1873, 1874, 130, 1875]), (15, 72, 83, 0, [908, 909, 910, 117, 911]), (15, 75, 236, 0, [1876, 1877, 1878, 130, 1879]), (15, 76, 84, 0, [912, 913, 914, 117, 915]), (15, 79, 237, 0, [1880, 1881, 1882, 130, 1883]), (15, 80, 87, 0, [925, 926, 927, 117, 928]), (15, 83, 240, 0, [1892, 1893, 1894, 130, 1895]), (15, 84, 104, 0, [999, 1000, 1001, 117, 1002]), (15, 87, 250, 0, [1932, 1933, 1934, 130, 1935]), (15, 88, 112, 0, [1031, 1032, 1033, 117, 1034]), (15, 91, 254, 0, [1948, 1949, 1950, 130, 1951]), (15, 92, 113, 0, [1035, 1036, 1037, 117, 1038]), (15, 95, 255, 0, [1952, 1953, 1954, 130, 1955]), (15, 96, 114, 0, [1040, 1041, 1042, 117, 1043]), (15, 99, 256, 0, [1956, 1957, 1958, 130, 1959]), (15, 100, 115, 0, [1045, 1046, 1047, 117, 1048]), (15, 103, 257, 0, [1960, 1961, 1962, 130, 1963]), (15, 104, 120, 0, [1072, 1073, 1074, 117, 1075]), (15, 107, 259, 0, [1968, 1969, 1970, 130, 1971]), (15, 108, 132, 0, [1127, 1128, 1129, 117, 1130]), (15, 111, 263, 0, [1984, 1985, 1986, 130, 1987]), (15, 112, 133, 0, [1132, 1133, 1134, 117, 1135]), (15, 116, 264, 0, [1988, 1989, 1990, 130, 1991]), (15, 117, 146, 0, [1199, 1200, 1201, 117, 1202]), (15, 120, 265, 0, [1992, 1993, 1994, 130, 1995]), (15, 121, 176, 5, [1342, 1343, 116, 1344]), (15, 126, 269, 0, [2008, 2009, 2010, 130, 2011]), (15, 127, 184, 0, [1621, 1622, 1623, 130, 1624]), (15, 130, 151, 0, [1229, 1230, 1231, 117, 1232]), (15, 133, 270, 0, [2012, 2013, 2014, 130, 2015]), (15, 134, 153, 0, [1237, 1238, 1239, 117, 1240]), (15, 138, 271, 0, [2016, 2017, 2018, 130, 2019]), (15, 139, 158, 0, [1266, 1267, 1268, 117, 1269]), (15, 142, 273, 0, [2023, 2024, 2025, 130, 2026]), (15, 143, 159, 0, [1270, 1271, 1272, 117, 1273]), (15, 146, 274, 0, [2027, 2028, 2029, 130, 2030]), (15, 147, 164, 0, [1290, 1291, 1292, 117, 1293]), (15, 150, 275, 0, [2031, 2032, 2033, 130, 2034]), (15, 151, 165, 0, [1294, 1295, 1296, 117, 1297]), (15, 154, 276, 0, [2035, 2036, 2037, 130, 2038]), (15, 155, 173, 0, [1328, 1329, 1330, 117, 1331]), (15, 158, 279, 0, [2047, 2048, 2049, 130, 2050]), (15, 159, 175, 0, [1338, 1339, 1340, 117, 1341]), (15, 162, 280, 0, [2051, 2052, 2053, 130, 2054]), (14, 15, 180, 2, [1435, 1436, 134, 1437]), (14, 123, 196, 0, [1687, 1688, 1689, 137, 1690]), (14, 131, 198, 0, [1697, 1698, 1699, 137, 1700]), (14, 138, 190, 0, [1664, 1666, 71, 130, 1667]), (14, 148, 191, 1, [1668, 1669, 130, 1670]), (14, 156, 192, 1, [1672, 1673, 130, 1674]), (14, 162, 195, 1, [1684, 1685, 130, 1686]), (14, 168, 194, 0, [1680, 1682, 73, 130, 1683]), (14, 173, 205, 0, [1744, 1746, 76, 130, 1747]), (14, 186, 203, 0, [1735, 1737, 74, 130, 1738]), (14, 189, 189, 0, [1660, 1662, 70, 130, 1663]), (14, 192, 204, 0, [1739, 1741, 75, 130, 1742]), (14, 200, 206, 0, [1754, 1755, 1756, 136, 1757]), (14, 213, 207, 0, [1758, 1760, 77, 130, 1761]), (14, 216, 210, 0, [1770, 1772, 80, 130, 1773]), (14, 222, 208, 0, [1762, 1764, 78, 130, 1765]), (14, 229, 209, 0, [1766, 1768, 79, 130, 1769]), (14, 232, 213, 0, [1782, 1784, 82, 130, 1785]), (14, 235, 211, 0, [1774, 1776, 81, 130, 1777]), (14, 238, 212, 0, [1778, 1779, 1780, 136, 1781]), (14, 244, 187, 0, [1633, 1635, 69, 130, 1636]), (14, 250, 188, 3, [1640, 136, 1641]), (14, 251, 193, 0, [1675, 1677, 72, 130, 1678]), (14, 257, 214, 0, [1786, 1788, 83, 130, 1789]), (14, 261, 215, 0, [1790, 1792, 84, 130, 1793]), (14, 276, 219, 1, [1806, 1807, 130, 1808]), (14, 280, 221, 0, [1813, 1815, 85, 130, 1816]), (14, 283, 222, 0, [1817, 1819, 86, 130, 1820]), (14, 286, 223, 0, [1821, 1823, 87, 130, 1824]), (14, 289, 225, 0, [1829, 1831, 88, 130, 1832]), (14, 293, 232, 1, [1858, 1859, 130, 1860]), (14, 296, 234, 0, [1865, 1867, 92, 130, 1868]), (14, 305, 231, 0, [1854, 1856, 90, 130, 1857]), (14, 307, 233, 0, [1861, 1863, 91, 130, 1864]), (14, 310, 24, 1, [1869, 666, 135, 667]), (14, 315, 25, 1, [1870, 669, 135, 670]), (14, 318, 230, 0, [1850, 1852, 89, 130, 1853]), (14, 321, 239, 0, [1888, 1890, 94, 130, 1891]), (14, 324, 248, 0, [1924, 1926, 102, 130, 1927]), (14, 327, 247, 0, [1920, 1922, 101, 130, 1923]), (14, 331, 238, 0, [1884, 1886, 93, 130, 1887]), (14, 334, 241, 0, [1896, 1898, 95, 130, 1899]), (14, 337, 242, 0, [1900, 1902, 96, 130, 1903]), (14, 340, 243, 0, [1904, 1906, 97, 130, 1907]), (14, 343, 244, 0, [1908, 1910, 98, 130, 1911]), (14, 346, 245, 0, [1912, 1914, 99, 130, 1915]), (14, 349, 246, 0, [1916, 1918, 100, 130, 1919]), (14, 352, 249, 0, [1928, 1930, 103, 130, 1931]), (14, 358, 252, 0, [1940, 1942, 105, 130, 1943]), (14, 362, 253, 0, [1944, 1946, 106, 130, 1947]), (14, 365, 251, 0, [1936, 1938, 104, 130, 1939]), (14, 368, 258, 0, [1964, 1966, 107, 130, 1967]), (14, 386, 261, 0, [1976, 1978, 109, 130, 1979]), (14, 390, 262, 0, [1980, 1982, 110, 130, 1983]), (14, 393, 260, 0, [1972, 1974, 108, 130, 1975]), (14, 399, 268, 0, [2004, 2006, 113, 130, 2007]), (14, 402, 266, 0, [1996, 1998, 111, 130, 1999]), (14, 405, 267, 0, [2000, 2002, 112, 130, 2003]), (14, 408, 272, 1, [2020, 2021, 130, 2022]), (14, 411, 278, 0, [2043, 2045, 115, 130, 2046]), (14, 415, 277, 0, [2039, 2041, 114, 130, 2042]), (13, 1, 181, 2, [1438, 1439, 133, 1440]), (16, 16, 183, 2, [1444, 1445, 131, 1446]), (20, 16, 182, 2, [1441, 1442, 132, 1443]), (21, 335, 197, 0, [1691, 1692, 1693, 137, 1694]), (21, 492, 199, 0, [1701, 1702, 1703, 137, 1704]), (21, 495, 200, 1, [1705, 1706, 138, 1707]), (21, 1059, 202, 1, [1713, 1714, 139, 1715]), (22, 9, 201, 1, [1708, 1709, 137, 1710])]
end
section
/-! What is asked of each entry of the evaluator's code, and of each link -/
def fcd (t : FieldType) : Nat := match t with
  | .long => 1
  | .int => 0
  | .boolean => 3
  | .object _ => 2
  | .array _ => 2
  | _ => 9
def rcd (t : Option FieldType) : Nat := match t with
  | some .byte => 1
  | some .boolean => 2
  | some .char => 4
  | some .int => 0
  | _ => 9
def swOK (pc : Nat) : Int → List Int → List (Int32 × Nat) → Bool
  | _, [], [] => true
  | lo, o :: r, q :: t => decide (q.1.toInt = lo) && decide ((pc : Int) + o = (q.2 : Int)) && swOK pc (lo + 1) r t
  | _, _, _ => false
def hasF (o i a b : Nat) : Bool := flL.any (fun q => q.1 == o && q.2.1 == i && q.2.2.1 == a && q.2.2.2.1 == b)
def hasN (o i a b : Nat) : Bool := fnL.any (fun q => q.1 == o && q.2.1 == i && q.2.2.1 == a && q.2.2.2 == b)
def has3 (l : List (Nat × Nat × Nat × Nat)) (o i a : Nat) : Bool := l.any (fun q => q.1 == o && q.2.1 == i && q.2.2.1 == a)
def hasM (o i a k : Nat) : Bool := mlL.any (fun q => q.1 == o && q.2.1 == i && q.2.2.1 == a && q.2.2.2.1 == k)
def npar (M : Nat) : Nat := match parseMethodDescriptor (mY M).desc with
  | some d => d.parameters.length
  | none => 99
/-- the place of an instruction behind 'throw new', as 'stake' has it -/
def thrOK (M pc : Nat) : Bool := M == M_WF_stake && pc == 45
def okB (M : Nat) (q : Nat × Ent9) : Bool :=
  decide (decode (mB M) q.1 = .ok (q.2.1, q.2.2.1)) &&
  match q with
  | (pc, i, n, a, b, c, L) => match i with
    | .iconst _ | .lconst _ | .aconst_null | .iload_n _ | .lload_n _ | .aload_n _ | .istore_n _ | .lstore_n _ | .astore_n _ | .iadd | .isub | .imul | .iand | .ior | .ixor | .ishl | .ishr | .iushr | .idiv | .irem | .ineg | .i2l | .i2b | .i2c | .l2i | .lneg | .ladd | .lsub | .lmul | .land | .lor | .lxor | .lshl | .lushr | .lcmp | .dup | .dup2 | .iaload | .baload | .laload | .iastore | .bastore | .lastore | .arraylength | .athrow => n == 1
    | .bipush _ | .iload _ | .lload _ | .aload _ | .istore _ | .lstore _ | .astore _ => n == 2
    | .sipush _ | .iinc _ _ => n == 3
    | .ldc k => n == 2 && (if c = 0 then has3 ciL (mO M) k a else has3 (strL.map (fun q => (q.1, q.2.1, q.2.2, 0))) (mO M) k a)
    | .ldc_w k => n == 3 && has3 ciL (mO M) k a
    | .ldc2_w k => n == 3 && has3 cjL (mO M) k a
    | .goto o | .if_icmp _ o | .ifCond _ o | .ifnonnull o | .ifnull o => n == 3 && decide ((pc : Int) + o = (a : Int))
    | .tableswitch d lo hi offs => decide ((pc : Int) + d = (a : Int)) && decide (hi = lo + (offs.size : Int) - 1) && swOK pc lo offs.toList L
    | .getfield k => n == 3 && (if a = 80 then (mO M == 21 && ((k == 9 && b == 0 && c == 2) || (k == 15 && b == 1 && c == 0))) else (decide (a < 15) && decide (b < (clT a).2.2) && (hasF (mO M) k a b || hasN (mO M) k a b) && c == fcd (tyT a b)))
    | .putfield k => n == 3 && decide (a < 15) && decide (b < (clT a).2.2) && c == fcd (tyT a b) && ((hasN (mO M) k a b && !((clT a).2.1 b).2.2.2) || (hasF (mO M) k a b && (!((clT a).2.1 b).2.2.2 || (decide ((mY M).name = "<init>") && decide (((clT a).2.1 b).1 = (mY M).cls)))))
    | .getstatic k => n == 3 && ((c == 2 && mO M == 10 && ((k == 47 && a == 90) || (k == 50 && a == 91) || (k == 57 && a == 92) || (k == 60 && a == 93))) || (c == 3 && ((mO M == 23 && (k == 13 || k == 20)) || (mO M == 21 && k == 1053))) || (c == 0 && b == 1 && mO M == 21 && k == 38))
    | .new k => n == 3 && ((c == 0 && decide (a < 15) && b == (clT a).2.2 && has3 clL (mO M) k a) || (c == 77 && b == 6 && thrOK M pc))
    | .newarray t => n == 2 && (c == match t with
      | .int => 0
      | .byte => 1
      | .boolean => 2
      | .long => 3
      | _ => 8)
    | .invokevirtual k => n == 3 && (c == 99 || (decide ((mY a).cls = (if c = 81 then "java/lang/String" else onm (c - 1))) && decide (0 < c) && (decide (c ≤ 15) || c == 81) && b == npar a + 1 && (hasM (mO M) k a 0 || hasM (mO M) k a 4) && plainName (mY a).cls))
    | .invokestatic k => n == 3 && (c == 99 || (c == 60 && mO M == 4 && k == 168) || (c == 61 && a == 24 && hasM (mO M) k 24 1) || (c == 62 && a == 25 && hasM (mO M) k 25 1) || (c == 63 && a == 62 && hasM (mO M) k 62 1) || (c == 0 && b == npar a && (hasM (mO M) k a 1 || hasM (mO M) k a 5) && plainName (mY a).cls))
    | .invokespecial k => n == 3 && (c == 50 || c == 99 || (decide (0 < c) && decide (c ≤ 15) && b == npar a + 1 && (hasM (mO M) k a 2 || hasM (mO M) k a 3) && plainName (mY a).cls && decide ((mY a).name = "<init>")))
    | .ireturn => n == 1 && a == rcd (mRt M)
    | .lreturn => n == 1 && decide (mRt M = some .long)
    | .areturn => n == 1 && (fcd ((mRt M).getD .int) == 2)
    | .return_ => n == 1 && decide (mRt M = none)
    | _ => true
end
section
theorem all_cut {α : Type} {p : α → Bool} {l : List α} (n : Nat) (h1 : (l.take n).all p = true) (h2 : (l.drop n).all p = true) : l.all p = true := by
  rw [← List.take_append_drop n l, List.all_append, h1, h2]; rfl
theorem all_dr {α : Type} {p : α → Bool} {l : List α} (k n : Nat) (h1 : ((l.drop k).take n).all p = true) (h2 : (l.drop (k + n)).all p = true) : (l.drop k).all p = true := all_cut n h1 (by rw [List.drop_drop]; exact h2)
theorem ok_0_0 : ((k_WFLaw_law.drop 0).take 40).all (okB 0) = true := by decide +kernel
theorem ok_0_40 : ((k_WFLaw_law.drop 40).take 40).all (okB 0) = true := by decide +kernel
theorem ok_0_80 : ((k_WFLaw_law.drop 80).take 40).all (okB 0) = true := by decide +kernel
theorem ok_0_120 : ((k_WFLaw_law.drop 120).take 40).all (okB 0) = true := by decide +kernel
theorem ok_0_160 : ((k_WFLaw_law.drop 160).take 40).all (okB 0) = true := by decide +kernel
theorem ok_0_200 : ((k_WFLaw_law.drop 200).take 40).all (okB 0) = true := by decide +kernel
theorem ok_0_240 : ((k_WFLaw_law.drop 240).take 40).all (okB 0) = true := by decide +kernel
theorem ok_0_280 : ((k_WFLaw_law.drop 280).take 40).all (okB 0) = true := by decide +kernel
theorem ok_0_320 : ((k_WFLaw_law.drop 320).take 40).all (okB 0) = true := by decide +kernel
theorem ok_0_360 : ((k_WFLaw_law.drop 360).take 40).all (okB 0) = true := by decide +kernel
theorem ok_0_400 : ((k_WFLaw_law.drop 400).take 40).all (okB 0) = true := by decide +kernel
theorem ok_0_440 : ((k_WFLaw_law.drop 440).take 40).all (okB 0) = true := by decide +kernel
theorem ok_0_480 : ((k_WFLaw_law.drop 480).take 40).all (okB 0) = true := by decide +kernel
theorem ok_0_520 : ((k_WFLaw_law.drop 520).take 40).all (okB 0) = true := by decide +kernel
theorem ok_0_560 : ((k_WFLaw_law.drop 560).take 40).all (okB 0) = true := by decide +kernel
theorem ok_0_600 : ((k_WFLaw_law.drop 600).take 40).all (okB 0) = true := by decide +kernel
theorem ok_0_640 : ((k_WFLaw_law.drop 640).take 40).all (okB 0) = true := by decide +kernel
theorem ok_0_680 : (k_WFLaw_law.drop 680).all (okB 0) = true := by decide +kernel
theorem ok_0 : (k_WFLaw_law).all (okB 0) = true := all_dr 0 40 ok_0_0 (all_dr 40 40 ok_0_40 (all_dr 80 40 ok_0_80 (all_dr 120 40 ok_0_120 (all_dr 160 40 ok_0_160 (all_dr 200 40 ok_0_200 (all_dr 240 40 ok_0_240 (all_dr 280 40 ok_0_280 (all_dr 320 40 ok_0_320 (all_dr 360 40 ok_0_360 (all_dr 400 40 ok_0_400 (all_dr 440 40 ok_0_440 (all_dr 480 40 ok_0_480 (all_dr 520 40 ok_0_520 (all_dr 560 40 ok_0_560 (all_dr 600 40 ok_0_600 (all_dr 640 40 ok_0_640 (ok_0_680)))))))))))))))))
end
section
theorem ok_1_0 : ((k_WF_init.drop 0).take 40).all (okB 1) = true := by decide +kernel
theorem ok_1_40 : (k_WF_init.drop 40).all (okB 1) = true := by decide +kernel
theorem ok_1 : (k_WF_init).all (okB 1) = true := all_dr 0 40 ok_1_0 (ok_1_40)
theorem ok_2 : (k_WF_Reader_init).all (okB 2) = true := by decide +kernel
theorem ok_3 : (k_WF_Book_init).all (okB 3) = true := by decide +kernel
theorem ok_4 : (k_WF_Scanner_init).all (okB 4) = true := by decide +kernel
theorem ok_5 : (k_WF_Ground_init).all (okB 5) = true := by decide +kernel
theorem ok_6 : (k_WF_Drawing_init).all (okB 6) = true := by decide +kernel
theorem ok_7 : (k_WF_Accounts_init).all (okB 7) = true := by decide +kernel
theorem ok_8 : (k_WF_Mover_init).all (okB 8) = true := by decide +kernel
theorem ok_9 : (k_WF_Finder_init).all (okB 9) = true := by decide +kernel
theorem ok_10 : (k_WF_Walker_init).all (okB 10) = true := by decide +kernel
theorem ok_11 : (k_WF_Splitter_init).all (okB 11) = true := by decide +kernel
theorem ok_12 : (k_WF_Ditcher_init).all (okB 12) = true := by decide +kernel
theorem ok_13 : (k_WF_forgetGround).all (okB 13) = true := by decide +kernel
theorem ok_14 : (k_WF_Drawing_wipe).all (okB 14) = true := by decide +kernel
theorem ok_15 : (k_Arrays_fill).all (okB 15) = true := by decide +kernel
theorem ok_16 : (k_Arrays_fill2).all (okB 16) = true := by decide +kernel
theorem ok_17 : (k_WF_feed).all (okB 17) = true := by decide +kernel
theorem ok_18 : (k_WF_putFour).all (okB 18) = true := by decide +kernel
theorem ok_19 : (k_WF_book).all (okB 19) = true := by decide +kernel
theorem ok_20 : (k_WF_refuse).all (okB 20) = true := by decide +kernel
theorem ok_21 : (k_WF_Reader_read).all (okB 21) = true := by decide +kernel
theorem ok_22 : (k_WF_Book_begin).all (okB 22) = true := by decide +kernel
theorem ok_23 : (k_WF_Scanner_begin).all (okB 23) = true := by decide +kernel
theorem ok_24 : (k_Math_min).all (okB 24) = true := by decide +kernel
theorem ok_25 : (k_Math_max).all (okB 25) = true := by decide +kernel
theorem ok_26_0 : ((k_WF_Scanner_advance.drop 0).take 40).all (okB 26) = true := by decide +kernel
theorem ok_26_40 : (k_WF_Scanner_advance.drop 40).all (okB 26) = true := by decide +kernel
theorem ok_26 : (k_WF_Scanner_advance).all (okB 26) = true := all_dr 0 40 ok_26_0 (ok_26_40)
theorem ok_27 : (k_WF_Scanner_isLetter).all (okB 27) = true := by decide +kernel
theorem ok_28 : (k_WF_Scanner_readWord).all (okB 28) = true := by decide +kernel
theorem ok_29 : (k_WF_Scanner_isDigit).all (okB 29) = true := by decide +kernel
theorem ok_30 : (k_WF_Scanner_readWhole).all (okB 30) = true := by decide +kernel
theorem ok_31 : (k_WF_Scanner_isSign).all (okB 31) = true := by decide +kernel
theorem ok_32 : (k_WF_Reader_takeToken).all (okB 32) = true := by decide +kernel
theorem ok_33 : (k_WF_Reader_goOn).all (okB 33) = true := by decide +kernel
theorem ok_34 : (k_WF_Reader_fail).all (okB 34) = true := by decide +kernel
theorem ok_35_0 : ((k_WF_Reader_takeName.drop 0).take 40).all (okB 35) = true := by decide +kernel
theorem ok_35_40 : (k_WF_Reader_takeName.drop 40).all (okB 35) = true := by decide +kernel
theorem ok_35 : (k_WF_Reader_takeName).all (okB 35) = true := all_dr 0 40 ok_35_0 (ok_35_40)
theorem ok_36 : (k_WF_Reader_stepOf).all (okB 36) = true := by decide +kernel
theorem ok_37 : (k_WF_Reader_isNameTold).all (okB 37) = true := by decide +kernel
theorem ok_38 : (k_WF_Book_addOwner).all (okB 38) = true := by decide +kernel
theorem ok_39 : (k_WF_Reader_beginWorth).all (okB 39) = true := by decide +kernel
theorem ok_40 : (k_WF_Reader_takeFactor).all (okB 40) = true := by decide +kernel
theorem ok_41 : (k_WF_Reader_beginFactor).all (okB 41) = true := by decide +kernel
theorem ok_42 : (k_WF_Reader_openWorth).all (okB 42) = true := by decide +kernel
theorem ok_43 : (k_WF_Book_addStep).all (okB 43) = true := by decide +kernel
theorem ok_44 : (k_WF_Reader_takeOpen).all (okB 44) = true := by decide +kernel
theorem ok_45_0 : ((k_WF_Reader_takeBehindFactor.drop 0).take 40).all (okB 45) = true := by decide +kernel
theorem ok_45_40 : ((k_WF_Reader_takeBehindFactor.drop 40).take 40).all (okB 45) = true := by decide +kernel
theorem ok_45_80 : (k_WF_Reader_takeBehindFactor.drop 80).all (okB 45) = true := by decide +kernel
theorem ok_45 : (k_WF_Reader_takeBehindFactor).all (okB 45) = true := all_dr 0 40 ok_45_0 (all_dr 40 40 ok_45_40 (ok_45_80))
theorem ok_46 : (k_WF_Reader_endFactor).all (okB 46) = true := by decide +kernel
theorem ok_47 : (k_WF_Reader_endTerm).all (okB 47) = true := by decide +kernel
theorem ok_48 : (k_WF_Reader_closeWorth).all (okB 48) = true := by decide +kernel
theorem ok_49 : (k_WF_Scanner_isAtEnd).all (okB 49) = true := by decide +kernel
theorem ok_50 : (k_WF_Ground_leave).all (okB 50) = true := by decide +kernel
theorem ok_51 : (k_WF_pass).all (okB 51) = true := by decide +kernel
theorem ok_52 : (k_WF_fault).all (okB 52) = true := by decide +kernel
theorem ok_53 : (k_WF_where).all (okB 53) = true := by decide +kernel
theorem ok_54 : (k_WF_ground).all (okB 54) = true := by decide +kernel
theorem ok_55_0 : ((k_WF_Ground_lay.drop 0).take 40).all (okB 55) = true := by decide +kernel
theorem ok_55_40 : (k_WF_Ground_lay.drop 40).all (okB 55) = true := by decide +kernel
theorem ok_55 : (k_WF_Ground_lay).all (okB 55) = true := all_dr 0 40 ok_55_0 (ok_55_40)
theorem ok_56 : (k_WF_Ground_reckonPrices).all (okB 56) = true := by decide +kernel
theorem ok_57 : (k_WF_Ground_reckonPricesTo).all (okB 57) = true := by decide +kernel
theorem ok_58 : (k_WF_Ground_beside).all (okB 58) = true := by decide +kernel
theorem ok_59 : (k_WF_Ground_eastOf).all (okB 59) = true := by decide +kernel
end
section
theorem ok_60 : (k_WF_Ground_westOf).all (okB 60) = true := by decide +kernel
theorem ok_61 : (k_WF_Ground_steps).all (okB 61) = true := by decide +kernel
theorem ok_62 : (k_Math_abs).all (okB 62) = true := by decide +kernel
theorem ok_63_0 : ((k_WF_Book_reckon.drop 0).take 40).all (okB 63) = true := by decide +kernel
theorem ok_63_40 : (k_WF_Book_reckon.drop 40).all (okB 63) = true := by decide +kernel
theorem ok_63 : (k_WF_Book_reckon).all (okB 63) = true := all_dr 0 40 ok_63_0 (ok_63_40)
theorem ok_64 : (k_WF_Book_join).all (okB 64) = true := by decide +kernel
theorem ok_65 : (k_WF_Book_cut).all (okB 65) = true := by decide +kernel
theorem ok_66 : (k_WF_Book_single).all (okB 66) = true := by decide +kernel
theorem ok_67 : (k_WF_cell).all (okB 67) = true := by decide +kernel
theorem ok_68 : (k_WF_Ground_isCell).all (okB 68) = true := by decide +kernel
theorem ok_69 : (k_WF_deny).all (okB 69) = true := by decide +kernel
theorem ok_70 : (k_WF_Ground_change).all (okB 70) = true := by decide +kernel
theorem ok_71 : (k_WF_allow).all (okB 71) = true := by decide +kernel
theorem ok_72 : (k_WF_door).all (okB 72) = true := by decide +kernel
theorem ok_73 : (k_WF_Ground_isOwner).all (okB 73) = true := by decide +kernel
theorem ok_74 : (k_WF_Ground_stands).all (okB 74) = true := by decide +kernel
theorem ok_75 : (k_WF_Ground_moveDoor).all (okB 75) = true := by decide +kernel
theorem ok_76 : (k_WF_keep).all (okB 76) = true := by decide +kernel
theorem ok_77 : (k_WF_had).all (okB 77) = true := by decide +kernel
theorem ok_78 : (k_WF_set).all (okB 78) = true := by decide +kernel
theorem ok_79 : (k_WF_value).all (okB 79) = true := by decide +kernel
theorem ok_80 : (k_WF_Ground_price).all (okB 80) = true := by decide +kernel
theorem ok_81 : (k_WF_draw).all (okB 81) = true := by decide +kernel
theorem ok_82 : (k_WF_Drawing_give).all (okB 82) = true := by decide +kernel
theorem ok_83 : (k_WF_whose).all (okB 83) = true := by decide +kernel
theorem ok_84 : (k_WF_sum).all (okB 84) = true := by decide +kernel
theorem ok_85 : (k_WF_Accounts_sumOf).all (okB 85) = true := by decide +kernel
theorem ok_86 : (k_WF_Accounts_fieldSum).all (okB 86) = true := by decide +kernel
theorem ok_87 : (k_WF_total).all (okB 87) = true := by decide +kernel
theorem ok_88 : (k_WF_refuseNumber).all (okB 88) = true := by decide +kernel
theorem ok_89 : (k_WF_Accounts_tell).all (okB 89) = true := by decide +kernel
theorem ok_90 : (k_WF_Accounts_totalOfAll).all (okB 90) = true := by decide +kernel
theorem ok_91 : (k_WF_Accounts_shortOfAll).all (okB 91) = true := by decide +kernel
theorem ok_92 : (k_WF_Accounts_shortBy).all (okB 92) = true := by decide +kernel
theorem ok_93 : (k_WF_Accounts_bound).all (okB 93) = true := by decide +kernel
theorem ok_94 : (k_WF_Ground_isWater).all (okB 94) = true := by decide +kernel
theorem ok_95 : (k_WF_Accounts_greatestPrice).all (okB 95) = true := by decide +kernel
theorem ok_96 : (k_WF_Accounts_envyPairs).all (okB 96) = true := by decide +kernel
theorem ok_97 : (k_WF_Accounts_feelsEnvy).all (okB 97) = true := by decide +kernel
theorem ok_98 : (k_WF_Accounts_yesVotes).all (okB 98) = true := by decide +kernel
theorem ok_99 : (k_WF_Accounts_saysYes).all (okB 99) = true := by decide +kernel
theorem ok_100 : (k_WF_Accounts_borderLength).all (okB 100) = true := by decide +kernel
theorem ok_101 : (k_WF_Drawing_owned).all (okB 101) = true := by decide +kernel
theorem ok_102 : (k_WF_Ground_sidesBetween).all (okB 102) = true := by decide +kernel
theorem ok_103 : (k_Long_bitCount).all (okB 103) = true := by decide +kernel
theorem ok_104 : (k_WF_bars).all (okB 104) = true := by decide +kernel
theorem ok_105_0 : ((k_WF_Drawing_findBar.drop 0).take 40).all (okB 105) = true := by decide +kernel
theorem ok_105_40 : ((k_WF_Drawing_findBar.drop 40).take 40).all (okB 105) = true := by decide +kernel
theorem ok_105_80 : (k_WF_Drawing_findBar.drop 80).all (okB 105) = true := by decide +kernel
theorem ok_105 : (k_WF_Drawing_findBar).all (okB 105) = true := all_dr 0 40 ok_105_0 (all_dr 40 40 ok_105_40 (ok_105_80))
theorem ok_106 : (k_WF_Drawing_free).all (okB 106) = true := by decide +kernel
theorem ok_107 : (k_WF_Ground_least).all (okB 107) = true := by decide +kernel
theorem ok_108 : (k_WF_Drawing_barredBy).all (okB 108) = true := by decide +kernel
theorem ok_109_0 : ((k_WF_Ground_hangsTogether.drop 0).take 40).all (okB 109) = true := by decide +kernel
theorem ok_109_40 : (k_WF_Ground_hangsTogether.drop 40).all (okB 109) = true := by decide +kernel
theorem ok_109 : (k_WF_Ground_hangsTogether).all (okB 109) = true := all_dr 0 40 ok_109_0 (ok_109_40)
end
section
theorem ok_110 : (k_WF_Drawing_thinOfAll).all (okB 110) = true := by decide +kernel
theorem ok_111 : (k_WF_Ground_thinCells).all (okB 111) = true := by decide +kernel
theorem ok_112 : (k_WF_barred).all (okB 112) = true := by decide +kernel
theorem ok_113 : (k_WF_envies).all (okB 113) = true := by decide +kernel
theorem ok_114 : (k_WF_votes).all (okB 114) = true := by decide +kernel
theorem ok_115 : (k_WF_grow).all (okB 115) = true := by decide +kernel
theorem ok_116 : (k_WF_Drawing_growFromDoors).all (okB 116) = true := by decide +kernel
theorem ok_117 : (k_WF_Drawing_giveKept).all (okB 117) = true := by decide +kernel
theorem ok_118 : (k_WF_Drawing_giveDoors).all (okB 118) = true := by decide +kernel
theorem ok_119_0 : ((k_WF_Drawing_takeOne.drop 0).take 40).all (okB 119) = true := by decide +kernel
theorem ok_119_40 : (k_WF_Drawing_takeOne.drop 40).all (okB 119) = true := by decide +kernel
theorem ok_119 : (k_WF_Drawing_takeOne).all (okB 119) = true := all_dr 0 40 ok_119_0 (ok_119_40)
theorem ok_120 : (k_WF_better).all (okB 120) = true := by decide +kernel
theorem ok_121 : (k_WF_Mover_run).all (okB 121) = true := by decide +kernel
theorem ok_122_0 : ((k_WF_Mover_seek.drop 0).take 40).all (okB 122) = true := by decide +kernel
theorem ok_122_40 : ((k_WF_Mover_seek.drop 40).take 40).all (okB 122) = true := by decide +kernel
theorem ok_122_80 : (k_WF_Mover_seek.drop 80).all (okB 122) = true := by decide +kernel
theorem ok_122 : (k_WF_Mover_seek).all (okB 122) = true := all_dr 0 40 ok_122_0 (all_dr 40 40 ok_122_40 (ok_122_80))
theorem ok_123 : (k_WF_Mover_mayMove).all (okB 123) = true := by decide +kernel
theorem ok_124_0 : ((k_WF_Mover_tryOwners.drop 0).take 40).all (okB 124) = true := by decide +kernel
theorem ok_124_40 : (k_WF_Mover_tryOwners.drop 40).all (okB 124) = true := by decide +kernel
theorem ok_124 : (k_WF_Mover_tryOwners).all (okB 124) = true := all_dr 0 40 ok_124_0 (ok_124_40)
theorem ok_125 : (k_WF_Mover_improves).all (okB 125) = true := by decide +kernel
theorem ok_126 : (k_WF_Mover_shortBehind).all (okB 126) = true := by decide +kernel
theorem ok_127 : (k_WF_Mover_isLawful).all (okB 127) = true := by decide +kernel
theorem ok_128 : (k_WF_Ground_isFieldLawful).all (okB 128) = true := by decide +kernel
theorem ok_129 : (k_WF_Mover_hold).all (okB 129) = true := by decide +kernel
theorem ok_130_0 : ((k_WF_Mover_tryCells.drop 0).take 40).all (okB 130) = true := by decide +kernel
theorem ok_130_40 : ((k_WF_Mover_tryCells.drop 40).take 40).all (okB 130) = true := by decide +kernel
theorem ok_130_80 : (k_WF_Mover_tryCells.drop 80).all (okB 130) = true := by decide +kernel
theorem ok_130 : (k_WF_Mover_tryCells).all (okB 130) = true := all_dr 0 40 ok_130_0 (all_dr 40 40 ok_130_40 (ok_130_80))
theorem ok_131 : (k_WF_Mover_make).all (okB 131) = true := by decide +kernel
theorem ok_132 : (k_WF_can).all (okB 132) = true := by decide +kernel
theorem ok_133 : (k_WF_best).all (okB 133) = true := by decide +kernel
theorem ok_134 : (k_WF_Finder_isFew).all (okB 134) = true := by decide +kernel
theorem ok_135 : (k_WF_Finder_search).all (okB 135) = true := by decide +kernel
theorem ok_136 : (k_WF_Finder_gatherCells).all (okB 136) = true := by decide +kernel
theorem ok_137_0 : ((k_WF_Finder_gatherHopes.drop 0).take 40).all (okB 137) = true := by decide +kernel
theorem ok_137_40 : ((k_WF_Finder_gatherHopes.drop 40).take 40).all (okB 137) = true := by decide +kernel
theorem ok_137_80 : (k_WF_Finder_gatherHopes.drop 80).all (okB 137) = true := by decide +kernel
theorem ok_137 : (k_WF_Finder_gatherHopes).all (okB 137) = true := all_dr 0 40 ok_137_0 (all_dr 40 40 ok_137_40 (ok_137_80))
theorem ok_138 : (k_WF_Finder_mayHave).all (okB 138) = true := by decide +kernel
theorem ok_139 : (k_WF_Finder_descend).all (okB 139) = true := by decide +kernel
theorem ok_140_0 : ((k_WF_Finder_isHopeful.drop 0).take 40).all (okB 140) = true := by decide +kernel
theorem ok_140_40 : (k_WF_Finder_isHopeful.drop 40).all (okB 140) = true := by decide +kernel
theorem ok_140 : (k_WF_Finder_isHopeful).all (okB 140) = true := all_dr 0 40 ok_140_0 (ok_140_40)
theorem ok_141_0 : ((k_WF_Finder_weigh.drop 0).take 40).all (okB 141) = true := by decide +kernel
theorem ok_141_40 : ((k_WF_Finder_weigh.drop 40).take 40).all (okB 141) = true := by decide +kernel
theorem ok_141_80 : (k_WF_Finder_weigh.drop 80).all (okB 141) = true := by decide +kernel
theorem ok_141 : (k_WF_Finder_weigh).all (okB 141) = true := all_dr 0 40 ok_141_0 (all_dr 40 40 ok_141_40 (ok_141_80))
theorem ok_142 : (k_WF_Finder_envyPairs).all (okB 142) = true := by decide +kernel
theorem ok_143 : (k_WF_Finder_isBest).all (okB 143) = true := by decide +kernel
theorem ok_144 : (k_WF_Finder_areLawful).all (okB 144) = true := by decide +kernel
theorem ok_145 : (k_WF_Finder_turn).all (okB 145) = true := by decide +kernel
theorem ok_146 : (k_WF_stakes).all (okB 146) = true := by decide +kernel
theorem ok_147_0 : ((k_WF_Walker_walk.drop 0).take 40).all (okB 147) = true := by decide +kernel
theorem ok_147_40 : ((k_WF_Walker_walk.drop 40).take 40).all (okB 147) = true := by decide +kernel
theorem ok_147_80 : (k_WF_Walker_walk.drop 80).all (okB 147) = true := by decide +kernel
theorem ok_147 : (k_WF_Walker_walk).all (okB 147) = true := all_dr 0 40 ok_147_0 (all_dr 40 40 ok_147_40 (ok_147_80))
theorem ok_148 : (k_WF_Walker_mark).all (okB 148) = true := by decide +kernel
theorem ok_149 : (k_WF_Walker_turnAt).all (okB 149) = true := by decide +kernel
theorem ok_150 : (k_WF_Walker_isInField).all (okB 150) = true := by decide +kernel
theorem ok_151 : (k_WF_within).all (okB 151) = true := by decide +kernel
theorem ok_152 : (k_WF_Walker_area).all (okB 152) = true := by decide +kernel
theorem ok_153 : (k_WF_split).all (okB 153) = true := by decide +kernel
theorem ok_154_0 : ((k_WF_Splitter_take.drop 0).take 40).all (okB 154) = true := by decide +kernel
theorem ok_154_40 : (k_WF_Splitter_take.drop 40).all (okB 154) = true := by decide +kernel
theorem ok_154 : (k_WF_Splitter_take).all (okB 154) = true := all_dr 0 40 ok_154_0 (ok_154_40)
theorem ok_155_0 : ((k_WF_Splitter_search.drop 0).take 40).all (okB 155) = true := by decide +kernel
theorem ok_155_40 : (k_WF_Splitter_search.drop 40).all (okB 155) = true := by decide +kernel
theorem ok_155 : (k_WF_Splitter_search).all (okB 155) = true := all_dr 0 40 ok_155_0 (ok_155_40)
theorem ok_156 : (k_WF_Splitter_weigh).all (okB 156) = true := by decide +kernel
theorem ok_157 : (k_Integer_bitCount).all (okB 157) = true := by decide +kernel
theorem ok_158 : (k_WF_part).all (okB 158) = true := by decide +kernel
theorem ok_159 : (k_WF_corner).all (okB 159) = true := by decide +kernel
theorem ok_160 : (k_WF_Ground_corners).all (okB 160) = true := by decide +kernel
theorem ok_161 : (k_WF_Ditcher_isFull).all (okB 161) = true := by decide +kernel
theorem ok_162 : (k_WF_Ditcher_isTold).all (okB 162) = true := by decide +kernel
theorem ok_163 : (k_WF_Ditcher_tell).all (okB 163) = true := by decide +kernel
theorem ok_164 : (k_WF_clear).all (okB 164) = true := by decide +kernel
theorem ok_165 : (k_WF_ditches).all (okB 165) = true := by decide +kernel
theorem ok_166 : (k_WF_Ditcher_leastLength).all (okB 166) = true := by decide +kernel
theorem ok_167 : (k_WF_Ditcher_findWays).all (okB 167) = true := by decide +kernel
theorem ok_168 : (k_WF_Ditcher_isBorder).all (okB 168) = true := by decide +kernel
theorem ok_169_0 : ((k_WF_Ditcher_joinParts.drop 0).take 40).all (okB 169) = true := by decide +kernel
theorem ok_169_40 : (k_WF_Ditcher_joinParts.drop 40).all (okB 169) = true := by decide +kernel
theorem ok_169 : (k_WF_Ditcher_joinParts).all (okB 169) = true := all_dr 0 40 ok_169_0 (ok_169_40)
theorem ok_170 : (k_WF_Ditcher_joinTwo).all (okB 170) = true := by decide +kernel
theorem ok_171_0 : ((k_WF_Ditcher_settle.drop 0).take 40).all (okB 171) = true := by decide +kernel
theorem ok_171_40 : ((k_WF_Ditcher_settle.drop 40).take 40).all (okB 171) = true := by decide +kernel
theorem ok_171_80 : (k_WF_Ditcher_settle.drop 80).all (okB 171) = true := by decide +kernel
theorem ok_171 : (k_WF_Ditcher_settle).all (okB 171) = true := all_dr 0 40 ok_171_0 (all_dr 40 40 ok_171_40 (ok_171_80))
theorem ok_172 : (k_WF_Ditcher_level).all (okB 172) = true := by decide +kernel
theorem ok_173 : (k_WF_count).all (okB 173) = true := by decide +kernel
theorem ok_174 : (k_WF_Ground_keptCells).all (okB 174) = true := by decide +kernel
theorem ok_175 : (k_WF_trouble).all (okB 175) = true := by decide +kernel
theorem ok_176 : (k_WFLaw_stake).all (okB 176) = true := by decide +kernel
theorem ok_177 : (k_WF_stake).all (okB 177) = true := by decide +kernel
theorem ok_178 : (k_WF_Walker_numberOf).all (okB 178) = true := by decide +kernel
theorem ok_179_0 : ((k_WFModel_init.drop 0).take 40).all (okB 179) = true := by decide +kernel
theorem ok_179_40 : ((k_WFModel_init.drop 40).take 40).all (okB 179) = true := by decide +kernel
theorem ok_179_80 : (k_WFModel_init.drop 80).all (okB 179) = true := by decide +kernel
theorem ok_179 : (k_WFModel_init).all (okB 179) = true := all_dr 0 40 ok_179_0 (all_dr 40 40 ok_179_40 (ok_179_80))
theorem ok_180 : (k_WFModel_Stop_init).all (okB 180) = true := by decide +kernel
theorem ok_181 : (k_RuntimeException_init).all (okB 181) = true := by decide +kernel
theorem ok_182 : (k_Exception_init).all (okB 182) = true := by decide +kernel
theorem ok_183 : (k_Throwable_init).all (okB 183) = true := by decide +kernel
theorem ok_184 : (k_WFModel_thrown).all (okB 184) = true := by decide +kernel
theorem ok_185_0 : ((k_WFModel_feed.drop 0).take 40).all (okB 185) = true := by decide +kernel
theorem ok_185_40 : (k_WFModel_feed.drop 40).all (okB 185) = true := by decide +kernel
theorem ok_185 : (k_WFModel_feed).all (okB 185) = true := all_dr 0 40 ok_185_0 (ok_185_40)
theorem ok_186_0 : ((k_WFModel_book.drop 0).take 40).all (okB 186) = true := by decide +kernel
theorem ok_186_40 : (k_WFModel_book.drop 40).all (okB 186) = true := by decide +kernel
theorem ok_186 : (k_WFModel_book).all (okB 186) = true := all_dr 0 40 ok_186_0 (ok_186_40)
theorem ok_187 : (k_WFModel_refused).all (okB 187) = true := by decide +kernel
theorem ok_188 : (k_WFModel_Book_init).all (okB 188) = true := by decide +kernel
theorem ok_189_0 : ((k_WFModel_next.drop 0).take 40).all (okB 189) = true := by decide +kernel
theorem ok_189_40 : ((k_WFModel_next.drop 40).take 40).all (okB 189) = true := by decide +kernel
theorem ok_189_80 : ((k_WFModel_next.drop 80).take 40).all (okB 189) = true := by decide +kernel
theorem ok_189_120 : (k_WFModel_next.drop 120).all (okB 189) = true := by decide +kernel
theorem ok_189 : (k_WFModel_next).all (okB 189) = true := all_dr 0 40 ok_189_0 (all_dr 40 40 ok_189_40 (all_dr 80 40 ok_189_80 (ok_189_120)))
end
section
theorem ok_190 : (k_WFModel_byteAt).all (okB 190) = true := by decide +kernel
theorem ok_191 : (k_WFModel_isLetter).all (okB 191) = true := by decide +kernel
theorem ok_192 : (k_WFModel_isDigit).all (okB 192) = true := by decide +kernel
theorem ok_193_0 : ((k_WFModel_readBook.drop 0).take 40).all (okB 193) = true := by decide +kernel
theorem ok_193_40 : ((k_WFModel_readBook.drop 40).take 40).all (okB 193) = true := by decide +kernel
theorem ok_193_80 : (k_WFModel_readBook.drop 80).all (okB 193) = true := by decide +kernel
theorem ok_193 : (k_WFModel_readBook).all (okB 193) = true := all_dr 0 40 ok_193_0 (all_dr 40 40 ok_193_40 (ok_193_80))
theorem ok_194 : (k_WFModel_isWord).all (okB 194) = true := by decide +kernel
theorem ok_195 : (k_WFModel_wordOf).all (okB 195) = true := by decide +kernel
theorem ok_196 : (k_String_length).all (okB 196) = true := by decide +kernel
theorem ok_197 : (k_String_coder).all (okB 197) = true := by decide +kernel
theorem ok_198 : (k_String_charAt).all (okB 198) = true := by decide +kernel
theorem ok_199 : (k_String_isLatin1).all (okB 199) = true := by decide +kernel
theorem ok_200 : (k_StringLatin1_charAt).all (okB 200) = true := by decide +kernel
theorem ok_201 : (k_String_checkIndex).all (okB 201) = true := by decide +kernel
theorem ok_202 : (k_Preconditions_checkIndex).all (okB 202) = true := by decide +kernel
theorem ok_203 : (k_WFModel_stop).all (okB 203) = true := by decide +kernel
theorem ok_204 : (k_WFModel_isName).all (okB 204) = true := by decide +kernel
theorem ok_205 : (k_WFModel_thing).all (okB 205) = true := by decide +kernel
theorem ok_206 : (k_WFModel_Book_has).all (okB 206) = true := by decide +kernel
theorem ok_207 : (k_WFModel_readWorth).all (okB 207) = true := by decide +kernel
theorem ok_208 : (k_WFModel_begins).all (okB 208) = true := by decide +kernel
theorem ok_209_0 : ((k_WFModel_readFactor.drop 0).take 40).all (okB 209) = true := by decide +kernel
theorem ok_209_40 : ((k_WFModel_readFactor.drop 40).take 40).all (okB 209) = true := by decide +kernel
theorem ok_209_80 : (k_WFModel_readFactor.drop 80).all (okB 209) = true := by decide +kernel
theorem ok_209 : (k_WFModel_readFactor).all (okB 209) = true := all_dr 0 40 ok_209_0 (all_dr 40 40 ok_209_40 (ok_209_80))
theorem ok_210 : (k_WFModel_is).all (okB 210) = true := by decide +kernel
theorem ok_211 : (k_WFModel_opens).all (okB 211) = true := by decide +kernel
theorem ok_212 : (k_WFModel_Book_adds).all (okB 212) = true := by decide +kernel
theorem ok_213_0 : ((k_WFModel_isOver.drop 0).take 40).all (okB 213) = true := by decide +kernel
theorem ok_213_40 : ((k_WFModel_isOver.drop 40).take 40).all (okB 213) = true := by decide +kernel
theorem ok_213_80 : ((k_WFModel_isOver.drop 80).take 40).all (okB 213) = true := by decide +kernel
theorem ok_213_120 : (k_WFModel_isOver.drop 120).all (okB 213) = true := by decide +kernel
theorem ok_213 : (k_WFModel_isOver).all (okB 213) = true := all_dr 0 40 ok_213_0 (all_dr 40 40 ok_213_40 (all_dr 80 40 ok_213_80 (ok_213_120)))
theorem ok_214_0 : ((k_WFModel_lays.drop 0).take 40).all (okB 214) = true := by decide +kernel
theorem ok_214_40 : (k_WFModel_lays.drop 40).all (okB 214) = true := by decide +kernel
theorem ok_214 : (k_WFModel_lays).all (okB 214) = true := all_dr 0 40 ok_214_0 (ok_214_40)
theorem ok_215 : (k_WFModel_done).all (okB 215) = true := by decide +kernel
theorem ok_216 : (k_WFModel_fault).all (okB 216) = true := by decide +kernel
theorem ok_217 : (k_WFModel_where).all (okB 217) = true := by decide +kernel
theorem ok_218 : (k_WFModel_ground).all (okB 218) = true := by decide +kernel
theorem ok_219 : (k_WFModel_in).all (okB 219) = true := by decide +kernel
theorem ok_220 : (k_WFModel_cell).all (okB 220) = true := by decide +kernel
theorem ok_221 : (k_WFModel_isCell).all (okB 221) = true := by decide +kernel
theorem ok_222 : (k_WFModel_denied).all (okB 222) = true := by decide +kernel
theorem ok_223 : (k_WFModel_granted).all (okB 223) = true := by decide +kernel
theorem ok_224 : (k_WFModel_door).all (okB 224) = true := by decide +kernel
theorem ok_225 : (k_WFModel_isOwner).all (okB 225) = true := by decide +kernel
theorem ok_226 : (k_WFModel_keep).all (okB 226) = true := by decide +kernel
theorem ok_227 : (k_WFModel_had).all (okB 227) = true := by decide +kernel
theorem ok_228 : (k_WFModel_set).all (okB 228) = true := by decide +kernel
theorem ok_229 : (k_WFModel_value).all (okB 229) = true := by decide +kernel
theorem ok_230_0 : ((k_WFModel_valueOf.drop 0).take 40).all (okB 230) = true := by decide +kernel
theorem ok_230_40 : ((k_WFModel_valueOf.drop 40).take 40).all (okB 230) = true := by decide +kernel
theorem ok_230_80 : ((k_WFModel_valueOf.drop 80).take 40).all (okB 230) = true := by decide +kernel
theorem ok_230_120 : (k_WFModel_valueOf.drop 120).all (okB 230) = true := by decide +kernel
theorem ok_230 : (k_WFModel_valueOf).all (okB 230) = true := all_dr 0 40 ok_230_0 (all_dr 40 40 ok_230_40 (all_dr 80 40 ok_230_80 (ok_230_120)))
theorem ok_231 : (k_WFModel_far).all (okB 231) = true := by decide +kernel
theorem ok_232 : (k_WFModel_abs).all (okB 232) = true := by decide +kernel
theorem ok_233 : (k_WFModel_waters).all (okB 233) = true := by decide +kernel
theorem ok_234 : (k_WFModel_beside).all (okB 234) = true := by decide +kernel
theorem ok_235 : (k_WFModel_draw).all (okB 235) = true := by decide +kernel
theorem ok_236 : (k_WFModel_whose).all (okB 236) = true := by decide +kernel
theorem ok_237 : (k_WFModel_sum).all (okB 237) = true := by decide +kernel
theorem ok_238 : (k_WFModel_values).all (okB 238) = true := by decide +kernel
theorem ok_239 : (k_WFModel_sumOf).all (okB 239) = true := by decide +kernel
end
section
theorem ok_240_0 : ((k_WFModel_total.drop 0).take 40).all (okB 240) = true := by decide +kernel
theorem ok_240_40 : (k_WFModel_total.drop 40).all (okB 240) = true := by decide +kernel
theorem ok_240 : (k_WFModel_total).all (okB 240) = true := all_dr 0 40 ok_240_0 (ok_240_40)
theorem ok_241 : (k_WFModel_lost).all (okB 241) = true := by decide +kernel
theorem ok_242 : (k_WFModel_isYes).all (okB 242) = true := by decide +kernel
theorem ok_243 : (k_WFModel_allSums).all (okB 243) = true := by decide +kernel
theorem ok_244 : (k_WFModel_allShort).all (okB 244) = true := by decide +kernel
theorem ok_245_0 : ((k_WFModel_bound.drop 0).take 40).all (okB 245) = true := by decide +kernel
theorem ok_245_40 : (k_WFModel_bound.drop 40).all (okB 245) = true := by decide +kernel
theorem ok_245 : (k_WFModel_bound).all (okB 245) = true := all_dr 0 40 ok_245_0 (ok_245_40)
theorem ok_246 : (k_WFModel_pairs).all (okB 246) = true := by decide +kernel
theorem ok_247 : (k_WFModel_isEnvying).all (okB 247) = true := by decide +kernel
theorem ok_248 : (k_WFModel_many).all (okB 248) = true := by decide +kernel
theorem ok_249 : (k_WFModel_borders).all (okB 249) = true := by decide +kernel
theorem ok_250 : (k_WFModel_bars).all (okB 250) = true := by decide +kernel
theorem ok_251_0 : ((k_WFModel_barsNow.drop 0).take 40).all (okB 251) = true := by decide +kernel
theorem ok_251_40 : ((k_WFModel_barsNow.drop 40).take 40).all (okB 251) = true := by decide +kernel
theorem ok_251_80 : ((k_WFModel_barsNow.drop 80).take 40).all (okB 251) = true := by decide +kernel
theorem ok_251_120 : (k_WFModel_barsNow.drop 120).all (okB 251) = true := by decide +kernel
theorem ok_251 : (k_WFModel_barsNow).all (okB 251) = true := all_dr 0 40 ok_251_0 (all_dr 40 40 ok_251_40 (all_dr 80 40 ok_251_80 (ok_251_120)))
theorem ok_252_0 : ((k_WFModel_hangs.drop 0).take 40).all (okB 252) = true := by decide +kernel
theorem ok_252_40 : ((k_WFModel_hangs.drop 40).take 40).all (okB 252) = true := by decide +kernel
theorem ok_252_80 : (k_WFModel_hangs.drop 80).all (okB 252) = true := by decide +kernel
theorem ok_252 : (k_WFModel_hangs).all (okB 252) = true := all_dr 0 40 ok_252_0 (all_dr 40 40 ok_252_40 (ok_252_80))
theorem ok_253_0 : ((k_WFModel_isSquare.drop 0).take 40).all (okB 253) = true := by decide +kernel
theorem ok_253_40 : ((k_WFModel_isSquare.drop 40).take 40).all (okB 253) = true := by decide +kernel
theorem ok_253_80 : (k_WFModel_isSquare.drop 80).all (okB 253) = true := by decide +kernel
theorem ok_253 : (k_WFModel_isSquare).all (okB 253) = true := all_dr 0 40 ok_253_0 (all_dr 40 40 ok_253_40 (ok_253_80))
theorem ok_254 : (k_WFModel_barred).all (okB 254) = true := by decide +kernel
theorem ok_255 : (k_WFModel_envies).all (okB 255) = true := by decide +kernel
theorem ok_256 : (k_WFModel_votes).all (okB 256) = true := by decide +kernel
theorem ok_257_0 : ((k_WFModel_grow.drop 0).take 40).all (okB 257) = true := by decide +kernel
theorem ok_257_40 : ((k_WFModel_grow.drop 40).take 40).all (okB 257) = true := by decide +kernel
theorem ok_257_80 : ((k_WFModel_grow.drop 80).take 40).all (okB 257) = true := by decide +kernel
theorem ok_257_120 : (k_WFModel_grow.drop 120).all (okB 257) = true := by decide +kernel
theorem ok_257 : (k_WFModel_grow).all (okB 257) = true := all_dr 0 40 ok_257_0 (all_dr 40 40 ok_257_40 (all_dr 80 40 ok_257_80 (ok_257_120)))
theorem ok_258_0 : ((k_WFModel_taken.drop 0).take 40).all (okB 258) = true := by decide +kernel
theorem ok_258_40 : (k_WFModel_taken.drop 40).all (okB 258) = true := by decide +kernel
theorem ok_258 : (k_WFModel_taken).all (okB 258) = true := all_dr 0 40 ok_258_0 (ok_258_40)
theorem ok_259 : (k_WFModel_better).all (okB 259) = true := by decide +kernel
theorem ok_260_0 : ((k_WFModel_isMoved.drop 0).take 40).all (okB 260) = true := by decide +kernel
theorem ok_260_40 : ((k_WFModel_isMoved.drop 40).take 40).all (okB 260) = true := by decide +kernel
theorem ok_260_80 : (k_WFModel_isMoved.drop 80).all (okB 260) = true := by decide +kernel
theorem ok_260 : (k_WFModel_isMoved).all (okB 260) = true := all_dr 0 40 ok_260_0 (all_dr 40 40 ok_260_40 (ok_260_80))
theorem ok_261 : (k_WFModel_looks).all (okB 261) = true := by decide +kernel
theorem ok_262 : (k_WFModel_exchanges).all (okB 262) = true := by decide +kernel
theorem ok_263 : (k_WFModel_can).all (okB 263) = true := by decide +kernel
theorem ok_264_0 : ((k_WFModel_best.drop 0).take 40).all (okB 264) = true := by decide +kernel
theorem ok_264_40 : ((k_WFModel_best.drop 40).take 40).all (okB 264) = true := by decide +kernel
theorem ok_264_80 : ((k_WFModel_best.drop 80).take 40).all (okB 264) = true := by decide +kernel
theorem ok_264_120 : ((k_WFModel_best.drop 120).take 40).all (okB 264) = true := by decide +kernel
theorem ok_264_160 : ((k_WFModel_best.drop 160).take 40).all (okB 264) = true := by decide +kernel
theorem ok_264_200 : (k_WFModel_best.drop 200).all (okB 264) = true := by decide +kernel
theorem ok_264 : (k_WFModel_best).all (okB 264) = true := all_dr 0 40 ok_264_0 (all_dr 40 40 ok_264_40 (all_dr 80 40 ok_264_80 (all_dr 120 40 ok_264_120 (all_dr 160 40 ok_264_160 (ok_264_200)))))
theorem ok_265 : (k_WFModel_stakes).all (okB 265) = true := by decide +kernel
theorem ok_266 : (k_WFModel_isField).all (okB 266) = true := by decide +kernel
theorem ok_267_0 : ((k_WFModel_walks.drop 0).take 40).all (okB 267) = true := by decide +kernel
theorem ok_267_40 : ((k_WFModel_walks.drop 40).take 40).all (okB 267) = true := by decide +kernel
theorem ok_267_80 : ((k_WFModel_walks.drop 80).take 40).all (okB 267) = true := by decide +kernel
theorem ok_267_120 : ((k_WFModel_walks.drop 120).take 40).all (okB 267) = true := by decide +kernel
theorem ok_267_160 : ((k_WFModel_walks.drop 160).take 40).all (okB 267) = true := by decide +kernel
theorem ok_267_200 : (k_WFModel_walks.drop 200).all (okB 267) = true := by decide +kernel
theorem ok_267 : (k_WFModel_walks).all (okB 267) = true := all_dr 0 40 ok_267_0 (all_dr 40 40 ok_267_40 (all_dr 80 40 ok_267_80 (all_dr 120 40 ok_267_120 (all_dr 160 40 ok_267_160 (ok_267_200)))))
theorem ok_268 : (k_WFModel_isIn).all (okB 268) = true := by decide +kernel
theorem ok_269 : (k_WFModel_stake).all (okB 269) = true := by decide +kernel
theorem ok_270_0 : ((k_WFModel_within.drop 0).take 40).all (okB 270) = true := by decide +kernel
theorem ok_270_40 : ((k_WFModel_within.drop 40).take 40).all (okB 270) = true := by decide +kernel
theorem ok_270_80 : (k_WFModel_within.drop 80).all (okB 270) = true := by decide +kernel
theorem ok_270 : (k_WFModel_within).all (okB 270) = true := all_dr 0 40 ok_270_0 (all_dr 40 40 ok_270_40 (ok_270_80))
theorem ok_271_0 : ((k_WFModel_split.drop 0).take 40).all (okB 271) = true := by decide +kernel
theorem ok_271_40 : ((k_WFModel_split.drop 40).take 40).all (okB 271) = true := by decide +kernel
theorem ok_271_80 : ((k_WFModel_split.drop 80).take 40).all (okB 271) = true := by decide +kernel
theorem ok_271_120 : ((k_WFModel_split.drop 120).take 40).all (okB 271) = true := by decide +kernel
theorem ok_271_160 : ((k_WFModel_split.drop 160).take 40).all (okB 271) = true := by decide +kernel
theorem ok_271_200 : (k_WFModel_split.drop 200).all (okB 271) = true := by decide +kernel
theorem ok_271 : (k_WFModel_split).all (okB 271) = true := all_dr 0 40 ok_271_0 (all_dr 40 40 ok_271_40 (all_dr 80 40 ok_271_80 (all_dr 120 40 ok_271_120 (all_dr 160 40 ok_271_160 (ok_271_200)))))
theorem ok_272 : (k_WFModel_bits).all (okB 272) = true := by decide +kernel
theorem ok_273 : (k_WFModel_part).all (okB 273) = true := by decide +kernel
theorem ok_274_0 : ((k_WFModel_corner.drop 0).take 40).all (okB 274) = true := by decide +kernel
theorem ok_274_40 : (k_WFModel_corner.drop 40).all (okB 274) = true := by decide +kernel
theorem ok_274 : (k_WFModel_corner).all (okB 274) = true := all_dr 0 40 ok_274_0 (ok_274_40)
theorem ok_275 : (k_WFModel_clear).all (okB 275) = true := by decide +kernel
theorem ok_276_0 : ((k_WFModel_ditches.drop 0).take 40).all (okB 276) = true := by decide +kernel
theorem ok_276_40 : ((k_WFModel_ditches.drop 40).take 40).all (okB 276) = true := by decide +kernel
theorem ok_276_80 : ((k_WFModel_ditches.drop 80).take 40).all (okB 276) = true := by decide +kernel
theorem ok_276_120 : (k_WFModel_ditches.drop 120).all (okB 276) = true := by decide +kernel
theorem ok_276 : (k_WFModel_ditches).all (okB 276) = true := all_dr 0 40 ok_276_0 (all_dr 40 40 ok_276_40 (all_dr 80 40 ok_276_80 (ok_276_120)))
theorem ok_277_0 : ((k_WFModel_spreads.drop 0).take 40).all (okB 277) = true := by decide +kernel
theorem ok_277_40 : ((k_WFModel_spreads.drop 40).take 40).all (okB 277) = true := by decide +kernel
theorem ok_277_80 : (k_WFModel_spreads.drop 80).all (okB 277) = true := by decide +kernel
theorem ok_277 : (k_WFModel_spreads).all (okB 277) = true := all_dr 0 40 ok_277_0 (all_dr 40 40 ok_277_40 (ok_277_80))
theorem ok_278_0 : ((k_WFModel_isBorder.drop 0).take 40).all (okB 278) = true := by decide +kernel
theorem ok_278_40 : ((k_WFModel_isBorder.drop 40).take 40).all (okB 278) = true := by decide +kernel
theorem ok_278_80 : (k_WFModel_isBorder.drop 80).all (okB 278) = true := by decide +kernel
theorem ok_278 : (k_WFModel_isBorder).all (okB 278) = true := all_dr 0 40 ok_278_0 (all_dr 40 40 ok_278_40 (ok_278_80))
theorem ok_279_0 : ((k_WFModel_count.drop 0).take 40).all (okB 279) = true := by decide +kernel
theorem ok_279_40 : ((k_WFModel_count.drop 40).take 40).all (okB 279) = true := by decide +kernel
theorem ok_279_80 : (k_WFModel_count.drop 80).all (okB 279) = true := by decide +kernel
theorem ok_279 : (k_WFModel_count).all (okB 279) = true := all_dr 0 40 ok_279_0 (all_dr 40 40 ok_279_40 (ok_279_80))
theorem ok_280 : (k_WFModel_trouble).all (okB 280) = true := by decide +kernel
end
section
/-! The links' words stand in the tables (printed by program: wip/gen/gen7.py) -/
def exT (M : Nat) : List (Nat × Nat × Nat × Nat) := if M = M_WFLaw_stake then [(0, 10, 13, 13)] else if M = M_WFModel_book then [(54, 62, 65, 13)] else []
def cdW (a : Nat) : Cond := match exT a with
  | [] => .code (mY a) (mB a) (mxT a) (mRt a)
  | hh => .codeWith (mY a) (mB a) (mxT a) (mRt a) hh
def tbP (j : Nat) : List Cond := match j with
  | 0 => k2_sels lw_privs
  | 1 => tables_1_1
  | 2 => tables_1_2
  | 3 => tables_1_3
  | 4 => tables_1_4
  | 5 => tables_1_5
  | 6 => tables_1_6
  | 7 => tables_1_7
  | 8 => tables_1_8
  | _ => tables_1_9
theorem tbP_in {j : Nat} {w : Cond} (h : w ∈ tbP j) : w ∈ lw_tbl := by
  unfold lw_tbl tables_1
  simp only [List.mem_append]
  unfold tbP at h
  split at h <;> simp [h]
def atP (q : Nat × Nat) : Option Cond := (tbP q.1)[q.2]?
theorem atP_in {q : Nat × Nat} {w : Cond} (h : atP q = some w) : w ∈ lw_tbl := tbP_in (List.mem_of_getElem? h)
def mlW (q : Nat × Nat × Nat × Nat) : List Cond := match q.2.2.2 with
  | 0 | 4 => [.methodLink (onm q.1) q.2.1 (mY q.2.2.1), .instanceMethod (mY q.2.2.1), .selects (mY q.2.2.1).cls (mY q.2.2.1) (mY q.2.2.1), .initialized (mY q.2.2.1).cls]
  | 1 | 5 => [.methodLink (onm q.1) q.2.1 (mY q.2.2.1), .static (mY q.2.2.1), .initialized (mY q.2.2.1).cls]
  | 2 => [.methodLink (onm q.1) q.2.1 (mY q.2.2.1), .instanceMethod (mY q.2.2.1), .initialized (mY q.2.2.1).cls]
  | _ => [.instanceMethod (mY q.2.2.1), .initialized (mY q.2.2.1).cls]
def fW (o i a b : Nat) : Cond := .fieldLink (onm o) i ((clT a).2.1 b).1 ((clT a).2.1 b).2.1 ((clT a).2.1 b).2.2.1
def mlB (q : (Nat × Nat × Nat × Nat) × List (Nat × Nat)) : Bool := decide (q.2.map atP = (mlW q.1).map some)
def flB (q : (Nat × Nat × Nat × Nat) × (Nat × Nat)) : Bool := decide (atP q.2 = some (fW q.1.1 q.1.2.1 q.1.2.2.1 q.1.2.2.2))
def clB (q : (Nat × Nat × Nat) × (Nat × Nat)) : Bool := decide (atP q.2 = some (.classLink (onm q.1.1) q.1.2.1 (clT q.1.2.2).1))
def ciB (q : (Nat × Nat × Nat) × (Nat × Nat)) : Bool := decide (atP q.2 = some (.constant (onm q.1.1) q.1.2.1 (cI9 q.1.2.2)))
def cjB (q : (Nat × Nat × Nat) × (Nat × Nat)) : Bool := decide (atP q.2 = some (.constantLong (onm q.1.1) q.1.2.1 (cJ9 q.1.2.2)))
def mlP : List ((Nat × Nat × Nat × Nat) × List (Nat × Nat)) := [((11, 15, 2, 2), [(1, 39), (1, 40), (1, 2)]), ((11, 24, 5, 3), [(1, 151), (1, 5)]), ((11, 31, 6, 2), [(2, 2), (2, 3), (1, 6)]), ((11, 40, 7, 2), [(2, 29), (2, 30), (1, 7)]), ((11, 49, 8, 2), [(2, 42), (2, 43), (1, 8)]), ((11, 58, 9, 2), [(2, 82), (2, 83), (1, 9)]), ((11, 65, 10, 2), [(2, 138), (2, 139), (1, 10)]), ((11, 72, 11, 2), [(2, 161), (2, 162), (1, 11)]), ((11, 79, 12, 2), [(2, 194), (2, 195), (1, 12)]), ((11, 84, 13, 0), [(2, 218), (2, 220), (0, 0), (1, 1)]), ((11, 91, 18, 0), [(3, 45), (3, 47), (0, 1), (1, 1)]), ((11, 95, 20, 0), [(3, 53), (3, 55), (0, 2), (1, 1)]), ((11, 99, 21, 0), [(3, 57), (3, 58), (3, 59), (1, 2)]), ((11, 118, 50, 0), [(3, 175), (3, 176), (3, 177), (1, 5)]), ((11, 126, 51, 0), [(3, 180), (3, 182), (0, 19), (1, 1)]), ((11, 132, 55, 0), [(3, 196), (3, 197), (3, 198), (1, 5)]), ((11, 139, 68, 0), [(4, 8), (4, 9), (4, 10), (1, 5)]), ((11, 142, 69, 0), [(4, 12), (4, 14), (0, 24), (1, 1)]), ((11, 145, 70, 0), [(4, 16), (4, 17), (4, 18), (1, 5)]), ((11, 149, 71, 0), [(4, 20), (4, 22), (0, 25), (1, 1)]), ((11, 153, 73, 0), [(4, 28), (4, 29), (4, 30), (1, 5)]), ((11, 156, 75, 0), [(4, 36), (4, 37), (4, 38), (1, 5)]), ((11, 167, 74, 0), [(4, 53), (4, 33), (4, 34), (1, 5)]), ((11, 177, 80, 0), [(4, 59), (4, 60), (4, 61), (1, 5)]), ((11, 184, 82, 0), [(4, 67), (4, 68), (4, 69), (1, 6)]), ((11, 187, 85, 0), [(4, 80), (4, 81), (4, 82), (1, 7)]), ((11, 190, 88, 0), [(4, 93), (4, 95), (0, 27), (1, 1)]), ((11, 193, 89, 0), [(4, 97), (4, 98), (4, 99), (1, 7)]), ((11, 196, 105, 0), [(4, 167), (4, 168), (4, 169), (1, 6)]), ((11, 206, 97, 0), [(4, 203), (4, 132), (4, 133), (1, 7)]), ((11, 210, 99, 0), [(4, 208), (4, 140), (4, 141), (1, 7)]), ((11, 213, 116, 0), [(4, 213), (4, 214), (4, 215), (1, 6)]), ((11, 216, 106, 0), [(4, 234), (4, 172), (4, 173), (1, 6)]), ((11, 220, 103, 1), [(4, 235), (4, 158), (1, 25)]), ((11, 226, 121, 0), [(5, 0), (5, 1), (5, 2), (1, 8)]), ((11, 229, 122, 0), [(5, 55), (5, 5), (5, 6), (1, 8)]), ((11, 232, 134, 0), [(5, 60), (5, 61), (5, 62), (1, 9)]), ((11, 235, 135, 0), [(5, 66), (5, 67), (5, 68), (1, 9)]), ((11, 246, 147, 0), [(5, 127), (5, 128), (5, 129), (1, 10)]), ((11, 260, 178, 0), [(6, 100), (6, 101), (6, 102), (1, 10)]), ((11, 263, 152, 0), [(5, 157), (5, 158), (5, 159), (1, 10)]), ((11, 266, 154, 0), [(5, 165), (5, 166), (5, 167), (1, 11)]), ((11, 270, 155, 0), [(5, 172), (5, 173), (5, 174), (1, 11)]), ((11, 281, 160, 0), [(5, 198), (5, 199), (5, 200), (1, 5)]), ((11, 284, 161, 0), [(5, 202), (5, 203), (5, 204), (1, 12)]), ((11, 287, 162, 0), [(5, 206), (5, 207), (5, 208), (1, 12)]), ((11, 290, 163, 0), [(5, 210), (5, 211), (5, 212), (1, 12)]), ((11, 295, 166, 0), [(5, 222), (5, 223), (5, 224), (1, 12)]), ((11, 302, 174, 0), [(6, 16), (6, 17), (6, 18), (1, 5)]), ((11, 308, 101, 0), [(6, 20), (4, 149), (4, 150), (1, 6)]), ((11, 313, 14, 0), [(2, 222), (2, 223), (2, 224), (1, 6)]), ((0, 19, 90, 0), [(4, 101), (4, 103), (0, 28), (1, 7)]), ((0, 23, 91, 0), [(4, 106), (4, 108), (0, 29), (1, 7)]), ((0, 26, 93, 0), [(4, 114), (4, 116), (0, 30), (1, 7)]), ((0, 29, 96, 0), [(4, 127), (4, 129), (0, 32), (1, 7)]), ((0, 32, 98, 0), [(4, 135), (4, 137), (0, 33), (1, 7)]), ((0, 35, 100, 0), [(4, 144), (4, 146), (0, 34), (1, 7)]), ((0, 44, 86, 0), [(4, 84), (4, 86), (0, 26), (1, 7)]), ((0, 54, 80, 0), [(4, 88), (4, 60), (4, 61), (1, 5)]), ((0, 71, 85, 0), [(4, 105), (4, 81), (4, 82), (1, 7)]), ((0, 75, 92, 0), [(4, 110), (4, 111), (4, 112), (1, 7)]), ((0, 78, 94, 0), [(4, 118), (4, 119), (4, 120), (1, 5)]), ((0, 85, 95, 0), [(4, 122), (4, 124), (0, 31), (1, 7)]), ((0, 88, 25, 1), [(4, 126), (3, 73), (1, 19)]), ((0, 93, 97, 0), [(4, 131), (4, 132), (4, 133), (1, 7)]), ((0, 100, 61, 0), [(4, 143), (3, 223), (3, 224), (1, 5)]), ((0, 106, 99, 0), [(4, 139), (4, 140), (4, 141), (1, 7)]), ((0, 109, 101, 0), [(4, 148), (4, 149), (4, 150), (1, 6)]), ((0, 119, 102, 0), [(4, 153), (4, 154), (4, 155), (1, 5)]), ((1, 25, 64, 1), [(3, 233), (3, 234), (1, 3)]), ((1, 29, 66, 1), [(4, 1), (4, 2), (1, 3)]), ((1, 33, 65, 1), [(3, 236), (3, 237), (1, 3)]), ((1, 37, 24, 1), [(3, 239), (3, 70), (1, 19)]), ((1, 43, 25, 1), [(4, 0), (3, 73), (1, 19)]), ((2, 33, 167, 0), [(5, 226), (5, 228), (0, 62), (1, 12)]), ((2, 36, 169, 0), [(5, 234), (5, 236), (0, 64), (1, 12)]), ((2, 40, 171, 0), [(6, 4), (6, 6), (0, 66), (1, 12)]), ((2, 51, 168, 0), [(5, 230), (5, 232), (0, 63), (1, 12)]), ((2, 60, 170, 0), [(5, 238), (6, 0), (0, 65), (1, 12)]), ((2, 64, 160, 0), [(6, 2), (5, 199), (5, 200), (1, 5)]), ((2, 67, 24, 1), [(6, 3), (3, 70), (1, 19)]), ((2, 73, 172, 0), [(6, 8), (6, 10), (0, 67), (1, 12)]), ((3, 23, 15, 1), [(2, 226), (2, 227), (1, 13)]), ((3, 29, 16, 1), [(2, 229), (2, 230), (1, 13)]), ((3, 43, 101, 0), [(4, 175), (4, 149), (4, 150), (1, 6)]), ((3, 47, 106, 0), [(4, 171), (4, 172), (4, 173), (1, 6)]), ((3, 50, 107, 1), [(4, 176), (4, 177), (1, 5)]), ((3, 54, 108, 0), [(4, 179), (4, 181), (0, 35), (1, 6)]), ((3, 65, 109, 0), [(4, 183), (4, 184), (4, 185), (1, 5)]), ((3, 72, 110, 0), [(4, 187), (4, 189), (0, 36), (1, 6)]), ((3, 78, 111, 0), [(4, 191), (4, 192), (4, 193), (1, 5)]), ((3, 82, 14, 0), [(4, 217), (2, 223), (2, 224), (1, 6)]), ((3, 85, 117, 0), [(4, 218), (4, 220), (0, 37), (1, 6)]), ((3, 88, 118, 0), [(4, 223), (4, 225), (0, 38), (1, 6)]), ((3, 100, 119, 0), [(4, 228), (4, 230), (0, 39), (1, 6)]), ((3, 104, 82, 0), [(4, 222), (4, 68), (4, 69), (1, 6)]), ((3, 111, 94, 0), [(4, 227), (4, 119), (4, 120), (1, 5)]), ((3, 114, 58, 0), [(4, 232), (3, 211), (3, 212), (1, 5)]), ((3, 117, 80, 0), [(4, 233), (4, 60), (4, 61), (1, 5)]), ((4, 53, 103, 1), [(5, 65), (4, 158), (1, 25)]), ((4, 76, 24, 1), [(5, 70), (3, 70), (1, 19)]), ((4, 83, 16, 1), [(5, 71), (2, 230), (1, 13)]), ((4, 89, 15, 1), [(5, 72), (2, 227), (1, 13)]), ((4, 92, 136, 0), [(5, 73), (5, 75), (0, 48), (1, 9)]), ((4, 96, 137, 0), [(5, 78), (5, 80), (0, 49), (1, 9)]), ((4, 99, 139, 0), [(5, 89), (5, 91), (0, 51), (1, 9)]), ((4, 103, 14, 0), [(5, 121), (2, 223), (2, 224), (1, 6)]), ((4, 111, 82, 0), [(5, 122), (4, 68), (4, 69), (1, 6)]), ((4, 117, 94, 0), [(5, 77), (4, 119), (4, 120), (1, 5)]), ((4, 125, 138, 0), [(5, 83), (5, 85), (0, 50), (1, 9)]), ((4, 129, 80, 0), [(5, 87), (4, 60), (4, 61), (1, 5)]), ((4, 132, 25, 1), [(5, 88), (3, 73), (1, 19)]), ((4, 138, 140, 0), [(5, 93), (5, 95), (0, 52), (1, 9)]), ((4, 141, 141, 0), [(5, 97), (5, 99), (0, 53), (1, 9)]), ((4, 144, 145, 0), [(5, 117), (5, 119), (0, 57), (1, 9)]), ((4, 157, 142, 0), [(5, 101), (5, 103), (0, 54), (1, 9)]), ((4, 161, 143, 0), [(5, 105), (5, 107), (0, 55), (1, 9)]), ((4, 165, 144, 0), [(5, 109), (5, 111), (0, 56), (1, 9)]), ((4, 174, 128, 0), [(5, 113), (5, 33), (5, 34), (1, 5)]), ((5, 32, 3, 3), [(1, 46), (1, 3)]), ((5, 66, 15, 1), [(3, 179), (2, 227), (1, 13)]), ((5, 72, 50, 0), [(3, 200), (3, 176), (3, 177), (1, 5)]), ((5, 77, 56, 0), [(3, 202), (3, 204), (0, 20), (1, 5)]), ((5, 81, 74, 0), [(4, 32), (4, 33), (4, 34), (1, 5)]), ((5, 88, 58, 0), [(3, 210), (3, 211), (3, 212), (1, 5)]), ((5, 92, 57, 0), [(3, 206), (3, 208), (0, 21), (1, 5)]), ((5, 96, 61, 0), [(3, 222), (3, 223), (3, 224), (1, 5)]), ((5, 100, 63, 0), [(3, 229), (3, 230), (3, 231), (1, 3)]), ((5, 104, 62, 1), [(3, 226), (3, 227), (1, 19)]), ((5, 110, 59, 0), [(3, 214), (3, 216), (0, 22), (1, 5)]), ((5, 113, 60, 0), [(3, 218), (3, 220), (0, 23), (1, 5)]), ((5, 116, 103, 1), [(4, 157), (4, 158), (1, 25)]), ((5, 122, 109, 0), [(5, 36), (4, 184), (4, 185), (1, 5)]), ((5, 126, 111, 0), [(5, 37), (4, 192), (4, 193), (1, 5)]), ((6, 27, 122, 0), [(5, 4), (5, 5), (5, 6), (1, 8)]), ((6, 31, 131, 0), [(5, 46), (5, 48), (0, 47), (1, 8)]), ((6, 46, 82, 0), [(5, 50), (4, 68), (4, 69), (1, 6)]), ((6, 70, 85, 0), [(5, 8), (4, 81), (4, 82), (1, 7)]), ((6, 76, 92, 0), [(5, 9), (4, 111), (4, 112), (1, 7)]), ((6, 89, 123, 0), [(5, 10), (5, 12), (0, 40), (1, 8)]), ((6, 93, 124, 0), [(5, 15), (5, 17), (0, 41), (1, 8)]), ((6, 97, 130, 0), [(5, 42), (5, 44), (0, 46), (1, 8)]), ((6, 100, 94, 0), [(5, 14), (4, 119), (4, 120), (1, 5)]), ((6, 106, 80, 0), [(5, 19), (4, 60), (4, 61), (1, 5)]), ((6, 109, 125, 0), [(5, 20), (5, 22), (0, 42), (1, 8)]), ((6, 113, 127, 0), [(5, 28), (5, 30), (0, 44), (1, 8)]), ((6, 117, 129, 0), [(5, 38), (5, 40), (0, 45), (1, 8)]), ((6, 121, 126, 0), [(5, 24), (5, 26), (0, 43), (1, 8)]), ((6, 129, 128, 0), [(5, 32), (5, 33), (5, 34), (1, 5)]), ((7, 17, 3, 3), [(1, 46), (1, 3)]), ((7, 38, 4, 2), [(1, 74), (1, 75), (1, 4)]), ((7, 55, 22, 0), [(3, 61), (3, 62), (3, 63), (1, 3)]), ((7, 58, 23, 0), [(3, 65), (3, 66), (3, 67), (1, 4)]), ((7, 61, 26, 0), [(3, 75), (3, 76), (3, 77), (1, 4)]), ((7, 64, 32, 0), [(3, 96), (3, 98), (0, 5), (1, 2)]), ((7, 76, 33, 0), [(3, 101), (3, 103), (0, 6), (1, 2)]), ((7, 80, 35, 0), [(3, 109), (3, 111), (0, 8), (1, 2)]), ((7, 85, 40, 0), [(3, 135), (3, 137), (0, 11), (1, 2)]), ((7, 88, 44, 0), [(3, 151), (3, 153), (0, 14), (1, 2)]), ((7, 91, 45, 0), [(3, 155), (3, 157), (0, 15), (1, 2)]), ((7, 94, 34, 0), [(3, 105), (3, 107), (0, 7), (1, 2)]), ((7, 97, 36, 1), [(3, 114), (3, 115), (1, 2)]), ((7, 101, 37, 0), [(3, 123), (3, 125), (0, 9), (1, 2)]), ((7, 108, 38, 0), [(3, 127), (3, 128), (3, 129), (1, 3)]), ((7, 117, 39, 0), [(3, 131), (3, 133), (0, 10), (1, 2)]), ((7, 139, 41, 0), [(3, 139), (3, 141), (0, 12), (1, 2)]), ((7, 142, 42, 0), [(3, 143), (3, 145), (0, 13), (1, 2)]), ((7, 148, 43, 0), [(3, 147), (3, 148), (3, 149), (1, 3)]), ((7, 151, 46, 0), [(3, 159), (3, 161), (0, 16), (1, 2)]), ((7, 154, 47, 0), [(3, 163), (3, 165), (0, 17), (1, 2)]), ((7, 157, 48, 0), [(3, 167), (3, 169), (0, 18), (1, 2)]), ((7, 160, 49, 0), [(3, 171), (3, 172), (3, 173), (1, 4)]), ((8, 15, 24, 1), [(3, 69), (3, 70), (1, 19)]), ((8, 21, 25, 1), [(3, 72), (3, 73), (1, 19)]), ((8, 44, 27, 1), [(3, 79), (3, 80), (1, 4)]), ((8, 48, 28, 0), [(3, 82), (3, 84), (0, 3), (1, 4)]), ((8, 51, 29, 1), [(3, 86), (3, 87), (1, 4)]), ((8, 54, 30, 0), [(3, 89), (3, 91), (0, 4), (1, 4)]), ((8, 57, 31, 1), [(3, 93), (3, 94), (1, 4)]), ((9, 28, 103, 1), [(5, 169), (4, 158), (1, 25)]), ((9, 34, 109, 0), [(5, 170), (4, 184), (4, 185), (1, 5)]), ((9, 43, 80, 0), [(5, 171), (4, 60), (4, 61), (1, 5)]), ((9, 50, 107, 1), [(5, 176), (4, 177), (1, 5)]), ((9, 53, 24, 1), [(5, 177), (3, 70), (1, 19)]), ((9, 58, 156, 0), [(5, 178), (5, 180), (0, 61), (1, 11)]), ((9, 64, 102, 0), [(5, 183), (4, 154), (4, 155), (1, 5)]), ((9, 68, 157, 1), [(5, 184), (5, 185), (1, 28)]), ((10, 35, 109, 0), [(5, 131), (4, 184), (4, 185), (1, 5)]), ((10, 39, 107, 1), [(5, 132), (4, 177), (1, 5)]), ((10, 43, 148, 0), [(5, 133), (5, 135), (0, 58), (1, 10)]), ((10, 53, 149, 0), [(5, 141), (5, 143), (0, 59), (1, 10)]), ((10, 63, 150, 0), [(5, 149), (5, 151), (0, 60), (1, 10)]), ((15, 7, 177, 0), [(6, 30), (6, 31), (6, 32), (1, 1)]), ((15, 15, 1, 2), [(1, 31), (1, 32), (1, 1)]), ((15, 18, 179, 2), [(6, 106), (6, 107), (1, 14)]), ((15, 19, 17, 0), [(3, 41), (3, 42), (3, 43), (1, 1)]), ((15, 23, 185, 0), [(7, 69), (7, 70), (7, 71), (1, 14)]), ((15, 24, 19, 0), [(3, 49), (3, 50), (3, 51), (1, 1)]), ((15, 28, 186, 4), [(7, 73), (7, 74), (7, 75), (1, 14)]), ((15, 29, 52, 0), [(3, 184), (3, 185), (3, 186), (1, 1)]), ((15, 33, 216, 0), [(7, 238), (7, 239), (8, 0), (1, 14)]), ((15, 34, 53, 0), [(3, 188), (3, 189), (3, 190), (1, 1)]), ((15, 37, 217, 0), [(8, 2), (8, 3), (8, 4), (1, 14)]), ((15, 38, 54, 0), [(3, 192), (3, 193), (3, 194), (1, 1)]), ((15, 41, 218, 0), [(8, 6), (8, 7), (8, 8), (1, 14)]), ((15, 42, 67, 0), [(4, 4), (4, 5), (4, 6), (1, 1)]), ((15, 46, 220, 0), [(8, 13), (8, 14), (8, 15), (1, 14)]), ((15, 47, 72, 0), [(4, 24), (4, 25), (4, 26), (1, 1)]), ((15, 51, 224, 0), [(8, 29), (8, 30), (8, 31), (1, 14)]), ((15, 52, 76, 0), [(4, 40), (4, 41), (4, 42), (1, 1)]), ((15, 55, 226, 0), [(8, 37), (8, 38), (8, 39), (1, 14)]), ((15, 56, 77, 0), [(4, 44), (4, 45), (4, 46), (1, 1)]), ((15, 59, 227, 0), [(8, 41), (8, 42), (8, 43), (1, 14)]), ((15, 60, 78, 0), [(4, 49), (4, 50), (4, 51), (1, 1)]), ((15, 63, 228, 0), [(8, 46), (8, 47), (8, 48), (1, 14)]), ((15, 64, 79, 0), [(4, 54), (4, 55), (4, 56), (1, 1)]), ((15, 67, 229, 0), [(8, 50), (8, 51), (8, 52), (1, 14)]), ((15, 68, 81, 0), [(4, 63), (4, 64), (4, 65), (1, 1)]), ((15, 71, 235, 0), [(8, 76), (8, 77), (8, 78), (1, 14)]), ((15, 72, 83, 0), [(4, 72), (4, 73), (4, 74), (1, 1)]), ((15, 75, 236, 0), [(8, 80), (8, 81), (8, 82), (1, 14)]), ((15, 76, 84, 0), [(4, 76), (4, 77), (4, 78), (1, 1)]), ((15, 79, 237, 0), [(8, 84), (8, 85), (8, 86), (1, 14)]), ((15, 80, 87, 0), [(4, 89), (4, 90), (4, 91), (1, 1)]), ((15, 83, 240, 0), [(8, 96), (8, 97), (8, 98), (1, 14)]), ((15, 84, 104, 0), [(4, 163), (4, 164), (4, 165), (1, 1)]), ((15, 87, 250, 0), [(8, 136), (8, 137), (8, 138), (1, 14)]), ((15, 88, 112, 0), [(4, 195), (4, 196), (4, 197), (1, 1)]), ((15, 91, 254, 0), [(8, 152), (8, 153), (8, 154), (1, 14)]), ((15, 92, 113, 0), [(4, 199), (4, 200), (4, 201), (1, 1)]), ((15, 95, 255, 0), [(8, 156), (8, 157), (8, 158), (1, 14)]), ((15, 96, 114, 0), [(4, 204), (4, 205), (4, 206), (1, 1)]), ((15, 99, 256, 0), [(8, 160), (8, 161), (8, 162), (1, 14)]), ((15, 100, 115, 0), [(4, 209), (4, 210), (4, 211), (1, 1)]), ((15, 103, 257, 0), [(8, 164), (8, 165), (8, 166), (1, 14)]), ((15, 104, 120, 0), [(4, 236), (4, 237), (4, 238), (1, 1)]), ((15, 107, 259, 0), [(8, 172), (8, 173), (8, 174), (1, 14)]), ((15, 108, 132, 0), [(5, 51), (5, 52), (5, 53), (1, 1)]), ((15, 111, 263, 0), [(8, 188), (8, 189), (8, 190), (1, 14)]), ((15, 112, 133, 0), [(5, 56), (5, 57), (5, 58), (1, 1)]), ((15, 116, 264, 0), [(8, 192), (8, 193), (8, 194), (1, 14)]), ((15, 117, 146, 0), [(5, 123), (5, 124), (5, 125), (1, 1)]), ((15, 120, 265, 0), [(8, 196), (8, 197), (8, 198), (1, 14)]), ((15, 121, 176, 5), [(6, 26), (6, 27), (1, 0)]), ((15, 126, 269, 0), [(8, 212), (8, 213), (8, 214), (1, 14)]), ((15, 127, 184, 0), [(7, 65), (7, 66), (7, 67), (1, 14)]), ((15, 130, 151, 0), [(5, 153), (5, 154), (5, 155), (1, 1)]), ((15, 133, 270, 0), [(8, 216), (8, 217), (8, 218), (1, 14)]), ((15, 134, 153, 0), [(5, 161), (5, 162), (5, 163), (1, 1)]), ((15, 138, 271, 0), [(8, 220), (8, 221), (8, 222), (1, 14)]), ((15, 139, 158, 0), [(5, 190), (5, 191), (5, 192), (1, 1)]), ((15, 142, 273, 0), [(8, 227), (8, 228), (8, 229), (1, 14)]), ((15, 143, 159, 0), [(5, 194), (5, 195), (5, 196), (1, 1)]), ((15, 146, 274, 0), [(8, 231), (8, 232), (8, 233), (1, 14)]), ((15, 147, 164, 0), [(5, 214), (5, 215), (5, 216), (1, 1)]), ((15, 150, 275, 0), [(8, 235), (8, 236), (8, 237), (1, 14)]), ((15, 151, 165, 0), [(5, 218), (5, 219), (5, 220), (1, 1)]), ((15, 154, 276, 0), [(8, 239), (9, 0), (9, 1), (1, 14)]), ((15, 155, 173, 0), [(6, 12), (6, 13), (6, 14), (1, 1)]), ((15, 158, 279, 0), [(9, 11), (9, 12), (9, 13), (1, 14)]), ((15, 159, 175, 0), [(6, 22), (6, 23), (6, 24), (1, 1)]), ((15, 162, 280, 0), [(9, 15), (9, 16), (9, 17), (1, 14)]), ((14, 15, 180, 2), [(6, 119), (6, 120), (1, 18)]), ((14, 123, 196, 0), [(7, 131), (7, 132), (7, 133), (1, 21)]), ((14, 131, 198, 0), [(7, 141), (7, 142), (7, 143), (1, 21)]), ((14, 138, 190, 0), [(7, 108), (7, 110), (0, 71), (1, 14)]), ((14, 148, 191, 1), [(7, 112), (7, 113), (1, 14)]), ((14, 156, 192, 1), [(7, 116), (7, 117), (1, 14)]), ((14, 162, 195, 1), [(7, 128), (7, 129), (1, 14)]), ((14, 168, 194, 0), [(7, 124), (7, 126), (0, 73), (1, 14)]), ((14, 173, 205, 0), [(7, 188), (7, 190), (0, 76), (1, 14)]), ((14, 186, 203, 0), [(7, 179), (7, 181), (0, 74), (1, 14)]), ((14, 189, 189, 0), [(7, 104), (7, 106), (0, 70), (1, 14)]), ((14, 192, 204, 0), [(7, 183), (7, 185), (0, 75), (1, 14)]), ((14, 200, 206, 0), [(7, 198), (7, 199), (7, 200), (1, 20)]), ((14, 213, 207, 0), [(7, 202), (7, 204), (0, 77), (1, 14)]), ((14, 216, 210, 0), [(7, 214), (7, 216), (0, 80), (1, 14)]), ((14, 222, 208, 0), [(7, 206), (7, 208), (0, 78), (1, 14)]), ((14, 229, 209, 0), [(7, 210), (7, 212), (0, 79), (1, 14)]), ((14, 232, 213, 0), [(7, 226), (7, 228), (0, 82), (1, 14)]), ((14, 235, 211, 0), [(7, 218), (7, 220), (0, 81), (1, 14)]), ((14, 238, 212, 0), [(7, 222), (7, 223), (7, 224), (1, 20)]), ((14, 244, 187, 0), [(7, 77), (7, 79), (0, 69), (1, 14)]), ((14, 250, 188, 3), [(7, 84), (1, 20)]), ((14, 251, 193, 0), [(7, 119), (7, 121), (0, 72), (1, 14)]), ((14, 257, 214, 0), [(7, 230), (7, 232), (0, 83), (1, 14)]), ((14, 261, 215, 0), [(7, 234), (7, 236), (0, 84), (1, 14)]), ((14, 276, 219, 1), [(8, 10), (8, 11), (1, 14)]), ((14, 280, 221, 0), [(8, 17), (8, 19), (0, 85), (1, 14)]), ((14, 283, 222, 0), [(8, 21), (8, 23), (0, 86), (1, 14)]), ((14, 286, 223, 0), [(8, 25), (8, 27), (0, 87), (1, 14)]), ((14, 289, 225, 0), [(8, 33), (8, 35), (0, 88), (1, 14)]), ((14, 293, 232, 1), [(8, 62), (8, 63), (1, 14)]), ((14, 296, 234, 0), [(8, 69), (8, 71), (0, 92), (1, 14)]), ((14, 305, 231, 0), [(8, 58), (8, 60), (0, 90), (1, 14)]), ((14, 307, 233, 0), [(8, 65), (8, 67), (0, 91), (1, 14)]), ((14, 310, 24, 1), [(8, 73), (3, 70), (1, 19)]), ((14, 315, 25, 1), [(8, 74), (3, 73), (1, 19)]), ((14, 318, 230, 0), [(8, 54), (8, 56), (0, 89), (1, 14)]), ((14, 321, 239, 0), [(8, 92), (8, 94), (0, 94), (1, 14)]), ((14, 324, 248, 0), [(8, 128), (8, 130), (0, 102), (1, 14)]), ((14, 327, 247, 0), [(8, 124), (8, 126), (0, 101), (1, 14)]), ((14, 331, 238, 0), [(8, 88), (8, 90), (0, 93), (1, 14)]), ((14, 334, 241, 0), [(8, 100), (8, 102), (0, 95), (1, 14)]), ((14, 337, 242, 0), [(8, 104), (8, 106), (0, 96), (1, 14)]), ((14, 340, 243, 0), [(8, 108), (8, 110), (0, 97), (1, 14)]), ((14, 343, 244, 0), [(8, 112), (8, 114), (0, 98), (1, 14)]), ((14, 346, 245, 0), [(8, 116), (8, 118), (0, 99), (1, 14)]), ((14, 349, 246, 0), [(8, 120), (8, 122), (0, 100), (1, 14)]), ((14, 352, 249, 0), [(8, 132), (8, 134), (0, 103), (1, 14)]), ((14, 358, 252, 0), [(8, 144), (8, 146), (0, 105), (1, 14)]), ((14, 362, 253, 0), [(8, 148), (8, 150), (0, 106), (1, 14)]), ((14, 365, 251, 0), [(8, 140), (8, 142), (0, 104), (1, 14)]), ((14, 368, 258, 0), [(8, 168), (8, 170), (0, 107), (1, 14)]), ((14, 386, 261, 0), [(8, 180), (8, 182), (0, 109), (1, 14)]), ((14, 390, 262, 0), [(8, 184), (8, 186), (0, 110), (1, 14)]), ((14, 393, 260, 0), [(8, 176), (8, 178), (0, 108), (1, 14)]), ((14, 399, 268, 0), [(8, 208), (8, 210), (0, 113), (1, 14)]), ((14, 402, 266, 0), [(8, 200), (8, 202), (0, 111), (1, 14)]), ((14, 405, 267, 0), [(8, 204), (8, 206), (0, 112), (1, 14)]), ((14, 408, 272, 1), [(8, 224), (8, 225), (1, 14)]), ((14, 411, 278, 0), [(9, 7), (9, 9), (0, 115), (1, 14)]), ((14, 415, 277, 0), [(9, 3), (9, 5), (0, 114), (1, 14)]), ((13, 1, 181, 2), [(6, 122), (6, 123), (1, 17)]), ((16, 16, 183, 2), [(6, 128), (6, 129), (1, 15)]), ((20, 16, 182, 2), [(6, 125), (6, 126), (1, 16)]), ((21, 335, 197, 0), [(7, 135), (7, 136), (7, 137), (1, 21)]), ((21, 492, 199, 0), [(7, 145), (7, 146), (7, 147), (1, 21)]), ((21, 495, 200, 1), [(7, 149), (7, 150), (1, 22)]), ((21, 1059, 202, 1), [(7, 157), (7, 158), (1, 23)]), ((22, 9, 201, 1), [(7, 152), (7, 153), (1, 21)])]
def flP : List ((Nat × Nat × Nat × Nat) × (Nat × Nat)) := [((1, 11, 1, 0), (1, 49)), ((1, 15, 1, 1), (1, 50)), ((1, 18, 1, 2), (1, 51)), ((1, 21, 1, 3), (1, 52)), ((4, 63, 1, 3), (1, 53)), ((11, 121, 1, 3), (1, 54)), ((6, 65, 1, 3), (1, 55)), ((0, 66, 1, 3), (1, 56)), ((5, 85, 1, 3), (1, 57)), ((7, 105, 1, 3), (1, 58)), ((3, 95, 1, 3), (1, 59)), ((8, 9, 8, 0), (1, 78)), ((8, 24, 8, 1), (1, 79)), ((8, 28, 8, 2), (1, 80)), ((8, 31, 8, 3), (1, 81)), ((7, 67, 8, 3), (1, 82)), ((8, 34, 8, 4), (1, 83)), ((7, 70, 8, 4), (1, 84)), ((8, 38, 8, 5), (1, 85)), ((7, 133, 8, 5), (1, 86)), ((8, 41, 8, 6), (1, 87)), ((7, 136, 8, 6), (1, 88)), ((7, 41, 7, 0), (1, 105)), ((7, 9, 7, 1), (1, 106)), ((7, 18, 7, 2), (1, 107)), ((11, 115, 7, 2), (1, 108)), ((7, 45, 7, 3), (1, 109)), ((11, 103, 7, 3), (1, 110)), ((7, 49, 7, 4), (1, 111)), ((11, 107, 7, 4), (1, 112)), ((7, 52, 7, 5), (1, 113)), ((7, 111, 7, 6), (1, 114)), ((7, 145, 7, 7), (1, 115)), ((7, 22, 7, 8), (1, 116)), ((7, 26, 7, 9), (1, 117)), ((7, 30, 7, 10), (1, 118)), ((7, 33, 7, 11), (1, 119)), ((7, 114, 7, 12), (1, 120)), ((5, 9, 5, 0), (1, 156)), ((5, 15, 5, 1), (1, 157)), ((5, 18, 5, 2), (1, 158)), ((4, 121, 5, 2), (1, 159)), ((6, 103, 5, 2), (1, 160)), ((3, 62, 5, 2), (1, 161)), ((0, 82, 5, 2), (1, 162)), ((11, 159, 5, 2), (1, 163)), ((5, 21, 5, 3), (1, 164)), ((3, 108, 5, 3), (1, 165)), ((5, 24, 5, 4), (1, 166)), ((0, 58, 5, 4), (1, 167)), ((4, 148, 5, 4), (1, 168)), ((11, 164, 5, 4), (1, 169)), ((5, 27, 5, 5), (1, 170)), ((5, 33, 5, 6), (1, 171)), ((4, 59, 5, 6), (1, 172)), ((11, 111, 5, 6), (1, 173)), ((6, 59, 5, 6), (1, 174)), ((0, 62, 5, 6), (1, 175)), ((3, 91, 5, 6), (1, 176)), ((5, 37, 5, 7), (1, 177)), ((10, 30, 5, 7), (1, 178)), ((2, 43, 5, 7), (1, 179)), ((5, 41, 5, 8), (1, 180)), ((10, 67, 5, 8), (1, 181)), ((2, 48, 5, 8), (1, 182)), ((5, 44, 5, 9), (1, 183)), ((9, 40, 5, 9), (1, 184)), ((0, 48, 5, 9), (1, 185)), ((4, 115, 5, 9), (1, 186)), ((6, 86, 5, 9), (1, 187)), ((3, 58, 5, 9), (1, 188)), ((11, 136, 5, 9), (1, 189)), ((5, 47, 5, 10), (1, 190)), ((3, 69, 5, 10), (1, 191)), ((11, 170, 5, 10), (1, 192)), ((5, 50, 5, 11), (1, 193)), ((11, 173, 5, 11), (1, 194)), ((0, 103, 5, 11), (1, 195)), ((4, 42, 5, 12), (1, 196)), ((5, 53, 5, 12), (1, 197)), ((3, 34, 5, 12), (1, 198)), ((0, 113, 5, 12), (1, 199)), ((11, 305, 5, 12), (1, 200)), ((4, 48, 5, 13), (1, 201)), ((5, 57, 5, 13), (1, 202)), ((3, 40, 5, 13), (1, 203)), ((11, 298, 5, 13), (1, 204)), ((5, 60, 5, 14), (1, 205)), ((5, 63, 5, 15), (1, 206)), ((3, 19, 3, 0), (2, 6)), ((3, 9, 3, 1), (2, 7)), ((6, 34, 3, 1), (2, 8)), ((2, 55, 3, 1), (2, 9)), ((0, 97, 3, 1), (2, 10)), ((11, 181, 3, 1), (2, 11)), ((3, 15, 3, 2), (2, 12)), ((0, 38, 3, 2), (2, 13)), ((6, 125, 3, 2), (2, 14)), ((11, 242, 3, 2), (2, 15)), ((3, 75, 3, 3), (2, 16)), ((11, 200, 3, 3), (2, 17)), ((0, 9, 0, 0), (2, 33)), ((0, 15, 0, 1), (2, 34)), ((6, 15, 6, 0), (2, 46)), ((6, 19, 6, 1), (2, 47)), ((6, 23, 6, 2), (2, 48)), ((6, 9, 6, 3), (2, 49)), ((6, 53, 6, 4), (2, 50)), ((6, 56, 6, 5), (2, 51)), ((6, 80, 6, 6), (2, 52)), ((6, 83, 6, 7), (2, 53)), ((6, 39, 6, 8), (2, 54)), ((6, 43, 6, 9), (2, 55)), ((6, 50, 6, 10), (2, 56)), ((4, 34, 4, 0), (2, 86)), ((4, 38, 4, 1), (2, 87)), ((4, 11, 4, 2), (2, 88)), ((4, 15, 4, 3), (2, 89)), ((4, 18, 4, 4), (2, 90)), ((4, 21, 4, 5), (2, 91)), ((4, 25, 4, 6), (2, 92)), ((4, 28, 4, 7), (2, 93)), ((4, 31, 4, 8), (2, 94)), ((4, 108, 4, 9), (2, 95)), ((4, 82, 4, 10), (2, 96)), ((4, 69, 4, 11), (2, 97)), ((4, 73, 4, 12), (2, 98)), ((4, 135, 4, 13), (2, 99)), ((4, 151, 4, 14), (2, 100)), ((4, 154, 4, 15), (2, 101)), ((11, 239, 4, 15), (2, 102)), ((10, 18, 10, 0), (2, 142)), ((10, 11, 10, 1), (2, 143)), ((10, 15, 10, 2), (2, 144)), ((10, 22, 10, 3), (2, 145)), ((11, 250, 10, 3), (2, 146)), ((10, 26, 10, 4), (2, 147)), ((9, 16, 9, 0), (2, 165)), ((9, 9, 9, 1), (2, 166)), ((9, 13, 9, 2), (2, 167)), ((9, 20, 9, 3), (2, 168)), ((9, 24, 9, 4), (2, 169)), ((9, 73, 9, 5), (2, 170)), ((11, 278, 9, 5), (2, 171)), ((9, 76, 9, 6), (2, 172)), ((9, 47, 9, 7), (2, 173)), ((11, 272, 9, 7), (2, 174)), ((2, 21, 2, 0), (2, 198)), ((2, 25, 2, 1), (2, 199)), ((2, 11, 2, 2), (2, 200)), ((2, 15, 2, 3), (2, 201)), ((2, 18, 2, 4), (2, 202)), ((2, 29, 2, 5), (2, 203)), ((11, 292, 2, 5), (2, 204)), ((11, 9, 11, 0), (2, 232)), ((11, 18, 11, 1), (2, 233)), ((11, 25, 11, 2), (2, 234)), ((11, 34, 11, 3), (2, 235)), ((11, 43, 11, 4), (2, 236)), ((11, 52, 11, 5), (2, 237)), ((11, 59, 11, 6), (2, 238)), ((11, 66, 11, 7), (2, 239)), ((11, 73, 11, 8), (3, 0)), ((11, 80, 11, 9), (3, 1)), ((11, 87, 11, 10), (3, 2)), ((11, 106, 11, 11), (3, 3)), ((11, 110, 11, 12), (3, 4)), ((11, 203, 11, 13), (3, 5)), ((11, 275, 11, 14), (3, 6)), ((11, 129, 11, 15), (3, 7)), ((23, 198, 13, 4), (6, 55)), ((23, 31, 13, 3), (6, 88)), ((23, 7, 13, 0), (6, 89)), ((23, 17, 13, 1), (6, 90)), ((23, 24, 13, 2), (6, 91)), ((14, 104, 14, 0), (6, 139)), ((14, 107, 14, 1), (6, 140)), ((14, 9, 14, 2), (6, 141)), ((14, 247, 14, 3), (6, 142)), ((14, 254, 14, 4), (6, 143)), ((14, 196, 14, 5), (6, 144)), ((14, 16, 14, 6), (6, 145)), ((14, 20, 14, 7), (6, 146)), ((14, 241, 14, 8), (6, 147)), ((14, 120, 14, 9), (6, 148)), ((14, 135, 14, 10), (6, 149)), ((14, 142, 14, 11), (6, 150)), ((14, 116, 14, 12), (6, 151)), ((14, 145, 14, 13), (6, 152)), ((14, 159, 14, 14), (6, 153)), ((14, 152, 14, 15), (6, 154)), ((14, 24, 14, 16), (6, 155)), ((14, 28, 14, 17), (6, 156)), ((14, 31, 14, 18), (6, 157)), ((14, 34, 14, 19), (6, 158)), ((14, 219, 14, 20), (6, 159)), ((14, 226, 14, 21), (6, 160)), ((14, 264, 14, 22), (6, 161)), ((14, 267, 14, 23), (6, 162)), ((14, 270, 14, 24), (6, 163)), ((14, 38, 14, 25), (6, 164)), ((14, 41, 14, 26), (6, 165)), ((14, 273, 14, 27), (6, 166)), ((14, 44, 14, 28), (6, 167)), ((14, 47, 14, 29), (6, 168)), ((14, 50, 14, 30), (6, 169)), ((14, 53, 14, 31), (6, 170)), ((14, 56, 14, 32), (6, 171)), ((14, 59, 14, 33), (6, 172)), ((14, 62, 14, 34), (6, 173)), ((14, 65, 14, 35), (6, 174)), ((14, 68, 14, 36), (6, 175)), ((14, 71, 14, 37), (6, 176)), ((14, 74, 14, 38), (6, 177)), ((14, 77, 14, 39), (6, 178)), ((14, 80, 14, 40), (6, 179)), ((14, 83, 14, 41), (6, 180)), ((14, 355, 14, 42), (6, 181)), ((14, 371, 14, 43), (6, 182)), ((14, 374, 14, 44), (6, 183)), ((14, 377, 14, 45), (6, 184)), ((14, 380, 14, 46), (6, 185)), ((14, 383, 14, 47), (6, 186)), ((14, 86, 14, 48), (6, 187)), ((14, 89, 14, 49), (6, 188)), ((14, 396, 14, 50), (6, 189)), ((14, 92, 14, 51), (6, 190)), ((14, 95, 14, 52), (6, 191)), ((14, 98, 14, 53), (6, 192)), ((14, 101, 14, 54), (6, 193)), ((12, 22, 12, 0), (7, 87)), ((12, 9, 12, 1), (7, 89)), ((12, 15, 12, 2), (7, 91)), ((12, 19, 12, 3), (7, 93))]
def clP : List ((Nat × Nat × Nat) × (Nat × Nat)) := [((15, 8, 11), (1, 29)), ((11, 13, 7), (1, 37)), ((7, 15, 1), (1, 43)), ((7, 36, 8), (1, 72)), ((11, 22, 5), (1, 148)), ((5, 30, 1), (1, 154)), ((11, 29, 3), (2, 0)), ((11, 38, 0), (2, 27)), ((11, 47, 6), (2, 40)), ((11, 56, 4), (2, 80)), ((11, 63, 10), (2, 136)), ((11, 70, 9), (2, 159)), ((11, 77, 2), (2, 192)), ((15, 16, 14), (6, 104)), ((14, 13, 13), (6, 110)), ((14, 201, 12), (7, 81))]
def ciP : List ((Nat × Nat × Nat) × (Nat × Nat)) := [((11, 163, 0), (4, 48)), ((11, 176, 1), (4, 58)), ((4, 124, 2), (5, 82)), ((17, 265, 3), (5, 187)), ((17, 266, 4), (5, 188)), ((17, 267, 5), (5, 189)), ((14, 292, 6), (8, 45)), ((14, 112, 7), (8, 75))]
def cjP : List ((Nat × Nat × Nat) × (Nat × Nat)) := [((7, 74, 0), (3, 100)), ((7, 83, 1), (3, 113)), ((7, 121, 2), (3, 117)), ((7, 123, 3), (3, 118)), ((7, 125, 4), (3, 119)), ((7, 127, 5), (3, 120)), ((7, 129, 6), (3, 121)), ((7, 131, 7), (3, 122)), ((5, 75, 8), (3, 201)), ((3, 32, 9), (4, 71)), ((0, 117, 10), (4, 152)), ((18, 314, 11), (4, 160)), ((18, 316, 12), (4, 161)), ((18, 318, 13), (4, 162)), ((4, 51, 14), (5, 64)), ((9, 62, 15), (5, 182)), ((11, 311, 16), (6, 21)), ((14, 129, 17), (7, 115))]
theorem mlP_eq : mlP.map (fun q => q.1) = mlL.map (fun q => (q.1, q.2.1, q.2.2.1, q.2.2.2.1)) := by decide +kernel
theorem flP_eq : flP.map (fun q => q.1) = flL.map (fun q => (q.1, q.2.1, q.2.2.1, q.2.2.2.1)) := by decide +kernel
theorem clP_eq : clP.map (fun q => q.1) = clL.map (fun q => (q.1, q.2.1, q.2.2.1)) := by decide +kernel
theorem ciP_eq : ciP.map (fun q => q.1) = ciL.map (fun q => (q.1, q.2.1, q.2.2.1)) := by decide +kernel
theorem cjP_eq : cjP.map (fun q => q.1) = cjL.map (fun q => (q.1, q.2.1, q.2.2.1)) := by decide +kernel
end
section
theorem lkm_0 : ((mlP.drop 0).take 30).all mlB = true := by decide +kernel
theorem lkm_30 : ((mlP.drop 30).take 30).all mlB = true := by decide +kernel
theorem lkm_60 : ((mlP.drop 60).take 30).all mlB = true := by decide +kernel
theorem lkm_90 : ((mlP.drop 90).take 30).all mlB = true := by decide +kernel
theorem lkm_120 : ((mlP.drop 120).take 30).all mlB = true := by decide +kernel
theorem lkm_150 : ((mlP.drop 150).take 30).all mlB = true := by decide +kernel
theorem lkm_180 : ((mlP.drop 180).take 30).all mlB = true := by decide +kernel
theorem lkm_210 : ((mlP.drop 210).take 30).all mlB = true := by decide +kernel
theorem lkm_240 : ((mlP.drop 240).take 30).all mlB = true := by decide +kernel
theorem lkm_270 : ((mlP.drop 270).take 30).all mlB = true := by decide +kernel
theorem lkm_300 : ((mlP.drop 300).take 30).all mlB = true := by decide +kernel
theorem lkm_330 : (mlP.drop 330).all mlB = true := by decide +kernel
theorem lkm_all : mlP.all mlB = true := all_dr 0 30 lkm_0 (all_dr 30 30 lkm_30 (all_dr 60 30 lkm_60 (all_dr 90 30 lkm_90 (all_dr 120 30 lkm_120 (all_dr 150 30 lkm_150 (all_dr 180 30 lkm_180 (all_dr 210 30 lkm_210 (all_dr 240 30 lkm_240 (all_dr 270 30 lkm_270 (all_dr 300 30 lkm_300 (lkm_330)))))))))))
theorem lkf_0 : ((flP.drop 0).take 40).all flB = true := by decide +kernel
theorem lkf_40 : ((flP.drop 40).take 40).all flB = true := by decide +kernel
theorem lkf_80 : ((flP.drop 80).take 40).all flB = true := by decide +kernel
theorem lkf_120 : ((flP.drop 120).take 40).all flB = true := by decide +kernel
theorem lkf_160 : ((flP.drop 160).take 40).all flB = true := by decide +kernel
theorem lkf_200 : (flP.drop 200).all flB = true := by decide +kernel
theorem lkf_all : flP.all flB = true := all_dr 0 40 lkf_0 (all_dr 40 40 lkf_40 (all_dr 80 40 lkf_80 (all_dr 120 40 lkf_120 (all_dr 160 40 lkf_160 (lkf_200)))))
theorem lkc_all : clP.all clB = true := by decide +kernel
theorem lki_all : ciP.all ciB = true := by decide +kernel
theorem lkj_all : cjP.all cjB = true := by decide +kernel
end
section
set_option maxRecDepth 100000 in
theorem cw_1 : atP (1, 33) = some (cdW 1) := rfl
set_option maxRecDepth 100000 in
theorem cw_2 : atP (1, 41) = some (cdW 2) := rfl
set_option maxRecDepth 100000 in
theorem cw_3 : atP (1, 47) = some (cdW 3) := rfl
set_option maxRecDepth 100000 in
theorem cw_4 : atP (1, 76) = some (cdW 4) := rfl
set_option maxRecDepth 100000 in
theorem cw_5 : atP (1, 152) = some (cdW 5) := rfl
set_option maxRecDepth 100000 in
theorem cw_6 : atP (2, 4) = some (cdW 6) := rfl
set_option maxRecDepth 100000 in
theorem cw_7 : atP (2, 31) = some (cdW 7) := rfl
set_option maxRecDepth 100000 in
theorem cw_8 : atP (2, 44) = some (cdW 8) := rfl
set_option maxRecDepth 100000 in
theorem cw_9 : atP (2, 84) = some (cdW 9) := rfl
set_option maxRecDepth 100000 in
theorem cw_10 : atP (2, 140) = some (cdW 10) := rfl
set_option maxRecDepth 100000 in
theorem cw_11 : atP (2, 163) = some (cdW 11) := rfl
set_option maxRecDepth 100000 in
theorem cw_12 : atP (2, 196) = some (cdW 12) := rfl
set_option maxRecDepth 100000 in
theorem cw_13 : atP (2, 221) = some (cdW 13) := rfl
set_option maxRecDepth 100000 in
theorem cw_14 : atP (2, 225) = some (cdW 14) := rfl
set_option maxRecDepth 100000 in
theorem cw_15 : atP (2, 228) = some (cdW 15) := rfl
set_option maxRecDepth 100000 in
theorem cw_16 : atP (2, 231) = some (cdW 16) := rfl
set_option maxRecDepth 100000 in
theorem cw_17 : atP (3, 44) = some (cdW 17) := rfl
set_option maxRecDepth 100000 in
theorem cw_18 : atP (3, 48) = some (cdW 18) := rfl
set_option maxRecDepth 100000 in
theorem cw_19 : atP (3, 52) = some (cdW 19) := rfl
set_option maxRecDepth 100000 in
theorem cw_20 : atP (3, 56) = some (cdW 20) := rfl
set_option maxRecDepth 100000 in
theorem cw_21 : atP (3, 60) = some (cdW 21) := rfl
set_option maxRecDepth 100000 in
theorem cw_22 : atP (3, 64) = some (cdW 22) := rfl
set_option maxRecDepth 100000 in
theorem cw_23 : atP (3, 68) = some (cdW 23) := rfl
set_option maxRecDepth 100000 in
theorem cw_24 : atP (3, 71) = some (cdW 24) := rfl
set_option maxRecDepth 100000 in
theorem cw_25 : atP (3, 74) = some (cdW 25) := rfl
set_option maxRecDepth 100000 in
theorem cw_26 : atP (3, 78) = some (cdW 26) := rfl
set_option maxRecDepth 100000 in
theorem cw_27 : atP (3, 81) = some (cdW 27) := rfl
set_option maxRecDepth 100000 in
theorem cw_28 : atP (3, 85) = some (cdW 28) := rfl
set_option maxRecDepth 100000 in
theorem cw_29 : atP (3, 88) = some (cdW 29) := rfl
set_option maxRecDepth 100000 in
theorem cw_30 : atP (3, 92) = some (cdW 30) := rfl
set_option maxRecDepth 100000 in
theorem cw_31 : atP (3, 95) = some (cdW 31) := rfl
set_option maxRecDepth 100000 in
theorem cw_32 : atP (3, 99) = some (cdW 32) := rfl
set_option maxRecDepth 100000 in
theorem cw_33 : atP (3, 104) = some (cdW 33) := rfl
set_option maxRecDepth 100000 in
theorem cw_34 : atP (3, 108) = some (cdW 34) := rfl
set_option maxRecDepth 100000 in
theorem cw_35 : atP (3, 112) = some (cdW 35) := rfl
set_option maxRecDepth 100000 in
theorem cw_36 : atP (3, 116) = some (cdW 36) := rfl
set_option maxRecDepth 100000 in
theorem cw_37 : atP (3, 126) = some (cdW 37) := rfl
set_option maxRecDepth 100000 in
theorem cw_38 : atP (3, 130) = some (cdW 38) := rfl
set_option maxRecDepth 100000 in
theorem cw_39 : atP (3, 134) = some (cdW 39) := rfl
set_option maxRecDepth 100000 in
theorem cw_40 : atP (3, 138) = some (cdW 40) := rfl
set_option maxRecDepth 100000 in
theorem cw_41 : atP (3, 142) = some (cdW 41) := rfl
set_option maxRecDepth 100000 in
theorem cw_42 : atP (3, 146) = some (cdW 42) := rfl
set_option maxRecDepth 100000 in
theorem cw_43 : atP (3, 150) = some (cdW 43) := rfl
set_option maxRecDepth 100000 in
theorem cw_44 : atP (3, 154) = some (cdW 44) := rfl
set_option maxRecDepth 100000 in
theorem cw_45 : atP (3, 158) = some (cdW 45) := rfl
set_option maxRecDepth 100000 in
theorem cw_46 : atP (3, 162) = some (cdW 46) := rfl
set_option maxRecDepth 100000 in
theorem cw_47 : atP (3, 166) = some (cdW 47) := rfl
set_option maxRecDepth 100000 in
theorem cw_48 : atP (3, 170) = some (cdW 48) := rfl
set_option maxRecDepth 100000 in
theorem cw_49 : atP (3, 174) = some (cdW 49) := rfl
set_option maxRecDepth 100000 in
theorem cw_50 : atP (3, 178) = some (cdW 50) := rfl
set_option maxRecDepth 100000 in
theorem cw_51 : atP (3, 183) = some (cdW 51) := rfl
set_option maxRecDepth 100000 in
theorem cw_52 : atP (3, 187) = some (cdW 52) := rfl
set_option maxRecDepth 100000 in
theorem cw_53 : atP (3, 191) = some (cdW 53) := rfl
set_option maxRecDepth 100000 in
theorem cw_54 : atP (3, 195) = some (cdW 54) := rfl
set_option maxRecDepth 100000 in
theorem cw_55 : atP (3, 199) = some (cdW 55) := rfl
set_option maxRecDepth 100000 in
theorem cw_56 : atP (3, 205) = some (cdW 56) := rfl
set_option maxRecDepth 100000 in
theorem cw_57 : atP (3, 209) = some (cdW 57) := rfl
set_option maxRecDepth 100000 in
theorem cw_58 : atP (3, 213) = some (cdW 58) := rfl
set_option maxRecDepth 100000 in
theorem cw_59 : atP (3, 217) = some (cdW 59) := rfl
set_option maxRecDepth 100000 in
theorem cw_60 : atP (3, 221) = some (cdW 60) := rfl
set_option maxRecDepth 100000 in
theorem cw_61 : atP (3, 225) = some (cdW 61) := rfl
set_option maxRecDepth 100000 in
theorem cw_62 : atP (3, 228) = some (cdW 62) := rfl
set_option maxRecDepth 100000 in
theorem cw_63 : atP (3, 232) = some (cdW 63) := rfl
set_option maxRecDepth 100000 in
theorem cw_64 : atP (3, 235) = some (cdW 64) := rfl
set_option maxRecDepth 100000 in
theorem cw_65 : atP (3, 238) = some (cdW 65) := rfl
set_option maxRecDepth 100000 in
theorem cw_66 : atP (4, 3) = some (cdW 66) := rfl
set_option maxRecDepth 100000 in
theorem cw_67 : atP (4, 7) = some (cdW 67) := rfl
set_option maxRecDepth 100000 in
theorem cw_68 : atP (4, 11) = some (cdW 68) := rfl
set_option maxRecDepth 100000 in
theorem cw_69 : atP (4, 15) = some (cdW 69) := rfl
set_option maxRecDepth 100000 in
theorem cw_70 : atP (4, 19) = some (cdW 70) := rfl
set_option maxRecDepth 100000 in
theorem cw_71 : atP (4, 23) = some (cdW 71) := rfl
set_option maxRecDepth 100000 in
theorem cw_72 : atP (4, 27) = some (cdW 72) := rfl
set_option maxRecDepth 100000 in
theorem cw_73 : atP (4, 31) = some (cdW 73) := rfl
set_option maxRecDepth 100000 in
theorem cw_74 : atP (4, 35) = some (cdW 74) := rfl
set_option maxRecDepth 100000 in
theorem cw_75 : atP (4, 39) = some (cdW 75) := rfl
set_option maxRecDepth 100000 in
theorem cw_76 : atP (4, 43) = some (cdW 76) := rfl
set_option maxRecDepth 100000 in
theorem cw_77 : atP (4, 47) = some (cdW 77) := rfl
set_option maxRecDepth 100000 in
theorem cw_78 : atP (4, 52) = some (cdW 78) := rfl
set_option maxRecDepth 100000 in
theorem cw_79 : atP (4, 57) = some (cdW 79) := rfl
set_option maxRecDepth 100000 in
theorem cw_80 : atP (4, 62) = some (cdW 80) := rfl
set_option maxRecDepth 100000 in
theorem cw_81 : atP (4, 66) = some (cdW 81) := rfl
set_option maxRecDepth 100000 in
theorem cw_82 : atP (4, 70) = some (cdW 82) := rfl
set_option maxRecDepth 100000 in
theorem cw_83 : atP (4, 75) = some (cdW 83) := rfl
set_option maxRecDepth 100000 in
theorem cw_84 : atP (4, 79) = some (cdW 84) := rfl
set_option maxRecDepth 100000 in
theorem cw_85 : atP (4, 83) = some (cdW 85) := rfl
set_option maxRecDepth 100000 in
theorem cw_86 : atP (4, 87) = some (cdW 86) := rfl
set_option maxRecDepth 100000 in
theorem cw_87 : atP (4, 92) = some (cdW 87) := rfl
set_option maxRecDepth 100000 in
theorem cw_88 : atP (4, 96) = some (cdW 88) := rfl
set_option maxRecDepth 100000 in
theorem cw_89 : atP (4, 100) = some (cdW 89) := rfl
set_option maxRecDepth 100000 in
theorem cw_90 : atP (4, 104) = some (cdW 90) := rfl
set_option maxRecDepth 100000 in
theorem cw_91 : atP (4, 109) = some (cdW 91) := rfl
set_option maxRecDepth 100000 in
theorem cw_92 : atP (4, 113) = some (cdW 92) := rfl
set_option maxRecDepth 100000 in
theorem cw_93 : atP (4, 117) = some (cdW 93) := rfl
set_option maxRecDepth 100000 in
theorem cw_94 : atP (4, 121) = some (cdW 94) := rfl
set_option maxRecDepth 100000 in
theorem cw_95 : atP (4, 125) = some (cdW 95) := rfl
set_option maxRecDepth 100000 in
theorem cw_96 : atP (4, 130) = some (cdW 96) := rfl
set_option maxRecDepth 100000 in
theorem cw_97 : atP (4, 134) = some (cdW 97) := rfl
set_option maxRecDepth 100000 in
theorem cw_98 : atP (4, 138) = some (cdW 98) := rfl
set_option maxRecDepth 100000 in
theorem cw_99 : atP (4, 142) = some (cdW 99) := rfl
set_option maxRecDepth 100000 in
theorem cw_100 : atP (4, 147) = some (cdW 100) := rfl
set_option maxRecDepth 100000 in
theorem cw_101 : atP (4, 151) = some (cdW 101) := rfl
set_option maxRecDepth 100000 in
theorem cw_102 : atP (4, 156) = some (cdW 102) := rfl
set_option maxRecDepth 100000 in
theorem cw_103 : atP (4, 159) = some (cdW 103) := rfl
set_option maxRecDepth 100000 in
theorem cw_104 : atP (4, 166) = some (cdW 104) := rfl
set_option maxRecDepth 100000 in
theorem cw_105 : atP (4, 170) = some (cdW 105) := rfl
set_option maxRecDepth 100000 in
theorem cw_106 : atP (4, 174) = some (cdW 106) := rfl
set_option maxRecDepth 100000 in
theorem cw_107 : atP (4, 178) = some (cdW 107) := rfl
set_option maxRecDepth 100000 in
theorem cw_108 : atP (4, 182) = some (cdW 108) := rfl
set_option maxRecDepth 100000 in
theorem cw_109 : atP (4, 186) = some (cdW 109) := rfl
set_option maxRecDepth 100000 in
theorem cw_110 : atP (4, 190) = some (cdW 110) := rfl
set_option maxRecDepth 100000 in
theorem cw_111 : atP (4, 194) = some (cdW 111) := rfl
set_option maxRecDepth 100000 in
theorem cw_112 : atP (4, 198) = some (cdW 112) := rfl
set_option maxRecDepth 100000 in
theorem cw_113 : atP (4, 202) = some (cdW 113) := rfl
set_option maxRecDepth 100000 in
theorem cw_114 : atP (4, 207) = some (cdW 114) := rfl
set_option maxRecDepth 100000 in
theorem cw_115 : atP (4, 212) = some (cdW 115) := rfl
set_option maxRecDepth 100000 in
theorem cw_116 : atP (4, 216) = some (cdW 116) := rfl
set_option maxRecDepth 100000 in
theorem cw_117 : atP (4, 221) = some (cdW 117) := rfl
set_option maxRecDepth 100000 in
theorem cw_118 : atP (4, 226) = some (cdW 118) := rfl
set_option maxRecDepth 100000 in
theorem cw_119 : atP (4, 231) = some (cdW 119) := rfl
set_option maxRecDepth 100000 in
theorem cw_120 : atP (4, 239) = some (cdW 120) := rfl
set_option maxRecDepth 100000 in
theorem cw_121 : atP (5, 3) = some (cdW 121) := rfl
set_option maxRecDepth 100000 in
theorem cw_122 : atP (5, 7) = some (cdW 122) := rfl
set_option maxRecDepth 100000 in
theorem cw_123 : atP (5, 13) = some (cdW 123) := rfl
set_option maxRecDepth 100000 in
theorem cw_124 : atP (5, 18) = some (cdW 124) := rfl
set_option maxRecDepth 100000 in
theorem cw_125 : atP (5, 23) = some (cdW 125) := rfl
set_option maxRecDepth 100000 in
theorem cw_126 : atP (5, 27) = some (cdW 126) := rfl
set_option maxRecDepth 100000 in
theorem cw_127 : atP (5, 31) = some (cdW 127) := rfl
set_option maxRecDepth 100000 in
theorem cw_128 : atP (5, 35) = some (cdW 128) := rfl
set_option maxRecDepth 100000 in
theorem cw_129 : atP (5, 41) = some (cdW 129) := rfl
set_option maxRecDepth 100000 in
theorem cw_130 : atP (5, 45) = some (cdW 130) := rfl
set_option maxRecDepth 100000 in
theorem cw_131 : atP (5, 49) = some (cdW 131) := rfl
set_option maxRecDepth 100000 in
theorem cw_132 : atP (5, 54) = some (cdW 132) := rfl
set_option maxRecDepth 100000 in
theorem cw_133 : atP (5, 59) = some (cdW 133) := rfl
set_option maxRecDepth 100000 in
theorem cw_134 : atP (5, 63) = some (cdW 134) := rfl
set_option maxRecDepth 100000 in
theorem cw_135 : atP (5, 69) = some (cdW 135) := rfl
set_option maxRecDepth 100000 in
theorem cw_136 : atP (5, 76) = some (cdW 136) := rfl
set_option maxRecDepth 100000 in
theorem cw_137 : atP (5, 81) = some (cdW 137) := rfl
set_option maxRecDepth 100000 in
theorem cw_138 : atP (5, 86) = some (cdW 138) := rfl
set_option maxRecDepth 100000 in
theorem cw_139 : atP (5, 92) = some (cdW 139) := rfl
set_option maxRecDepth 100000 in
theorem cw_140 : atP (5, 96) = some (cdW 140) := rfl
set_option maxRecDepth 100000 in
theorem cw_141 : atP (5, 100) = some (cdW 141) := rfl
set_option maxRecDepth 100000 in
theorem cw_142 : atP (5, 104) = some (cdW 142) := rfl
set_option maxRecDepth 100000 in
theorem cw_143 : atP (5, 108) = some (cdW 143) := rfl
set_option maxRecDepth 100000 in
theorem cw_144 : atP (5, 112) = some (cdW 144) := rfl
set_option maxRecDepth 100000 in
theorem cw_145 : atP (5, 120) = some (cdW 145) := rfl
set_option maxRecDepth 100000 in
theorem cw_146 : atP (5, 126) = some (cdW 146) := rfl
set_option maxRecDepth 100000 in
theorem cw_147 : atP (5, 130) = some (cdW 147) := rfl
set_option maxRecDepth 100000 in
theorem cw_148 : atP (5, 136) = some (cdW 148) := rfl
set_option maxRecDepth 100000 in
theorem cw_149 : atP (5, 144) = some (cdW 149) := rfl
set_option maxRecDepth 100000 in
theorem cw_150 : atP (5, 152) = some (cdW 150) := rfl
set_option maxRecDepth 100000 in
theorem cw_151 : atP (5, 156) = some (cdW 151) := rfl
set_option maxRecDepth 100000 in
theorem cw_152 : atP (5, 160) = some (cdW 152) := rfl
set_option maxRecDepth 100000 in
theorem cw_153 : atP (5, 164) = some (cdW 153) := rfl
set_option maxRecDepth 100000 in
theorem cw_154 : atP (5, 168) = some (cdW 154) := rfl
set_option maxRecDepth 100000 in
theorem cw_155 : atP (5, 175) = some (cdW 155) := rfl
set_option maxRecDepth 100000 in
theorem cw_156 : atP (5, 181) = some (cdW 156) := rfl
set_option maxRecDepth 100000 in
theorem cw_157 : atP (5, 186) = some (cdW 157) := rfl
set_option maxRecDepth 100000 in
theorem cw_158 : atP (5, 193) = some (cdW 158) := rfl
set_option maxRecDepth 100000 in
theorem cw_159 : atP (5, 197) = some (cdW 159) := rfl
set_option maxRecDepth 100000 in
theorem cw_160 : atP (5, 201) = some (cdW 160) := rfl
set_option maxRecDepth 100000 in
theorem cw_161 : atP (5, 205) = some (cdW 161) := rfl
set_option maxRecDepth 100000 in
theorem cw_162 : atP (5, 209) = some (cdW 162) := rfl
set_option maxRecDepth 100000 in
theorem cw_163 : atP (5, 213) = some (cdW 163) := rfl
set_option maxRecDepth 100000 in
theorem cw_164 : atP (5, 217) = some (cdW 164) := rfl
set_option maxRecDepth 100000 in
theorem cw_165 : atP (5, 221) = some (cdW 165) := rfl
set_option maxRecDepth 100000 in
theorem cw_166 : atP (5, 225) = some (cdW 166) := rfl
set_option maxRecDepth 100000 in
theorem cw_167 : atP (5, 229) = some (cdW 167) := rfl
set_option maxRecDepth 100000 in
theorem cw_168 : atP (5, 233) = some (cdW 168) := rfl
set_option maxRecDepth 100000 in
theorem cw_169 : atP (5, 237) = some (cdW 169) := rfl
set_option maxRecDepth 100000 in
theorem cw_170 : atP (6, 1) = some (cdW 170) := rfl
set_option maxRecDepth 100000 in
theorem cw_171 : atP (6, 7) = some (cdW 171) := rfl
set_option maxRecDepth 100000 in
theorem cw_172 : atP (6, 11) = some (cdW 172) := rfl
set_option maxRecDepth 100000 in
theorem cw_173 : atP (6, 15) = some (cdW 173) := rfl
set_option maxRecDepth 100000 in
theorem cw_174 : atP (6, 19) = some (cdW 174) := rfl
set_option maxRecDepth 100000 in
theorem cw_175 : atP (6, 25) = some (cdW 175) := rfl
set_option maxRecDepth 100000 in
theorem cw_176 : atP (6, 28) = some (cdW 176) := rfl
set_option maxRecDepth 100000 in
theorem cw_177 : atP (6, 33) = some (cdW 177) := rfl
set_option maxRecDepth 100000 in
theorem cw_178 : atP (6, 103) = some (cdW 178) := rfl
set_option maxRecDepth 100000 in
theorem cw_179 : atP (6, 108) = some (cdW 179) := rfl
set_option maxRecDepth 100000 in
theorem cw_180 : atP (6, 121) = some (cdW 180) := rfl
set_option maxRecDepth 100000 in
theorem cw_181 : atP (6, 124) = some (cdW 181) := rfl
set_option maxRecDepth 100000 in
theorem cw_182 : atP (6, 127) = some (cdW 182) := rfl
set_option maxRecDepth 100000 in
theorem cw_183 : atP (6, 130) = some (cdW 183) := rfl
set_option maxRecDepth 100000 in
theorem cw_184 : atP (7, 68) = some (cdW 184) := rfl
set_option maxRecDepth 100000 in
theorem cw_185 : atP (7, 72) = some (cdW 185) := rfl
set_option maxRecDepth 100000 in
theorem cw_186 : atP (7, 76) = some (cdW 186) := rfl
set_option maxRecDepth 100000 in
theorem cw_187 : atP (7, 80) = some (cdW 187) := rfl
set_option maxRecDepth 100000 in
theorem cw_188 : atP (7, 85) = some (cdW 188) := rfl
set_option maxRecDepth 100000 in
theorem cw_189 : atP (7, 107) = some (cdW 189) := rfl
set_option maxRecDepth 100000 in
theorem cw_190 : atP (7, 111) = some (cdW 190) := rfl
set_option maxRecDepth 100000 in
theorem cw_191 : atP (7, 114) = some (cdW 191) := rfl
set_option maxRecDepth 100000 in
theorem cw_192 : atP (7, 118) = some (cdW 192) := rfl
set_option maxRecDepth 100000 in
theorem cw_193 : atP (7, 122) = some (cdW 193) := rfl
set_option maxRecDepth 100000 in
theorem cw_194 : atP (7, 127) = some (cdW 194) := rfl
set_option maxRecDepth 100000 in
theorem cw_195 : atP (7, 130) = some (cdW 195) := rfl
set_option maxRecDepth 100000 in
theorem cw_196 : atP (7, 134) = some (cdW 196) := rfl
set_option maxRecDepth 100000 in
theorem cw_197 : atP (7, 138) = some (cdW 197) := rfl
set_option maxRecDepth 100000 in
theorem cw_198 : atP (7, 144) = some (cdW 198) := rfl
set_option maxRecDepth 100000 in
theorem cw_199 : atP (7, 148) = some (cdW 199) := rfl
set_option maxRecDepth 100000 in
theorem cw_200 : atP (7, 151) = some (cdW 200) := rfl
set_option maxRecDepth 100000 in
theorem cw_201 : atP (7, 154) = some (cdW 201) := rfl
set_option maxRecDepth 100000 in
theorem cw_202 : atP (7, 159) = some (cdW 202) := rfl
set_option maxRecDepth 100000 in
theorem cw_203 : atP (7, 182) = some (cdW 203) := rfl
set_option maxRecDepth 100000 in
theorem cw_204 : atP (7, 186) = some (cdW 204) := rfl
set_option maxRecDepth 100000 in
theorem cw_205 : atP (7, 191) = some (cdW 205) := rfl
set_option maxRecDepth 100000 in
theorem cw_206 : atP (7, 201) = some (cdW 206) := rfl
set_option maxRecDepth 100000 in
theorem cw_207 : atP (7, 205) = some (cdW 207) := rfl
set_option maxRecDepth 100000 in
theorem cw_208 : atP (7, 209) = some (cdW 208) := rfl
set_option maxRecDepth 100000 in
theorem cw_209 : atP (7, 213) = some (cdW 209) := rfl
set_option maxRecDepth 100000 in
theorem cw_210 : atP (7, 217) = some (cdW 210) := rfl
set_option maxRecDepth 100000 in
theorem cw_211 : atP (7, 221) = some (cdW 211) := rfl
set_option maxRecDepth 100000 in
theorem cw_212 : atP (7, 225) = some (cdW 212) := rfl
set_option maxRecDepth 100000 in
theorem cw_213 : atP (7, 229) = some (cdW 213) := rfl
set_option maxRecDepth 100000 in
theorem cw_214 : atP (7, 233) = some (cdW 214) := rfl
set_option maxRecDepth 100000 in
theorem cw_215 : atP (7, 237) = some (cdW 215) := rfl
set_option maxRecDepth 100000 in
theorem cw_216 : atP (8, 1) = some (cdW 216) := rfl
set_option maxRecDepth 100000 in
theorem cw_217 : atP (8, 5) = some (cdW 217) := rfl
set_option maxRecDepth 100000 in
theorem cw_218 : atP (8, 9) = some (cdW 218) := rfl
set_option maxRecDepth 100000 in
theorem cw_219 : atP (8, 12) = some (cdW 219) := rfl
set_option maxRecDepth 100000 in
theorem cw_220 : atP (8, 16) = some (cdW 220) := rfl
set_option maxRecDepth 100000 in
theorem cw_221 : atP (8, 20) = some (cdW 221) := rfl
set_option maxRecDepth 100000 in
theorem cw_222 : atP (8, 24) = some (cdW 222) := rfl
set_option maxRecDepth 100000 in
theorem cw_223 : atP (8, 28) = some (cdW 223) := rfl
set_option maxRecDepth 100000 in
theorem cw_224 : atP (8, 32) = some (cdW 224) := rfl
set_option maxRecDepth 100000 in
theorem cw_225 : atP (8, 36) = some (cdW 225) := rfl
set_option maxRecDepth 100000 in
theorem cw_226 : atP (8, 40) = some (cdW 226) := rfl
set_option maxRecDepth 100000 in
theorem cw_227 : atP (8, 44) = some (cdW 227) := rfl
set_option maxRecDepth 100000 in
theorem cw_228 : atP (8, 49) = some (cdW 228) := rfl
set_option maxRecDepth 100000 in
theorem cw_229 : atP (8, 53) = some (cdW 229) := rfl
set_option maxRecDepth 100000 in
theorem cw_230 : atP (8, 57) = some (cdW 230) := rfl
set_option maxRecDepth 100000 in
theorem cw_231 : atP (8, 61) = some (cdW 231) := rfl
set_option maxRecDepth 100000 in
theorem cw_232 : atP (8, 64) = some (cdW 232) := rfl
set_option maxRecDepth 100000 in
theorem cw_233 : atP (8, 68) = some (cdW 233) := rfl
set_option maxRecDepth 100000 in
theorem cw_234 : atP (8, 72) = some (cdW 234) := rfl
set_option maxRecDepth 100000 in
theorem cw_235 : atP (8, 79) = some (cdW 235) := rfl
set_option maxRecDepth 100000 in
theorem cw_236 : atP (8, 83) = some (cdW 236) := rfl
set_option maxRecDepth 100000 in
theorem cw_237 : atP (8, 87) = some (cdW 237) := rfl
set_option maxRecDepth 100000 in
theorem cw_238 : atP (8, 91) = some (cdW 238) := rfl
set_option maxRecDepth 100000 in
theorem cw_239 : atP (8, 95) = some (cdW 239) := rfl
set_option maxRecDepth 100000 in
theorem cw_240 : atP (8, 99) = some (cdW 240) := rfl
set_option maxRecDepth 100000 in
theorem cw_241 : atP (8, 103) = some (cdW 241) := rfl
set_option maxRecDepth 100000 in
theorem cw_242 : atP (8, 107) = some (cdW 242) := rfl
set_option maxRecDepth 100000 in
theorem cw_243 : atP (8, 111) = some (cdW 243) := rfl
set_option maxRecDepth 100000 in
theorem cw_244 : atP (8, 115) = some (cdW 244) := rfl
set_option maxRecDepth 100000 in
theorem cw_245 : atP (8, 119) = some (cdW 245) := rfl
set_option maxRecDepth 100000 in
theorem cw_246 : atP (8, 123) = some (cdW 246) := rfl
set_option maxRecDepth 100000 in
theorem cw_247 : atP (8, 127) = some (cdW 247) := rfl
set_option maxRecDepth 100000 in
theorem cw_248 : atP (8, 131) = some (cdW 248) := rfl
set_option maxRecDepth 100000 in
theorem cw_249 : atP (8, 135) = some (cdW 249) := rfl
set_option maxRecDepth 100000 in
theorem cw_250 : atP (8, 139) = some (cdW 250) := rfl
set_option maxRecDepth 100000 in
theorem cw_251 : atP (8, 143) = some (cdW 251) := rfl
set_option maxRecDepth 100000 in
theorem cw_252 : atP (8, 147) = some (cdW 252) := rfl
set_option maxRecDepth 100000 in
theorem cw_253 : atP (8, 151) = some (cdW 253) := rfl
set_option maxRecDepth 100000 in
theorem cw_254 : atP (8, 155) = some (cdW 254) := rfl
set_option maxRecDepth 100000 in
theorem cw_255 : atP (8, 159) = some (cdW 255) := rfl
set_option maxRecDepth 100000 in
theorem cw_256 : atP (8, 163) = some (cdW 256) := rfl
set_option maxRecDepth 100000 in
theorem cw_257 : atP (8, 167) = some (cdW 257) := rfl
set_option maxRecDepth 100000 in
theorem cw_258 : atP (8, 171) = some (cdW 258) := rfl
set_option maxRecDepth 100000 in
theorem cw_259 : atP (8, 175) = some (cdW 259) := rfl
set_option maxRecDepth 100000 in
theorem cw_260 : atP (8, 179) = some (cdW 260) := rfl
set_option maxRecDepth 100000 in
theorem cw_261 : atP (8, 183) = some (cdW 261) := rfl
set_option maxRecDepth 100000 in
theorem cw_262 : atP (8, 187) = some (cdW 262) := rfl
set_option maxRecDepth 100000 in
theorem cw_263 : atP (8, 191) = some (cdW 263) := rfl
set_option maxRecDepth 100000 in
theorem cw_264 : atP (8, 195) = some (cdW 264) := rfl
set_option maxRecDepth 100000 in
theorem cw_265 : atP (8, 199) = some (cdW 265) := rfl
set_option maxRecDepth 100000 in
theorem cw_266 : atP (8, 203) = some (cdW 266) := rfl
set_option maxRecDepth 100000 in
theorem cw_267 : atP (8, 207) = some (cdW 267) := rfl
set_option maxRecDepth 100000 in
theorem cw_268 : atP (8, 211) = some (cdW 268) := rfl
set_option maxRecDepth 100000 in
theorem cw_269 : atP (8, 215) = some (cdW 269) := rfl
set_option maxRecDepth 100000 in
theorem cw_270 : atP (8, 219) = some (cdW 270) := rfl
set_option maxRecDepth 100000 in
theorem cw_271 : atP (8, 223) = some (cdW 271) := rfl
set_option maxRecDepth 100000 in
theorem cw_272 : atP (8, 226) = some (cdW 272) := rfl
set_option maxRecDepth 100000 in
theorem cw_273 : atP (8, 230) = some (cdW 273) := rfl
set_option maxRecDepth 100000 in
theorem cw_274 : atP (8, 234) = some (cdW 274) := rfl
set_option maxRecDepth 100000 in
theorem cw_275 : atP (8, 238) = some (cdW 275) := rfl
set_option maxRecDepth 100000 in
theorem cw_276 : atP (9, 2) = some (cdW 276) := rfl
set_option maxRecDepth 100000 in
theorem cw_277 : atP (9, 6) = some (cdW 277) := rfl
set_option maxRecDepth 100000 in
theorem cw_278 : atP (9, 10) = some (cdW 278) := rfl
set_option maxRecDepth 100000 in
theorem cw_279 : atP (9, 14) = some (cdW 279) := rfl
set_option maxRecDepth 100000 in
theorem cw_280 : atP (9, 18) = some (cdW 280) := rfl
end
section
def cwP : List (List (Nat × Nat)) := [[(2, 35), (2, 37)], [(1, 60), (1, 62), (1, 64), (1, 66)], [(2, 205), (2, 207), (2, 209), (2, 211), (2, 213), (2, 215)], [(2, 18), (2, 20), (2, 22), (2, 24)], [(2, 103), (2, 105), (2, 107), (2, 109), (2, 111), (2, 113), (2, 115), (2, 117), (2, 119), (2, 121), (2, 123), (2, 125), (2, 127), (2, 129), (2, 131), (2, 133)], [(1, 207), (1, 209), (1, 211), (1, 213), (1, 215), (1, 217), (1, 219), (1, 221), (1, 223), (1, 225), (1, 227), (1, 229), (1, 231), (1, 233), (1, 235), (1, 237)], [(2, 57), (2, 59), (2, 61), (2, 63), (2, 65), (2, 67), (2, 69), (2, 71), (2, 73), (2, 75), (2, 77)], [(1, 121), (1, 123), (1, 125), (1, 127), (1, 129), (1, 131), (1, 133), (1, 135), (1, 137), (1, 139), (1, 141), (1, 143), (1, 145)], [(1, 89), (1, 91), (1, 93), (1, 95), (1, 97), (1, 99), (1, 101)], [(2, 175), (2, 177), (2, 179), (2, 181), (2, 183), (2, 185), (2, 187), (2, 189)], [(2, 148), (2, 150), (2, 152), (2, 154), (2, 156)], [(3, 8), (3, 10), (3, 12), (3, 14), (3, 16), (3, 18), (3, 20), (3, 22), (3, 24), (3, 26), (3, 28), (3, 30), (3, 32), (3, 34), (3, 36), (3, 38)], [(7, 95), (7, 97), (7, 99), (7, 101)], [(6, 114), (6, 115), (6, 116), (6, 117), (6, 118), (6, 133), (6, 135), (6, 137)], [(6, 194), (6, 196), (6, 198), (6, 200), (6, 202), (6, 204), (6, 206), (6, 208), (6, 210), (6, 212), (6, 214), (6, 216), (6, 218), (6, 220), (6, 222), (6, 224), (6, 226), (6, 228), (6, 230), (6, 232), (6, 234), (6, 236), (6, 238), (7, 0), (7, 2), (7, 4), (7, 6), (7, 8), (7, 10), (7, 12), (7, 14), (7, 16), (7, 18), (7, 20), (7, 22), (7, 24), (7, 26), (7, 28), (7, 30), (7, 32), (7, 34), (7, 36), (7, 38), (7, 40), (7, 42), (7, 44), (7, 46), (7, 48), (7, 50), (7, 52), (7, 54), (7, 56), (7, 58), (7, 60), (7, 62)]]
def cuP : List ((Nat × Nat) × (Nat × Nat)) := [((2, 28), (1, 7)), ((1, 44), (1, 3)), ((2, 193), (1, 12)), ((2, 1), (1, 6)), ((2, 81), (1, 9)), ((1, 149), (1, 5)), ((2, 41), (1, 8)), ((1, 38), (1, 2)), ((1, 73), (1, 4)), ((2, 160), (1, 11)), ((2, 137), (1, 10)), ((1, 30), (1, 1)), ((7, 82), (1, 20)), ((6, 111), (1, 18)), ((6, 105), (1, 14))]
def uB (a : Nat) : Bool := decide ((nth9 cwP a []).map atP = (u_ws (clT a).1 (clT a).2.1 (clT a).2.2).map some) && (u_ws (clT a).1 (clT a).2.1 (clT a).2.2).all goodWord && decide (atP (nth9 cuP a ((0, 0), (0, 0))).1 = some (.instantiable (clT a).1 (clT a).2.2)) && decide (atP (nth9 cuP a ((0, 0), (0, 0))).2 = some (.initialized (clT a).1))
theorem cls_0 : uB 0 = true := by decide +kernel
theorem cln_0 : (∀ a, a < (clT 0).2.2 → ∀ b, b < (clT 0).2.2 → a ≠ b → ((clT 0).2.1 a).2.1 ≠ ((clT 0).2.1 b).2.1) ∧ ∀ k, k < (clT 0).2.2 → parseFieldDescriptor ((clT 0).2.1 k).2.2.1 = some (tyT 0 k) := by decide +kernel
theorem cls_1 : uB 1 = true := by decide +kernel
theorem cln_1 : (∀ a, a < (clT 1).2.2 → ∀ b, b < (clT 1).2.2 → a ≠ b → ((clT 1).2.1 a).2.1 ≠ ((clT 1).2.1 b).2.1) ∧ ∀ k, k < (clT 1).2.2 → parseFieldDescriptor ((clT 1).2.1 k).2.2.1 = some (tyT 1 k) := by decide +kernel
theorem cls_2 : uB 2 = true := by decide +kernel
theorem cln_2 : (∀ a, a < (clT 2).2.2 → ∀ b, b < (clT 2).2.2 → a ≠ b → ((clT 2).2.1 a).2.1 ≠ ((clT 2).2.1 b).2.1) ∧ ∀ k, k < (clT 2).2.2 → parseFieldDescriptor ((clT 2).2.1 k).2.2.1 = some (tyT 2 k) := by decide +kernel
theorem cls_3 : uB 3 = true := by decide +kernel
theorem cln_3 : (∀ a, a < (clT 3).2.2 → ∀ b, b < (clT 3).2.2 → a ≠ b → ((clT 3).2.1 a).2.1 ≠ ((clT 3).2.1 b).2.1) ∧ ∀ k, k < (clT 3).2.2 → parseFieldDescriptor ((clT 3).2.1 k).2.2.1 = some (tyT 3 k) := by decide +kernel
theorem cls_4 : uB 4 = true := by decide +kernel
theorem cln_4 : (∀ a, a < (clT 4).2.2 → ∀ b, b < (clT 4).2.2 → a ≠ b → ((clT 4).2.1 a).2.1 ≠ ((clT 4).2.1 b).2.1) ∧ ∀ k, k < (clT 4).2.2 → parseFieldDescriptor ((clT 4).2.1 k).2.2.1 = some (tyT 4 k) := by decide +kernel
theorem cls_5 : uB 5 = true := by decide +kernel
theorem cln_5 : (∀ a, a < (clT 5).2.2 → ∀ b, b < (clT 5).2.2 → a ≠ b → ((clT 5).2.1 a).2.1 ≠ ((clT 5).2.1 b).2.1) ∧ ∀ k, k < (clT 5).2.2 → parseFieldDescriptor ((clT 5).2.1 k).2.2.1 = some (tyT 5 k) := by decide +kernel
theorem cls_6 : uB 6 = true := by decide +kernel
theorem cln_6 : (∀ a, a < (clT 6).2.2 → ∀ b, b < (clT 6).2.2 → a ≠ b → ((clT 6).2.1 a).2.1 ≠ ((clT 6).2.1 b).2.1) ∧ ∀ k, k < (clT 6).2.2 → parseFieldDescriptor ((clT 6).2.1 k).2.2.1 = some (tyT 6 k) := by decide +kernel
theorem cls_7 : uB 7 = true := by decide +kernel
theorem cln_7 : (∀ a, a < (clT 7).2.2 → ∀ b, b < (clT 7).2.2 → a ≠ b → ((clT 7).2.1 a).2.1 ≠ ((clT 7).2.1 b).2.1) ∧ ∀ k, k < (clT 7).2.2 → parseFieldDescriptor ((clT 7).2.1 k).2.2.1 = some (tyT 7 k) := by decide +kernel
theorem cls_8 : uB 8 = true := by decide +kernel
theorem cln_8 : (∀ a, a < (clT 8).2.2 → ∀ b, b < (clT 8).2.2 → a ≠ b → ((clT 8).2.1 a).2.1 ≠ ((clT 8).2.1 b).2.1) ∧ ∀ k, k < (clT 8).2.2 → parseFieldDescriptor ((clT 8).2.1 k).2.2.1 = some (tyT 8 k) := by decide +kernel
theorem cls_9 : uB 9 = true := by decide +kernel
theorem cln_9 : (∀ a, a < (clT 9).2.2 → ∀ b, b < (clT 9).2.2 → a ≠ b → ((clT 9).2.1 a).2.1 ≠ ((clT 9).2.1 b).2.1) ∧ ∀ k, k < (clT 9).2.2 → parseFieldDescriptor ((clT 9).2.1 k).2.2.1 = some (tyT 9 k) := by decide +kernel
theorem cls_10 : uB 10 = true := by decide +kernel
theorem cln_10 : (∀ a, a < (clT 10).2.2 → ∀ b, b < (clT 10).2.2 → a ≠ b → ((clT 10).2.1 a).2.1 ≠ ((clT 10).2.1 b).2.1) ∧ ∀ k, k < (clT 10).2.2 → parseFieldDescriptor ((clT 10).2.1 k).2.2.1 = some (tyT 10 k) := by decide +kernel
theorem cls_11 : uB 11 = true := by decide +kernel
theorem cln_11 : (∀ a, a < (clT 11).2.2 → ∀ b, b < (clT 11).2.2 → a ≠ b → ((clT 11).2.1 a).2.1 ≠ ((clT 11).2.1 b).2.1) ∧ ∀ k, k < (clT 11).2.2 → parseFieldDescriptor ((clT 11).2.1 k).2.2.1 = some (tyT 11 k) := by decide +kernel
theorem cls_12 : uB 12 = true := by decide +kernel
theorem cln_12 : (∀ a, a < (clT 12).2.2 → ∀ b, b < (clT 12).2.2 → a ≠ b → ((clT 12).2.1 a).2.1 ≠ ((clT 12).2.1 b).2.1) ∧ ∀ k, k < (clT 12).2.2 → parseFieldDescriptor ((clT 12).2.1 k).2.2.1 = some (tyT 12 k) := by decide +kernel
theorem cls_13 : uB 13 = true := by decide +kernel
theorem cln_13 : (∀ a, a < (clT 13).2.2 → ∀ b, b < (clT 13).2.2 → a ≠ b → ((clT 13).2.1 a).2.1 ≠ ((clT 13).2.1 b).2.1) ∧ ∀ k, k < (clT 13).2.2 → parseFieldDescriptor ((clT 13).2.1 k).2.2.1 = some (tyT 13 k) := by decide +kernel
theorem cls_14 : uB 14 = true := by decide +kernel
theorem cln_14 : (∀ a, a < (clT 14).2.2 → ∀ b, b < (clT 14).2.2 → a ≠ b → ((clT 14).2.1 a).2.1 ≠ ((clT 14).2.1 b).2.1) ∧ ∀ k, k < (clT 14).2.2 → parseFieldDescriptor ((clT 14).2.1 k).2.2.1 = some (tyT 14 k) := by decide +kernel
end
section
def AllC : Nat → Nat → Prop
  | _, 0 => True
  | i, n + 1 => cdW i ∈ lw_tbl ∧ AllC (i + 1) n
theorem AllC_at : ∀ {n i : Nat}, AllC i n → ∀ a, i ≤ a → a < i + n → cdW a ∈ lw_tbl
  | 0, _, _, a, h1, h2 => by omega
  | n + 1, i, h, a, h1, h2 => by
    by_cases e : a = i
    · subst e; exact h.1
    · exact AllC_at h.2 a (by omega) (by omega)
def AllO : Nat → Nat → Prop
  | _, 0 => True
  | i, n + 1 => (cdT i).all (okB i) = true ∧ AllO (i + 1) n
theorem AllO_at : ∀ {n i : Nat}, AllO i n → ∀ a, i ≤ a → a < i + n → (cdT a).all (okB a) = true
  | 0, _, _, a, h1, h2 => by omega
  | n + 1, i, h, a, h1, h2 => by
    by_cases e : a = i
    · subst e; exact h.1
    · exact AllO_at h.2 a (by omega) (by omega)
theorem AllC_app : ∀ {n i k : Nat}, AllC i n → AllC (i + n) k → AllC i (n + k)
  | 0, i, k, _, h2 => by rw [Nat.zero_add]; exact h2
  | n + 1, i, k, h1, h2 => by
    rw [Nat.add_right_comm]
    exact ⟨h1.1, AllC_app h1.2 (by rw [show i + 1 + n = i + (n + 1) by omega]; exact h2)⟩
theorem AllO_app : ∀ {n i k : Nat}, AllO i n → AllO (i + n) k → AllO i (n + k)
  | 0, i, k, _, h2 => by rw [Nat.zero_add]; exact h2
  | n + 1, i, k, h1, h2 => by
    rw [Nat.add_right_comm]
    exact ⟨h1.1, AllO_app h1.2 (by rw [show i + 1 + n = i + (n + 1) by omega]; exact h2)⟩
set_option maxRecDepth 100000 in
theorem AllC_1 : AllC 1 20 := ⟨atP_in cw_1, atP_in cw_2, atP_in cw_3, atP_in cw_4, atP_in cw_5, atP_in cw_6, atP_in cw_7, atP_in cw_8, atP_in cw_9, atP_in cw_10, atP_in cw_11, atP_in cw_12, atP_in cw_13, atP_in cw_14, atP_in cw_15, atP_in cw_16, atP_in cw_17, atP_in cw_18, atP_in cw_19, atP_in cw_20, trivial⟩
set_option maxRecDepth 100000 in
theorem AllC_21 : AllC 21 20 := ⟨atP_in cw_21, atP_in cw_22, atP_in cw_23, atP_in cw_24, atP_in cw_25, atP_in cw_26, atP_in cw_27, atP_in cw_28, atP_in cw_29, atP_in cw_30, atP_in cw_31, atP_in cw_32, atP_in cw_33, atP_in cw_34, atP_in cw_35, atP_in cw_36, atP_in cw_37, atP_in cw_38, atP_in cw_39, atP_in cw_40, trivial⟩
set_option maxRecDepth 100000 in
theorem AllC_41 : AllC 41 20 := ⟨atP_in cw_41, atP_in cw_42, atP_in cw_43, atP_in cw_44, atP_in cw_45, atP_in cw_46, atP_in cw_47, atP_in cw_48, atP_in cw_49, atP_in cw_50, atP_in cw_51, atP_in cw_52, atP_in cw_53, atP_in cw_54, atP_in cw_55, atP_in cw_56, atP_in cw_57, atP_in cw_58, atP_in cw_59, atP_in cw_60, trivial⟩
set_option maxRecDepth 100000 in
theorem AllC_61 : AllC 61 20 := ⟨atP_in cw_61, atP_in cw_62, atP_in cw_63, atP_in cw_64, atP_in cw_65, atP_in cw_66, atP_in cw_67, atP_in cw_68, atP_in cw_69, atP_in cw_70, atP_in cw_71, atP_in cw_72, atP_in cw_73, atP_in cw_74, atP_in cw_75, atP_in cw_76, atP_in cw_77, atP_in cw_78, atP_in cw_79, atP_in cw_80, trivial⟩
set_option maxRecDepth 100000 in
theorem AllC_81 : AllC 81 20 := ⟨atP_in cw_81, atP_in cw_82, atP_in cw_83, atP_in cw_84, atP_in cw_85, atP_in cw_86, atP_in cw_87, atP_in cw_88, atP_in cw_89, atP_in cw_90, atP_in cw_91, atP_in cw_92, atP_in cw_93, atP_in cw_94, atP_in cw_95, atP_in cw_96, atP_in cw_97, atP_in cw_98, atP_in cw_99, atP_in cw_100, trivial⟩
set_option maxRecDepth 100000 in
theorem AllC_101 : AllC 101 20 := ⟨atP_in cw_101, atP_in cw_102, atP_in cw_103, atP_in cw_104, atP_in cw_105, atP_in cw_106, atP_in cw_107, atP_in cw_108, atP_in cw_109, atP_in cw_110, atP_in cw_111, atP_in cw_112, atP_in cw_113, atP_in cw_114, atP_in cw_115, atP_in cw_116, atP_in cw_117, atP_in cw_118, atP_in cw_119, atP_in cw_120, trivial⟩
set_option maxRecDepth 100000 in
theorem AllC_121 : AllC 121 20 := ⟨atP_in cw_121, atP_in cw_122, atP_in cw_123, atP_in cw_124, atP_in cw_125, atP_in cw_126, atP_in cw_127, atP_in cw_128, atP_in cw_129, atP_in cw_130, atP_in cw_131, atP_in cw_132, atP_in cw_133, atP_in cw_134, atP_in cw_135, atP_in cw_136, atP_in cw_137, atP_in cw_138, atP_in cw_139, atP_in cw_140, trivial⟩
set_option maxRecDepth 100000 in
theorem AllC_141 : AllC 141 20 := ⟨atP_in cw_141, atP_in cw_142, atP_in cw_143, atP_in cw_144, atP_in cw_145, atP_in cw_146, atP_in cw_147, atP_in cw_148, atP_in cw_149, atP_in cw_150, atP_in cw_151, atP_in cw_152, atP_in cw_153, atP_in cw_154, atP_in cw_155, atP_in cw_156, atP_in cw_157, atP_in cw_158, atP_in cw_159, atP_in cw_160, trivial⟩
set_option maxRecDepth 100000 in
theorem AllC_161 : AllC 161 20 := ⟨atP_in cw_161, atP_in cw_162, atP_in cw_163, atP_in cw_164, atP_in cw_165, atP_in cw_166, atP_in cw_167, atP_in cw_168, atP_in cw_169, atP_in cw_170, atP_in cw_171, atP_in cw_172, atP_in cw_173, atP_in cw_174, atP_in cw_175, atP_in cw_176, atP_in cw_177, atP_in cw_178, atP_in cw_179, atP_in cw_180, trivial⟩
set_option maxRecDepth 100000 in
theorem AllC_181 : AllC 181 20 := ⟨atP_in cw_181, atP_in cw_182, atP_in cw_183, atP_in cw_184, atP_in cw_185, atP_in cw_186, atP_in cw_187, atP_in cw_188, atP_in cw_189, atP_in cw_190, atP_in cw_191, atP_in cw_192, atP_in cw_193, atP_in cw_194, atP_in cw_195, atP_in cw_196, atP_in cw_197, atP_in cw_198, atP_in cw_199, atP_in cw_200, trivial⟩
set_option maxRecDepth 100000 in
theorem AllC_201 : AllC 201 20 := ⟨atP_in cw_201, atP_in cw_202, atP_in cw_203, atP_in cw_204, atP_in cw_205, atP_in cw_206, atP_in cw_207, atP_in cw_208, atP_in cw_209, atP_in cw_210, atP_in cw_211, atP_in cw_212, atP_in cw_213, atP_in cw_214, atP_in cw_215, atP_in cw_216, atP_in cw_217, atP_in cw_218, atP_in cw_219, atP_in cw_220, trivial⟩
set_option maxRecDepth 100000 in
theorem AllC_221 : AllC 221 20 := ⟨atP_in cw_221, atP_in cw_222, atP_in cw_223, atP_in cw_224, atP_in cw_225, atP_in cw_226, atP_in cw_227, atP_in cw_228, atP_in cw_229, atP_in cw_230, atP_in cw_231, atP_in cw_232, atP_in cw_233, atP_in cw_234, atP_in cw_235, atP_in cw_236, atP_in cw_237, atP_in cw_238, atP_in cw_239, atP_in cw_240, trivial⟩
set_option maxRecDepth 100000 in
theorem AllC_241 : AllC 241 20 := ⟨atP_in cw_241, atP_in cw_242, atP_in cw_243, atP_in cw_244, atP_in cw_245, atP_in cw_246, atP_in cw_247, atP_in cw_248, atP_in cw_249, atP_in cw_250, atP_in cw_251, atP_in cw_252, atP_in cw_253, atP_in cw_254, atP_in cw_255, atP_in cw_256, atP_in cw_257, atP_in cw_258, atP_in cw_259, atP_in cw_260, trivial⟩
set_option maxRecDepth 100000 in
theorem AllC_261 : AllC 261 20 := ⟨atP_in cw_261, atP_in cw_262, atP_in cw_263, atP_in cw_264, atP_in cw_265, atP_in cw_266, atP_in cw_267, atP_in cw_268, atP_in cw_269, atP_in cw_270, atP_in cw_271, atP_in cw_272, atP_in cw_273, atP_in cw_274, atP_in cw_275, atP_in cw_276, atP_in cw_277, atP_in cw_278, atP_in cw_279, atP_in cw_280, trivial⟩
theorem AllC_all : AllC 1 280 := AllC_app (n := 20) (i := 1) AllC_1 (AllC_app (n := 20) (i := 21) AllC_21 (AllC_app (n := 20) (i := 41) AllC_41 (AllC_app (n := 20) (i := 61) AllC_61 (AllC_app (n := 20) (i := 81) AllC_81 (AllC_app (n := 20) (i := 101) AllC_101 (AllC_app (n := 20) (i := 121) AllC_121 (AllC_app (n := 20) (i := 141) AllC_141 (AllC_app (n := 20) (i := 161) AllC_161 (AllC_app (n := 20) (i := 181) AllC_181 (AllC_app (n := 20) (i := 201) AllC_201 (AllC_app (n := 20) (i := 221) AllC_221 (AllC_app (n := 20) (i := 241) AllC_241 (AllC_261)))))))))))))
set_option maxRecDepth 100000 in
theorem AllO_0 : AllO 0 20 := ⟨ok_0, ok_1, ok_2, ok_3, ok_4, ok_5, ok_6, ok_7, ok_8, ok_9, ok_10, ok_11, ok_12, ok_13, ok_14, ok_15, ok_16, ok_17, ok_18, ok_19, trivial⟩
set_option maxRecDepth 100000 in
theorem AllO_20 : AllO 20 20 := ⟨ok_20, ok_21, ok_22, ok_23, ok_24, ok_25, ok_26, ok_27, ok_28, ok_29, ok_30, ok_31, ok_32, ok_33, ok_34, ok_35, ok_36, ok_37, ok_38, ok_39, trivial⟩
set_option maxRecDepth 100000 in
theorem AllO_40 : AllO 40 20 := ⟨ok_40, ok_41, ok_42, ok_43, ok_44, ok_45, ok_46, ok_47, ok_48, ok_49, ok_50, ok_51, ok_52, ok_53, ok_54, ok_55, ok_56, ok_57, ok_58, ok_59, trivial⟩
set_option maxRecDepth 100000 in
theorem AllO_60 : AllO 60 20 := ⟨ok_60, ok_61, ok_62, ok_63, ok_64, ok_65, ok_66, ok_67, ok_68, ok_69, ok_70, ok_71, ok_72, ok_73, ok_74, ok_75, ok_76, ok_77, ok_78, ok_79, trivial⟩
set_option maxRecDepth 100000 in
theorem AllO_80 : AllO 80 20 := ⟨ok_80, ok_81, ok_82, ok_83, ok_84, ok_85, ok_86, ok_87, ok_88, ok_89, ok_90, ok_91, ok_92, ok_93, ok_94, ok_95, ok_96, ok_97, ok_98, ok_99, trivial⟩
set_option maxRecDepth 100000 in
theorem AllO_100 : AllO 100 20 := ⟨ok_100, ok_101, ok_102, ok_103, ok_104, ok_105, ok_106, ok_107, ok_108, ok_109, ok_110, ok_111, ok_112, ok_113, ok_114, ok_115, ok_116, ok_117, ok_118, ok_119, trivial⟩
set_option maxRecDepth 100000 in
theorem AllO_120 : AllO 120 20 := ⟨ok_120, ok_121, ok_122, ok_123, ok_124, ok_125, ok_126, ok_127, ok_128, ok_129, ok_130, ok_131, ok_132, ok_133, ok_134, ok_135, ok_136, ok_137, ok_138, ok_139, trivial⟩
set_option maxRecDepth 100000 in
theorem AllO_140 : AllO 140 20 := ⟨ok_140, ok_141, ok_142, ok_143, ok_144, ok_145, ok_146, ok_147, ok_148, ok_149, ok_150, ok_151, ok_152, ok_153, ok_154, ok_155, ok_156, ok_157, ok_158, ok_159, trivial⟩
set_option maxRecDepth 100000 in
theorem AllO_160 : AllO 160 20 := ⟨ok_160, ok_161, ok_162, ok_163, ok_164, ok_165, ok_166, ok_167, ok_168, ok_169, ok_170, ok_171, ok_172, ok_173, ok_174, ok_175, ok_176, ok_177, ok_178, ok_179, trivial⟩
set_option maxRecDepth 100000 in
theorem AllO_180 : AllO 180 20 := ⟨ok_180, ok_181, ok_182, ok_183, ok_184, ok_185, ok_186, ok_187, ok_188, ok_189, ok_190, ok_191, ok_192, ok_193, ok_194, ok_195, ok_196, ok_197, ok_198, ok_199, trivial⟩
set_option maxRecDepth 100000 in
theorem AllO_200 : AllO 200 20 := ⟨ok_200, ok_201, ok_202, ok_203, ok_204, ok_205, ok_206, ok_207, ok_208, ok_209, ok_210, ok_211, ok_212, ok_213, ok_214, ok_215, ok_216, ok_217, ok_218, ok_219, trivial⟩
set_option maxRecDepth 100000 in
theorem AllO_220 : AllO 220 20 := ⟨ok_220, ok_221, ok_222, ok_223, ok_224, ok_225, ok_226, ok_227, ok_228, ok_229, ok_230, ok_231, ok_232, ok_233, ok_234, ok_235, ok_236, ok_237, ok_238, ok_239, trivial⟩
set_option maxRecDepth 100000 in
theorem AllO_240 : AllO 240 20 := ⟨ok_240, ok_241, ok_242, ok_243, ok_244, ok_245, ok_246, ok_247, ok_248, ok_249, ok_250, ok_251, ok_252, ok_253, ok_254, ok_255, ok_256, ok_257, ok_258, ok_259, trivial⟩
set_option maxRecDepth 100000 in
theorem AllO_260 : AllO 260 20 := ⟨ok_260, ok_261, ok_262, ok_263, ok_264, ok_265, ok_266, ok_267, ok_268, ok_269, ok_270, ok_271, ok_272, ok_273, ok_274, ok_275, ok_276, ok_277, ok_278, ok_279, trivial⟩
set_option maxRecDepth 100000 in
theorem AllO_280 : AllO 280 1 := ⟨ok_280, trivial⟩
theorem AllO_all : AllO 0 281 := AllO_app (n := 20) (i := 0) AllO_0 (AllO_app (n := 20) (i := 20) AllO_20 (AllO_app (n := 20) (i := 40) AllO_40 (AllO_app (n := 20) (i := 60) AllO_60 (AllO_app (n := 20) (i := 80) AllO_80 (AllO_app (n := 20) (i := 100) AllO_100 (AllO_app (n := 20) (i := 120) AllO_120 (AllO_app (n := 20) (i := 140) AllO_140 (AllO_app (n := 20) (i := 160) AllO_160 (AllO_app (n := 20) (i := 180) AllO_180 (AllO_app (n := 20) (i := 200) AllO_200 (AllO_app (n := 20) (i := 220) AllO_220 (AllO_app (n := 20) (i := 240) AllO_240 (AllO_app (n := 20) (i := 260) AllO_260 (AllO_280))))))))))))))
theorem cdT_big : ∀ (l : List Cd9) (a : Nat), l.length ≤ a → nth9 l a [] = ([] : Cd9)
  | [], _, _ => rfl
  | _ :: r, 0, h => absurd h (by simp)
  | _ :: r, a + 1, h => cdT_big r a (by simpa using h)
theorem cdTab_len : cdTab.length = 281 := by decide +kernel
theorem ok_at (M : Nat) : (cdT M).all (okB M) = true := by
  by_cases h : M < 281
  · exact AllO_at AllO_all M (Nat.zero_le _) (by omega)
  · rw [show cdT M = [] from cdT_big cdTab M (by rw [cdTab_len]; omega)]; rfl
theorem cw_at {a : Nat} (h1 : 0 < a) (h2 : a < 281) : cdW a ∈ lw_tbl := AllC_at AllC_all a h1 (by omega)
theorem hasF_w {o i a b : Nat} (h : hasF o i a b = true) : fW o i a b ∈ lw_tbl := by
  obtain ⟨q, hq, h2⟩ := List.any_eq_true.mp h
  simp only [Bool.and_eq_true, beq_iff_eq] at h2
  have h4 : (o, i, a, b) ∈ flP.map (fun q => q.1) := by
    rw [flP_eq]; exact List.mem_map.mpr ⟨q, hq, by rw [h2.1.1.1, h2.1.1.2, h2.1.2, h2.2]⟩
  obtain ⟨z, hz, e⟩ := List.mem_map.mp h4
  have h5 := of_decide_eq_true (List.all_eq_true.mp lkf_all z hz)
  rw [e] at h5
  exact atP_in h5
theorem has3c_w {o i a : Nat} (h : has3 clL o i a = true) : Cond.classLink (onm o) i (clT a).1 ∈ lw_tbl := by
  obtain ⟨q, hq, h2⟩ := List.any_eq_true.mp h
  simp only [Bool.and_eq_true, beq_iff_eq] at h2
  have h4 : (o, i, a) ∈ clP.map (fun q => q.1) := by
    rw [clP_eq]; exact List.mem_map.mpr ⟨q, hq, by rw [h2.1.1, h2.1.2, h2.2]⟩
  obtain ⟨z, hz, e⟩ := List.mem_map.mp h4
  have h5 := of_decide_eq_true (List.all_eq_true.mp lkc_all z hz)
  rw [e] at h5
  exact atP_in h5
theorem has3i_w {o i a : Nat} (h : has3 ciL o i a = true) : Cond.constant (onm o) i (cI9 a) ∈ lw_tbl := by
  obtain ⟨q, hq, h2⟩ := List.any_eq_true.mp h
  simp only [Bool.and_eq_true, beq_iff_eq] at h2
  have h4 : (o, i, a) ∈ ciP.map (fun q => q.1) := by
    rw [ciP_eq]; exact List.mem_map.mpr ⟨q, hq, by rw [h2.1.1, h2.1.2, h2.2]⟩
  obtain ⟨z, hz, e⟩ := List.mem_map.mp h4
  have h5 := of_decide_eq_true (List.all_eq_true.mp lki_all z hz)
  rw [e] at h5
  exact atP_in h5
theorem has3j_w {o i a : Nat} (h : has3 cjL o i a = true) : Cond.constantLong (onm o) i (cJ9 a) ∈ lw_tbl := by
  obtain ⟨q, hq, h2⟩ := List.any_eq_true.mp h
  simp only [Bool.and_eq_true, beq_iff_eq] at h2
  have h4 : (o, i, a) ∈ cjP.map (fun q => q.1) := by
    rw [cjP_eq]; exact List.mem_map.mpr ⟨q, hq, by rw [h2.1.1, h2.1.2, h2.2]⟩
  obtain ⟨z, hz, e⟩ := List.mem_map.mp h4
  have h5 := of_decide_eq_true (List.all_eq_true.mp lkj_all z hz)
  rw [e] at h5
  exact atP_in h5
theorem hasM_w {o i a k : Nat} (h : hasM o i a k = true) : ∀ w ∈ mlW (o, i, a, k), w ∈ lw_tbl := by
  obtain ⟨q, hq, h2⟩ := List.any_eq_true.mp h
  simp only [Bool.and_eq_true, beq_iff_eq] at h2
  have h4 : (o, i, a, k) ∈ mlP.map (fun q => q.1) := by
    rw [mlP_eq]; exact List.mem_map.mpr ⟨q, hq, by rw [h2.1.1.1, h2.1.1.2, h2.1.2, h2.2]⟩
  obtain ⟨z, hz, e⟩ := List.mem_map.mp h4
  have h5 := of_decide_eq_true (List.all_eq_true.mp lkm_all z hz)
  rw [e] at h5
  intro w hw
  have h6 : some w ∈ (mlW (o, i, a, k)).map some := List.mem_map.mpr ⟨w, hw, rfl⟩
  rw [← h5] at h6
  obtain ⟨p, -, hp⟩ := List.mem_map.mp h6
  exact atP_in hp
theorem uB_spec {a : Nat} (h : uB a = true) : (∀ w ∈ u_ws (clT a).1 (clT a).2.1 (clT a).2.2, w ∈ lw_tbl.filter goodWord) ∧ (Cond.instantiable (clT a).1 (clT a).2.2 ∈ lw_tbl) ∧ (Cond.initialized (clT a).1 ∈ lw_tbl) := by
  simp only [uB, Bool.and_eq_true, decide_eq_true_eq] at h
  obtain ⟨⟨⟨h1, h2⟩, h3⟩, h4⟩ := h
  refine ⟨fun w hw => ?_, atP_in h3, atP_in h4⟩
  have h6 : some w ∈ (u_ws (clT a).1 (clT a).2.1 (clT a).2.2).map some := List.mem_map.mpr ⟨w, hw, rfl⟩
  rw [← h1] at h6
  obtain ⟨p, -, hp⟩ := List.mem_map.mp h6
  exact List.mem_filter.mpr ⟨atP_in hp, List.all_eq_true.mp h2 w hw⟩
theorem cls_at {a : Nat} (h : a < 15) : (∀ w ∈ u_ws (clT a).1 (clT a).2.1 (clT a).2.2, w ∈ lw_tbl.filter goodWord) ∧ (Cond.instantiable (clT a).1 (clT a).2.2 ∈ lw_tbl) ∧ (Cond.initialized (clT a).1 ∈ lw_tbl) := by
  match a, h with
  | 0, _ => exact uB_spec cls_0
  | 1, _ => exact uB_spec cls_1
  | 2, _ => exact uB_spec cls_2
  | 3, _ => exact uB_spec cls_3
  | 4, _ => exact uB_spec cls_4
  | 5, _ => exact uB_spec cls_5
  | 6, _ => exact uB_spec cls_6
  | 7, _ => exact uB_spec cls_7
  | 8, _ => exact uB_spec cls_8
  | 9, _ => exact uB_spec cls_9
  | 10, _ => exact uB_spec cls_10
  | 11, _ => exact uB_spec cls_11
  | 12, _ => exact uB_spec cls_12
  | 13, _ => exact uB_spec cls_13
  | 14, _ => exact uB_spec cls_14
end
section
/-! One step of the evaluator; Kc: a method called, Kn: the method goes on -/
def aLn (m : Mem) (k j : Nat) : Nat := if k = 99 then mK m 98 else if k = 81 then (nth9 strT j []).length else kLn k
def aGt (m : Mem) (k j i : Nat) : Int32 := if k < 80 then mI m k j i else if k = 99 then mI m 99 0 i else roT k j i
def gf9 (m : Mem) (a b c j : Nat) : AV := if a = 80 then (if b = 0 then vr 81 j else vi 0) else match c with
  | 1 => vl (mJ m a j b)
  | 2 => .inr (.inr (mR m a j b))
  | _ => vi (mI m a j b)
def pf9 (m : Mem) (a b c j : Nat) (v : AV) : Option Mem := if a = 80 then none else match c with
  | 0 => match v with
    | .inl x => some (setI m a j b x)
    | _ => none
  | 1 => match v with
    | .inr (.inl x) => some (setJ m a j b x)
    | _ => none
  | 2 => match v with
    | .inr (.inr x) => some (setR m a j b x)
    | _ => none
  | _ => match v with
    | .inl x => if x = 0 ∨ x = 1 then some (setI m a j b x) else none
    | _ => none
def hnd9 : List (Nat × Nat × Nat × Nat) → Nat → Nat → Option Nat
  | [], _, _ => none
  | q :: r, pc, E => if q.1 ≤ pc ∧ pc < q.2.1 ∧ q.2.2.2 = E then some q.2.2.1 else hnd9 r pc E
def rcv9 (c : Nat) (vs : List AV) : Bool := match c with
  | 0 => true
  | c + 1 => match vs with
    | .inr (.inr (some (some q))) :: _ => q.1 == c
    | _ => false
def okK (k : Nat) : Bool := decide (k < 80) || k == 81 || (decide (90 ≤ k) && decide (k ≤ 93)) || k == 99
section STP
variable {ρ : Type} (F : ρ) (D : Res9 → ρ) (Kc : Nat → Nat → List AV → List AV → Nat → Loc9 → Mem → ρ) (Kn : Nat → Loc9 → List AV → Mem → ρ)
def swK (x : Int32) (d : Nat) (k : Nat → ρ) : List (Int32 × Nat) → ρ
  | [] => k d
  | q :: r => if x = q.1 then k q.2 else swK x d k r
def ib9 (f : Int32 → Int32 → Int32) (pc : Nat) (l : Loc9) (st : List AV) (m : Mem) : ρ := match st with
  | .inl y :: .inl x :: r => Kn pc l (vi (f x y) :: r) m
  | _ => F
def lb9 (f : Int64 → Int64 → Int64) (pc : Nat) (l : Loc9) (st : List AV) (m : Mem) : ρ := match st with
  | .inr (.inl y) :: .inr (.inl x) :: r => Kn pc l (vl (f x y) :: r) m
  | _ => F
def ls9 (f : Int64 → Int32 → Int64) (pc : Nat) (l : Loc9) (st : List AV) (m : Mem) : ρ := match st with
  | .inl y :: .inr (.inl x) :: r => Kn pc l (vl (f x y) :: r) m
  | _ => F
def iu9 (f : Int32 → AV) (pc : Nat) (l : Loc9) (st : List AV) (m : Mem) : ρ := match st with
  | .inl x :: r => Kn pc l (f x :: r) m
  | _ => F
def lu9 (f : Int64 → AV) (pc : Nat) (l : Loc9) (st : List AV) (m : Mem) : ρ := match st with
  | .inr (.inl x) :: r => Kn pc l (f x :: r) m
  | _ => F
def il9 (k pc : Nat) (l : Loc9) (st : List AV) (m : Mem) : ρ := match ldL l k with
  | some (.inl x) => Kn pc l (vi x :: st) m
  | _ => F
def ll9 (k pc : Nat) (l : Loc9) (st : List AV) (m : Mem) : ρ := match ldL l k with
  | some (.inr (.inl x)) => Kn pc l (vl x :: st) m
  | _ => F
def al9 (k pc : Nat) (l : Loc9) (st : List AV) (m : Mem) : ρ := match ldL l k with
  | some (.inr (.inr x)) => Kn pc l (.inr (.inr x) :: st) m
  | _ => F
def is9 (k pc : Nat) (l : Loc9) (st : List AV) (m : Mem) : ρ := match st with
  | .inl x :: r => if k < l.length then Kn pc (stL l k (vi x)) r m else F
  | _ => F
def ls29 (k pc : Nat) (l : Loc9) (st : List AV) (m : Mem) : ρ := match st with
  | .inr (.inl x) :: r => if k + 1 < l.length then Kn pc (stL2 l k (vl x)) r m else F
  | _ => F
def as9 (k pc : Nat) (l : Loc9) (st : List AV) (m : Mem) : ρ := match st with
  | .inr (.inr x) :: r => if k < l.length then Kn pc (stL l k (.inr (.inr x))) r m else F
  | _ => F
def ic9 (C : Int32 → Int32 → Bool) (a pc : Nat) (l : Loc9) (st : List AV) (m : Mem) : ρ := match st with
  | .inl y :: .inl x :: r => if C x y = true then Kn a l r m else Kn pc l r m
  | _ => F
def if9 (C : Int32 → Bool) (a pc : Nat) (l : Loc9) (st : List AV) (m : Mem) : ρ := match st with
  | .inl x :: r => if C x = true then Kn a l r m else Kn pc l r m
  | _ => F
def ald9 (ty : Nat → Bool) (pc : Nat) (l : Loc9) (st : List AV) (m : Mem) : ρ := match st with
  | .inl i :: .inr (.inr (some (some q))) :: r => if ty (aTy q.1) = true ∧ okK q.1 = true then (if inR i (aLn m q.1 q.2) = true then Kn pc l (vi (aGt m q.1 q.2 i.toNatClampNeg) :: r) m else F) else F
  | _ => F
def lald9 (pc : Nat) (l : Loc9) (st : List AV) (m : Mem) : ρ := match st with
  | .inl i :: .inr (.inr (some (some q))) :: r => if q.1 < 80 ∧ aTy q.1 = 3 then (if inR i (kLn q.1) = true then Kn pc l (vl (mJ m q.1 q.2 i.toNatClampNeg) :: r) m else F) else F
  | _ => F
def iast9 (pc : Nat) (l : Loc9) (st : List AV) (m : Mem) : ρ := match st with
  | .inl x :: .inl i :: .inr (.inr (some (some q))) :: r => if q.1 < 80 ∧ aTy q.1 = 0 then (if inR i (kLn q.1) = true then Kn pc l r (setI m q.1 q.2 i.toNatClampNeg x) else F) else F
  | _ => F
def bast9 (pc : Nat) (l : Loc9) (st : List AV) (m : Mem) : ρ := match st with
  | .inl x :: .inl i :: .inr (.inr (some (some q))) :: r => if q.1 < 80 then (if inR i (kLn q.1) = true then (match aTy q.1 with
    | 1 => Kn pc l r (setI m q.1 q.2 i.toNatClampNeg (x.toInt8.toInt32))
    | 2 => Kn pc l r (setI m q.1 q.2 i.toNatClampNeg (x &&& 1))
    | _ => F) else F) else F
  | _ => F
def last9 (pc : Nat) (l : Loc9) (st : List AV) (m : Mem) : ρ := match st with
  | .inr (.inl x) :: .inl i :: .inr (.inr (some (some q))) :: r => if q.1 < 80 ∧ aTy q.1 = 3 then (if inR i (kLn q.1) = true then Kn pc l r (setJ m q.1 q.2 i.toNatClampNeg x) else F) else F
  | _ => F
def gtf9 (a b c pc : Nat) (l : Loc9) (st : List AV) (m : Mem) : ρ := match st with
  | .inr (.inr (some (some q))) :: r => if q.1 = a then Kn pc l (gf9 m a b c q.2 :: r) m else F
  | _ => F
def ptf9 (a b c pc : Nat) (l : Loc9) (st : List AV) (m : Mem) : ρ := match st with
  | v :: .inr (.inr (some (some q))) :: r => if q.1 = a then (match pf9 m a b c q.2 v with
    | some m1 => Kn pc l r m1
    | none => F) else F
  | _ => F
def cp9 (pc : Nat) (l : Loc9) (st : List AV) (m : Mem) : ρ := match st with
  | .inl n :: .inl dp :: .inr (.inr (some (some q))) :: .inl sp :: .inr (.inr (some (some p))) :: r =>
    if q.1 < 80 ∧ p.1 < 80 ∧ aTy q.1 = 0 ∧ aTy p.1 = 0 ∧ 0 ≤ n ∧ 0 ≤ sp ∧ 0 ≤ dp ∧ sp.toNatClampNeg + n.toNatClampNeg ≤ kLn p.1 ∧ dp.toNatClampNeg + n.toNatClampNeg ≤ kLn q.1 ∧ cats r ≤ 8 then
      Kn pc l r (upA m.1 q.1 q.2 (va_cpy (m.1 p.1 p.2) (m.1 q.1 q.2) sp.toNatClampNeg dp.toNatClampNeg n.toNatClampNeg), m.2)
    else F
  | _ => F
def mt9 (c pc : Nat) (l : Loc9) (st : List AV) (m : Mem) : ρ := match c with
  | 61 => (match st with
    | .inl y :: .inl x :: r => if cats r ≤ 8 then Kn pc l (vi (if y < x then y else x) :: r) m else F
    | _ => F)
  | 62 => (match st with
    | .inl y :: .inl x :: r => if cats r ≤ 8 then Kn pc l (vi (if x < y then y else x) :: r) m else F
    | _ => F)
  | _ => (match st with
    | .inl x :: r => if cats r ≤ 8 then Kn pc l (vi (if 0 ≤ x then x else 0 - x) :: r) m else F
    | _ => F)
def inv9 (d a b c pc1 : Nat) (l : Loc9) (st : List AV) (m : Mem) : ρ :=
  if c = 99 then F else if c = 50 then (match st with
    | .inr (.inr (some (some _))) :: r => if cats r ≤ 8 then Kn pc1 l r m else F
    | _ => F) else if c = 60 then cp9 F Kn pc1 l st m else if 61 ≤ c ∧ c ≤ 63 then mt9 F Kn c pc1 l st m else
  match popN b [] st with
  | none => F
  | some (args, rest) => if cats rest ≤ 8 ∧ cats args ≤ mxT a then (if rcv9 c args = true then (match d with
    | 0 => F
    | d + 1 => Kc d a args rest pc1 l m) else F) else F
def irt9 (a : Nat) (st : List AV) (m : Mem) : ρ := match st with
  | [.inl x] => match a with
    | 0 => D (.inl (some (vi x)), m)
    | 1 => if -128 ≤ x ∧ x ≤ 127 then D (.inl (some (vi x)), m) else F
    | 2 => if x = 0 ∨ x = 1 then D (.inl (some (vi x)), m) else F
    | _ => if 0 ≤ x ∧ x ≤ 65535 then D (.inl (some (vi x)), m) else F
  | _ => F
def nwa9 (a n c pc : Nat) (l : Loc9) (st : List AV) (m : Mem) : ρ := match st with
  | .inl x :: r => if x = Int32.ofNat n ∧ aTy a = c ∧ kLn a = n ∧ a < 80 then Kn pc l (vr a (mK m a) :: r) (newM m a n) else F
  | _ => F
def stI (i : Instr) (n a b c : Nat) (L : List (Int32 × Nat)) (d M pc : Nat) (l : Loc9) (st : List AV) (m : Mem) : ρ := match i with
  | .iconst z => Kn (pc + n) l (vi (Int32.ofInt z) :: st) m
  | .bipush z => Kn (pc + n) l (vi ((Int8.ofInt z).toInt32) :: st) m
  | .sipush z => Kn (pc + n) l (vi ((Int16.ofInt z).toInt32) :: st) m
  | .lconst z => Kn (pc + n) l (vl (Int64.ofNat z.val) :: st) m
  | .aconst_null => Kn (pc + n) l (vn :: st) m
  | .ldc _ => if c = 0 then Kn (pc + n) l (vi (cI9 a) :: st) m else Kn (pc + n) l (vr 80 a :: st) m
  | .ldc_w _ => Kn (pc + n) l (vi (cI9 a) :: st) m
  | .ldc2_w _ => Kn (pc + n) l (vl (cJ9 a) :: st) m
  | .iload k => il9 F Kn k (pc + n) l st m
  | .iload_n k => il9 F Kn k.val (pc + n) l st m
  | .lload k => ll9 F Kn k (pc + n) l st m
  | .lload_n k => ll9 F Kn k.val (pc + n) l st m
  | .aload k => al9 F Kn k (pc + n) l st m
  | .aload_n k => al9 F Kn k.val (pc + n) l st m
  | .istore k => is9 F Kn k (pc + n) l st m
  | .istore_n k => is9 F Kn k.val (pc + n) l st m
  | .lstore k => ls29 F Kn k (pc + n) l st m
  | .lstore_n k => ls29 F Kn k.val (pc + n) l st m
  | .astore k => as9 F Kn k (pc + n) l st m
  | .astore_n k => as9 F Kn k.val (pc + n) l st m
  | .iinc k z => (match ldL l k with
    | some (.inl x) => Kn (pc + n) (stL l k (vi (x + Int32.ofInt z))) st m
    | _ => F)
  | .iadd => ib9 F Kn (fun x y => x + y) (pc + n) l st m
  | .isub => ib9 F Kn (fun x y => x - y) (pc + n) l st m
  | .imul => ib9 F Kn (fun x y => x * y) (pc + n) l st m
  | .iand => ib9 F Kn (fun x y => x &&& y) (pc + n) l st m
  | .ior => ib9 F Kn (fun x y => x ||| y) (pc + n) l st m
  | .ixor => ib9 F Kn (fun x y => x ^^^ y) (pc + n) l st m
  | .ishl => ib9 F Kn (fun x y => x <<< (y &&& 31)) (pc + n) l st m
  | .ishr => ib9 F Kn (fun x y => x >>> (y &&& 31)) (pc + n) l st m
  | .iushr => ib9 F Kn (fun x y => (x.toUInt32 >>> (y.toUInt32 &&& Int32.toUInt32 31)).toInt32) (pc + n) l st m
  | .idiv => (match st with
    | .inl y :: .inl x :: r => if y = 0 then F else Kn (pc + n) l (vi (x / y) :: r) m
    | _ => F)
  | .irem => (match st with
    | .inl y :: .inl x :: r => if y = 0 then F else Kn (pc + n) l (vi (x - x / y * y) :: r) m
    | _ => F)
  | .ineg => iu9 F Kn (fun x => vi (-x)) (pc + n) l st m
  | .i2l => iu9 F Kn (fun x => vl x.toInt64) (pc + n) l st m
  | .i2b => iu9 F Kn (fun x => vi x.toInt8.toInt32) (pc + n) l st m
  | .i2c => iu9 F Kn (fun x => vi (x.toUInt32 % 65536).toInt32) (pc + n) l st m
  | .l2i => lu9 F Kn (fun x => vi x.toInt32) (pc + n) l st m
  | .lneg => lu9 F Kn (fun x => vl (-x)) (pc + n) l st m
  | .ladd => lb9 F Kn (fun x y => x + y) (pc + n) l st m
  | .lsub => lb9 F Kn (fun x y => x - y) (pc + n) l st m
  | .lmul => lb9 F Kn (fun x y => x * y) (pc + n) l st m
  | .land => lb9 F Kn (fun x y => x &&& y) (pc + n) l st m
  | .lor => lb9 F Kn (fun x y => x ||| y) (pc + n) l st m
  | .lxor => lb9 F Kn (fun x y => x ^^^ y) (pc + n) l st m
  | .lshl => ls9 F Kn (fun x y => x <<< (y.toInt64 &&& 63)) (pc + n) l st m
  | .lushr => ls9 F Kn (fun x y => (x.toUInt64 >>> (y.toInt64.toUInt64 &&& Int64.toUInt64 63)).toInt64) (pc + n) l st m
  | .lcmp => (match st with
    | .inr (.inl y) :: .inr (.inl x) :: r => Kn (pc + n) l (vi (lg_cmp x y) :: r) m
    | _ => F)
  | .dup => (match st with
    | v :: r => if cat9 v = 1 then Kn (pc + n) l (v :: v :: r) m else F
    | _ => F)
  | .dup2 => (match st with
    | .inr (.inl x) :: r => Kn (pc + n) l (vl x :: vl x :: r) m
    | v :: w :: r => if cat9 v = 1 ∧ cat9 w = 1 then Kn (pc + n) l (v :: w :: v :: w :: r) m else F
    | _ => F)
  | .goto _ => Kn a l st m
  | .if_icmp .eq _ => ic9 F Kn (fun x y => decide (x = y)) a (pc + n) l st m
  | .if_icmp .ne _ => ic9 F Kn (fun x y => decide (¬ x = y)) a (pc + n) l st m
  | .if_icmp .lt _ => ic9 F Kn (fun x y => decide (x < y)) a (pc + n) l st m
  | .if_icmp .ge _ => ic9 F Kn (fun x y => decide (y ≤ x)) a (pc + n) l st m
  | .if_icmp .gt _ => ic9 F Kn (fun x y => decide (y < x)) a (pc + n) l st m
  | .if_icmp .le _ => ic9 F Kn (fun x y => decide (x ≤ y)) a (pc + n) l st m
  | .ifCond .eq _ => if9 F Kn (fun x => decide (x = 0)) a (pc + n) l st m
  | .ifCond .ne _ => if9 F Kn (fun x => decide (¬ x = 0)) a (pc + n) l st m
  | .ifCond .lt _ => if9 F Kn (fun x => decide (x < 0)) a (pc + n) l st m
  | .ifCond .ge _ => if9 F Kn (fun x => decide (0 ≤ x)) a (pc + n) l st m
  | .ifCond .gt _ => if9 F Kn (fun x => decide (0 < x)) a (pc + n) l st m
  | .ifCond .le _ => if9 F Kn (fun x => decide (x ≤ 0)) a (pc + n) l st m
  | .ifnonnull _ => (match st with
    | .inr (.inr (some (some _))) :: r => Kn a l r m
    | .inr (.inr (some none)) :: r => Kn (pc + n) l r m
    | _ => F)
  | .ifnull _ => (match st with
    | .inr (.inr (some (some _))) :: r => Kn (pc + n) l r m
    | .inr (.inr (some none)) :: r => Kn a l r m
    | _ => F)
  | .tableswitch _ _ _ _ => (match st with
    | .inl x :: r => swK x a (fun t => Kn t l r m) L
    | _ => F)
  | .getfield _ => gtf9 F Kn a b c (pc + n) l st m
  | .putfield _ => ptf9 F Kn a b c (pc + n) l st m
  | .getstatic _ => (match c with
    | 0 => Kn (pc + n) l (vi (Int32.ofNat b) :: st) m
    | 2 => Kn (pc + n) l (vr a 0 :: st) m
    | 3 => Kn (pc + n) l (vu :: st) m
    | _ => F)
  | .iaload => ald9 F Kn (fun t => t == 0) (pc + n) l st m
  | .baload => ald9 F Kn (fun t => t == 1 || t == 2) (pc + n) l st m
  | .laload => lald9 F Kn (pc + n) l st m
  | .iastore => iast9 F Kn (pc + n) l st m
  | .bastore => bast9 F Kn (pc + n) l st m
  | .lastore => last9 F Kn (pc + n) l st m
  | .arraylength => (match st with
    | .inr (.inr (some (some q))) :: r => if aTy q.1 ≤ 3 ∧ okK q.1 = true then Kn (pc + n) l (vi (Int32.ofNat (aLn m q.1 q.2)) :: r) m else F
    | _ => F)
  | .new _ => if c = 77 then (if cats st ≤ 8 then D (.inr (0, vu), newX m b) else F) else Kn (pc + n) l (vr a (mK m a) :: st) (newM m a b)
  | .newarray _ => nwa9 F Kn a b c (pc + n) l st m
  | .invokevirtual _ => inv9 F Kc Kn d a b c (pc + n) l st m
  | .invokespecial _ => inv9 F Kc Kn d a b c (pc + n) l st m
  | .invokestatic _ => inv9 F Kc Kn d a b c (pc + n) l st m
  | .athrow => (match st with
    | .inr (.inr (some (some q))) :: _ => if q.1 = 13 then (match hnd9 (hdT M) pc 1 with
      | none => D (.inr (1, vr q.1 q.2), m)
      | some _ => F) else F
    | _ => F)
  | .ireturn => irt9 F D a st m
  | .lreturn => (match st with
    | [.inr (.inl x)] => D (.inl (some (vl x)), m)
    | _ => F)
  | .areturn => (match st with
    | [.inr (.inr x)] => D (.inl (some (.inr (.inr x))), m)
    | _ => F)
  | .return_ => (match st with
    | [] => D (.inl none, m)
    | _ => F)
  | _ => F
def stp (d M pc : Nat) (l : Loc9) (st : List AV) (m : Mem) : ρ :=
  match (cdT M).lookup pc with
  | none => F
  | some (i, n, a, b, c, L) => stI F D Kc Kn i n a b c L d M pc l st m
end STP
end
section
/-! The step as data; the evaluator; its denotation, with its equation -/
abbrev St9 : Type := Option Res9 ⊕ ((Nat × Loc9 × List AV × Mem) ⊕ (Nat × Nat × List AV × List AV × Nat × Loc9 × Mem))
def sF : St9 := .inl none
def sD (r : Res9) : St9 := .inl (some r)
def sK (d a : Nat) (args rest : List AV) (pc1 : Nat) (l : Loc9) (m : Mem) : St9 := .inr (.inr (d, a, args, rest, pc1, l, m))
def sN (pc : Nat) (l : Loc9) (st : List AV) (m : Mem) : St9 := .inr (.inl (pc, l, st, m))
def st1 (d M pc : Nat) (l : Loc9) (st : List AV) (m : Mem) : St9 := stp sF sD sK sN d M pc l st m
section FOLD
variable {ρ : Type} (F : ρ) (D : Res9 → ρ) (Kc : Nat → Nat → List AV → List AV → Nat → Loc9 → Mem → ρ) (Kn : Nat → Loc9 → List AV → Mem → ρ)
def fo9 (x : St9) : ρ := match x with
  | .inl none => F
  | .inl (some r) => D r
  | .inr (.inl (pc, l, st, m)) => Kn pc l st m
  | .inr (.inr (d, a, args, rest, pc1, l, m)) => Kc d a args rest pc1 l m
theorem fo_if {c : Prop} [Decidable c] (x y : St9) : fo9 F D Kc Kn (if c then x else y) = if c then fo9 F D Kc Kn x else fo9 F D Kc Kn y := by
  by_cases h : c <;> simp [h]
theorem fo_ib (f : Int32 → Int32 → Int32) (pc : Nat) (l : Loc9) (st : List AV) (m : Mem) : ib9 F Kn f pc l st m = fo9 F D Kc Kn (ib9 sF sN f pc l st m) := by
  unfold ib9; split <;> rfl
theorem fo_lb (f : Int64 → Int64 → Int64) (pc : Nat) (l : Loc9) (st : List AV) (m : Mem) : lb9 F Kn f pc l st m = fo9 F D Kc Kn (lb9 sF sN f pc l st m) := by
  unfold lb9; split <;> rfl
theorem fo_ls (f : Int64 → Int32 → Int64) (pc : Nat) (l : Loc9) (st : List AV) (m : Mem) : ls9 F Kn f pc l st m = fo9 F D Kc Kn (ls9 sF sN f pc l st m) := by
  unfold ls9; split <;> rfl
theorem fo_iu (f : Int32 → AV) (pc : Nat) (l : Loc9) (st : List AV) (m : Mem) : iu9 F Kn f pc l st m = fo9 F D Kc Kn (iu9 sF sN f pc l st m) := by
  unfold iu9; split <;> rfl
theorem fo_lu (f : Int64 → AV) (pc : Nat) (l : Loc9) (st : List AV) (m : Mem) : lu9 F Kn f pc l st m = fo9 F D Kc Kn (lu9 sF sN f pc l st m) := by
  unfold lu9; split <;> rfl
theorem fo_il (k pc : Nat) (l : Loc9) (st : List AV) (m : Mem) : il9 F Kn k pc l st m = fo9 F D Kc Kn (il9 sF sN k pc l st m) := by
  unfold il9; split <;> rfl
theorem fo_ll (k pc : Nat) (l : Loc9) (st : List AV) (m : Mem) : ll9 F Kn k pc l st m = fo9 F D Kc Kn (ll9 sF sN k pc l st m) := by
  unfold ll9; split <;> rfl
theorem fo_al (k pc : Nat) (l : Loc9) (st : List AV) (m : Mem) : al9 F Kn k pc l st m = fo9 F D Kc Kn (al9 sF sN k pc l st m) := by
  unfold al9; split <;> rfl
theorem fo_is (k pc : Nat) (l : Loc9) (st : List AV) (m : Mem) : is9 F Kn k pc l st m = fo9 F D Kc Kn (is9 sF sN k pc l st m) := by
  unfold is9; split
  · rw [fo_if]; rfl
  · rfl
theorem fo_ls2 (k pc : Nat) (l : Loc9) (st : List AV) (m : Mem) : ls29 F Kn k pc l st m = fo9 F D Kc Kn (ls29 sF sN k pc l st m) := by
  unfold ls29; split
  · rw [fo_if]; rfl
  · rfl
theorem fo_as (k pc : Nat) (l : Loc9) (st : List AV) (m : Mem) : as9 F Kn k pc l st m = fo9 F D Kc Kn (as9 sF sN k pc l st m) := by
  unfold as9; split
  · rw [fo_if]; rfl
  · rfl
theorem fo_ic (C : Int32 → Int32 → Bool) (a pc : Nat) (l : Loc9) (st : List AV) (m : Mem) : ic9 F Kn C a pc l st m = fo9 F D Kc Kn (ic9 sF sN C a pc l st m) := by
  unfold ic9; split
  · rw [fo_if]; rfl
  · rfl
theorem fo_if9 (C : Int32 → Bool) (a pc : Nat) (l : Loc9) (st : List AV) (m : Mem) : if9 F Kn C a pc l st m = fo9 F D Kc Kn (if9 sF sN C a pc l st m) := by
  unfold if9; split
  · rw [fo_if]; rfl
  · rfl
theorem fo_ald (ty : Nat → Bool) (pc : Nat) (l : Loc9) (st : List AV) (m : Mem) : ald9 F Kn ty pc l st m = fo9 F D Kc Kn (ald9 sF sN ty pc l st m) := by
  unfold ald9; split
  · rw [fo_if, fo_if]; rfl
  · rfl
theorem fo_lald (pc : Nat) (l : Loc9) (st : List AV) (m : Mem) : lald9 F Kn pc l st m = fo9 F D Kc Kn (lald9 sF sN pc l st m) := by
  unfold lald9; split
  · rw [fo_if, fo_if]; rfl
  · rfl
theorem fo_iast (pc : Nat) (l : Loc9) (st : List AV) (m : Mem) : iast9 F Kn pc l st m = fo9 F D Kc Kn (iast9 sF sN pc l st m) := by
  unfold iast9; split
  · rw [fo_if, fo_if]; rfl
  · rfl
theorem fo_bast (pc : Nat) (l : Loc9) (st : List AV) (m : Mem) : bast9 F Kn pc l st m = fo9 F D Kc Kn (bast9 sF sN pc l st m) := by
  unfold bast9; split
  · rw [fo_if, fo_if]; congr 2; split <;> rfl
  · rfl
theorem fo_last (pc : Nat) (l : Loc9) (st : List AV) (m : Mem) : last9 F Kn pc l st m = fo9 F D Kc Kn (last9 sF sN pc l st m) := by
  unfold last9; split
  · rw [fo_if, fo_if]; rfl
  · rfl
theorem fo_gtf (a b c pc : Nat) (l : Loc9) (st : List AV) (m : Mem) : gtf9 F Kn a b c pc l st m = fo9 F D Kc Kn (gtf9 sF sN a b c pc l st m) := by
  unfold gtf9; split
  · rw [fo_if]; rfl
  · rfl
theorem fo_ptf (a b c pc : Nat) (l : Loc9) (st : List AV) (m : Mem) : ptf9 F Kn a b c pc l st m = fo9 F D Kc Kn (ptf9 sF sN a b c pc l st m) := by
  unfold ptf9; split
  · rw [fo_if]; congr 1; split <;> rfl
  · rfl
theorem fo_cp (pc : Nat) (l : Loc9) (st : List AV) (m : Mem) : cp9 F Kn pc l st m = fo9 F D Kc Kn (cp9 sF sN pc l st m) := by
  unfold cp9; split
  · rw [fo_if]; rfl
  · rfl
theorem fo_nwa (a n c pc : Nat) (l : Loc9) (st : List AV) (m : Mem) : nwa9 F Kn a n c pc l st m = fo9 F D Kc Kn (nwa9 sF sN a n c pc l st m) := by
  unfold nwa9; split
  · rw [fo_if]; rfl
  · rfl
theorem fo_irt (a : Nat) (st : List AV) (m : Mem) : irt9 F D a st m = fo9 F D Kc Kn (irt9 sF sD a st m) := by
  unfold irt9; split
  · split
    · rfl
    · rw [fo_if]; rfl
    · rw [fo_if]; rfl
    · rw [fo_if]; rfl
  · rfl
theorem fo_mt (c pc : Nat) (l : Loc9) (st : List AV) (m : Mem) : mt9 F Kn c pc l st m = fo9 F D Kc Kn (mt9 sF sN c pc l st m) := by
  unfold mt9; split <;> split <;> first
    | rfl
    | (rw [fo_if]; rfl)
theorem fo_inv (d a b c pc1 : Nat) (l : Loc9) (st : List AV) (m : Mem) : inv9 F Kc Kn d a b c pc1 l st m = fo9 F D Kc Kn (inv9 sF sK sN d a b c pc1 l st m) := by
  unfold inv9
  rw [fo_if, fo_if, fo_if, fo_if, fo_cp F D Kc Kn, fo_mt F D Kc Kn]
  congr 1; congr 1
  · split
    · rw [fo_if]; rfl
    · rfl
  · congr 2
    split
    · rfl
    · rw [fo_if, fo_if]; congr 2; split <;> rfl
theorem fo_swK (x : Int32) (d : Nat) (l : Loc9) (r : List AV) (m : Mem) (L : List (Int32 × Nat)) : swK x d (fun t => Kn t l r m) L = fo9 F D Kc Kn (swK x d (fun t => sN t l r m) L) := by
  induction L with
  | nil => rfl
  | cons q t ih => simp only [swK]; rw [fo_if, ih]; rfl
set_option maxHeartbeats 4000000 in
theorem fo_stI (i : Instr) (n a b c : Nat) (L : List (Int32 × Nat)) (d M pc : Nat) (l : Loc9) (st : List AV) (m : Mem) : stI F D Kc Kn i n a b c L d M pc l st m = fo9 F D Kc Kn (stI sF sD sK sN i n a b c L d M pc l st m) := by
  unfold stI
  split <;> first
  | rfl
  | exact fo_il F D Kc Kn _ _ _ _ _
  | exact fo_ll F D Kc Kn _ _ _ _ _
  | exact fo_al F D Kc Kn _ _ _ _ _
  | exact fo_is F D Kc Kn _ _ _ _ _
  | exact fo_ls2 F D Kc Kn _ _ _ _ _
  | exact fo_as F D Kc Kn _ _ _ _ _
  | exact fo_ib F D Kc Kn _ _ _ _ _
  | exact fo_lb F D Kc Kn _ _ _ _ _
  | exact fo_ls F D Kc Kn _ _ _ _ _
  | exact fo_iu F D Kc Kn _ _ _ _ _
  | exact fo_lu F D Kc Kn _ _ _ _ _
  | exact fo_ic F D Kc Kn _ _ _ _ _ _
  | exact fo_if9 F D Kc Kn _ _ _ _ _ _
  | exact fo_gtf F D Kc Kn _ _ _ _ _ _ _
  | exact fo_ptf F D Kc Kn _ _ _ _ _ _ _
  | exact fo_ald F D Kc Kn _ _ _ _ _
  | exact fo_lald F D Kc Kn _ _ _ _
  | exact fo_iast F D Kc Kn _ _ _ _
  | exact fo_bast F D Kc Kn _ _ _ _
  | exact fo_last F D Kc Kn _ _ _ _
  | exact fo_nwa F D Kc Kn _ _ _ _ _ _ _
  | exact fo_inv F D Kc Kn _ _ _ _ _ _ _ _
  | exact fo_irt F D Kc Kn _ _ _
  | (rw [fo_if]; rfl)
  | (rw [fo_if, fo_if]; rfl)
  | (split <;> first
    | rfl
    | exact fo_swK F D Kc Kn _ _ _ _ _ _
    | (rw [fo_if]; rfl)
    | (rw [fo_if]; congr 1; split <;> rfl))
theorem fo_stp (d M pc : Nat) (l : Loc9) (st : List AV) (m : Mem) : stp F D Kc Kn d M pc l st m = fo9 F D Kc Kn (st1 d M pc l st m) := by
  unfold st1 stp
  split
  · rfl
  · exact fo_stI F D Kc Kn _ _ _ _ _ _ _ _ _ _ _ _
end FOLD
/-- the methods out of which something may be thrown -/
def thr9 (M : Nat) : Bool := [177, 193, 194, 195, 198, 200, 201, 202, 204, 205, 207, 209, 211, 213].elem M
def ret9 (Kn : Nat → Loc9 → List AV → Mem → Option Res9) (M pc0 pc : Nat) (l : Loc9) (rest : List AV) (r : Option Res9) : Option Res9 := match r with
  | none => none
  | some (.inl none, m1) => Kn pc l rest m1
  | some (.inl (some v), m1) => Kn pc l (v :: rest) m1
  | some (.inr q, m1) => match hnd9 (hdT M) pc0 q.1 with
    | some h => Kn h l [q.2] m1
    | none => if thr9 M = true then some (.inr q, m1) else none
/-- with so many steps -/
def ev9 : Nat → Nat → Nat → Nat → Loc9 → List AV → Mem → Option Res9
  | 0, _, _, _, _, _, _ => none
  | n + 1, d, M, pc, l, st, m => fo9 none some (fun d1 a args rest pc1 l1 m1 => ret9 (ev9 n d M) M pc pc1 l1 rest (ev9 n d1 a 0 (entL args (mxT a)) [] m1)) (ev9 n d M) (st1 d M pc l st m)
end
section
theorem ev_mono : ∀ (n d M pc : Nat) (l : Loc9) (st : List AV) (m : Mem) (r : Res9), ev9 n d M pc l st m = some r → ev9 (n + 1) d M pc l st m = some r := by
  intro n
  induction n with
  | zero => intro d M pc l st m r h; cases h
  | succ n ih =>
    intro d M pc l st m r h
    rw [ev9] at h ⊢
    generalize st1 d M pc l st m = x at h ⊢
    match x, h with
    | .inl (some q), h => exact h
    | .inr (.inl (pc1, l1, s1, m1)), h => exact ih _ _ _ _ _ _ _ h
    | .inr (.inr (d1, a, args, rest, pc1, l1, m1)), h =>
      simp only [fo9] at h ⊢
      cases hc : ev9 n d1 a 0 (entL args (mxT a)) [] m1 with
      | none => rw [hc] at h; cases h
      | some q =>
        rw [hc] at h
        rw [ih _ _ _ _ _ _ _ hc]
        match q, h with
        | (.inl none, m2), h => exact ih _ _ _ _ _ _ _ h
        | (.inl (some v), m2), h => exact ih _ _ _ _ _ _ _ h
        | (.inr q, m2), h =>
          simp only [ret9] at h ⊢
          split at h
          · exact ih _ _ _ _ _ _ _ h
          · exact h
theorem ev_le {n k d M pc : Nat} {l : Loc9} {st : List AV} {m : Mem} {r : Res9} (h : ev9 n d M pc l st m = some r) (hk : n ≤ k) : ev9 k d M pc l st m = some r := by
  induction hk with
  | refl => exact h
  | step _ ih => exact ev_mono _ _ _ _ _ _ _ _ ih
noncomputable def den (d M pc : Nat) (l : Loc9) (st : List AV) (m : Mem) : Option Res9 := by
  classical
  exact if h : ∃ r : Res9, ∃ n : Nat, ev9 n d M pc l st m = some r then some h.choose else none
theorem den_iff {d M pc : Nat} {l : Loc9} {st : List AV} {m : Mem} {r : Res9} : den d M pc l st m = some r ↔ ∃ n, ev9 n d M pc l st m = some r := by
  unfold den
  constructor
  · intro h
    split at h
    · rename_i hx
      cases h
      exact hx.choose_spec
    · cases h
  · intro ⟨n, h⟩
    have hx : ∃ r : Res9, ∃ n : Nat, ev9 n d M pc l st m = some r := ⟨r, n, h⟩
    rw [dif_pos hx]
    obtain ⟨k, hk⟩ := hx.choose_spec
    have h1 := ev_le h (Nat.le_max_left n k)
    have h2 := ev_le hk (Nat.le_max_right n k)
    rw [h1] at h2
    exact h2.symm
/-- a method called -/
noncomputable def cal (d M : Nat) (args : List AV) (m : Mem) : Option Res9 := den d M 0 (entL args (mxT M)) [] m
theorem opt_ext {α : Type} {a b : Option α} (h : ∀ r, a = some r ↔ b = some r) : a = b := by
  cases a with
  | none => cases b with
    | none => rfl
    | some y => exact ((h y).mpr rfl)
  | some x => exact ((h x).mp rfl).symm
theorem den_eq (d M pc : Nat) (l : Loc9) (st : List AV) (m : Mem) : den d M pc l st m = stp none some (fun d1 a args rest pc1 l1 m1 => ret9 (den d M) M pc pc1 l1 rest (cal d1 a args m1)) (den d M) d M pc l st m := by
  rw [fo_stp]
  apply opt_ext
  intro r
  rw [den_iff]
  constructor
  · intro ⟨n, h⟩
    cases n with
    | zero => cases h
    | succ n =>
      rw [ev9] at h
      generalize st1 d M pc l st m = x at h ⊢
      match x, h with
      | .inl (some q), h => exact h
      | .inr (.inl (pc1, l1, s1, m1)), h => exact den_iff.mpr ⟨n, h⟩
      | .inr (.inr (d1, a, args, rest, pc1, l1, m1)), h =>
        simp only [fo9] at h ⊢
        cases hc : ev9 n d1 a 0 (entL args (mxT a)) [] m1 with
        | none => rw [hc] at h; cases h
        | some q =>
          rw [hc] at h
          rw [show cal d1 a args m1 = some q from den_iff.mpr ⟨n, hc⟩]
          match q, h with
          | (.inl none, m2), h => exact den_iff.mpr ⟨n, h⟩
          | (.inl (some v), m2), h => exact den_iff.mpr ⟨n, h⟩
          | (.inr q, m2), h =>
            simp only [ret9] at h ⊢
            split at h
            · exact den_iff.mpr ⟨n, h⟩
            · exact h
  · intro h
    generalize hx : st1 d M pc l st m = x at h
    match x, h, hx with
    | .inl (some q), h, hx => exact ⟨1, by rw [ev9, hx]; exact h⟩
    | .inr (.inl (pc1, l1, s1, m1)), h, hx =>
      obtain ⟨n, hn⟩ := den_iff.mp h
      exact ⟨n + 1, by rw [ev9, hx]; exact hn⟩
    | .inr (.inr (d1, a, args, rest, pc1, l1, m1)), h, hx =>
      simp only [fo9] at h
      cases hc : cal d1 a args m1 with
      | none => rw [hc] at h; cases h
      | some q =>
        rw [hc] at h
        obtain ⟨k, hk⟩ := den_iff.mp hc
        match q, h, hk with
        | (.inl none, m2), h, hk =>
          obtain ⟨n, hn⟩ := den_iff.mp h
          refine ⟨max k n + 1, ?_⟩
          rw [ev9, hx]; simp only [fo9]; rw [ev_le hk (Nat.le_max_left k n)]
          exact ev_le hn (Nat.le_max_right k n)
        | (.inl (some v), m2), h, hk =>
          obtain ⟨n, hn⟩ := den_iff.mp h
          refine ⟨max k n + 1, ?_⟩
          rw [ev9, hx]; simp only [fo9]; rw [ev_le hk (Nat.le_max_left k n)]
          exact ev_le hn (Nat.le_max_right k n)
        | (.inr q, m2), h, hk =>
          simp only [ret9] at h
          cases hh : hnd9 (hdT M) pc q.1 with
          | none =>
            rw [hh] at h
            refine ⟨k + 1, ?_⟩
            rw [ev9, hx]; simp only [fo9]; rw [hk]; simp only [ret9, hh]; exact h
          | some hp =>
            rw [hh] at h
            obtain ⟨n, hn⟩ := den_iff.mp h
            refine ⟨max k n + 1, ?_⟩
            rw [ev9, hx]; simp only [fo9]; rw [ev_le hk (Nat.le_max_left k n)]; simp only [ret9, hh]
            exact ev_le hn (Nat.le_max_right k n)
/-- so many steps on, or up to one of the places S -/
noncomputable def bx (S : List Nat) (d M : Nat) : Nat → Nat → Loc9 → List AV → Mem → Option Res9
  | 0, pc, l, st, m => den d M pc l st m
  | k + 1, pc, l, st, m => stp none some (fun d1 a args rest pc1 l1 m1 => ret9 (den d M) M pc pc1 l1 rest (cal d1 a args m1)) (fun pc1 l1 st1 m1 => if S.elem pc1 = true then den d M pc1 l1 st1 m1 else bx S d M k pc1 l1 st1 m1) d M pc l st m
theorem bx_eq (S : List Nat) (d M : Nat) : ∀ (k pc : Nat) (l : Loc9) (st : List AV) (m : Mem), bx S d M k pc l st m = den d M pc l st m := by
  intro k
  induction k with
  | zero => intro pc l st m; rfl
  | succ k ih =>
    intro pc l st m
    rw [bx, den_eq]
    congr 1
    funext pc1 l1 st1 m1
    rw [ih]
    split <;> rfl
end
section
/-! Exceptions that leave a method: turned from the text that the claim prints beside its names (NAMES.whole): here a thrower also tells which cell it throws. -/
section VXA
/-! The laws vx_back, vx_callV, vx_callS, vx_callSW, vx_throw0, vx_throwS follow proofs of the library, with one case more: JvmDerived/Free/Laws.lean (Back.of_free), Shelf42/LK1.lean (callV, callS), Shelf/KitTraced.lean (throwNew0V, throwNewS). -/
/-- where a method has thrown q: the class by its name, the cell, what was written, the world -/
def vx_T (XC : String → Addr → State → State → Prop) (st : State) (q : Addr) (t : State) (mc ms : Nat) (free : Addr → Prop) : Prop :=
  ∃ (E : String) (ce : Cell) (L : List Loc), XC E q st t ∧ t.heap[q]? = some ce ∧ ce.vm = .none ∧ st.vm.findClass E = some ce.cls ∧ st.WarmedH t.vm ∧ st.sameButNew ({ t with vm := st.vm } : State) L mc ms ∧ ∀ z ∈ L, free z.base
def vx_Q (Qc : Array Value → State → Outcome → State → Prop) (XC : String → Addr → State → State → Prop) (mc ms : Nat) (free : Addr → Prop) : Array Value → State → Outcome → State → Prop := fun a st o t =>
  (Qc a st o t ∧ ∃ L, FrameEnd st o t L mc ms ∧ ∀ q ∈ L, free q.base) ∨ ∃ q, o = .threw q ∧ vx_T XC st q t mc ms free
/-- a callee that returns or throws -/
def vx_Met (l : Launch) (y : MethodName) (ws : List Cond) (rm : Room) (Pc : Array Value → State → Prop) (Qc : Array Value → State → Outcome → State → Prop) (XC : String → Addr → State → State → Prop) (mc ms : Nat) (free : Addr → Prop) : Prop :=
  MetFree l y (headSpec ws rm) Pc (fun _ _ _ _ _ => True) (vx_Q Qc XC mc ms free)
def vx_Post (XC : String → Addr → State → State → Prop) (mc ms : Nat) (free : Addr → Prop) : Pt → Array Value → Addr → Pt → Prop := fun A a q B =>
  ∃ (g : JFrame) (mk : MethodId) (t : State) (L : List Loc) (E : String) (ce : Cell), B.U.heap = t.heap ∧ B.U.vm = t.vm ∧ XC E q (A.U.calling g mk a) t ∧ t.heap[q]? = some ce ∧ ce.vm = .none ∧ A.U.vm.findClass E = some ce.cls ∧ B.locs = A.locs ++ L ∧ (∀ z ∈ L, free z.base) ∧ B.cells = A.cells + mc ∧ B.slots = A.slots + ms
def vx_Back (l : Launch) (R : Room) (p : Program) (e : Env) (below : List Frame) (s : State) (sargs : Array Value) (y : MethodName) (len W9 : Nat)
    (Pre : Pt → Array Value → Prop) (Post : Pt → Array Value → Option Value → Pt → Prop) (PostX : Pt → Array Value → Addr → Pt → Prop) : Prop :=
  ∀ (m : MethodId) (meth : Method) (c : Code) (A : Pt) (g : JFrame) (ig : Instr) (mk : MethodId) (a : Array Value),
    Stand p l e R s m sargs below meth c A.U A.locs A.cells A.slots → g.method = m → g.locals.size = c.maxLocals → decode c.code g.pc = .ok (ig, len) →
    2 * g.monitorRoom + (g.stack.map fun v => v.category).sum ≤ W9 → A.U.methodNamed? y = some mk → Pre A a →
    (∃ (v : Option Value) (B : Pt), Stand p l e R s m sargs below meth c B.U B.locs B.cells B.slots ∧ Post A a v B ∧
      Steps p.tables e below (doInvoke e (A.U.setTop g) [] mk a).1 (B.U.setTop { g with pc := g.pc + len, stack := v.toList ++ g.stack })) ∨
    (∃ (q : Addr) (B : Pt), Stand p l e R s m sargs below meth c B.U B.locs B.cells B.slots ∧ PostX A a q B ∧
      Steps p.tables e below (doInvoke e (A.U.setTop g) [] mk a).1 ((B.U.setTop g).pushFrame (.throwing q)))
section Payer
variable {l : Launch} {R : Room} {p : Program} {e : Env} {below : List Frame} {s : State} {sargs : Array Value} {y : MethodName} {len W9 : Nat}
theorem vx_back {ws : List Cond} {rm : Room} {Pc : Array Value → State → Prop} {Qc : Array Value → State → Outcome → State → Prop} {XC : String → Addr → State → State → Prop} {mc ms : Nat} {free : Addr → Prop} {bytes : ByteArray} {maxL : Nat} {ret : Option FieldType}
    (hM : vx_Met l y ws rm Pc Qc XC mc ms free) (hblind : FrameBlind Pc) (hrc : rm.cells = mc) (hrs : rm.slots = ms)
    (hframes : rm.frames + 1 ≤ R.frames) (hlocals : W9 + (maxL + 11) + rm.locals ≤ R.locals)
    (hws : ∀ w ∈ ws, ∀ a' U, s.WarmedH U.vm → w.before a' U = true) (hcode : Cond.code y bytes maxL ret ∈ ws) (hinit : ∀ a' U, s.WarmedH U.vm → (Cond.initialized y.cls).before a' U = true) :
    vx_Back l R p e below s sargs y len W9 (PreOf R mc ms Pc) (PostOf Qc mc ms free) (vx_Post XC mc ms free) := by
  intro m meth c A g ig mk a X hg hsize hdg hW hn hp
  have h1 : (headSpec ws rm).pre.before a A.U = true := atoms_intro fun w hw => hws w hw _ _ X.warmed
  have h2 : (Cond.code y bytes maxL ret).before a A.U = true := hws _ hcode _ _ X.warmed
  have h3 : (Cond.initialized y.cls).before a A.U = true := hinit _ _ X.warmed
  have h4 : A.cells + (headSpec ws rm).room.cells ≤ R.cells := by rw [show (headSpec ws rm).room.cells = mc from hrc]; exact hp.1
  have h5 : A.slots + (headSpec ws rm).room.slots ≤ R.slots := by rw [show (headSpec ws rm).room.slots = ms from hrs]; exact hp.2.1
  have hPc : Pc a (A.U.calling g mk a) := hblind _ _ _ _ hp.2.2
  obtain ⟨U, Ls, c0, s0⟩ := A
  dsimp only [Pt.U, Pt.locs, Pt.cells, Pt.slots] at h1 h2 h3 h4 h5 X hn hPc ⊢
  obtain ⟨methY, cY, hmY, hcY, -, hlY, -, -, -, -⟩ := Cond.code_spec hn h2
  obtain ⟨kY, hkY, -⟩ := className_of_methodNamed hn
  have hinitY : kY.init = .initialized := Cond.initialized_spec (findClass_of_methodNamed hn) hkY h3
  have h : At U g.method c below := by rw [hg]; exact X.here
  have hlocals9 : W9 + (maxL + 11) + (headSpec ws rm).room.locals ≤ R.locals := hlocals
  have happ : (headSpec ws rm).appliesLoose y e.platform (U.calling g mk a) = true :=
    Spec.appliesLoose_calling (g := g) h hdg hn hkY hinitY
      (X.room_calling (g := g) (R' := (headSpec ws rm).room) hsize hmY hcY hframes (by rw [hlY]; omega) h4 h5) h1
  obtain ⟨mid, hmid⟩ := h.above
  have hfr : (U.setTop g).frames = (.java g :: mid) ++ below := by rw [State.frames_setTop' g h.top, hmid]; rfl
  obtain ⟨o, s₂, hsteps, -, hend, hq⟩ := Steps.callFree hM p X.admits X.cas X.clock (acts := []) hfr happ hPc trivial
  have hq' : vx_Q Qc XC mc ms free a (U.calling g mk a) o s₂ := hq
  rw [State.frames_setTop' g h.top] at hend
  obtain ⟨g₀, hg0⟩ := Option.isSome_iff_exists.mp h.top
  obtain ⟨r, hr⟩ := State.topJava?_eq_some.mp hg0
  have hr' : (({ U with heap := s₂.heap, slotsUsed := s₂.slotsUsed } : State).setVm s₂.vm).frames = .java g₀ :: r := hr
  rcases hq' with ⟨hqc, L, hfe, hL⟩ | ⟨q, rfl, E, ce, L, hx, hce, hcv, hcl, hW₂, hsm, hL⟩
  · obtain ⟨⟨v, rfl⟩, hW₂, e2, q2, q3, q4, q5, q6⟩ := id hfe
    have e3 : s₂ = ({ (U.calling g mk a).setFrames s₂.frames with heap := s₂.heap, slotsUsed := s₂.slotsUsed } : State).setVm s₂.vm := by
      have : s₂ = ({ s₂ with vm := (U.calling g mk a).vm } : State).setVm s₂.vm := rfl
      rw [e2] at this
      exact this
    obtain ⟨c₂, i₂, len₂, hc₂, hd₂, hf₂⟩ := hend
    have hW' : U.WarmedH s₂.vm := hW₂
    have hcc : c₂ = c := by
      have h1 : s₂.code? g.method = U.code? g.method := by
        rw [State.code?_eq, State.code?_eq, hW'.alike.method?]
      exact Option.some.inj (hc₂.symm.trans (h1.trans h.code))
    subst hcc
    have hlen : len₂ = len := by rw [hdg] at hd₂; cases hd₂; rfl
    subst hlen
    have hs₂ : s₂ = (({ U with heap := s₂.heap, slotsUsed := s₂.slotsUsed } : State).setVm s₂.vm).setTop { g with pc := g.pc + len₂, stack := v.toList ++ g.stack } := by
      refine e3.trans ?_
      rw [hf₂, State.calling_eq h.top, State.setFrames_setFrames, State.setTop_of_frames _ hr', hr]
      rfl
    have hsame : U.sameButNew ({ U with heap := s₂.heap, slotsUsed := s₂.slotsUsed } : State) L mc ms := by
      refine ⟨?_, q2, q3, q4, q5, q6⟩
      obtain ⟨t, ht, -⟩ := State.frames_cons hr
      show ({ U with heap := s₂.heap, slotsUsed := s₂.slotsUsed } : State) = { U.setFrames U.frames with heap := s₂.heap, slotsUsed := s₂.slotsUsed }
      rw [State.setFrames_self ht]
    subst hg
    refine Or.inl ⟨v, ⟨(({ U with heap := s₂.heap, slotsUsed := s₂.slotsUsed } : State).setVm s₂.vm), Ls ++ L, c0 + mc, s0 + ms⟩,
      ⟨X.admits, X.cas, X.clock, X.frames, X.room, X.hears, X.method, X.code, (X.here.setHeapUsed s₂.heap s₂.slotsUsed).setVm hW'.alike, X.tail, State.WarmedH.trans X.warmed hW', X.limits, X.bytes, X.same.trans (hsame.setVm s.vm)⟩,
      ⟨g, mk, s₂, L, rfl, rfl, hqc, rfl, hL, rfl, rfl⟩, ?_⟩
    show Steps p.tables e below _ ((({ U with heap := s₂.heap, slotsUsed := s₂.slotsUsed } : State).setVm s₂.vm).setTop { g with pc := g.pc + len₂, stack := v.toList ++ g.stack })
    rw [← hs₂]
    exact hsteps
  · obtain ⟨e2, q2, q3, q4, q5, q6⟩ := id hsm
    have e3 : s₂ = ({ (U.calling g mk a).setFrames s₂.frames with heap := s₂.heap, slotsUsed := s₂.slotsUsed } : State).setVm s₂.vm := by
      have : s₂ = ({ s₂ with vm := (U.calling g mk a).vm } : State).setVm s₂.vm := rfl
      rw [e2] at this
      exact this
    have hf₂ : s₂.frames = .throwing q :: .java g :: U.frames.tail := hend
    have hW' : U.WarmedH s₂.vm := hW₂
    have hs₂ : s₂ = ((({ U with heap := s₂.heap, slotsUsed := s₂.slotsUsed } : State).setVm s₂.vm).setTop g).pushFrame (.throwing q) := by
      refine e3.trans ?_
      rw [hf₂, State.calling_eq h.top, State.setFrames_setFrames, State.pushFrame, State.frames_setTop _ hr', State.setTop_of_frames _ hr', State.setFrames_setFrames, hr]
      rfl
    have hsame : U.sameButNew ({ U with heap := s₂.heap, slotsUsed := s₂.slotsUsed } : State) L mc ms := by
      refine ⟨?_, q2, q3, q4, q5, q6⟩
      obtain ⟨t, ht, -⟩ := State.frames_cons hr
      show ({ U with heap := s₂.heap, slotsUsed := s₂.slotsUsed } : State) = { U.setFrames U.frames with heap := s₂.heap, slotsUsed := s₂.slotsUsed }
      rw [State.setFrames_self ht]
    subst hg
    refine Or.inr ⟨q, ⟨(({ U with heap := s₂.heap, slotsUsed := s₂.slotsUsed } : State).setVm s₂.vm), Ls ++ L, c0 + mc, s0 + ms⟩,
      ⟨X.admits, X.cas, X.clock, X.frames, X.room, X.hears, X.method, X.code, (X.here.setHeapUsed s₂.heap s₂.slotsUsed).setVm hW'.alike, X.tail, State.WarmedH.trans X.warmed hW', X.limits, X.bytes, X.same.trans (hsame.setVm s.vm)⟩,
      ⟨g, mk, s₂, L, E, ce, rfl, rfl, hx, hce, hcv, hcl, rfl, hL, rfl, rfl⟩, ?_⟩
    show Steps p.tables e below _ (((({ U with heap := s₂.heap, slotsUsed := s₂.slotsUsed } : State).setVm s₂.vm).setTop g).pushFrame (.throwing q))
    rw [← hs₂]
    exact hsteps
end Payer
section Calls
variable {p : Program} {l : Launch} {e : Env} {R : Room} {s : State} {m : MethodId} {args : Array Value} {below : List Frame} {meth : Method} {c : Code} {T : State} {locs : List Loc} {cells slots : Nat}
theorem vx_callV (X : Stand p l e R s m args below meth c T locs cells slots) (hexec : p.tables.exec = Jvm.exec) {own C : String} {index : Nat} {y : MethodName} {bytes : ByteArray} {maxL : Nat} {ret : Option FieldType}
    (hown : s.vm.findClass own = some m.cls) (hlink : (Cond.methodLink own index y).before args s = true) (hinst : (Cond.instanceMethod y).before args s = true) (hsel : (Cond.selects C y y).before args s = true)
    (hcode : (Cond.code y bytes maxL ret).before args s = true) (hy : y.cls ≠ "java/lang/invoke/MethodHandle" ∧ y.cls ≠ "java/lang/invoke/VarHandle")
    {W9 : Nat} {Pre : Pt → Array Value → Prop} {Post : Pt → Array Value → Option Value → Pt → Prop} {PostX : Pt → Array Value → Addr → Pt → Prop} (hK : vx_Back l R p e below s args y 3 W9 Pre Post PostX)
    {b : Addr} {cellB : Cell} (hcell : T.heap[b]? = some cellB) (hobj : cellB.vm.isStatics = false) (hcls : s.vm.findClass C = some cellB.cls)
    {g : JFrame} (hg : g.method = m) (hsize : g.locals.size = c.maxLocals) {argsL rest : List Value} (hlen : ∀ sig, parseMethodDescriptor y.desc = some sig → argsL.length = sig.parameters.length)
    (hstack : g.stack = argsL.reverse ++ .ref b :: rest) (hW : 2 * g.monitorRoom + (rest.map fun v => v.category).sum ≤ W9) (hdg : decode c.code g.pc = .ok (.invokevirtual index, 3))
    (hpre : ∀ vm₁, s.WarmedH vm₁ → Pre ⟨T.setVm vm₁, locs, cells, slots⟩ (Value.ref b :: argsL).toArray) :
    (∃ (v : Option Value) (vm₁ : Vm) (B : Pt), s.WarmedH vm₁ ∧ Stand p l e R s m args below meth c B.U B.locs B.cells B.slots ∧ Post ⟨T.setVm vm₁, locs, cells, slots⟩ (Value.ref b :: argsL).toArray v B ∧
      ∀ target, Steps p.tables e below (B.U.setTop { g with pc := g.pc + 3, stack := v.toList ++ rest }) target → Steps p.tables e below (T.setTop g) target) ∨
    (∃ (q : Addr) (vm₁ : Vm) (B : Pt), s.WarmedH vm₁ ∧ Stand p l e R s m args below meth c B.U B.locs B.cells B.slots ∧ PostX ⟨T.setVm vm₁, locs, cells, slots⟩ (Value.ref b :: argsL).toArray q B ∧
      Steps p.tables e below (T.setTop g) ((B.U.setTop { g with stack := rest }).pushFrame (.throwing q))) := by
  obtain ⟨mk, methM, hnamed, hmethM, hstM, habM⟩ := Cond.instanceMethod_spec hinst
  obtain ⟨methM', cM, hmethM', -, -, -, -, -, -, hsigM⟩ := Cond.code_spec hnamed hcode
  cases hmethM.symm.trans hmethM'
  obtain ⟨c2, r2, m2, q1, q2, q3, q4, kP, hkP, hkPi⟩ := Cond.selects_spec hsel
  cases hcls.symm.trans q1
  cases (State.methodFound?_of_named hnamed hy).symm.trans q2
  cases hnamed.symm.trans q3
  have hselP : selectMethod e.platform s.vm cellB.cls mk = .method mk := by rw [Launch.admits_selectMethod X.admits]; exact q4
  obtain ⟨vm₁, X₁, hstep₁⟩ := X.invokevirtual hexec hown hlink hnamed hmethM hstM hkP hkPi hy (a := b) (cell := cellB) hcell
    (fun z h => by rw [h] at hobj; cases hobj) hselP hmethM habM hkP hkPi (g := g) hg (argsL := argsL) (rest := rest) (hlen _ hsigM) hstack hdg
  rcases hK m meth c ⟨T.setVm vm₁, locs, cells, slots⟩ { g with stack := rest } (.invokevirtual index) mk (Value.ref b :: argsL).toArray X₁ hg hsize hdg hW (X₁.named hnamed) (hpre vm₁ X₁.warmed) with ⟨v, B, X', hpost, hsteps⟩ | ⟨q, B, X', hpost, hsteps⟩
  · exact Or.inl ⟨v, vm₁, B, X₁.warmed, X', hpost, fun target h => hstep₁ _ fun acts => by rw [doInvoke_state]; exact hsteps.trans h⟩
  · exact Or.inr ⟨q, vm₁, B, X₁.warmed, X', hpost, hstep₁ _ fun acts => by rw [doInvoke_state]; exact hsteps⟩
theorem vx_callS (X : Stand p l e R s m args below meth c T locs cells slots) (hexec : p.tables.exec = Jvm.exec) {own : String} {index : Nat} {y : MethodName} {bytes : ByteArray} {maxL : Nat} {ret : Option FieldType}
    (hown : s.vm.findClass own = some m.cls) (hlink : (Cond.methodLink own index y).before args s = true) (hstat : (Cond.static y).before args s = true) (hinit : (Cond.initialized y.cls).before args s = true)
    (hcode : (Cond.code y bytes maxL ret).before args s = true) (hy : y.cls ≠ "java/lang/invoke/MethodHandle" ∧ y.cls ≠ "java/lang/invoke/VarHandle")
    {W9 : Nat} {Pre : Pt → Array Value → Prop} {Post : Pt → Array Value → Option Value → Pt → Prop} {PostX : Pt → Array Value → Addr → Pt → Prop} (hK : vx_Back l R p e below s args y 3 W9 Pre Post PostX)
    {g : JFrame} (hg : g.method = m) (hsize : g.locals.size = c.maxLocals) {argsL rest : List Value} (hlen : ∀ sig, parseMethodDescriptor y.desc = some sig → argsL.length = sig.parameters.length)
    (hstack : g.stack = argsL.reverse ++ rest) (hW : 2 * g.monitorRoom + (rest.map fun v => v.category).sum ≤ W9) (hdg : decode c.code g.pc = .ok (.invokestatic index, 3))
    (hpre : ∀ vm₁, s.WarmedH vm₁ → Pre ⟨T.setVm vm₁, locs, cells, slots⟩ argsL.toArray) :
    (∃ (v : Option Value) (vm₁ : Vm) (B : Pt), s.WarmedH vm₁ ∧ Stand p l e R s m args below meth c B.U B.locs B.cells B.slots ∧ Post ⟨T.setVm vm₁, locs, cells, slots⟩ argsL.toArray v B ∧
      ∀ target, Steps p.tables e below (B.U.setTop { g with pc := g.pc + 3, stack := v.toList ++ rest }) target → Steps p.tables e below (T.setTop g) target) ∨
    (∃ (q : Addr) (vm₁ : Vm) (B : Pt), s.WarmedH vm₁ ∧ Stand p l e R s m args below meth c B.U B.locs B.cells B.slots ∧ PostX ⟨T.setVm vm₁, locs, cells, slots⟩ argsL.toArray q B ∧
      Steps p.tables e below (T.setTop g) ((B.U.setTop { g with stack := rest }).pushFrame (.throwing q))) := by
  obtain ⟨mk, hnamed⟩ := Cond.code_named hcode
  obtain ⟨methM, cM, hmethM, -, -, -, -, -, -, hsigM⟩ := Cond.code_spec hnamed hcode
  have hstatic : methM.isStatic = true := Cond.static_spec hnamed hmethM hstat
  obtain ⟨kP, hkP, -⟩ := className_of_methodNamed hnamed
  have hinitP : kP.init = .initialized := Cond.initialized_spec (findClass_of_methodNamed hnamed) hkP hinit
  obtain ⟨vm₁, X₁, hstep₁⟩ := X.invokestatic hexec hown hlink hnamed hmethM hstatic hkP hinitP hy (g := g) hg (argsL := argsL) (rest := rest) (hlen _ hsigM) hstack hdg
  rcases hK m meth c ⟨T.setVm vm₁, locs, cells, slots⟩ { g with stack := rest } (.invokestatic index) mk argsL.toArray X₁ hg hsize hdg hW (X₁.named hnamed) (hpre vm₁ X₁.warmed) with ⟨v, B, X', hpost, hsteps⟩ | ⟨q, B, X', hpost, hsteps⟩
  · exact Or.inl ⟨v, vm₁, B, X₁.warmed, X', hpost, fun target h => hstep₁ _ fun acts => by rw [doInvoke_state]; exact hsteps.trans h⟩
  · exact Or.inr ⟨q, vm₁, B, X₁.warmed, X', hpost, hstep₁ _ fun acts => by rw [doInvoke_state]; exact hsteps⟩
end Calls
theorem vx_cls {s : State} {T : State} {vm₁ : Vm} {E : String} {k : ClassId} (hW : s.WarmedH vm₁) (h : (T.setVm vm₁).vm.findClass E = some k) : s.vm.findClass E = some k := by
  have h1 : vm₁.findClass E = some k := h
  rw [hW.alike.findClass] at h1
  exact h1
/-- the method's frame g, with q thrown over it -/
def vx_W (p : Program) (l : Launch) (e : Env) (R : Room) (s : State) (m : MethodId) (args : Array Value) (below : List Frame) (meth : Method) (c : Code) (H : Heap) (locs : List Loc) (cells slots : Nat) (Q : State → Prop) (g : JFrame) (q : Addr) : Prop :=
  ∀ T : State, T.heap = H → Stand p l e R s m args below meth c T locs cells slots → ∃ t, Steps p.tables e below ((T.setTop g).pushFrame (.throwing q)) t ∧ Q t
def vx_Run (p : Program) (l : Launch) (e : Env) (R : Room) (s : State) (m : MethodId) (args : Array Value) (below : List Frame) (meth : Method) (c : Code) (H : Heap) (locs : List Loc) (cells slots mc ms : Nat) (g : JFrame) (rest : List Value) (Qa : State → Outcome → State → Prop) (XC : String → Addr → State → State → Prop) (free : Addr → Prop) : Prop :=
  ∀ T : State, T.heap = H → Stand p l e R s m args below meth c T locs cells slots →
    (∃ (v : Option Value) (st₀ t T' : State) (L : List Loc), st₀.heap = H ∧ Stand p l e R s m args below meth c T' (locs ++ L) (cells + mc) (slots + ms) ∧ (∀ q ∈ L, free q.base) ∧ T'.heap = t.heap ∧ T'.vm = t.vm ∧ Qa st₀ (.returned v) t ∧
      Goes p e below T g T' { g with pc := g.pc + 3, stack := v.toList ++ rest }) ∨
    (∃ (q : Addr) (st₀ t T' : State) (L : List Loc) (E : String) (ce : Cell), st₀.heap = H ∧ Stand p l e R s m args below meth c T' (locs ++ L) (cells + mc) (slots + ms) ∧ (∀ z ∈ L, free z.base) ∧ T'.heap = t.heap ∧ T'.vm = t.vm ∧ XC E q st₀ t ∧ t.heap[q]? = some ce ∧ ce.vm = .none ∧ s.vm.findClass E = some ce.cls ∧
      Steps p.tables e below (T.setTop g) ((T'.setTop { g with stack := rest }).pushFrame (.throwing q)))
section Runs
variable {p : Program} {l : Launch} {e : Env} {R : Room} {s : State} {m : MethodId} {args : Array Value} {below : List Frame} {meth : Method} {c : Code} {H : Heap} {locs : List Loc} {cells slots : Nat}
variable {y : MethodName} {bytes cc : ByteArray} {maxL nL mc ms n index : Nat} {ret : Option FieldType} {ws : List Cond} {rm : Room} {Pc : Array Value → State → Prop} {Qc : Array Value → State → Outcome → State → Prop} {XC : String → Addr → State → State → Prop} {free : Addr → Prop} {Ts : List Cond} {own C : String} {b : Addr} {As rest : List Value} {g : JFrame}
theorem vx_callBack (cb : CallB R s args own index y bytes maxL ret ws rm mc ms n) (hM : vx_Met l y ws rm Pc Qc XC mc ms free) (hbl : FrameBlind Pc) : vx_Back l R p e below s args y 3 8 (PreOf R mc ms Pc) (PostOf Qc mc ms free) (vx_Post XC mc ms free) := by
  obtain ⟨hrc, hrs, hfr, hlo, hws, hcw, -, hini, -⟩ := cb
  exact vx_back (bytes := bytes) (maxL := maxL) (ret := ret) hM hbl hrc hrs hfr hlo hws hcw (fun a' U hW => word_at hW (Or.inl (by first | rfl | simp [Cond.onTables, Cond.keeps, Cond.steady])) hini)
theorem vx_runV (S : CallFix p m c cc nL s args Ts own) (hM : vx_Met l y ws rm Pc Qc XC mc ms free) (cw : CallW R s args own C index y bytes maxL ret ws rm mc ms n) (hp : PreV s H C b Pc As)
    (hg : g.method = m) (hn : As.length = n) (hsize : g.locals.size = nL) (hstack : g.stack = As.reverse ++ .ref b :: rest) (hW : 2 * g.monitorRoom + (rest.map fun v => v.category).sum ≤ 8) (hdg : decode cc g.pc = .ok (.invokevirtual index, 3)) (hf : cells + mc ≤ R.cells ∧ slots + ms ≤ R.slots) :
    vx_Run p l e R s m args below meth c H locs cells slots mc ms g rest (Qc (Value.ref b :: As).toArray) XC free := by
  have hK : vx_Back l R p e below s args y 3 8 (PreOf R mc ms Pc) (PostOf Qc mc ms free) (vx_Post XC mc ms free) := vx_callBack cw.1 hM hp.1
  obtain ⟨⟨-, -, -, -, -, -, hcode, -, hy, hlen, hl⟩, hin, hse⟩ := cw
  obtain ⟨hx, hb, hml, ho, -⟩ := S
  obtain ⟨-, ⟨cellB, hcB, hoB, hclB⟩, hPc⟩ := hp
  intro T hT X
  rcases vx_callV X hx (C := C) (bytes := bytes) (maxL := maxL) (ret := ret) ho hl hin hse hcode hy hK (by rw [hT]; exact hcB) hoB hclB hg (hsize.trans hml.symm) (argsL := As) (rest := rest) (fun sig h => hn.trans (hlen sig h)) hstack hW (by rw [hb]; exact hdg)
    (fun vm₁ hW₁ => ⟨hf.1, hf.2, hPc (T.setVm vm₁) hT hW₁⟩) with ⟨v, vm₁, ⟨U', l2, c2, s2⟩, hW₁, X', ⟨g', mk, t, L, e1, e2, hq, h1, hL, h2, h3⟩, st⟩ | ⟨q, vm₁, ⟨U', l2, c2, s2⟩, hW₁, X', ⟨g', mk, t, L, E, ce, e1, e2, hq, hce, hcv, hcl, h1, hL, h2, h3⟩, st⟩
  · dsimp only [Pt.U, Pt.locs, Pt.cells, Pt.slots] at X' e1 e2 h1 h2 h3 st
    subst h1; subst h2; subst h3
    exact Or.inl ⟨v, (T.setVm vm₁).calling g' mk (Value.ref b :: As).toArray, t, U', L, hT, X', hL, e1, e2, hq, st⟩
  · dsimp only [Pt.U, Pt.locs, Pt.cells, Pt.slots] at X' e1 e2 h1 h2 h3 st hcl
    subst h1; subst h2; subst h3
    exact Or.inr ⟨q, (T.setVm vm₁).calling g' mk (Value.ref b :: As).toArray, t, U', L, E, ce, hT, X', hL, e1, e2, hq, hce, hcv, vx_cls hW₁ hcl, st⟩
theorem vx_runS (S : CallFix p m c cc nL s args Ts own) (hM : vx_Met l y ws rm Pc Qc XC mc ms free) (cw : CallB R s args own index y bytes maxL ret ws rm mc ms n ∧ (Cond.static y).before args s = true) (hp : PreS s H Pc As)
    (hg : g.method = m) (hn : As.length = n) (hsize : g.locals.size = nL) (hstack : g.stack = As.reverse ++ rest) (hW : 2 * g.monitorRoom + (rest.map fun v => v.category).sum ≤ 8) (hdg : decode cc g.pc = .ok (.invokestatic index, 3)) (hf : cells + mc ≤ R.cells ∧ slots + ms ≤ R.slots) :
    vx_Run p l e R s m args below meth c H locs cells slots mc ms g rest (Qc As.toArray) XC free := by
  have hK : vx_Back l R p e below s args y 3 8 (PreOf R mc ms Pc) (PostOf Qc mc ms free) (vx_Post XC mc ms free) := vx_callBack cw.1 hM hp.1
  obtain ⟨⟨-, -, -, -, -, -, hcode, hini, hy, hlen, hl⟩, hstt⟩ := cw
  obtain ⟨hx, hb, hml, ho, -⟩ := S
  intro T hT X
  rcases vx_callS X hx (bytes := bytes) (maxL := maxL) (ret := ret) ho hl hstt hini hcode hy hK hg (hsize.trans hml.symm) (argsL := As) (rest := rest) (fun sig h => hn.trans (hlen sig h)) hstack hW (by rw [hb]; exact hdg)
    (fun vm₁ hW₁ => ⟨hf.1, hf.2, hp.2 (T.setVm vm₁) hT hW₁⟩) with ⟨v, vm₁, ⟨U', l2, c2, s2⟩, hW₁, X', ⟨g', mk, t, L, e1, e2, hq, h1, hL, h2, h3⟩, st⟩ | ⟨q, vm₁, ⟨U', l2, c2, s2⟩, hW₁, X', ⟨g', mk, t, L, E, ce, e1, e2, hq, hce, hcv, hcl, h1, hL, h2, h3⟩, st⟩
  · dsimp only [Pt.U, Pt.locs, Pt.cells, Pt.slots] at X' e1 e2 h1 h2 h3 st
    subst h1; subst h2; subst h3
    exact Or.inl ⟨v, (T.setVm vm₁).calling g' mk As.toArray, t, U', L, hT, X', hL, e1, e2, hq, st⟩
  · dsimp only [Pt.U, Pt.locs, Pt.cells, Pt.slots] at X' e1 e2 h1 h2 h3 st hcl
    subst h1; subst h2; subst h3
    exact Or.inr ⟨q, (T.setVm vm₁).calling g' mk As.toArray, t, U', L, E, ce, hT, X', hL, e1, e2, hq, hce, hcv, vx_cls hW₁ hcl, st⟩
end Runs
section Rows
variable {p : Program} {l : Launch} {e : Env} {R : Room} {s : State} {m : MethodId} {args : Array Value} {below : List Frame} {meth : Method} {c : Code} {H : Heap} {locs : List Loc} {cells slots : Nat} {Q : State → Prop}
variable {mc ms : Nat} {free : Addr → Prop} {A0 A1 : Nat → Prop} {H0 : Heap} {a : Array Value} {pc : Nat} {ls : Array Slot} {st0 rest : List Value}
/-- caught by the one row of this method's table -/
theorem xq_go {Q : Handler → Pre} {E : CtlPost} {e : Env} {d : Bool} {acts : List Action} {s : State} {f : JFrame} {a : Addr} {x : ExceptionTableEntry} {t : List ExceptionTableEntry} {c : ClassId} {cell : Cell} (hx : covers x f.pc = true) (h0 : x.catchType ≠ 0)
    (hl : s.vm.ClassLinks e.platform f.method.cls x.catchType c) (hcell : s.heap[a]? = some cell) (hobj : ∀ k, cell.vm ≠ .statics k)
    (hk : ∃ k, s.vm.classes[cell.cls]? = some k) (hc : ∃ k, s.vm.classes[c]? = some k) (hfit : s.vm.assignable cell.cls c = true) :
    wp (findHandler.go f a (x :: t)) Q E e d acts s ↔ Q (.found x.handlerPc) d acts (s.setVm (s.vm.noted f.method.cls x.catchType (.cls c))) := by
  simp only [covers] at hx
  obtain ⟨ha, ht⟩ := (resolveClass_links e.toSetting hl).op (op := VmOp.resolveClass f.method.cls x.catchType) rfl
  have hal : s.vm.Alike (s.vm.noted f.method.cls x.catchType (.cls c)) := (Vm.Alike.refl s.vm).noted _ _ _
  obtain ⟨k1, hk1⟩ := hk
  obtain ⟨k2, hk2⟩ := hc
  obtain ⟨k1', hk1', -⟩ := hal.2.2 _ _ hk1
  obtain ⟨k2', hk2', -⟩ := hal.2.2 _ _ hk2
  have hfit' : (s.vm.noted f.method.cls x.catchType (.cls c)).assignable cell.cls c = true := by rw [hal.assignable]; exact hfit
  simp [findHandler.go, hx, h0, ha, ht, hcell, hobj, hk1', hk2', hfit', VmOp.dirties, VmOp.acts]
def xq_F (e : Env) (s : State) (f : JFrame) (a : Addr) (h : Handler) (vm' : Vm) : Prop :=
  ∀ (Q : Handler → Pre) (E : CtlPost) (d : Bool) (acts : List Action), wp (findHandler f a) Q E e d acts s ↔ Q h d acts (s.setVm vm')
theorem xq_step {e : Env} {s : State} {a : Addr} {f : JFrame} {r : List Frame} {pc : Nat} {vm' : Vm} (hfind : xq_F e s f a (.found pc) vm') :
    (stepThrowing e s a (.java f :: r)).Is ((s.setVm vm').setFrames (.java { f with pc := pc, stack := [.ref a] } :: r)) [] := by
  simp only [stepThrowing, searchFrame, vmDo]
  generalize hr : Sem.go _ e false [] s = res
  obtain ⟨as, rfl, ha⟩ := Sem.eq_ok_of hr (a := Handler.found pc) (s' := s.setVm vm') (acts' := []) (by simp [hfind _ _ _ _])
  exact ⟨rfl, ha⟩
theorem xq_fr (u : State) (vm' : Vm) (F G : List Frame) : ((u.setFrames F).setVm vm').setFrames G = (u.setVm vm').setFrames G := by
  have h1 : (u.setFrames F).setVm vm' = (u.setVm vm').setFrames F := rfl
  rw [h1, State.setFrames_setFrames]
theorem xq_to {tb : Tables} {e : Env} {s target : State} {g : JFrame} {c : Code} {below : List Frame} {a : Addr} (h : At s g.method c below) {pc : Nat} {vm' : Vm}
    (hfind : xq_F e ((s.setTop g).pushFrame (.throwing a)) g a (.found pc) vm') (hrest : Steps tb e below ((s.setVm vm').setTop { g with pc := pc, stack := [.ref a] }) target) :
    Steps tb e below ((s.setTop g).pushFrame (.throwing a)) target := by
  obtain ⟨hgo, hw⟩ := h.throwing a
  refine Steps.head hgo hw ?_
  rw [stepThread_throwing (frames_entered h.top _), (xq_step (s := (s.setTop g).pushFrame (.throwing a)) hfind).1]
  obtain ⟨g₀, hg⟩ := Option.isSome_iff_exists.mp h.top
  obtain ⟨r, hr⟩ := State.topJava?_eq_some.mp hg
  have hr' : (s.setVm vm').frames = .java g₀ :: r := hr
  rw [State.setTop_of_frames _ hr'] at hrest
  rw [hr, List.tail_cons, State.pushFrame, xq_fr, State.setTop_of_frames _ hr, xq_fr]
  exact hrest
theorem vx_catch {own name : String} {E : String} {ce : Cell} {q : Addr} {pc : Nat} {ls : Array Slot} {rest : List Value} (hown : s.vm.findClass own = some m.cls) (x : ExceptionTableEntry) (hsplit : c.exceptionTable.toList = [x])
    (hx : covers x pc = true) (h0 : x.catchType ≠ 0)
    (hlink : (Cond.classLink own x.catchType name).before args s = true) (hcast : (Cond.castable E name).before args s = true) (hcell : H[q]? = some ce) (hv : ce.vm = .none) (hcl : s.vm.findClass E = some ce.cls)
    (kk : W p l e R s m args below meth c H locs cells slots Q (F0 m x.handlerPc ls [.ref q])) : vx_W p l e R s m args below meth c H locs cells slots Q (F0 m pc ls rest) q := by
  intro T hT X
  have hpl : e.platform.magicAccessors = ({} : Platform).magicAccessors := by rw [X.admits.platform]
  obtain ⟨c3, c4, hc3, hc4, hasg⟩ := Cond.castable_spec hcast
  cases Option.some.inj (hc3.symm.trans hcl)
  obtain ⟨c5, hc5, hcl5⟩ := Cond.classLink_spec hown hlink e.platform hpl
  cases Option.some.inj (hc4.symm.trans hc5)
  have hW := X.warmed
  obtain ⟨k9, h9, -⟩ := Vm.findClass_spec hcl
  obtain ⟨k9', hk9', -⟩ := hW.alike.2.2 _ _ h9
  obtain ⟨dk, _, _, kt, hd, _, _, _, _, hkt, _, hopen⟩ := hcl5.here
  obtain ⟨kt', hkt', -⟩ := hW.alike.2.2 _ _ hkt
  have hcellT : T.heap[q]? = some ce := by rw [hT]; exact hcell
  have hf : xq_F e ((T.setTop (F0 m pc ls rest)).pushFrame (.throwing q)) (F0 m pc ls rest) q (.found x.handlerPc) (T.vm.noted m.cls x.catchType (.cls c4)) := by
    intro Q E d acts
    rw [Jvm.W.findHandler_eq (meth := meth) (code := c) X.method' X.code, hsplit]
    exact xq_go (f := F0 m pc ls rest) hx h0 (hW.classLinks hcl5) hcellT (fun k => by rw [hv]; exact fun h => by cases h) ⟨k9', hk9'⟩ ⟨kt', hkt'⟩ (by show T.vm.assignable _ _ = true; rw [hW.alike.assignable]; exact hasg)
  obtain ⟨t, a1, b1⟩ := kk (T.setVm (T.vm.noted m.cls x.catchType (.cls c4))) hT (X.noted (hW.noted hd hopen (State.rightAt_cls hcl5)))
  exact ⟨t, xq_to X.here hf a1, b1⟩
end Rows
section Ends
variable {p : Program} {l : Launch} {e : Env} {R : Room} {s : State} {m : MethodId} {args : Array Value} {below : List Frame} {meth : Method} {c : Code} {H : Heap} {locs : List Loc} {cells slots : Nat} {Q : State → Prop}
variable {mc ms : Nat} {free : Addr → Prop} {A0 A1 : Nat → Prop} {H0 : Heap} {a : Array Value} {ls : Array Slot} {st0 rest : List Value}
variable {Qc : Array Value → State → Outcome → State → Prop} {XC : String → Addr → State → State → Prop}
/-- what a body that may throw owes at its end -/
def vx_MQ (below : List Frame) (Qc : Array Value → State → Outcome → State → Prop) (XC : String → Addr → State → State → Prop) (a : Array Value) (s : State) (mc ms : Nat) (free : Addr → Prop) : State → Prop := fun t =>
  ∃ o, t.status = .running ∧ Ended t below o ∧ vx_Q Qc XC mc ms free a s o t
theorem vx_ret {g : JFrame} {mc ms : Nat} (k : W p l e R s m args below meth c H locs cells slots (MQ below Qc args s mc ms free) g) : W p l e R s m args below meth c H locs cells slots (vx_MQ below Qc XC args s mc ms free) g := by
  intro T hT X
  obtain ⟨t, a1, o, b1, b2, b3, b4⟩ := k T hT X
  exact ⟨t, a1, o, b1, b2, Or.inl ⟨b3, b4⟩⟩
/-- not caught here: it goes on to the caller -/
theorem vx_widen {g : JFrame} {q : Addr} {k n : Nat} (h1 : cells ≤ k) (h2 : slots ≤ n) (kk : vx_W p l e R s m args below meth c H locs k n Q g q) : vx_W p l e R s m args below meth c H locs cells slots Q g q := fun T hT X => kk T hT (stand_widen X h1 h2)
theorem vx_out {pc : Nat} {E : String} {ce : Cell} {q : Addr} {mc ms : Nat} (hout : ∀ x ∈ c.exceptionTable.toList, covers x pc = false) (hlocks : meth.locks = false) (hcell : H[q]? = some ce) (hv : ce.vm = .none) (hcl : s.vm.findClass E = some ce.cls)
    (hx : ∀ t : State, t.heap = H → s.vm.Alike t.vm → XC E q s t) (hf : ∀ z ∈ locs, free z.base) (hc : cells ≤ mc) (hs : slots ≤ ms) :
    vx_W p l e R s m args below meth c H locs cells slots (vx_MQ below Qc XC args s mc ms free) (F0 m pc ls rest) q := by
  intro T hT X
  obtain ⟨st1, hrun, hend, hW, hsm⟩ := X.leaveThrown q (g := F0 m pc ls rest) rfl rfl rfl hout hlocks
  have hcell9 : (T.setFrames (.throwing q :: below)).heap[q]? = some ce := by
    show T.heap[q]? = some ce
    rw [hT]; exact hcell
  exact ⟨_, st1, .threw q, hrun, hend, Or.inr ⟨q, rfl, E, ce, locs, hx _ hT hW.alike, hcell9, hv, hcl, hW, hsm.mono hc hs, hf⟩⟩
theorem vx_frame {U : State} {k n : Nat} (h : s.sameButNew ({ U with vm := s.vm } : State) locs k n) : s.heap.size ≤ U.heap.size ∧ ∀ q : Nat, q < s.heap.size → (∀ z ∈ locs, z.base ≠ q) → U.heap[q]? = s.heap[q]? := by
  obtain ⟨-, h2, -, -, -, h6⟩ := h
  refine ⟨h2, fun q hq hz => ?_⟩
  obtain ⟨c9, e1, e2, e3, e4⟩ := h6 q _ (Array.getElem?_eq_getElem hq)
  have hs : c9.slots = (s.heap[q]).slots := Array.ext_getElem? fun i => e4 i fun hm => hz _ hm rfl
  have h9 : c9 = s.heap[q] := by
    rw [hs] at e2
    exact e2
  have e5 : U.heap[q]? = some c9 := e1
  rw [e5, h9, Array.getElem?_eq_getElem hq]
/-- the words of a throw but the four that speak of the heap -/
def vx_no (w : Cond) : Bool := decide (w ≠ .isRef (.static Bundle.tN "UNASSIGNED_STACK" Bundle.steD)) && decide (w ≠ .isRef (.static Bundle.tN "SUPPRESSED_SENTINEL" Bundle.listD)) && decide (w ≠ .laysStatic Bundle.tN "UNASSIGNED_STACK" Bundle.steD) && decide (w ≠ .laysStatic Bundle.tN "SUPPRESSED_SENTINEL" Bundle.listD)
def vx_atS (own : String) (ic : Nat) (X : String) (names : List String) : List Cond := (Bundle.ownAtoms own ic X names).filter vx_no
/-- a word that the tables alone decide, or a good one -/
def vx_ot (w : Cond) : Bool := w.onTables || goodWord w
theorem vx_ot_at {args a' : Array Value} {s U : State} {w : Cond} (hW : s.WarmedH U.vm) (hvm : s.vm = U.vm) (hg : vx_ot w = true) (h : w.before args s = true) : w.before a' U = true := by
  simp only [vx_ot, Bool.or_eq_true] at hg
  rcases hg with hg | hg
  · exact va_tabs hg hvm h
  · exact word_at hW (good_of_word hg) h
/-- a list's words: the good ones out of the method's own list, the others by premises of their own -/
theorem vx_hat {args : Array Value} {s : State} {L B : List Cond} (h1 : ∀ w ∈ L.filter goodWord, w.before args s = true) (h2 : ∀ w ∈ L.filter (fun w => !goodWord w), w ∈ B) (h3 : ∀ w ∈ B, w.before args s = true) : ∀ w ∈ L, w.before args s = true := by
  intro w hw
  by_cases g : goodWord w = true
  · exact h1 w (List.mem_filter.mpr ⟨hw, g⟩)
  · refine h3 w (h2 w (List.mem_filter.mpr ⟨hw, ?_⟩))
    show (!goodWord w) = true
    cases hgw : goodWord w
    · rfl
    · exact absurd hgw g
theorem vx_c {args : Array Value} {s : State} {w : Cond} {B : List Cond} (h : w.before args s = true) (t : ∀ w ∈ B, w.before args s = true) : ∀ w' ∈ w :: B, w'.before args s = true := fun w' h' => (List.mem_cons.mp h').elim (fun e => by rw [e]; exact h) (t w')
theorem vx_n {args : Array Value} {s : State} : ∀ w ∈ ([] : List Cond), w.before args s = true := fun _ h => nomatch h
theorem vx_own {args : Array Value} {s : State} {L : List Cond} (h1 : ∀ w ∈ L.filter vx_no, w.before args s = true)
    (hU : (Cond.isRef (.static Bundle.tN "UNASSIGNED_STACK" Bundle.steD)).before args s = true) (hN : (Cond.isRef (.static Bundle.tN "SUPPRESSED_SENTINEL" Bundle.listD)).before args s = true)
    (lU : (Cond.laysStatic Bundle.tN "UNASSIGNED_STACK" Bundle.steD).before args s = true) (lN : (Cond.laysStatic Bundle.tN "SUPPRESSED_SENTINEL" Bundle.listD).before args s = true) : ∀ w ∈ L, w.before args s = true := by
  intro w hw
  by_cases e1 : w = .isRef (.static Bundle.tN "UNASSIGNED_STACK" Bundle.steD)
  · rw [e1]; exact hU
  · by_cases e2 : w = .isRef (.static Bundle.tN "SUPPRESSED_SENTINEL" Bundle.listD)
    · rw [e2]; exact hN
    · by_cases e3 : w = .laysStatic Bundle.tN "UNASSIGNED_STACK" Bundle.steD
      · rw [e3]; exact lU
      · by_cases e4 : w = .laysStatic Bundle.tN "SUPPRESSED_SENTINEL" Bundle.listD
        · rw [e4]; exact lN
        · exact h1 w (List.mem_filter.mpr ⟨hw, by unfold vx_no; rw [decide_eq_true e1, decide_eq_true e2, decide_eq_true e3, decide_eq_true e4]; rfl⟩)
/-- where a static field lies, its class's statics cell in H -/
def vx_L (C n d : String) (A : Nat → Prop) (U : State) (H : Heap) : Prop := ∃ (c : ClassId) (k : Class) (i : Nat) (f : Field) (a : Nat) (cell : Cell), U.vm.findClass C = some c ∧ U.fieldFound? C n d = some (c, k, i, f) ∧ f.isStatic = true ∧ k.statics = some a ∧ H[a]? = some cell ∧ cell.vm.isStatics = true ∧ cell.cls = c ∧ f.slot < cell.slots.size ∧ k.staticTypes[f.slot]? = some f.type ∧ ¬ A a
theorem vx_L.moved {C n d : String} {A : Nat → Prop} {u U : State} {H : Heap} (hvm : u.vm.Alike U.vm) (h : vx_L C n d A u H) : vx_L C n d A U H := by
  obtain ⟨c, k, i, f, a, cell, h1, h2, h3, h4, h5, h6, h7, h8, h9, h10⟩ := h
  obtain ⟨k', hi', he⟩ := State.fieldFound?_setVm hvm h2
  exact ⟨c, k', i, f, a, cell, by rw [hvm.findClass]; exact h1, hi', h3, by rw [he]; exact h4, h5, h6, h7, h8, by rw [he]; exact h9, h10⟩
theorem vx_L.kept {C n d : String} {A : Nat → Prop} {U : State} {H H1 : Heap} (h : vx_L C n d A U H) (hq : ∀ a : Nat, a < H.size → ¬ A a → H1[a]? = H[a]?) : vx_L C n d A U H1 := by
  obtain ⟨c, k, i, f, a, cell, h1, h2, h3, h4, h5, h6, h7, h8, h9, h10⟩ := h
  exact ⟨c, k, i, f, a, cell, h1, h2, h3, h4, by rw [hq a (Array.getElem?_eq_some_iff.mp h5).1 h10]; exact h5, h6, h7, h8, h9, h10⟩
theorem vx_L.narrow {C n d : String} {A B : Nat → Prop} {U : State} {H : Heap} (h : vx_L C n d A U H) (hAB : ∀ q, B q → A q) : vx_L C n d B U H := by
  obtain ⟨c, k, i, f, a, cell, h1, h2, h3, h4, h5, h6, h7, h8, h9, h10⟩ := h
  exact ⟨c, k, i, f, a, cell, h1, h2, h3, h4, h5, h6, h7, h8, h9, fun z => h10 (hAB _ z)⟩
theorem vx_L.word {C n d : String} {A : Nat → Prop} {s : State} {args : Array Value} (h : vx_L C n d A s s.heap) : (Cond.laysStatic C n d).before args s = true := by
  obtain ⟨c, k, i, f, a, cell, h1, h2, h3, h4, h5, h6, h7, h8, h9, -⟩ := h
  show (Cond.laysStatic C n d).holds args s none s [] = true
  exact Cond.laysStatic_of h1 h2 h3 h4 h5 h6 h7 h8 h9
/-- .. and what it holds: null or some reference -/
def vx_Zq (C n d : String) (A : Nat → Prop) (U : State) (H : Heap) : Prop := va_Zq C n d A U H ∧ vx_L C n d A U H
theorem vx_Zq.moved {C n d : String} {A : Nat → Prop} {u U : State} {H : Heap} (hvm : u.vm.Alike U.vm) (h : vx_Zq C n d A u H) : vx_Zq C n d A U H := ⟨va_Zq.moved hvm h.1, vx_L.moved hvm h.2⟩
theorem vx_Zq.kept {C n d : String} {A : Nat → Prop} {U : State} {H H1 : Heap} (h : vx_Zq C n d A U H) (hq : ∀ a : Nat, a < H.size → ¬ A a → H1[a]? = H[a]?) : vx_Zq C n d A U H1 := ⟨va_Zq.kept h.1 hq, vx_L.kept h.2 hq⟩
theorem vx_Zq.narrow {C n d : String} {A B : Nat → Prop} {U : State} {H : Heap} (h : vx_Zq C n d A U H) (hAB : ∀ q, B q → A q) : vx_Zq C n d B U H := ⟨va_Zq.narrow h.1 hAB, vx_L.narrow h.2 hAB⟩
theorem vx_Zqof {args : Array Value} {s : State} {C n d : String} {A : Nat → Prop} (hl : (Cond.laysStatic C n d).before args s = true) (hini : (Cond.initialized C).before args s = true) (h : (Cond.isRef (.static C n d)).before args s = true) (hA : ∀ a : Nat, a < s.heap.size → ¬ A a) : vx_Zq C n d A s s.heap := by
  refine ⟨va_Zqof hl hini h hA, ?_⟩
  obtain ⟨c, k, i, f, a, cell, h1, h2, h3, h4, h5, h6, h7, h8, h9⟩ := Cond.laysStatic_spec hl
  exact ⟨c, k, i, f, a, cell, h1, h2, h3, h4, h5, h6, h7, h8, h9, hA a (Array.getElem?_eq_some_iff.mp h5).1⟩
theorem vx_isRef {C n d : String} {v : Value} {A : Nat → Prop} {s : State} {args : Array Value} (h : va_Z C n d v A s s.heap) (hv : v.isRef = true) : (Cond.isRef (.static C n d)).before args s = true := by
  obtain ⟨cf, kf, fi, f, a, cell, h1, h2, h3, h4, h5, h6, h7, -⟩ := h
  have he : (Term.static C n d).eval args s none [] s = some v := by
    simp [Term.eval, State.fieldNamed?, h1, h2, h4, h5, h6, h7]
  simp only [Cond.before, Cond.holds, Cond.value, he]
  cases v <;> simp_all [Value.isRef]
theorem vx_isRefq {C n d : String} {A : Nat → Prop} {s : State} {args : Array Value} (h : va_Zq C n d A s s.heap) : (Cond.isRef (.static C n d)).before args s = true := by
  rcases h with h | ⟨t, h⟩
  · exact vx_isRef h rfl
  · exact vx_isRef h rfl
/-- the same frame, seen from here: as if the method were called anew in this heap -/
theorem vx_rebase {T : State} (X : Stand p l e R s m args below meth c T locs cells slots) {R' : Room} (hf : R'.frames ≤ R.frames) (hl : R'.locals ≤ R.locals) (hc : cells + R'.cells ≤ R.cells) (hs : slots + R'.slots ≤ R.slots) :
    Stand p l e R' ((T.setVm s.vm).setFrames (.invoking m args :: below)) m args below meth c T [] 0 0 := by
  have htop : (T.setVm s.vm).topJava?.isSome := X.here.top
  have hF : ((T.setVm s.vm).setFrames (.invoking m args :: below)).frames = .invoking m args :: below := State.frames_setFrames _ (State.cur_lt_of_top htop)
  obtain ⟨g₀, hg0⟩ := Option.isSome_iff_exists.mp htop
  obtain ⟨r, hr⟩ := State.topJava?_eq_some.mp hg0
  have hl9 : e.platform.stackLimits (T.setVm s.vm).me = e.platform.stackLimits s.me := X.limits
  have hb9 : (T.setVm s.vm).me.stackBytes = s.me.stackBytes := X.bytes
  refine ⟨X.admits, X.cas, X.clock, hF, ?_, X.hears, X.method, X.code, X.here, X.tail, X.warmed, ?_, ?_, ?_⟩
  · have h := X.room
    have hU : ((T.setVm s.vm).setFrames (.invoking m args :: below)).localsInUse = s.localsInUse := by
      rw [State.localsInUse_invoking hF (meth := meth) (c := c) X.method X.code, State.localsInUse_invoking X.frames X.method X.code]
    simp only [State.hasRoom, Bool.and_eq_true, decide_eq_true_eq] at h ⊢
    obtain ⟨⟨⟨⟨h1, h2, h3, h4, h5, h6⟩, h7⟩, h8⟩, h9⟩ := h
    rw [X.frames, List.length_cons] at h2 h3
    have q1 := X.heapSize
    have q2 := X.used
    simp only [hF, hU, List.length_cons, State.stackLimits_setFrames, State.stackBytes_setFrames, hl9, hb9]
    refine ⟨⟨⟨⟨by omega, by omega, by omega, by omega, by omega, h6⟩, ?_⟩, ?_⟩, X.book⟩
    · show T.heap.size + R'.cells ≤ e.platform.maxCells
      omega
    · show T.slotsUsed + R'.slots ≤ e.platform.maxSlots
      omega
  · rw [State.stackLimits_setFrames]; rfl
  · rw [State.stackBytes_setFrames]; rfl
  · refine ⟨?_, Nat.le_refl _, Nat.le_refl _, ?_, ?_, fun a c9 h9 => ⟨c9, h9, rfl, rfl, fun _ _ => rfl⟩⟩
    · obtain ⟨t, ht, -⟩ := State.frames_cons hr
      show T.setVm s.vm = { ((T.setVm s.vm).setFrames (.invoking m args :: below)).setFrames (T.setVm s.vm).frames with heap := T.heap, slotsUsed := T.slotsUsed }
      rw [State.setFrames_setFrames, State.setFrames_self ht]
      rfl
    · show T.slotsUsed = T.slotsUsed + ((T.heap.toList.drop T.heap.size).map (·.slots.size)).sum
      rw [List.drop_eq_nil_of_le (Nat.le_of_eq Array.length_toList)]
      rfl
    · show ((T.heap.toList.drop T.heap.size).map (·.slots.size)).sum ≤ 0
      rw [List.drop_eq_nil_of_le (Nat.le_of_eq Array.length_toList)]
      exact Nat.le_refl _
/-- 'throw new E("text")': new; dup; ldc; invokespecial; athrow -/
theorem vx_throwS {cc : ByteArray} {pc : Nat} (hexec : p.tables.exec = Jvm.exec) (hb : c.code = cc) (hl : l.stackTraces = false) {own cls text : String} {names : List String} {ik is ic mc ms sa : Nat} {A : Nat → Prop}
    (hown : s.vm.findClass own = some m.cls) (hcls : Bundle.fit cls = true) (hnames : ∀ n ∈ names, Bundle.fit n = true)
    (hk : (Cond.classLink own ik cls).before args s = true) (hini : (Cond.initialized cls).before args s = true) (hstr : vk_R own is text sa s) (hat : ∀ w ∈ vx_atS own ic cls names, w.before args s = true)
    (hgood : ∀ w ∈ Cond.classLink own ik cls :: Cond.initialized cls :: vx_atS own ic cls names, vx_ot w = true)
    (hU : vx_Zq Bundle.tN "UNASSIGNED_STACK" Bundle.steD A s s.heap) (hN : vx_Zq Bundle.tN "SUPPRESSED_SENTINEL" Bundle.listD A s s.heap) (hS : va_S A s.heap H locs) (hsize : ls.size = c.maxLocals)
    (d0 : decode cc pc = .ok (.new ik, 3)) (d3 : decode cc (pc + 3) = .ok (.dup, 1)) (d4 : decode cc (pc + 4) = .ok (.ldc is, 2)) (d6 : decode cc (pc + 6) = .ok (.invokespecial ic, 3)) (d9 : decode cc (pc + 9) = .ok (.athrow, 1))
    (hout : ∀ x ∈ c.exceptionTable.toList, covers x (pc + 9) = false)
    (hRframes : names.length + 3 < R.frames) (hRlocals : (rest.map fun v => v.category).sum + (13 * (names.length + 1) + 43) ≤ R.locals) (hRcells : cells + 1 ≤ R.cells) (hRslots : slots + 6 ≤ R.slots) (hlocks : meth.locks = false)
    (hx : ∀ t : State, s.vm.Alike t.vm → H.size ≤ t.heap.size → (∀ q : Nat, q < H.size → t.heap[q]? = H[q]?) → ∀ q : Addr, XC cls q s t)
    (hf : ∀ z ∈ locs, free z.base) (hc : cells + 1 ≤ mc) (hs : slots + 6 ≤ ms) :
    W p l e R s m args below meth c H locs cells slots (vx_MQ below Qc XC args s mc ms free) (F0 m pc ls rest) := by
  intro T hT X
  have htr : e.platform.stackTraces = false := (show e.platform.stackTraces = l.stackTraces by rw [X.admits.platform]).trans hl
  have Y := vx_rebase X (R' := { frames := R.frames, locals := R.locals, cells := 1, slots := 6 }) (Nat.le_refl _) (Nat.le_refl _) hRcells hRslots
  obtain ⟨s', hA⟩ : ∃ z, z = (T.setVm s.vm).setFrames (.invoking m args :: below) := ⟨_, rfl⟩
  rw [← hA] at Y
  have hvm : s'.vm = s.vm := by rw [hA]; rfl
  have hhp : s'.heap = H := by rw [hA]; exact hT
  have hW0 : s.WarmedH s'.vm := by rw [hvm]; exact State.WarmedH.refl s
  have hat' : ∀ w ∈ vx_atS own ic cls names, w.before args s' = true := fun w hw => vx_ot_at hW0 hvm.symm (hgood w (List.mem_cons_of_mem _ (List.mem_cons_of_mem _ hw))) (hat w hw)
  have hk' : (Cond.classLink own ik cls).before args s' = true := vx_ot_at hW0 hvm.symm (hgood _ List.mem_cons_self) hk
  have hini' : (Cond.initialized cls).before args s' = true := vx_ot_at hW0 hvm.symm (hgood _ (List.mem_cons_of_mem _ List.mem_cons_self)) hini
  have hU' : vx_Zq Bundle.tN "UNASSIGNED_STACK" Bundle.steD A s' s'.heap := by rw [hhp]; exact vx_Zq.moved hW0.alike (hU.kept hS.2.1)
  have hN' : vx_Zq Bundle.tN "SUPPRESSED_SENTINEL" Bundle.listD A s' s'.heap := by rw [hhp]; exact vx_Zq.moved hW0.alike (hN.kept hS.2.1)
  have h : ∀ w ∈ Bundle.ownAtoms own ic cls names, w.before args s' = true := vx_own hat' (vx_isRefq hU'.1) (vx_isRefq hN'.1) hU'.2.word hN'.2.word
  have hown' : s'.vm.findClass own = some m.cls := by rw [hvm]; exact hown
  have hins : (Cond.instantiable cls 6).before args s' = true := h _ (by simp [Bundle.ownAtoms])
  obtain ⟨vm₁, cX, kX, hfX, hkX, -, -, X₁, st1⟩ := Y.newCold hexec (own := own) (C := cls) (index := ik) (n := 6) hown' hk' hins hini'
    (g := F0 m pc ls rest) rfl (by rw [hb]; exact d0) (Nat.le_refl _) (Nat.le_refl _)
  generalize hT1 : (T.setVm vm₁).pushCell { cls := cX, slots := kX.instanceTypes.map defaultValue, vm := .none } = T1 at X₁ st1
  have hcat : (Value.ref T.heap.size).category = 1 := rfl
  have hcellA : T1.heap[T.heap.size]? = some (freshCell cX kX) := by rw [← hT1]; exact State.heap_pushCell_size _ _
  have d3' : decode c.code (pc + 3) = .ok (.dup, 1) := by rw [hb]; exact d3
  have d4' : decode c.code (pc + 4) = .ok (.ldc is, 2) := by rw [hb]; exact d4
  have hstr' : vk_R own is text sa s' := vk_R.warm hW0 hstr
  obtain ⟨U, hsteps, hrun, hend, hW, hsame, ce, hce, hO⟩ := X₁.ctorThrowS hexec htr (own := own) (cls := cls) (names := names) (ic := ic) hown' hcls hnames h (fun x hx => nomatch hx) hfX hkX hcellA (by rw [hhp, hT]; exact Nat.le_refl _) (msg := .ref sa) rfl
    (g := { method := m, pc := pc + 6, locals := ls, stack := .ref sa :: .ref T.heap.size :: .ref T.heap.size :: rest, locked := none }) rfl hsize rfl rfl (rest := rest) rfl
    (by rw [hb]; exact d6) (by rw [hb]; exact d9) hout hRframes (by simp only [List.map_cons, List.sum_cons, hcat]; omega) hlocks
  obtain ⟨f1, f2⟩ := vx_frame hsame
  rw [hhp] at f1 f2
  have hWs : s.WarmedH U.vm := State.WarmedH.trans hW0 hW
  have hcl : s.vm.findClass cls = some ce.cls := by
    have h9 := hO.cls
    rw [hvm] at h9
    exact h9
  have hall : s.sameButNew ({ U with vm := s.vm } : State) locs mc ms := by
    subst hA
    obtain ⟨e1, e2⟩ := hsame
    rw [State.setFrames_setFrames] at e1
    have h2 : (T.setVm s.vm).sameButNew ({ U with vm := s.vm } : State) [] (0 + 1) (0 + 6) := ⟨e1, e2⟩
    have h3 := X.same.trans h2
    rw [List.append_nil] at h3
    exact h3.mono hc hs
  refine ⟨U, ?_, .threw T.heap.size, hrun, hend, Or.inr ⟨T.heap.size, rfl, cls, ce, locs, hx U hWs.alike f1 (fun q hq => f2 q hq (fun z hz => nomatch hz)) _, hce, hO.vm, hcl, hWs, hall, hf⟩⟩
  refine st1 _ ?_
  show Steps p.tables e below (T1.setTop { method := m, pc := pc + 3, locals := ls, stack := .ref T.heap.size :: rest, locked := none }) _
  jvm_step X₁.here [X₁.here.top, hexec, d3', Value.category]
  exact X₁.ldcString hexec (own := own) (text := text) (index := is) (a := sa) hown' hstr'.1 hstr'.2
    (g := { method := m, pc := pc + 4, locals := ls, stack := .ref T.heap.size :: .ref T.heap.size :: rest, locked := none }) rfl d4' _ hsteps
end Ends
section Bodies
variable {l : Launch}
theorem vx_ofW {y : MethodName} {ws ws' : List Cond} {rm : Room} {Pc : Array Value → State → Prop} {Qc : Array Value → State → Outcome → State → Prop} {XC : String → Addr → State → State → Prop} {mc ms : Nat} {free : Addr → Prop} {cc : ByteArray} {maxL : Nat} {ret : Option FieldType}
    (hy : plainName y.cls = true) (hw : ws = Cond.code y cc maxL ret :: ws')
    (body : ∀ p e s m args below meth c s₁, BodyLoose p l y (headSpec ws rm) cc maxL ret e s m args below meth c s₁ → c.maxLocals = maxL → (∀ x ∈ c.exceptionTable.toList, False) → Pc args s →
      W p l e (headSpec ws rm).room s m args below meth c s.heap [] 0 0 (vx_MQ below Qc XC args s mc ms free) (entryFrame m args maxL)) : vx_Met l y ws rm Pc Qc XC mc ms free := by
  refine MetFree.of_bodyS (code := cc) (maxLocals := maxL) (ret := ret) hy ?_ ?_
  · intro args s m h hn
    obtain ⟨meth, c, h1, h2, h3, h4, h5, h6, -, -⟩ := Cond.code_spec hn (atoms_spec (ws := ws) h _ (by rw [hw]; exact List.mem_cons_self))
    exact ⟨meth, c, h1, h2, h3, h4, h5, h6⟩
  · intro p e s m args below meth c s₁ B hml hP _
    have hh0 : s₁.heap = s.heap := by rw [B.state]; rfl
    have ht : ∀ x ∈ c.exceptionTable.toList, False := by
      obtain ⟨meth9, c9, h1, h2, -, -, -, -, h7, -⟩ := Cond.code_spec B.named (atoms_spec (ws := ws) B.pre _ (by rw [hw]; exact List.mem_cons_self))
      cases Option.some.inj (h1.symm.trans B.method)
      cases Option.some.inj (h2.symm.trans (Stand.of_body B).code)
      intro x hx
      rw [Array.isEmpty_iff.mp h7] at hx
      cases hx
    obtain ⟨t, a1, o, b1, b2, b3⟩ := body p e s m args below meth c s₁ B hml ht hP s₁ hh0 (Stand.of_body B)
    exact ⟨t, o, a1, b1, b2, b3⟩
/-- the table of a body with handlers -/
theorem vx_table {p : Program} {x y : MethodName} {S : Spec} {cc bytes : ByteArray} {maxL maxL' : Nat} {ret ret' : Option FieldType} {e : Env} {s s₁ : State} {m : MethodId} {args : Array Value} {below : List Frame} {meth : Method} {c : Code} {hh : List (Nat × Nat × Nat × Nat)}
    (B : BodyLoose p l y S cc maxL ret e s m args below meth c s₁) (h : (Cond.codeWith y bytes maxL' ret' hh).before args s = true) : c.exceptionTable.toList = tableOf hh := by
  obtain ⟨m9, meth9, c9, hn9, h1, h2, -, -, h6, -⟩ := Cond.codeWith_spec h
  cases Option.some.inj (hn9.symm.trans B.named)
  cases Option.some.inj (h1.symm.trans B.method)
  cases Option.some.inj (h2.symm.trans (Stand.of_body B).code)
  rw [← h6, table_eq]
end Bodies
end VXA
/-! ===== END ===== -/
/-! ===== BEGIN a static call of a method with an exception table ===== -/
section VXS
variable {p : Program} {l : Launch} {e : Env} {R : Room} {s : State} {m : MethodId} {args : Array Value} {below : List Frame} {meth : Method} {c : Code} {T : State} {H : Heap} {locs : List Loc} {cells slots : Nat}
abbrev vx_CSW (R : Room) (s : State) (args : Array Value) (own : String) (index : Nat) (y : MethodName) (bytes : ByteArray) (maxL : Nat) (ret : Option FieldType) (hh : List (Nat × Nat × Nat × Nat)) (ws : List Cond) (rm : Room) (mc ms n : Nat) : Prop :=
  (rm.cells = mc ∧ rm.slots = ms ∧ rm.frames + 1 ≤ R.frames ∧ 8 + (maxL + 11) + rm.locals ≤ R.locals ∧ (∀ w ∈ ws, ∀ (a' : Array Value) (U : State), s.WarmedH U.vm → w.before a' U = true) ∧ Cond.codeWith y bytes maxL ret hh ∈ ws) ∧
  (Cond.codeWith y bytes maxL ret hh).before args s = true ∧ (Cond.initialized y.cls).before args s = true ∧ (y.cls ≠ "java/lang/invoke/MethodHandle" ∧ y.cls ≠ "java/lang/invoke/VarHandle") ∧
  (∀ sig, parseMethodDescriptor y.desc = some sig → n = sig.parameters.length) ∧ (Cond.methodLink own index y).before args s = true ∧ (Cond.static y).before args s = true
theorem vx_cwSW {own : String} {index maxL mc ms : Nat} {y : MethodName} {bytes : ByteArray} {ret : Option FieldType} {hh : List (Nat × Nat × Nat × Nat)} {Ts ws ws' : List Cond} {rm : Room} (n : Nat) (ht : ∀ w ∈ Ts, w.before args s = true) (hT : GoodIn Ts (va_wsS own index y ws)) (hw : ws = Cond.codeWith y bytes maxL ret hh :: ws') (hrc : rm.cells = mc) (hrs : rm.slots = ms)
    (hd : y.cls ≠ "java/lang/invoke/MethodHandle" ∧ y.cls ≠ "java/lang/invoke/VarHandle" ∧ (parseMethodDescriptor y.desc).map (fun d => d.parameters.length) = some n) (hR : rm.frames + 1 ≤ R.frames ∧ 8 + (maxL + 11) + rm.locals ≤ R.locals) :
    vx_CSW R s args own index y bytes maxL ret hh ws rm mc ms n := by
  have ok : ∀ w ∈ va_wsS own index y ws, w.before args s = true := fun w h => ht w (hT w h).1
  have hG : GoodIn Ts ws := fun w h => hT w (by unfold va_wsS; exact List.mem_append_right _ h)
  have hc : Cond.codeWith y bytes maxL ret hh ∈ ws := by rw [hw]; exact List.mem_cons_self
  refine ⟨⟨hrc, hrs, hR.1, hR.2, pay_in ht hG, hc⟩, ht _ (hG _ hc).1, ok _ (by simp [va_wsS]), ⟨hd.1, hd.2.1⟩, fun sig h => ?_, ok _ (by simp [va_wsS]), ok _ (by simp [va_wsS])⟩
  have h2 := hd.2.2
  rw [h] at h2
  exact (Option.some.inj h2).symm
theorem vx_callSW (X : Stand p l e R s m args below meth c T locs cells slots) (hexec : p.tables.exec = Jvm.exec) {own : String} {index : Nat} {y : MethodName} {bytes : ByteArray} {maxL : Nat} {ret : Option FieldType} {hh : List (Nat × Nat × Nat × Nat)}
    (hown : s.vm.findClass own = some m.cls) (hlink : (Cond.methodLink own index y).before args s = true) (hstat : (Cond.static y).before args s = true) (hinit : (Cond.initialized y.cls).before args s = true)
    (hcode : (Cond.codeWith y bytes maxL ret hh).before args s = true) (hy : y.cls ≠ "java/lang/invoke/MethodHandle" ∧ y.cls ≠ "java/lang/invoke/VarHandle")
    {W9 : Nat} {Pre : Pt → Array Value → Prop} {Post : Pt → Array Value → Option Value → Pt → Prop} (hK : Back l R p e below s args y 3 W9 Pre Post)
    {g : JFrame} (hg : g.method = m) (hsize : g.locals.size = c.maxLocals) {argsL rest : List Value} (hlen : ∀ sig, parseMethodDescriptor y.desc = some sig → argsL.length = sig.parameters.length)
    (hstack : g.stack = argsL.reverse ++ rest) (hW : 2 * g.monitorRoom + (rest.map fun v => v.category).sum ≤ W9) (hdg : decode c.code g.pc = .ok (.invokestatic index, 3))
    (hpre : ∀ vm₁, s.WarmedH vm₁ → Pre ⟨T.setVm vm₁, locs, cells, slots⟩ argsL.toArray) :
    ∃ (v : Option Value) (vm₁ : Vm) (B : Pt), s.WarmedH vm₁ ∧ Stand p l e R s m args below meth c B.U B.locs B.cells B.slots ∧ Post ⟨T.setVm vm₁, locs, cells, slots⟩ argsL.toArray v B ∧
      ∀ target, Steps p.tables e below (B.U.setTop { g with pc := g.pc + 3, stack := v.toList ++ rest }) target → Steps p.tables e below (T.setTop g) target := by
  obtain ⟨mk, methM, cM, hnamed, hmethM, -, -, -, -, -, -, hsigM⟩ := Cond.codeWith_spec hcode
  have hstatic : methM.isStatic = true := Cond.static_spec hnamed hmethM hstat
  obtain ⟨kP, hkP, -⟩ := className_of_methodNamed hnamed
  have hinitP : kP.init = .initialized := Cond.initialized_spec (findClass_of_methodNamed hnamed) hkP hinit
  obtain ⟨vm₁, X₁, hstep₁⟩ := X.invokestatic hexec hown hlink hnamed hmethM hstatic hkP hinitP hy (g := g) hg (argsL := argsL) (rest := rest) (hlen _ hsigM) hstack hdg
  obtain ⟨v, B, X', hpost, hsteps⟩ := hK m meth c ⟨T.setVm vm₁, locs, cells, slots⟩ { g with stack := rest } (.invokestatic index) mk argsL.toArray X₁ hg hsize hdg hW (X₁.named hnamed) (hpre vm₁ X₁.warmed)
  exact ⟨v, vm₁, B, X₁.warmed, X', hpost, fun target h => hstep₁ _ fun acts => by rw [doInvoke_state]; exact hsteps.trans h⟩
theorem vx_runSW {y : MethodName} {bytes cc : ByteArray} {maxL nL mc ms n index : Nat} {ret : Option FieldType} {hh : List (Nat × Nat × Nat × Nat)} {ws : List Cond} {rm : Room} {Pc : Array Value → State → Prop} {Qc : Array Value → State → Outcome → State → Prop} {free : Addr → Prop} {Ts : List Cond} {own : String} {As rest : List Value} {g : JFrame}
    (S : CallFix p m c cc nL s args Ts own) (hM : Met l y ws rm Pc Qc mc ms free) (cw : vx_CSW R s args own index y bytes maxL ret hh ws rm mc ms n) (hp : PreS s H Pc As)
    (hg : g.method = m) (hn : As.length = n) (hsize : g.locals.size = nL) (hstack : g.stack = As.reverse ++ rest) (hW : 2 * g.monitorRoom + (rest.map fun v => v.category).sum ≤ 8) (hdg : decode cc g.pc = .ok (.invokestatic index, 3)) (hf : cells + mc ≤ R.cells ∧ slots + ms ≤ R.slots) :
    va_Run p l e R s m args below meth c H locs cells slots mc ms g rest (Qc As.toArray) (free) := by
  obtain ⟨⟨hrc, hrs, hfr, hlo, hws, hcw⟩, hcode, hini, hy, hlen, hl, hstt⟩ := cw
  have hK : Back l R p e below s args y 3 8 (PreOf R mc ms Pc) (PostOf Qc mc ms free) := va_backW (hh := hh) (bytes := bytes) (maxL := maxL) (ret := ret) hM hp.1 hrc hrs hfr hlo hws hcw (fun a' U hW => word_at hW (Or.inl (by first | rfl | simp [Cond.onTables, Cond.keeps, Cond.steady])) hini)
  obtain ⟨hx, hb, hml, ho, -⟩ := S
  intro T hT X
  obtain ⟨v, vm₁, ⟨U', l2, c2, s2⟩, hW₁, X', ⟨g', mk, t, L, e1, e2, hq, h1, hL, h2, h3⟩, st⟩ := vx_callSW X hx (hh := hh) (bytes := bytes) (maxL := maxL) (ret := ret) ho hl hstt hini hcode hy hK hg (hsize.trans hml.symm) (argsL := As) (rest := rest) (fun sig h => hn.trans (hlen sig h)) hstack hW (by rw [hb]; exact hdg)
    (fun vm₁ hW₁ => ⟨hf.1, hf.2, hp.2 (T.setVm vm₁) hT hW₁⟩)
  dsimp only [Pt.U, Pt.locs, Pt.cells, Pt.slots] at X' e1 e2 h1 h2 h3 st
  subst h1; subst h2; subst h3
  exact ⟨v, (T.setVm vm₁).calling g' mk As.toArray, t, U', L, hT, X', hL, e1, e2, hq, st⟩
/-- a thing of a world lies in the heap -/
theorem vx_lt {D : va_G} {cl : List vw_C} {ws : va_W} {H1 : Heap} (h : va_P D cl ws H1) {k : Nat} {q : Nat × va_E} (hk : ws[k]? = some q) : q.1 < H1.size := (h k q hk).lt
end VXS
/-! ===== END ===== -/
/-! ===== BEGIN methods with a table of their own: called by a name, returning or throwing ===== -/
section VXH
/-! vx_backW, vx_callVX, vx_callSX, vx_callVW, vx_runVW, vx_runVX, vx_runSX, vx_ofWH follow the same proofs as their sisters above (Free/Laws.lean, Shelf42/LK1.lean); vx_outP calls Shelf42/NT130.lean (outThrough). -/
section
variable {l : Launch} {R : Room} {p : Program} {e : Env} {below : List Frame} {s : State} {sargs : Array Value} {y : MethodName} {len W9 : Nat}
theorem vx_backW {ws : List Cond} {rm : Room} {Pc : Array Value → State → Prop} {Qc : Array Value → State → Outcome → State → Prop} {XC : String → Addr → State → State → Prop} {mc ms : Nat} {free : Addr → Prop} {bytes : ByteArray} {maxL : Nat} {ret : Option FieldType} {hh : List (Nat × Nat × Nat × Nat)}
    (hM : vx_Met l y ws rm Pc Qc XC mc ms free) (hblind : FrameBlind Pc) (hrc : rm.cells = mc) (hrs : rm.slots = ms)
    (hframes : rm.frames + 1 ≤ R.frames) (hlocals : W9 + (maxL + 11) + rm.locals ≤ R.locals)
    (hws : ∀ w ∈ ws, ∀ a' U, s.WarmedH U.vm → w.before a' U = true) (hcode : Cond.codeWith y bytes maxL ret hh ∈ ws) (hinit : ∀ a' U, s.WarmedH U.vm → (Cond.initialized y.cls).before a' U = true) :
    vx_Back l R p e below s sargs y len W9 (PreOf R mc ms Pc) (PostOf Qc mc ms free) (vx_Post XC mc ms free) := by
  intro m meth c A g ig mk a X hg hsize hdg hW hn hp
  have h1 : (headSpec ws rm).pre.before a A.U = true := atoms_intro fun w hw => hws w hw _ _ X.warmed
  have h2 : (Cond.codeWith y bytes maxL ret hh).before a A.U = true := hws _ hcode _ _ X.warmed
  have h3 : (Cond.initialized y.cls).before a A.U = true := hinit _ _ X.warmed
  have h4 : A.cells + (headSpec ws rm).room.cells ≤ R.cells := by rw [show (headSpec ws rm).room.cells = mc from hrc]; exact hp.1
  have h5 : A.slots + (headSpec ws rm).room.slots ≤ R.slots := by rw [show (headSpec ws rm).room.slots = ms from hrs]; exact hp.2.1
  have hPc : Pc a (A.U.calling g mk a) := hblind _ _ _ _ hp.2.2
  obtain ⟨U, Ls, c0, s0⟩ := A
  dsimp only [Pt.U, Pt.locs, Pt.cells, Pt.slots] at h1 h2 h3 h4 h5 X hn hPc ⊢
  obtain ⟨m9, methY, cY, hn9, hmY, hcY, -, hlY, -⟩ := Cond.codeWith_spec h2
  cases Option.some.inj (hn9.symm.trans hn)
  obtain ⟨kY, hkY, -⟩ := className_of_methodNamed hn
  have hinitY : kY.init = .initialized := Cond.initialized_spec (findClass_of_methodNamed hn) hkY h3
  have h : At U g.method c below := by rw [hg]; exact X.here
  have hlocals9 : W9 + (maxL + 11) + (headSpec ws rm).room.locals ≤ R.locals := hlocals
  have happ : (headSpec ws rm).appliesLoose y e.platform (U.calling g mk a) = true :=
    Spec.appliesLoose_calling (g := g) h hdg hn hkY hinitY
      (X.room_calling (g := g) (R' := (headSpec ws rm).room) hsize hmY hcY hframes (by rw [hlY]; omega) h4 h5) h1
  obtain ⟨mid, hmid⟩ := h.above
  have hfr : (U.setTop g).frames = (.java g :: mid) ++ below := by rw [State.frames_setTop' g h.top, hmid]; rfl
  obtain ⟨o, s₂, hsteps, -, hend, hq⟩ := Steps.callFree hM p X.admits X.cas X.clock (acts := []) hfr happ hPc trivial
  have hq' : vx_Q Qc XC mc ms free a (U.calling g mk a) o s₂ := hq
  rw [State.frames_setTop' g h.top] at hend
  obtain ⟨g₀, hg0⟩ := Option.isSome_iff_exists.mp h.top
  obtain ⟨r, hr⟩ := State.topJava?_eq_some.mp hg0
  have hr' : (({ U with heap := s₂.heap, slotsUsed := s₂.slotsUsed } : State).setVm s₂.vm).frames = .java g₀ :: r := hr
  rcases hq' with ⟨hqc, L, hfe, hL⟩ | ⟨q, rfl, E, ce, L, hx, hce, hcv, hcl, hW₂, hsm, hL⟩
  · obtain ⟨⟨v, rfl⟩, hW₂, e2, q2, q3, q4, q5, q6⟩ := id hfe
    have e3 : s₂ = ({ (U.calling g mk a).setFrames s₂.frames with heap := s₂.heap, slotsUsed := s₂.slotsUsed } : State).setVm s₂.vm := by
      have : s₂ = ({ s₂ with vm := (U.calling g mk a).vm } : State).setVm s₂.vm := rfl
      rw [e2] at this
      exact this
    obtain ⟨c₂, i₂, len₂, hc₂, hd₂, hf₂⟩ := hend
    have hW' : U.WarmedH s₂.vm := hW₂
    have hcc : c₂ = c := by
      have h1 : s₂.code? g.method = U.code? g.method := by
        rw [State.code?_eq, State.code?_eq, hW'.alike.method?]
      exact Option.some.inj (hc₂.symm.trans (h1.trans h.code))
    subst hcc
    have hlen : len₂ = len := by rw [hdg] at hd₂; cases hd₂; rfl
    subst hlen
    have hs₂ : s₂ = (({ U with heap := s₂.heap, slotsUsed := s₂.slotsUsed } : State).setVm s₂.vm).setTop { g with pc := g.pc + len₂, stack := v.toList ++ g.stack } := by
      refine e3.trans ?_
      rw [hf₂, State.calling_eq h.top, State.setFrames_setFrames, State.setTop_of_frames _ hr', hr]
      rfl
    have hsame : U.sameButNew ({ U with heap := s₂.heap, slotsUsed := s₂.slotsUsed } : State) L mc ms := by
      refine ⟨?_, q2, q3, q4, q5, q6⟩
      obtain ⟨t, ht, -⟩ := State.frames_cons hr
      show ({ U with heap := s₂.heap, slotsUsed := s₂.slotsUsed } : State) = { U.setFrames U.frames with heap := s₂.heap, slotsUsed := s₂.slotsUsed }
      rw [State.setFrames_self ht]
    subst hg
    refine Or.inl ⟨v, ⟨(({ U with heap := s₂.heap, slotsUsed := s₂.slotsUsed } : State).setVm s₂.vm), Ls ++ L, c0 + mc, s0 + ms⟩,
      ⟨X.admits, X.cas, X.clock, X.frames, X.room, X.hears, X.method, X.code, (X.here.setHeapUsed s₂.heap s₂.slotsUsed).setVm hW'.alike, X.tail, State.WarmedH.trans X.warmed hW', X.limits, X.bytes, X.same.trans (hsame.setVm s.vm)⟩,
      ⟨g, mk, s₂, L, rfl, rfl, hqc, rfl, hL, rfl, rfl⟩, ?_⟩
    show Steps p.tables e below _ ((({ U with heap := s₂.heap, slotsUsed := s₂.slotsUsed } : State).setVm s₂.vm).setTop { g with pc := g.pc + len₂, stack := v.toList ++ g.stack })
    rw [← hs₂]
    exact hsteps
  · obtain ⟨e2, q2, q3, q4, q5, q6⟩ := id hsm
    have e3 : s₂ = ({ (U.calling g mk a).setFrames s₂.frames with heap := s₂.heap, slotsUsed := s₂.slotsUsed } : State).setVm s₂.vm := by
      have : s₂ = ({ s₂ with vm := (U.calling g mk a).vm } : State).setVm s₂.vm := rfl
      rw [e2] at this
      exact this
    have hf₂ : s₂.frames = .throwing q :: .java g :: U.frames.tail := hend
    have hW' : U.WarmedH s₂.vm := hW₂
    have hs₂ : s₂ = ((({ U with heap := s₂.heap, slotsUsed := s₂.slotsUsed } : State).setVm s₂.vm).setTop g).pushFrame (.throwing q) := by
      refine e3.trans ?_
      rw [hf₂, State.calling_eq h.top, State.setFrames_setFrames, State.pushFrame, State.frames_setTop _ hr', State.setTop_of_frames _ hr', State.setFrames_setFrames, hr]
      rfl
    have hsame : U.sameButNew ({ U with heap := s₂.heap, slotsUsed := s₂.slotsUsed } : State) L mc ms := by
      refine ⟨?_, q2, q3, q4, q5, q6⟩
      obtain ⟨t, ht, -⟩ := State.frames_cons hr
      show ({ U with heap := s₂.heap, slotsUsed := s₂.slotsUsed } : State) = { U.setFrames U.frames with heap := s₂.heap, slotsUsed := s₂.slotsUsed }
      rw [State.setFrames_self ht]
    subst hg
    refine Or.inr ⟨q, ⟨(({ U with heap := s₂.heap, slotsUsed := s₂.slotsUsed } : State).setVm s₂.vm), Ls ++ L, c0 + mc, s0 + ms⟩,
      ⟨X.admits, X.cas, X.clock, X.frames, X.room, X.hears, X.method, X.code, (X.here.setHeapUsed s₂.heap s₂.slotsUsed).setVm hW'.alike, X.tail, State.WarmedH.trans X.warmed hW', X.limits, X.bytes, X.same.trans (hsame.setVm s.vm)⟩,
      ⟨g, mk, s₂, L, E, ce, rfl, rfl, hx, hce, hcv, hcl, rfl, hL, rfl, rfl⟩, ?_⟩
    show Steps p.tables e below _ (((({ U with heap := s₂.heap, slotsUsed := s₂.slotsUsed } : State).setVm s₂.vm).setTop g).pushFrame (.throwing q))
    rw [← hs₂]
    exact hsteps
end
variable {p : Program} {l : Launch} {e : Env} {R : Room} {s : State} {m : MethodId} {args : Array Value} {below : List Frame} {meth : Method} {c : Code} {T : State} {H : Heap} {locs : List Loc} {cells slots : Nat}
theorem vx_callVX (X : Stand p l e R s m args below meth c T locs cells slots) (hexec : p.tables.exec = Jvm.exec) {own C : String} {index : Nat} {y : MethodName} {bytes : ByteArray} {maxL : Nat} {ret : Option FieldType} {hh : List (Nat × Nat × Nat × Nat)}
    (hown : s.vm.findClass own = some m.cls) (hlink : (Cond.methodLink own index y).before args s = true) (hinst : (Cond.instanceMethod y).before args s = true) (hsel : (Cond.selects C y y).before args s = true)
    (hcode : (Cond.codeWith y bytes maxL ret hh).before args s = true) (hy : y.cls ≠ "java/lang/invoke/MethodHandle" ∧ y.cls ≠ "java/lang/invoke/VarHandle")
    {W9 : Nat} {Pre : Pt → Array Value → Prop} {Post : Pt → Array Value → Option Value → Pt → Prop} {PostX : Pt → Array Value → Addr → Pt → Prop} (hK : vx_Back l R p e below s args y 3 W9 Pre Post PostX)
    {b : Addr} {cellB : Cell} (hcell : T.heap[b]? = some cellB) (hobj : cellB.vm.isStatics = false) (hcls : s.vm.findClass C = some cellB.cls)
    {g : JFrame} (hg : g.method = m) (hsize : g.locals.size = c.maxLocals) {argsL rest : List Value} (hlen : ∀ sig, parseMethodDescriptor y.desc = some sig → argsL.length = sig.parameters.length)
    (hstack : g.stack = argsL.reverse ++ .ref b :: rest) (hW : 2 * g.monitorRoom + (rest.map fun v => v.category).sum ≤ W9) (hdg : decode c.code g.pc = .ok (.invokevirtual index, 3))
    (hpre : ∀ vm₁, s.WarmedH vm₁ → Pre ⟨T.setVm vm₁, locs, cells, slots⟩ (Value.ref b :: argsL).toArray) :
    (∃ (v : Option Value) (vm₁ : Vm) (B : Pt), s.WarmedH vm₁ ∧ Stand p l e R s m args below meth c B.U B.locs B.cells B.slots ∧ Post ⟨T.setVm vm₁, locs, cells, slots⟩ (Value.ref b :: argsL).toArray v B ∧
      ∀ target, Steps p.tables e below (B.U.setTop { g with pc := g.pc + 3, stack := v.toList ++ rest }) target → Steps p.tables e below (T.setTop g) target) ∨
    (∃ (q : Addr) (vm₁ : Vm) (B : Pt), s.WarmedH vm₁ ∧ Stand p l e R s m args below meth c B.U B.locs B.cells B.slots ∧ PostX ⟨T.setVm vm₁, locs, cells, slots⟩ (Value.ref b :: argsL).toArray q B ∧
      Steps p.tables e below (T.setTop g) ((B.U.setTop { g with stack := rest }).pushFrame (.throwing q))) := by
  obtain ⟨mk, methM, hnamed, hmethM, hstM, habM⟩ := Cond.instanceMethod_spec hinst
  obtain ⟨m8, methM', cM, hn8, hmethM', -, -, -, -, -, -, hsigM⟩ := Cond.codeWith_spec hcode
  cases Option.some.inj (hn8.symm.trans hnamed)
  cases hmethM.symm.trans hmethM'
  obtain ⟨c2, r2, m2, q1, q2, q3, q4, kP, hkP, hkPi⟩ := Cond.selects_spec hsel
  cases hcls.symm.trans q1
  cases (State.methodFound?_of_named hnamed hy).symm.trans q2
  cases hnamed.symm.trans q3
  have hselP : selectMethod e.platform s.vm cellB.cls mk = .method mk := by rw [Launch.admits_selectMethod X.admits]; exact q4
  obtain ⟨vm₁, X₁, hstep₁⟩ := X.invokevirtual hexec hown hlink hnamed hmethM hstM hkP hkPi hy (a := b) (cell := cellB) hcell
    (fun z h => by rw [h] at hobj; cases hobj) hselP hmethM habM hkP hkPi (g := g) hg (argsL := argsL) (rest := rest) (hlen _ hsigM) hstack hdg
  rcases hK m meth c ⟨T.setVm vm₁, locs, cells, slots⟩ { g with stack := rest } (.invokevirtual index) mk (Value.ref b :: argsL).toArray X₁ hg hsize hdg hW (X₁.named hnamed) (hpre vm₁ X₁.warmed) with ⟨v, B, X', hpost, hsteps⟩ | ⟨q, B, X', hpost, hsteps⟩
  · exact Or.inl ⟨v, vm₁, B, X₁.warmed, X', hpost, fun target h => hstep₁ _ fun acts => by rw [doInvoke_state]; exact hsteps.trans h⟩
  · exact Or.inr ⟨q, vm₁, B, X₁.warmed, X', hpost, hstep₁ _ fun acts => by rw [doInvoke_state]; exact hsteps⟩
theorem vx_callSX (X : Stand p l e R s m args below meth c T locs cells slots) (hexec : p.tables.exec = Jvm.exec) {own : String} {index : Nat} {y : MethodName} {bytes : ByteArray} {maxL : Nat} {ret : Option FieldType} {hh : List (Nat × Nat × Nat × Nat)}
    (hown : s.vm.findClass own = some m.cls) (hlink : (Cond.methodLink own index y).before args s = true) (hstat : (Cond.static y).before args s = true) (hinit : (Cond.initialized y.cls).before args s = true)
    (hcode : (Cond.codeWith y bytes maxL ret hh).before args s = true) (hy : y.cls ≠ "java/lang/invoke/MethodHandle" ∧ y.cls ≠ "java/lang/invoke/VarHandle")
    {W9 : Nat} {Pre : Pt → Array Value → Prop} {Post : Pt → Array Value → Option Value → Pt → Prop} {PostX : Pt → Array Value → Addr → Pt → Prop} (hK : vx_Back l R p e below s args y 3 W9 Pre Post PostX)
    {g : JFrame} (hg : g.method = m) (hsize : g.locals.size = c.maxLocals) {argsL rest : List Value} (hlen : ∀ sig, parseMethodDescriptor y.desc = some sig → argsL.length = sig.parameters.length)
    (hstack : g.stack = argsL.reverse ++ rest) (hW : 2 * g.monitorRoom + (rest.map fun v => v.category).sum ≤ W9) (hdg : decode c.code g.pc = .ok (.invokestatic index, 3))
    (hpre : ∀ vm₁, s.WarmedH vm₁ → Pre ⟨T.setVm vm₁, locs, cells, slots⟩ argsL.toArray) :
    (∃ (v : Option Value) (vm₁ : Vm) (B : Pt), s.WarmedH vm₁ ∧ Stand p l e R s m args below meth c B.U B.locs B.cells B.slots ∧ Post ⟨T.setVm vm₁, locs, cells, slots⟩ argsL.toArray v B ∧
      ∀ target, Steps p.tables e below (B.U.setTop { g with pc := g.pc + 3, stack := v.toList ++ rest }) target → Steps p.tables e below (T.setTop g) target) ∨
    (∃ (q : Addr) (vm₁ : Vm) (B : Pt), s.WarmedH vm₁ ∧ Stand p l e R s m args below meth c B.U B.locs B.cells B.slots ∧ PostX ⟨T.setVm vm₁, locs, cells, slots⟩ argsL.toArray q B ∧
      Steps p.tables e below (T.setTop g) ((B.U.setTop { g with stack := rest }).pushFrame (.throwing q))) := by
  obtain ⟨mk, methM, cM, hnamed, hmethM, -, -, -, -, -, -, hsigM⟩ := Cond.codeWith_spec hcode
  have hstatic : methM.isStatic = true := Cond.static_spec hnamed hmethM hstat
  obtain ⟨kP, hkP, -⟩ := className_of_methodNamed hnamed
  have hinitP : kP.init = .initialized := Cond.initialized_spec (findClass_of_methodNamed hnamed) hkP hinit
  obtain ⟨vm₁, X₁, hstep₁⟩ := X.invokestatic hexec hown hlink hnamed hmethM hstatic hkP hinitP hy (g := g) hg (argsL := argsL) (rest := rest) (hlen _ hsigM) hstack hdg
  rcases hK m meth c ⟨T.setVm vm₁, locs, cells, slots⟩ { g with stack := rest } (.invokestatic index) mk argsL.toArray X₁ hg hsize hdg hW (X₁.named hnamed) (hpre vm₁ X₁.warmed) with ⟨v, B, X', hpost, hsteps⟩ | ⟨q, B, X', hpost, hsteps⟩
  · exact Or.inl ⟨v, vm₁, B, X₁.warmed, X', hpost, fun target h => hstep₁ _ fun acts => by rw [doInvoke_state]; exact hsteps.trans h⟩
  · exact Or.inr ⟨q, vm₁, B, X₁.warmed, X', hpost, hstep₁ _ fun acts => by rw [doInvoke_state]; exact hsteps⟩
theorem vx_callVW (X : Stand p l e R s m args below meth c T locs cells slots) (hexec : p.tables.exec = Jvm.exec) {own C : String} {index : Nat} {y : MethodName} {bytes : ByteArray} {maxL : Nat} {ret : Option FieldType} {hh : List (Nat × Nat × Nat × Nat)}
    (hown : s.vm.findClass own = some m.cls) (hlink : (Cond.methodLink own index y).before args s = true) (hinst : (Cond.instanceMethod y).before args s = true) (hsel : (Cond.selects C y y).before args s = true)
    (hcode : (Cond.codeWith y bytes maxL ret hh).before args s = true) (hy : y.cls ≠ "java/lang/invoke/MethodHandle" ∧ y.cls ≠ "java/lang/invoke/VarHandle")
    {W9 : Nat} {Pre : Pt → Array Value → Prop} {Post : Pt → Array Value → Option Value → Pt → Prop} (hK : Back l R p e below s args y 3 W9 Pre Post)
    {b : Addr} {cellB : Cell} (hcell : T.heap[b]? = some cellB) (hobj : cellB.vm.isStatics = false) (hcls : s.vm.findClass C = some cellB.cls)
    {g : JFrame} (hg : g.method = m) (hsize : g.locals.size = c.maxLocals) {argsL rest : List Value} (hlen : ∀ sig, parseMethodDescriptor y.desc = some sig → argsL.length = sig.parameters.length)
    (hstack : g.stack = argsL.reverse ++ .ref b :: rest) (hW : 2 * g.monitorRoom + (rest.map fun v => v.category).sum ≤ W9) (hdg : decode c.code g.pc = .ok (.invokevirtual index, 3))
    (hpre : ∀ vm₁, s.WarmedH vm₁ → Pre ⟨T.setVm vm₁, locs, cells, slots⟩ (Value.ref b :: argsL).toArray) :
    ∃ (v : Option Value) (vm₁ : Vm) (B : Pt), s.WarmedH vm₁ ∧ Stand p l e R s m args below meth c B.U B.locs B.cells B.slots ∧ Post ⟨T.setVm vm₁, locs, cells, slots⟩ (Value.ref b :: argsL).toArray v B ∧
      ∀ target, Steps p.tables e below (B.U.setTop { g with pc := g.pc + 3, stack := v.toList ++ rest }) target → Steps p.tables e below (T.setTop g) target := by
  obtain ⟨mk, methM, hnamed, hmethM, hstM, habM⟩ := Cond.instanceMethod_spec hinst
  obtain ⟨m8, methM', cM, hn8, hmethM', -, -, -, -, -, -, hsigM⟩ := Cond.codeWith_spec hcode
  cases Option.some.inj (hn8.symm.trans hnamed)
  cases hmethM.symm.trans hmethM'
  obtain ⟨c2, r2, m2, q1, q2, q3, q4, kP, hkP, hkPi⟩ := Cond.selects_spec hsel
  cases hcls.symm.trans q1
  cases (State.methodFound?_of_named hnamed hy).symm.trans q2
  cases hnamed.symm.trans q3
  have hselP : selectMethod e.platform s.vm cellB.cls mk = .method mk := by rw [Launch.admits_selectMethod X.admits]; exact q4
  obtain ⟨vm₁, X₁, hstep₁⟩ := X.invokevirtual hexec hown hlink hnamed hmethM hstM hkP hkPi hy (a := b) (cell := cellB) hcell
    (fun z h => by rw [h] at hobj; cases hobj) hselP hmethM habM hkP hkPi (g := g) hg (argsL := argsL) (rest := rest) (hlen _ hsigM) hstack hdg
  obtain ⟨v, B, X', hpost, hsteps⟩ := hK m meth c ⟨T.setVm vm₁, locs, cells, slots⟩ { g with stack := rest } (.invokevirtual index) mk (Value.ref b :: argsL).toArray X₁ hg hsize hdg hW (X₁.named hnamed) (hpre vm₁ X₁.warmed)
  exact ⟨v, vm₁, B, X₁.warmed, X', hpost, fun target h => hstep₁ _ fun acts => by rw [doInvoke_state]; exact hsteps.trans h⟩
abbrev vx_CVW (R : Room) (s : State) (args : Array Value) (own C : String) (index : Nat) (y : MethodName) (bytes : ByteArray) (maxL : Nat) (ret : Option FieldType) (hh : List (Nat × Nat × Nat × Nat)) (ws : List Cond) (rm : Room) (mc ms n : Nat) : Prop :=
  (rm.cells = mc ∧ rm.slots = ms ∧ rm.frames + 1 ≤ R.frames ∧ 8 + (maxL + 11) + rm.locals ≤ R.locals ∧ (∀ w ∈ ws, ∀ (a' : Array Value) (U : State), s.WarmedH U.vm → w.before a' U = true) ∧ Cond.codeWith y bytes maxL ret hh ∈ ws) ∧
  (Cond.codeWith y bytes maxL ret hh).before args s = true ∧ (Cond.initialized y.cls).before args s = true ∧ (y.cls ≠ "java/lang/invoke/MethodHandle" ∧ y.cls ≠ "java/lang/invoke/VarHandle") ∧
  (∀ sig, parseMethodDescriptor y.desc = some sig → n = sig.parameters.length) ∧ (Cond.methodLink own index y).before args s = true ∧ (Cond.instanceMethod y).before args s = true ∧ (Cond.selects C y y).before args s = true
theorem vx_cwVW {own C : String} {index maxL mc ms : Nat} {y : MethodName} {bytes : ByteArray} {ret : Option FieldType} {hh : List (Nat × Nat × Nat × Nat)} {Ts ws ws' : List Cond} {rm : Room} (n : Nat) (ht : ∀ w ∈ Ts, w.before args s = true) (hT : GoodIn Ts (wsV own index C y ws)) (hw : ws = Cond.codeWith y bytes maxL ret hh :: ws') (hrc : rm.cells = mc) (hrs : rm.slots = ms)
    (hd : y.cls = C ∧ y.cls ≠ "java/lang/invoke/MethodHandle" ∧ y.cls ≠ "java/lang/invoke/VarHandle" ∧ (parseMethodDescriptor y.desc).map (fun d => d.parameters.length) = some n) (hR : rm.frames + 1 ≤ R.frames ∧ 8 + (maxL + 11) + rm.locals ≤ R.locals) :
    vx_CVW R s args own C index y bytes maxL ret hh ws rm mc ms n := by
  obtain ⟨hC, hd⟩ := hd
  subst hC
  have ok : ∀ w ∈ wsV own index y.cls y ws, w.before args s = true := fun w h => ht w (hT w h).1
  have hG : GoodIn Ts ws := fun w h => hT w (by unfold wsV; exact List.mem_append_right _ h)
  have hc : Cond.codeWith y bytes maxL ret hh ∈ ws := by rw [hw]; exact List.mem_cons_self
  refine ⟨⟨hrc, hrs, hR.1, hR.2, pay_in ht hG, hc⟩, ht _ (hG _ hc).1, ok _ (by simp [wsV]), ⟨hd.1, hd.2.1⟩, fun sig h => ?_, ok _ (by simp [wsV]), ok _ (by simp [wsV]), ok _ (by simp [wsV])⟩
  have h2 := hd.2.2
  rw [h] at h2
  exact (Option.some.inj h2).symm
theorem vx_runVW {y : MethodName} {bytes cc : ByteArray} {maxL nL mc ms n index : Nat} {ret : Option FieldType} {hh : List (Nat × Nat × Nat × Nat)} {ws : List Cond} {rm : Room} {Pc : Array Value → State → Prop} {Qc : Array Value → State → Outcome → State → Prop} {free : Addr → Prop} {Ts : List Cond} {own C : String} {b : Addr} {As rest : List Value} {g : JFrame}
    (S : CallFix p m c cc nL s args Ts own) (hM : Met l y ws rm Pc Qc mc ms free) (cw : vx_CVW R s args own C index y bytes maxL ret hh ws rm mc ms n) (hp : PreV s H C b Pc As)
    (hg : g.method = m) (hn : As.length = n) (hsize : g.locals.size = nL) (hstack : g.stack = As.reverse ++ .ref b :: rest) (hW : 2 * g.monitorRoom + (rest.map fun v => v.category).sum ≤ 8) (hdg : decode cc g.pc = .ok (.invokevirtual index, 3)) (hf : cells + mc ≤ R.cells ∧ slots + ms ≤ R.slots) :
    va_Run p l e R s m args below meth c H locs cells slots mc ms g rest (Qc (Value.ref b :: As).toArray) free := by
  obtain ⟨⟨hrc, hrs, hfr, hlo, hws, hcw⟩, hcode, hini, hy, hlen, hl, hin, hse⟩ := cw
  have hK : Back l R p e below s args y 3 8 (PreOf R mc ms Pc) (PostOf Qc mc ms free) := va_backW (hh := hh) (bytes := bytes) (maxL := maxL) (ret := ret) hM hp.1 hrc hrs hfr hlo hws hcw (fun a' U hW => word_at hW (Or.inl (by first | rfl | simp [Cond.onTables, Cond.keeps, Cond.steady])) hini)
  obtain ⟨hx, hb, hml, ho, -⟩ := S
  obtain ⟨-, ⟨cellB, hcB, hoB, hclB⟩, hPc⟩ := hp
  intro T hT X
  obtain ⟨v, vm₁, ⟨U', l2, c2, s2⟩, hW₁, X', ⟨g', mk, t, L, e1, e2, hq, h1, hL, h2, h3⟩, st⟩ := vx_callVW X hx (C := C) (hh := hh) (bytes := bytes) (maxL := maxL) (ret := ret) ho hl hin hse hcode hy hK (by rw [hT]; exact hcB) hoB hclB hg (hsize.trans hml.symm) (argsL := As) (rest := rest) (fun sig h => hn.trans (hlen sig h)) hstack hW (by rw [hb]; exact hdg)
    (fun vm₁ hW₁ => ⟨hf.1, hf.2, hPc (T.setVm vm₁) hT hW₁⟩)
  dsimp only [Pt.U, Pt.locs, Pt.cells, Pt.slots] at X' e1 e2 h1 h2 h3 st
  subst h1; subst h2; subst h3
  exact ⟨v, (T.setVm vm₁).calling g' mk (Value.ref b :: As).toArray, t, U', L, hT, X', hL, e1, e2, hq, st⟩
section
variable {y : MethodName} {bytes cc : ByteArray} {maxL nL mc ms n index : Nat} {ret : Option FieldType} {ws : List Cond} {rm : Room} {Pc : Array Value → State → Prop} {Qc : Array Value → State → Outcome → State → Prop} {XC : String → Addr → State → State → Prop} {free : Addr → Prop} {Ts : List Cond} {own C : String} {b : Addr} {As rest : List Value} {g : JFrame}
theorem vx_runVX {hh : List (Nat × Nat × Nat × Nat)} (S : CallFix p m c cc nL s args Ts own) (hM : vx_Met l y ws rm Pc Qc XC mc ms free) (cw : vx_CVW R s args own C index y bytes maxL ret hh ws rm mc ms n) (hp : PreV s H C b Pc As)
    (hg : g.method = m) (hn : As.length = n) (hsize : g.locals.size = nL) (hstack : g.stack = As.reverse ++ .ref b :: rest) (hW : 2 * g.monitorRoom + (rest.map fun v => v.category).sum ≤ 8) (hdg : decode cc g.pc = .ok (.invokevirtual index, 3)) (hf : cells + mc ≤ R.cells ∧ slots + ms ≤ R.slots) :
    vx_Run p l e R s m args below meth c H locs cells slots mc ms g rest (Qc (Value.ref b :: As).toArray) XC free := by
  obtain ⟨⟨hrc, hrs, hfr, hlo, hws, hcw⟩, hcode, hini, hy, hlen, hl, hin, hse⟩ := cw
  have hK : vx_Back l R p e below s args y 3 8 (PreOf R mc ms Pc) (PostOf Qc mc ms free) (vx_Post XC mc ms free) := vx_backW (hh := hh) (bytes := bytes) (maxL := maxL) (ret := ret) hM hp.1 hrc hrs hfr hlo hws hcw (fun a' U hW => word_at hW (Or.inl (by first | rfl | simp [Cond.onTables, Cond.keeps, Cond.steady])) hini)
  obtain ⟨hx, hb, hml, ho, -⟩ := S
  obtain ⟨-, ⟨cellB, hcB, hoB, hclB⟩, hPc⟩ := hp
  intro T hT X
  rcases vx_callVX X hx (C := C) (hh := hh) (bytes := bytes) (maxL := maxL) (ret := ret) ho hl hin hse hcode hy hK (by rw [hT]; exact hcB) hoB hclB hg (hsize.trans hml.symm) (argsL := As) (rest := rest) (fun sig h => hn.trans (hlen sig h)) hstack hW (by rw [hb]; exact hdg)
    (fun vm₁ hW₁ => ⟨hf.1, hf.2, hPc (T.setVm vm₁) hT hW₁⟩) with ⟨v, vm₁, ⟨U', l2, c2, s2⟩, hW₁, X', ⟨g', mk, t, L, e1, e2, hq, h1, hL, h2, h3⟩, st⟩ | ⟨q, vm₁, ⟨U', l2, c2, s2⟩, hW₁, X', ⟨g', mk, t, L, E, ce, e1, e2, hq, hce, hcv, hcl, h1, hL, h2, h3⟩, st⟩
  · dsimp only [Pt.U, Pt.locs, Pt.cells, Pt.slots] at X' e1 e2 h1 h2 h3 st
    subst h1; subst h2; subst h3
    exact Or.inl ⟨v, (T.setVm vm₁).calling g' mk (Value.ref b :: As).toArray, t, U', L, hT, X', hL, e1, e2, hq, st⟩
  · dsimp only [Pt.U, Pt.locs, Pt.cells, Pt.slots] at X' e1 e2 h1 h2 h3 st hcl
    subst h1; subst h2; subst h3
    exact Or.inr ⟨q, (T.setVm vm₁).calling g' mk (Value.ref b :: As).toArray, t, U', L, E, ce, hT, X', hL, e1, e2, hq, hce, hcv, vx_cls hW₁ hcl, st⟩
theorem vx_runSX {hh : List (Nat × Nat × Nat × Nat)} (S : CallFix p m c cc nL s args Ts own) (hM : vx_Met l y ws rm Pc Qc XC mc ms free) (cw : vx_CSW R s args own index y bytes maxL ret hh ws rm mc ms n) (hp : PreS s H Pc As)
    (hg : g.method = m) (hn : As.length = n) (hsize : g.locals.size = nL) (hstack : g.stack = As.reverse ++ rest) (hW : 2 * g.monitorRoom + (rest.map fun v => v.category).sum ≤ 8) (hdg : decode cc g.pc = .ok (.invokestatic index, 3)) (hf : cells + mc ≤ R.cells ∧ slots + ms ≤ R.slots) :
    vx_Run p l e R s m args below meth c H locs cells slots mc ms g rest (Qc As.toArray) XC free := by
  obtain ⟨⟨hrc, hrs, hfr, hlo, hws, hcw⟩, hcode, hini, hy, hlen, hl, hstt⟩ := cw
  have hK : vx_Back l R p e below s args y 3 8 (PreOf R mc ms Pc) (PostOf Qc mc ms free) (vx_Post XC mc ms free) := vx_backW (hh := hh) (bytes := bytes) (maxL := maxL) (ret := ret) hM hp.1 hrc hrs hfr hlo hws hcw (fun a' U hW => word_at hW (Or.inl (by first | rfl | simp [Cond.onTables, Cond.keeps, Cond.steady])) hini)
  obtain ⟨hx, hb, hml, ho, -⟩ := S
  intro T hT X
  rcases vx_callSX X hx (hh := hh) (bytes := bytes) (maxL := maxL) (ret := ret) ho hl hstt hini hcode hy hK hg (hsize.trans hml.symm) (argsL := As) (rest := rest) (fun sig h => hn.trans (hlen sig h)) hstack hW (by rw [hb]; exact hdg)
    (fun vm₁ hW₁ => ⟨hf.1, hf.2, hp.2 (T.setVm vm₁) hT hW₁⟩) with ⟨v, vm₁, ⟨U', l2, c2, s2⟩, hW₁, X', ⟨g', mk, t, L, e1, e2, hq, h1, hL, h2, h3⟩, st⟩ | ⟨q, vm₁, ⟨U', l2, c2, s2⟩, hW₁, X', ⟨g', mk, t, L, E, ce, e1, e2, hq, hce, hcv, hcl, h1, hL, h2, h3⟩, st⟩
  · dsimp only [Pt.U, Pt.locs, Pt.cells, Pt.slots] at X' e1 e2 h1 h2 h3 st
    subst h1; subst h2; subst h3
    exact Or.inl ⟨v, (T.setVm vm₁).calling g' mk As.toArray, t, U', L, hT, X', hL, e1, e2, hq, st⟩
  · dsimp only [Pt.U, Pt.locs, Pt.cells, Pt.slots] at X' e1 e2 h1 h2 h3 st hcl
    subst h1; subst h2; subst h3
    exact Or.inr ⟨q, (T.setVm vm₁).calling g' mk As.toArray, t, U', L, E, ce, hT, X', hL, e1, e2, hq, hce, hcv, vx_cls hW₁ hcl, st⟩
end
end VXH
theorem vx_ofWH {l : Launch} {y : MethodName} {ws ws' : List Cond} {rm : Room} {Pc : Array Value → State → Prop} {Qc : Array Value → State → Outcome → State → Prop} {XC : String → Addr → State → State → Prop} {mc ms : Nat} {free : Addr → Prop} {cc : ByteArray} {maxL : Nat} {ret : Option FieldType} {hh : List (Nat × Nat × Nat × Nat)}
    (hy : plainName y.cls = true) (hw : ws = Cond.codeWith y cc maxL ret hh :: ws')
    (body : ∀ p e s m args below meth c s₁, BodyLoose p l y (headSpec ws rm) cc maxL ret e s m args below meth c s₁ → c.maxLocals = maxL → Pc args s →
      W p l e (headSpec ws rm).room s m args below meth c s.heap [] 0 0 (vx_MQ below Qc XC args s mc ms free) (entryFrame m args maxL)) : vx_Met l y ws rm Pc Qc XC mc ms free := by
  refine MetFree.of_bodyS (code := cc) (maxLocals := maxL) (ret := ret) hy ?_ ?_
  · intro args s m h hn
    obtain ⟨m9, meth, c, hn9, h1, h2, h3, h4, -, h5, h6, -⟩ := Cond.codeWith_spec (atoms_spec (ws := ws) h _ (by rw [hw]; exact List.mem_cons_self))
    cases hn.symm.trans hn9
    exact ⟨meth, c, h1, h2, h3, h4, h5, h6⟩
  · intro p e s m args below meth c s₁ B hml hP _
    have hh0 : s₁.heap = s.heap := by rw [B.state]; rfl
    obtain ⟨t, a1, o, b1, b2, b3⟩ := body p e s m args below meth c s₁ B hml hP s₁ hh0 (Stand.of_body B)
    exact ⟨t, o, a1, b1, b2, b3⟩
/-! ===== END ===== -/
end
section
/-! A throw whose class has its own place for the link to the class above; what leaves a method, with the warmed tables -/
def xw_at (own : String) (ic : Nat) (X : String) (ix : Nat) (rx : ByteArray) (Y : String) (r : List String) : List Cond :=
  Bundle.throwableAtoms ++ Bundle.throwableSAtoms ++ (Bundle.passSAtoms X Y ix rx ++ Bundle.chainSAtoms Y r) ++
  [.methodLink own ic (Bundle.initS X), .instantiable X 6, .castable X X, .selects X Bundle.tFill0 Bundle.tFill0, .selects X Bundle.tFill Bundle.tFill,
   .lays X Bundle.tN "cause" "Ljava/lang/Throwable;", .lays X Bundle.tN "stackTrace" Bundle.steD, .lays X Bundle.tN "suppressedExceptions" Bundle.listD, .lays X Bundle.tN "detailMessage" "Ljava/lang/String;",
   .isRef (.static Bundle.tN "UNASSIGNED_STACK" Bundle.steD), .isRef (.static Bundle.tN "SUPPRESSED_SENTINEL" Bundle.listD),
   .fieldLink Bundle.tN 198 Bundle.tN "backtrace" "Ljava/lang/Object;", .lays Bundle.tN Bundle.tN "backtrace" "Ljava/lang/Object;", .lays X Bundle.tN "backtrace" "Ljava/lang/Object;"]
section XW
variable {p : Program} {l : Launch} {e : Env} {R : Room} {s : State} {m : MethodId} {args : Array Value} {below : List Frame} {meth : Method} {c : Code} {T9 : State} {locs : List Loc} {cells slots : Nat}
set_option maxHeartbeats 1000000 in
theorem xw_ctor (X : Stand p l e R s m args below meth c T9 locs cells slots) (hexec : p.tables.exec = Jvm.exec) (htr : e.platform.stackTraces = false) {own cls Y9 : String} {names : List String} {ic ix : Nat} {rx : ByteArray}
    (x0 : decode rx 0 = .ok (.aload_n 0, 1)) (x1 : decode rx 1 = .ok (.aload_n 1, 1)) (x2 : decode rx 2 = .ok (.invokespecial ix, 3)) (x5 : decode rx 5 = .ok (.return_, 1))
    (hown : s.vm.findClass own = some m.cls) (hcls : Bundle.fit cls = true) (hY9 : Bundle.fit Y9 = true) (hnames : ∀ n ∈ names, Bundle.fit n = true)
    (h : ∀ a ∈ xw_at own ic cls ix rx Y9 names, a.before args s = true)
    (hlocs : ∀ x ∈ locs, ∀ cell, s.heap[x.base]? = some cell → cell.vm.isStatics = false)
    {a : Addr} {cX : ClassId} {kX : Class} (hfoundX : s.vm.findClass cls = some cX) (hkX : s.vm.classes[cX]? = some kX) (hcell : T9.heap[a]? = some (freshCell cX kX)) (hnew : s.heap.size ≤ a)
    {msg : Value} (hmsg : msg.isRef = true)
    {g : JFrame} (hg : g.method = m) (hsize : g.locals.size = c.maxLocals) (hlocked : g.locked = none) (hentered : g.entered = []) {rest : List Value} (hstack : g.stack = msg :: .ref a :: .ref a :: rest)
    (hd6 : decode c.code g.pc = .ok (.invokespecial ic, 3)) (hd9 : decode c.code (g.pc + 3) = .ok (.athrow, 1)) (hout : ∀ x ∈ c.exceptionTable.toList, covers x (g.pc + 3) = false)
    (hRframes : names.length + 4 < R.frames) (hRlocals : 2 * g.monitorRoom + ((Value.ref a :: rest).map fun v => v.category).sum + (13 * (names.length + 2) + 42) ≤ R.locals) (hlocks : meth.locks = false) :
    ∃ U : State, Steps p.tables e below (T9.setTop g) U ∧ U.status = .running ∧ Ended U below (.threw a) ∧ s.WarmedH U.vm ∧ s.sameButNew ({ U with vm := s.vm } : State) locs cells slots ∧
      ∃ ce : Cell, U.heap[a]? = some ce ∧ ce.vm = .none ∧ s.vm.findClass cls = some ce.cls := by
  have howns : e.platform.frameOwnsMonitors = true := by rw [X.admits.platform]
  have hfin : e.platform.finalization = false := by rw [X.admits.platform]
  have hpl : e.platform.magicAccessors = ({} : Platform).magicAccessors := by rw [X.admits.platform]
  have a' : ∀ x, x ∈ xw_at own ic cls ix rx Y9 names → x.holds args s none s [] = true := fun x hx => h x hx
  obtain ⟨T, Z0, L, -, Y⟩ := ThrowableC.of_atoms (args := args) howns hfin hpl (fun x hx => h x (by simp [xw_at, hx]))
  obtain ⟨Z, M, LZ, LM, hnZ⟩ := Init0T.ofS_atoms (args := args) hpl L Y (fun x hx => h x (by simp [xw_at, hx]))
  obtain ⟨P2, Ps, hlen, L2, hL, hP2m, hlink1, hlink⟩ := Bundle.chainS (args := args) hpl hnZ names Y9 hY9 hnames (fun x hx => h x (by simp [xw_at, hx]))
  obtain ⟨P1, L1, hP1m, hP1s⟩ := PassC.ofS_atoms (args := args) (s := s) hpl (X := cls) (Y := Y9) (Bundle.fit_spec hcls).1 (Bundle.fit_spec hY9).2 x0 x1 x2 x5 (fun x hx => h x (by simp [xw_at, hx]))
  have hP12 : P1.sup = P2.m := Option.some.inj (hP1s.symm.trans hP2m)
  have hfound : s.vm.findClass cls = some P1.m.cls := findClass_of_methodNamed hP1m
  cases Option.some.inj (hfoundX.symm.trans hfound)
  obtain ⟨c1, kX', hc1, hk, hord, -, -, hn6⟩ := Cond.instantiable_spec (a' (.instantiable cls 6) (by simp [xw_at]))
  cases Option.some.inj (hc1.symm.trans hfound)
  cases Option.some.inj (hkX.symm.trans hk)
  have hsel0 : selectMethod e.platform s.vm P1.m.cls T.fill0 = .method T.fill0 := by
    obtain ⟨c2, r2, m2, q1, q2, q3, q4, -⟩ := Cond.selects_spec (a' (.selects cls Bundle.tFill0 Bundle.tFill0) (by simp [xw_at]))
    cases Option.some.inj (q1.symm.trans hfound)
    cases Option.some.inj (q2.symm.trans (State.methodFound?_of_named Y.fill0 (by decide)))
    cases Option.some.inj (q3.symm.trans Y.fill0)
    rw [Launch.admits_selectMethod X.admits]; exact q4
  have hselF : selectMethod e.platform s.vm P1.m.cls T.fill = .method T.fill := by
    obtain ⟨c2, r2, m2, q1, q2, q3, q4, -⟩ := Cond.selects_spec (a' (.selects cls Bundle.tFill Bundle.tFill) (by simp [xw_at]))
    cases Option.some.inj (q1.symm.trans hfound)
    cases Option.some.inj (q2.symm.trans (State.methodFound?_of_named Y.fill (by decide)))
    cases Option.some.inj (q3.symm.trans Y.fill)
    rw [Launch.admits_selectMethod X.admits]; exact q4
  obtain ⟨cellS0, hcS0, hiss⟩ := Y.statics
  obtain ⟨u0, hu0⟩ := Cond.staticRefV Y.unassigned L.unassignedStatic L.statics hcS0 hiss (a' (.isRef (.static Bundle.tN "UNASSIGNED_STACK" Bundle.steD)) (by simp [xw_at]))
  obtain ⟨sen, hsen⟩ := Cond.staticRefV Y.sentinel L.sentinelStatic L.statics hcS0 hiss (a' (.isRef (.static Bundle.tN "SUPPRESSED_SENTINEL" Bundle.listD)) (by simp [xw_at]))
  obtain ⟨ci198, i198, fB, hk198, hg198, ha198, hsB, -, hnB, htB, hffB⟩ := Cond.ownField (t := .object "java/lang/Object") Y.found L.cls (by decide +kernel) (a' (.fieldLink Bundle.tN 198 Bundle.tN "backtrace" "Ljava/lang/Object;") (by simp [xw_at])) (a' (.lays Bundle.tN Bundle.tN "backtrace" "Ljava/lang/Object;") (by simp [xw_at])) e.platform hpl
  obtain ⟨cellS, hcS', heS, -, hkeep⟩ := X.same.2.2.2.2.2 T.aS cellS0 hcS0
  have hcellS : T9.heap[T.aS]? = some cellS := hcS'
  have hout' : ∀ i, (⟨T.aS, i⟩ : Loc) ∉ locs := fun i hmem => by
    have := hlocs _ hmem cellS0 hcS0
    rw [hiss] at this; cases this
  have hknownS : cellS.vm ≠ .unknown := by
    rw [heS]; intro hu
    rw [show cellS0.vm = .unknown from hu] at hiss
    cases hiss
  have hneS : T.aS ≠ a := Nat.ne_of_lt (Nat.lt_of_lt_of_le (Array.getElem?_eq_some_iff.mp hcS0).1 hnew)
  obtain ⟨iM, hffM⟩ := Y.msg
  obtain ⟨tyC, dC, hdC, hdnC⟩ := Cond.laysAt hfound hk Y.cause (a' (.lays cls Bundle.tN "cause" "Ljava/lang/Throwable;") (by simp [xw_at]))
  obtain ⟨tyS, dS, hdS, hdnS⟩ := Cond.laysAt hfound hk Y.stack (a' (.lays cls Bundle.tN "stackTrace" Bundle.steD) (by simp [xw_at]))
  obtain ⟨tyP, dP, hdP, hdnP⟩ := Cond.laysAt hfound hk Y.supp (a' (.lays cls Bundle.tN "suppressedExceptions" Bundle.listD) (by simp [xw_at]))
  obtain ⟨tyM, dM, hdM, hdnM⟩ := Cond.laysAt hfound hk hffM (a' (.lays cls Bundle.tN "detailMessage" "Ljava/lang/String;") (by simp [xw_at]))
  obtain ⟨tyB, dB, hdB, hdnB⟩ := Cond.laysAt hfound hk hffB (a' (.lays cls Bundle.tN "backtrace" "Ljava/lang/Object;") (by simp [xw_at]))
  have bC := Cond.laysApart hdB hdC hdnB hdnC (by rw [hnB, Y.causeName]; decide)
  have bS := Cond.laysApart hdB hdS hdnB hdnS (by rw [hnB, Y.stackName]; decide)
  have bP := Cond.laysApart hdB hdP hdnB hdnP (by rw [hnB, Y.suppName]; decide)
  have hskip : SkipFacts T e.platform s (fun u => u) u0 ((preparedCellV T.toThrowableT (freshCell P1.m.cls kX) a u0 sen).withEntry T9.cur) :=
    ⟨{ ci198 := ci198, i198 := i198, fBack := fB }, ⟨hk198, hg198, ha198, hsB⟩, by
      have := fresh_default (c := P1.m.cls) tyB
      rw [htB] at this
      simpa [preparedCellV, Cell.setSlot, Cell.withEntry, Array.getElem?_setIfInBounds, bC, bS, bP, bC.symm, bS.symm, bP.symm, defaultValue] using this, fun _ _ => rfl⟩
  obtain ⟨tm, methC, cdC, kC, vm₁, hnC, -, -, -, -, -, -, -, hW₁, st1⟩ := Steps.initColdS (tb := p.tables) (e := e) (below := below) (s := s) (U := T9) X.here hexec X.warmed hpl hown (t := Bundle.initS cls) rfl rfl (Bundle.fit_spec hcls).2
    (a' (.methodLink own ic (Bundle.initS cls)) (by simp [xw_at])) (h (.instanceMethod (Bundle.initS cls)) (by simp [xw_at, Bundle.passSAtoms])) (bytes := rx) (maxL := 2) (h (.code (Bundle.initS cls) rx 2 none) (by simp [xw_at, Bundle.passSAtoms]))
    (f := g) hg (a := a) (msg := msg) (rest := .ref a :: rest) hstack hd6
  cases Option.some.inj (hnC.symm.trans hP1m)
  have X₁ := X.noted hW₁
  obtain ⟨vm₂, X₂, st2⟩ := X₁.ctorMessageOffV hexec (g := { g with stack := .ref a :: rest }) hg hsize T L Z LZ M LM (P1 :: P2 :: Ps)
    (fun P hP => by
      rcases List.mem_cons.mp hP with rfl | hP
      · exact L1
      · rcases List.mem_cons.mp hP with rfl | hP
        · exact L2
        · exact hL P hP) ⟨hP12, hlink1, hlink⟩ (u0 := u0) (sen := sen) (self := a) hmsg (cell := freshCell P1.m.cls kX) (cellS := cellS)
    hcell (fun _ => by simp) (by simp) rfl rfl hsel0 hselF hcellS hneS hknownS (by rw [hkeep _ (hout' _)]; exact hu0) (by rw [hkeep _ (hout' _)]; exact hsen)
    (Takes.of_laid hk hord tyC (by rw [Y.causeType]; rfl)) (Takes.of_laid hk hord tyS (by rw [Y.stackType]; exact fits_refV_array _ u0)) (Takes.of_laid hk hord tyP (by rw [Y.suppType]; exact fits_refV_object _ sen))
    (Takes.of_laid hk hord tyM (by rw [Y.msgType]; exact fits_refV_object _ ⟨msg, hmsg⟩)) Y.objLocals hskip htr [] hd6
    (by simp only [List.length_cons, hlen]; omega) (by simp only [List.length_cons, hlen]; exact hRlocals)
  obtain ⟨hwalk, hrun, hended, hWU, hsame⟩ := X₂.athrowLeaves hexec (g := { g with stack := .ref a :: rest, pc := g.pc + 3 }) hg hlocked hentered hout (a := a) (rest := rest) rfl hd9
  have hlt : a < ((T9.setVm vm₁).setVm vm₂).heap.size := (Array.getElem?_eq_some_iff.mp hcell).1
  have hU := heapAt_setCell_self (s := (T9.setVm vm₁).setVm vm₂) (plainBareV T.toThrowableT (freshCell P1.m.cls kX) a u0 sen msg) hlt
  refine ⟨_, st1 _ (fun acts => ?_), hrun, hended, hWU, hsame.weaken (fun y hy hlt' => ?_) (Nat.le_refl _) (Nat.le_refl _), _, hU, rfl, hfound⟩
  · rw [doInvoke_state]
    exact st2 _ hwalk
  · rcases List.mem_append.mp hy with h1 | h1
    · exact h1
    · exfalso
      have hb : y.base = a := by
        simp only [List.mem_cons, List.not_mem_nil, or_false] at h1
        rcases h1 with rfl | rfl | rfl | rfl | rfl <;> rfl
      rw [hb] at hlt'
      exact Nat.not_lt.mpr hnew hlt'
variable {H : Heap} {Q : State → Prop} {mc ms : Nat} {free : Addr → Prop} {ls : Array Slot} {rest : List Value} {Qc : Array Value → State → Outcome → State → Prop} {XC : String → Addr → State → State → Prop}
/-- 'throw new E("text")': new; dup; ldc; invokespecial; athrow -/
theorem xw_throw {cc : ByteArray} {pc : Nat} (hexec : p.tables.exec = Jvm.exec) (hb : c.code = cc) (hl : l.stackTraces = false) {own cls text Y9 : String} {names : List String} {ik is ic ix mc ms sa : Nat} {rx : ByteArray} {A : Nat → Prop}
    (x0 : decode rx 0 = .ok (.aload_n 0, 1)) (x1 : decode rx 1 = .ok (.aload_n 1, 1)) (x2 : decode rx 2 = .ok (.invokespecial ix, 3)) (x5 : decode rx 5 = .ok (.return_, 1))
    (hown : s.vm.findClass own = some m.cls) (hcls : Bundle.fit cls = true) (hY9 : Bundle.fit Y9 = true) (hnames : ∀ n ∈ names, Bundle.fit n = true)
    (hk : (Cond.classLink own ik cls).before args s = true) (hini : (Cond.initialized cls).before args s = true) (hstr : vk_R own is text sa s) (hat : ∀ w ∈ (xw_at own ic cls ix rx Y9 names).filter vx_no, w.before args s = true)
    (hgood : ∀ w ∈ Cond.classLink own ik cls :: Cond.initialized cls :: (xw_at own ic cls ix rx Y9 names).filter vx_no, vx_ot w = true)
    (hU : vx_Zq Bundle.tN "UNASSIGNED_STACK" Bundle.steD A s H) (hN : vx_Zq Bundle.tN "SUPPRESSED_SENTINEL" Bundle.listD A s H) (hsize : ls.size = c.maxLocals)
    (d0 : decode cc pc = .ok (.new ik, 3)) (d3 : decode cc (pc + 3) = .ok (.dup, 1)) (d4 : decode cc (pc + 4) = .ok (.ldc is, 2)) (d6 : decode cc (pc + 6) = .ok (.invokespecial ic, 3)) (d9 : decode cc (pc + 9) = .ok (.athrow, 1))
    (hout : ∀ x ∈ c.exceptionTable.toList, covers x (pc + 9) = false)
    (hRframes : names.length + 4 < R.frames) (hRlocals : (rest.map fun v => v.category).sum + (13 * (names.length + 2) + 43) ≤ R.locals) (hRcells : cells + 1 ≤ R.cells) (hRslots : slots + 6 ≤ R.slots) (hlocks : meth.locks = false)
    (hx : ∀ t : State, s.WarmedH t.vm → H.size ≤ t.heap.size → (∀ q : Nat, q < H.size → t.heap[q]? = H[q]?) → ∀ q : Addr, XC cls q s t)
    (hf : ∀ z ∈ locs, free z.base) (hc : cells + 1 ≤ mc) (hs : slots + 6 ≤ ms) :
    W p l e R s m args below meth c H locs cells slots (vx_MQ below Qc XC args s mc ms free) (F0 m pc ls rest) := by
  intro T hT X
  have htr : e.platform.stackTraces = false := (show e.platform.stackTraces = l.stackTraces by rw [X.admits.platform]).trans hl
  have Y := vx_rebase X (R' := { frames := R.frames, locals := R.locals, cells := 1, slots := 6 }) (Nat.le_refl _) (Nat.le_refl _) hRcells hRslots
  obtain ⟨s', hA⟩ : ∃ z, z = (T.setVm s.vm).setFrames (.invoking m args :: below) := ⟨_, rfl⟩
  rw [← hA] at Y
  have hvm : s'.vm = s.vm := by rw [hA]; rfl
  have hhp : s'.heap = H := by rw [hA]; exact hT
  have hW0 : s.WarmedH s'.vm := by rw [hvm]; exact State.WarmedH.refl s
  have hat' : ∀ w ∈ (xw_at own ic cls ix rx Y9 names).filter vx_no, w.before args s' = true := fun w hw => vx_ot_at hW0 hvm.symm (hgood w (List.mem_cons_of_mem _ (List.mem_cons_of_mem _ hw))) (hat w hw)
  have hk' : (Cond.classLink own ik cls).before args s' = true := vx_ot_at hW0 hvm.symm (hgood _ List.mem_cons_self) hk
  have hini' : (Cond.initialized cls).before args s' = true := vx_ot_at hW0 hvm.symm (hgood _ (List.mem_cons_of_mem _ List.mem_cons_self)) hini
  have hU' : vx_Zq Bundle.tN "UNASSIGNED_STACK" Bundle.steD A s' s'.heap := by rw [hhp]; exact vx_Zq.moved hW0.alike hU
  have hN' : vx_Zq Bundle.tN "SUPPRESSED_SENTINEL" Bundle.listD A s' s'.heap := by rw [hhp]; exact vx_Zq.moved hW0.alike hN
  have h : ∀ w ∈ xw_at own ic cls ix rx Y9 names, w.before args s' = true := vx_own hat' (vx_isRefq hU'.1) (vx_isRefq hN'.1) hU'.2.word hN'.2.word
  have hown' : s'.vm.findClass own = some m.cls := by rw [hvm]; exact hown
  have hins : (Cond.instantiable cls 6).before args s' = true := h _ (by simp [xw_at])
  obtain ⟨vm₁, cX, kX, hfX, hkX, -, -, X₁, st1⟩ := Y.newCold hexec (own := own) (C := cls) (index := ik) (n := 6) hown' hk' hins hini'
    (g := F0 m pc ls rest) rfl (by rw [hb]; exact d0) (Nat.le_refl _) (Nat.le_refl _)
  generalize hT1 : (T.setVm vm₁).pushCell { cls := cX, slots := kX.instanceTypes.map defaultValue, vm := .none } = T1 at X₁ st1
  have hcat : (Value.ref T.heap.size).category = 1 := rfl
  have hcellA : T1.heap[T.heap.size]? = some (freshCell cX kX) := by rw [← hT1]; exact State.heap_pushCell_size _ _
  have d3' : decode c.code (pc + 3) = .ok (.dup, 1) := by rw [hb]; exact d3
  have d4' : decode c.code (pc + 4) = .ok (.ldc is, 2) := by rw [hb]; exact d4
  have hstr' : vk_R own is text sa s' := vk_R.warm hW0 hstr
  obtain ⟨U, hsteps, hrun, hend, hW, hsame, ce, hce, hce2, hO⟩ := xw_ctor X₁ hexec htr x0 x1 x2 x5 (own := own) (cls := cls) (names := names) (ic := ic) hown' hcls hY9 hnames h (fun x hx => nomatch hx) hfX hkX hcellA (by rw [hhp, hT]; exact Nat.le_refl _) (msg := .ref sa) rfl
    (g := { method := m, pc := pc + 6, locals := ls, stack := .ref sa :: .ref T.heap.size :: .ref T.heap.size :: rest, locked := none }) rfl hsize rfl rfl (rest := rest) rfl
    (by rw [hb]; exact d6) (by rw [hb]; exact d9) hout hRframes (by simp only [List.map_cons, List.sum_cons, hcat]; show 2 * 0 + _ + _ ≤ _; omega) hlocks
  obtain ⟨f1, f2⟩ := vx_frame hsame
  rw [hhp] at f1 f2
  have hWs : s.WarmedH U.vm := State.WarmedH.trans hW0 hW
  have hcl : s.vm.findClass cls = some ce.cls := by
    have h9 := hO
    rw [hvm] at h9
    exact h9
  have hall : s.sameButNew ({ U with vm := s.vm } : State) locs mc ms := by
    subst hA
    obtain ⟨e1, e2⟩ := hsame
    rw [State.setFrames_setFrames] at e1
    have h2 : (T.setVm s.vm).sameButNew ({ U with vm := s.vm } : State) [] (0 + 1) (0 + 6) := ⟨e1, e2⟩
    have h3 := X.same.trans h2
    rw [List.append_nil] at h3
    exact h3.mono hc hs
  refine ⟨U, ?_, .threw T.heap.size, hrun, hend, Or.inr ⟨T.heap.size, rfl, cls, ce, locs, hx U hWs f1 (fun q hq => f2 q hq (fun z hz => nomatch hz)) _, hce, hce2, hcl, hWs, hall, hf⟩⟩
  refine st1 _ ?_
  show Steps p.tables e below (T1.setTop { method := m, pc := pc + 3, locals := ls, stack := .ref T.heap.size :: rest, locked := none }) _
  jvm_step X₁.here [X₁.here.top, hexec, d3', Value.category]
  exact X₁.ldcString hexec (own := own) (text := text) (index := is) (a := sa) hown' hstr'.1 hstr'.2
    (g := { method := m, pc := pc + 4, locals := ls, stack := .ref T.heap.size :: .ref T.heap.size :: rest, locked := none }) rfl d4' _ hsteps
theorem xw_out {pc : Nat} {E : String} {ce : Cell} {q : Addr} {mc ms : Nat} (hout : ∀ x ∈ c.exceptionTable.toList, covers x pc = false) (hlocks : meth.locks = false) (hcell : H[q]? = some ce) (hv : ce.vm = .none) (hcl : s.vm.findClass E = some ce.cls)
    (hx : ∀ t : State, t.heap = H → s.WarmedH t.vm → XC E q s t) (hf : ∀ z ∈ locs, free z.base) (hc : cells ≤ mc) (hs : slots ≤ ms) :
    vx_W p l e R s m args below meth c H locs cells slots (vx_MQ below Qc XC args s mc ms free) (F0 m pc ls rest) q := by
  intro T hT X
  obtain ⟨st1, hrun, hend, hW, hsm⟩ := X.leaveThrown q (g := F0 m pc ls rest) rfl rfl rfl hout hlocks
  have hcell9 : (T.setFrames (.throwing q :: below)).heap[q]? = some ce := by
    show T.heap[q]? = some ce
    rw [hT]; exact hcell
  exact ⟨_, st1, .threw q, hrun, hend, Or.inr ⟨q, rfl, E, ce, locs, hx _ hT hW, hcell9, hv, hcl, hW, hsm.mono hc hs, hf⟩⟩
theorem xw_ath {cc : ByteArray} {pc : Nat} {E : String} {ce : Cell} {q : Addr} {mc ms : Nat} (hexec : p.tables.exec = Jvm.exec) (hb : c.code = cc) (hd : decode cc pc = .ok (.athrow, 1)) (hout : ∀ x ∈ c.exceptionTable.toList, covers x pc = false) (hlocks : meth.locks = false) (hcell : H[q]? = some ce) (hv : ce.vm = .none) (hcl : s.vm.findClass E = some ce.cls)
    (hx : ∀ t : State, t.heap = H → s.WarmedH t.vm → XC E q s t) (hf : ∀ z ∈ locs, free z.base) (hc : cells ≤ mc) (hs : slots ≤ ms) :
    W p l e R s m args below meth c H locs cells slots (vx_MQ below Qc XC args s mc ms free) (F0 m pc ls (.ref q :: rest)) := by
  intro T hT X
  obtain ⟨st1, hrun, hend, hW, hsm⟩ := X.athrowLeaves hexec (g := F0 m pc ls (.ref q :: rest)) rfl rfl rfl hout (a := q) (rest := rest) rfl (by rw [hb]; exact hd) hlocks
  have hcell9 : (T.setFrames (.throwing q :: below)).heap[q]? = some ce := by
    show T.heap[q]? = some ce
    rw [hT]; exact hcell
  exact ⟨_, st1, .threw q, hrun, hend, Or.inr ⟨q, rfl, E, ce, locs, hx _ hT hW, hcell9, hv, hcl, hW, hsm.mono hc hs, hf⟩⟩
end XW
end
section
/-! The machine's values and heap as the evaluator has them -/
abbrev Gm : Type := va_G × (Nat → ClassId) × Nat × (Nat → Nat → Nat) × Nat × (Nat → Int32)
def tyA (t : Nat) : FieldType := match t with
  | 0 => .int
  | 1 => .byte
  | 2 => .boolean
  | _ => .long
def VR (m : Mem) (ad : Nat → Nat → Nat) (v : AV) (rv : Value) : Prop := match v with
  | .inl x => rv = .int x
  | .inr (.inl x) => rv = .long x
  | .inr (.inr none) => rv = .null ∨ ∃ a, rv = .ref a
  | .inr (.inr (some none)) => rv = .null
  | .inr (.inr (some (some q))) => rv = .ref (ad q.1 q.2) ∧ q.2 < mK m q.1
def SR (m : Mem) (ad : Nat → Nat → Nat) : List AV → List Value → Prop
  | [], [] => True
  | v :: r, w :: t => VR m ad v w ∧ SR m ad r t
  | _, _ => False
def LR (m : Mem) (ad : Nat → Nat → Nat) (nL : Nat) (l : Loc9) (ls : Array Slot) : Prop := l.length = nL ∧ ∃ lv : List (Nat × Value), lv_has ls nL lv ∧ ∀ (k : Nat) (v : AV), ldL l k = some v → ∃ rv : Value, (k, rv) ∈ lv ∧ VR m ad v rv
def Ex (m : Mem) (ad : Nat → Nat → Nat) (m1 : Mem) (ad1 : Nat → Nat → Nat) : Prop := (∀ k, mK m k ≤ mK m1 k) ∧ ∀ k j, j < mK m k → ad1 k j = ad k j
theorem Ex.rf {m : Mem} {ad : Nat → Nat → Nat} : Ex m ad m ad := ⟨fun _ => Nat.le_refl _, fun _ _ _ => rfl⟩
theorem Ex.same {m m1 : Mem} {ad : Nat → Nat → Nat} (h : mK m1 = mK m) : Ex m ad m1 ad := ⟨fun k => by rw [h]; exact Nat.le_refl _, fun _ _ _ => rfl⟩
theorem Ex.tr {m m1 m2 : Mem} {ad ad1 ad2 : Nat → Nat → Nat} (h : Ex m ad m1 ad1) (h2 : Ex m1 ad1 m2 ad2) : Ex m ad m2 ad2 := ⟨fun k => Nat.le_trans (h.1 k) (h2.1 k), fun k j hj => (h2.2 k j (Nat.lt_of_lt_of_le hj (h.1 k))).trans (h.2 k j hj)⟩
theorem VR.ex {m m1 : Mem} {ad ad1 : Nat → Nat → Nat} (h : Ex m ad m1 ad1) : ∀ {v : AV} {w : Value}, VR m ad v w → VR m1 ad1 v w
  | .inl _, _, hv => hv
  | .inr (.inl _), _, hv => hv
  | .inr (.inr none), _, hv => hv
  | .inr (.inr (some none)), _, hv => hv
  | .inr (.inr (some (some q))), _, hv => ⟨by rw [hv.1, h.2 _ _ hv.2], Nat.lt_of_lt_of_le hv.2 (h.1 _)⟩
theorem SR.ex {m m1 : Mem} {ad ad1 : Nat → Nat → Nat} (h : Ex m ad m1 ad1) : ∀ {st : List AV} {sv : List Value}, SR m ad st sv → SR m1 ad1 st sv
  | [], [], _ => trivial
  | [], _ :: _, hs => hs.elim
  | _ :: _, [], hs => hs.elim
  | _ :: _, _ :: _, hs => ⟨hs.1.ex h, SR.ex h hs.2⟩
theorem LR.ex {m m1 : Mem} {ad ad1 : Nat → Nat → Nat} (h : Ex m ad m1 ad1) {nL : Nat} {l : Loc9} {ls : Array Slot} (hl : LR m ad nL l ls) : LR m1 ad1 nL l ls := by
  obtain ⟨h0, lv, h1, h2⟩ := hl
  exact ⟨h0, lv, h1, fun k v hk => by
    obtain ⟨rv, h3, h4⟩ := h2 k v hk
    exact ⟨rv, h3, h4.ex h⟩⟩
theorem SR.inv {m : Mem} {ad : Nat → Nat → Nat} {v : AV} {r : List AV} : ∀ {sv : List Value}, SR m ad (v :: r) sv → ∃ w t, sv = w :: t ∧ VR m ad v w ∧ SR m ad r t
  | [], h => h.elim
  | w :: t, h => ⟨w, t, rfl, h.1, h.2⟩
theorem SR.nil {m : Mem} {ad : Nat → Nat → Nat} : ∀ {sv : List Value}, SR m ad [] sv → sv = []
  | [], _ => rfl
  | _ :: _, h => h.elim
theorem VR.cat {m : Mem} {ad : Nat → Nat → Nat} : ∀ {v : AV} {w : Value}, VR m ad v w → w.category = cat9 v
  | .inl _, _, h => by rw [show _ = Value.int _ from h]; rfl
  | .inr (.inl _), _, h => by rw [show _ = Value.long _ from h]; rfl
  | .inr (.inr none), _, h => by
    rcases h with h | ⟨a, h⟩ <;> rw [h] <;> rfl
  | .inr (.inr (some none)), _, h => by rw [show _ = Value.null from h]; rfl
  | .inr (.inr (some (some q))), _, h => by rw [h.1]; rfl
theorem SR.ct {m : Mem} {ad : Nat → Nat → Nat} : ∀ {st : List AV} {sv : List Value}, SR m ad st sv → (sv.map fun v => v.category).sum = cats st
  | [], [], _ => rfl
  | [], _ :: _, hs => hs.elim
  | _ :: _, [], hs => hs.elim
  | v :: r, w :: t, hs => by
    have h1 := hs.1.cat
    have h2 := SR.ct hs.2
    simp only [List.map_cons, List.sum_cons, cats]
    rw [h1, h2]
theorem SR.len {m : Mem} {ad : Nat → Nat → Nat} : ∀ {st : List AV} {sv : List Value}, SR m ad st sv → st.length = sv.length
  | [], [], _ => rfl
  | [], _ :: _, hs => hs.elim
  | _ :: _, [], hs => hs.elim
  | v :: r, w :: t, hs => by
    have h2 := SR.len hs.2
    simp only [List.length_cons]
    rw [h2]
theorem SR.app {m : Mem} {ad : Nat → Nat → Nat} : ∀ {a b : List AV} {c d : List Value}, SR m ad a c → SR m ad b d → SR m ad (a ++ b) (c ++ d)
  | [], _, [], _, _, h2 => h2
  | [], _, _ :: _, _, h1, _ => h1.elim
  | _ :: _, _, [], _, h1, _ => h1.elim
  | _ :: _, _, _ :: _, _, h1, h2 => ⟨h1.1, SR.app h1.2 h2⟩
theorem ldL_len {l : Loc9} : ∀ {k : Nat} {v : AV}, ldL l k = some v → k < l.length := by
  induction l with
  | nil => intro k v h; cases k <;> cases h
  | cons a r ih =>
    intro k v h
    cases k with
    | zero => exact Nat.succ_pos _
    | succ k => exact Nat.succ_lt_succ (ih h)
theorem len_setL (l : Loc9) : ∀ (k : Nat) (x : Option AV), (setL l k x).length = l.length := by
  induction l with
  | nil => intro k x; cases k <;> rfl
  | cons a r ih =>
    intro k x
    cases k with
    | zero => rfl
    | succ k => exact congrArg (· + 1) (ih k x)
theorem cutL_s (l : Loc9) (k : Nat) : cutL l (k + 1) = match ldL l k with
    | some (.inr (.inl _)) => setL l k none
    | _ => l := rfl
theorem len_cutL (l : Loc9) (k : Nat) : (cutL l k).length = l.length := by
  cases k with
  | zero => rfl
  | succ k =>
    rw [cutL_s]
    split
    · exact len_setL _ _ _
    · rfl
theorem ldL_setL (l : Loc9) : ∀ (k j : Nat) (x : Option AV), ldL (setL l k x) j = if j = k ∧ k < l.length then x else ldL l j := by
  induction l with
  | nil => intro k j x; cases k <;> cases j <;> simp [setL, ldL]
  | cons a r ih =>
    intro k j x
    cases k with
    | zero => cases j <;> simp [setL, ldL]
    | succ k => cases j with
      | zero => simp [setL, ldL]
      | succ j => simp only [setL, ldL, ih, List.length_cons, Nat.add_lt_add_iff_right, Nat.add_right_cancel_iff]
theorem ldL_cutL {l : Loc9} {k j : Nat} {v : AV} (h : ldL (cutL l k) j = some v) : ldL l j = some v ∧ ¬ (j + 1 = k ∧ cat9 v = 2) := by
  cases k with
  | zero => exact ⟨h, fun q => by omega⟩
  | succ k =>
    rw [cutL_s] at h
    split at h
    · rw [ldL_setL] at h
      split at h
      · cases h
      · rename_i hx _ hn
        refine ⟨h, fun q => ?_⟩
        have := ldL_len h
        exact hn ⟨by omega, by omega⟩
    · rename_i hn
      refine ⟨h, fun q => ?_⟩
      have e : j = k := by omega
      subst e
      match v, h, q with
      | .inl _, _, q => cases q.2
      | .inr (.inl y), h, q => exact hn y h
      | .inr (.inr _), _, q => cases q.2
theorem LR.ld {m : Mem} {ad : Nat → Nat → Nat} {nL : Nat} {l : Loc9} {ls : Array Slot} (h : LR m ad nL l ls) {k : Nat} {v : AV} (hk : ldL l k = some v) : ∃ rv, ls[k]? = some (.val rv) ∧ VR m ad v rv := by
  obtain ⟨-, lv, h1, h2⟩ := h
  obtain ⟨rv, h3, h4⟩ := h2 k v hk
  exact ⟨rv, h1.2.2 _ h3, h4⟩
/-- behind a store of one word -/
theorem LR.st {m : Mem} {ad : Nat → Nat → Nat} {nL : Nat} {l : Loc9} {ls ls1 : Array Slot} {lv : List (Nat × Value)} (h0 : l.length = nL) (h2 : ∀ (k : Nat) (v : AV), ldL l k = some v → ∃ rv : Value, (k, rv) ∈ lv ∧ VR m ad v rv) {k : Nat} {v : AV} {rv : Value} (hv : VR m ad v rv)
    (h1 : lv_has ls1 nL ((k, rv) :: lv.filter (fun q => !(q.1 == k) && !(q.1 + 1 == k && q.2.category == 2)))) : LR m ad nL (stL l k v) ls1 := by
  refine ⟨by rw [stL, len_setL, len_cutL]; exact h0, _, h1, fun j w hj => ?_⟩
  rw [stL, ldL_setL] at hj
  split at hj
  · rename_i e
    cases hj
    rw [e.1]
    exact ⟨rv, List.mem_cons_self, hv⟩
  · rename_i hn
    obtain ⟨h3, h4⟩ := ldL_cutL hj
    obtain ⟨rw2, h5, h6⟩ := h2 j w h3
    have hlt := ldL_len hj
    have hjk : j ≠ k := fun e => hn ⟨e, e ▸ hlt⟩
    refine ⟨rw2, List.mem_cons_of_mem _ (List.mem_filter.mpr ⟨h5, ?_⟩), h6⟩
    have hc := h6.cat
    simp only [Bool.and_eq_true, Bool.not_eq_true', beq_eq_false_iff_ne, ne_eq, Bool.and_eq_false_iff]
    refine ⟨hjk, ?_⟩
    by_cases e : j + 1 = k
    · right
      rw [hc]
      intro e2
      exact h4 ⟨e, e2⟩
    · exact Or.inl e
theorem LR.st2 {m : Mem} {ad : Nat → Nat → Nat} {nL : Nat} {l : Loc9} {ls ls1 : Array Slot} {lv : List (Nat × Value)} (h0 : l.length = nL) (h2 : ∀ (k : Nat) (v : AV), ldL l k = some v → ∃ rv : Value, (k, rv) ∈ lv ∧ VR m ad v rv) {k : Nat} {v : AV} {rv : Value} (hv : VR m ad v rv) (hk : k + 1 < nL)
    (h1 : lv_has ls1 nL ((k, rv) :: lv.filter (fun q => !(q.1 == k) && (!(q.1 == k + 1) && !(q.1 + 1 == k && q.2.category == 2))))) : LR m ad nL (stL2 l k v) ls1 := by
  refine ⟨by rw [stL2, len_setL, len_setL, len_cutL]; exact h0, _, h1, fun j w hj => ?_⟩
  rw [stL2, ldL_setL] at hj
  split at hj
  · cases hj
  · rename_i hn1
    rw [len_setL, len_cutL, h0] at hn1
    have hj1 : j ≠ k + 1 := fun e => hn1 ⟨e, hk⟩
    rw [ldL_setL] at hj
    split at hj
    · rename_i e
      cases hj
      rw [e.1]
      exact ⟨rv, List.mem_cons_self, hv⟩
    · rename_i hn
      obtain ⟨h3, h4⟩ := ldL_cutL hj
      obtain ⟨rw2, h5, h6⟩ := h2 j w h3
      have hlt := ldL_len hj
      have hjk : j ≠ k := fun e => hn ⟨e, e ▸ hlt⟩
      refine ⟨rw2, List.mem_cons_of_mem _ (List.mem_filter.mpr ⟨h5, ?_⟩), h6⟩
      have hc := h6.cat
      simp only [Bool.and_eq_true, Bool.not_eq_true', beq_eq_false_iff_ne, ne_eq, Bool.and_eq_false_iff]
      refine ⟨hjk, hj1, ?_⟩
      by_cases e : j + 1 = k
      · right
        rw [hc]
        intro e2
        exact h4 ⟨e, e2⟩
      · exact Or.inl e
/-- a method's first locals -/
theorem entL_at {m : Mem} {ad : Nat → Nat → Nat} : ∀ (n : Nat) (vs : List AV) (ws : List Value) (o : Nat), SR m ad vs ws → ∀ (k : Nat) (v : AV), ldL (entL vs n) k = some v → ∃ rv, (o + k, rv) ∈ lv_args o ws ∧ VR m ad v rv := by
  intro n
  induction n using Nat.strongRecOn with
  | ind n ih =>
    intro vs ws o hs k v hk
    cases n with
    | zero => cases k <;> cases hk
    | succ n =>
      match vs, ws, hs with
      | [], [], _ =>
        exfalso
        have key : ∀ n k, ldL (entL [] n) k = (none : Option AV) := by
          intro n
          induction n with
          | zero => intro k; cases k <;> rfl
          | succ n ih2 => intro k; cases k with
            | zero => rfl
            | succ k => exact ih2 k
        rw [key] at hk; cases hk
      | .inr (.inl x) :: r, w :: t, hs =>
        have hw : w = .long x := hs.1
        subst hw
        cases n with
        | zero =>
          cases k with
          | zero => cases hk; exact ⟨_, List.mem_cons_self, rfl⟩
          | succ k => cases k <;> cases hk
        | succ n =>
          cases k with
          | zero => cases hk; exact ⟨_, List.mem_cons_self, rfl⟩
          | succ k => cases k with
            | zero => cases hk
            | succ k =>
              obtain ⟨rv, h1, h2⟩ := ih n (by omega) r t (o + 2) hs.2 k v hk
              exact ⟨rv, List.mem_cons_of_mem _ (by rw [show o + (k + 1 + 1) = o + 2 + k by omega]; exact h1), h2⟩
      | .inl x :: r, w :: t, hs =>
        have hw : w = .int x := hs.1
        subst hw
        cases k with
        | zero => cases hk; exact ⟨_, List.mem_cons_self, rfl⟩
        | succ k =>
          obtain ⟨rv, h1, h2⟩ := ih n (by omega) r t (o + 1) hs.2 k v hk
          exact ⟨rv, List.mem_cons_of_mem _ (by rw [show o + (k + 1) = o + 1 + k by omega]; exact h1), h2⟩
      | .inr (.inr x) :: r, w :: t, hs =>
        have hc : w.category = 1 := hs.1.cat
        cases k with
        | zero => cases hk; exact ⟨_, List.mem_cons_self, hs.1⟩
        | succ k =>
          obtain ⟨rv, h1, h2⟩ := ih n (by omega) r t (o + 1) hs.2 k v hk
          refine ⟨rv, List.mem_cons_of_mem _ ?_, h2⟩
          rw [if_neg (by omega), show o + (k + 1) = o + 1 + k by omega]; exact h1
theorem len_entL : ∀ (n : Nat) (vs : List AV), (entL vs n).length = n := by
  intro n
  induction n using Nat.strongRecOn with
  | ind n ih =>
    intro vs
    cases n with
    | zero => rfl
    | succ n =>
      match vs with
      | [] => exact congrArg (· + 1) (ih n (by omega) [])
      | .inr (.inl x) :: r =>
        cases n with
        | zero => rfl
        | succ n => exact congrArg (· + 2) (ih n (by omega) r)
      | .inl x :: r => exact congrArg (· + 1) (ih n (by omega) r)
      | .inr (.inr x) :: r => exact congrArg (· + 1) (ih n (by omega) r)
end
section
/-! What is known of the tables and of the cells that were there before; the heap of the evaluator's things -/
def nwF : List (String × Nat × String × String × String × String) := [("WholeFieldsModel", 113, "WholeFieldsModel$Stop", "kind", "I", "WholeFieldsModel"), ("WholeFieldsModel", 119, "WholeFieldsModel$Stop", "place", "I", "WholeFieldsModel"), ("WholeFieldsModel", 206, "WholeFieldsModel$Book", "owners", "I", "WholeFieldsModel"), ("WholeFieldsModel", 209, "WholeFieldsModel$Book", "name", "[J", "WholeFieldsModel"), ("WholeFieldsModel", 302, "WholeFieldsModel$Book", "program", "[I", "WholeFieldsModel"), ("WholeFieldsModel", 300, "WholeFieldsModel$Book", "size", "[I", "WholeFieldsModel")]
def nwM : List (String × Nat × MethodName × String) := [("WholeFields$Reader", 17, ⟨"WholeFields$Book", "<init>", "()V"⟩, "WholeFields"), ("WholeFields", 24, ⟨"WholeFields$Ground", "<init>", "()V"⟩, "WholeFields"), ("WholeFields$Ground", 32, ⟨"WholeFields$Book", "<init>", "()V"⟩, "WholeFields"), ("WholeFieldsModel", 250, ⟨"WholeFieldsModel$Book", "<init>", "()V"⟩, "WholeFieldsModel")]
def cfw (q : String × Nat × String × String × String × String) : Cond := .fieldLinkNest q.1 q.2.1 q.2.2.1 q.2.2.2.1 q.2.2.2.2.1 q.2.2.2.2.2
def cmw (q : String × Nat × MethodName × String) : Cond := .methodLinkNest q.1 q.2.1 q.2.2.1 q.2.2.2
abbrev gB (Γ : Gm) : Nat := Γ.2.2.1
abbrev gX (Γ : Gm) : Nat → Nat → Nat := Γ.2.2.2.1
abbrev gL (Γ : Gm) : Nat := Γ.2.2.2.2.1
abbrev gS (Γ : Gm) : Nat → Int32 := Γ.2.2.2.2.2
abbrev gA (Γ : Gm) : Nat → Prop := fun q => gB Γ ≤ q
abbrev tyL (Γ : Gm) : List (ClassId × FieldType) := [(Γ.2.1 0, .int), (Γ.2.1 1, .byte), (Γ.2.1 2, .boolean), (Γ.2.1 3, .long)]
def wyN (k : Nat) : String := nth9 ["WAY_X", "WAY_Y", "CELL_X", "CELL_Y"] k ""
/-- what a throw of NoSuchElementException takes besides the good words -/
def nse9 (U : State) : Prop := va_Nw (.castable "java/util/NoSuchElementException" "java/util/NoSuchElementException") U ∧ va_Nw (.declares (Bundle.initS "java/lang/RuntimeException")) U ∧ va_Nw (.declares (Bundle.initS "java/lang/Exception")) U ∧ va_Nw (.declares (Bundle.initS Bundle.tN)) U
theorem nse9.warmC {s U : State} (hW : s.WarmedH U.vm) (h : nse9 s) : nse9 U := ⟨h.1.warmC hW, h.2.1.warmD hW, h.2.2.1.warmD hW, h.2.2.2.warmD hW⟩
theorem nse9.same (_ : true = true) {u U : State} (hv : u.vm = U.vm) (h : nse9 u) : nse9 U := ⟨h.1.same rfl hv, h.2.1.same rfl hv, h.2.2.1.same rfl hv, h.2.2.2.same rfl hv⟩
def KN (Γ : Gm) (U : State) (H : Heap) : Prop :=
  va_K Γ.1 vwC (tyL Γ) U ∧ (∀ q ∈ nwF, va_Nw (cfw q) U) ∧ (∀ q ∈ nwM, va_Nw (cmw q) U) ∧
  (∀ q ∈ strL, vk_R (onm q.1) q.2.1 (nth9 strX q.2.2 "") (gX Γ 80 q.2.2) U) ∧
  vk_S 9 (strT.map List.length) strT (gX Γ 80) (gX Γ 81) (gA Γ) U H ∧
  (∀ k, k < 4 → va_Z "WholeFields$Walker" (wyN k) "[I" (.ref (gX Γ (90 + k) 0)) (gA Γ) U H ∧ va_T .int (gX Γ (90 + k) 0) 4 (fun j => .int (roT (90 + k) 0 j)) (gA Γ) U H) ∧
  vx_Zq Bundle.tN "UNASSIGNED_STACK" Bundle.steD (gA Γ) U H ∧ vx_Zq Bundle.tN "SUPPRESSED_SENTINEL" Bundle.listD (gA Γ) U H ∧
  va_Zq "jdk/internal/util/Preconditions" "SIOOBE_FORMATTER" "Ljava/util/function/BiFunction;" (gA Γ) U H ∧
  va_Z "java/lang/String" "COMPACT_STRINGS" "Z" (.int 1) (gA Γ) U H ∧
  va_X (gX Γ 99 0) (gL Γ) (gS Γ) U H ∧ gX Γ 99 0 < gB Γ ∧ gB Γ ≤ H.size ∧
  nse9 U ∧ va_Nw (.castable "WholeFieldsModel$Stop" "WholeFieldsModel$Stop") U
theorem KN.moved {Γ : Gm} {s U : State} {H : Heap} (hW : s.WarmedH U.vm) (h : KN Γ s H) : KN Γ U H := by
  obtain ⟨h1, h2, h3, h4, h5, h6, h7, h8, h9, h10, h11, h12, h13, h14, h15⟩ := h
  exact ⟨va_K.moved hW.alike h1, fun q hq => (h2 q hq).warmF hW, fun q hq => (h3 q hq).warmM hW, fun q hq => (h4 q hq).warm hW, h5.moved hW.alike, fun k hk => ⟨(h6 k hk).1.moved hW.alike, (h6 k hk).2.moved hW.alike⟩, h7.moved hW.alike, h8.moved hW.alike, h9.moved hW.alike, h10.moved hW.alike, h11.moved hW.alike, h12, h13, h14.warmC hW, h15.warmC hW⟩
theorem KN.same {Γ : Gm} {s U : State} {H : Heap} (hv : U.vm = s.vm) (h : KN Γ s H) : KN Γ U H := by
  have hW : s.vm.Alike U.vm := by rw [hv]; exact Vm.Alike.refl _
  obtain ⟨h1, h2, h3, h4, h5, h6, h7, h8, h9, h10, h11, h12, h13, h14, h15⟩ := h
  exact ⟨va_K.moved hW h1, fun q hq => (h2 q hq).same rfl hv.symm, fun q hq => (h3 q hq).same rfl hv.symm, fun q hq => (h4 q hq).same hv, h5.moved hW, fun k hk => ⟨(h6 k hk).1.moved hW, (h6 k hk).2.moved hW⟩, h7.moved hW, h8.moved hW, h9.moved hW, h10.moved hW, h11.moved hW, h12, h13, h14.same rfl hv.symm, h15.same rfl hv.symm⟩
theorem KN.kept {Γ : Gm} {U : State} {H H1 : Heap} (hz : H.size ≤ H1.size) (hq : ∀ a : Nat, a < H.size → ¬ gA Γ a → H1[a]? = H[a]?) (h : KN Γ U H) : KN Γ U H1 := by
  obtain ⟨h1, h2, h3, h4, h5, h6, h7, h8, h9, h10, h11, h12, h13, h14, h15⟩ := h
  refine ⟨h1, h2, h3, h4, h5.kept hq, fun k hk => ⟨(h6 k hk).1.kept hq, (h6 k hk).2.kept hq⟩, h7.kept hq, h8.kept hq, h9.kept hq, h10.kept hq, h11.kept ?_, h12, Nat.le_trans h13 hz, h14, h15⟩
  exact hq _ (Nat.lt_of_lt_of_le h12 h13) (Nat.not_le.mpr h12)
def aCl (Γ : Gm) (m : Mem) (k j : Nat) : Cell := arrV (Γ.2.1 (aTy k)) (kLn k) (fun i => if aTy k = 3 then .long (mJ m k j i) else .int (mI m k j i))
def eKn (L k : Nat) : Nat := if k = 98 then L else if k = 80 ∨ k = 81 then 9 else if k = 99 ∨ (90 ≤ k ∧ k ≤ 93) then 1 else 0
def Rep (Γ : Gm) (m : Mem) (ad : Nat → Nat → Nat) (H : Heap) : Prop :=
  (∀ k j, k < 15 → j < mK m k → ∃ cell : Cell, H[ad k j]? = some cell ∧ cell.cls = Γ.1.1 k ∧ cell.vm = .none ∧ ∀ i, i < (clT k).2.2 → ∃ v, cell.slots[Γ.1.2 k i]? = some v ∧ VR m ad (gf9 m k i (fcd (tyT k i)) j) v) ∧
  (∀ k j, 15 ≤ k → k < 80 → j < mK m k → H[ad k j]? = some (aCl Γ m k j)) ∧
  (∀ k j, k < 80 → j < mK m k → gB Γ ≤ ad k j) ∧
  (∀ k j k2 j2, k < 80 → k2 < 80 → j < mK m k → j2 < mK m k2 → ad k j = ad k2 j2 → k = k2 ∧ j = j2) ∧
  (∀ k j, 80 ≤ k → ad k j = gX Γ k j) ∧ (∀ k, 80 ≤ k → mK m k = eKn (gL Γ) k) ∧ (∀ i, i < gL Γ → mI m 99 0 i = gS Γ i)
def rmD (d mc ms : Nat) : Room := { frames := d + 16, cells := mc, slots := ms, locals := 64 * d + 400 }
/-- where a method M stands -/
def CX (M : Nat) (p : Program) (l : Launch) (s : State) (m : MethodId) (args : Array Value) (meth : Method) (c : Code) : Prop :=
  p.tables.exec = Jvm.exec ∧ c.code = mB M ∧ c.maxLocals = mxT M ∧ meth.sig.returnType = mRt M ∧ s.vm.findClass (onm (mO M)) = some m.cls ∧ (∀ w ∈ lw_tbl, goodWord w = true → w.before args s = true) ∧ meth.locks = false ∧ meth.name = (mY M).name ∧ c.exceptionTable.toList = tableOf (exT M) ∧ l.stackTraces = false
end
section
/-! The step's data read back -/
abbrev Nx (pc1 : Nat) (l1 : Loc9) (s1 : List AV) (m1 : Mem) : St9 := .inr (.inl (pc1, l1, s1, m1))
def sw9 (x : Int32) (d : Nat) : List (Int32 × Nat) → Nat
  | [] => d
  | q :: r => if x = q.1 then q.2 else sw9 x d r
section INV
variable {pc pc1 : Nat} {l l1 : Loc9} {st s1 : List AV} {m m1 : Mem}
theorem iv_n {pc2 : Nat} {l2 : Loc9} {s2 : List AV} {m2 : Mem} (h : sN pc2 l2 s2 m2 = Nx pc1 l1 s1 m1) : pc1 = pc2 ∧ l1 = l2 ∧ s1 = s2 ∧ m1 = m2 := by
  simp only [sN, Nx, Sum.inr.injEq, Sum.inl.injEq, Prod.mk.injEq] at h
  exact ⟨h.1.symm, h.2.1.symm, h.2.2.1.symm, h.2.2.2.symm⟩
theorem iv_F (h : sF = Nx pc1 l1 s1 m1) : False := by cases h
theorem iv_ib {f : Int32 → Int32 → Int32} (h : ib9 sF sN f pc l st m = Nx pc1 l1 s1 m1) : ∃ x y r, st = .inl y :: .inl x :: r ∧ pc1 = pc ∧ l1 = l ∧ s1 = vi (f x y) :: r ∧ m1 = m := by
  unfold ib9 at h
  split at h
  · obtain ⟨a, b, c, d⟩ := iv_n h; exact ⟨_, _, _, rfl, a, b, c, d⟩
  · exact (iv_F h).elim
theorem iv_lb {f : Int64 → Int64 → Int64} (h : lb9 sF sN f pc l st m = Nx pc1 l1 s1 m1) : ∃ x y r, st = .inr (.inl y) :: .inr (.inl x) :: r ∧ pc1 = pc ∧ l1 = l ∧ s1 = vl (f x y) :: r ∧ m1 = m := by
  unfold lb9 at h
  split at h
  · obtain ⟨a, b, c, d⟩ := iv_n h; exact ⟨_, _, _, rfl, a, b, c, d⟩
  · exact (iv_F h).elim
theorem iv_ls {f : Int64 → Int32 → Int64} (h : ls9 sF sN f pc l st m = Nx pc1 l1 s1 m1) : ∃ x y r, st = .inl y :: .inr (.inl x) :: r ∧ pc1 = pc ∧ l1 = l ∧ s1 = vl (f x y) :: r ∧ m1 = m := by
  unfold ls9 at h
  split at h
  · obtain ⟨a, b, c, d⟩ := iv_n h; exact ⟨_, _, _, rfl, a, b, c, d⟩
  · exact (iv_F h).elim
theorem iv_iu {f : Int32 → AV} (h : iu9 sF sN f pc l st m = Nx pc1 l1 s1 m1) : ∃ x r, st = .inl x :: r ∧ pc1 = pc ∧ l1 = l ∧ s1 = f x :: r ∧ m1 = m := by
  unfold iu9 at h
  split at h
  · obtain ⟨a, b, c, d⟩ := iv_n h; exact ⟨_, _, rfl, a, b, c, d⟩
  · exact (iv_F h).elim
theorem iv_lu {f : Int64 → AV} (h : lu9 sF sN f pc l st m = Nx pc1 l1 s1 m1) : ∃ x r, st = .inr (.inl x) :: r ∧ pc1 = pc ∧ l1 = l ∧ s1 = f x :: r ∧ m1 = m := by
  unfold lu9 at h
  split at h
  · obtain ⟨a, b, c, d⟩ := iv_n h; exact ⟨_, _, rfl, a, b, c, d⟩
  · exact (iv_F h).elim
theorem iv_il {k : Nat} (h : il9 sF sN k pc l st m = Nx pc1 l1 s1 m1) : ∃ x, ldL l k = some (.inl x) ∧ pc1 = pc ∧ l1 = l ∧ s1 = vi x :: st ∧ m1 = m := by
  unfold il9 at h
  split at h
  · rename_i x hx
    obtain ⟨a, b, c, d⟩ := iv_n h; exact ⟨_, hx, a, b, c, d⟩
  · exact (iv_F h).elim
theorem iv_ll {k : Nat} (h : ll9 sF sN k pc l st m = Nx pc1 l1 s1 m1) : ∃ x, ldL l k = some (.inr (.inl x)) ∧ pc1 = pc ∧ l1 = l ∧ s1 = vl x :: st ∧ m1 = m := by
  unfold ll9 at h
  split at h
  · rename_i x hx
    obtain ⟨a, b, c, d⟩ := iv_n h; exact ⟨_, hx, a, b, c, d⟩
  · exact (iv_F h).elim
theorem iv_al {k : Nat} (h : al9 sF sN k pc l st m = Nx pc1 l1 s1 m1) : ∃ x, ldL l k = some (.inr (.inr x)) ∧ pc1 = pc ∧ l1 = l ∧ s1 = .inr (.inr x) :: st ∧ m1 = m := by
  unfold al9 at h
  split at h
  · rename_i x hx
    obtain ⟨a, b, c, d⟩ := iv_n h; exact ⟨_, hx, a, b, c, d⟩
  · exact (iv_F h).elim
theorem iv_is {k : Nat} (h : is9 sF sN k pc l st m = Nx pc1 l1 s1 m1) : ∃ x r, st = .inl x :: r ∧ k < l.length ∧ pc1 = pc ∧ l1 = stL l k (vi x) ∧ s1 = r ∧ m1 = m := by
  unfold is9 at h
  split at h
  · split at h
    · rename_i hk
      obtain ⟨a, b, c, d⟩ := iv_n h; exact ⟨_, _, rfl, hk, a, b, c, d⟩
    · exact (iv_F h).elim
  · exact (iv_F h).elim
theorem iv_ls2 {k : Nat} (h : ls29 sF sN k pc l st m = Nx pc1 l1 s1 m1) : ∃ x r, st = .inr (.inl x) :: r ∧ k + 1 < l.length ∧ pc1 = pc ∧ l1 = stL2 l k (vl x) ∧ s1 = r ∧ m1 = m := by
  unfold ls29 at h
  split at h
  · split at h
    · rename_i hk
      obtain ⟨a, b, c, d⟩ := iv_n h; exact ⟨_, _, rfl, hk, a, b, c, d⟩
    · exact (iv_F h).elim
  · exact (iv_F h).elim
theorem iv_as {k : Nat} (h : as9 sF sN k pc l st m = Nx pc1 l1 s1 m1) : ∃ x r, st = .inr (.inr x) :: r ∧ k < l.length ∧ pc1 = pc ∧ l1 = stL l k (.inr (.inr x)) ∧ s1 = r ∧ m1 = m := by
  unfold as9 at h
  split at h
  · split at h
    · rename_i hk
      obtain ⟨a, b, c, d⟩ := iv_n h; exact ⟨_, _, rfl, hk, a, b, c, d⟩
    · exact (iv_F h).elim
  · exact (iv_F h).elim
theorem iv_ic {C : Int32 → Int32 → Bool} {a : Nat} (h : ic9 sF sN C a pc l st m = Nx pc1 l1 s1 m1) : ∃ x y r, st = .inl y :: .inl x :: r ∧ pc1 = (if C x y = true then a else pc) ∧ l1 = l ∧ s1 = r ∧ m1 = m := by
  unfold ic9 at h
  split at h
  · split at h
    · rename_i hc
      obtain ⟨e1, b, c, d⟩ := iv_n h; exact ⟨_, _, _, rfl, by rw [if_pos hc]; exact e1, b, c, d⟩
    · rename_i hc
      obtain ⟨e1, b, c, d⟩ := iv_n h; exact ⟨_, _, _, rfl, by rw [if_neg hc]; exact e1, b, c, d⟩
  · exact (iv_F h).elim
theorem iv_if {C : Int32 → Bool} {a : Nat} (h : if9 sF sN C a pc l st m = Nx pc1 l1 s1 m1) : ∃ x r, st = .inl x :: r ∧ pc1 = (if C x = true then a else pc) ∧ l1 = l ∧ s1 = r ∧ m1 = m := by
  unfold if9 at h
  split at h
  · split at h
    · rename_i hc
      obtain ⟨e1, b, c, d⟩ := iv_n h; exact ⟨_, _, rfl, by rw [if_pos hc]; exact e1, b, c, d⟩
    · rename_i hc
      obtain ⟨e1, b, c, d⟩ := iv_n h; exact ⟨_, _, rfl, by rw [if_neg hc]; exact e1, b, c, d⟩
  · exact (iv_F h).elim
theorem iv_ald {ty : Nat → Bool} (h : ald9 sF sN ty pc l st m = Nx pc1 l1 s1 m1) : ∃ i k j r, st = .inl i :: vr k j :: r ∧ ty (aTy k) = true ∧ okK k = true ∧ inR i (aLn m k j) = true ∧ pc1 = pc ∧ l1 = l ∧ s1 = vi (aGt m k j i.toNatClampNeg) :: r ∧ m1 = m := by
  unfold ald9 at h
  split at h
  · rename_i i q r
    split at h
    · rename_i h1
      split at h
      · rename_i h2
        obtain ⟨e1, b, c, d⟩ := iv_n h; exact ⟨i, q.1, q.2, r, rfl, h1.1, h1.2, h2, e1, b, c, d⟩
      · exact (iv_F h).elim
    · exact (iv_F h).elim
  · exact (iv_F h).elim
theorem iv_lald (h : lald9 sF sN pc l st m = Nx pc1 l1 s1 m1) : ∃ i k j r, st = .inl i :: vr k j :: r ∧ k < 80 ∧ aTy k = 3 ∧ inR i (kLn k) = true ∧ pc1 = pc ∧ l1 = l ∧ s1 = vl (mJ m k j i.toNatClampNeg) :: r ∧ m1 = m := by
  unfold lald9 at h
  split at h
  · rename_i i q r
    split at h
    · rename_i h1
      split at h
      · rename_i h2
        obtain ⟨e1, b, c, d⟩ := iv_n h; exact ⟨i, q.1, q.2, r, rfl, h1.1, h1.2, h2, e1, b, c, d⟩
      · exact (iv_F h).elim
    · exact (iv_F h).elim
  · exact (iv_F h).elim
theorem iv_iast (h : iast9 sF sN pc l st m = Nx pc1 l1 s1 m1) : ∃ x i k j r, st = .inl x :: .inl i :: vr k j :: r ∧ k < 80 ∧ aTy k = 0 ∧ inR i (kLn k) = true ∧ pc1 = pc ∧ l1 = l ∧ s1 = r ∧ m1 = setI m k j i.toNatClampNeg x := by
  unfold iast9 at h
  split at h
  · rename_i x i q r
    split at h
    · rename_i h1
      split at h
      · rename_i h2
        obtain ⟨e1, b, c, d⟩ := iv_n h; exact ⟨x, i, q.1, q.2, r, rfl, h1.1, h1.2, h2, e1, b, c, d⟩
      · exact (iv_F h).elim
    · exact (iv_F h).elim
  · exact (iv_F h).elim
theorem iv_bast (h : bast9 sF sN pc l st m = Nx pc1 l1 s1 m1) : ∃ x i k j r, st = .inl x :: .inl i :: vr k j :: r ∧ k < 80 ∧ inR i (kLn k) = true ∧ pc1 = pc ∧ l1 = l ∧ s1 = r ∧ ((aTy k = 1 ∧ m1 = setI m k j i.toNatClampNeg x.toInt8.toInt32) ∨ (aTy k = 2 ∧ m1 = setI m k j i.toNatClampNeg (x &&& 1))) := by
  unfold bast9 at h
  split at h
  · rename_i x i q r
    split at h
    · rename_i h1
      split at h
      · rename_i h2
        split at h
        · rename_i h3
          obtain ⟨e1, b, c, d⟩ := iv_n h; exact ⟨x, i, q.1, q.2, r, rfl, h1, h2, e1, b, c, Or.inl ⟨h3, d⟩⟩
        · rename_i h3
          obtain ⟨e1, b, c, d⟩ := iv_n h; exact ⟨x, i, q.1, q.2, r, rfl, h1, h2, e1, b, c, Or.inr ⟨h3, d⟩⟩
        · exact (iv_F h).elim
      · exact (iv_F h).elim
    · exact (iv_F h).elim
  · exact (iv_F h).elim
theorem iv_last (h : last9 sF sN pc l st m = Nx pc1 l1 s1 m1) : ∃ x i k j r, st = .inr (.inl x) :: .inl i :: vr k j :: r ∧ k < 80 ∧ aTy k = 3 ∧ inR i (kLn k) = true ∧ pc1 = pc ∧ l1 = l ∧ s1 = r ∧ m1 = setJ m k j i.toNatClampNeg x := by
  unfold last9 at h
  split at h
  · rename_i x i q r
    split at h
    · rename_i h1
      split at h
      · rename_i h2
        obtain ⟨e1, b, c, d⟩ := iv_n h; exact ⟨x, i, q.1, q.2, r, rfl, h1.1, h1.2, h2, e1, b, c, d⟩
      · exact (iv_F h).elim
    · exact (iv_F h).elim
  · exact (iv_F h).elim
theorem iv_gtf {a b c : Nat} (h : gtf9 sF sN a b c pc l st m = Nx pc1 l1 s1 m1) : ∃ j r, st = vr a j :: r ∧ pc1 = pc ∧ l1 = l ∧ s1 = gf9 m a b c j :: r ∧ m1 = m := by
  unfold gtf9 at h
  split at h
  · rename_i q r
    split at h
    · rename_i h1
      subst h1
      obtain ⟨e1, b, c, d⟩ := iv_n h; exact ⟨q.2, r, rfl, e1, b, c, d⟩
    · exact (iv_F h).elim
  · exact (iv_F h).elim
theorem iv_ptf {a b c : Nat} (h : ptf9 sF sN a b c pc l st m = Nx pc1 l1 s1 m1) : ∃ v j r m2, st = v :: vr a j :: r ∧ pf9 m a b c j v = some m2 ∧ pc1 = pc ∧ l1 = l ∧ s1 = r ∧ m1 = m2 := by
  unfold ptf9 at h
  split at h
  · rename_i v q r
    split at h
    · rename_i h1
      subst h1
      split at h
      · rename_i m2 h2
        obtain ⟨e1, b, c, d⟩ := iv_n h; exact ⟨v, q.2, r, m2, rfl, h2, e1, b, c, d⟩
      · exact (iv_F h).elim
    · exact (iv_F h).elim
  · exact (iv_F h).elim
theorem iv_cp (h : cp9 sF sN pc l st m = Nx pc1 l1 s1 m1) : ∃ n dp kq jq sp kp jp r, st = .inl n :: .inl dp :: vr kq jq :: .inl sp :: vr kp jp :: r ∧ (kq < 80 ∧ kp < 80 ∧ aTy kq = 0 ∧ aTy kp = 0 ∧ 0 ≤ n ∧ 0 ≤ sp ∧ 0 ≤ dp ∧ sp.toNatClampNeg + n.toNatClampNeg ≤ kLn kp ∧ dp.toNatClampNeg + n.toNatClampNeg ≤ kLn kq ∧ cats r ≤ 8) ∧ pc1 = pc ∧ l1 = l ∧ s1 = r ∧ m1 = (upA m.1 kq jq (va_cpy (m.1 kp jp) (m.1 kq jq) sp.toNatClampNeg dp.toNatClampNeg n.toNatClampNeg), m.2) := by
  unfold cp9 at h
  split at h
  · rename_i n dp q sp p r
    split at h
    · rename_i h1
      obtain ⟨e1, b, c, d⟩ := iv_n h; exact ⟨n, dp, q.1, q.2, sp, p.1, p.2, r, rfl, h1, e1, b, c, d⟩
    · exact (iv_F h).elim
  · exact (iv_F h).elim
theorem iv_nwa {a n c : Nat} (h : nwa9 sF sN a n c pc l st m = Nx pc1 l1 s1 m1) : ∃ x r, st = .inl x :: r ∧ (x = Int32.ofNat n ∧ aTy a = c ∧ kLn a = n ∧ a < 80) ∧ pc1 = pc ∧ l1 = l ∧ s1 = vr a (mK m a) :: r ∧ m1 = newM m a n := by
  unfold nwa9 at h
  split at h
  · split at h
    · rename_i h1
      obtain ⟨e1, b, c, d⟩ := iv_n h; exact ⟨_, _, rfl, h1, e1, b, c, d⟩
    · exact (iv_F h).elim
  · exact (iv_F h).elim
theorem iv_mt {c : Nat} (h : mt9 sF sN c pc l st m = Nx pc1 l1 s1 m1) : (c = 61 ∧ ∃ x y r, st = .inl y :: .inl x :: r ∧ cats r ≤ 8 ∧ pc1 = pc ∧ l1 = l ∧ s1 = vi (if y < x then y else x) :: r ∧ m1 = m) ∨ (c = 62 ∧ ∃ x y r, st = .inl y :: .inl x :: r ∧ cats r ≤ 8 ∧ pc1 = pc ∧ l1 = l ∧ s1 = vi (if x < y then y else x) :: r ∧ m1 = m) ∨ (c ≠ 61 ∧ c ≠ 62 ∧ ∃ x r, st = .inl x :: r ∧ cats r ≤ 8 ∧ pc1 = pc ∧ l1 = l ∧ s1 = vi (if 0 ≤ x then x else 0 - x) :: r ∧ m1 = m) := by
  unfold mt9 at h
  split at h
  · split at h
    · rename_i y x r
      by_cases hr : cats r ≤ 8
      · rw [if_pos hr] at h
        obtain ⟨e1, b, c, d⟩ := iv_n h
        exact Or.inl ⟨rfl, x, y, r, rfl, hr, e1, b, c, d⟩
      · rw [if_neg hr] at h; exact (iv_F h).elim
    · exact (iv_F h).elim
  · split at h
    · rename_i y x r
      by_cases hr : cats r ≤ 8
      · rw [if_pos hr] at h
        obtain ⟨e1, b, c, d⟩ := iv_n h
        exact Or.inr (Or.inl ⟨rfl, x, y, r, rfl, hr, e1, b, c, d⟩)
      · rw [if_neg hr] at h; exact (iv_F h).elim
    · exact (iv_F h).elim
  · rename_i n1 n2
    split at h
    · rename_i x r
      by_cases hr : cats r ≤ 8
      · rw [if_pos hr] at h
        obtain ⟨e1, b, c, d⟩ := iv_n h
        exact Or.inr (Or.inr ⟨n1, n2, x, r, rfl, hr, e1, b, c, d⟩)
      · rw [if_neg hr] at h; exact (iv_F h).elim
    · exact (iv_F h).elim
theorem iv_inv {d a b c : Nat} (h : inv9 sF sK sN d a b c pc l st m = Nx pc1 l1 s1 m1) : (c = 50 ∧ ∃ q r, st = .inr (.inr (some (some q))) :: r ∧ cats r ≤ 8 ∧ pc1 = pc ∧ l1 = l ∧ s1 = r ∧ m1 = m) ∨ (c = 60 ∧ cp9 sF sN pc l st m = Nx pc1 l1 s1 m1) ∨ (61 ≤ c ∧ c ≤ 63 ∧ mt9 sF sN c pc l st m = Nx pc1 l1 s1 m1) := by
  unfold inv9 at h
  by_cases h99 : c = 99
  · rw [if_pos h99] at h; exact (iv_F h).elim
  rw [if_neg h99] at h
  by_cases h50 : c = 50
  · rw [if_pos h50] at h
    split at h
    · rename_i q r
      by_cases hr : cats r ≤ 8
      · rw [if_pos hr] at h
        obtain ⟨e1, b, c, d⟩ := iv_n h; exact Or.inl ⟨h50, q, r, rfl, hr, e1, b, c, d⟩
      · rw [if_neg hr] at h; exact (iv_F h).elim
    · exact (iv_F h).elim
  rw [if_neg h50] at h
  by_cases h60 : c = 60
  · rw [if_pos h60] at h
    exact Or.inr (Or.inl ⟨h60, h⟩)
  rw [if_neg h60] at h
  by_cases h61 : 61 ≤ c ∧ c ≤ 63
  · rw [if_pos h61] at h
    exact Or.inr (Or.inr ⟨h61.1, h61.2, h⟩)
  rw [if_neg h61] at h
  exfalso
  split at h
  · exact iv_F h
  · split at h
    · split at h
      · split at h
        · exact iv_F h
        · cases h
      · exact iv_F h
    · exact iv_F h
theorem iv_call {d a b c d1 a1 pc2 : Nat} {av rest : List AV} {l2 : Loc9} {m2 : Mem} (h : inv9 sF sK sN d a b c pc l st m = .inr (.inr (d1, a1, av, rest, pc2, l2, m2))) : c ≠ 99 ∧ c ≠ 50 ∧ c ≠ 60 ∧ ¬ (61 ≤ c ∧ c ≤ 63) ∧ popN b [] st = some (av, rest) ∧ cats rest ≤ 8 ∧ cats av ≤ mxT a ∧ rcv9 c av = true ∧ d = d1 + 1 ∧ a1 = a ∧ pc2 = pc ∧ l2 = l ∧ m2 = m := by
  unfold inv9 at h
  by_cases h99 : c = 99
  · rw [if_pos h99] at h; cases h
  rw [if_neg h99] at h
  by_cases h50 : c = 50
  · rw [if_pos h50] at h
    split at h
    · split at h <;> cases h
    · cases h
  rw [if_neg h50] at h
  by_cases h60 : c = 60
  · rw [if_pos h60] at h
    unfold cp9 at h
    split at h
    · split at h <;> cases h
    · cases h
  rw [if_neg h60] at h
  by_cases h61 : 61 ≤ c ∧ c ≤ 63
  · rw [if_pos h61] at h
    unfold mt9 at h
    split at h <;> split at h <;> first | cases h | (split at h <;> cases h)
  rw [if_neg h61] at h
  split at h
  · cases h
  · rename_i args9 rest9 hp
    split at h
    · rename_i hc
      split at h
      · rename_i hr
        split at h
        · cases h
        · cases h
          exact ⟨h99, h50, h60, h61, hp, hc.1, hc.2, hr, rfl, rfl, rfl, rfl, rfl⟩
      · cases h
    · cases h
theorem iv_swK {x : Int32} {d : Nat} {r : List AV} : ∀ {L : List (Int32 × Nat)}, swK x d (fun t => sN t l r m) L = Nx pc1 l1 s1 m1 → pc1 = sw9 x d L ∧ l1 = l ∧ s1 = r ∧ m1 = m := by
  intro L
  induction L with
  | nil => intro h; exact iv_n h
  | cons q t ih =>
    intro h
    simp only [swK] at h
    simp only [sw9]
    split at h
    · rename_i hx
      rw [if_pos hx]; exact iv_n h
    · rename_i hx
      rw [if_neg hx]; exact ih h
end INV
theorem sw9_at {pc : Nat} {x : Int32} {d : Nat} : ∀ {offs : List Int} {L : List (Int32 × Nat)} {lo : Int}, swOK pc lo offs L = true →
    ((x.toInt < lo ∨ lo + (offs.length : Int) - 1 < x.toInt) → sw9 x d L = d) ∧ (¬ x.toInt < lo → ¬ lo + (offs.length : Int) - 1 < x.toInt → ∃ o, offs[(x.toInt - lo).toNat]? = some o ∧ (pc : Int) + o = (sw9 x d L : Int))
  | [], [], lo, _ => ⟨fun _ => rfl, fun h1 h2 => by simp at h2; omega⟩
  | [], _ :: _, _, h => by simp [swOK] at h
  | _ :: _, [], _, h => by simp [swOK] at h
  | o :: r, q :: t, lo, h => by
    simp only [swOK, Bool.and_eq_true, decide_eq_true_eq] at h
    obtain ⟨⟨h1, h2⟩, h3⟩ := h
    obtain ⟨i1, i2⟩ := sw9_at (x := x) (d := d) h3
    simp only [sw9, List.length_cons]
    by_cases e : x = q.1
    · subst e
      rw [if_pos rfl]
      refine ⟨fun h => by omega, fun _ _ => ⟨o, by rw [h1]; simp, h2⟩⟩
    · rw [if_neg e]
      have hne : x.toInt ≠ lo := fun z => e (Int32.toInt_inj.mp (by rw [z, h1]))
      refine ⟨fun h => i1 (by omega), fun g1 g2 => ?_⟩
      obtain ⟨o2, e1, e2⟩ := i2 (by omega) (by omega)
      refine ⟨o2, ?_, e2⟩
      rw [show (x.toInt - lo).toNat = (x.toInt - (lo + 1)).toNat + 1 by omega]
      simpa using e1
end
section
/-! Steps that leave the heap alone -/
def SX (Γ : Gm) (M : Nat) (s : State) (m : Mem) (ad : Nat → Nat → Nat) (H : Heap) (locs : List Loc) (l : Loc9) (ls : Array Slot) (st : List AV) (sv : List Value) : Prop :=
  Rep Γ m ad H ∧ KN Γ s H ∧ (∀ q ∈ locs, gB Γ ≤ q.base) ∧ LR m ad (mxT M) l ls ∧ SR m ad st sv
def NX (Γ : Gm) (M : Nat) (p : Program) (l9 : Launch) (e : Env) (R : Room) (s : State) (mm : MethodId) (args : Array Value) (below : List Frame) (meth : Method) (c9 : Code) (Q : State → Prop) (m : Mem) (ad : Nat → Nat → Nat) (cells slots : Nat) (pc1 : Nat) (l1 : Loc9) (s1 : List AV) (m1 : Mem) : Prop :=
  ∀ (ad1 : Nat → Nat → Nat) (H1 : Heap) (locs1 : List Loc) (ls1 : Array Slot) (sv1 : List Value), Ex m ad m1 ad1 → SX Γ M s m1 ad1 H1 locs1 l1 ls1 s1 sv1 → W p l9 e R s mm args below meth c9 H1 locs1 (cells + (mC m1 - mC m)) (slots + (mS m1 - mS m)) Q (F0 mm pc1 ls1 sv1)
section PURE
variable {Γ : Gm} {M : Nat} {p : Program} {l9 : Launch} {e : Env} {R : Room} {s : State} {mm : MethodId} {args : Array Value} {below : List Frame} {meth : Method} {c9 : Code} {Q : State → Prop} {m m1 : Mem} {ad : Nat → Nat → Nat} {cells slots pc pc1 : Nat} {l l1 : Loc9} {st s1 : List AV} {H : Heap} {locs : List Loc} {ls : Array Slot} {sv : List Value}
theorem NX.here {ls1 : Array Slot} {sv1 : List Value} (k : NX Γ M p l9 e R s mm args below meth c9 Q m ad cells slots pc1 l1 s1 m) (hR : Rep Γ m ad H) (hK : KN Γ s H) (hlo : ∀ q ∈ locs, gB Γ ≤ q.base) (hL : LR m ad (mxT M) l1 ls1) (hS : SR m ad s1 sv1) : W p l9 e R s mm args below meth c9 H locs cells slots Q (F0 mm pc1 ls1 sv1) := by
  have h := k ad H locs ls1 sv1 Ex.rf ⟨hR, hK, hlo, hL, hS⟩
  simpa using h
abbrev Wn (Γ : Gm) (M : Nat) (p : Program) (l9 : Launch) (e : Env) (R : Room) (s : State) (mm : MethodId) (args : Array Value) (below : List Frame) (meth : Method) (c9 : Code) (Q : State → Prop) (H : Heap) (locs : List Loc) (cells slots pc : Nat) (ls : Array Slot) (sv : List Value) : Prop := W p l9 e R s mm args below meth c9 H locs cells slots Q (F0 mm pc ls sv)
theorem sd_ib {f : Int32 → Int32 → Int32} {pc2 : Nat} (h : ib9 sF sN f pc2 l st m = Nx pc1 l1 s1 m1) (row : ∀ x y rest, Wn Γ M p l9 e R s mm args below meth c9 Q H locs cells slots pc2 ls (.int (f x y) :: rest) → Wn Γ M p l9 e R s mm args below meth c9 Q H locs cells slots pc ls (.int y :: .int x :: rest)) (X : SX Γ M s m ad H locs l ls st sv) (k : NX Γ M p l9 e R s mm args below meth c9 Q m ad cells slots pc1 l1 s1 m1) : Wn Γ M p l9 e R s mm args below meth c9 Q H locs cells slots pc ls sv := by
  obtain ⟨x, y, r, rfl, rfl, rfl, rfl, rfl⟩ := iv_ib h
  obtain ⟨hR, hK, hlo, hL, hS⟩ := X
  obtain ⟨w1, t1, rfl, hv1, hS1⟩ := hS.inv
  obtain ⟨w2, t2, rfl, hv2, hS2⟩ := hS1.inv
  cases (show w1 = .int y from hv1)
  cases (show w2 = .int x from hv2)
  exact row x y t2 (k.here hR hK hlo hL ⟨rfl, hS2⟩)
theorem sd_lb {f : Int64 → Int64 → Int64} {pc2 : Nat} (h : lb9 sF sN f pc2 l st m = Nx pc1 l1 s1 m1) (row : ∀ x y rest, Wn Γ M p l9 e R s mm args below meth c9 Q H locs cells slots pc2 ls (.long (f x y) :: rest) → Wn Γ M p l9 e R s mm args below meth c9 Q H locs cells slots pc ls (.long y :: .long x :: rest)) (X : SX Γ M s m ad H locs l ls st sv) (k : NX Γ M p l9 e R s mm args below meth c9 Q m ad cells slots pc1 l1 s1 m1) : Wn Γ M p l9 e R s mm args below meth c9 Q H locs cells slots pc ls sv := by
  obtain ⟨x, y, r, rfl, rfl, rfl, rfl, rfl⟩ := iv_lb h
  obtain ⟨hR, hK, hlo, hL, hS⟩ := X
  obtain ⟨w1, t1, rfl, hv1, hS1⟩ := hS.inv
  obtain ⟨w2, t2, rfl, hv2, hS2⟩ := hS1.inv
  cases (show w1 = .long y from hv1)
  cases (show w2 = .long x from hv2)
  exact row x y t2 (k.here hR hK hlo hL ⟨rfl, hS2⟩)
theorem sd_ls {f : Int64 → Int32 → Int64} {pc2 : Nat} (h : ls9 sF sN f pc2 l st m = Nx pc1 l1 s1 m1) (row : ∀ x y rest, Wn Γ M p l9 e R s mm args below meth c9 Q H locs cells slots pc2 ls (.long (f x y) :: rest) → Wn Γ M p l9 e R s mm args below meth c9 Q H locs cells slots pc ls (.int y :: .long x :: rest)) (X : SX Γ M s m ad H locs l ls st sv) (k : NX Γ M p l9 e R s mm args below meth c9 Q m ad cells slots pc1 l1 s1 m1) : Wn Γ M p l9 e R s mm args below meth c9 Q H locs cells slots pc ls sv := by
  obtain ⟨x, y, r, rfl, rfl, rfl, rfl, rfl⟩ := iv_ls h
  obtain ⟨hR, hK, hlo, hL, hS⟩ := X
  obtain ⟨w1, t1, rfl, hv1, hS1⟩ := hS.inv
  obtain ⟨w2, t2, rfl, hv2, hS2⟩ := hS1.inv
  cases (show w1 = .int y from hv1)
  cases (show w2 = .long x from hv2)
  exact row x y t2 (k.here hR hK hlo hL ⟨rfl, hS2⟩)
theorem sd_iu {f : Int32 → AV} {g : Int32 → Value} (hfg : ∀ m ad x, VR m ad (f x) (g x)) {pc2 : Nat} (h : iu9 sF sN f pc2 l st m = Nx pc1 l1 s1 m1) (row : ∀ x rest, Wn Γ M p l9 e R s mm args below meth c9 Q H locs cells slots pc2 ls (g x :: rest) → Wn Γ M p l9 e R s mm args below meth c9 Q H locs cells slots pc ls (.int x :: rest)) (X : SX Γ M s m ad H locs l ls st sv) (k : NX Γ M p l9 e R s mm args below meth c9 Q m ad cells slots pc1 l1 s1 m1) : Wn Γ M p l9 e R s mm args below meth c9 Q H locs cells slots pc ls sv := by
  obtain ⟨x, r, rfl, rfl, rfl, rfl, rfl⟩ := iv_iu h
  obtain ⟨hR, hK, hlo, hL, hS⟩ := X
  obtain ⟨w1, t1, rfl, hv1, hS1⟩ := hS.inv
  cases (show w1 = .int x from hv1)
  exact row x t1 (k.here hR hK hlo hL ⟨hfg _ _ _, hS1⟩)
theorem sd_lu {f : Int64 → AV} {g : Int64 → Value} (hfg : ∀ m ad x, VR m ad (f x) (g x)) {pc2 : Nat} (h : lu9 sF sN f pc2 l st m = Nx pc1 l1 s1 m1) (row : ∀ x rest, Wn Γ M p l9 e R s mm args below meth c9 Q H locs cells slots pc2 ls (g x :: rest) → Wn Γ M p l9 e R s mm args below meth c9 Q H locs cells slots pc ls (.long x :: rest)) (X : SX Γ M s m ad H locs l ls st sv) (k : NX Γ M p l9 e R s mm args below meth c9 Q m ad cells slots pc1 l1 s1 m1) : Wn Γ M p l9 e R s mm args below meth c9 Q H locs cells slots pc ls sv := by
  obtain ⟨x, r, rfl, rfl, rfl, rfl, rfl⟩ := iv_lu h
  obtain ⟨hR, hK, hlo, hL, hS⟩ := X
  obtain ⟨w1, t1, rfl, hv1, hS1⟩ := hS.inv
  cases (show w1 = .long x from hv1)
  exact row x t1 (k.here hR hK hlo hL ⟨hfg _ _ _, hS1⟩)
theorem sd_il {k9 pc2 : Nat} (h : il9 sF sN k9 pc2 l st m = Nx pc1 l1 s1 m1) (row : ∀ x rest, ls[k9]? = some (.val (.int x)) → Wn Γ M p l9 e R s mm args below meth c9 Q H locs cells slots pc2 ls (.int x :: rest) → Wn Γ M p l9 e R s mm args below meth c9 Q H locs cells slots pc ls rest) (X : SX Γ M s m ad H locs l ls st sv) (k : NX Γ M p l9 e R s mm args below meth c9 Q m ad cells slots pc1 l1 s1 m1) : Wn Γ M p l9 e R s mm args below meth c9 Q H locs cells slots pc ls sv := by
  obtain ⟨x, hx, rfl, rfl, rfl, rfl⟩ := iv_il h
  obtain ⟨hR, hK, hlo, hL, hS⟩ := X
  obtain ⟨rv, h1, h2⟩ := hL.ld hx
  cases (show rv = .int x from h2)
  exact row x sv h1 (k.here hR hK hlo hL ⟨rfl, hS⟩)
theorem sd_ll {k9 pc2 : Nat} (h : ll9 sF sN k9 pc2 l st m = Nx pc1 l1 s1 m1) (row : ∀ x rest, ls[k9]? = some (.val (.long x)) → Wn Γ M p l9 e R s mm args below meth c9 Q H locs cells slots pc2 ls (.long x :: rest) → Wn Γ M p l9 e R s mm args below meth c9 Q H locs cells slots pc ls rest) (X : SX Γ M s m ad H locs l ls st sv) (k : NX Γ M p l9 e R s mm args below meth c9 Q m ad cells slots pc1 l1 s1 m1) : Wn Γ M p l9 e R s mm args below meth c9 Q H locs cells slots pc ls sv := by
  obtain ⟨x, hx, rfl, rfl, rfl, rfl⟩ := iv_ll h
  obtain ⟨hR, hK, hlo, hL, hS⟩ := X
  obtain ⟨rv, h1, h2⟩ := hL.ld hx
  cases (show rv = .long x from h2)
  exact row x sv h1 (k.here hR hK hlo hL ⟨rfl, hS⟩)
theorem VR.rq {m : Mem} {ad : Nat → Nat → Nat} : ∀ {x : Option (Option (Nat × Nat))} {w : Value}, VR m ad (.inr (.inr x)) w → w = .null ∨ ∃ a, w = .ref a
  | none, _, h => h
  | some none, _, h => Or.inl h
  | some (some q), _, h => Or.inr ⟨_, h.1⟩
theorem sd_al {k9 pc2 : Nat} (h : al9 sF sN k9 pc2 l st m = Nx pc1 l1 s1 m1) (row : ∀ x rest, ls[k9]? = some (.val (.ref x)) → Wn Γ M p l9 e R s mm args below meth c9 Q H locs cells slots pc2 ls (.ref x :: rest) → Wn Γ M p l9 e R s mm args below meth c9 Q H locs cells slots pc ls rest) (rowN : ∀ rest, ls[k9]? = some (.val .null) → Wn Γ M p l9 e R s mm args below meth c9 Q H locs cells slots pc2 ls (.null :: rest) → Wn Γ M p l9 e R s mm args below meth c9 Q H locs cells slots pc ls rest) (X : SX Γ M s m ad H locs l ls st sv) (k : NX Γ M p l9 e R s mm args below meth c9 Q m ad cells slots pc1 l1 s1 m1) : Wn Γ M p l9 e R s mm args below meth c9 Q H locs cells slots pc ls sv := by
  obtain ⟨x, hx, rfl, rfl, rfl, rfl⟩ := iv_al h
  obtain ⟨hR, hK, hlo, hL, hS⟩ := X
  obtain ⟨rv, h1, h2⟩ := hL.ld hx
  rcases h2.rq with rfl | ⟨a, rfl⟩
  · exact rowN sv h1 (k.here hR hK hlo hL ⟨h2, hS⟩)
  · exact row a sv h1 (k.here hR hK hlo hL ⟨h2, hS⟩)
abbrev fl1 (k : Nat) (lv : List (Nat × Value)) : List (Nat × Value) := lv.filter (fun q => !(q.1 == k) && !(q.1 + 1 == k && q.2.category == 2))
abbrev fl2 (k : Nat) (lv : List (Nat × Value)) : List (Nat × Value) := lv.filter (fun q => !(q.1 == k) && (!(q.1 == k + 1) && !(q.1 + 1 == k && q.2.category == 2)))
theorem sd_is {k9 pc2 : Nat} (h : is9 sF sN k9 pc2 l st m = Nx pc1 l1 s1 m1) (row : ∀ x rest lv, lv_has ls (mxT M) lv → k9 < mxT M → (∀ ls1, lv_has ls1 (mxT M) ((k9, .int x) :: fl1 k9 lv) → Wn Γ M p l9 e R s mm args below meth c9 Q H locs cells slots pc2 ls1 rest) → Wn Γ M p l9 e R s mm args below meth c9 Q H locs cells slots pc ls (.int x :: rest)) (X : SX Γ M s m ad H locs l ls st sv) (k : NX Γ M p l9 e R s mm args below meth c9 Q m ad cells slots pc1 l1 s1 m1) : Wn Γ M p l9 e R s mm args below meth c9 Q H locs cells slots pc ls sv := by
  obtain ⟨x, r, rfl, hk, rfl, rfl, rfl, rfl⟩ := iv_is h
  obtain ⟨hR, hK, hlo, hL, hS⟩ := X
  obtain ⟨w1, t1, rfl, hv1, hS1⟩ := hS.inv
  cases (show w1 = .int x from hv1)
  obtain ⟨h0, lv, h1, h2⟩ := hL
  exact row x t1 lv h1 (by rw [← h0]; exact hk) (fun ls1 hl1 => k.here hR hK hlo (LR.st (ls := ls) h0 h2 (v := vi x) (rv := .int x) rfl hl1) hS1)
theorem sd_ls2 {k9 pc2 : Nat} (h : ls29 sF sN k9 pc2 l st m = Nx pc1 l1 s1 m1) (row : ∀ x rest lv, lv_has ls (mxT M) lv → k9 + 1 < mxT M → (∀ ls1, lv_has ls1 (mxT M) ((k9, .long x) :: fl2 k9 lv) → Wn Γ M p l9 e R s mm args below meth c9 Q H locs cells slots pc2 ls1 rest) → Wn Γ M p l9 e R s mm args below meth c9 Q H locs cells slots pc ls (.long x :: rest)) (X : SX Γ M s m ad H locs l ls st sv) (k : NX Γ M p l9 e R s mm args below meth c9 Q m ad cells slots pc1 l1 s1 m1) : Wn Γ M p l9 e R s mm args below meth c9 Q H locs cells slots pc ls sv := by
  obtain ⟨x, r, rfl, hk, rfl, rfl, rfl, rfl⟩ := iv_ls2 h
  obtain ⟨hR, hK, hlo, hL, hS⟩ := X
  obtain ⟨w1, t1, rfl, hv1, hS1⟩ := hS.inv
  cases (show w1 = .long x from hv1)
  obtain ⟨h0, lv, h1, h2⟩ := hL
  have hk2 : k9 + 1 < mxT M := by rw [← h0]; exact hk
  exact row x t1 lv h1 hk2 (fun ls1 hl1 => k.here hR hK hlo (LR.st2 (ls := ls) h0 h2 (v := vl x) (rv := .long x) rfl hk2 hl1) hS1)
theorem sd_as {k9 pc2 : Nat} (h : as9 sF sN k9 pc2 l st m = Nx pc1 l1 s1 m1) (row : ∀ x rest lv, lv_has ls (mxT M) lv → k9 < mxT M → (∀ ls1, lv_has ls1 (mxT M) ((k9, .ref x) :: fl1 k9 lv) → Wn Γ M p l9 e R s mm args below meth c9 Q H locs cells slots pc2 ls1 rest) → Wn Γ M p l9 e R s mm args below meth c9 Q H locs cells slots pc ls (.ref x :: rest))
    (rowN : ∀ rest lv, lv_has ls (mxT M) lv → k9 < mxT M → (∀ ls1, lv_has ls1 (mxT M) ((k9, .null) :: fl1 k9 lv) → Wn Γ M p l9 e R s mm args below meth c9 Q H locs cells slots pc2 ls1 rest) → Wn Γ M p l9 e R s mm args below meth c9 Q H locs cells slots pc ls (.null :: rest)) (X : SX Γ M s m ad H locs l ls st sv) (k : NX Γ M p l9 e R s mm args below meth c9 Q m ad cells slots pc1 l1 s1 m1) : Wn Γ M p l9 e R s mm args below meth c9 Q H locs cells slots pc ls sv := by
  obtain ⟨x, r, rfl, hk, rfl, rfl, rfl, rfl⟩ := iv_as h
  obtain ⟨hR, hK, hlo, hL, hS⟩ := X
  obtain ⟨w1, t1, rfl, hv1, hS1⟩ := hS.inv
  obtain ⟨h0, lv, h1, h2⟩ := hL
  have hk2 : k9 < mxT M := by rw [← h0]; exact hk
  rcases hv1.rq with rfl | ⟨a, rfl⟩
  · exact rowN t1 lv h1 hk2 (fun ls1 hl1 => k.here hR hK hlo (LR.st (ls := ls) h0 h2 (v := .inr (.inr x)) (rv := .null) hv1 hl1) hS1)
  · exact row a t1 lv h1 hk2 (fun ls1 hl1 => k.here hR hK hlo (LR.st (ls := ls) h0 h2 (v := .inr (.inr x)) (rv := .ref a) hv1 hl1) hS1)
theorem sd_ic {C : Int32 → Int32 → Bool} {a pc2 : Nat} (h : ic9 sF sN C a pc2 l st m = Nx pc1 l1 s1 m1) (row : ∀ x y rest, (C x y = true → Wn Γ M p l9 e R s mm args below meth c9 Q H locs cells slots a ls rest) → (¬ C x y = true → Wn Γ M p l9 e R s mm args below meth c9 Q H locs cells slots pc2 ls rest) → Wn Γ M p l9 e R s mm args below meth c9 Q H locs cells slots pc ls (.int y :: .int x :: rest)) (X : SX Γ M s m ad H locs l ls st sv) (k : NX Γ M p l9 e R s mm args below meth c9 Q m ad cells slots pc1 l1 s1 m1) : Wn Γ M p l9 e R s mm args below meth c9 Q H locs cells slots pc ls sv := by
  obtain ⟨x, y, r, rfl, e1, rfl, rfl, rfl⟩ := iv_ic h
  obtain ⟨hR, hK, hlo, hL, hS⟩ := X
  obtain ⟨w1, t1, rfl, hv1, hS1⟩ := hS.inv
  obtain ⟨w2, t2, rfl, hv2, hS2⟩ := hS1.inv
  cases (show w1 = .int y from hv1)
  cases (show w2 = .int x from hv2)
  have kk := k.here hR hK hlo hL hS2
  refine row x y t2 (fun hc => ?_) (fun hc => ?_)
  · rw [if_pos hc] at e1; rw [e1] at kk; exact kk
  · rw [if_neg hc] at e1; rw [e1] at kk; exact kk
theorem sd_if {C : Int32 → Bool} {a pc2 : Nat} (h : if9 sF sN C a pc2 l st m = Nx pc1 l1 s1 m1) (row : ∀ x rest, (C x = true → Wn Γ M p l9 e R s mm args below meth c9 Q H locs cells slots a ls rest) → (¬ C x = true → Wn Γ M p l9 e R s mm args below meth c9 Q H locs cells slots pc2 ls rest) → Wn Γ M p l9 e R s mm args below meth c9 Q H locs cells slots pc ls (.int x :: rest)) (X : SX Γ M s m ad H locs l ls st sv) (k : NX Γ M p l9 e R s mm args below meth c9 Q m ad cells slots pc1 l1 s1 m1) : Wn Γ M p l9 e R s mm args below meth c9 Q H locs cells slots pc ls sv := by
  obtain ⟨x, r, rfl, e1, rfl, rfl, rfl⟩ := iv_if h
  obtain ⟨hR, hK, hlo, hL, hS⟩ := X
  obtain ⟨w1, t1, rfl, hv1, hS1⟩ := hS.inv
  cases (show w1 = .int x from hv1)
  have kk := k.here hR hK hlo hL hS1
  refine row x t1 (fun hc => ?_) (fun hc => ?_)
  · rw [if_pos hc] at e1; rw [e1] at kk; exact kk
  · rw [if_neg hc] at e1; rw [e1] at kk; exact kk
end PURE
end
section
/-! The heap behind a store, behind a new thing -/
theorem cln_at {a : Nat} (h : a < 15) : (∀ x, x < (clT a).2.2 → ∀ y, y < (clT a).2.2 → x ≠ y → ((clT a).2.1 x).2.1 ≠ ((clT a).2.1 y).2.1) ∧ ∀ k, k < (clT a).2.2 → parseFieldDescriptor ((clT a).2.1 k).2.2.1 = some (tyT a k) := by
  match a, h with
  | 0, _ => exact cln_0
  | 1, _ => exact cln_1
  | 2, _ => exact cln_2
  | 3, _ => exact cln_3
  | 4, _ => exact cln_4
  | 5, _ => exact cln_5
  | 6, _ => exact cln_6
  | 7, _ => exact cln_7
  | 8, _ => exact cln_8
  | 9, _ => exact cln_9
  | 10, _ => exact cln_10
  | 11, _ => exact cln_11
  | 12, _ => exact cln_12
  | 13, _ => exact cln_13
  | 14, _ => exact cln_14
theorem vwC_at {a : Nat} (h : a < 15) : vwC[a]? = some (clT a) := by
  match a, h with
  | 0, _ => rfl
  | 1, _ => rfl
  | 2, _ => rfl
  | 3, _ => rfl
  | 4, _ => rfl
  | 5, _ => rfl
  | 6, _ => rfl
  | 7, _ => rfl
  | 8, _ => rfl
  | 9, _ => rfl
  | 10, _ => rfl
  | 11, _ => rfl
  | 12, _ => rfl
  | 13, _ => rfl
  | 14, _ => rfl
section CXs
variable {Γ : Gm} {M : Nat} {p : Program} {l9 : Launch} {s : State} {mm : MethodId} {args : Array Value} {meth : Method} {c9 : Code}
theorem CX.ex (C : CX M p l9 s mm args meth c9) : p.tables.exec = Jvm.exec := C.1
theorem CX.by (C : CX M p l9 s mm args meth c9) : c9.code = mB M := C.2.1
theorem CX.ml (C : CX M p l9 s mm args meth c9) : c9.maxLocals = mxT M := C.2.2.1
theorem CX.own (C : CX M p l9 s mm args meth c9) : s.vm.findClass (onm (mO M)) = some mm.cls := C.2.2.2.2.1
theorem CX.w (C : CX M p l9 s mm args meth c9) {w : Cond} (h : w ∈ lw_tbl) (hg : goodWord w = true) : w.before args s = true := C.2.2.2.2.2.1 w h hg
theorem CX.ws (C : CX M p l9 s mm args meth c9) : ∀ w ∈ lw_tbl.filter goodWord, w.before args s = true := fun w h => C.w (List.mem_filter.mp h).1 (List.mem_filter.mp h).2
end CXs
theorem up3_ne {α : Type} {f : Nat → Nat → Nat → α} {k j i a b c : Nat} {v : α} (h : a ≠ k ∨ b ≠ j ∨ c ≠ i) : up3 f k j i v a b c = f a b c := by
  unfold up3
  by_cases h1 : a = k
  · by_cases h2 : b = j
    · by_cases h3 : c = i
      · rcases h with h | h | h <;> contradiction
      · simp [h1, h2, h3]
    · simp [h1, h2]
  · simp [h1]
theorem up3_eq {α : Type} {f : Nat → Nat → Nat → α} {k j i : Nat} {v : α} : up3 f k j i v k j i = v := by simp [up3]
theorem upA_ne {α : Type} {f : Nat → Nat → Nat → α} {k j a b c : Nat} {v : Nat → α} (h : a ≠ k ∨ b ≠ j) : upA f k j v a b c = f a b c := by
  unfold upA
  by_cases h1 : a = k
  · by_cases h2 : b = j
    · rcases h with h | h <;> contradiction
    · simp [h1, h2]
  · simp [h1]
theorem upA_eq {α : Type} {f : Nat → Nat → Nat → α} {k j c : Nat} {v : Nat → α} : upA f k j v k j c = v c := by simp [upA]
theorem gf9_ne {m m2 : Mem} {k i c j : Nat} (h1 : mI m2 k j i = mI m k j i) (h2 : mJ m2 k j i = mJ m k j i) (h3 : mR m2 k j i = mR m k j i) : gf9 m2 k i c j = gf9 m k i c j := by
  unfold gf9
  split
  · rfl
  · split <;> simp only [h1, h2, h3]
section RPS
variable {Γ : Gm} {m m2 : Mem} {ad : Nat → Nat → Nat} {H H2 : Heap}
theorem Rep.lt (h : Rep Γ m ad H) {k j : Nat} (hk : k < 80) (hj : j < mK m k) : ad k j < H.size := by
  by_cases h1 : k < 15
  · obtain ⟨cell, h2, -⟩ := h.1 k j h1 hj
    exact (Array.getElem?_eq_some_iff.mp h2).1
  · exact (Array.getElem?_eq_some_iff.mp (h.2.1 k j (by omega) hk hj)).1
/-- a field is put -/
theorem Rep.put (h : Rep Γ m ad H) {a b j : Nat} (ha : a < 15) (hj : j < mK m a) (hK : mK m2 = mK m) {cell : Cell} {rv : Value} (h1 : H[ad a j]? = some cell) (h2 : H2[ad a j]? = some (cell.setSlot (Γ.1.2 a b) rv)) (h3 : ∀ q, q ≠ ad a j → H2[q]? = H[q]?) (hb : b < (clT a).2.2)
    (hap : ∀ x y, x < (clT a).2.2 → y < (clT a).2.2 → x ≠ y → Γ.1.2 a x ≠ Γ.1.2 a y)
    (hI : ∀ x y z, (x ≠ a ∨ y ≠ j ∨ z ≠ b) → mI m2 x y z = mI m x y z ∧ mJ m2 x y z = mJ m x y z ∧ mR m2 x y z = mR m x y z) (hv : VR m ad (gf9 m2 a b (fcd (tyT a b)) j) rv) : Rep Γ m2 ad H2 := by
  obtain ⟨r1, r2, r3, r4, r5, r6, r7⟩ := h
  have hx : Ex m ad m2 ad := Ex.same hK
  have hlt : ad a j < H.size := (Array.getElem?_eq_some_iff.mp h1).1
  refine ⟨?_, ?_, ?_, ?_, r5, ?_, ?_⟩
  · intro k j2 hk hj2
    rw [hK] at hj2
    by_cases e : k = a ∧ j2 = j
    · obtain ⟨rfl, rfl⟩ := e
      obtain ⟨cell2, q1, q2, q3, q4⟩ := r1 k j2 hk hj2
      cases Option.some.inj (h1.symm.trans q1)
      refine ⟨_, h2, q2, q3, fun i hi => ?_⟩
      obtain ⟨v0, g1, -⟩ := q4 b hb
      have hbs : Γ.1.2 k b < cell.slots.size := (Array.getElem?_eq_some_iff.mp g1).1
      by_cases ei : i = b
      · subst ei
        refine ⟨rv, ?_, hv.ex hx⟩
        show (cell.slots.setIfInBounds _ _)[_]? = _
        simp [Array.getElem?_setIfInBounds, hbs]
      · obtain ⟨v, g2, g3⟩ := q4 i hi
        refine ⟨v, ?_, ?_⟩
        · show (cell.slots.setIfInBounds _ _)[_]? = _
          rw [Array.getElem?_setIfInBounds, if_neg (fun e => hap i b hi hb ei e.symm)]
          exact g2
        · obtain ⟨e1, e2, e3⟩ := hI k j2 i (Or.inr (Or.inr ei))
          rw [gf9_ne e1 e2 e3]
          exact g3.ex hx
    · obtain ⟨cell2, q1, q2, q3, q4⟩ := r1 k j2 hk hj2
      have hne : ad k j2 ≠ ad a j := fun q => e (r4 k j2 a j (by omega) (by omega) hj2 hj q)
      refine ⟨cell2, by rw [h3 _ hne]; exact q1, q2, q3, fun i hi => ?_⟩
      obtain ⟨v, g2, g3⟩ := q4 i hi
      refine ⟨v, g2, ?_⟩
      obtain ⟨e1, e2, e3⟩ := hI k j2 i (by by_cases z : k = a
                                           · exact Or.inr (Or.inl (fun z2 => e ⟨z, z2⟩))
                                           · exact Or.inl z)
      rw [gf9_ne e1 e2 e3]
      exact g3.ex hx
  · intro k j2 hk1 hk2 hj2
    rw [hK] at hj2
    have hne : ad k j2 ≠ ad a j := fun q => by
      have := (r4 k j2 a j hk2 (by omega) hj2 hj q).1
      omega
    rw [h3 _ hne, r2 k j2 hk1 hk2 hj2]
    congr 1
    unfold aCl
    congr 1
    funext i
    obtain ⟨e1, e2, e3⟩ := hI k j2 i (Or.inl (by omega))
    rw [e1, e2]
  · intro k j2 hk hj2
    rw [hK] at hj2
    exact r3 k j2 hk hj2
  · intro k j1 k2 j2 hk hk2 hj1 hj2 q
    rw [hK] at hj1 hj2
    exact r4 k j1 k2 j2 hk hk2 hj1 hj2 q
  · intro k hk
    rw [hK]
    exact r6 k hk
  · intro i hi
    rw [(hI 99 0 i (Or.inl (by omega))).1]
    exact r7 i hi
/-- an array's places are written -/
theorem Rep.arr (h : Rep Γ m ad H) {a j : Nat} (ha1 : 15 ≤ a) (ha : a < 80) (hj : j < mK m a) (hK : mK m2 = mK m) (h2 : H2[ad a j]? = some (aCl Γ m2 a j)) (h3 : ∀ q, q ≠ ad a j → H2[q]? = H[q]?)
    (hI : ∀ x y z, (x ≠ a ∨ y ≠ j) → mI m2 x y z = mI m x y z ∧ mJ m2 x y z = mJ m x y z ∧ mR m2 x y z = mR m x y z) : Rep Γ m2 ad H2 := by
  obtain ⟨r1, r2, r3, r4, r5, r6, r7⟩ := h
  have hx : Ex m ad m2 ad := Ex.same hK
  refine ⟨?_, ?_, ?_, ?_, r5, ?_, ?_⟩
  · intro k j2 hk hj2
    rw [hK] at hj2
    obtain ⟨cell2, q1, q2, q3, q4⟩ := r1 k j2 hk hj2
    have hne : ad k j2 ≠ ad a j := fun q => by
      have := (r4 k j2 a j (by omega) (by omega) hj2 hj q).1
      omega
    refine ⟨cell2, by rw [h3 _ hne]; exact q1, q2, q3, fun i hi => ?_⟩
    obtain ⟨v, g2, g3⟩ := q4 i hi
    refine ⟨v, g2, ?_⟩
    obtain ⟨e1, e2, e3⟩ := hI k j2 i (Or.inl (by omega))
    rw [gf9_ne e1 e2 e3]
    exact g3.ex hx
  · intro k j2 hk1 hk2 hj2
    rw [hK] at hj2
    by_cases e : k = a ∧ j2 = j
    · obtain ⟨rfl, rfl⟩ := e
      exact h2
    · have hne : ad k j2 ≠ ad a j := fun q => e (r4 k j2 a j hk2 ha hj2 hj q)
      rw [h3 _ hne, r2 k j2 hk1 hk2 hj2]
      congr 1
      unfold aCl
      congr 1
      funext i
      obtain ⟨e1, e2, e3⟩ := hI k j2 i (by by_cases z : k = a
                                           · exact Or.inr (fun z2 => e ⟨z, z2⟩)
                                           · exact Or.inl z)
      rw [e1, e2]
  · intro k j2 hk hj2
    rw [hK] at hj2
    exact r3 k j2 hk hj2
  · intro k j1 k2 j2 hk hk2 hj1 hj2 q
    rw [hK] at hj1 hj2
    exact r4 k j1 k2 j2 hk hk2 hj1 hj2 q
  · intro k hk
    rw [hK]
    exact r6 k hk
  · intro i hi
    rw [(hI 99 0 i (Or.inl (by omega))).1]
    exact r7 i hi
def adN (ad : Nat → Nat → Nat) (k j q : Nat) : Nat → Nat → Nat := fun a b => if a = k ∧ b = j then q else ad a b
theorem adN_eq {ad : Nat → Nat → Nat} {k j q : Nat} : adN ad k j q k j = q := by simp [adN]
theorem adN_ne {ad : Nat → Nat → Nat} {k j q a b : Nat} (h : ¬ (a = k ∧ b = j)) : adN ad k j q a b = ad a b := by simp [adN, h]
theorem newM_I {m : Mem} {k n : Nat} : mI (newM m k n) = upA (mI m) k (mK m k) (fun _ => 0) := rfl
theorem newM_J {m : Mem} {k n : Nat} : mJ (newM m k n) = upA (mJ m) k (mK m k) (fun _ => 0) := rfl
theorem newM_R {m : Mem} {k n : Nat} : mR (newM m k n) = upA (mR m) k (mK m k) (fun _ => some none) := rfl
theorem newM_K {m : Mem} {k n a : Nat} : mK (newM m k n) a = if a = k then mK m k + 1 else mK m a := rfl
theorem Ex.new {m : Mem} {ad : Nat → Nat → Nat} {k n q : Nat} : Ex m ad (newM m k n) (adN ad k (mK m k) q) := by
  refine ⟨fun a => ?_, fun a b hb => ?_⟩
  · rw [newM_K]
    split
    · rename_i e; subst e; omega
    · exact Nat.le_refl _
  · exact adN_ne (fun e => by obtain ⟨rfl, rfl⟩ := e; omega)
/-- a thing comes: its cell is given -/
theorem Rep.new (h : Rep Γ m ad H) {k n : Nat} (hk : k < 80) (hB : gB Γ ≤ H.size) (h3 : ∀ q, q < H.size → H2[q]? = H[q]?)
    (ho : k < 15 → ∃ cell : Cell, H2[H.size]? = some cell ∧ cell.cls = Γ.1.1 k ∧ cell.vm = .none ∧ ∀ i, i < (clT k).2.2 → ∃ v, cell.slots[Γ.1.2 k i]? = some v ∧ VR (newM m k n) (adN ad k (mK m k) H.size) (gf9 (newM m k n) k i (fcd (tyT k i)) (mK m k)) v)
    (hr : 15 ≤ k → H2[H.size]? = some (aCl Γ (newM m k n) k (mK m k))) : Rep Γ (newM m k n) (adN ad k (mK m k) H.size) H2 := by
  have hlt := @Rep.lt Γ m ad H h
  obtain ⟨r1, r2, r3, r4, r5, r6, r7⟩ := h
  have hx : Ex m ad (newM m k n) (adN ad k (mK m k) H.size) := Ex.new
  have hold : ∀ a b, b < mK (newM m k n) a → ¬ (a = k ∧ b = mK m k) → b < mK m a := by
    intro a b hb he
    rw [newM_K] at hb
    split at hb
    · rename_i e; subst e
      have : b ≠ mK m a := fun z => he ⟨rfl, z⟩
      omega
    · exact hb
  have hpl : ∀ x y z, ¬ (x = k ∧ y = mK m k) → mI (newM m k n) x y z = mI m x y z ∧ mJ (newM m k n) x y z = mJ m x y z ∧ mR (newM m k n) x y z = mR m x y z := by
    intro x y z he
    have : x ≠ k ∨ y ≠ mK m k := by
      by_cases e : x = k
      · exact Or.inr (fun e2 => he ⟨e, e2⟩)
      · exact Or.inl e
    exact ⟨by rw [newM_I, upA_ne this], by rw [newM_J, upA_ne this], by rw [newM_R, upA_ne this]⟩
  refine ⟨?_, ?_, ?_, ?_, ?_, ?_, ?_⟩
  · intro a b ha hb
    by_cases e : a = k ∧ b = mK m k
    · obtain ⟨rfl, rfl⟩ := e
      rw [adN_eq]
      exact ho ha
    · have hb2 := hold a b hb e
      obtain ⟨cell2, q1, q2, q3, q4⟩ := r1 a b ha hb2
      rw [adN_ne e]
      refine ⟨cell2, by rw [h3 _ (hlt (by omega) hb2)]; exact q1, q2, q3, fun i hi => ?_⟩
      obtain ⟨v, g2, g3⟩ := q4 i hi
      obtain ⟨e1, e2, e3⟩ := hpl a b i e
      exact ⟨v, g2, by rw [gf9_ne e1 e2 e3]; exact g3.ex hx⟩
  · intro a b ha1 ha hb
    by_cases e : a = k ∧ b = mK m k
    · obtain ⟨rfl, rfl⟩ := e
      rw [adN_eq]
      exact hr ha1
    · have hb2 := hold a b hb e
      rw [adN_ne e, h3 _ (hlt ha hb2), r2 a b ha1 ha hb2]
      congr 1
      unfold aCl
      congr 1
      funext i
      obtain ⟨e1, e2, e3⟩ := hpl a b i e
      rw [e1, e2]
  · intro a b ha hb
    by_cases e : a = k ∧ b = mK m k
    · obtain ⟨rfl, rfl⟩ := e
      rw [adN_eq]; exact hB
    · rw [adN_ne e]
      exact r3 a b ha (hold a b hb e)
  · intro a b a2 b2 ha ha2 hb hb2 q
    by_cases e : a = k ∧ b = mK m k
    · by_cases e2 : a2 = k ∧ b2 = mK m k
      · exact ⟨e.1.trans e2.1.symm, e.2.trans e2.2.symm⟩
      · exfalso
        have := hlt ha2 (hold a2 b2 hb2 e2)
        rw [adN_ne e2, e.1, e.2, adN_eq] at q
        omega
    · by_cases e2 : a2 = k ∧ b2 = mK m k
      · exfalso
        have := hlt ha (hold a b hb e)
        rw [adN_ne e, e2.1, e2.2, adN_eq] at q
        omega
      · rw [adN_ne e, adN_ne e2] at q
        exact r4 a b a2 b2 ha ha2 (hold a b hb e) (hold a2 b2 hb2 e2) q
  · intro a b ha
    rw [adN_ne (fun e => by omega)]
    exact r5 a b ha
  · intro a ha
    rw [newM_K, if_neg (by omega)]
    exact r6 a ha
  · intro i hi
    rw [(hpl 99 0 i (fun e => by omega)).1]
    exact r7 i hi
theorem VR.df {m : Mem} {ad : Nat → Nat → Nat} {k n i : Nat} {t : FieldType} (hk : k < 80) (ht : fcd t < 4) : VR (newM m k n) ad (gf9 (newM m k n) k i (fcd t) (mK m k)) (defaultValue t) := by
  unfold gf9
  rw [if_neg (by omega)]
  have e1 : mI (newM m k n) k (mK m k) i = 0 := by first | rw [newM_I, upA_eq] | rw [newM_J, upA_eq]
  have e2 : mJ (newM m k n) k (mK m k) i = 0 := by first | rw [newM_I, upA_eq] | rw [newM_J, upA_eq]
  have e3 : mR (newM m k n) k (mK m k) i = some none := by rw [newM_R, upA_eq]
  cases t <;> first | (simp [fcd] at ht; done) | (simp only [fcd, e1, e2, e3]; rfl)
end RPS
end
section
/-! Steps that read or write the heap -/
theorem fnOK : fnL.all (fun q => nwF.any (fun z => decide (z.1 = onm q.1 ∧ z.2.1 = q.2.1 ∧ z.2.2.1 = ((clT q.2.2.1).2.1 q.2.2.2).1 ∧ z.2.2.2.1 = ((clT q.2.2.1).2.1 q.2.2.2).2.1 ∧ z.2.2.2.2.1 = ((clT q.2.2.1).2.1 q.2.2.2).2.2.1))) = true := by decide +kernel
theorem hasN_w {o i a b : Nat} (h : hasN o i a b = true) {U : State} (hU : ∀ q ∈ nwF, va_Nw (cfw q) U) : ∃ host : String, va_Nw (.fieldLinkNest (onm o) i ((clT a).2.1 b).1 ((clT a).2.1 b).2.1 ((clT a).2.1 b).2.2.1 host) U := by
  obtain ⟨q, hq, h2⟩ := List.any_eq_true.mp h
  simp only [Bool.and_eq_true, beq_iff_eq] at h2
  obtain ⟨⟨⟨rfl, rfl⟩, rfl⟩, rfl⟩ := h2
  obtain ⟨z, hz, h3⟩ := List.any_eq_true.mp (List.all_eq_true.mp fnOK q hq)
  obtain ⟨e1, e2, e3, e4, e5⟩ := of_decide_eq_true h3
  have h4 := hU z hz
  unfold cfw at h4
  rw [e1, e2, e3, e4, e5] at h4
  exact ⟨_, h4⟩
theorem inR_in {i : Int32} {n : Nat} (h : inR i n = true) : ¬ (i < 0 ∨ n ≤ i.toNatClampNeg) := by
  simp only [inR, Bool.and_eq_true, decide_eq_true_eq] at h
  intro q
  rcases q with q | q
  · exact absurd h.1 (Int32.not_le.mpr q)
  · omega
theorem aTy_lo {k : Nat} (h : k < 20) : aTy k = 9 := by
  have key : ∀ k : Nat, k < 20 → aTy k = 9 := by decide +kernel
  exact key k h
theorem aTy_20 {k : Nat} (h : aTy k ≤ 3) : 20 ≤ k := by
  by_cases e : k < 20
  · rw [aTy_lo e] at h; omega
  · omega
section HS
variable {Γ : Gm} {M : Nat} {p : Program} {l9 : Launch} {e : Env} {R : Room} {s : State} {mm : MethodId} {args : Array Value} {below : List Frame} {meth : Method} {c9 : Code} {Q : State → Prop} {m m1 : Mem} {ad : Nat → Nat → Nat} {cells slots pc pc1 : Nat} {l l1 : Loc9} {st s1 : List AV} {H : Heap} {locs : List Loc} {ls : Array Slot} {sv : List Value}
theorem sd_getf (C : CX M p l9 s mm args meth c9) {a b c k9 : Nat} (hd : decode (mB M) pc = .ok (.getfield k9, 3)) (ha : a < 15) (hb : b < (clT a).2.2) (hw : hasF (mO M) k9 a b = true ∨ hasN (mO M) k9 a b = true) (hc : c = fcd (tyT a b)) (h : gtf9 sF sN a b c (pc + 3) l st m = Nx pc1 l1 s1 m1) (X : SX Γ M s m ad H locs l ls st sv) (k : NX Γ M p l9 e R s mm args below meth c9 Q m ad cells slots pc1 l1 s1 m1) : Wn Γ M p l9 e R s mm args below meth c9 Q H locs cells slots pc ls sv := by
  obtain ⟨j, r, rfl, rfl, rfl, rfl, rfl⟩ := iv_gtf h
  obtain ⟨hR, hK, hlo, hL, hS⟩ := X
  obtain ⟨w, t, rfl, hv, hS1⟩ := hS.inv
  obtain ⟨rfl, hj⟩ := (hv : w = .ref (ad a j) ∧ j < mK m1 a)
  obtain ⟨cell, q1, q2, q3, q4⟩ := hR.1 a j ha hj
  obtain ⟨v, g1, g2⟩ := q4 b hb
  obtain ⟨hSl, hfc, kC, hkC, hkind⟩ := hK.1.1 a _ (vwC_at ha)
  obtain ⟨cf, kf, fi, f, hi, hsl⟩ := hSl b hb
  have hst := (u_facts hfc hkC (u_lays C.ws (cls_at ha).1 hb) hi).1
  subst hc
  have kk := k.here (sv1 := v :: t) hR hK hlo hL ⟨g2, hS1⟩
  rcases hw with hw | hw
  · exact W.getf C.ex C.by C.own (C.w (hasF_w hw) rfl) hi hst q1 (by rw [q3]; exact fun z => by cases z) (by rw [hsl]; exact g1) rfl rfl hd kk
  · obtain ⟨host, hn⟩ := hasN_w hw hK.2.1
    exact va_Wgetf C.ex C.by C.own (va_Nw.use rfl hn) hi hst q1 (by rw [q3]; exact fun z => by cases z) (by rw [hsl]; exact g1) rfl rfl hd kk
theorem lk_sv : Cond.fieldLink "java/lang/String" 9 "java/lang/String" "value" "[B" ∈ lw_tbl := by decide +kernel
theorem lk_sc : Cond.fieldLink "java/lang/String" 15 "java/lang/String" "coder" "B" ∈ lw_tbl := by decide +kernel
theorem eK_str {L : Nat} : eKn L 80 = 9 ∧ eKn L 81 = 9 := ⟨rfl, rfl⟩
theorem sd_getS (C : CX M p l9 s mm args meth c9) {b c k9 : Nat} (hd : decode (mB M) pc = .ok (.getfield k9, 3)) (ho : mO M = 21) (hw : (k9 = 9 ∧ b = 0) ∨ (k9 = 15 ∧ b = 1)) (h : gtf9 sF sN 80 b c (pc + 3) l st m = Nx pc1 l1 s1 m1) (X : SX Γ M s m ad H locs l ls st sv) (k : NX Γ M p l9 e R s mm args below meth c9 Q m ad cells slots pc1 l1 s1 m1) : Wn Γ M p l9 e R s mm args below meth c9 Q H locs cells slots pc ls sv := by
  obtain ⟨j, r, rfl, rfl, rfl, rfl, rfl⟩ := iv_gtf h
  obtain ⟨hR, hK, hlo, hL, hS⟩ := X
  obtain ⟨w, t, rfl, hv, hS1⟩ := hS.inv
  obtain ⟨rfl, hj⟩ := (hv : w = .ref (ad 80 j) ∧ j < mK m1 80)
  have hj9 : j < 9 := by rw [hR.2.2.2.2.2.1 80 (by omega)] at hj; exact hj
  have ea := hR.2.2.2.2.1 80 j (by omega)
  have eb := hR.2.2.2.2.1 81 j (by omega)
  have hown := C.own
  rw [ho] at hown
  obtain ⟨-, hco, hva, -⟩ := hK.2.2.2.2.1.1 j hj9
  rcases hw with ⟨rfl, rfl⟩ | ⟨rfl, rfl⟩
  · obtain ⟨cf, kk, fi, f, cell, h1, h2, h3, h4, h5, -⟩ := hva
    rw [← ea] at h3
    refine W.getf C.ex C.by hown (C.w lk_sv rfl) h1 h2 h3 h4 h5 rfl rfl hd (k.here (sv1 := .ref (gX Γ 81 j) :: t) hR hK hlo hL ⟨?_, hS1⟩)
    exact ⟨by rw [eb], by rw [hR.2.2.2.2.2.1 81 (by omega)]; exact hj9⟩
  · obtain ⟨cf, kk, fi, f, cell, h1, h2, h3, h4, h5, -⟩ := hco
    rw [← ea] at h3
    exact W.getf C.ex C.by hown (C.w lk_sc rfl) h1 h2 h3 h4 h5 rfl rfl hd (k.here (sv1 := .int 0 :: t) hR hK hlo hL ⟨rfl, hS1⟩)
/-- what a put of v writes -/
theorem pf9_spec {a b c j : Nat} {v : AV} {m2 : Mem} (h : pf9 m a b c j v = some m2) (ha : a < 80) : mK m2 = mK m ∧ mC m2 = mC m ∧ mS m2 = mS m ∧ (∀ x y z, (x ≠ a ∨ y ≠ j ∨ z ≠ b) → mI m2 x y z = mI m x y z ∧ mJ m2 x y z = mJ m x y z ∧ mR m2 x y z = mR m x y z) ∧
    ((c = 0 ∧ (∃ x, v = .inl x) ∧ gf9 m2 a b c j = v) ∨ (c = 1 ∧ (∃ x, v = .inr (.inl x)) ∧ gf9 m2 a b c j = v) ∨ (c = 2 ∧ (∃ x, v = .inr (.inr x)) ∧ gf9 m2 a b c j = v) ∨ (2 < c ∧ (v = .inl 0 ∨ v = .inl 1) ∧ gf9 m2 a b c j = v)) := by
  unfold pf9 at h
  rw [if_neg (by omega)] at h
  have hne : ¬ a = 80 := by omega
  split at h
  · split at h
    · cases h
      refine ⟨rfl, rfl, rfl, fun x y z hx => ⟨up3_ne hx, rfl, rfl⟩, Or.inl ⟨rfl, ⟨_, rfl⟩, ?_⟩⟩
      simp only [gf9, if_neg hne]; exact congrArg Sum.inl up3_eq
    · cases h
  · split at h
    · cases h
      refine ⟨rfl, rfl, rfl, fun x y z hx => ⟨rfl, up3_ne hx, rfl⟩, Or.inr (Or.inl ⟨rfl, ⟨_, rfl⟩, ?_⟩)⟩
      simp only [gf9, if_neg hne]; exact congrArg (fun z => Sum.inr (Sum.inl z)) up3_eq
    · cases h
  · split at h
    · cases h
      refine ⟨rfl, rfl, rfl, fun x y z hx => ⟨rfl, rfl, up3_ne hx⟩, Or.inr (Or.inr (Or.inl ⟨rfl, ⟨_, rfl⟩, ?_⟩))⟩
      simp only [gf9, if_neg hne]; exact congrArg (fun z => Sum.inr (Sum.inr z)) up3_eq
    · cases h
  · rename_i n0 n1 n2
    have hc : 2 < c := by
      rcases c with _ | _ | _ | c
      · exact absurd rfl n0
      · exact absurd rfl n1
      · exact absurd rfl n2
      · omega
    split at h
    · split at h
      · rename_i x hx
        cases h
        refine ⟨rfl, rfl, rfl, fun x y z hx => ⟨up3_ne hx, rfl, rfl⟩, Or.inr (Or.inr (Or.inr ⟨hc, ?_, ?_⟩))⟩
        · rcases hx with rfl | rfl
          · exact Or.inl rfl
          · exact Or.inr rfl
        · unfold gf9
          rw [if_neg hne]
          split
          · omega
          · omega
          · exact congrArg Sum.inl up3_eq
      · cases h
    · cases h
theorem fit9 {t : FieldType} {v : AV} {w : Value} (hv : VR m ad v w) (h : (fcd t = 0 ∧ ∃ x, v = .inl x) ∨ (fcd t = 1 ∧ ∃ x, v = .inr (.inl x)) ∨ (fcd t = 2 ∧ ∃ x, v = .inr (.inr x)) ∨ (2 < fcd t ∧ fcd t < 9 ∧ (v = .inl 0 ∨ v = .inl 1))) : narrow t w = w ∧ fits t w = true := by
  rcases h with ⟨h1, x, rfl⟩ | ⟨h1, x, rfl⟩ | ⟨h1, x, rfl⟩ | ⟨h1, h3, rfl | rfl⟩
  · cases (show w = .int x from hv)
    cases t <;> first | (simp [fcd] at h1; done) | exact ⟨rfl, rfl⟩
  · cases (show w = .long x from hv)
    cases t <;> first | (simp [fcd] at h1; done) | exact ⟨rfl, rfl⟩
  · rcases hv.rq with rfl | ⟨a, rfl⟩ <;> cases t <;> first | (simp [fcd] at h1; done) | exact ⟨rfl, rfl⟩
  · cases (show w = .int 0 from hv)
    cases t <;> first | (simp [fcd] at h1 h3; done) | exact ⟨by decide, by decide⟩
  · cases (show w = .int 1 from hv)
    cases t <;> first | (simp [fcd] at h1 h3; done) | exact ⟨by decide, by decide⟩
theorem sd_putf (C : CX M p l9 s mm args meth c9) {a b c k9 : Nat} (hd : decode (mB M) pc = .ok (.putfield k9, 3)) (ha : a < 15) (hb : b < (clT a).2.2) (hc : c = fcd (tyT a b)) (hc9 : c < 9)
    (hw : (hasN (mO M) k9 a b = true ∧ ((clT a).2.1 b).2.2.2 = false) ∨ (hasF (mO M) k9 a b = true ∧ (((clT a).2.1 b).2.2.2 = false ∨ (meth.name = "<init>" ∧ ((clT a).2.1 b).1 = onm (mO M))))) (h : ptf9 sF sN a b c (pc + 3) l st m = Nx pc1 l1 s1 m1) (X : SX Γ M s m ad H locs l ls st sv) (k : NX Γ M p l9 e R s mm args below meth c9 Q m ad cells slots pc1 l1 s1 m1) : Wn Γ M p l9 e R s mm args below meth c9 Q H locs cells slots pc ls sv := by
  obtain ⟨v, j, r, m2, rfl, hpf, rfl, rfl, rfl, rfl⟩ := iv_ptf h
  obtain ⟨hR, hK, hlo, hL, hS⟩ := X
  obtain ⟨w0, t0, rfl, hv0, hS1⟩ := hS.inv
  obtain ⟨w, t, rfl, hv, hS2⟩ := hS1.inv
  obtain ⟨rfl, hj⟩ := (hv : w = .ref (ad a j) ∧ j < mK m a)
  obtain ⟨cell, q1, q2, q3, q4⟩ := hR.1 a j ha hj
  obtain ⟨v1, g1, -⟩ := q4 b hb
  have hKa := hK.1.1 a _ (vwC_at ha)
  obtain ⟨hSl, hfc, kC, hkC, hkind⟩ := hKa
  obtain ⟨cf, kf, fi, f, hi, hsl⟩ := hSl b hb
  have hst := (u_facts hfc hkC (u_lays C.ws (cls_at ha).1 hb) hi).1
  have hap := va_apart (own := onm (mO M)) C.ws (cls_at ha).1 (tyT a) (cln_at ha).2 (cln_at ha).1 hK.1 (vwC_at ha)
  obtain ⟨k1, k2, k3, k4, k5⟩ := pf9_spec hpf (by omega)
  have hnf : narrow (tyT a b) w0 = w0 ∧ fits (tyT a b) w0 = true := by
    refine fit9 (m := m) (ad := ad) hv0 ?_
    rcases k5 with ⟨e1, e2, -⟩ | ⟨e1, e2, -⟩ | ⟨e1, e2, -⟩ | ⟨e1, e2, -⟩
    · exact Or.inl ⟨by omega, e2⟩
    · exact Or.inr (Or.inl ⟨by omega, e2⟩)
    · exact Or.inr (Or.inr (Or.inl ⟨by omega, e2⟩))
    · exact Or.inr (Or.inr (Or.inr ⟨by omega, by omega, e2⟩))
  have hgv : gf9 m1 a b (fcd (tyT a b)) j = v := by
    rw [← hc]
    rcases k5 with ⟨-, -, e⟩ | ⟨-, -, e⟩ | ⟨-, -, e⟩ | ⟨-, -, e⟩ <;> exact e
  have hdd := (cln_at ha).2 b hb
  have hlt : f.slot < cell.slots.size := by rw [hsl]; exact k2_hasslot g1
  have fin : ∀ H2 : Heap, H2[ad a j]? = some (cell.setSlot f.slot w0) → H2.size = H.size → (∀ q, q ≠ ad a j → H2[q]? = H[q]?) → W p l9 e R s mm args below meth c9 H2 (locs ++ [⟨ad a j, f.slot⟩]) cells slots Q (F0 mm (pc + 3) ls t) := by
    intro H2 e1 e2 e3
    rw [hsl] at e1
    have hR2 : Rep Γ m1 ad H2 := hR.put ha hj k1 q1 e1 e3 hb hap k4 (by rw [hgv]; exact hv0)
    have hx : Ex m ad m1 ad := Ex.same k1
    have kk := k ad H2 (locs ++ [⟨ad a j, f.slot⟩]) ls t hx ⟨hR2, hK.kept (Nat.le_of_eq e2.symm) (fun q hq hn => e3 q (fun z => hn (by rw [z]; exact hR.2.2.1 a j (by omega) hj))), fun q hq => by
      rcases List.mem_append.mp hq with hq | hq
      · exact hlo q hq
      · cases List.mem_singleton.mp hq
        exact hR.2.2.1 a j (by omega) hj, hL.ex hx, hS2.ex hx⟩
    rw [k2, k3] at kk
    simpa using kk
  rcases hw with ⟨hw, hf⟩ | ⟨hw, hf⟩
  · obtain ⟨host, hn⟩ := hasN_w hw hK.2.1
    have hlay := C.ws _ ((cls_at ha).1 _ (u_in_lay hb))
    unfold u_lay at hlay
    rw [if_neg (by rw [hf]; decide)] at hlay
    exact va_WputK C.ex C.by (f := f) C.own (va_Nw.use rfl hn) hi hst (by rw [q2]; exact u_store hfc hkC hkind hlay hi hdd hnf.1 hnf.2) q1 q3 hlt rfl rfl hd fin
  · by_cases hfin : ((clT a).2.1 b).2.2.2 = false
    · have hlay := C.ws _ ((cls_at ha).1 _ (u_in_lay hb))
      unfold u_lay at hlay
      rw [if_neg (by rw [hfin]; decide)] at hlay
      exact W.putK C.ex C.by (f := f) ⟨C.own, C.w (hasF_w hw) rfl, ⟨_, _, _, hi⟩, hst⟩ (by rw [q2]; exact u_store hfc hkC hkind hlay hi hdd hnf.1 hnf.2) q1 q3 hlt rfl rfl hd fin
    · have hf2 : meth.name = "<init>" ∧ ((clT a).2.1 b).1 = onm (mO M) := by
        rcases hf with hf | hf
        · exact absurd hf hfin
        · exact hf
      have hlay := C.ws _ ((cls_at ha).1 _ (u_in_lay hb))
      unfold u_lay at hlay
      rw [if_pos (by simpa using hfin)] at hlay
      have hcf : mm.cls = cf := by
        obtain ⟨_, _, c', _, _, _, -, -, hf', -, -, -, hown2, -⟩ := Cond.laysFinal_spec hlay
        have e1 : c' = cf := by have := hi.symm.trans hf'; simp at this; exact this.1.symm
        rw [hf2.2] at hown2
        rw [← e1]; exact Option.some.inj (C.own.symm.trans hown2)
      exact W.putFinK C.ex C.by C.own (C.w (hasF_w hw) rfl) hi hst hcf hf2.1 (by rw [q2]; exact u_fits hfc hkC hkind (Or.inr hlay) hi hdd hnf.1 hnf.2) q1 q3 hlt rfl rfl hd fin
end HS
end
section
/-! Arrays, new things, constants -/
theorem tyL_at (Γ : Gm) {t : Nat} (h : t ≤ 3) : (tyL Γ)[t]? = some (Γ.2.1 t, tyA t) := by
  match t, h with
  | 0, _ => rfl
  | 1, _ => rfl
  | 2, _ => rfl
  | 3, _ => rfl
theorem eK_one {L k : Nat} (h : k = 99 ∨ (90 ≤ k ∧ k ≤ 93)) : eKn L k = 1 := by
  unfold eKn
  rw [if_neg (by omega), if_neg (by omega), if_pos h]
section AS
variable {Γ : Gm} {M : Nat} {p : Program} {l9 : Launch} {e : Env} {R : Room} {s : State} {mm : MethodId} {args : Array Value} {below : List Frame} {meth : Method} {c9 : Code} {Q : State → Prop} {m m1 : Mem} {ad : Nat → Nat → Nat} {cells slots pc pc1 : Nat} {l l1 : Loc9} {st s1 : List AV} {H : Heap} {locs : List Loc} {ls : Array Slot} {sv : List Value}
/-- any array that may be read: its cell -/
theorem arr_at {k j : Nat} (hR : Rep Γ m ad H) (hK : KN Γ s H) (hj : j < mK m k) (ht : aTy k ≤ 3) (hk : okK k = true) : ∃ cell : Cell, H[ad k j]? = some cell ∧ s.isArrayOf cell (tyA (aTy k)) ∧ cell.vm ≠ .unknown ∧ cell.slots.size.toInt32 = Int32.ofNat (aLn m k j) ∧ (aLn m k j ≤ cell.slots.size) ∧ ((k < 80 → aTy k ≠ 3) → ∀ i, i < aLn m k j → cell.slots[i]? = some (.int (aGt m k j i))) := by
  have h20 := aTy_20 ht
  simp only [okK, Bool.or_eq_true, Bool.and_eq_true, decide_eq_true_eq, beq_iff_eq] at hk
  by_cases h80 : k < 80
  · refine ⟨_, hR.2.1 k j (by omega) h80 hj, ((hK.1.2 _ _ (tyL_at Γ ht)).1) _ _, (fun z => by cases z), ?_, ?_, ?_⟩
    · unfold aCl aLn; rw [arrV_size, if_neg (by omega), if_neg (by omega)]
    · unfold aCl aLn; rw [arrV_size, if_neg (by omega), if_neg (by omega)]; exact Nat.le_refl _
    · intro hn i hi
      unfold aLn at hi
      rw [if_neg (by omega), if_neg (by omega)] at hi
      unfold aCl aGt
      rw [arrV_read _ _ hi, if_neg (hn h80), if_pos h80]
  · have ea := hR.2.2.2.2.1 k j (by omega)
    rw [hR.2.2.2.2.2.1 k (by omega)] at hj
    rcases hk with ((hk | rfl) | hk) | rfl
    · exact absurd hk h80
    · have hj9 : j < 9 := hj
      obtain ⟨-, -, -, cell, g1, g2, g3, g4, g5, g6, -⟩ := hK.2.2.2.2.1.1 j hj9
      have elen : ∀ j, j < 9 → (strT.map List.length).getD j 0 = (nth9 strT j []).length := by decide +kernel
      have eel : ∀ j, j < 9 → strT.getD j [] = nth9 strT j [] := by decide +kernel
      rw [elen j hj9] at g4 g5 g6
      rw [ea]
      refine ⟨cell, g1, g2, g3, g5, g4, fun _ i hi => ?_⟩
      have hi2 : i < (nth9 strT j []).length := hi
      rw [g6 i hi2, eel j hj9]
      show some (Value.int ((nth9 strT j []).getD i 0)) = some (Value.int (roT 81 j i))
      have key : ∀ (L : List Int32) (i : Nat), L.getD i 0 = nth9 L i 0 := by
        intro L
        induction L with
        | nil => intro i; cases i <;> rfl
        | cons a r ih => intro i; cases i with
          | zero => rfl
          | succ i => rw [List.getD_cons_succ]; exact ih i
      rw [key]; rfl
    · obtain ⟨q, rfl⟩ : ∃ q, k = 90 + q := ⟨k - 90, by omega⟩
      have hj1 : j = 0 := by rw [eK_one (Or.inr hk)] at hj; omega
      subst hj1
      obtain ⟨-, cell, g1, g2, g3, g4, g5, g6, -⟩ := hK.2.2.2.2.2.1 q (by omega)
      have hl : aLn m (90 + q) 0 = 4 := by unfold aLn kLn; rw [if_neg (by omega), if_neg (by omega), if_pos (by omega)]
      have hty : aTy (90 + q) = 0 := by unfold aTy; rw [if_neg (by omega), if_neg (by omega), if_pos (by omega)]
      rw [ea, hl, hty]
      refine ⟨cell, g1, g2, g3, g5, g4, fun _ i hi => ?_⟩
      rw [g6 i hi]
      unfold aGt
      rw [if_neg (by omega), if_neg (by omega)]
    · have hj1 : j = 0 := by rw [eK_one (Or.inl rfl)] at hj; omega
      subst hj1
      obtain ⟨scr, g1, g2, g3, g4, g5⟩ := hK.2.2.2.2.2.2.2.2.2.2.1
      have hl : aLn m 99 0 = gL Γ := by
        unfold aLn; rw [if_pos rfl, hR.2.2.2.2.2.1 98 (by omega)]; rfl
      rw [ea, hl]
      refine ⟨scr, g1, g2, g3, by rw [g4], by rw [g4]; exact Nat.le_refl _, fun _ i hi => ?_⟩
      rw [g5 i hi]
      unfold aGt
      rw [if_neg (by omega), if_pos rfl, hR.2.2.2.2.2.2 i hi]
theorem VR.rf {a j : Nat} {w : Value} (h : VR m ad (vr a j) w) : w = .ref (ad a j) ∧ j < mK m a := h
theorem inR_lt {i : Int32} {n : Nat} (h : inR i n = true) : i.toNatClampNeg < n := by
  simp only [inR, Bool.and_eq_true, decide_eq_true_eq] at h
  exact h.2
theorem inR_w {i : Int32} {n k : Nat} (h : inR i n = true) (hk : n ≤ k) : ¬ (i < 0 ∨ k ≤ i.toNatClampNeg) := by
  have h1 := inR_in h
  have h2 := inR_lt h
  intro q
  rcases q with q | q
  · exact h1 (Or.inl q)
  · omega
theorem aTy_3 {k : Nat} (h : 80 ≤ k) (hk : okK k = true) : aTy k ≠ 3 := by
  simp only [okK, Bool.or_eq_true, Bool.and_eq_true, decide_eq_true_eq, beq_iff_eq] at hk
  unfold aTy
  rcases hk with ((hk | rfl) | hk) | rfl
  · omega
  · decide
  · rw [if_neg (by omega), if_neg (by omega), if_pos (by omega)]; decide
  · decide
theorem sd_iald (C : CX M p l9 s mm args meth c9) (hd : decode (mB M) pc = .ok (.iaload, 1)) (h : ald9 sF sN (fun t => t == 0) (pc + 1) l st m = Nx pc1 l1 s1 m1) (X : SX Γ M s m ad H locs l ls st sv) (k : NX Γ M p l9 e R s mm args below meth c9 Q m ad cells slots pc1 l1 s1 m1) : Wn Γ M p l9 e R s mm args below meth c9 Q H locs cells slots pc ls sv := by
  obtain ⟨i, a, j, r, rfl, ht, hk, hin, rfl, rfl, rfl, rfl⟩ := iv_ald h
  obtain ⟨hR, hK, hlo, hL, hS⟩ := X
  obtain ⟨w0, t0, rfl, hv0, hS1⟩ := hS.inv
  obtain ⟨w, t, rfl, hv, hS2⟩ := hS1.inv
  cases (show w0 = .int i from hv0)
  obtain ⟨rfl, hj⟩ := VR.rf hv
  have ht : aTy a = 0 := by simpa using ht
  obtain ⟨cell, g1, g2, g3, g4, g5, g6⟩ := arr_at (s := s) hR hK hj (by omega) hk
  rw [ht] at g2
  exact W.iald C.ex C.by g1 g2 g3 (inR_w hin g5) (g6 (fun _ => by omega) _ (inR_lt hin)) rfl rfl hd (k.here hR hK hlo hL ⟨rfl, hS2⟩)
theorem sd_bald (C : CX M p l9 s mm args meth c9) (hd : decode (mB M) pc = .ok (.baload, 1)) (h : ald9 sF sN (fun t => t == 1 || t == 2) (pc + 1) l st m = Nx pc1 l1 s1 m1) (X : SX Γ M s m ad H locs l ls st sv) (k : NX Γ M p l9 e R s mm args below meth c9 Q m ad cells slots pc1 l1 s1 m1) : Wn Γ M p l9 e R s mm args below meth c9 Q H locs cells slots pc ls sv := by
  obtain ⟨i, a, j, r, rfl, ht, hk, hin, rfl, rfl, rfl, rfl⟩ := iv_ald h
  obtain ⟨hR, hK, hlo, hL, hS⟩ := X
  obtain ⟨w0, t0, rfl, hv0, hS1⟩ := hS.inv
  obtain ⟨w, t, rfl, hv, hS2⟩ := hS1.inv
  cases (show w0 = .int i from hv0)
  obtain ⟨rfl, hj⟩ := VR.rf hv
  have ht : aTy a = 1 ∨ aTy a = 2 := by simpa using ht
  obtain ⟨cell, g1, g2, g3, g4, g5, g6⟩ := arr_at (s := s) hR hK hj (by omega) hk
  have kk := k.here (sv1 := .int (aGt m1 a j i.toNatClampNeg) :: t) hR hK hlo hL ⟨rfl, hS2⟩
  rcases ht with ht | ht
  · rw [ht] at g2
    exact W.bald C.ex C.by g1 g2 g3 (inR_w hin g5) (g6 (fun _ => by omega) _ (inR_lt hin)) rfl rfl hd kk
  · rw [ht] at g2
    exact W.zald C.ex C.by g1 g2 g3 (inR_w hin g5) (g6 (fun _ => by omega) _ (inR_lt hin)) rfl rfl hd kk
theorem sd_lald (C : CX M p l9 s mm args meth c9) (hd : decode (mB M) pc = .ok (.laload, 1)) (h : lald9 sF sN (pc + 1) l st m = Nx pc1 l1 s1 m1) (X : SX Γ M s m ad H locs l ls st sv) (k : NX Γ M p l9 e R s mm args below meth c9 Q m ad cells slots pc1 l1 s1 m1) : Wn Γ M p l9 e R s mm args below meth c9 Q H locs cells slots pc ls sv := by
  obtain ⟨i, a, j, r, rfl, h80, ht, hin, rfl, rfl, rfl, rfl⟩ := iv_lald h
  obtain ⟨hR, hK, hlo, hL, hS⟩ := X
  obtain ⟨w0, t0, rfl, hv0, hS1⟩ := hS.inv
  obtain ⟨w, t, rfl, hv, hS2⟩ := hS1.inv
  cases (show w0 = .int i from hv0)
  obtain ⟨rfl, hj⟩ := VR.rf hv
  have h20 : 20 ≤ a := aTy_20 (by omega)
  have g1 := hR.2.1 a j (by omega) h80 hj
  have g2 : s.isArrayOf (aCl Γ m1 a j) .long := by
    have := ((hK.1.2 _ _ (tyL_at Γ (t := aTy a) (by omega))).1) (kLn a) (fun i => if aTy a = 3 then .long (mJ m1 a j i) else .int (mI m1 a j i))
    rw [ht] at this
    unfold aCl
    rw [ht]
    exact this
  refine W.lald C.ex C.by g1 g2 (fun z => by cases z) (inR_w hin (by unfold aCl; rw [arrV_size]; exact Nat.le_refl _)) (v := .long (mJ m1 a j i.toNatClampNeg)) ?_ rfl rfl hd (k.here hR hK hlo hL ⟨rfl, hS2⟩)
  unfold aCl
  rw [arrV_read _ _ (inR_lt hin), if_pos ht]
theorem up3_nz {α : Type} {f : Nat → Nat → Nat → α} {k j i a b c : Nat} {v : α} (h : a ≠ k ∨ b ≠ j) : up3 f k j i v a b c = f a b c := up3_ne (h.elim Or.inl (fun z => Or.inr (Or.inl z)))
theorem aCl_set {Γ : Gm} {m m2 : Mem} {a j i : Nat} {v : Value} (h : ∀ x, (if aTy a = 3 then Value.long (mJ m2 a j x) else .int (mI m2 a j x)) = if x = i then v else (if aTy a = 3 then Value.long (mJ m a j x) else .int (mI m a j x))) : (aCl Γ m a j).setSlot i v = aCl Γ m2 a j := by
  unfold aCl
  rw [arrV_store]
  congr 1
  funext x
  rw [h x]
  rfl
theorem sd_fin {a j i : Nat} {v : Value} {t : List Value} {pc2 : Nat} {r : List AV} (ha1 : 15 ≤ a) (ha : a < 80) (hj : j < mK m a) (hKm : mK m1 = mK m ∧ mC m1 = mC m ∧ mS m1 = mS m) (hI : ∀ x y z, (x ≠ a ∨ y ≠ j) → mI m1 x y z = mI m x y z ∧ mJ m1 x y z = mJ m x y z ∧ mR m1 x y z = mR m x y z)
    (hset : (aCl Γ m a j).setSlot i v = aCl Γ m1 a j) (X : SX Γ M s m ad H locs l ls r t) (k : NX Γ M p l9 e R s mm args below meth c9 Q m ad cells slots pc2 l r m1) :
    ∀ H2 : Heap, H2[ad a j]? = some ((aCl Γ m a j).setSlot i v) → H2.size = H.size → (∀ q, q ≠ ad a j → H2[q]? = H[q]?) → W p l9 e R s mm args below meth c9 H2 (locs ++ [⟨ad a j, i⟩]) cells slots Q (F0 mm pc2 ls t) := by
  intro H2 e1 e2 e3
  obtain ⟨hR, hK, hlo, hL, hS⟩ := X
  rw [hset] at e1
  have hR2 : Rep Γ m1 ad H2 := hR.arr ha1 ha hj hKm.1 e1 e3 hI
  have hx : Ex m ad m1 ad := Ex.same hKm.1
  have kk := k ad H2 (locs ++ [⟨ad a j, i⟩]) ls t hx ⟨hR2, hK.kept (Nat.le_of_eq e2.symm) (fun q hq hn => e3 q (fun z => hn (by rw [z]; exact hR.2.2.1 a j ha hj))), fun q hq => by
    rcases List.mem_append.mp hq with hq | hq
    · exact hlo q hq
    · cases List.mem_singleton.mp hq
      exact hR.2.2.1 a j ha hj, hL.ex hx, hS.ex hx⟩
  rw [hKm.2.1, hKm.2.2] at kk
  simpa using kk
theorem aCl_of (hK : KN Γ s H) {a j : Nat} (ht : aTy a ≤ 3) : s.isArrayOf (aCl Γ m a j) (tyA (aTy a)) := ((hK.1.2 _ _ (tyL_at Γ ht)).1) _ _
theorem aCl_sz {a j : Nat} : (aCl Γ m a j).slots.size = kLn a := by unfold aCl; rw [arrV_size]
theorem sd_iast (C : CX M p l9 s mm args meth c9) (hd : decode (mB M) pc = .ok (.iastore, 1)) (h : iast9 sF sN (pc + 1) l st m = Nx pc1 l1 s1 m1) (X : SX Γ M s m ad H locs l ls st sv) (k : NX Γ M p l9 e R s mm args below meth c9 Q m ad cells slots pc1 l1 s1 m1) : Wn Γ M p l9 e R s mm args below meth c9 Q H locs cells slots pc ls sv := by
  obtain ⟨x, i, a, j, r, rfl, h80, ht, hin, rfl, rfl, rfl, rfl⟩ := iv_iast h
  obtain ⟨hR, hK, hlo, hL, hS⟩ := X
  obtain ⟨w0, t0, rfl, hv0, hS1⟩ := hS.inv
  obtain ⟨w1, t1, rfl, hv1, hS2⟩ := hS1.inv
  obtain ⟨w, t, rfl, hv, hS3⟩ := hS2.inv
  cases (show w0 = .int x from hv0)
  cases (show w1 = .int i from hv1)
  obtain ⟨rfl, hj⟩ := VR.rf hv
  have h20 : 20 ≤ a := aTy_20 (by omega)
  have g2 := aCl_of (m := m) (j := j) hK (a := a) (by omega)
  rw [ht] at g2
  refine W.iast C.ex C.by (hR.2.1 a j (by omega) h80 hj) g2 (fun z => by cases z) (inR_w hin (by rw [aCl_sz]; exact Nat.le_refl _)) rfl rfl hd ?_
  refine sd_fin (m1 := setI m a j i.toNatClampNeg x) (by omega) h80 hj ⟨rfl, rfl, rfl⟩ (fun x y z hz => ⟨up3_nz hz, rfl, rfl⟩) (aCl_set (fun y => ?_)) ⟨hR, hK, hlo, hL, hS3⟩ k
  simp only [if_neg (show ¬ aTy a = 3 by omega)]
  split
  · rename_i e; subst e; exact congrArg Value.int up3_eq
  · rename_i e; exact congrArg Value.int (up3_ne (Or.inr (Or.inr e)))
theorem sd_bast (C : CX M p l9 s mm args meth c9) (hd : decode (mB M) pc = .ok (.bastore, 1)) (h : bast9 sF sN (pc + 1) l st m = Nx pc1 l1 s1 m1) (X : SX Γ M s m ad H locs l ls st sv) (k : NX Γ M p l9 e R s mm args below meth c9 Q m ad cells slots pc1 l1 s1 m1) : Wn Γ M p l9 e R s mm args below meth c9 Q H locs cells slots pc ls sv := by
  obtain ⟨x, i, a, j, r, rfl, h80, hin, rfl, rfl, rfl, hm⟩ := iv_bast h
  obtain ⟨hR, hK, hlo, hL, hS⟩ := X
  obtain ⟨w0, t0, rfl, hv0, hS1⟩ := hS.inv
  obtain ⟨w1, t1, rfl, hv1, hS2⟩ := hS1.inv
  obtain ⟨w, t, rfl, hv, hS3⟩ := hS2.inv
  cases (show w0 = .int x from hv0)
  cases (show w1 = .int i from hv1)
  obtain ⟨rfl, hj⟩ := VR.rf hv
  rcases hm with ⟨ht, rfl⟩ | ⟨ht, rfl⟩
  · have h20 : 20 ≤ a := aTy_20 (by omega)
    have g2 := aCl_of (m := m) (j := j) hK (a := a) (by omega)
    rw [ht] at g2
    refine W.bast C.ex C.by (hR.2.1 a j (by omega) h80 hj) g2 (fun z => by cases z) (inR_w hin (by rw [aCl_sz]; exact Nat.le_refl _)) rfl rfl hd ?_
    refine sd_fin (m1 := setI m a j i.toNatClampNeg x.toInt8.toInt32) (by omega) h80 hj ⟨rfl, rfl, rfl⟩ (fun x y z hz => ⟨up3_nz hz, rfl, rfl⟩) (aCl_set (fun y => ?_)) ⟨hR, hK, hlo, hL, hS3⟩ k
    simp only [if_neg (show ¬ aTy a = 3 by omega)]
    split
    · rename_i e; subst e; exact congrArg Value.int up3_eq
    · rename_i e; exact congrArg Value.int (up3_ne (Or.inr (Or.inr e)))
  · have h20 : 20 ≤ a := aTy_20 (by omega)
    have g2 := aCl_of (m := m) (j := j) hK (a := a) (by omega)
    rw [ht] at g2
    refine W.zast C.ex C.by (hR.2.1 a j (by omega) h80 hj) g2 (fun z => by cases z) (inR_w hin (by rw [aCl_sz]; exact Nat.le_refl _)) rfl rfl hd ?_
    refine sd_fin (m1 := setI m a j i.toNatClampNeg (x &&& 1)) (by omega) h80 hj ⟨rfl, rfl, rfl⟩ (fun x y z hz => ⟨up3_nz hz, rfl, rfl⟩) (aCl_set (fun y => ?_)) ⟨hR, hK, hlo, hL, hS3⟩ k
    simp only [if_neg (show ¬ aTy a = 3 by omega)]
    split
    · rename_i e; subst e; exact congrArg Value.int up3_eq
    · rename_i e; exact congrArg Value.int (up3_ne (Or.inr (Or.inr e)))
theorem sd_last (C : CX M p l9 s mm args meth c9) (hd : decode (mB M) pc = .ok (.lastore, 1)) (h : last9 sF sN (pc + 1) l st m = Nx pc1 l1 s1 m1) (X : SX Γ M s m ad H locs l ls st sv) (k : NX Γ M p l9 e R s mm args below meth c9 Q m ad cells slots pc1 l1 s1 m1) : Wn Γ M p l9 e R s mm args below meth c9 Q H locs cells slots pc ls sv := by
  obtain ⟨x, i, a, j, r, rfl, h80, ht, hin, rfl, rfl, rfl, rfl⟩ := iv_last h
  obtain ⟨hR, hK, hlo, hL, hS⟩ := X
  obtain ⟨w0, t0, rfl, hv0, hS1⟩ := hS.inv
  obtain ⟨w1, t1, rfl, hv1, hS2⟩ := hS1.inv
  obtain ⟨w, t, rfl, hv, hS3⟩ := hS2.inv
  cases (show w0 = .long x from hv0)
  cases (show w1 = .int i from hv1)
  obtain ⟨rfl, hj⟩ := VR.rf hv
  have h20 : 20 ≤ a := aTy_20 (by omega)
  have g2 := aCl_of (m := m) (j := j) hK (a := a) (by omega)
  rw [ht] at g2
  refine W.last C.ex C.by (hR.2.1 a j (by omega) h80 hj) g2 (fun z => by cases z) (inR_w hin (by rw [aCl_sz]; exact Nat.le_refl _)) rfl rfl hd ?_
  refine sd_fin (m1 := setJ m a j i.toNatClampNeg x) (by omega) h80 hj ⟨rfl, rfl, rfl⟩ (fun x y z hz => ⟨rfl, up3_nz hz, rfl⟩) (aCl_set (fun y => ?_)) ⟨hR, hK, hlo, hL, hS3⟩ k
  simp only [if_pos ht]
  split
  · rename_i e; subst e; exact congrArg Value.long up3_eq
  · rename_i e; exact congrArg Value.long (up3_ne (Or.inr (Or.inr e)))
theorem sd_alen (C : CX M p l9 s mm args meth c9) (hd : decode (mB M) pc = .ok (.arraylength, 1)) {a j : Nat} {r : List AV} (ht : aTy a ≤ 3) (hk : okK a = true) (X : SX Γ M s m ad H locs l ls (vr a j :: r) sv) (k : NX Γ M p l9 e R s mm args below meth c9 Q m ad cells slots (pc + 1) l (vi (Int32.ofNat (aLn m a j)) :: r) m) : Wn Γ M p l9 e R s mm args below meth c9 Q H locs cells slots pc ls sv := by
  obtain ⟨hR, hK, hlo, hL, hS⟩ := X
  obtain ⟨w, t, rfl, hv, hS2⟩ := hS.inv
  obtain ⟨rfl, hj⟩ := VR.rf hv
  obtain ⟨cell, g1, g2, g3, g4, g5, g6⟩ := arr_at (s := s) hR hK hj ht hk
  exact W.alen C.ex C.by g1 g2 g4 rfl rfl hd (k.here hR hK hlo hL ⟨rfl, hS2⟩)
end AS
end
section
/-! New things, statics, constants, Object's making, a copy of places -/
def ojL : List (Nat × Nat) := [(11, 1), (0, 3), (1, 5), (2, 5), (3, 3), (4, 5), (5, 3), (6, 3), (7, 3), (8, 3), (9, 1), (10, 3), (14, 1), (12, 3), (23, 1)]
def oj9 (M : Nat) (q : Nat × Ent9) : Bool := match q with
  | (_, .invokespecial k, _, _, _, c, _) => if c = 50 then ojL.contains (mO M, k) else true
  | _ => true
theorem oj_all : (List.range 281).all (fun M => (cdT M).all (oj9 M)) = true := by decide +kernel
def ojP : List (Nat × Nat) := [(1, 34), (2, 32), (1, 48), (2, 197), (2, 5), (2, 85), (1, 153), (2, 45), (1, 42), (1, 77), (2, 164), (2, 141), (6, 109), (7, 86), (6, 59)]
theorem oj_p : ojP.map atP = (ojL.map (fun q => some (Cond.methodLink (onm q.1) q.2 Lib.objectInit))) := by decide +kernel
theorem oj_w : ∀ q ∈ ojL, Cond.methodLink (onm q.1) q.2 Lib.objectInit ∈ lw_tbl := by
  intro q hq
  have h : some (Cond.methodLink (onm q.1) q.2 Lib.objectInit) ∈ ojP.map atP := by rw [oj_p]; exact List.mem_map.mpr ⟨q, hq, rfl⟩
  obtain ⟨z, -, hz⟩ := List.mem_map.mp h
  exact atP_in hz
theorem oj_i : Cond.instanceMethod Lib.objectInit ∈ lw_tbl := atP_in (q := (1, 35)) (by decide +kernel)
theorem oj_c : Cond.code Lib.objectInit ⟨#[0xb1]⟩ 1 none ∈ lw_tbl := atP_in (q := (1, 36)) (by decide +kernel)
theorem oj_at (M : Nat) : (cdT M).all (oj9 M) = true := by
  by_cases h : M < 281
  · exact List.all_eq_true.mp oj_all M (List.mem_range.mpr h)
  · rw [show cdT M = [] from cdT_big cdTab M (by rw [cdTab_len]; omega)]; rfl
theorem lk_wy : ∀ k, k < 4 → Cond.fieldLink "WholeFields$Walker" (nth9 [47, 50, 57, 60] k 0) "WholeFields$Walker" (wyN k) "[I" ∈ lw_tbl := by
  intro k hk
  match k, hk with
  | 0, _ => exact atP_in (q := (5, 137)) (by decide +kernel)
  | 1, _ => exact atP_in (q := (5, 139)) (by decide +kernel)
  | 2, _ => exact atP_in (q := (5, 145)) (by decide +kernel)
  | 3, _ => exact atP_in (q := (5, 147)) (by decide +kernel)
theorem lk_us : Cond.fieldLink "java/lang/Throwable" 13 "java/lang/Throwable" "UNASSIGNED_STACK" "[Ljava/lang/StackTraceElement;" ∈ lw_tbl := atP_in (q := (6, 60)) (by decide +kernel)
theorem lk_ss : Cond.fieldLink "java/lang/Throwable" 20 "java/lang/Throwable" "SUPPRESSED_SENTINEL" "Ljava/util/List;" ∈ lw_tbl := atP_in (q := (6, 62)) (by decide +kernel)
theorem lk_cs : Cond.fieldLink "java/lang/String" 38 "java/lang/String" "COMPACT_STRINGS" "Z" ∈ lw_tbl := atP_in (q := (7, 139)) (by decide +kernel)
theorem lk_pf : Cond.fieldLink "java/lang/String" 1053 "jdk/internal/util/Preconditions" "SIOOBE_FORMATTER" "Ljava/util/function/BiFunction;" ∈ lw_tbl := atP_in (q := (7, 155)) (by decide +kernel)
theorem lk_ac : Cond.methodLink "WholeFields$Finder" 168 arraycopyName ∈ lw_tbl ∧ Cond.native arraycopyName ∈ lw_tbl ∧ Cond.static arraycopyName ∈ lw_tbl ∧ Cond.initialized "java/lang/System" ∈ lw_tbl := ⟨atP_in (q := (5, 114)) (by decide +kernel), atP_in (q := (5, 116)) (by decide +kernel), atP_in (q := (5, 115)) (by decide +kernel), atP_in (q := (1, 26)) (by decide +kernel)⟩
theorem lk_ar : ∀ t, t < 4 → Cond.arrayClass (tyA t) ∈ lw_tbl := by
  intro t ht
  match t, ht with
  | 0, _ => exact atP_in (q := (1, 71)) (by decide +kernel)
  | 1, _ => exact atP_in (q := (1, 69)) (by decide +kernel)
  | 2, _ => exact atP_in (q := (1, 104)) (by decide +kernel)
  | 3, _ => exact atP_in (q := (1, 70)) (by decide +kernel)
end
section
/-! New things, statics, constants, Object's making, a copy of places -/
section NW
variable {Γ : Gm} {M : Nat} {p : Program} {l9 : Launch} {e : Env} {R : Room} {s : State} {mm : MethodId} {args : Array Value} {below : List Frame} {meth : Method} {c9 : Code} {Q : State → Prop} {m m1 : Mem} {ad : Nat → Nat → Nat} {cells slots pc pc1 : Nat} {l l1 : Loc9} {st s1 : List AV} {H : Heap} {locs : List Loc} {ls : Array Slot} {sv : List Value}
theorem newM_C {k n : Nat} : mC (newM m k n) - mC m = 1 ∧ mS (newM m k n) - mS m = n := by
  constructor
  · show mC m + 1 - mC m = 1; omega
  · show mS m + n - mS m = n; omega
theorem fcd_lt : ∀ a, a < 15 → ∀ i, i < (clT a).2.2 → fcd (tyT a i) < 4 := by decide +kernel
theorem sd_new (C : CX M p l9 s mm args meth c9) {a k9 : Nat} (hd : decode (mB M) pc = .ok (.new k9, 3)) (ha : a < 15) (hw : has3 clL (mO M) k9 a = true) (hc : cells + 1 ≤ R.cells) (hs : slots + (clT a).2.2 ≤ R.slots) (X : SX Γ M s m ad H locs l ls st sv) (k : NX Γ M p l9 e R s mm args below meth c9 Q m ad cells slots (pc + 3) l (vr a (mK m a) :: st) (newM m a (clT a).2.2)) : Wn Γ M p l9 e R s mm args below meth c9 Q H locs cells slots pc ls sv := by
  obtain ⟨hR, hK, hlo, hL, hS⟩ := X
  have hKa := hK.1.1 a _ (vwC_at ha)
  have hB : gB Γ ≤ H.size := hK.2.2.2.2.2.2.2.2.2.2.2.2.1
  refine W.newcK C.ex C.by C.own (C.w (has3c_w hw) rfl) (C.w (cls_at ha).2.1 rfl) (C.w (cls_at ha).2.2 rfl) rfl hd hc hs hKa.2.1 rfl (fun H1 kC hkC e1 z1 o1 => ?_)
  have hb := u_born (tyT a) C.ws (cls_at ha).1 hKa hkC e1 (cln_at ha).2
  have hx : Ex m ad (newM m a (clT a).2.2) (adN ad a (mK m a) H.size) := Ex.new
  have hR2 : Rep Γ (newM m a (clT a).2.2) (adN ad a (mK m a) H.size) H1 := by
    refine hR.new (by omega) hB o1 (fun _ => ?_) (fun h => by omega)
    obtain ⟨cell, q1, q2, q3, q4⟩ := hb
    exact ⟨cell, q1, q2, q3, fun i hi => ⟨_, q4 i hi, VR.df (by omega) (fcd_lt a ha i hi)⟩⟩
  have kk := k (adN ad a (mK m a) H.size) H1 locs ls (.ref H.size :: sv) hx ⟨hR2, hK.kept (by omega) (fun q hq _ => o1 q hq), hlo, hL.ex hx, ⟨⟨by rw [adN_eq], by rw [newM_K, if_pos rfl]; omega⟩, hS.ex hx⟩⟩
  rw [newM_C.1, newM_C.2] at kk
  exact kk
theorem cmpB : ∀ t, t < 4 → componentBytes (tyA t) ≤ 8 := by decide +kernel
theorem kLn_le {k : Nat} (h : k < 80) : kLn k ≤ 1296 := by
  have key : ∀ k : Nat, k < 80 → kLn k ≤ 1296 := by decide +kernel
  exact key k h
theorem sd_nwa (C : CX M p l9 s mm args meth c9) {a n c : Nat} {t9 : ArrayType} (hd : decode (mB M) pc = .ok (.newarray t9, 2)) (ht : newarray.typeOf t9 = tyA c) (hc3 : c < 4) (h : nwa9 sF sN a n c (pc + 2) l st m = Nx pc1 l1 s1 m1) (hc : cells + (mC m1 - mC m) ≤ R.cells) (hs : slots + (mS m1 - mS m) ≤ R.slots) (X : SX Γ M s m ad H locs l ls st sv) (k : NX Γ M p l9 e R s mm args below meth c9 Q m ad cells slots pc1 l1 s1 m1) : Wn Γ M p l9 e R s mm args below meth c9 Q H locs cells slots pc ls sv := by
  obtain ⟨x, r, rfl, ⟨hx, hty, hln, h80⟩, rfl, rfl, rfl, rfl⟩ := iv_nwa h
  obtain ⟨hR, hK, hlo, hL, hS⟩ := X
  obtain ⟨w0, t0, rfl, hv0, hS1⟩ := hS.inv
  cases (show w0 = .int x from hv0)
  have hB : gB Γ ≤ H.size := hK.2.2.2.2.2.2.2.2.2.2.2.2.1
  have hn1 : n ≤ 1296 := by rw [← hln]; exact kLn_le h80
  have hxn : x.toNatClampNeg = n := by rw [hx]; exact nI_clamp (by omega)
  rw [newM_C.1] at hc
  rw [newM_C.2] at hs
  have h20 : 20 ≤ a := aTy_20 (by omega)
  obtain ⟨hA1, hA2⟩ := hK.1.2 _ _ (tyL_at Γ (t := c) (by omega))
  have harr : (Cond.arrayClass (newarray.typeOf t9)).before args s = true := by rw [ht]; exact C.w (lk_ar c hc3) rfl
  refine W.newa C.ex C.by harr rfl hd rfl (by rw [hx]; exact nI_pos (by omega)) ?_ hc (by rw [hxn]; exact hs) (fun cA kA comp e1 e2 e3 => ?_)
  · rw [ht, hxn]
    have := cmpB c hc3
    calc n * componentBytes (tyA c) ≤ 1296 * 8 := Nat.mul_le_mul hn1 this
      _ ≤ _ := by decide
  · have hcA : cA = Γ.2.1 c := by
      rw [ht] at e1
      have h2 : s.vm.findClass ("[" ++ (tyA c).toString) = some (Γ.2.1 c) := by
        match c, hc3, hA2 with
        | 0, _, h => exact h
        | 1, _, h => exact h
        | 2, _, h => exact h
        | 3, _, h => exact h
      exact Option.some.inj (e1.symm.trans h2)
    have hex : Ex m ad (newM m a n) (adN ad a (mK m a) H.size) := Ex.new
    have hcell : (H.push { cls := cA, slots := Array.replicate x.toNatClampNeg (defaultValue (newarray.typeOf t9)), vm := .none })[H.size]? = some (aCl Γ (newM m a n) a (mK m a)) := by
      rw [Array.getElem?_push_size, hxn, arrV_new, ht, hcA]
      unfold aCl
      rw [hty, hln]
      congr 2
      funext i
      have q1 : mI (newM m a n) a (mK m a) i = 0 := by rw [newM_I, upA_eq]
      have q2 : mJ (newM m a n) a (mK m a) i = 0 := by rw [newM_J, upA_eq]
      rw [q1, q2]
      match c, hc3 with
      | 0, _ => rfl
      | 1, _ => rfl
      | 2, _ => rfl
      | 3, _ => rfl
    have hold : ∀ q, q < H.size → (H.push { cls := cA, slots := Array.replicate x.toNatClampNeg (defaultValue (newarray.typeOf t9)), vm := .none })[q]? = H[q]? := fun q hq => by
      rw [Array.getElem?_push, if_neg (Nat.ne_of_lt hq)]
    have hR2 : Rep Γ (newM m a n) (adN ad a (mK m a) H.size) (H.push { cls := cA, slots := Array.replicate x.toNatClampNeg (defaultValue (newarray.typeOf t9)), vm := .none }) := hR.new h80 hB hold (fun h => by omega) (fun _ => hcell)
    have kk := k (adN ad a (mK m a) H.size) _ locs ls (.ref H.size :: t0) hex ⟨hR2, hK.kept (by simp) (fun q hq _ => hold q hq), hlo, hL.ex hex, ⟨⟨by rw [adN_eq], by rw [newM_K, if_pos rfl]; omega⟩, hS1.ex hex⟩⟩
    rw [newM_C.1, newM_C.2] at kk
    rw [hxn]
    rw [hxn] at kk
    exact kk
theorem sd_gets (C : CX M p l9 s mm args meth c9) {a k9 : Nat} (hd : decode (mB M) pc = .ok (.getstatic k9, 3)) {own C9 n d : String} {v : Value} {av : AV} (ho : onm (mO M) = own) (hl : Cond.fieldLink own k9 C9 n d ∈ lw_tbl) (hZ : va_Z C9 n d v (gA Γ) s H) (X : SX Γ M s m ad H locs l ls st sv) (hv : VR m ad av v) (k : NX Γ M p l9 e R s mm args below meth c9 Q m ad cells slots (pc + 3) l (av :: st) m) : Wn Γ M p l9 e R s mm args below meth c9 Q H locs cells slots pc ls sv := by
  obtain ⟨hR, hK, hlo, hL, hS⟩ := X
  obtain ⟨cf, kf, fi, f, a, cell, h1, h2, h3, h4, h5, h6, h7, h8⟩ := hZ
  have hown := C.own
  rw [ho] at hown
  exact W.gets C.ex C.by hown (C.w hl rfl) h1 h2 h3 h4 h5 (fun e => by rw [e] at h6; cases h6) h7 rfl hd (k.here hR hK hlo hL ⟨hv, hS⟩)
theorem sd_ldcS (C : CX M p l9 s mm args meth c9) {a k9 : Nat} (hd : decode (mB M) pc = .ok (.ldc k9, 2)) (hw : (mO M, k9, a) ∈ strL) (ha : a < 9) (X : SX Γ M s m ad H locs l ls st sv) (k : NX Γ M p l9 e R s mm args below meth c9 Q m ad cells slots (pc + 2) l (vr 80 a :: st) m) : Wn Γ M p l9 e R s mm args below meth c9 Q H locs cells slots pc ls sv := by
  obtain ⟨hR, hK, hlo, hL, hS⟩ := X
  have hs := hK.2.2.2.1 _ hw
  have kk := k.here (sv1 := .ref (gX Γ 80 a) :: sv) hR hK hlo hL ⟨⟨by rw [hR.2.2.2.2.1 80 a (by omega)], by rw [hR.2.2.2.2.2.1 80 (by omega)]; exact ha⟩, hS⟩
  intro T hT Y
  obtain ⟨t, a1, b1⟩ := kk T hT Y
  exact ⟨t, Y.ldcString C.ex C.own hs.1 hs.2 (g := F0 mm pc ls sv) rfl (by rw [C.by]; exact hd) _ a1, b1⟩
theorem sd_obj (C : CX M p l9 s mm args meth c9) {k9 : Nat} {q : Nat × Nat} {r : List AV} (hd : decode (mB M) pc = .ok (.invokespecial k9, 3)) (hw : (mO M, k9) ∈ ojL) (hr : cats r ≤ 8) (hfr : 16 ≤ R.frames) (hlc : 400 ≤ R.locals) (X : SX Γ M s m ad H locs l ls (.inr (.inr (some (some q))) :: r) sv) (k : NX Γ M p l9 e R s mm args below meth c9 Q m ad cells slots (pc + 3) l r m) : Wn Γ M p l9 e R s mm args below meth c9 Q H locs cells slots pc ls sv := by
  obtain ⟨hR, hK, hlo, hL, hS⟩ := X
  obtain ⟨w, t, rfl, hv, hS1⟩ := hS.inv
  obtain ⟨rfl, -⟩ := VR.rf (a := q.1) (j := q.2) hv
  have hsz : ls.size = c9.maxLocals := by
    obtain ⟨-, lv, h1, -⟩ := hL
    rw [C.ml]; exact h1.1
  have hct := hS1.ct
  exact W.objInit C.ex C.by C.own (C.w (oj_w _ hw) rfl) (C.w oj_i rfl) (C.w oj_c rfl) rfl hsz rfl hd (by omega) (by show 2 * 0 + _ + 12 ≤ _; rw [hct]; omega) (k.here hR hK hlo hL hS1)
theorem sd_cp (C : CX M p l9 s mm args meth c9) (ho : mO M = 4) (hd : decode (mB M) pc = .ok (.invokestatic 168, 3)) (hfr : 16 ≤ R.frames) (hlc : 400 ≤ R.locals) (h : cp9 sF sN (pc + 3) l st m = Nx pc1 l1 s1 m1) (X : SX Γ M s m ad H locs l ls st sv) (k : NX Γ M p l9 e R s mm args below meth c9 Q m ad cells slots pc1 l1 s1 m1) : Wn Γ M p l9 e R s mm args below meth c9 Q H locs cells slots pc ls sv := by
  obtain ⟨n, dp, kq, jq, sp, kp, jp, r, rfl, ⟨b1, b2, b3, b4, b5, b6, b7, b8, b9, b10⟩, rfl, rfl, rfl, rfl⟩ := iv_cp h
  obtain ⟨hR, hK, hlo, hL, hS⟩ := X
  obtain ⟨w0, t0, rfl, hv0, hS1⟩ := hS.inv
  obtain ⟨w1, t1, rfl, hv1, hS2⟩ := hS1.inv
  obtain ⟨w2, t2, rfl, hv2, hS3⟩ := hS2.inv
  obtain ⟨w3, t3, rfl, hv3, hS4⟩ := hS3.inv
  obtain ⟨w4, t4, rfl, hv4, hS5⟩ := hS4.inv
  cases (show w0 = .int n from hv0)
  cases (show w1 = .int dp from hv1)
  cases (show w3 = .int sp from hv3)
  obtain ⟨rfl, hjq⟩ := VR.rf hv2
  obtain ⟨rfl, hjp⟩ := VR.rf hv4
  have q20 : 20 ≤ kq := aTy_20 (by omega)
  have p20 : 20 ≤ kp := aTy_20 (by omega)
  have hsz : ls.size = c9.maxLocals := by
    obtain ⟨-, lv, h1, -⟩ := hL
    rw [C.ml]; exact h1.1
  have hct := hS5.ct
  have hown := C.own
  rw [ho] at hown
  have cq : H[ad kq jq]? = some (arrV (Γ.2.1 0) (kLn kq) (fun i => .int (mI m kq jq i))) := by
    rw [hR.2.1 kq jq (by omega) b1 hjq]; unfold aCl; rw [b3]; simp
  have cp : H[ad kp jp]? = some (arrV (Γ.2.1 0) (kLn kp) (fun i => .int (mI m kp jp i))) := by
    rw [hR.2.1 kp jp (by omega) b2 hjp]; unfold aCl; rw [b4]; simp
  have nn : ∀ z : Int32, 0 ≤ z → z.toInt = (z.toNatClampNeg : Int) := by
    intro z hz
    have hz0 : (0 : Int) ≤ z.toInt := by simpa using Int32.le_iff_toInt_le.mp hz
    show z.toInt = ((z.toInt.toNat : Nat) : Int)
    omega
  have nl : ∀ z : Int32, 0 ≤ z → ¬ z < 0 := fun z hz => Int32.not_lt.mpr hz
  have hnw : 8 + (nativeFrameWords "java/lang/System" "arraycopy" 5 + 11) ≤ 400 := by decide
  intro T hT Y
  obtain ⟨-, k0, hk0, cm0, hkk0⟩ := (hK.1.2 0 _ (tyL_at Γ (t := 0) (by omega))).1 (kLn kp) (fun i => .int (mI m kp jp i))
  obtain ⟨-, k1, hk1, cm1, hkk1⟩ := (hK.1.2 0 _ (tyL_at Γ (t := 0) (by omega))).1 (kLn kq) (fun i => .int (mI m kq jq i))
  obtain ⟨vm', Y', step⟩ := Y.arraycopy C.ex hown (C.w lk_ac.1 rfl) (C.w lk_ac.2.1 rfl) (C.w lk_ac.2.2.1 rfl) (C.w lk_ac.2.2.2 rfl) (src := ad kp jp) (dst := ad kq jq) (srcPos := sp) (destPos := dp) (n := n) (by rw [hT]; exact cp) (by rw [hT]; exact cq)
    (fun _ h => by cases h) (fun _ h => by cases h) (fun h => by cases h) (fun h => by cases h) hk0 hk1 hkk0 hkk1 (by rfl) (nl _ b6) (nl _ b7) (nl _ b5)
    (by rw [nn sp b6, nn n b5, arrV_size]; omega)
    (by rw [nn dp b7, nn n b5, arrV_size]; omega)
    (fun vm₁ _ i hi => by
      have e : (arrV (Γ.2.1 0) (kLn kp) (fun i => Value.int (mI m kp jp i))).slots.getD (sp.toNatClampNeg + i) .null = .int (mI m kp jp (sp.toNatClampNeg + i)) := by
        rw [Array.getD_eq_getD_getElem?, arrV_read _ _ (by omega)]
        rfl
      refine ⟨?_, ?_⟩
      · rw [e]; rfl
      · rw [e]; exact trivial)
    (g := F0 mm pc ls (.int n :: .int dp :: .ref (ad kq jq) :: .int sp :: .ref (ad kp jp) :: t4)) rfl hsz (rest := t4) rfl (by rw [C.by]; exact hd) (by omega) (by show 2 * 0 + _ + _ ≤ _; rw [hct]; omega)
  have e1 : copied (arrV (Γ.2.1 0) (kLn kp) (fun i => Value.int (mI m kp jp i))) (arrV (Γ.2.1 0) (kLn kq) (fun i => Value.int (mI m kq jq i))) sp dp n = arrV (Γ.2.1 0) (kLn kq) (fun i => .int (va_cpy (mI m kp jp) (mI m kq jq) sp.toNatClampNeg dp.toNatClampNeg n.toNatClampNeg i)) := va_copied (fun z => .int z) _ _ _ _ b8
  rw [e1] at Y' step
  have hlq : ad kq jq < H.size := (Array.getElem?_eq_some_iff.mp cq).1
  let m2 : Mem := (upA m.1 kq jq (va_cpy (m.1 kp jp) (m.1 kq jq) sp.toNatClampNeg dp.toNatClampNeg n.toNatClampNeg), m.2)
  have hcl : arrV (Γ.2.1 0) (kLn kq) (fun i => .int (va_cpy (mI m kp jp) (mI m kq jq) sp.toNatClampNeg dp.toNatClampNeg n.toNatClampNeg i)) = aCl Γ m2 kq jq := by
    unfold aCl
    rw [b3]
    congr 1
    funext i
    rw [if_neg (by decide)]
    show Value.int _ = Value.int (upA m.1 kq jq _ kq jq i)
    rw [upA_eq]
  have oq : ∀ q : Nat, q ≠ ad kq jq → (H.setIfInBounds (ad kq jq) (aCl Γ m2 kq jq))[q]? = H[q]? := fun q hq => by simp [Array.getElem?_setIfInBounds, Ne.symm hq]
  have hx : Ex m ad m2 ad := Ex.same rfl
  rw [hcl] at Y' step
  have hR2 : Rep Γ m2 ad (H.setIfInBounds (ad kq jq) (aCl Γ m2 kq jq)) := hR.arr (by omega) b1 hjq rfl (by simp [Array.getElem?_setIfInBounds, hlq]) oq (fun x y z hz => ⟨upA_ne hz, rfl, rfl⟩)
  have hheap : ((T.setVm vm').setCell (ad kq jq) (aCl Γ m2 kq jq)).heap = H.setIfInBounds (ad kq jq) (aCl Γ m2 kq jq) := by rw [← hT]; rfl
  have fin : ∀ L2 : List Loc, Stand p l9 e R s mm args below meth c9 ((T.setVm vm').setCell (ad kq jq) (aCl Γ m2 kq jq)) L2 cells slots → (∀ q ∈ L2, gB Γ ≤ q.base) → ∃ t, Steps p.tables e below (T.setTop (F0 mm pc ls (.int n :: .int dp :: .ref (ad kq jq) :: .int sp :: .ref (ad kp jp) :: t4))) t ∧ Q t := by
    intro L2 Y2 h2
    have kk := k ad _ L2 ls t4 hx ⟨hR2, hK.kept (by simp) (fun q hq hn => oq q (fun z => hn (by rw [z]; exact hR.2.2.1 kq jq b1 hjq))), h2, hL.ex hx, hS5.ex hx⟩
    simp only [show mC m2 = mC m from rfl, show mS m2 = mS m from rfl, Nat.sub_self, Nat.add_zero] at kk
    obtain ⟨t, a1, b1⟩ := kk _ hheap Y2
    exact ⟨t, step t a1, b1⟩
  refine fin _ Y' (fun q hq => ?_)
  rcases List.mem_append.mp hq with h | h
  · exact hlo q h
  · obtain ⟨z, -, hz⟩ := List.mem_map.mp h
    rw [← hz]
    exact hR.2.2.1 kq jq b1 hjq
end NW
end
section
/-! Every step that goes on in the same method -/
theorem mO_all : (List.range 281).all (fun M => decide ((mY M).cls = onm (mO M))) = true := by decide +kernel
theorem aTy_8 (a : Nat) : aTy a ≠ 8 := by
  unfold aTy
  split
  · decide
  · split
    · decide
    · split
      · decide
      · split
        · rename_i q hq
          have key : ∀ q ∈ akT, q.2.1 ≠ 8 := by decide +kernel
          have hm : ∀ (l : List (Nat × Nat × Nat)) (q : Nat × Nat), l.lookup a = some q → (a, q) ∈ l := by
            intro l
            induction l with
            | nil => intro q h; cases h
            | cons z t ih =>
              intro q h
              simp only [List.lookup] at h
              split at h
              · rename_i e
                cases h
                rw [show a = z.1 by simpa using e]
                exact List.mem_cons_self
              · exact List.mem_cons_of_mem _ (ih q h)
          exact key _ (hm akT q hq)
        · decide
section NEXT
variable {Γ : Gm} {M : Nat} {p : Program} {l9 : Launch} {e : Env} {R : Room} {s : State} {mm : MethodId} {args : Array Value} {below : List Frame} {meth : Method} {c9 : Code} {Q : State → Prop} {m m1 : Mem} {ad : Nat → Nat → Nat} {cells slots pc pc1 : Nat} {l l1 : Loc9} {st s1 : List AV} {H : Heap} {locs : List Loc} {ls : Array Slot} {sv : List Value}
theorem mO_cls (M : Nat) (hM : M < 281) : (mY M).cls = onm (mO M) := of_decide_eq_true (List.all_eq_true.mp mO_all M (List.mem_range.mpr hM))
theorem sd_mt (C : CX M p l9 s mm args meth c9) {c k9 : Nat} (hd : decode (mB M) pc = .ok (.invokestatic k9, 3)) (hw : (c = 61 ∧ hasM (mO M) k9 24 1 = true) ∨ (c = 62 ∧ hasM (mO M) k9 25 1 = true) ∨ (c = 63 ∧ hasM (mO M) k9 62 1 = true)) (hfr : 16 ≤ R.frames) (hlc : 400 ≤ R.locals) (hc : cells ≤ R.cells) (hs : slots ≤ R.slots) (h : mt9 sF sN c (pc + 3) l st m = Nx pc1 l1 s1 m1) (X : SX Γ M s m ad H locs l ls st sv) (k : NX Γ M p l9 e R s mm args below meth c9 Q m ad cells slots pc1 l1 s1 m1) : Wn Γ M p l9 e R s mm args below meth c9 Q H locs cells slots pc ls sv := by
  obtain ⟨hR, hK, hlo, hL, hS⟩ := X
  have hsz : c9.maxLocals = ls.size := by
    obtain ⟨-, lv, h1, -⟩ := hL
    rw [C.ml]; exact h1.1.symm
  rcases hw with ⟨rfl, hw⟩ | ⟨rfl, hw⟩ | ⟨rfl, hw⟩
  · rcases iv_mt h with ⟨-, x, y, r, rfl, hr, rfl, rfl, rfl, rfl⟩ | ⟨q, -⟩ | ⟨q, -⟩
    · obtain ⟨w1, t1, rfl, hv1, hS1⟩ := hS.inv
      obtain ⟨w2, t2, rfl, hv2, hS2⟩ := hS1.inv
      cases (show w1 = .int y from hv1)
      cases (show w2 = .int x from hv2)
      have hct := hS2.ct
      have hw2 := hasM_w hw
      exact va_mmin C.ex C.by hsz C.own (C.w (hw2 _ (List.mem_of_getElem? (i := 0) rfl)) rfl) (C.w (hw2 _ (List.mem_of_getElem? (i := 1) rfl)) rfl) (C.w (hw2 _ (List.mem_of_getElem? (i := 2) rfl)) rfl) (C.w (cw_at (a := 24) (by omega) (by omega)) rfl) (by omega) (by rw [hct]; omega) hc hs hd (k.here hR hK hlo hL ⟨rfl, hS2⟩)
    · omega
    · omega
  · rcases iv_mt h with ⟨q, -⟩ | ⟨-, x, y, r, rfl, hr, rfl, rfl, rfl, rfl⟩ | ⟨-, q, -⟩
    · omega
    · obtain ⟨w1, t1, rfl, hv1, hS1⟩ := hS.inv
      obtain ⟨w2, t2, rfl, hv2, hS2⟩ := hS1.inv
      cases (show w1 = .int y from hv1)
      cases (show w2 = .int x from hv2)
      have hct := hS2.ct
      have hw2 := hasM_w hw
      exact va_mmax C.ex C.by hsz C.own (C.w (hw2 _ (List.mem_of_getElem? (i := 0) rfl)) rfl) (C.w (hw2 _ (List.mem_of_getElem? (i := 1) rfl)) rfl) (C.w (hw2 _ (List.mem_of_getElem? (i := 2) rfl)) rfl) (C.w (cw_at (a := 25) (by omega) (by omega)) rfl) (by omega) (by rw [hct]; omega) hc hs hd (k.here hR hK hlo hL ⟨rfl, hS2⟩)
    · omega
  · rcases iv_mt h with ⟨q, -⟩ | ⟨q, -⟩ | ⟨-, -, x, r, rfl, hr, rfl, rfl, rfl, rfl⟩
    · omega
    · omega
    · obtain ⟨w1, t1, rfl, hv1, hS1⟩ := hS.inv
      cases (show w1 = .int x from hv1)
      have hct := hS1.ct
      have hw2 := hasM_w hw
      exact va_mabs C.ex C.by hsz C.own (C.w (hw2 _ (List.mem_of_getElem? (i := 0) rfl)) rfl) (C.w (hw2 _ (List.mem_of_getElem? (i := 1) rfl)) rfl) (C.w (hw2 _ (List.mem_of_getElem? (i := 2) rfl)) rfl) (C.w (cw_at (a := 62) (by omega) (by omega)) rfl) (by omega) (by rw [hct]; omega) hc hs hd (k.here hR hK hlo hL ⟨rfl, hS1⟩)
theorem sd_k {av : AV} {w : Value} {pc2 : Nat} (hv : VR m ad av w) (h : sN pc2 l (av :: st) m = Nx pc1 l1 s1 m1) (row : Wn Γ M p l9 e R s mm args below meth c9 Q H locs cells slots pc2 ls (w :: sv) → Wn Γ M p l9 e R s mm args below meth c9 Q H locs cells slots pc ls sv) (X : SX Γ M s m ad H locs l ls st sv) (k : NX Γ M p l9 e R s mm args below meth c9 Q m ad cells slots pc1 l1 s1 m1) : Wn Γ M p l9 e R s mm args below meth c9 Q H locs cells slots pc ls sv := by
  obtain ⟨rfl, rfl, rfl, rfl⟩ := iv_n h
  obtain ⟨hR, hK, hlo, hL, hS⟩ := X
  exact row (k.here hR hK hlo hL ⟨hv, hS⟩)
set_option maxHeartbeats 4000000 in
theorem sd_next (hM : M < 281) (C : CX M p l9 s mm args meth c9) {i : Instr} {n a b c d : Nat} {L : List (Int32 × Nat)} (hE : okB M (pc, i, n, a, b, c, L) = true) (hoj : oj9 M (pc, i, n, a, b, c, L) = true) (h : stI sF sD sK sN i n a b c L d M pc l st m = Nx pc1 l1 s1 m1) (hfr : 16 ≤ R.frames) (hlc : 400 ≤ R.locals) (hc : cells + (mC m1 - mC m) ≤ R.cells) (hs : slots + (mS m1 - mS m) ≤ R.slots) (X : SX Γ M s m ad H locs l ls st sv) (k : NX Γ M p l9 e R s mm args below meth c9 Q m ad cells slots pc1 l1 s1 m1) : Wn Γ M p l9 e R s mm args below meth c9 Q H locs cells slots pc ls sv := by
  have hx := C.ex
  have hb := C.by
  simp only [okB, Bool.and_eq_true, decide_eq_true_eq] at hE
  obtain ⟨hd, hE⟩ := hE
  cases i with
  | iconst z =>
    simp only [beq_iff_eq] at hE; subst hE
    exact sd_k (av := vi (Int32.ofInt z)) (w := .int (Int32.ofInt z)) rfl h (fun q => lv_iconst hx hb hd rfl q) X k
  | bipush z =>
    simp only [beq_iff_eq] at hE; subst hE
    exact sd_k (av := vi ((Int8.ofInt z).toInt32)) (w := .int ((Int8.ofInt z).toInt32)) rfl h (fun q => lv_bipush hx hb hd rfl q) X k
  | sipush z =>
    simp only [beq_iff_eq] at hE; subst hE
    exact sd_k (av := vi ((Int16.ofInt z).toInt32)) (w := .int ((Int16.ofInt z).toInt32)) rfl h (fun q => lv_sipush hx hb hd rfl q) X k
  | lconst z =>
    simp only [beq_iff_eq] at hE; subst hE
    exact sd_k (av := vl (Int64.ofNat z.val)) (w := .long (Int64.ofNat z.val)) rfl h (fun q => lv_lconst hx hb hd rfl q) X k
  | aconst_null =>
    simp only [beq_iff_eq] at hE; subst hE
    exact sd_k (av := vn) (w := .null) rfl h (fun q => lv_null hx hb hd q) X k
  | ldc k9 =>
    simp only [Bool.and_eq_true, beq_iff_eq] at hE
    obtain ⟨rfl, hE⟩ := hE
    simp only [stI] at h
    by_cases hc0 : c = 0
    · rw [if_pos hc0] at h hE
      exact sd_k (av := vi (cI9 a)) (w := .int (cI9 a)) rfl h (fun q => lv_ldc hx hb C.own (C.w (has3i_w hE) rfl) hd q) X k
    · rw [if_neg hc0] at h hE
      obtain ⟨rfl, rfl, rfl, rfl⟩ := iv_n h
      obtain ⟨q, hq, h2⟩ := List.any_eq_true.mp hE
      obtain ⟨z, hz, rfl⟩ := List.mem_map.mp hq
      simp only [Bool.and_eq_true, beq_iff_eq] at h2
      obtain ⟨⟨e1, e2⟩, e3⟩ := h2
      have hall : ∀ q ∈ strL, q.2.2 < 9 := by decide +kernel
      have hz9 := hall z hz
      rw [e3] at hz9
      have hm : (mO M, k9, a) ∈ strL := by rw [← e1, ← e2, ← e3]; exact hz
      exact sd_ldcS C hd hm hz9 X k
  | ldc_w k9 =>
    simp only [Bool.and_eq_true, beq_iff_eq] at hE
    obtain ⟨rfl, hE⟩ := hE
    exact sd_k (av := vi (cI9 a)) (w := .int (cI9 a)) rfl h (fun q => lv_ldcw hx hb C.own (C.w (has3i_w hE) rfl) hd q) X k
  | ldc2_w k9 =>
    simp only [Bool.and_eq_true, beq_iff_eq] at hE
    obtain ⟨rfl, hE⟩ := hE
    exact sd_k (av := vl (cJ9 a)) (w := .long (cJ9 a)) rfl h (fun q => lv_ldc2 hx hb C.own (C.w (has3j_w hE) rfl) hd q) X k
  | iload k9 =>
    simp only [beq_iff_eq] at hE; subst hE
    exact sd_il h (fun x r q k2 => lv_iload hx hb hd q k2) X k
  | iload_n k9 =>
    simp only [beq_iff_eq] at hE; subst hE
    exact sd_il h (fun x r q k2 => lv_iload_n hx hb hd rfl q k2) X k
  | lload k9 =>
    simp only [beq_iff_eq] at hE; subst hE
    exact sd_ll h (fun x r q k2 => lv_lload hx hb hd q k2) X k
  | lload_n k9 =>
    simp only [beq_iff_eq] at hE; subst hE
    exact sd_ll h (fun x r q k2 => lv_lload_n hx hb hd rfl q k2) X k
  | aload k9 =>
    simp only [beq_iff_eq] at hE; subst hE
    exact sd_al h (fun x r q k2 => lv_aload hx hb hd q k2) (fun r q k2 => lv_aloadN hx hb hd q k2) X k
  | aload_n k9 =>
    simp only [beq_iff_eq] at hE; subst hE
    exact sd_al h (fun x r q k2 => lv_aload_n hx hb hd rfl q k2) (fun r q k2 => lv_aload_nN hx hb hd rfl q k2) X k
  | istore k9 =>
    simp only [beq_iff_eq] at hE; subst hE
    exact sd_is h (fun x r lv h1 h2 k2 => lv_istore hx hb hd h1 h2 rfl k2) X k
  | istore_n k9 =>
    simp only [beq_iff_eq] at hE; subst hE
    exact sd_is h (fun x r lv h1 h2 k2 => lv_istore_n hx hb hd rfl h1 h2 rfl k2) X k
  | lstore k9 =>
    simp only [beq_iff_eq] at hE; subst hE
    exact sd_ls2 h (fun x r lv h1 h2 k2 => lv_lstore hx hb hd h1 h2 rfl k2) X k
  | lstore_n k9 =>
    simp only [beq_iff_eq] at hE; subst hE
    exact sd_ls2 h (fun x r lv h1 h2 k2 => lv_lstore_n hx hb hd rfl h1 h2 rfl k2) X k
  | astore k9 =>
    simp only [beq_iff_eq] at hE; subst hE
    exact sd_as h (fun x r lv h1 h2 k2 => lv_astore hx hb hd h1 h2 rfl k2) (fun r lv h1 h2 k2 => lv_astoreN hx hb hd h1 h2 rfl k2) X k
  | astore_n k9 =>
    simp only [beq_iff_eq] at hE; subst hE
    exact sd_as h (fun x r lv h1 h2 k2 => lv_astore_n hx hb hd rfl h1 h2 rfl k2) (fun r lv h1 h2 k2 => lv_astore_nN hx hb hd rfl h1 h2 rfl k2) X k
  | iinc k9 z =>
    simp only [beq_iff_eq] at hE; subst hE
    simp only [stI] at h
    split at h
    · rename_i x hld
      obtain ⟨rfl, rfl, rfl, rfl⟩ := iv_n h
      obtain ⟨hR, hK, hlo, hL, hS⟩ := X
      obtain ⟨h0, lv, h1, h2⟩ := hL
      obtain ⟨rv, g1, g2⟩ := h2 k9 _ hld
      cases (show rv = .int x from g2)
      obtain ⟨ix, hix⟩ := List.getElem?_of_mem g1
      exact lv_iinc hx hb hd h1 hix rfl (by rw [← h0]; exact ldL_len hld) rfl (fun ls1 hl1 => k.here hR hK hlo (LR.st (ls := ls) h0 h2 (v := vi _) (rv := .int _) rfl hl1) hS)
    · exact (iv_F h).elim
  | iadd => simp only [beq_iff_eq] at hE; subst hE; exact sd_ib h (fun x y r q => lv_iadd hx hb hd q) X k
  | isub => simp only [beq_iff_eq] at hE; subst hE; exact sd_ib h (fun x y r q => lv_isub hx hb hd q) X k
  | imul => simp only [beq_iff_eq] at hE; subst hE; exact sd_ib h (fun x y r q => lv_imul hx hb hd q) X k
  | iand => simp only [beq_iff_eq] at hE; subst hE; exact sd_ib h (fun x y r q => lv_iand hx hb hd q) X k
  | ior => simp only [beq_iff_eq] at hE; subst hE; exact sd_ib h (fun x y r q => lv_ior hx hb hd q) X k
  | ixor => simp only [beq_iff_eq] at hE; subst hE; exact sd_ib h (fun x y r q => lv_ixor hx hb hd q) X k
  | ishl => simp only [beq_iff_eq] at hE; subst hE; exact sd_ib h (fun x y r q => lv_ishl hx hb hd q) X k
  | ishr => simp only [beq_iff_eq] at hE; subst hE; exact sd_ib h (fun x y r q => lv_ishr hx hb hd q) X k
  | iushr => simp only [beq_iff_eq] at hE; subst hE; exact sd_ib h (fun x y r q => lv_iushr hx hb hd rfl q) X k
  | idiv =>
    simp only [beq_iff_eq] at hE; subst hE
    simp only [stI] at h
    split at h
    · rename_i y x r
      split at h
      · exact (iv_F h).elim
      · rename_i hy
        obtain ⟨rfl, rfl, rfl, rfl⟩ := iv_n h
        obtain ⟨hR, hK, hlo, hL, hS⟩ := X
        obtain ⟨w1, t1, rfl, hv1, hS1⟩ := hS.inv
        obtain ⟨w2, t2, rfl, hv2, hS2⟩ := hS1.inv
        cases (show w1 = .int y from hv1)
        cases (show w2 = .int x from hv2)
        exact lv_idiv hx hb hd hy (k.here hR hK hlo hL ⟨rfl, hS2⟩)
    · exact (iv_F h).elim
  | irem =>
    simp only [beq_iff_eq] at hE; subst hE
    simp only [stI] at h
    split at h
    · rename_i y x r
      split at h
      · exact (iv_F h).elim
      · rename_i hy
        obtain ⟨rfl, rfl, rfl, rfl⟩ := iv_n h
        obtain ⟨hR, hK, hlo, hL, hS⟩ := X
        obtain ⟨w1, t1, rfl, hv1, hS1⟩ := hS.inv
        obtain ⟨w2, t2, rfl, hv2, hS2⟩ := hS1.inv
        cases (show w1 = .int y from hv1)
        cases (show w2 = .int x from hv2)
        exact lv_irem hx hb hd hy (k.here hR hK hlo hL ⟨rfl, hS2⟩)
    · exact (iv_F h).elim
  | ineg => simp only [beq_iff_eq] at hE; subst hE; exact sd_iu (f := fun x => vi (-x)) (g := fun x => .int (-x)) (fun _ _ _ => rfl) h (fun x r q => lv_ineg hx hb hd q) X k
  | i2l => simp only [beq_iff_eq] at hE; subst hE; exact sd_iu (f := fun x => vl x.toInt64) (g := fun x => .long x.toInt64) (fun _ _ _ => rfl) h (fun x r q => lv_i2l hx hb hd rfl q) X k
  | i2b => simp only [beq_iff_eq] at hE; subst hE; exact sd_iu (f := fun x => vi x.toInt8.toInt32) (g := fun x => .int x.toInt8.toInt32) (fun _ _ _ => rfl) h (fun x r q => lv_i2b hx hb hd rfl q) X k
  | i2c => simp only [beq_iff_eq] at hE; subst hE; exact sd_iu (f := fun x => vi (x.toUInt32 % 65536).toInt32) (g := fun x => .int (x.toUInt32 % 65536).toInt32) (fun _ _ _ => rfl) h (fun x r q => lv_i2c hx hb hd rfl q) X k
  | l2i => simp only [beq_iff_eq] at hE; subst hE; exact sd_lu (f := fun x => vi x.toInt32) (g := fun x => .int x.toInt32) (fun _ _ _ => rfl) h (fun x r q => lv_l2i hx hb hd rfl q) X k
  | lneg => simp only [beq_iff_eq] at hE; subst hE; exact sd_lu (f := fun x => vl (-x)) (g := fun x => .long (-x)) (fun _ _ _ => rfl) h (fun x r q => lv_lneg hx hb hd q) X k
  | ladd => simp only [beq_iff_eq] at hE; subst hE; exact sd_lb h (fun x y r q => lv_ladd hx hb hd q) X k
  | lsub => simp only [beq_iff_eq] at hE; subst hE; exact sd_lb h (fun x y r q => lv_lsub hx hb hd q) X k
  | lmul => simp only [beq_iff_eq] at hE; subst hE; exact sd_lb h (fun x y r q => lv_lmul hx hb hd q) X k
  | land => simp only [beq_iff_eq] at hE; subst hE; exact sd_lb h (fun x y r q => lv_land hx hb hd q) X k
  | lor => simp only [beq_iff_eq] at hE; subst hE; exact sd_lb h (fun x y r q => lv_lor hx hb hd q) X k
  | lxor => simp only [beq_iff_eq] at hE; subst hE; exact sd_lb h (fun x y r q => lv_lxor hx hb hd q) X k
  | lshl => simp only [beq_iff_eq] at hE; subst hE; exact sd_ls h (fun x y r q => lv_lshl hx hb hd rfl q) X k
  | lushr => simp only [beq_iff_eq] at hE; subst hE; exact sd_ls h (fun x y r q => lv_lushr hx hb hd rfl q) X k
  | lcmp =>
    simp only [beq_iff_eq] at hE; subst hE
    simp only [stI] at h
    split at h
    · rename_i y x r
      obtain ⟨rfl, rfl, rfl, rfl⟩ := iv_n h
      obtain ⟨hR, hK, hlo, hL, hS⟩ := X
      obtain ⟨w1, t1, rfl, hv1, hS1⟩ := hS.inv
      obtain ⟨w2, t2, rfl, hv2, hS2⟩ := hS1.inv
      cases (show w1 = .long y from hv1)
      cases (show w2 = .long x from hv2)
      exact W.lcmp hx hb hd (k.here hR hK hlo hL ⟨rfl, hS2⟩)
    · exact (iv_F h).elim
  | dup =>
    simp only [beq_iff_eq] at hE; subst hE
    simp only [stI] at h
    split at h
    · split at h
      · rename_i v r hcat
        obtain ⟨rfl, rfl, rfl, rfl⟩ := iv_n h
        obtain ⟨hR, hK, hlo, hL, hS⟩ := X
        obtain ⟨w1, t1, rfl, hv1, hS1⟩ := hS.inv
        exact lv_dup hx hb hd (by rw [hv1.cat]; exact hcat) (k.here hR hK hlo hL ⟨hv1, hv1, hS1⟩)
      · exact (iv_F h).elim
    · exact (iv_F h).elim
  | dup2 =>
    simp only [beq_iff_eq] at hE; subst hE
    simp only [stI] at h
    split at h
    · rename_i x r
      obtain ⟨rfl, rfl, rfl, rfl⟩ := iv_n h
      obtain ⟨hR, hK, hlo, hL, hS⟩ := X
      obtain ⟨w1, t1, rfl, hv1, hS1⟩ := hS.inv
      exact lv_dup2_2 hx hb hd (by rw [hv1.cat]; rfl) (k.here hR hK hlo hL ⟨hv1, hv1, hS1⟩)
    · split at h
      · rename_i v w r _ hcat
        obtain ⟨rfl, rfl, rfl, rfl⟩ := iv_n h
        obtain ⟨hR, hK, hlo, hL, hS⟩ := X
        obtain ⟨w1, t1, rfl, hv1, hS1⟩ := hS.inv
        obtain ⟨w2, t2, rfl, hv2, hS2⟩ := hS1.inv
        exact lv_dup2_11 hx hb hd (by rw [hv1.cat]; exact hcat.1) (by rw [hv2.cat]; exact hcat.2) (k.here hR hK hlo hL ⟨hv1, hv2, hv1, hv2, hS2⟩)
      · exact (iv_F h).elim
    · exact (iv_F h).elim
  | goto o =>
    simp only [Bool.and_eq_true, beq_iff_eq, decide_eq_true_eq] at hE
    obtain ⟨rfl, ht⟩ := hE
    obtain ⟨rfl, rfl, rfl, rfl⟩ := iv_n h
    obtain ⟨hR, hK, hlo, hL, hS⟩ := X
    exact lv_goto hx hb hd ht (k.here hR hK hlo hL hS)
  | if_icmp cd o =>
    simp only [Bool.and_eq_true, beq_iff_eq, decide_eq_true_eq] at hE
    obtain ⟨rfl, ht⟩ := hE
    cases cd with
    | eq => exact sd_ic h (fun x y r k1 k2 => lv_icmp_eq hx hb hd ht (fun q => k1 (by simpa using q)) (fun q => k2 (by simpa using q))) X k
    | ne => exact sd_ic h (fun x y r k1 k2 => lv_icmp_ne hx hb hd ht (fun q => k1 (by simpa using q)) (fun q => k2 (by simpa using q))) X k
    | lt => exact sd_ic h (fun x y r k1 k2 => lv_icmp_lt hx hb hd ht (fun q => k1 (by simpa using q)) (fun q => k2 (by simpa using q))) X k
    | ge => exact sd_ic h (fun x y r k1 k2 => lv_icmp_ge hx hb hd ht (fun q => k1 (by simpa using q)) (fun q => k2 (by simpa using q))) X k
    | gt => exact sd_ic h (fun x y r k1 k2 => lv_icmp_gt hx hb hd ht (fun q => k1 (by simpa using q)) (fun q => k2 (by simpa using q))) X k
    | le => exact sd_ic h (fun x y r k1 k2 => lv_icmp_le hx hb hd ht (fun q => k1 (by simpa using q)) (fun q => k2 (by simpa using q))) X k
  | ifCond cd o =>
    simp only [Bool.and_eq_true, beq_iff_eq, decide_eq_true_eq] at hE
    obtain ⟨rfl, ht⟩ := hE
    cases cd with
    | eq => exact sd_if h (fun x r k1 k2 => lv_if_eq hx hb hd ht (fun q => k1 (by simpa using q)) (fun q => k2 (by simpa using q))) X k
    | ne => exact sd_if h (fun x r k1 k2 => lv_if_ne hx hb hd ht (fun q => k1 (by simpa using q)) (fun q => k2 (by simpa using q))) X k
    | lt => exact sd_if h (fun x r k1 k2 => lv_if_lt hx hb hd ht (fun q => k1 (by simpa using q)) (fun q => k2 (by simpa using q))) X k
    | ge => exact sd_if h (fun x r k1 k2 => lv_if_ge hx hb hd ht (fun q => k1 (by simpa using q)) (fun q => k2 (by simpa using q))) X k
    | gt => exact sd_if h (fun x r k1 k2 => lv_if_gt hx hb hd ht (fun q => k1 (by simpa using q)) (fun q => k2 (by simpa using q))) X k
    | le => exact sd_if h (fun x r k1 k2 => lv_if_le hx hb hd ht (fun q => k1 (by simpa using q)) (fun q => k2 (by simpa using q))) X k
  | ifnonnull o =>
    simp only [Bool.and_eq_true, beq_iff_eq, decide_eq_true_eq] at hE
    obtain ⟨rfl, ht⟩ := hE
    simp only [stI] at h
    split at h
    · obtain ⟨rfl, rfl, rfl, rfl⟩ := iv_n h
      obtain ⟨hR, hK, hlo, hL, hS⟩ := X
      obtain ⟨w1, t1, rfl, hv1, hS1⟩ := hS.inv
      obtain ⟨rfl, -⟩ := VR.rf (a := _) (j := _) hv1
      exact lv_ifnonnull hx hb hd ht (k.here hR hK hlo hL hS1)
    · obtain ⟨rfl, rfl, rfl, rfl⟩ := iv_n h
      obtain ⟨hR, hK, hlo, hL, hS⟩ := X
      obtain ⟨w1, t1, rfl, hv1, hS1⟩ := hS.inv
      cases (show w1 = .null from hv1)
      exact lv_ifnonnullN hx hb hd (k.here hR hK hlo hL hS1)
    · exact (iv_F h).elim
  | ifnull o =>
    simp only [Bool.and_eq_true, beq_iff_eq, decide_eq_true_eq] at hE
    obtain ⟨rfl, ht⟩ := hE
    simp only [stI] at h
    split at h
    · obtain ⟨rfl, rfl, rfl, rfl⟩ := iv_n h
      obtain ⟨hR, hK, hlo, hL, hS⟩ := X
      obtain ⟨w1, t1, rfl, hv1, hS1⟩ := hS.inv
      obtain ⟨rfl, -⟩ := VR.rf (a := _) (j := _) hv1
      exact lv_ifnull hx hb hd (k.here hR hK hlo hL hS1)
    · obtain ⟨rfl, rfl, rfl, rfl⟩ := iv_n h
      obtain ⟨hR, hK, hlo, hL, hS⟩ := X
      obtain ⟨w1, t1, rfl, hv1, hS1⟩ := hS.inv
      cases (show w1 = .null from hv1)
      exact lv_ifnullN hx hb hd ht (k.here hR hK hlo hL hS1)
    · exact (iv_F h).elim
  | tableswitch df lo hi offs =>
    simp only [Bool.and_eq_true, decide_eq_true_eq] at hE
    obtain ⟨⟨h1, h2⟩, h3⟩ := hE
    simp only [stI] at h
    split at h
    · rename_i x r
      obtain ⟨rfl, rfl, rfl, rfl⟩ := iv_swK h
      obtain ⟨hR, hK, hlo, hL, hS⟩ := X
      obtain ⟨w1, t1, rfl, hv1, hS1⟩ := hS.inv
      cases (show w1 = .int x from hv1)
      have kk := k.here hR hK hlo hL hS1
      obtain ⟨g1, g2⟩ := sw9_at (x := x) (d := a) h3
      rw [show (offs.toList.length : Int) = (offs.size : Int) by simp] at g1 g2
      by_cases hq : x.toInt < lo ∨ hi < x.toInt
      · have e1 := g1 (by omega)
        rw [e1] at kk
        exact lv_tableOut hx hb hd hq h1 kk
      · obtain ⟨o, e1, e2⟩ := g2 (by omega) (by omega)
        exact lv_tableIn hx hb hd (by omega) (by omega) (by simpa using e1) e2 kk
    · exact (iv_F h).elim
  | getfield k9 =>
    simp only [Bool.and_eq_true, beq_iff_eq] at hE
    obtain ⟨rfl, hE⟩ := hE
    by_cases h80 : a = 80
    · subst h80
      simp only [if_true, Bool.and_eq_true, Bool.or_eq_true, beq_iff_eq] at hE
      refine sd_getS C hd hE.1 ?_ h X k
      rcases hE.2 with q | q
      · exact Or.inl ⟨q.1.1, q.1.2⟩
      · exact Or.inr ⟨q.1.1, q.1.2⟩
    · rw [if_neg h80] at hE
      simp only [Bool.and_eq_true, Bool.or_eq_true, beq_iff_eq, decide_eq_true_eq] at hE
      exact sd_getf C hd hE.1.1.1 hE.1.1.2 hE.1.2 hE.2 h X k
  | putfield k9 =>
    simp only [Bool.and_eq_true, Bool.or_eq_true, beq_iff_eq, decide_eq_true_eq, Bool.not_eq_true'] at hE
    obtain ⟨⟨⟨⟨rfl, ha⟩, hb9⟩, hc9⟩, hw⟩ := hE
    have hl := fcd_lt a ha b hb9
    refine sd_putf C hd ha hb9 hc9 (by omega) ?_ h X k
    rcases hw with ⟨q1, q2⟩ | ⟨q1, q2⟩
    · exact Or.inl ⟨q1, q2⟩
    · refine Or.inr ⟨q1, ?_⟩
      rcases q2 with q2 | ⟨q2, q3⟩
      · exact Or.inl q2
      · exact Or.inr ⟨C.2.2.2.2.2.2.2.1.trans q2, q3.trans (mO_cls M hM)⟩
  | getstatic k9 =>
    simp only [Bool.and_eq_true, Bool.or_eq_true, beq_iff_eq] at hE
    obtain ⟨rfl, hE⟩ := hE
    simp only [stI] at h
    have hK := X.2.1
    have hR := X.1
    rcases hE with (⟨⟨rfl, ho⟩, hk⟩ | ⟨rfl, hk⟩) | ⟨⟨⟨rfl, rfl⟩, ho⟩, rfl⟩
    · have hwy : ∃ q, q < 4 ∧ k9 = nth9 [47, 50, 57, 60] q 0 ∧ a = 90 + q := by
        rcases hk with ((⟨rfl, rfl⟩ | ⟨rfl, rfl⟩) | ⟨rfl, rfl⟩) | ⟨rfl, rfl⟩
        · exact ⟨0, by omega, rfl, rfl⟩
        · exact ⟨1, by omega, rfl, rfl⟩
        · exact ⟨2, by omega, rfl, rfl⟩
        · exact ⟨3, by omega, rfl, rfl⟩
      obtain ⟨q, hq, rfl, rfl⟩ := hwy
      obtain ⟨rfl, rfl, rfl, rfl⟩ := iv_n h
      refine sd_gets C (a := 0) hd (own := "WholeFields$Walker") (by rw [ho]; rfl) (lk_wy q hq) (hK.2.2.2.2.2.1 q hq).1 X ?_ k
      exact ⟨by rw [hR.2.2.2.2.1 (90 + q) 0 (by omega)], by rw [hR.2.2.2.2.2.1 (90 + q) (by omega), eK_one (Or.inr ⟨by omega, by omega⟩)]; omega⟩
    · obtain ⟨rfl, rfl, rfl, rfl⟩ := iv_n h
      have fin : ∀ (own C9 n d : String), onm (mO M) = own → Cond.fieldLink own k9 C9 n d ∈ lw_tbl → va_Zq C9 n d (gA Γ) s H → Wn Γ M p l9 e R s mm args below meth c9 Q H locs cells slots pc ls sv := by
        intro own C9 n d h1 h2 h3
        rcases h3 with h3 | ⟨t, h3⟩
        · exact sd_gets C (a := 0) (av := vu) hd h1 h2 h3 X (Or.inl rfl) k
        · exact sd_gets C (a := 0) (av := vu) hd h1 h2 h3 X (Or.inr ⟨t, rfl⟩) k
      rcases hk with ⟨ho, rfl | rfl⟩ | ⟨ho, rfl⟩
      · exact fin "java/lang/Throwable" _ _ _ (by rw [ho]; rfl) lk_us hK.2.2.2.2.2.2.1.1
      · exact fin "java/lang/Throwable" _ _ _ (by rw [ho]; rfl) lk_ss hK.2.2.2.2.2.2.2.1.1
      · exact fin "java/lang/String" _ _ _ (by rw [ho]; rfl) lk_pf hK.2.2.2.2.2.2.2.2.1
    · obtain ⟨rfl, rfl, rfl, rfl⟩ := iv_n h
      exact sd_gets C (a := 0) (av := vi (Int32.ofNat 1)) hd (own := "java/lang/String") (by rw [ho]; rfl) lk_cs hK.2.2.2.2.2.2.2.2.2.1 X rfl k
  | iaload => simp only [beq_iff_eq] at hE; subst hE; exact sd_iald C hd h X k
  | baload => simp only [beq_iff_eq] at hE; subst hE; exact sd_bald C hd h X k
  | laload => simp only [beq_iff_eq] at hE; subst hE; exact sd_lald C hd h X k
  | iastore => simp only [beq_iff_eq] at hE; subst hE; exact sd_iast C hd h X k
  | bastore => simp only [beq_iff_eq] at hE; subst hE; exact sd_bast C hd h X k
  | lastore => simp only [beq_iff_eq] at hE; subst hE; exact sd_last C hd h X k
  | arraylength =>
    simp only [beq_iff_eq] at hE; subst hE
    simp only [stI] at h
    split at h
    · rename_i q r
      split at h
      · rename_i ht
        obtain ⟨rfl, rfl, rfl, rfl⟩ := iv_n h
        exact sd_alen C hd (a := q.1) (j := q.2) ht.1 ht.2 X k
      · exact (iv_F h).elim
    · exact (iv_F h).elim
  | new k9 =>
    simp only [Bool.and_eq_true, Bool.or_eq_true, beq_iff_eq, decide_eq_true_eq] at hE
    obtain ⟨rfl, hE⟩ := hE
    simp only [stI] at h
    split at h
    · split at h <;> cases h
    · rename_i hc77
      rcases hE with ⟨⟨⟨-, ha⟩, rfl⟩, hw⟩ | ⟨⟨q, -⟩, -⟩
      · obtain ⟨rfl, rfl, rfl, rfl⟩ := iv_n h
        rw [newM_C.1] at hc
        rw [newM_C.2] at hs
        exact sd_new C hd ha hw hc hs X k
      · exact absurd q hc77
  | newarray t =>
    simp only [Bool.and_eq_true, beq_iff_eq] at hE
    obtain ⟨rfl, hE⟩ := hE
    have h3 : c < 4 := by
      obtain ⟨x, r, -, ⟨-, hty, -, h80⟩, -⟩ := iv_nwa h
      cases t <;> simp only at hE <;> first | omega | (subst hE; exfalso; exact aTy_8 a hty)
    refine sd_nwa C hd ?_ h3 h hc hs X k
    cases t <;> simp only at hE <;> first | (subst hE; rfl) | omega
  | invokevirtual k9 =>
    exfalso
    simp only [Bool.and_eq_true, Bool.or_eq_true, beq_iff_eq, decide_eq_true_eq] at hE
    rcases iv_inv h with ⟨rfl, -⟩ | ⟨rfl, -⟩ | ⟨q1, q2, -⟩ <;> rcases hE.2 with q | q <;> omega
  | invokestatic k9 =>
    simp only [Bool.and_eq_true, Bool.or_eq_true, beq_iff_eq, decide_eq_true_eq] at hE
    obtain ⟨rfl, hE⟩ := hE
    rcases iv_inv h with ⟨rfl, -⟩ | ⟨rfl, h2⟩ | ⟨q1, q2, h2⟩
    · exfalso; omega
    · have ho : mO M = 4 ∧ k9 = 168 := by omega
      obtain ⟨ho, rfl⟩ := ho
      exact sd_cp C ho hd hfr hlc h2 X k
    · exact sd_mt C hd (by
        rcases hE with ((((q | q) | q) | q) | q) | q
        · omega
        · omega
        · exact Or.inl ⟨q.1.1, q.2⟩
        · exact Or.inr (Or.inl ⟨q.1.1, q.2⟩)
        · exact Or.inr (Or.inr ⟨q.1.1, q.2⟩)
        · omega) hfr hlc (by omega) (by omega) h2 X k
  | invokespecial k9 =>
    simp only [Bool.and_eq_true, Bool.or_eq_true, beq_iff_eq, decide_eq_true_eq] at hE
    obtain ⟨rfl, hE⟩ := hE
    rcases iv_inv h with ⟨rfl, q, r, rfl, hr, rfl, rfl, rfl, rfl⟩ | ⟨rfl, -⟩ | ⟨q1, q2, -⟩
    · have hw : (mO M, k9) ∈ ojL := by simpa [oj9] using hoj
      exact sd_obj C hd hw hr hfr hlc X k
    · exfalso; omega
    · exfalso; omega
  | athrow =>
    exfalso
    simp only [stI] at h
    split at h
    · split at h
      · split at h <;> cases h
      · cases h
    · cases h
  | ireturn =>
    exfalso
    simp only [stI, irt9] at h
    split at h
    · split at h
      · cases h
      · split at h <;> cases h
      · split at h <;> cases h
      · split at h <;> cases h
    · cases h
  | lreturn => exfalso; simp only [stI] at h; split at h <;> cases h
  | areturn => exfalso; simp only [stI] at h; split at h <;> cases h
  | return_ => exfalso; simp only [stI] at h; split at h <;> cases h
  | _ => exfalso; cases h
end NEXT
end
section
/-! Calls: what goes in, what comes back -/
theorem KN.back {Γ : Gm} {s t : State} {H H1 : Heap} (h : KN Γ s H) (hv : s.vm.Alike t.vm) (h1 : KN Γ t H1) : KN Γ s H1 := by
  obtain ⟨a1, a2, a3, a4, a5, a6, a7, a8, a9, a10, a11, a12, a13, a14, a15⟩ := h
  obtain ⟨b1, b2, b3, b4, b5, b6, b7, b8, b9, b10, b11, b12, b13, b14, b15⟩ := h1
  have hv2 := hv.symm
  exact ⟨a1, a2, a3, a4, b5.moved hv2, fun k hk => ⟨(b6 k hk).1.moved hv2, (b6 k hk).2.moved hv2⟩, b7.moved hv2, b8.moved hv2, b9.moved hv2, b10.moved hv2, b11.moved hv2, a12, b13, a14, a15⟩
theorem popN_spec : ∀ {n : Nat} {acc st args rest : List AV}, popN n acc st = some (args, rest) → ∃ xs, st = xs ++ rest ∧ args = xs.reverse ++ acc ∧ xs.length = n
  | 0, acc, st, args, rest, h => by cases h; exact ⟨[], rfl, rfl, rfl⟩
  | n + 1, acc, [], args, rest, h => by cases h
  | n + 1, acc, v :: r, args, rest, h => by
    obtain ⟨xs, h1, h2, h3⟩ := popN_spec (n := n) h
    exact ⟨v :: xs, by rw [h1]; rfl, by rw [h2]; simp, by simp [h3]⟩
theorem SR.split {m : Mem} {ad : Nat → Nat → Nat} : ∀ {xs rest : List AV} {sv : List Value}, SR m ad (xs ++ rest) sv → ∃ ws wr, sv = ws ++ wr ∧ SR m ad xs ws ∧ SR m ad rest wr
  | [], rest, sv, h => ⟨[], sv, rfl, trivial, h⟩
  | x :: xs, rest, sv, h => by
    obtain ⟨w, t, rfl, h1, h2⟩ := SR.inv h
    obtain ⟨ws, wr, rfl, h3, h4⟩ := SR.split h2
    exact ⟨w :: ws, wr, rfl, ⟨h1, h3⟩, h4⟩
theorem SR.rev {m : Mem} {ad : Nat → Nat → Nat} : ∀ {xs : List AV} {ws : List Value}, SR m ad xs ws → SR m ad xs.reverse ws.reverse
  | [], [], _ => trivial
  | [], _ :: _, h => h.elim
  | _ :: _, [], h => h.elim
  | x :: xs, w :: ws, h => by
    simp only [List.reverse_cons]
    exact SR.app (SR.rev h.2) ⟨h.1, trivial⟩
theorem lg_len : ∀ (vs : List Value), (lg_sl vs).length = (vs.map fun v => v.category).sum
  | [] => rfl
  | v :: r => by
    have h := lg_len r
    simp only [lg_sl, List.flatMap_cons, List.length_append, List.map_cons, List.sum_cons]
    rw [show (List.flatMap (fun v => if v.category = 2 then [Slot.val v, Slot.second] else [Slot.val v]) r).length = (lg_sl r).length from rfl, h]
    rcases lv_cat v with e | e <;> simp [e]
def VRo (m : Mem) (ad : Nat → Nat → Nat) : Option AV → Option Value → Prop
  | none, none => True
  | some v, some w => VR m ad v w
  | _, _ => False
def PcA (Γ : Gm) (m : Mem) (ad : Nat → Nat → Nat) (ws : List Value) : Array Value → State → Prop := fun v U => v = ws.toArray ∧ KN Γ U U.heap ∧ Rep Γ m ad U.heap
def QcR (Γ : Gm) (m : Mem) (ad : Nat → Nat → Nat) (vo : Option AV) (m2 : Mem) : Array Value → State → Outcome → State → Prop := fun _ _ o t => ∃ (ad1 : Nat → Nat → Nat) (rv : Option Value), o = .returned rv ∧ VRo m2 ad1 vo rv ∧ Ex m ad m2 ad1 ∧ Rep Γ m2 ad1 t.heap ∧ KN Γ t t.heap
def exN (E : Nat) : String := if E = 0 then "java/util/NoSuchElementException" else "WholeFieldsModel$Stop"
def XCR (Γ : Gm) (m : Mem) (ad : Nat → Nat → Nat) (q : Nat × AV) (m2 : Mem) : String → Addr → State → State → Prop := fun En a _ t => En = exN q.1 ∧ ∃ ad1 : Nat → Nat → Nat, Ex m ad m2 ad1 ∧ Rep Γ m2 ad1 t.heap ∧ KN Γ t t.heap ∧ VR m2 ad1 q.2 (.ref a)
def RAt (m2 : Mem) (ad1 : Nat → Nat → Nat) (M pc : Nat) (vo : Option AV) (sv : List Value) : Prop :=
  (∃ x ty, vo = some (vi x) ∧ sv = [.int x] ∧ decode (mB M) pc = .ok (.ireturn, 1) ∧ mRt M = some ty ∧ narrow ty (.int x) = .int x) ∨
  (∃ x, vo = some (vl x) ∧ sv = [.long x] ∧ decode (mB M) pc = .ok (.lreturn, 1) ∧ mRt M = some .long) ∨
  (∃ x w rt, vo = some (.inr (.inr x)) ∧ sv = [w] ∧ VR m2 ad1 (.inr (.inr x)) w ∧ decode (mB M) pc = .ok (.areturn, 1) ∧ mRt M = some rt ∧ ((∃ n, rt = .object n) ∨ ∃ t, rt = .array t)) ∨
  (vo = none ∧ sv = [] ∧ decode (mB M) pc = .ok (.return_, 1) ∧ mRt M = none)
def EndK (Γ : Gm) (M : Nat) (p : Program) (l9 : Launch) (e : Env) (R : Room) (s : State) (mm : MethodId) (args : Array Value) (below : List Frame) (meth : Method) (c9 : Code) (Q : State → Prop) (m : Mem) (ad : Nat → Nat → Nat) (cells slots : Nat) (r : Res9) : Prop := match r.1 with
  | .inl vo => ∀ (ad1 : Nat → Nat → Nat) (H1 : Heap) (locs1 : List Loc) (pc1 : Nat) (ls1 : Array Slot) (sv1 : List Value), Ex m ad r.2 ad1 → Rep Γ r.2 ad1 H1 → KN Γ s H1 → (∀ q ∈ locs1, gB Γ ≤ q.base) → RAt r.2 ad1 M pc1 vo sv1 → W p l9 e R s mm args below meth c9 H1 locs1 (cells + (mC r.2 - mC m)) (slots + (mS r.2 - mS m)) Q (F0 mm pc1 ls1 sv1)
  | .inr q => ∃ (Qc : Array Value → State → Outcome → State → Prop) (XC : String → Addr → State → State → Prop), Q = vx_MQ below Qc XC args s (cells + (mC r.2 - mC m)) (slots + (mS r.2 - mS m)) (gA Γ) ∧ ∀ En a st t, XCR Γ m ad q r.2 En a st t → XC En a st t
/-- a method's body, from its entry, with this outcome -/
def Bod (Γ : Gm) (l9 : Launch) (a : Nat) (av : List AV) (m : Mem) (r : Res9) (d : Nat) : Prop :=
  ∀ (p : Program) (e : Env) (R : Room) (s : State) (mm : MethodId) (args : Array Value) (below : List Frame) (meth : Method) (c9 : Code) (Q : State → Prop) (ad : Nat → Nat → Nat) (cells slots : Nat) (H : Heap) (locs : List Loc) (ls : Array Slot) (sv : List Value), CX a p l9 s mm args meth c9 → SX Γ a s m ad H locs (entL av (mxT a)) ls [] sv → d + 16 ≤ R.frames → 64 * d + 400 ≤ R.locals → cells + (mC r.2 - mC m) ≤ R.cells → slots + (mS r.2 - mS m) ≤ R.slots → EndK Γ a p l9 e R s mm args below meth c9 Q m ad cells slots r → W p l9 e R s mm args below meth c9 H locs cells slots Q (F0 mm 0 ls sv)
abbrev wsA (a : Nat) : List Cond := cdW a :: lw_tbl.filter goodWord
theorem cdW_c {a : Nat} (h : exT a = []) : cdW a = .code (mY a) (mB a) (mxT a) (mRt a) := by unfold cdW; rw [h]
theorem exT_of (a : Nat) : exT a = [] ∨ a = M_WFLaw_stake ∨ a = M_WFModel_book := by
  unfold exT
  split
  · rename_i h; exact Or.inr (Or.inl h)
  · split
    · rename_i h; exact Or.inr (Or.inr h)
    · exact Or.inl rfl
theorem cdW_w {a : Nat} {q : Nat × Nat × Nat × Nat} (h : exT a = [q]) : cdW a = .codeWith (mY a) (mB a) (mxT a) (mRt a) [q] := by unfold cdW; rw [h]
theorem plainAll : (List.range 281).all (fun M => decide ((mY M).cls ≠ "java/lang/invoke/MethodHandle") && decide ((mY M).cls ≠ "java/lang/invoke/VarHandle") && decide (mxT M ≤ 45) && decide ((parseMethodDescriptor (mY M).desc).map (fun d => d.parameters.length) = some (npar M))) = true := by decide +kernel
theorem plainAt {M : Nat} (h : M < 281) : (mY M).cls ≠ "java/lang/invoke/MethodHandle" ∧ (mY M).cls ≠ "java/lang/invoke/VarHandle" ∧ mxT M ≤ 45 ∧ (parseMethodDescriptor (mY M).desc).map (fun d => d.parameters.length) = some (npar M) := by
  have := List.all_eq_true.mp plainAll M (List.mem_range.mpr h)
  simp only [Bool.and_eq_true, decide_eq_true_eq] at this
  exact ⟨this.1.1.1, this.1.1.2, this.1.2, this.2⟩
theorem good_cd (a : Nat) : goodWord (cdW a) = true := by
  unfold cdW
  split <;> rfl
section CALLS
variable {Γ : Gm} {l9 : Launch}
theorem CX_of {a : Nat} (ha : a < 281) (hl : l9.stackTraces = false) {rm : Room} {p : Program} {e : Env} {s s₁ : State} {m : MethodId} {args : Array Value} {below : List Frame} {meth : Method} {c : Code} (B : BodyLoose p l9 (mY a) (headSpec (wsA a) rm) (mB a) (mxT a) (mRt a) e s m args below meth c s₁) (hml : c.maxLocals = mxT a) : CX a p l9 s m args meth c := by
  have hts := atoms_spec (ws := wsA a) B.pre
  have hown : s.vm.findClass (mY a).cls = some m.cls := findClass_of_methodNamed B.named
  rw [mO_cls a ha] at hown
  refine ⟨B.exec, B.bytes, hml, B.returns, hown, fun w hw hg => hts w (List.mem_cons_of_mem _ (List.mem_filter.mpr ⟨hw, hg⟩)), B.notSynchronized, (name_of_methodNamed B.named B.method).1, ?_, hl⟩
  have h0 := hts _ List.mem_cons_self
  have key : ∀ q, exT a = [q] → c.exceptionTable.toList = tableOf (exT a) := by
    intro q hq
    rw [cdW_w hq] at h0
    rw [hq]
    exact vx_table (x := mY a) B h0
  rcases exT_of a with h | rfl | rfl
  · rw [cdW_c h] at h0
    obtain ⟨meth9, c9, h1, h2, -, -, -, -, h7, -⟩ := Cond.code_spec B.named h0
    cases Option.some.inj (h1.symm.trans B.method)
    cases Option.some.inj (h2.symm.trans (Stand.of_body B).code)
    rw [h, Array.isEmpty_iff.mp h7]; rfl
  · exact key _ rfl
  · exact key _ rfl
/-- the entry -/
theorem SX_entry {a : Nat} {m : Mem} {ad : Nat → Nat → Nat} {s : State} {av : List AV} {ws : List Value} (hS : SR m ad av ws) (hc : cats av ≤ mxT a) (hR : Rep Γ m ad s.heap) (hK : KN Γ s s.heap) : ∃ ls, (∀ mm : MethodId, entryFrame mm ws.toArray (mxT a) = F0 mm 0 ls []) ∧ SX Γ a s m ad s.heap [] (entL av (mxT a)) ls [] [] := by
  have hl := lv_entry ws (n := mxT a) (by rw [lg_len, hS.ct]; exact hc)
  exact ⟨_, fun mm => lg_entry_eq mm ws (mxT a), hR, hK, fun q hq => (by cases hq), ⟨len_entL _ _, _, hl, fun k v hk => by
    obtain ⟨rv, h1, h2⟩ := entL_at _ _ _ 0 hS k v hk
    rw [Nat.zero_add] at h1
    exact ⟨rv, h1, h2⟩⟩, trivial⟩
theorem W_ret {a : Nat} {m m2 : Mem} {ad : Nat → Nat → Nat} {vo : Option AV} {p : Program} {e : Env} {R : Room} {s : State} {mm : MethodId} {args : Array Value} {below : List Frame} {meth : Method} {c9 : Code} {cells slots : Nat} (C : CX a p l9 s mm args meth c9) : EndK Γ a p l9 e R s mm args below meth c9 (MQ below (QcR Γ m ad vo m2) args s (cells + (mC m2 - mC m)) (slots + (mS m2 - mS m)) (gA Γ)) m ad cells slots (.inl vo, m2) := by
  intro ad1 H1 locs1 pc1 ls1 sv1 hx hR hK hlo hA
  have hr := C.2.2.2.1
  have hlk : meth.locks = false := C.2.2.2.2.2.2.1
  have fin : ∀ (rv : Option Value), VRo m2 ad1 vo rv → ∀ t : State, t.heap = H1 → s.WarmedH t.vm → QcR Γ m ad vo m2 args s (.returned rv) t := fun rv hv t ht hW => ⟨ad1, rv, rfl, hv, hx, by rw [ht]; exact hR, by rw [ht]; exact hK.moved hW⟩
  rcases hA with ⟨x, ty, rfl, rfl, hd, hty, hn⟩ | ⟨x, rfl, rfl, hd, hty⟩ | ⟨x, w, rt, rfl, rfl, hv, hd, hty, hrt⟩ | ⟨rfl, rfl, hd, hty⟩
  · exact W.zret C.ex C.by (hr.trans hty) hn (fin (some (.int x)) rfl) hlo hd hlk
  · exact W.lret C.ex C.by (hr.trans hty) (fin (some (.long x)) rfl) hlo hd hlk
  · exact W.aret C.ex C.by (hr.trans hty) hrt hv.rq (fin (some w) hv) hlo hd hlk
  · exact W.vret C.ex C.by (hr.trans hty) (fin none trivial) hlo hd hlk
/-- a method that returns, as a contract -/
theorem xMet {a d : Nat} {av : List AV} {ws : List Value} {m m2 : Mem} {ad : Nat → Nat → Nat} {vo : Option AV} (ha : a < 281) (hpl : plainName (mY a).cls = true) (hl : l9.stackTraces = false) (hb : Bod Γ l9 a av m (.inl vo, m2) d) (hS : SR m ad av ws) (hc : cats av ≤ mxT a) : Met l9 (mY a) (wsA a) (rmD d (mC m2 - mC m) (mS m2 - mS m)) (PcA Γ m ad ws) (QcR Γ m ad vo m2) (mC m2 - mC m) (mS m2 - mS m) (gA Γ) := by
  have body : ∀ (p : Program) (e : Env) (s : State) (mm : MethodId) (args : Array Value) (below : List Frame) (meth : Method) (c : Code) (s₁ : State), BodyLoose p l9 (mY a) (headSpec (wsA a) (rmD d (mC m2 - mC m) (mS m2 - mS m))) (mB a) (mxT a) (mRt a) e s mm args below meth c s₁ → c.maxLocals = mxT a → PcA Γ m ad ws args s →
      W p l9 e (headSpec (wsA a) (rmD d (mC m2 - mC m) (mS m2 - mS m))).room s mm args below meth c s.heap [] 0 0 (MQ below (QcR Γ m ad vo m2) args s (mC m2 - mC m) (mS m2 - mS m) (gA Γ)) (entryFrame mm args (mxT a)) := by
    intro p e s mm args below meth c s₁ B hml hP
    obtain ⟨rfl, hK, hR⟩ := hP
    have C := CX_of ha hl B hml
    obtain ⟨ls, h1, h2⟩ := SX_entry (a := a) hS hc hR hK
    rw [h1]
    have he := W_ret (Γ := Γ) (m := m) (m2 := m2) (ad := ad) (vo := vo) (e := e) (R := rmD d (mC m2 - mC m) (mS m2 - mS m)) (below := below) (cells := 0) (slots := 0) C
    rw [Nat.zero_add, Nat.zero_add] at he
    exact hb p e _ s mm _ below meth c _ ad 0 0 s.heap [] ls [] C h2 (Nat.le_refl _) (Nat.le_refl _) (Nat.le_of_eq (Nat.zero_add _)) (Nat.le_of_eq (Nat.zero_add _)) he
  rcases exT_of a with h | rfl | rfl
  · exact Met.ofW hpl (by rw [← cdW_c h]) body
  · exact va_MetW hpl (cc := mB M_WFLaw_stake) (maxL := mxT M_WFLaw_stake) (ret := mRt M_WFLaw_stake) (hh := [(0, 10, 13, 13)]) rfl body
  · exact va_MetW hpl (cc := mB M_WFModel_book) (maxL := mxT M_WFModel_book) (ret := mRt M_WFModel_book) (hh := [(54, 62, 65, 13)]) rfl body
/-- a method that throws, as a contract -/
theorem xMetX {a d : Nat} {av : List AV} {ws : List Value} {m m2 : Mem} {ad : Nat → Nat → Nat} {q : Nat × AV} (ha : a < 281) (hpl : plainName (mY a).cls = true) (hl : l9.stackTraces = false) (hex : exT a = []) (hb : Bod Γ l9 a av m (.inr q, m2) d) (hS : SR m ad av ws) (hc : cats av ≤ mxT a) : vx_Met l9 (mY a) (wsA a) (rmD d (mC m2 - mC m) (mS m2 - mS m)) (PcA Γ m ad ws) (fun _ _ _ _ => False) (XCR Γ m ad q m2) (mC m2 - mC m) (mS m2 - mS m) (gA Γ) := by
  refine vx_ofW hpl (cc := mB a) (maxL := mxT a) (ret := mRt a) (by rw [← cdW_c hex]) ?_
  intro p e s mm args below meth c s₁ B hml _ hP
  obtain ⟨rfl, hK, hR⟩ := hP
  have C := CX_of ha hl B hml
  obtain ⟨ls, h1, h2⟩ := SX_entry (a := a) hS hc hR hK
  rw [h1]
  exact hb p e _ s mm _ below meth c _ ad 0 0 s.heap [] ls [] C h2 (Nat.le_refl _) (Nat.le_refl _) (Nat.le_of_eq (Nat.zero_add _)) (Nat.le_of_eq (Nat.zero_add _)) ⟨fun _ _ _ _ => False, XCR Γ m ad q m2, by rw [Nat.zero_add, Nat.zero_add], fun _ _ _ _ h9 => h9⟩
theorem PcA_blind {m : Mem} {ad : Nat → Nat → Nat} {ws : List Value} : FrameBlind (PcA Γ m ad ws) := fun a U g mk h => ⟨h.1, h.2.1.same rfl, h.2.2⟩
end CALLS
end
section
/-! The evaluator's runs are the machine's -/
def PN (m : Mem) (x : St9) : Prop := x = sF ∨ ∃ pc1 l1 s1 m1, x = Nx pc1 l1 s1 m1 ∧ mC m ≤ mC m1 ∧ mS m ≤ mS m1
theorem PN.n {m m1 : Mem} {pc : Nat} {l : Loc9} {st : List AV} (h1 : mC m ≤ mC m1) (h2 : mS m ≤ mS m1) : PN m (sN pc l st m1) := Or.inr ⟨pc, l, st, m1, rfl, h1, h2⟩
theorem PN.k {m : Mem} {pc : Nat} {l : Loc9} {st : List AV} : PN m (sN pc l st m) := PN.n (Nat.le_refl _) (Nat.le_refl _)
theorem PN.f {m : Mem} : PN m sF := Or.inl rfl
theorem PN.i {m : Mem} {c : Prop} [Decidable c] {x y : St9} (h1 : PN m x) (h2 : PN m y) : PN m (if c then x else y) := by
  by_cases h : c
  · rw [if_pos h]; exact h1
  · rw [if_neg h]; exact h2
section PNS
variable {m : Mem} {pc : Nat} {l : Loc9} {st : List AV}
theorem pn_ib {f : Int32 → Int32 → Int32} : PN m (ib9 sF sN f pc l st m) := by unfold ib9; split <;> first | exact PN.k | exact PN.f
theorem pn_lb {f : Int64 → Int64 → Int64} : PN m (lb9 sF sN f pc l st m) := by unfold lb9; split <;> first | exact PN.k | exact PN.f
theorem pn_ls {f : Int64 → Int32 → Int64} : PN m (ls9 sF sN f pc l st m) := by unfold ls9; split <;> first | exact PN.k | exact PN.f
theorem pn_iu {f : Int32 → AV} : PN m (iu9 sF sN f pc l st m) := by unfold iu9; split <;> first | exact PN.k | exact PN.f
theorem pn_lu {f : Int64 → AV} : PN m (lu9 sF sN f pc l st m) := by unfold lu9; split <;> first | exact PN.k | exact PN.f
theorem pn_il {k : Nat} : PN m (il9 sF sN k pc l st m) := by unfold il9; split <;> first | exact PN.k | exact PN.f
theorem pn_ll {k : Nat} : PN m (ll9 sF sN k pc l st m) := by unfold ll9; split <;> first | exact PN.k | exact PN.f
theorem pn_al {k : Nat} : PN m (al9 sF sN k pc l st m) := by unfold al9; split <;> first | exact PN.k | exact PN.f
theorem pn_is {k : Nat} : PN m (is9 sF sN k pc l st m) := by unfold is9; split <;> first | exact PN.i PN.k PN.f | exact PN.f
theorem pn_ls2 {k : Nat} : PN m (ls29 sF sN k pc l st m) := by unfold ls29; split <;> first | exact PN.i PN.k PN.f | exact PN.f
theorem pn_as {k : Nat} : PN m (as9 sF sN k pc l st m) := by unfold as9; split <;> first | exact PN.i PN.k PN.f | exact PN.f
theorem pn_ic {C : Int32 → Int32 → Bool} {a : Nat} : PN m (ic9 sF sN C a pc l st m) := by unfold ic9; split <;> first | exact PN.i PN.k PN.k | exact PN.f
theorem pn_if {C : Int32 → Bool} {a : Nat} : PN m (if9 sF sN C a pc l st m) := by unfold if9; split <;> first | exact PN.i PN.k PN.k | exact PN.f
theorem pn_ald {t : Nat → Bool} : PN m (ald9 sF sN t pc l st m) := by unfold ald9; split <;> first | exact PN.i (PN.i PN.k PN.f) PN.f | exact PN.f
theorem pn_lald : PN m (lald9 sF sN pc l st m) := by unfold lald9; split <;> first | exact PN.i (PN.i PN.k PN.f) PN.f | exact PN.f
theorem pn_iast : PN m (iast9 sF sN pc l st m) := by unfold iast9; split <;> first | exact PN.i (PN.i (PN.n (Nat.le_refl _) (Nat.le_refl _)) PN.f) PN.f | exact PN.f
theorem pn_bast : PN m (bast9 sF sN pc l st m) := by
  unfold bast9; split
  · refine PN.i (PN.i ?_ PN.f) PN.f
    split
    · exact PN.n (Nat.le_refl _) (Nat.le_refl _)
    · exact PN.n (Nat.le_refl _) (Nat.le_refl _)
    · exact PN.f
  · exact PN.f
theorem pn_last : PN m (last9 sF sN pc l st m) := by unfold last9; split <;> first | exact PN.i (PN.i (PN.n (Nat.le_refl _) (Nat.le_refl _)) PN.f) PN.f | exact PN.f
theorem pn_gtf {a b c : Nat} : PN m (gtf9 sF sN a b c pc l st m) := by unfold gtf9; split <;> first | exact PN.i PN.k PN.f | exact PN.f
theorem pn_ptf {a b c : Nat} : PN m (ptf9 sF sN a b c pc l st m) := by
  unfold ptf9; split
  · refine PN.i ?_ PN.f
    split
    · rename_i v q r m2 h
      unfold pf9 at h
      by_cases h80 : a = 80
      · rw [if_pos h80] at h; cases h
      · rw [if_neg h80] at h
        have : mC m2 = mC m ∧ mS m2 = mS m := by
          split at h
          · split at h
            · cases h; exact ⟨rfl, rfl⟩
            · cases h
          · split at h
            · cases h; exact ⟨rfl, rfl⟩
            · cases h
          · split at h
            · cases h; exact ⟨rfl, rfl⟩
            · cases h
          · split at h
            · split at h
              · cases h; exact ⟨rfl, rfl⟩
              · cases h
            · cases h
        exact PN.n (Nat.le_of_eq this.1.symm) (Nat.le_of_eq this.2.symm)
    · exact PN.f
  · exact PN.f
theorem pn_cp : PN m (cp9 sF sN pc l st m) := by unfold cp9; split <;> first | exact PN.i (PN.n (Nat.le_refl _) (Nat.le_refl _)) PN.f | exact PN.f
theorem pn_new {k n : Nat} : PN m (sN pc l st (newM m k n)) := PN.n (Nat.le_succ _) (Nat.le_add_right _ _)
theorem pn_nwa {a n c : Nat} : PN m (nwa9 sF sN a n c pc l st m) := by unfold nwa9; split <;> first | exact PN.i pn_new PN.f | exact PN.f
theorem pn_mt {c : Nat} : PN m (mt9 sF sN c pc l st m) := by
  unfold mt9; split <;> split <;> first | exact PN.i PN.k PN.f | exact PN.f
theorem pn_swK {x : Int32} {d : Nat} {r : List AV} : ∀ {L : List (Int32 × Nat)}, PN m (swK x d (fun t => sN t l r m) L)
  | [] => PN.k
  | q :: t => by simp only [swK]; exact PN.i PN.k pn_swK
theorem pn_inv {d a b c : Nat} : PN m (inv9 sF sK sN d a b c pc l st m) ∨ ∃ q, inv9 sF sK sN d a b c pc l st m = .inr (.inr q) := by
  unfold inv9
  by_cases h99 : c = 99
  · rw [if_pos h99]; exact Or.inl PN.f
  rw [if_neg h99]
  by_cases h50 : c = 50
  · rw [if_pos h50]
    refine Or.inl ?_
    split
    · exact PN.i PN.k PN.f
    · exact PN.f
  rw [if_neg h50]
  by_cases h60 : c = 60
  · rw [if_pos h60]; exact Or.inl pn_cp
  rw [if_neg h60]
  by_cases h61 : 61 ≤ c ∧ c ≤ 63
  · rw [if_pos h61]; exact Or.inl pn_mt
  rw [if_neg h61]
  split
  · exact Or.inl PN.f
  · split
    · split
      · split
        · exact Or.inl PN.f
        · exact Or.inr ⟨_, rfl⟩
      · exact Or.inl PN.f
    · exact Or.inl PN.f
end PNS
/-- an instruction at which the method ends -/
def isEnd (i : Instr) (c : Nat) : Bool := match i with
  | .ireturn | .lreturn | .areturn | .return_ | .athrow => true
  | .new _ => c == 77
  | _ => false
def isInv (i : Instr) : Bool := match i with
  | .invokevirtual _ | .invokestatic _ | .invokespecial _ => true
  | _ => false
set_option maxHeartbeats 4000000 in
theorem stI_kind (i : Instr) (n a b c : Nat) (L : List (Int32 × Nat)) (d M pc : Nat) (l : Loc9) (st : List AV) (m : Mem) : PN m (stI sF sD sK sN i n a b c L d M pc l st m) ∨ (isInv i = true ∧ stI sF sD sK sN i n a b c L d M pc l st m = inv9 sF sK sN d a b c (pc + n) l st m) ∨ isEnd i c = true := by
  cases i with
  | ireturn => exact Or.inr (Or.inr rfl)
  | lreturn => exact Or.inr (Or.inr rfl)
  | areturn => exact Or.inr (Or.inr rfl)
  | return_ => exact Or.inr (Or.inr rfl)
  | athrow => exact Or.inr (Or.inr rfl)
  | invokevirtual k => exact Or.inr (Or.inl ⟨rfl, rfl⟩)
  | invokestatic k => exact Or.inr (Or.inl ⟨rfl, rfl⟩)
  | invokespecial k => exact Or.inr (Or.inl ⟨rfl, rfl⟩)
  | new k =>
    by_cases h : c = 77
    · exact Or.inr (Or.inr (by simp [isEnd, h]))
    · refine Or.inl ?_
      simp only [stI]
      rw [if_neg h]
      exact pn_new
  | if_icmp cd o => cases cd <;> exact Or.inl pn_ic
  | ifCond cd o => cases cd <;> exact Or.inl pn_if
  | getstatic k =>
    refine Or.inl ?_
    simp only [stI]
    split <;> first | exact PN.k | exact PN.f
  | tableswitch x y z w =>
    refine Or.inl ?_
    simp only [stI]
    split
    · exact pn_swK
    · exact PN.f
  | ldc k => refine Or.inl ?_; simp only [stI]; exact PN.i PN.k PN.k
  | iinc k z => refine Or.inl ?_; simp only [stI]; split <;> first | exact PN.k | exact PN.f
  | idiv => refine Or.inl ?_; simp only [stI]; split <;> first | exact PN.i PN.f PN.k | exact PN.f
  | irem => refine Or.inl ?_; simp only [stI]; split <;> first | exact PN.i PN.f PN.k | exact PN.f
  | lcmp => refine Or.inl ?_; simp only [stI]; split <;> first | exact PN.k | exact PN.f
  | dup => refine Or.inl ?_; simp only [stI]; split <;> first | exact PN.i PN.k PN.f | exact PN.f
  | dup2 => refine Or.inl ?_; simp only [stI]; split <;> first | exact PN.k | exact PN.i PN.k PN.f | exact PN.f
  | ifnonnull o => refine Or.inl ?_; simp only [stI]; split <;> first | exact PN.k | exact PN.f
  | ifnull o => refine Or.inl ?_; simp only [stI]; split <;> first | exact PN.k | exact PN.f
  | iaload => exact Or.inl (pn_ald (t := fun t => t == 0))
  | baload => exact Or.inl (pn_ald (t := fun t => t == 1 || t == 2))
  | arraylength => refine Or.inl ?_; simp only [stI]; split <;> first | exact PN.i PN.k PN.f | exact PN.f
  | _ => first
    | exact Or.inl PN.k
    | exact Or.inl PN.f
    | exact Or.inl pn_ib
    | exact Or.inl pn_lb
    | exact Or.inl pn_ls
    | exact Or.inl pn_iu
    | exact Or.inl pn_lu
    | exact Or.inl pn_il
    | exact Or.inl pn_ll
    | exact Or.inl pn_al
    | exact Or.inl pn_is
    | exact Or.inl pn_ls2
    | exact Or.inl pn_as
    | exact Or.inl pn_gtf
    | exact Or.inl pn_ptf
    | exact Or.inl pn_ald
    | exact Or.inl pn_lald
    | exact Or.inl pn_iast
    | exact Or.inl pn_bast
    | exact Or.inl pn_last
    | exact Or.inl pn_nwa
/-- how a method ends -/
theorem stI_end {i : Instr} {n a b c : Nat} {L : List (Int32 × Nat)} {d M pc : Nat} {l : Loc9} {st : List AV} {m : Mem} (h : isEnd i c = true) : stI sF sD sK sN i n a b c L d M pc l st m = sF ∨ ∃ r, stI sF sD sK sN i n a b c L d M pc l st m = sD r ∧ mC m ≤ mC r.2 ∧ mS m ≤ mS r.2 := by
  cases i with
  | ireturn =>
    simp only [stI, irt9]
    split
    · split
      · exact Or.inr ⟨_, rfl, Nat.le_refl _, Nat.le_refl _⟩
      all_goals (split <;> first | exact Or.inr ⟨_, rfl, Nat.le_refl _, Nat.le_refl _⟩ | exact Or.inl rfl)
    · exact Or.inl rfl
  | lreturn => simp only [stI]; split <;> first | exact Or.inr ⟨_, rfl, Nat.le_refl _, Nat.le_refl _⟩ | exact Or.inl rfl
  | areturn => simp only [stI]; split <;> first | exact Or.inr ⟨_, rfl, Nat.le_refl _, Nat.le_refl _⟩ | exact Or.inl rfl
  | return_ => simp only [stI]; split <;> first | exact Or.inr ⟨_, rfl, Nat.le_refl _, Nat.le_refl _⟩ | exact Or.inl rfl
  | athrow =>
    simp only [stI]
    split
    · split
      · split <;> first | exact Or.inr ⟨_, rfl, Nat.le_refl _, Nat.le_refl _⟩ | exact Or.inl rfl
      · exact Or.inl rfl
    · exact Or.inl rfl
  | new k =>
    have hc : c = 77 := by simpa [isEnd] using h
    simp only [stI]
    rw [if_pos hc]
    split
    · exact Or.inr ⟨_, rfl, Nat.le_succ _, Nat.le_add_right _ _⟩
    · exact Or.inl rfl
  | _ => simp [isEnd] at h
theorem lookup_mem {α : Type} {l : List (Nat × α)} {k : Nat} {v : α} (h : l.lookup k = some v) : (k, v) ∈ l := by
  induction l with
  | nil => cases h
  | cons z t ih =>
    simp only [List.lookup] at h
    split at h
    · rename_i e
      cases h
      rw [show k = z.1 by simpa using e]
      exact List.mem_cons_self
    · exact List.mem_cons_of_mem _ (ih h)
theorem ev_lt {n d M pc : Nat} {l : Loc9} {st : List AV} {m : Mem} {r : Res9} (h : ev9 n d M pc l st m = some r) : M < 281 := by
  by_cases e : M < 281
  · exact e
  · exfalso
    cases n with
    | zero => cases h
    | succ n =>
      rw [ev9] at h
      unfold st1 stp at h
      rw [show cdT M = [] from cdT_big cdTab M (by rw [cdTab_len]; omega)] at h
      cases h
theorem ev_C : ∀ (n d M pc : Nat) (l : Loc9) (st : List AV) (m : Mem) (r : Res9), ev9 n d M pc l st m = some r → mC m ≤ mC r.2 ∧ mS m ≤ mS r.2 := by
  intro n
  induction n with
  | zero => intro d M pc l st m r h; cases h
  | succ n ih =>
    intro d M pc l st m r h
    rw [ev9] at h
    unfold st1 stp at h
    cases hlk : (cdT M).lookup pc with
    | none => rw [hlk] at h; cases h
    | some q =>
      obtain ⟨i, n9, a, b, c, L⟩ := q
      rw [hlk] at h
      replace h : fo9 none some (fun d1 a args rest pc1 l1 m1 => ret9 (ev9 n d M) M pc pc1 l1 rest (ev9 n d1 a 0 (entL args (mxT a)) [] m1)) (ev9 n d M) (stI sF sD sK sN i n9 a b c L d M pc l st m) = some r := h
      have hpn : ∀ x : St9, PN m x → fo9 none some (fun d1 a args rest pc1 l1 m1 => ret9 (ev9 n d M) M pc pc1 l1 rest (ev9 n d1 a 0 (entL args (mxT a)) [] m1)) (ev9 n d M) x = some r → mC m ≤ mC r.2 ∧ mS m ≤ mS r.2 := by
        intro x hx hf
        rcases hx with rfl | ⟨pc1, l1, s1, m1, rfl, h1, h2⟩
        · cases hf
        · have := ih _ _ _ _ _ _ _ hf
          exact ⟨Nat.le_trans h1 this.1, Nat.le_trans h2 this.2⟩
      rcases stI_kind i n9 a b c L d M pc l st m with hp | ⟨-, hp⟩ | hp
      · exact hpn _ hp h
      · rw [hp] at h
        rcases pn_inv (m := m) (pc := pc + n9) (l := l) (st := st) (d := d) (a := a) (b := b) (c := c) with hp2 | ⟨⟨d1, a1, av, rest, pc2, l2, m2⟩, hq⟩
        · exact hpn _ hp2 h
        · rw [hq] at h
          obtain ⟨-, -, -, -, -, -, -, -, -, -, -, -, rfl⟩ := iv_call hq
          simp only [fo9] at h
          cases hc : ev9 n d1 a1 0 (entL av (mxT a1)) [] m2 with
          | none => rw [hc] at h; cases h
          | some q2 =>
            rw [hc] at h
            have g1 := ih _ _ _ _ _ _ _ hc
            match q2, h, g1 with
            | (.inl none, m3), h, g1 =>
              have g2 := ih _ _ _ _ _ _ _ h
              exact ⟨Nat.le_trans g1.1 g2.1, Nat.le_trans g1.2 g2.2⟩
            | (.inl (some v), m3), h, g1 =>
              have g2 := ih _ _ _ _ _ _ _ h
              exact ⟨Nat.le_trans g1.1 g2.1, Nat.le_trans g1.2 g2.2⟩
            | (.inr q3, m3), h, g1 =>
              simp only [ret9] at h
              split at h
              · have g2 := ih _ _ _ _ _ _ _ h
                exact ⟨Nat.le_trans g1.1 g2.1, Nat.le_trans g1.2 g2.2⟩
              · split at h
                · cases h; exact g1
                · cases h
      · rcases stI_end (n := n9) (a := a) (b := b) (L := L) (d := d) (M := M) (pc := pc) (l := l) (st := st) (m := m) hp with e | ⟨r2, e, g⟩
        · rw [e] at h; cases h
        · rw [e] at h; cases h; exact g
/-- where something is thrown -/
def xend (q : Nat × Ent9) : Bool := match q with
  | (_, .athrow, _, _, _, _, _) => true
  | (_, .new _, _, _, _, c, _) => c == 77
  | _ => false
theorem thr_all : [177, 193, 194, 195, 198, 200, 201, 202, 204, 205, 207, 209, 211, 213].all (fun M => decide (M < 281) && (exT M).isEmpty && (hdT M).isEmpty && decide ((mY M).name ≠ "<init>")) = true := by decide +kernel
theorem thr_at {M : Nat} (h : thr9 M = true) : M < 281 ∧ exT M = [] ∧ hdT M = [] ∧ (mY M).name ≠ "<init>" := by
  have h2 := List.all_eq_true.mp thr_all M (List.elem_iff.mp h)
  simp only [Bool.and_eq_true, decide_eq_true_eq, List.isEmpty_iff] at h2
  exact ⟨h2.1.1.1, h2.1.1.2, h2.1.2, h2.2⟩
theorem thr_cd : (List.range 281).all (fun M => thr9 M || (cdT M).all (fun q => !xend q)) = true := by decide +kernel
theorem thr_of {M : Nat} {q : Nat × Ent9} (hM : M < 281) (h : q ∈ cdT M) (hx : xend q = true) : thr9 M = true := by
  have h2 := List.all_eq_true.mp thr_cd M (List.mem_range.mpr hM)
  rcases Bool.or_eq_true_iff.mp h2 with h3 | h3
  · exact h3
  · have h4 := List.all_eq_true.mp h3 q h
    rw [hx] at h4
    cases h4
theorem stI_inr {i : Instr} {n a b c : Nat} {L : List (Int32 × Nat)} {d M pc : Nat} {l : Loc9} {st : List AV} {m m2 : Mem} {q : Nat × AV} (h : isEnd i c = true) (hs : stI sF sD sK sN i n a b c L d M pc l st m = sD (.inr q, m2)) : xend (pc, i, n, a, b, c, L) = true := by
  cases i with
  | ireturn =>
    simp only [stI, irt9] at hs
    split at hs
    · split at hs
      · cases hs
      all_goals (split at hs <;> cases hs)
    · cases hs
  | lreturn => simp only [stI] at hs; split at hs <;> cases hs
  | areturn => simp only [stI] at hs; split at hs <;> cases hs
  | return_ => simp only [stI] at hs; split at hs <;> cases hs
  | athrow => rfl
  | new k => exact h
  | _ => simp [isEnd] at h
theorem ev_thr : ∀ (n d M pc : Nat) (l : Loc9) (st : List AV) (m m2 : Mem) (q : Nat × AV), ev9 n d M pc l st m = some (.inr q, m2) → thr9 M = true := by
  intro n
  induction n with
  | zero => intro d M pc l st m m2 q h; cases h
  | succ n ih =>
    intro d M pc l st m m2 q h
    have hM := ev_lt h
    rw [ev9] at h
    unfold st1 stp at h
    cases hlk : (cdT M).lookup pc with
    | none => rw [hlk] at h; cases h
    | some q9 =>
      obtain ⟨i, n9, a, b, c, L⟩ := q9
      rw [hlk] at h
      replace h : fo9 none some (fun d1 a args rest pc1 l1 m1 => ret9 (ev9 n d M) M pc pc1 l1 rest (ev9 n d1 a 0 (entL args (mxT a)) [] m1)) (ev9 n d M) (stI sF sD sK sN i n9 a b c L d M pc l st m) = some (.inr q, m2) := h
      have hpn : ∀ x : St9, PN m x → fo9 none some (fun d1 a args rest pc1 l1 m1 => ret9 (ev9 n d M) M pc pc1 l1 rest (ev9 n d1 a 0 (entL args (mxT a)) [] m1)) (ev9 n d M) x = some (.inr q, m2) → thr9 M = true := by
        intro x hx hf
        rcases hx with rfl | ⟨pc1, l1, s1, m1, rfl, h1, h2⟩
        · cases hf
        · exact ih _ _ _ _ _ _ _ _ hf
      rcases stI_kind i n9 a b c L d M pc l st m with hp | ⟨-, hp⟩ | hp
      · exact hpn _ hp h
      · rw [hp] at h
        rcases pn_inv (m := m) (pc := pc + n9) (l := l) (st := st) (d := d) (a := a) (b := b) (c := c) with hp2 | ⟨⟨d1, a1, av, rest, pc2, l2, m3⟩, hq⟩
        · exact hpn _ hp2 h
        · rw [hq] at h
          simp only [fo9] at h
          cases hc : ev9 n d1 a1 0 (entL av (mxT a1)) [] m3 with
          | none => rw [hc] at h; cases h
          | some q2 =>
            rw [hc] at h
            match q2, h with
            | (.inl none, m4), h => exact ih _ _ _ _ _ _ _ _ h
            | (.inl (some v), m4), h => exact ih _ _ _ _ _ _ _ _ h
            | (.inr q3, m4), h =>
              simp only [ret9] at h
              split at h
              · exact ih _ _ _ _ _ _ _ _ h
              · split at h
                · rename_i g; exact g
                · cases h
      · rcases stI_end (n := n9) (a := a) (b := b) (L := L) (d := d) (M := M) (pc := pc) (l := l) (st := st) (m := m) hp with e | ⟨r2, e, g⟩
        · rw [e] at h; cases h
        · rw [e] at h
          cases h
          exact thr_of hM (lookup_mem hlk) (stI_inr hp e)
end
section
/-! Ends, calls, throws; the theorem -/
set_option maxRecDepth 20000 in
theorem rm_le {z d d1 L : Nat} (h : z ≤ 45) (hd : d = d1 + 1) (hl : 64 * d + 400 ≤ L) : 8 + (z + 11) + (64 * d1 + 400) ≤ L := by omega
theorem on_all : (List.range 15).all (fun k => decide (onm k = (clT k).1)) = true := by decide +kernel
theorem on_cl {k : Nat} (h : k < 15) : onm k = (clT k).1 := of_decide_eq_true (List.all_eq_true.mp on_all k (List.mem_range.mpr h))
theorem init_all : (List.range 281).all (fun a => decide ((mY a).name ≠ "<init>") || decide (mRt a = none)) = true := by decide +kernel
theorem init_void {a : Nat} (h : a < 281) (hn : (mY a).name = "<init>") : mRt a = none := by
  have h2 := List.all_eq_true.mp init_all a (List.mem_range.mpr h)
  rcases Bool.or_eq_true_iff.mp h2 with h3 | h3
  · exact absurd hn (of_decide_eq_true h3)
  · exact of_decide_eq_true h3
section MAIN
variable {Γ : Gm} {M : Nat} {p : Program} {l9 : Launch} {e : Env} {R : Room} {s : State} {mm : MethodId} {args : Array Value} {below : List Frame} {meth : Method} {c9 : Code} {Q : State → Prop} {m m1 m2 : Mem} {ad : Nat → Nat → Nat} {cells slots pc pc1 : Nat} {l l1 : Loc9} {st s1 : List AV} {H : Heap} {locs : List Loc} {ls : Array Slot} {sv : List Value}
theorem good_w {w : Cond} (h : w ∈ lw_tbl) (hg : goodWord w = true) : w ∈ lw_tbl.filter goodWord ∧ ((w.onTables && w.keeps) = true ∨ ∃ ty, w = .arrayClass ty) := ⟨List.mem_filter.mpr ⟨h, hg⟩, good_of_word hg⟩
theorem good_A {a : Nat} (h1 : 0 < a) (h2 : a < 281) : GoodIn (lw_tbl.filter goodWord) (wsA a) := by
  intro w hw
  rcases List.mem_cons.mp hw with rfl | hw
  · exact good_w (cw_at h1 h2) (good_cd a)
  · exact good_w (List.mem_filter.mp hw).1 (List.mem_filter.mp hw).2
theorem good_V {o i a k : Nat} (hk : k = 0 ∨ k = 4) (hw : hasM o i a k = true) (h1 : 0 < a) (h2 : a < 281) : GoodIn (lw_tbl.filter goodWord) (wsV (onm o) i (mY a).cls (mY a) (wsA a)) := by
  have h := hasM_w hw
  have e : mlW (o, i, a, k) = [.methodLink (onm o) i (mY a), .instanceMethod (mY a), .selects (mY a).cls (mY a) (mY a), .initialized (mY a).cls] := by rcases hk with rfl | rfl <;> rfl
  rw [e] at h
  intro w hw
  unfold wsV at hw
  rcases List.mem_append.mp hw with hw | hw
  · refine good_w (h w hw) ?_
    simp only [List.mem_cons, List.not_mem_nil, or_false] at hw
    rcases hw with rfl | rfl | rfl | rfl <;> rfl
  · exact good_A h1 h2 w hw
theorem good_S {o i a k : Nat} (hk : k = 1 ∨ k = 5) (hw : hasM o i a k = true) (h1 : 0 < a) (h2 : a < 281) : GoodIn (lw_tbl.filter goodWord) (va_wsS (onm o) i (mY a) (wsA a)) := by
  have h := hasM_w hw
  have e : mlW (o, i, a, k) = [.methodLink (onm o) i (mY a), .static (mY a), .initialized (mY a).cls] := by rcases hk with rfl | rfl <;> rfl
  rw [e] at h
  intro w hw
  unfold va_wsS at hw
  rcases List.mem_append.mp hw with hw | hw
  · refine good_w (h w hw) ?_
    simp only [List.mem_cons, List.not_mem_nil, or_false] at hw
    rcases hw with rfl | rfl | rfl <;> rfl
  · exact good_A h1 h2 w hw
theorem mlK : mlL.all (fun q => decide (0 < q.2.2.1) && decide (q.2.2.1 < 281) && (if q.2.2.2.1 = 4 ∨ q.2.2.2.1 = 5 then !(exT q.2.2.1).isEmpty else (exT q.2.2.1).isEmpty) && (decide (q.2.2.2.1 ≠ 3) || nwM.any (fun z => decide (z.1 = onm q.1 ∧ z.2.1 = q.2.1 ∧ z.2.2.1 = mY q.2.2.1)))) = true := by decide +kernel
theorem hasM_k {o i a k : Nat} (h : hasM o i a k = true) : 0 < a ∧ a < 281 ∧ (if k = 4 ∨ k = 5 then !(exT a).isEmpty else (exT a).isEmpty) = true ∧ (k ≠ 3 ∨ nwM.any (fun z => decide (z.1 = onm o ∧ z.2.1 = i ∧ z.2.2.1 = mY a)) = true) := by
  obtain ⟨q, hq, h2⟩ := List.any_eq_true.mp h
  simp only [Bool.and_eq_true, beq_iff_eq] at h2
  obtain ⟨⟨⟨rfl, rfl⟩, rfl⟩, rfl⟩ := h2
  have h3 := List.all_eq_true.mp mlK q hq
  simp only [Bool.and_eq_true, Bool.or_eq_true, decide_eq_true_eq] at h3
  exact ⟨h3.1.1.1, h3.1.1.2, h3.1.2, h3.2⟩
/-- behind a call that returned -/
theorem back_run {mc ms : Nat} {vo : Option AV} {wr : List Value} {rest : List AV} {A9 : Array Value} (hr : va_Run p l9 e R s mm args below meth c9 H locs cells slots mc ms (F0 mm pc ls sv) wr (QcR Γ m ad vo m2 A9) (gA Γ)) (hK : KN Γ s H) (hlo : ∀ q ∈ locs, gB Γ ≤ q.base) (hL : LR m ad (mxT M) l ls) (hS : SR m ad rest wr)
    (kk : ∀ (ad1 : Nat → Nat → Nat) (H1 : Heap) (locs1 : List Loc) (sv1 : List Value), Ex m ad m2 ad1 → SX Γ M s m2 ad1 H1 locs1 l ls (vo.toList ++ rest) sv1 → W p l9 e R s mm args below meth c9 H1 locs1 (cells + mc) (slots + ms) Q (F0 mm (pc + 3) ls sv1)) : W p l9 e R s mm args below meth c9 H locs cells slots Q (F0 mm pc ls sv) := by
  intro T hT X
  obtain ⟨v, st₀, t, T', L, h0, X', hL2, e1, e2, ⟨ad1, rv, ho, hv, hx, hR, hKt⟩, go⟩ := hr T hT X
  cases ho
  have hal : s.vm.Alike t.vm := by rw [← e2]; exact X'.warmed.alike
  have hS2 : SR m2 ad1 (vo.toList ++ rest) (v.toList ++ wr) := by
    refine SR.app ?_ (hS.ex hx)
    match vo, v, hv with
    | none, none, _ => trivial
    | some a, some w, hv => exact ⟨hv, trivial⟩
  obtain ⟨tt, a1, b1⟩ := kk ad1 T'.heap (locs ++ L) (v.toList ++ wr) hx ⟨by rw [e1]; exact hR, by rw [e1]; exact hK.back hal hKt, fun q hq => by
    rcases List.mem_append.mp hq with h | h
    · exact hlo q h
    · exact hL2 q h, hL.ex hx, hS2⟩ T' rfl X'
  exact ⟨tt, go tt a1, b1⟩
theorem rc_at {c : Nat} {av : List AV} (h : rcv9 c av = true) (hc : 0 < c) : ∃ j r, av = vr (c - 1) j :: r := by
  cases c with
  | zero => omega
  | succ c =>
    simp only [rcv9] at h
    split at h
    · rename_i q r
      have : q.1 = c := by simpa using h
      exact ⟨q.2, r, by rw [Nat.add_sub_cancel, ← this]⟩
    · cases h
set_option maxHeartbeats 1000000 in
theorem sd_call (hM : M < 281) (C : CX M p l9 s mm args meth c9) {i : Instr} {n a b c d d1 : Nat} {L : List (Int32 × Nat)} {av rest : List AV} {vo : Option AV} (hE : okB M (pc, i, n, a, b, c, L) = true) (hi : isInv i = true) (h99 : c ≠ 99) (h50 : c ≠ 50) (h60 : c ≠ 60) (h61 : ¬ (61 ≤ c ∧ c ≤ 63)) (hpop : popN b [] st = some (av, rest)) (hcr : cats rest ≤ 8) (hca : cats av ≤ mxT a) (hrc : rcv9 c av = true) (hd1 : d = d1 + 1)
    (hB : Bod Γ l9 a av m (.inl vo, m2) d1) (hfr : d + 16 ≤ R.frames) (hlc : 64 * d + 400 ≤ R.locals) (hc : cells + (mC m2 - mC m) ≤ R.cells) (hs : slots + (mS m2 - mS m) ≤ R.slots) (X : SX Γ M s m ad H locs l ls st sv)
    (kk : ∀ (ad1 : Nat → Nat → Nat) (H1 : Heap) (locs1 : List Loc) (sv1 : List Value), Ex m ad m2 ad1 → SX Γ M s m2 ad1 H1 locs1 l ls (vo.toList ++ rest) sv1 → W p l9 e R s mm args below meth c9 H1 locs1 (cells + (mC m2 - mC m)) (slots + (mS m2 - mS m)) Q (F0 mm (pc + n) ls sv1)) : W p l9 e R s mm args below meth c9 H locs cells slots Q (F0 mm pc ls sv) := by
  obtain ⟨hR, hK, hlo, hL, hS⟩ := X
  obtain ⟨xs, rfl, hav, hlen⟩ := popN_spec hpop
  rw [List.append_nil] at hav
  obtain ⟨ws, wr, rfl, hS1, hS2⟩ := hS.split
  have hSa : SR m ad av ws.reverse := by rw [hav]; exact hS1.rev
  have hlt := C.2.2.2.2.2.2.2.2.2
  have hct := hS2.ct
  have hsz : ls.size = mxT M := by
    obtain ⟨-, lv, h1, -⟩ := hL
    exact h1.1
  have S : CallFix p mm c9 (mB M) (mxT M) s args (lw_tbl.filter goodWord) (onm (mO M)) := ⟨C.ex, C.by, C.ml, C.own, C.ws⟩
  have hW8 : 2 * (F0 mm pc ls (ws ++ wr)).monitorRoom + (wr.map fun v => v.category).sum ≤ 8 := by rw [hct]; show 2 * 0 + _ ≤ 8; omega
  have hpre : ∀ U : State, U.heap = H → s.WarmedH U.vm → PcA Γ m ad ws.reverse ws.reverse.toArray U := fun U hU hW => ⟨rfl, by rw [hU]; exact hK.moved hW, by rw [hU]; exact hR⟩
  have hroom : ∀ a, a < 281 → (rmD d1 (mC m2 - mC m) (mS m2 - mS m)).frames + 1 ≤ R.frames ∧ 8 + (mxT a + 11) + (rmD d1 (mC m2 - mC m) (mS m2 - mS m)).locals ≤ R.locals := by
    intro a ha
    have := (plainAt ha).2.2.1
    refine ⟨?_, ?_⟩
    · show d1 + 16 + 1 ≤ _; omega
    · exact rm_le this hd1 hlc
  have hwl : ws.length = b := by rw [← hlen]; exact hS1.len.symm
  simp only [okB, Bool.and_eq_true, decide_eq_true_eq] at hE
  obtain ⟨hdc, hE⟩ := hE
  have hrev : ws ++ wr = ws.reverse.reverse ++ wr := by rw [List.reverse_reverse]
  cases i with
  | invokevirtual k9 =>
    simp only [Bool.and_eq_true, Bool.or_eq_true, beq_iff_eq, decide_eq_true_eq] at hE
    obtain ⟨rfl, hE⟩ := hE
    rcases hE with q | hE
    · exact absurd q h99
    obtain ⟨⟨⟨⟨⟨hcls, hc0⟩, hc15⟩, hb⟩, hw⟩, hpl⟩ := hE
    obtain ⟨j, r, hrv⟩ := rc_at hrc hc0
    rw [hrv] at hSa
    obtain ⟨w0, As, hws, hv0, hSr⟩ := hSa.inv
    obtain ⟨rfl, hj⟩ := VR.rf hv0
    have hAs : As.length = npar a := by
      have := congrArg List.length hws
      simp only [List.length_reverse, List.length_cons] at this
      omega
    have hstk : ws ++ wr = As.reverse ++ .ref (ad (c - 1) j) :: wr := by
      rw [hrev, hws]; simp
    have hrecv : ∃ cellB : Cell, H[ad (c - 1) j]? = some cellB ∧ cellB.vm.isStatics = false ∧ s.vm.findClass (mY a).cls = some cellB.cls := by
      by_cases h81 : c = 81
      · subst h81
        rw [if_pos rfl] at hcls
        have hj9 : j < 9 := by
          have := hR.2.2.2.2.2.1 80 (by omega)
          rw [show (81 - 1 : Nat) = 80 from rfl, this] at hj
          exact hj
        obtain ⟨⟨cell, g1, g2, g3, -⟩, -⟩ := hK.2.2.2.2.1.1 j hj9
        refine ⟨cell, ?_, g2, by rw [hcls]; exact g3⟩
        rw [show (81 - 1 : Nat) = 80 from rfl, hR.2.2.2.2.1 80 j (by omega)]
        exact g1
      · rw [if_neg h81] at hcls
        have hlt15 : c - 1 < 15 := by omega
        obtain ⟨cell, g1, g2, g3, -⟩ := hR.1 (c - 1) j hlt15 hj
        have hKa := (hK.1.1 (c - 1) _ (vwC_at hlt15)).2.1
        refine ⟨cell, g1, by rw [g3]; rfl, ?_⟩
        rw [hcls, on_cl hlt15, g2]
        exact hKa
    have hp : PreV s H (mY a).cls (ad (c - 1) j) (PcA Γ m ad ws.reverse) As := ⟨PcA_blind, hrecv, fun U hU hW => by
      have := hpre U hU hW
      rw [hws] at this ⊢
      exact this⟩
    rcases hw with hw | hw
    · obtain ⟨g1, g2, g3, -⟩ := hasM_k hw
      rw [if_neg (by omega)] at g3
      have hex : exT a = [] := List.isEmpty_iff.mp g3
      have hMet := xMet (l9 := l9) g2 hpl hlt hB (by rw [hav]; exact hS1.rev) hca
      have cw := cwV (R := R) (own := onm (mO M)) (index := k9) (bytes := mB a) (maxL := mxT a) (ret := mRt a) (npar a) C.ws (good_V (Or.inl rfl) hw g1 g2) (by rw [← cdW_c hex]) rfl rfl ⟨rfl, (plainAt g2).1, (plainAt g2).2.1, (plainAt g2).2.2.2⟩ (hroom a g2)
      have hr := va_runV (g := F0 mm pc ls (ws ++ wr)) (cells := cells) (slots := slots) (locs := locs) (below := below) (meth := meth) (e := e) S hMet cw hp rfl hAs hsz hstk hW8 hdc ⟨hc, hs⟩
      exact back_run hr hK hlo hL hS2 kk
    · obtain ⟨g1, g2, g3, -⟩ := hasM_k hw
      rw [if_pos (by omega)] at g3
      obtain ⟨q, hex⟩ : ∃ q, exT a = [q] := by
        rcases exT_of a with h | rfl | rfl
        · rw [h] at g3; cases g3
        · exact ⟨_, rfl⟩
        · exact ⟨_, rfl⟩
      have hMet := xMet (l9 := l9) g2 hpl hlt hB (by rw [hav]; exact hS1.rev) hca
      have cw := vx_cwVW (R := R) (own := onm (mO M)) (index := k9) (bytes := mB a) (maxL := mxT a) (ret := mRt a) (hh := [q]) (npar a) C.ws (good_V (Or.inr rfl) hw g1 g2) (by rw [← cdW_w hex]) rfl rfl ⟨rfl, (plainAt g2).1, (plainAt g2).2.1, (plainAt g2).2.2.2⟩ (hroom a g2)
      have hr := vx_runVW (g := F0 mm pc ls (ws ++ wr)) (cells := cells) (slots := slots) (locs := locs) (below := below) (meth := meth) (e := e) S hMet cw hp rfl hAs hsz hstk hW8 hdc ⟨hc, hs⟩
      exact back_run hr hK hlo hL hS2 kk
  | invokestatic k9 =>
    simp only [Bool.and_eq_true, Bool.or_eq_true, beq_iff_eq, decide_eq_true_eq] at hE
    obtain ⟨rfl, hE⟩ := hE
    have hE : (c = 0 ∧ b = npar a) ∧ (hasM (mO M) k9 a 1 = true ∨ hasM (mO M) k9 a 5 = true) ∧ plainName (mY a).cls = true := by
      rcases hE with ((((q | q) | q) | q) | q) | q
      · exact absurd q h99
      · exact absurd q.1.1 h60
      · omega
      · omega
      · omega
      · exact ⟨q.1.1, q.1.2, q.2⟩
    obtain ⟨⟨hc0, hb⟩, hw, hpl⟩ := hE
    have hAs : ws.reverse.length = npar a := by rw [List.length_reverse]; omega
    have hp : PreS s H (PcA Γ m ad ws.reverse) ws.reverse := ⟨PcA_blind, hpre⟩
    rcases hw with hw | hw
    · obtain ⟨g1, g2, g3, -⟩ := hasM_k hw
      rw [if_neg (by omega)] at g3
      have hex : exT a = [] := List.isEmpty_iff.mp g3
      have hMet := xMet (l9 := l9) g2 hpl hlt hB hSa hca
      have cw := va_cwS (R := R) (own := onm (mO M)) (index := k9) (bytes := mB a) (maxL := mxT a) (ret := mRt a) (npar a) C.ws (good_S (Or.inl rfl) hw g1 g2) (by rw [← cdW_c hex]) rfl rfl ⟨(plainAt g2).1, (plainAt g2).2.1, (plainAt g2).2.2.2⟩ (hroom a g2)
      have hr := va_runS (g := F0 mm pc ls (ws ++ wr)) (cells := cells) (slots := slots) (locs := locs) (below := below) (meth := meth) (e := e) S hMet cw hp rfl hAs hsz hrev hW8 hdc ⟨hc, hs⟩
      exact back_run hr hK hlo hL hS2 kk
    · obtain ⟨g1, g2, g3, -⟩ := hasM_k hw
      rw [if_pos (by omega)] at g3
      obtain ⟨q, hex⟩ : ∃ q, exT a = [q] := by
        rcases exT_of a with h | rfl | rfl
        · rw [h] at g3; cases g3
        · exact ⟨_, rfl⟩
        · exact ⟨_, rfl⟩
      have hMet := xMet (l9 := l9) g2 hpl hlt hB hSa hca
      have cw := vx_cwSW (R := R) (own := onm (mO M)) (index := k9) (bytes := mB a) (maxL := mxT a) (ret := mRt a) (hh := [q]) (npar a) C.ws (good_S (Or.inr rfl) hw g1 g2) (by rw [← cdW_w hex]) rfl rfl ⟨(plainAt g2).1, (plainAt g2).2.1, (plainAt g2).2.2.2⟩ (hroom a g2)
      have hr := vx_runSW (g := F0 mm pc ls (ws ++ wr)) (cells := cells) (slots := slots) (locs := locs) (below := below) (meth := meth) (e := e) S hMet cw hp rfl hAs hsz hrev hW8 hdc ⟨hc, hs⟩
      exact back_run hr hK hlo hL hS2 kk
  | invokespecial k9 =>
    simp only [Bool.and_eq_true, Bool.or_eq_true, beq_iff_eq, decide_eq_true_eq] at hE
    obtain ⟨rfl, hE⟩ := hE
    rcases hE with (q | q) | hE
    · exact absurd q h50
    · exact absurd q h99
    obtain ⟨⟨⟨⟨⟨hc0, hc15⟩, hb⟩, hw⟩, hpl⟩, hnm⟩ := hE
    obtain ⟨j, r, hrv⟩ := rc_at hrc hc0
    rw [hrv] at hSa
    obtain ⟨w0, As, hws, hv0, hSr⟩ := hSa.inv
    obtain ⟨rfl, hj⟩ := VR.rf hv0
    have hAs : As.length = npar a := by
      have := congrArg List.length hws
      simp only [List.length_reverse, List.length_cons] at this
      omega
    have hstk : ws ++ wr = As.reverse ++ .ref (ad (c - 1) j) :: wr := by
      rw [hrev, hws]; simp
    have hp : PreS s H (PcA Γ m ad ws.reverse) (.ref (ad (c - 1) j) :: As) := ⟨PcA_blind, fun U hU hW => by
      have := hpre U hU hW
      rw [hws] at this ⊢
      exact this⟩
    rcases hw with hw | hw
    · obtain ⟨g1, g2, g3, -⟩ := hasM_k hw
      rw [if_neg (by omega)] at g3
      have hex : exT a = [] := List.isEmpty_iff.mp g3
      have hMet := xMet (l9 := l9) g2 hpl hlt hB (by rw [hav]; exact hS1.rev) hca
      have hv := init_void g2 hnm
      have hww := hasM_w hw
      have cw := cwI (R := R) (own := onm (mO M)) (index := k9) (bytes := mB a) (maxL := mxT a) (npar a) C.ws (good_A g1 g2) (by rw [← hv, ← cdW_c hex]) rfl rfl (C.w (hww _ (List.mem_of_getElem? (i := 2) rfl)) rfl) (C.w (hww _ (List.mem_of_getElem? (i := 0) rfl)) rfl) (C.w (hww _ (List.mem_of_getElem? (i := 1) rfl)) rfl) hnm ⟨(plainAt g2).1, (plainAt g2).2.1, (plainAt g2).2.2.2⟩ (hroom a g2)
      have hr := va_runI (g := F0 mm pc ls (ws ++ wr)) (cells := cells) (slots := slots) (locs := locs) (below := below) (meth := meth) (e := e) S hMet cw hp rfl hAs hsz hstk hW8 hdc ⟨hc, hs⟩
      exact back_run hr hK hlo hL hS2 kk
    · obtain ⟨g1, g2, g3, g4⟩ := hasM_k hw
      rw [if_neg (by omega)] at g3
      have hex : exT a = [] := List.isEmpty_iff.mp g3
      have hMet := xMet (l9 := l9) g2 hpl hlt hB (by rw [hav]; exact hS1.rev) hca
      have hv := init_void g2 hnm
      have hww := hasM_w hw
      obtain ⟨z, hz, h3⟩ := List.any_eq_true.mp (g4.resolve_left (fun q => q rfl))
      obtain ⟨e1, e2, e3⟩ := of_decide_eq_true h3
      have h4 := hK.2.2.1 z hz
      unfold cmw at h4
      rw [e1, e2, e3] at h4
      have cw := va_cnB (R := R) (own := onm (mO M)) (host := z.2.2.2) (index := k9) (bytes := mB a) (maxL := mxT a) (ret := none) (npar a) C.ws (good_A g1 g2) (by rw [← hv, ← cdW_c hex]) rfl rfl h4 (C.w (hww _ (List.mem_of_getElem? (i := 1) rfl)) rfl) ⟨(plainAt g2).1, (plainAt g2).2.1, (plainAt g2).2.2.2⟩ (hroom a g2)
      have hr := va_runIN (g := F0 mm pc ls (ws ++ wr)) (cells := cells) (slots := slots) (locs := locs) (below := below) (meth := meth) (e := e) S hMet ⟨cw, hnm, C.w (hww _ (List.mem_of_getElem? (i := 0) rfl)) rfl⟩ hp rfl hAs hsz hstk hW8 hdc ⟨hc, hs⟩
      exact back_run hr hK hlo hL hS2 kk
  | _ => simp [isInv] at hi
end MAIN
end
section
/-! A call that throws; the ends of a method -/
section MAINX
variable {Γ : Gm} {M : Nat} {p : Program} {l9 : Launch} {e : Env} {R : Room} {s : State} {mm : MethodId} {args : Array Value} {below : List Frame} {meth : Method} {c9 : Code} {Q : State → Prop} {m m1 m2 : Mem} {ad : Nat → Nat → Nat} {cells slots pc pc1 : Nat} {l l1 : Loc9} {st s1 : List AV} {H : Heap} {locs : List Loc} {ls : Array Slot} {sv : List Value}
/-- what is known where something was thrown -/
def ThX (Γ : Gm) (p : Program) (l9 : Launch) (e : Env) (R : Room) (s : State) (mm : MethodId) (args : Array Value) (below : List Frame) (meth : Method) (c9 : Code) (Q : State → Prop) (m m2 : Mem) (ad : Nat → Nat → Nat) (cells slots pc : Nat) (ls : Array Slot) (q : Nat × AV) : Prop :=
  ∀ (ad1 : Nat → Nat → Nat) (H1 : Heap) (locs1 : List Loc) (x : Addr) (ce : Cell) (wr : List Value), Ex m ad m2 ad1 → Rep Γ m2 ad1 H1 → KN Γ s H1 → (∀ z ∈ locs1, gB Γ ≤ z.base) → VR m2 ad1 q.2 (.ref x) → H1[x]? = some ce → ce.vm = .none → s.vm.findClass (exN q.1) = some ce.cls → vx_W p l9 e R s mm args below meth c9 H1 locs1 (cells + (mC m2 - mC m)) (slots + (mS m2 - mS m)) Q (F0 mm pc ls wr) x
theorem out_run {wr : List Value} {q : Nat × AV} {Qa : State → Outcome → State → Prop} (hQ : ∀ a b c, Qa a b c → False) (hr : vx_Run p l9 e R s mm args below meth c9 H locs cells slots (mC m2 - mC m) (mS m2 - mS m) (F0 mm pc ls sv) wr Qa (XCR Γ m ad q m2) (gA Γ)) (hK : KN Γ s H) (hlo : ∀ z ∈ locs, gB Γ ≤ z.base)
    (kk : ThX Γ p l9 e R s mm args below meth c9 Q m m2 ad cells slots pc ls q) : W p l9 e R s mm args below meth c9 H locs cells slots Q (F0 mm pc ls sv) := by
  intro T hT X
  rcases hr T hT X with ⟨v, st₀, t, T', L, -, -, -, -, -, hf, -⟩ | ⟨q', st₀, t, T', L, E, ce, h0, X', hL2, e1, e2, ⟨hE, ad1, hx, hR, hKt, hv⟩, hce, hcv, hcl, st⟩
  · exact (hQ _ _ _ hf).elim
  · have hal : s.vm.Alike t.vm := by rw [← e2]; exact X'.warmed.alike
    obtain ⟨tt, a1, b1⟩ := kk ad1 T'.heap (locs ++ L) q' ce wr hx (by rw [e1]; exact hR) (by rw [e1]; exact hK.back hal hKt) (fun z hz => by
      rcases List.mem_append.mp hz with h | h
      · exact hlo z h
      · exact hL2 z h) hv (by rw [e1]; exact hce) hcv (by rw [← hE]; exact hcl) T' rfl X'
    exact ⟨tt, st.trans a1, b1⟩
set_option maxHeartbeats 1000000 in
theorem sd_callX (hM : M < 281) (C : CX M p l9 s mm args meth c9) {i : Instr} {n a b c d d1 : Nat} {L : List (Int32 × Nat)} {av rest : List AV} {q : Nat × AV} (hE : okB M (pc, i, n, a, b, c, L) = true) (hi : isInv i = true) (h99 : c ≠ 99) (h50 : c ≠ 50) (h60 : c ≠ 60) (h61 : ¬ (61 ≤ c ∧ c ≤ 63)) (hpop : popN b [] st = some (av, rest)) (hcr : cats rest ≤ 8) (hca : cats av ≤ mxT a) (hrc : rcv9 c av = true) (hd1 : d = d1 + 1)
    (hth : thr9 a = true) (hB : Bod Γ l9 a av m (.inr q, m2) d1) (hfr : d + 16 ≤ R.frames) (hlc : 64 * d + 400 ≤ R.locals) (hc : cells + (mC m2 - mC m) ≤ R.cells) (hs : slots + (mS m2 - mS m) ≤ R.slots) (X : SX Γ M s m ad H locs l ls st sv)
    (kk : ThX Γ p l9 e R s mm args below meth c9 Q m m2 ad cells slots pc ls q) : W p l9 e R s mm args below meth c9 H locs cells slots Q (F0 mm pc ls sv) := by
  obtain ⟨hR, hK, hlo, hL, hS⟩ := X
  obtain ⟨xs, rfl, hav, hlen⟩ := popN_spec hpop
  rw [List.append_nil] at hav
  obtain ⟨ws, wr, rfl, hS1, hS2⟩ := hS.split
  have hSa : SR m ad av ws.reverse := by rw [hav]; exact hS1.rev
  obtain ⟨t1, hex, t3, t4⟩ := thr_at hth
  have hlt := C.2.2.2.2.2.2.2.2.2
  have hct := hS2.ct
  have hsz : ls.size = mxT M := by
    obtain ⟨-, lv, h1, -⟩ := hL
    exact h1.1
  have S : CallFix p mm c9 (mB M) (mxT M) s args (lw_tbl.filter goodWord) (onm (mO M)) := ⟨C.ex, C.by, C.ml, C.own, C.ws⟩
  have hW8 : 2 * (F0 mm pc ls (ws ++ wr)).monitorRoom + (wr.map fun v => v.category).sum ≤ 8 := by rw [hct]; show 2 * 0 + _ ≤ 8; omega
  have hpre : ∀ U : State, U.heap = H → s.WarmedH U.vm → PcA Γ m ad ws.reverse ws.reverse.toArray U := fun U hU hW => ⟨rfl, by rw [hU]; exact hK.moved hW, by rw [hU]; exact hR⟩
  have hroom : (rmD d1 (mC m2 - mC m) (mS m2 - mS m)).frames + 1 ≤ R.frames ∧ 8 + (mxT a + 11) + (rmD d1 (mC m2 - mC m) (mS m2 - mS m)).locals ≤ R.locals := by
    have := (plainAt t1).2.2.1
    refine ⟨?_, ?_⟩
    · show d1 + 16 + 1 ≤ _; omega
    · exact rm_le this hd1 hlc
  have hwl : ws.length = b := by rw [← hlen]; exact hS1.len.symm
  simp only [okB, Bool.and_eq_true, decide_eq_true_eq] at hE
  obtain ⟨hdc, hE⟩ := hE
  have hrev : ws ++ wr = ws.reverse.reverse ++ wr := by rw [List.reverse_reverse]
  cases i with
  | invokevirtual k9 =>
    simp only [Bool.and_eq_true, Bool.or_eq_true, beq_iff_eq, decide_eq_true_eq] at hE
    obtain ⟨rfl, hE⟩ := hE
    rcases hE with q | hE
    · exact absurd q h99
    obtain ⟨⟨⟨⟨⟨hcls, hc0⟩, hc15⟩, hb⟩, hw⟩, hpl⟩ := hE
    obtain ⟨j, r, hrv⟩ := rc_at hrc hc0
    rw [hrv] at hSa
    obtain ⟨w0, As, hws, hv0, hSr⟩ := hSa.inv
    obtain ⟨rfl, hj⟩ := VR.rf hv0
    have hAs : As.length = npar a := by
      have := congrArg List.length hws
      simp only [List.length_reverse, List.length_cons] at this
      omega
    have hstk : ws ++ wr = As.reverse ++ .ref (ad (c - 1) j) :: wr := by
      rw [hrev, hws]; simp
    have hrecv : ∃ cellB : Cell, H[ad (c - 1) j]? = some cellB ∧ cellB.vm.isStatics = false ∧ s.vm.findClass (mY a).cls = some cellB.cls := by
      by_cases h81 : c = 81
      · subst h81
        rw [if_pos rfl] at hcls
        have hj9 : j < 9 := by
          have := hR.2.2.2.2.2.1 80 (by omega)
          rw [show (81 - 1 : Nat) = 80 from rfl, this] at hj
          exact hj
        obtain ⟨⟨cell, g1, g2, g3, -⟩, -⟩ := hK.2.2.2.2.1.1 j hj9
        refine ⟨cell, ?_, g2, by rw [hcls]; exact g3⟩
        rw [show (81 - 1 : Nat) = 80 from rfl, hR.2.2.2.2.1 80 j (by omega)]
        exact g1
      · rw [if_neg h81] at hcls
        have hlt15 : c - 1 < 15 := by omega
        obtain ⟨cell, g1, g2, g3, -⟩ := hR.1 (c - 1) j hlt15 hj
        have hKa := (hK.1.1 (c - 1) _ (vwC_at hlt15)).2.1
        refine ⟨cell, g1, by rw [g3]; rfl, ?_⟩
        rw [hcls, on_cl hlt15, g2]
        exact hKa
    have hp : PreV s H (mY a).cls (ad (c - 1) j) (PcA Γ m ad ws.reverse) As := ⟨PcA_blind, hrecv, fun U hU hW => by
      have := hpre U hU hW
      rw [hws] at this ⊢
      exact this⟩
    have hMet := xMetX (l9 := l9) t1 hpl hlt hex hB (by rw [hav]; exact hS1.rev) hca
    rcases hw with hw | hw
    · obtain ⟨g1, g2, g3, -⟩ := hasM_k hw
      have cw := cwV (R := R) (own := onm (mO M)) (index := k9) (bytes := mB a) (maxL := mxT a) (ret := mRt a) (npar a) C.ws (good_V (Or.inl rfl) hw g1 g2) (by rw [← cdW_c hex]) rfl rfl ⟨rfl, (plainAt g2).1, (plainAt g2).2.1, (plainAt g2).2.2.2⟩ hroom
      have hr := vx_runV (g := F0 mm pc ls (ws ++ wr)) (cells := cells) (slots := slots) (locs := locs) (below := below) (meth := meth) (e := e) S hMet cw hp rfl hAs hsz hstk hW8 hdc ⟨hc, hs⟩
      exact out_run (fun _ _ _ h => h) hr hK hlo kk
    · obtain ⟨g1, g2, g3, -⟩ := hasM_k hw
      rw [if_pos (by omega), hex] at g3
      cases g3
  | invokestatic k9 =>
    simp only [Bool.and_eq_true, Bool.or_eq_true, beq_iff_eq, decide_eq_true_eq] at hE
    obtain ⟨rfl, hE⟩ := hE
    have hE : (c = 0 ∧ b = npar a) ∧ (hasM (mO M) k9 a 1 = true ∨ hasM (mO M) k9 a 5 = true) ∧ plainName (mY a).cls = true := by
      rcases hE with ((((q | q) | q) | q) | q) | q
      · exact absurd q h99
      · exact absurd q.1.1 h60
      · omega
      · omega
      · omega
      · exact ⟨q.1.1, q.1.2, q.2⟩
    obtain ⟨⟨hc0, hb⟩, hw, hpl⟩ := hE
    have hAs : ws.reverse.length = npar a := by rw [List.length_reverse]; omega
    have hp : PreS s H (PcA Γ m ad ws.reverse) ws.reverse := ⟨PcA_blind, hpre⟩
    have hMet := xMetX (l9 := l9) t1 hpl hlt hex hB hSa hca
    rcases hw with hw | hw
    · obtain ⟨g1, g2, g3, -⟩ := hasM_k hw
      have cw := va_cwS (R := R) (own := onm (mO M)) (index := k9) (bytes := mB a) (maxL := mxT a) (ret := mRt a) (npar a) C.ws (good_S (Or.inl rfl) hw g1 g2) (by rw [← cdW_c hex]) rfl rfl ⟨(plainAt g2).1, (plainAt g2).2.1, (plainAt g2).2.2.2⟩ hroom
      have hr := vx_runS (g := F0 mm pc ls (ws ++ wr)) (cells := cells) (slots := slots) (locs := locs) (below := below) (meth := meth) (e := e) S hMet cw hp rfl hAs hsz hrev hW8 hdc ⟨hc, hs⟩
      exact out_run (fun _ _ _ h => h) hr hK hlo kk
    · obtain ⟨g1, g2, g3, -⟩ := hasM_k hw
      rw [if_pos (by omega), hex] at g3
      cases g3
  | invokespecial k9 =>
    simp only [Bool.and_eq_true, Bool.or_eq_true, beq_iff_eq, decide_eq_true_eq] at hE
    obtain ⟨rfl, hE⟩ := hE
    rcases hE with (q | q) | hE
    · exact absurd q h50
    · exact absurd q h99
    exact absurd hE.2 t4
  | _ => simp [isInv] at hi
/-! The ends -/
theorem nar_byte {x : Int32} (h : -128 ≤ x ∧ x ≤ 127) : narrow .byte (.int x) = .int x := by
  have h1 : (-128 : Int) ≤ x.toInt := by have := Int32.le_iff_toInt_le.mp h.1; simpa using this
  have h2 : x.toInt ≤ 127 := by have := Int32.le_iff_toInt_le.mp h.2; simpa using this
  show Value.int x.toInt8.toInt32 = .int x
  congr 1
  apply Int32.toInt_inj.mp
  rw [Int8.toInt_toInt32, Int32.toInt_toInt8, Int.bmod_def]
  omega
theorem nar_bool {x : Int32} (h : x = 0 ∨ x = 1) : narrow .boolean (.int x) = .int x := by
  rcases h with rfl | rfl <;> rfl
theorem nar_char {x : Int32} (h : 0 ≤ x ∧ x ≤ 65535) : narrow .char (.int x) = .int x := by
  have h1 : (0 : Int) ≤ x.toInt := by have := Int32.le_iff_toInt_le.mp h.1; simpa using this
  have h2 : x.toInt ≤ 65535 := by have := Int32.le_iff_toInt_le.mp h.2; simpa using this
  have hd : x.toInt = x.toBitVec.toInt := rfl
  rw [hd, BitVec.toInt_eq_toNat_cond] at h1 h2
  have hlt := x.toBitVec.isLt
  have h3 : x.toBitVec.toNat < 65536 := by
    split at h1 <;> split at h2 <;> omega
  show Value.int x.toUInt32.toUInt16.toUInt32.toInt32 = .int x
  congr 1
  apply Int32.toBitVec_inj.mp
  apply BitVec.eq_of_toNat_eq
  show ((x.toBitVec.setWidth 16).setWidth 32).toNat = x.toBitVec.toNat
  simp only [BitVec.toNat_setWidth]
  omega
def irk (q : Nat × Ent9) : Bool := match q with
  | (_, .ireturn, _, a, _, _, _) => a == 0 || a == 1 || a == 2 || a == 4
  | _ => true
theorem irk_all : (List.range 281).all (fun M => (cdT M).all irk) = true := by decide +kernel
theorem EndK.ret {vo : Option AV} (h : EndK Γ M p l9 e R s mm args below meth c9 Q m ad cells slots (.inl vo, m)) (X : SX Γ M s m ad H locs l ls st sv) (hA : RAt m ad M pc vo sv) : W p l9 e R s mm args below meth c9 H locs cells slots Q (F0 mm pc ls sv) := by
  obtain ⟨hR, hK, hlo, -, -⟩ := X
  have k := h ad H locs pc ls sv Ex.rf hR hK hlo hA
  have e1 : cells + (mC m - mC m) = cells := by omega
  have e2 : slots + (mS m - mS m) = slots := by omega
  have k2 : W p l9 e R s mm args below meth c9 H locs (cells + (mC m - mC m)) (slots + (mS m - mS m)) Q (F0 mm pc ls sv) := k
  rw [e1, e2] at k2
  exact k2
theorem sd_ret (hM : M < 281) {i : Instr} {n a b c d : Nat} {L : List (Int32 × Nat)} {vo : Option AV} (hmem : (pc, i, n, a, b, c, L) ∈ cdT M) (hE : okB M (pc, i, n, a, b, c, L) = true) (h : stI sF sD sK sN i n a b c L d M pc l st m = sD (.inl vo, m2)) (he : isEnd i c = true) (X : SX Γ M s m ad H locs l ls st sv) (hend : EndK Γ M p l9 e R s mm args below meth c9 Q m ad cells slots (.inl vo, m2)) : W p l9 e R s mm args below meth c9 H locs cells slots Q (F0 mm pc ls sv) := by
  have hir := List.all_eq_true.mp (List.all_eq_true.mp irk_all M (List.mem_range.mpr hM)) _ hmem
  have hS := X.2.2.2.2
  simp only [okB, Bool.and_eq_true, decide_eq_true_eq] at hE
  obtain ⟨hdc, hE⟩ := hE
  cases i with
  | ireturn =>
    simp only [Bool.and_eq_true, beq_iff_eq] at hE
    obtain ⟨rfl, hE⟩ := hE
    simp only [stI, irt9] at h
    split at h
    · rename_i x
      obtain ⟨w, t, rfl, hv, ht⟩ := hS.inv
      cases hv
      match t, ht with
      | [], _ =>
        have fin : ∀ ty, mRt M = some ty → narrow ty (.int x) = .int x → some (vi x) = vo → m = m2 → W p l9 e R s mm args below meth c9 H locs cells slots Q (F0 mm pc ls [.int x]) := by
          intro ty h1 h2 h3 h4
          subst h3; subst h4
          exact EndK.ret hend X (Or.inl ⟨x, ty, rfl, rfl, hdc, h1, h2⟩)
        have hty : ∀ k, a = k → rcd (mRt M) = k := fun k hk => by rw [← hE]; exact hk
        simp only [irk, Bool.or_eq_true, beq_iff_eq] at hir
        rcases hir with ((rfl | rfl) | rfl) | rfl
        · cases h
          have h9 := hE.symm
          unfold rcd at h9
          split at h9 <;> first | cases h9 | skip
          rename_i hm; exact fin _ hm rfl rfl rfl
        · simp only at h
          split at h
          · rename_i hb
            cases h
            have h9 := hE.symm
            unfold rcd at h9
            split at h9 <;> first | cases h9 | skip
            rename_i hm; exact fin _ hm (nar_byte hb) rfl rfl
          · cases h
        · simp only at h
          split at h
          · rename_i hb
            cases h
            have h9 := hE.symm
            unfold rcd at h9
            split at h9 <;> first | cases h9 | skip
            rename_i hm; exact fin _ hm (nar_bool hb) rfl rfl
          · cases h
        · simp only at h
          split at h
          · rename_i hb
            cases h
            have h9 := hE.symm
            unfold rcd at h9
            split at h9 <;> first | cases h9 | skip
            rename_i hm; exact fin _ hm (nar_char hb) rfl rfl
          · cases h
    · cases h
  | lreturn =>
    simp only [Bool.and_eq_true, beq_iff_eq, decide_eq_true_eq] at hE
    obtain ⟨rfl, hE⟩ := hE
    simp only [stI] at h
    split at h
    · rename_i x
      obtain ⟨w, t, rfl, hv, ht⟩ := hS.inv
      cases hv
      match t, ht with
      | [], _ => cases h; exact EndK.ret hend X (Or.inr (Or.inl ⟨x, rfl, rfl, hdc, hE⟩))
    · cases h
  | areturn =>
    simp only [Bool.and_eq_true, beq_iff_eq] at hE
    obtain ⟨rfl, hE⟩ := hE
    simp only [stI] at h
    split at h
    · rename_i x
      obtain ⟨w, t, rfl, hv, ht⟩ := hS.inv
      match t, ht with
      | [], _ =>
        cases h
        have hrt : ∃ rt, mRt M = some rt ∧ ((∃ n, rt = .object n) ∨ ∃ t, rt = .array t) := by
          generalize mRt M = z at hE
          match z, hE with
          | none, hE => exact absurd hE (by decide)
          | some rt, hE =>
            refine ⟨rt, rfl, ?_⟩
            simp only [Option.getD, fcd] at hE
            split at hE <;> first | exact absurd hE (by decide) | exact Or.inl ⟨_, rfl⟩ | exact Or.inr ⟨_, rfl⟩
        obtain ⟨rt, g1, g2⟩ := hrt
        exact EndK.ret hend X (Or.inr (Or.inr (Or.inl ⟨x, w, rt, rfl, rfl, hv, hdc, g1, g2⟩)))
    · cases h
  | return_ =>
    simp only [Bool.and_eq_true, beq_iff_eq, decide_eq_true_eq] at hE
    obtain ⟨rfl, hE⟩ := hE
    simp only [stI] at h
    split at h
    · match sv, hS with
      | [], _ => cases h; exact EndK.ret hend X (Or.inr (Or.inr (Or.inr ⟨rfl, rfl, hdc, hE⟩)))
    · cases h
  | athrow =>
    simp only [stI] at h
    split at h
    · split at h
      · split at h <;> cases h
      · cases h
    · cases h
  | new k =>
    have hc : c = 77 := by simpa [isEnd] using he
    simp only [stI] at h
    rw [if_pos hc] at h
    split at h <;> cases h
  | _ => simp [isEnd] at he
/-! The throws -/
def nsA : List Cond := (xw_at "WholeFields" 257 "java/util/NoSuchElementException" 13 ⟨#[0x2a, 0x2b, 0xb7, 0x00, 0x0d, 0xb1]⟩ "java/lang/RuntimeException" ["java/lang/Exception"]).filter vx_no
def nsP : List (Nat × Nat) := [(1, 15), (6, 56), (6, 65), (6, 68), (6, 71), (6, 73), (6, 57), (6, 58), (1, 35), (1, 36), (6, 59), (6, 64), (6, 69), (6, 89), (6, 46), (6, 90), (6, 48), (6, 91), (6, 50), (6, 60), (6, 62), (6, 52), (6, 85), (6, 86), (6, 88), (6, 52), (6, 76), (6, 77), (6, 78), (6, 79), (6, 38), (6, 79), (6, 80), (6, 81), (6, 82), (6, 40), (6, 82), (6, 83), (6, 84), (6, 85), (6, 42), (6, 75), (6, 35), (6, 36), (6, 43), (6, 44), (6, 45), (6, 47), (6, 49), (6, 51), (6, 55), (6, 54), (6, 53)]
theorem ns_p : nsP.map atP = nsA.map some := by decide +kernel
theorem ns_w : ∀ w ∈ nsA, w ∈ lw_tbl := by
  intro w hw
  have h : some w ∈ nsP.map atP := by rw [ns_p]; exact List.mem_map.mpr ⟨w, hw, rfl⟩
  obtain ⟨z, -, hz⟩ := List.mem_map.mp h
  exact atP_in hz
theorem ns_g : nsA.all (fun w => vx_ot w) = true := by decide +kernel
theorem ns_b : nsA.filter (fun w => !goodWord w) = [.declares (Bundle.initS "java/lang/RuntimeException"), .declares (Bundle.initS "java/lang/Exception"), .declares (Bundle.initS Bundle.tN), .castable "java/util/NoSuchElementException" "java/util/NoSuchElementException"] := by decide +kernel
theorem ns_l : Cond.classLink "WholeFields" 253 "java/util/NoSuchElementException" ∈ lw_tbl ∧ Cond.initialized "java/util/NoSuchElementException" ∈ lw_tbl := ⟨atP_in (q := (6, 34)) (by decide +kernel), atP_in (q := (1, 27)) (by decide +kernel)⟩
theorem ns_d : decode (mB M_WF_stake) 45 = .ok (.new 253, 3) ∧ decode (mB M_WF_stake) 48 = .ok (.dup, 1) ∧ decode (mB M_WF_stake) 49 = .ok (.ldc 255, 2) ∧ decode (mB M_WF_stake) 51 = .ok (.invokespecial 257, 3) ∧ decode (mB M_WF_stake) 54 = .ok (.athrow, 1) := by decide +kernel
theorem Rep.more {m : Mem} {ad : Nat → Nat → Nat} {H H1 : Heap} (h : Rep Γ m ad H) (hq : ∀ q : Nat, q < H.size → H1[q]? = H[q]?) : Rep Γ m ad H1 := by
  obtain ⟨h1, h2, h3⟩ := h
  have hq2 : ∀ (q : Nat) (cell : Cell), H[q]? = some cell → H1[q]? = some cell := fun q cell hc => by
    rw [hq q (Array.getElem?_eq_some_iff.mp hc).1]; exact hc
  refine ⟨fun k j hk hj => ?_, fun k j hk hk2 hj => hq2 _ _ (h2 k j hk hk2 hj), h3⟩
  obtain ⟨cell, g1, g2⟩ := h1 k j hk hj
  exact ⟨cell, hq2 _ _ g1, g2⟩
theorem sd_new77 (C : CX M p l9 s mm args meth c9) (hM : M = M_WF_stake) (hpc : pc = 45) (hfr : 16 ≤ R.frames) (hlc : 400 ≤ R.locals) (hcs : cats st ≤ 8) (hc : cells + 1 ≤ R.cells) (hs : slots + 6 ≤ R.slots) (X : SX Γ M s m ad H locs l ls st sv) (hend : EndK Γ M p l9 e R s mm args below meth c9 Q m ad cells slots (.inr (0, vu), newX m 6)) : W p l9 e R s mm args below meth c9 H locs cells slots Q (F0 mm pc ls sv) := by
  subst hM; subst hpc
  obtain ⟨hR, hK, hlo, hL, hS⟩ := X
  obtain ⟨Qc, XC, rfl, hXC⟩ := hend
  have hsz : ls.size = mxT M_WF_stake := by
    obtain ⟨-, lv, h1, -⟩ := hL
    exact h1.1
  have e1 : mC (newX m 6) - mC m = 1 := by show mC m + 1 - mC m = 1; omega
  have e2 : mS (newX m 6) - mS m = 6 := by show mS m + 6 - mS m = 6; omega
  have htab : ∀ x ∈ c9.exceptionTable.toList, covers x (45 + 9) = false := by
    rw [show c9.exceptionTable.toList = tableOf (exT M_WF_stake) from C.2.2.2.2.2.2.2.2.1, show exT M_WF_stake = [] by decide +kernel]
    exact fun x hx => nomatch hx
  obtain ⟨d1, d2, d3, d4, d5⟩ := ns_d
  have hwb : ∀ w ∈ nsA, w.before args s = true := by
    refine vx_hat (B := [.declares (Bundle.initS "java/lang/RuntimeException"), .declares (Bundle.initS "java/lang/Exception"), .declares (Bundle.initS Bundle.tN), .castable "java/util/NoSuchElementException" "java/util/NoSuchElementException"]) (fun w hw => C.w (ns_w w (List.mem_filter.mp hw).1) (List.mem_filter.mp hw).2) (fun w hw => by rw [ns_b] at hw; exact hw) ?_
    obtain ⟨q1, q2, q3, q4⟩ := hK.2.2.2.2.2.2.2.2.2.2.2.2.2.1
    exact vx_c (q2.use rfl) (vx_c (q3.use rfl) (vx_c (q4.use rfl) (vx_c (q1.use rfl) vx_n)))
  have hct := hS.ct
  refine xw_throw (own := "WholeFields") (cls := "java/util/NoSuchElementException") (Y9 := "java/lang/RuntimeException") (names := ["java/lang/Exception"]) (ik := 253) (is := 255) (ic := 257) (ix := 13) (rx := ⟨#[0x2a, 0x2b, 0xb7, 0x00, 0x0d, 0xb1]⟩) (text := nth9 strX 0 "") (sa := gX Γ 80 0) (A := gA Γ) C.ex C.by C.2.2.2.2.2.2.2.2.2 (by decide +kernel) (by decide +kernel) (by decide +kernel) (by decide +kernel) C.own (by decide +kernel) (by decide +kernel) (by decide +kernel)
    (C.w ns_l.1 rfl) (C.w ns_l.2 rfl) (hK.2.2.2.1 (11, 255, 0) List.mem_cons_self) hwb ?_ hK.2.2.2.2.2.2.1 hK.2.2.2.2.2.2.2.1 (hsz.trans C.ml.symm) d1 d2 d3 d4 d5 htab ?_ ?_ hc hs C.2.2.2.2.2.2.1 ?_ hlo (by rw [e1]; exact Nat.le_refl _) (by rw [e2]; exact Nat.le_refl _)
  · intro w hw
    rcases List.mem_cons.mp hw with rfl | hw
    · rfl
    · rcases List.mem_cons.mp hw with rfl | hw
      · rfl
      · exact List.all_eq_true.mp ns_g w hw
  · show 1 + 4 < R.frames; omega
  · rw [hct]; show cats st + (13 * (1 + 2) + 43) ≤ R.locals; omega
  · intro t hW hz hq x
    refine hXC _ _ _ _ ⟨rfl, ad, ⟨fun _ => Nat.le_refl _, fun _ _ _ => rfl⟩, ?_, ?_, Or.inr ⟨x, rfl⟩⟩
    · exact Rep.more (m := newX m 6) hR hq
    · exact (hK.moved hW).kept hz (fun a ha _ => hq a ha)
theorem sd_ath (C : CX M p l9 s mm args meth c9) {j : Nat} {rest : List AV} (hth : thr9 M = true) (hdc : decode (mB M) pc = .ok (.athrow, 1)) (X : SX Γ M s m ad H locs l ls (vr 13 j :: rest) sv) (hend : EndK Γ M p l9 e R s mm args below meth c9 Q m ad cells slots (.inr (1, vr 13 j), m)) : W p l9 e R s mm args below meth c9 H locs cells slots Q (F0 mm pc ls sv) := by
  obtain ⟨hR, hK, hlo, hL, hS⟩ := X
  obtain ⟨Qc, XC, rfl, hXC⟩ := hend
  obtain ⟨w, t, rfl, hv, ht⟩ := hS.inv
  have hv0 := hv
  obtain ⟨rfl, hj⟩ := VR.rf hv
  have htab : ∀ x ∈ c9.exceptionTable.toList, covers x pc = false := by
    rw [show c9.exceptionTable.toList = tableOf (exT M) from C.2.2.2.2.2.2.2.2.1, (thr_at hth).2.1]
    exact fun x hx => nomatch hx
  obtain ⟨cell, g1, g2, g3, -⟩ := hR.1 13 j (by omega) hj
  have hKa := (hK.1.1 13 _ (vwC_at (by omega))).2.1
  exact xw_ath (E := exN 1) C.ex C.by hdc htab C.2.2.2.2.2.2.1 g1 g3 (by rw [g2]; exact hKa) (fun t ht hW => hXC _ _ _ _ ⟨rfl, ad, Ex.rf, by rw [ht]; exact hR, by rw [ht]; exact hK.moved hW, hv0⟩) hlo (by omega) (by omega)
end MAINX
end
section
/-! The theorem: a run of the evaluator is the machine's -/
theorem EndK.step {Γ : Gm} {M : Nat} {p : Program} {l9 : Launch} {e : Env} {R : Room} {s : State} {mm : MethodId} {args : Array Value} {below : List Frame} {meth : Method} {c9 : Code} {Q : State → Prop} {m m1 : Mem} {ad ad1 : Nat → Nat → Nat} {cells slots : Nat} {r : Res9} (h : EndK Γ M p l9 e R s mm args below meth c9 Q m ad cells slots r) (hx : Ex m ad m1 ad1) (h1 : mC m ≤ mC m1) (h2 : mC m1 ≤ mC r.2) (h3 : mS m ≤ mS m1) (h4 : mS m1 ≤ mS r.2) : EndK Γ M p l9 e R s mm args below meth c9 Q m1 ad1 (cells + (mC m1 - mC m)) (slots + (mS m1 - mS m)) r := by
  obtain ⟨o, m2⟩ := r
  replace h2 : mC m1 ≤ mC m2 := h2
  replace h4 : mS m1 ≤ mS m2 := h4
  have e1 : cells + (mC m1 - mC m) + (mC m2 - mC m1) = cells + (mC m2 - mC m) := by omega
  have e2 : slots + (mS m1 - mS m) + (mS m2 - mS m1) = slots + (mS m2 - mS m) := by omega
  match o, h with
  | .inl vo, h =>
    intro ad2 H1 locs1 pc1 ls1 sv1 g1 g2 g3 g4 g5
    have k : W p l9 e R s mm args below meth c9 H1 locs1 (cells + (mC m2 - mC m)) (slots + (mS m2 - mS m)) Q (F0 mm pc1 ls1 sv1) := h ad2 H1 locs1 pc1 ls1 sv1 (hx.tr g1) g2 g3 g4 g5
    rw [← e1, ← e2] at k
    exact k
  | .inr q, h =>
    obtain ⟨Qc, XC, g1, g2⟩ := h
    refine ⟨Qc, XC, ?_, fun En a st t g => g2 En a st t ?_⟩
    · replace g1 : Q = vx_MQ below Qc XC args s (cells + (mC m2 - mC m)) (slots + (mS m2 - mS m)) (gA Γ) := g1
      rw [← e1, ← e2] at g1
      exact g1
    · obtain ⟨g3, ad2, g4, g5⟩ := g
      exact ⟨g3, ad2, hx.tr g4, g5⟩
theorem hd_at {M pc E hp : Nat} (h : hnd9 (hdT M) pc E = some hp) : (M = 176 ∧ pc < 10 ∧ E = 0 ∧ hp = 13) ∨ (M = 186 ∧ 54 ≤ pc ∧ pc < 62 ∧ E = 1 ∧ hp = 65) := by
  unfold hdT at h
  split at h
  · rename_i hM
    simp only [hnd9] at h
    split at h
    · rename_i g
      cases h
      exact Or.inl ⟨hM, g.2.1, g.2.2.symm, rfl⟩
    · cases h
  · split at h
    · rename_i hM
      simp only [hnd9] at h
      split at h
      · rename_i g
        cases h
        exact Or.inr ⟨hM, g.1, g.2.1, g.2.2.symm, rfl⟩
      · cases h
    · cases h
theorem ct_w : Cond.classLink "WholeFieldsLaw" 13 "java/util/NoSuchElementException" ∈ lw_tbl ∧ Cond.classLink "WholeFieldsModel" 13 "WholeFieldsModel$Stop" ∈ lw_tbl := ⟨atP_in (q := (6, 29)) (by decide +kernel), atP_in (q := (6, 110)) (by decide +kernel)⟩
theorem ct_o : onm (mO 176) = "WholeFieldsLaw" ∧ onm (mO 186) = "WholeFieldsModel" ∧ exT 176 = [(0, 10, 13, 13)] ∧ exT 186 = [(54, 62, 65, 13)] := by decide +kernel
theorem ath_inv {n a b c d M pc : Nat} {L : List (Int32 × Nat)} {l : Loc9} {st : List AV} {m m2 : Mem} {q : Nat × AV} (h : stI sF sD sK sN .athrow n a b c L d M pc l st m = sD (.inr q, m2)) : ∃ j rest, st = vr 13 j :: rest ∧ q = (1, vr 13 j) ∧ m2 = m := by
  simp only [stI] at h
  split at h
  · rename_i q9 rest9
    split at h
    · rename_i h13
      split at h
      · cases h
        obtain ⟨q91, q92⟩ := q9
        replace h13 : q91 = 13 := h13
        subst h13
        exact ⟨q92, rest9, rfl, rfl, rfl⟩
      · cases h
    · cases h
  · cases h
/-- a run of the evaluator, at the machine -/
def Snd (Γ : Gm) (l9 : Launch) (d M pc : Nat) (l : Loc9) (st : List AV) (m : Mem) (r : Res9) : Prop :=
  ∀ (p : Program) (e : Env) (R : Room) (s : State) (mm : MethodId) (args : Array Value) (below : List Frame) (meth : Method) (c9 : Code) (Q : State → Prop) (ad : Nat → Nat → Nat) (cells slots : Nat) (H : Heap) (locs : List Loc) (ls : Array Slot) (sv : List Value), CX M p l9 s mm args meth c9 → SX Γ M s m ad H locs l ls st sv → d + 16 ≤ R.frames → 64 * d + 400 ≤ R.locals → cells + (mC r.2 - mC m) ≤ R.cells → slots + (mS r.2 - mS m) ≤ R.slots → EndK Γ M p l9 e R s mm args below meth c9 Q m ad cells slots r → W p l9 e R s mm args below meth c9 H locs cells slots Q (F0 mm pc ls sv)
theorem two_le {c a b d x : Nat} (h1 : a ≤ b) (h2 : b ≤ d) (h : c + (d - a) ≤ x) : c + (b - a) ≤ x := by omega
theorem two_le2 {c a b d x : Nat} (h1 : a ≤ b) (h2 : b ≤ d) (h : c + (d - a) ≤ x) : c + (b - a) + (d - b) ≤ x := by omega
theorem big_le {d x : Nat} (h : d + 16 ≤ x) : 16 ≤ x := by omega
set_option maxRecDepth 20000 in
theorem big_le2 {d x : Nat} (h : 64 * d + 400 ≤ x) : 400 ≤ x := by omega
set_option maxHeartbeats 1000000 in
theorem sound {Γ : Gm} {l9 : Launch} : ∀ (n d M pc : Nat) (l : Loc9) (st : List AV) (m : Mem) (r : Res9), ev9 n d M pc l st m = some r → Snd Γ l9 d M pc l st m r := by
  intro n
  induction n with
  | zero => intro d M pc l st m r h; cases h
  | succ n ih =>
    intro d M pc l st m r h p e R s mm args below meth c9 Q ad cells slots H locs ls sv C X hfr hlc hc hs hend
    have hM := ev_lt h
    rw [ev9] at h
    unfold st1 stp at h
    cases hlk : (cdT M).lookup pc with
    | none => rw [hlk] at h; cases h
    | some q =>
      obtain ⟨i, n9, a, b, c, L⟩ := q
      rw [hlk] at h
      replace h : fo9 none some (fun d1 a args rest pc1 l1 m1 => ret9 (ev9 n d M) M pc pc1 l1 rest (ev9 n d1 a 0 (entL args (mxT a)) [] m1)) (ev9 n d M) (stI sF sD sK sN i n9 a b c L d M pc l st m) = some r := h
      have hmem := lookup_mem hlk
      have hE := List.all_eq_true.mp (ok_at M) _ hmem
      have hoj := List.all_eq_true.mp (oj_at M) _ hmem
      have hnx : ∀ x : St9, PN m x → stI sF sD sK sN i n9 a b c L d M pc l st m = x → fo9 none some (fun d1 a args rest pc1 l1 m1 => ret9 (ev9 n d M) M pc pc1 l1 rest (ev9 n d1 a 0 (entL args (mxT a)) [] m1)) (ev9 n d M) x = some r → W p l9 e R s mm args below meth c9 H locs cells slots Q (F0 mm pc ls sv) := by
        intro x hx hst hf
        rcases hx with rfl | ⟨pc1, l1, s1, m1, rfl, h1, h2⟩
        · cases hf
        · replace hf : ev9 n d M pc1 l1 s1 m1 = some r := hf
          have g := ev_C _ _ _ _ _ _ _ _ hf
          exact sd_next hM C hE hoj hst (big_le hfr) (big_le2 hlc) (two_le h1 g.1 hc) (two_le h2 g.2 hs) X (fun ad1 H1 locs1 ls1 sv1 hx X1 => ih _ _ _ _ _ _ _ hf p e R s mm args below meth c9 Q ad1 _ _ H1 locs1 ls1 sv1 C X1 hfr hlc (two_le2 h1 g.1 hc) (two_le2 h2 g.2 hs) (hend.step hx h1 g.1 h2 g.2))
      rcases stI_kind i n9 a b c L d M pc l st m with hp | ⟨hinv, hp⟩ | hp
      · exact hnx _ hp rfl h
      · rcases pn_inv (m := m) (pc := pc + n9) (l := l) (st := st) (d := d) (a := a) (b := b) (c := c) with hp2 | ⟨⟨d1, a1, av, rest, pc2, l2, m2⟩, hq⟩
        · rw [hp] at h
          exact hnx _ hp2 hp h
        · rw [hp, hq] at h
          obtain ⟨h99, h50, h60, h61, hpop, hcr, hca, hrc, hd1, rfl, rfl, rfl, rfl⟩ := iv_call hq
          simp only [fo9] at h
          cases hcl : ev9 n d1 a1 0 (entL av (mxT a1)) [] m2 with
          | none => rw [hcl] at h; cases h
          | some q2 =>
            rw [hcl] at h
            have g1 := ev_C _ _ _ _ _ _ _ _ hcl
            have hB : Bod Γ l9 a1 av m2 q2 d1 := ih _ _ _ _ _ _ _ hcl
            match q2, h, g1, hB, hcl with
            | (.inl none, m3), h, g1, hB, _ =>
              have g2 := ev_C _ _ _ _ _ _ _ _ h
              exact sd_call hM C hE hinv h99 h50 h60 h61 hpop hcr hca hrc hd1 hB hfr hlc (two_le g1.1 g2.1 hc) (two_le g1.2 g2.2 hs) X (fun ad1 H1 locs1 sv1 hx X1 => ih _ _ _ _ _ _ _ h p e R s mm args below meth c9 Q ad1 _ _ H1 locs1 ls sv1 C X1 hfr hlc (two_le2 g1.1 g2.1 hc) (two_le2 g1.2 g2.2 hs) (hend.step hx g1.1 g2.1 g1.2 g2.2))
            | (.inl (some v), m3), h, g1, hB, _ =>
              have g2 := ev_C _ _ _ _ _ _ _ _ h
              exact sd_call hM C hE hinv h99 h50 h60 h61 hpop hcr hca hrc hd1 hB hfr hlc (two_le g1.1 g2.1 hc) (two_le g1.2 g2.2 hs) X (fun ad1 H1 locs1 sv1 hx X1 => ih _ _ _ _ _ _ _ h p e R s mm args below meth c9 Q ad1 _ _ H1 locs1 ls sv1 C X1 hfr hlc (two_le2 g1.1 g2.1 hc) (two_le2 g1.2 g2.2 hs) (hend.step hx g1.1 g2.1 g1.2 g2.2))
            | (.inr q3, m3), h, g1, hB, hcl =>
              have hth := ev_thr _ _ _ _ _ _ _ _ _ hcl
              simp only [ret9] at h
              split at h
              · rename_i hp9 hnd
                have g2 := ev_C _ _ _ _ _ _ _ _ h
                refine sd_callX hM C hE hinv h99 h50 h60 h61 hpop hcr hca hrc hd1 hth hB hfr hlc (two_le g1.1 g2.1 hc) (two_le g1.2 g2.2 hs) X ?_
                intro ad1 H1 locs1 x ce wr hx hR1 hK1 hlo1 hv1 hce hcv hcf
                have kk : W p l9 e R s mm args below meth c9 H1 locs1 (cells + (mC m3 - mC m2)) (slots + (mS m3 - mS m2)) Q (F0 mm hp9 ls [.ref x]) := ih _ _ _ _ _ _ _ h p e R s mm args below meth c9 Q ad1 _ _ H1 locs1 ls [.ref x] C ⟨hR1, hK1, hlo1, X.2.2.2.1.ex hx, hv1, trivial⟩ hfr hlc (two_le2 g1.1 g2.1 hc) (two_le2 g1.2 g2.2 hs) (hend.step hx g1.1 g2.1 g1.2 g2.2)
                have hown := C.own
                have htab : c9.exceptionTable.toList = tableOf (exT M) := C.2.2.2.2.2.2.2.2.1
                rcases hd_at hnd with ⟨rfl, b1, b2, rfl⟩ | ⟨rfl, b0, b1, b2, rfl⟩
                · rw [ct_o.1] at hown
                  rw [ct_o.2.2.1] at htab
                  rw [b2] at hcf
                  exact vx_catch (E := exN 0) (name := "java/util/NoSuchElementException") hown ⟨0, 10, 13, 13⟩ htab (by simp [covers, b1]) (by decide) (C.w ct_w.1 rfl) (hK1.2.2.2.2.2.2.2.2.2.2.2.2.2.1.1.use rfl) hce hcv hcf kk
                · rw [ct_o.2.1] at hown
                  rw [ct_o.2.2.2] at htab
                  rw [b2] at hcf
                  exact vx_catch (E := exN 1) (name := "WholeFieldsModel$Stop") hown ⟨54, 62, 65, 13⟩ htab (by simp [covers, b0, b1]) (by decide) (C.w ct_w.2 rfl) (hK1.2.2.2.2.2.2.2.2.2.2.2.2.2.2.use rfl) hce hcv hcf kk
              · split at h
                · rename_i hthM
                  cases h
                  refine sd_callX hM C hE hinv h99 h50 h60 h61 hpop hcr hca hrc hd1 hth hB hfr hlc hc hs X ?_
                  intro ad1 H1 locs1 x ce wr hx hR1 hK1 hlo1 hv1 hce hcv hcf
                  obtain ⟨Qc, XC, rfl, hXC⟩ := hend
                  have htab : ∀ z ∈ c9.exceptionTable.toList, covers z pc = false := by
                    rw [show c9.exceptionTable.toList = tableOf (exT M) from C.2.2.2.2.2.2.2.2.1, (thr_at hthM).2.1]
                    exact fun z hz => nomatch hz
                  exact xw_out (E := exN q3.1) htab C.2.2.2.2.2.2.1 hce hcv hcf (fun t ht hW => hXC _ _ _ _ ⟨rfl, ad1, hx, by rw [ht]; exact hR1, by rw [ht]; exact hK1.moved hW, hv1⟩) hlo1 (Nat.le_refl _) (Nat.le_refl _)
                · cases h
      · rcases stI_end (n := n9) (a := a) (b := b) (L := L) (d := d) (M := M) (pc := pc) (l := l) (st := st) (m := m) hp with e9 | ⟨r2, e9, g⟩
        · rw [e9] at h; cases h
        · rw [e9] at h
          cases h
          match r, e9, g, hend, hc, hs with
          | (.inl vo, m2), e9, g, hend, hc, hs => exact sd_ret hM hmem hE e9 hp X hend
          | (.inr q3, m2), e9, g, hend, hc, hs =>
            have hxe := stI_inr hp e9
            have hth := thr_of hM hmem hxe
            cases i with
            | athrow =>
              simp only [okB, Bool.and_eq_true, decide_eq_true_eq] at hE
              obtain ⟨hdc, hE⟩ := hE
              simp only [beq_iff_eq] at hE
              subst hE
              obtain ⟨j, rest, rfl, rfl, rfl⟩ := ath_inv e9
              exact sd_ath C hth hdc X hend
            | new k =>
              have hc77 : c = 77 := by simpa [isEnd] using hp
              subst hc77
              simp only [okB, Bool.and_eq_true, decide_eq_true_eq, Bool.or_eq_true, beq_iff_eq, thrOK] at hE
              obtain ⟨hdc, rfl, hE⟩ := hE
              rcases hE with ⟨⟨⟨q, -⟩, -⟩, -⟩ | ⟨⟨-, rfl⟩, hMM, hpc⟩
              · exact absurd q (by decide)
              · simp only [stI] at e9
                rw [if_pos trivial] at e9
                split at e9
                · rename_i hcs
                  cases e9
                  have f1 : mC (newX m 6) - mC m = 1 := by show mC m + 1 - mC m = 1; omega
                  have f2 : mS (newX m 6) - mS m = 6 := by show mS m + 6 - mS m = 6; omega
                  replace hc : cells + (mC (newX m 6) - mC m) ≤ R.cells := hc
                  replace hs : slots + (mS (newX m 6) - mS m) ≤ R.slots := hs
                  rw [f1] at hc
                  rw [f2] at hs
                  exact sd_new77 C hMM hpc (big_le hfr) (big_le2 hlc) hcs hc hs X hend
                · cases e9
            | _ => simp [xend] at hxe
end
