section
-- ===== PART A: goes FIRST, ahead of the names: the tables' words, and 'selects' of the private methods out of them =====
/-- a private method of a class that the tables say can be made, by its rows of tables_1 -/
def lw_okq (q : MethodName × Nat) : Prop := (q.1.cls ≠ "java/lang/invoke/MethodHandle" ∧ q.1.cls ≠ "java/lang/invoke/VarHandle") ∧ Cond.instantiable q.1.cls q.2 ∈ tables_1 ∧ Cond.privateMethod q.1 ∈ tables_1 ∧ Cond.instanceMethod q.1 ∈ tables_1
theorem lw_p0 : lw_okq (⟨"SlateHills", "refuse", "(I)I"⟩, 12) := ⟨⟨by decide +kernel, by decide +kernel⟩, List.mem_of_getElem? (i := 15) (by decide +kernel), List.mem_of_getElem? (i := 231) (by decide +kernel), List.mem_of_getElem? (i := 232) (by decide +kernel)⟩
theorem lw_p1 : lw_okq (⟨"SlateHills$Reader", "readClerk", "()Z"⟩, 8) := ⟨⟨by decide +kernel, by decide +kernel⟩, List.mem_of_getElem? (i := 147) (by decide +kernel), List.mem_of_getElem? (i := 286) (by decide +kernel), List.mem_of_getElem? (i := 287) (by decide +kernel)⟩
theorem lw_p2 : lw_okq (⟨"SlateHills$Reader", "step", "()V"⟩, 8) := ⟨⟨by decide +kernel, by decide +kernel⟩, List.mem_of_getElem? (i := 147) (by decide +kernel), List.mem_of_getElem? (i := 290) (by decide +kernel), List.mem_of_getElem? (i := 291) (by decide +kernel)⟩
theorem lw_p3 : lw_okq (⟨"SlateHills$Reader", "takeWord", "()V"⟩, 8) := ⟨⟨by decide +kernel, by decide +kernel⟩, List.mem_of_getElem? (i := 147) (by decide +kernel), List.mem_of_getElem? (i := 297) (by decide +kernel), List.mem_of_getElem? (i := 298) (by decide +kernel)⟩
theorem lw_p4 : lw_okq (⟨"SlateHills$Reader", "spells", "(Ljava/lang/String;)Z"⟩, 8) := ⟨⟨by decide +kernel, by decide +kernel⟩, List.mem_of_getElem? (i := 147) (by decide +kernel), List.mem_of_getElem? (i := 302) (by decide +kernel), List.mem_of_getElem? (i := 303) (by decide +kernel)⟩
theorem lw_p5 : lw_okq (⟨"SlateHills$Reader", "takeNumber", "()V"⟩, 8) := ⟨⟨by decide +kernel, by decide +kernel⟩, List.mem_of_getElem? (i := 147) (by decide +kernel), List.mem_of_getElem? (i := 360) (by decide +kernel), List.mem_of_getElem? (i := 361) (by decide +kernel)⟩
theorem lw_p6 : lw_okq (⟨"SlateHills$Reader", "stepToNumber", "(I)Z"⟩, 8) := ⟨⟨by decide +kernel, by decide +kernel⟩, List.mem_of_getElem? (i := 147) (by decide +kernel), List.mem_of_getElem? (i := 364) (by decide +kernel), List.mem_of_getElem? (i := 365) (by decide +kernel)⟩
theorem lw_p7 : lw_okq (⟨"SlateHills$Reader", "stepToEndOfItem", "()Z"⟩, 8) := ⟨⟨by decide +kernel, by decide +kernel⟩, List.mem_of_getElem? (i := 147) (by decide +kernel), List.mem_of_getElem? (i := 369) (by decide +kernel), List.mem_of_getElem? (i := 370) (by decide +kernel)⟩
theorem lw_p8 : lw_okq (⟨"SlateHills$Reader", "endsItem", "()Z"⟩, 8) := ⟨⟨by decide +kernel, by decide +kernel⟩, List.mem_of_getElem? (i := 147) (by decide +kernel), List.mem_of_getElem? (i := 373) (by decide +kernel), List.mem_of_getElem? (i := 374) (by decide +kernel)⟩
theorem lw_p9 : lw_okq (⟨"SlateHills$Reader", "readVines", "()Z"⟩, 8) := ⟨⟨by decide +kernel, by decide +kernel⟩, List.mem_of_getElem? (i := 147) (by decide +kernel), List.mem_of_getElem? (i := 377) (by decide +kernel), List.mem_of_getElem? (i := 378) (by decide +kernel)⟩
theorem lw_p10 : lw_okq (⟨"SlateHills$Reader", "readHill", "()Z"⟩, 8) := ⟨⟨by decide +kernel, by decide +kernel⟩, List.mem_of_getElem? (i := 147) (by decide +kernel), List.mem_of_getElem? (i := 381) (by decide +kernel), List.mem_of_getElem? (i := 382) (by decide +kernel)⟩
theorem lw_p11 : lw_okq (⟨"SlateHills$Reader", "readDays", "()Z"⟩, 8) := ⟨⟨by decide +kernel, by decide +kernel⟩, List.mem_of_getElem? (i := 147) (by decide +kernel), List.mem_of_getElem? (i := 387) (by decide +kernel), List.mem_of_getElem? (i := 388) (by decide +kernel)⟩
theorem lw_p12 : lw_okq (⟨"SlateHills$Land", "firstOver", "()I"⟩, 9) := ⟨⟨by decide +kernel, by decide +kernel⟩, List.mem_of_getElem? (i := 29) (by decide +kernel), List.mem_of_getElem? (i := 435) (by decide +kernel), List.mem_of_getElem? (i := 436) (by decide +kernel)⟩
theorem lw_p13 : lw_okq (⟨"SlateHills$Land", "loseAround", "(I)I"⟩, 9) := ⟨⟨by decide +kernel, by decide +kernel⟩, List.mem_of_getElem? (i := 29) (by decide +kernel), List.mem_of_getElem? (i := 439) (by decide +kernel), List.mem_of_getElem? (i := 440) (by decide +kernel)⟩
theorem lw_p14 : lw_okq (⟨"SlateHills$Land", "spreadAround", "(I)V"⟩, 9) := ⟨⟨by decide +kernel, by decide +kernel⟩, List.mem_of_getElem? (i := 29) (by decide +kernel), List.mem_of_getElem? (i := 446) (by decide +kernel), List.mem_of_getElem? (i := 447) (by decide +kernel)⟩
theorem lw_p15 : lw_okq (⟨"SlateHills$Outlook", "startAllFrom", "(LSlateHills$Land;I)V"⟩, 6) := ⟨⟨by decide +kernel, by decide +kernel⟩, List.mem_of_getElem? (i := 117) (by decide +kernel), List.mem_of_getElem? (i := 540) (by decide +kernel), List.mem_of_getElem? (i := 541) (by decide +kernel)⟩
def lw_privs_1 : List (MethodName × Nat) := [(⟨"SlateHills", "refuse", "(I)I"⟩, 12), (⟨"SlateHills$Reader", "readClerk", "()Z"⟩, 8), (⟨"SlateHills$Reader", "step", "()V"⟩, 8), (⟨"SlateHills$Reader", "takeWord", "()V"⟩, 8), (⟨"SlateHills$Reader", "spells", "(Ljava/lang/String;)Z"⟩, 8), (⟨"SlateHills$Reader", "takeNumber", "()V"⟩, 8), (⟨"SlateHills$Reader", "stepToNumber", "(I)Z"⟩, 8), (⟨"SlateHills$Reader", "stepToEndOfItem", "()Z"⟩, 8), (⟨"SlateHills$Reader", "endsItem", "()Z"⟩, 8), (⟨"SlateHills$Reader", "readVines", "()Z"⟩, 8), (⟨"SlateHills$Reader", "readHill", "()Z"⟩, 8), (⟨"SlateHills$Reader", "readDays", "()Z"⟩, 8), (⟨"SlateHills$Land", "firstOver", "()I"⟩, 9), (⟨"SlateHills$Land", "loseAround", "(I)I"⟩, 9), (⟨"SlateHills$Land", "spreadAround", "(I)V"⟩, 9), (⟨"SlateHills$Outlook", "startAllFrom", "(LSlateHills$Land;I)V"⟩, 6)]
theorem lw_r1 : ∀ q ∈ lw_privs_1, lw_okq q := List.forall_mem_cons.mpr ⟨lw_p0, List.forall_mem_cons.mpr ⟨lw_p1, List.forall_mem_cons.mpr ⟨lw_p2, List.forall_mem_cons.mpr ⟨lw_p3, List.forall_mem_cons.mpr ⟨lw_p4, List.forall_mem_cons.mpr ⟨lw_p5, List.forall_mem_cons.mpr ⟨lw_p6, List.forall_mem_cons.mpr ⟨lw_p7, List.forall_mem_cons.mpr ⟨lw_p8, List.forall_mem_cons.mpr ⟨lw_p9, List.forall_mem_cons.mpr ⟨lw_p10, List.forall_mem_cons.mpr ⟨lw_p11, List.forall_mem_cons.mpr ⟨lw_p12, List.forall_mem_cons.mpr ⟨lw_p13, List.forall_mem_cons.mpr ⟨lw_p14, List.forall_mem_cons.mpr ⟨lw_p15, fun _ h => absurd h List.not_mem_nil⟩⟩⟩⟩⟩⟩⟩⟩⟩⟩⟩⟩⟩⟩⟩⟩
theorem lw_p16 : lw_okq (⟨"SlateHills$Outlook", "tryRows", "(II)V"⟩, 6) := ⟨⟨by decide +kernel, by decide +kernel⟩, List.mem_of_getElem? (i := 117) (by decide +kernel), List.mem_of_getElem? (i := 546) (by decide +kernel), List.mem_of_getElem? (i := 547) (by decide +kernel)⟩
theorem lw_p17 : lw_okq (⟨"SlateHills$Outlook", "keepIfBetter", "(II)V"⟩, 6) := ⟨⟨by decide +kernel, by decide +kernel⟩, List.mem_of_getElem? (i := 117) (by decide +kernel), List.mem_of_getElem? (i := 554) (by decide +kernel), List.mem_of_getElem? (i := 555) (by decide +kernel)⟩
theorem lw_p18 : lw_okq (⟨"SlateHills$State", "matterFits", "(II)Z"⟩, 9) := ⟨⟨by decide +kernel, by decide +kernel⟩, List.mem_of_getElem? (i := 23) (by decide +kernel), List.mem_of_getElem? (i := 594) (by decide +kernel), List.mem_of_getElem? (i := 595) (by decide +kernel)⟩
theorem lw_p19 : lw_okq (⟨"SlateHills", "clearest", "(ZIIII)I"⟩, 12) := ⟨⟨by decide +kernel, by decide +kernel⟩, List.mem_of_getElem? (i := 15) (by decide +kernel), List.mem_of_getElem? (i := 603) (by decide +kernel), List.mem_of_getElem? (i := 604) (by decide +kernel)⟩
theorem lw_p20 : lw_okq (⟨"SlateHills", "fillAmounts", "(ZII)V"⟩, 12) := ⟨⟨by decide +kernel, by decide +kernel⟩, List.mem_of_getElem? (i := 15) (by decide +kernel), List.mem_of_getElem? (i := 607) (by decide +kernel), List.mem_of_getElem? (i := 608) (by decide +kernel)⟩
theorem lw_p21 : lw_okq (⟨"SlateHills", "mostAlike", "(I)I"⟩, 12) := ⟨⟨by decide +kernel, by decide +kernel⟩, List.mem_of_getElem? (i := 15) (by decide +kernel), List.mem_of_getElem? (i := 611) (by decide +kernel), List.mem_of_getElem? (i := 612) (by decide +kernel)⟩
theorem lw_p22 : lw_okq (⟨"SlateHills$State", "clerkFits", "(I)Z"⟩, 9) := ⟨⟨by decide +kernel, by decide +kernel⟩, List.mem_of_getElem? (i := 23) (by decide +kernel), List.mem_of_getElem? (i := 635) (by decide +kernel), List.mem_of_getElem? (i := 636) (by decide +kernel)⟩
theorem lw_p23 : lw_okq (⟨"SlateHills", "fillLosses", "()V"⟩, 12) := ⟨⟨by decide +kernel, by decide +kernel⟩, List.mem_of_getElem? (i := 15) (by decide +kernel), List.mem_of_getElem? (i := 648) (by decide +kernel), List.mem_of_getElem? (i := 649) (by decide +kernel)⟩
theorem lw_p24 : lw_okq (⟨"SlateHills", "lossBetween", "(II)I"⟩, 12) := ⟨⟨by decide +kernel, by decide +kernel⟩, List.mem_of_getElem? (i := 15) (by decide +kernel), List.mem_of_getElem? (i := 652) (by decide +kernel), List.mem_of_getElem? (i := 653) (by decide +kernel)⟩
theorem lw_p25 : lw_okq (⟨"SlateHills", "rests", "(II)Z"⟩, 12) := ⟨⟨by decide +kernel, by decide +kernel⟩, List.mem_of_getElem? (i := 15) (by decide +kernel), List.mem_of_getElem? (i := 656) (by decide +kernel), List.mem_of_getElem? (i := 657) (by decide +kernel)⟩
theorem lw_p26 : lw_okq (⟨"SlateHills$Outlook", "weigh", "(III)J"⟩, 6) := ⟨⟨by decide +kernel, by decide +kernel⟩, List.mem_of_getElem? (i := 117) (by decide +kernel), List.mem_of_getElem? (i := 669) (by decide +kernel), List.mem_of_getElem? (i := 670) (by decide +kernel)⟩
theorem lw_p27 : lw_okq (⟨"SlateHills", "setFraction", "(JJ)V"⟩, 12) := ⟨⟨by decide +kernel, by decide +kernel⟩, List.mem_of_getElem? (i := 15) (by decide +kernel), List.mem_of_getElem? (i := 674) (by decide +kernel), List.mem_of_getElem? (i := 675) (by decide +kernel)⟩
theorem lw_p28 : lw_okq (⟨"SlateHills", "imageAt", "(I)LSlateHills$State;"⟩, 12) := ⟨⟨by decide +kernel, by decide +kernel⟩, List.mem_of_getElem? (i := 15) (by decide +kernel), List.mem_of_getElem? (i := 696) (by decide +kernel), List.mem_of_getElem? (i := 697) (by decide +kernel)⟩
theorem lw_p29 : lw_okq (⟨"SlateHillsModel", "bad", "(I)I"⟩, 18) := ⟨⟨by decide +kernel, by decide +kernel⟩, List.mem_of_getElem? (i := 732) (by decide +kernel), List.mem_of_getElem? (i := 808) (by decide +kernel), List.mem_of_getElem? (i := 809) (by decide +kernel)⟩
theorem lw_p30 : lw_okq (⟨"SlateHillsModel", "many", "()I"⟩, 18) := ⟨⟨by decide +kernel, by decide +kernel⟩, List.mem_of_getElem? (i := 732) (by decide +kernel), List.mem_of_getElem? (i := 812) (by decide +kernel), List.mem_of_getElem? (i := 813) (by decide +kernel)⟩
theorem lw_p31 : lw_okq (⟨"SlateHillsModel", "no", "()I"⟩, 18) := ⟨⟨by decide +kernel, by decide +kernel⟩, List.mem_of_getElem? (i := 732) (by decide +kernel), List.mem_of_getElem? (i := 840) (by decide +kernel), List.mem_of_getElem? (i := 841) (by decide +kernel)⟩
def lw_privs_2 : List (MethodName × Nat) := [(⟨"SlateHills$Outlook", "tryRows", "(II)V"⟩, 6), (⟨"SlateHills$Outlook", "keepIfBetter", "(II)V"⟩, 6), (⟨"SlateHills$State", "matterFits", "(II)Z"⟩, 9), (⟨"SlateHills", "clearest", "(ZIIII)I"⟩, 12), (⟨"SlateHills", "fillAmounts", "(ZII)V"⟩, 12), (⟨"SlateHills", "mostAlike", "(I)I"⟩, 12), (⟨"SlateHills$State", "clerkFits", "(I)Z"⟩, 9), (⟨"SlateHills", "fillLosses", "()V"⟩, 12), (⟨"SlateHills", "lossBetween", "(II)I"⟩, 12), (⟨"SlateHills", "rests", "(II)Z"⟩, 12), (⟨"SlateHills$Outlook", "weigh", "(III)J"⟩, 6), (⟨"SlateHills", "setFraction", "(JJ)V"⟩, 12), (⟨"SlateHills", "imageAt", "(I)LSlateHills$State;"⟩, 12), (⟨"SlateHillsModel", "bad", "(I)I"⟩, 18), (⟨"SlateHillsModel", "many", "()I"⟩, 18), (⟨"SlateHillsModel", "no", "()I"⟩, 18)]
theorem lw_r2 : ∀ q ∈ lw_privs_2, lw_okq q := List.forall_mem_cons.mpr ⟨lw_p16, List.forall_mem_cons.mpr ⟨lw_p17, List.forall_mem_cons.mpr ⟨lw_p18, List.forall_mem_cons.mpr ⟨lw_p19, List.forall_mem_cons.mpr ⟨lw_p20, List.forall_mem_cons.mpr ⟨lw_p21, List.forall_mem_cons.mpr ⟨lw_p22, List.forall_mem_cons.mpr ⟨lw_p23, List.forall_mem_cons.mpr ⟨lw_p24, List.forall_mem_cons.mpr ⟨lw_p25, List.forall_mem_cons.mpr ⟨lw_p26, List.forall_mem_cons.mpr ⟨lw_p27, List.forall_mem_cons.mpr ⟨lw_p28, List.forall_mem_cons.mpr ⟨lw_p29, List.forall_mem_cons.mpr ⟨lw_p30, List.forall_mem_cons.mpr ⟨lw_p31, fun _ h => absurd h List.not_mem_nil⟩⟩⟩⟩⟩⟩⟩⟩⟩⟩⟩⟩⟩⟩⟩⟩
theorem lw_p32 : lw_okq (⟨"SlateHillsModel", "full", "()I"⟩, 18) := ⟨⟨by decide +kernel, by decide +kernel⟩, List.mem_of_getElem? (i := 732) (by decide +kernel), List.mem_of_getElem? (i := 844) (by decide +kernel), List.mem_of_getElem? (i := 845) (by decide +kernel)⟩
theorem lw_p33 : lw_okq (⟨"SlateHillsModel", "isHill", "(I)Z"⟩, 18) := ⟨⟨by decide +kernel, by decide +kernel⟩, List.mem_of_getElem? (i := 732) (by decide +kernel), List.mem_of_getElem? (i := 855) (by decide +kernel), List.mem_of_getElem? (i := 856) (by decide +kernel)⟩
theorem lw_p34 : lw_okq (⟨"SlateHillsModel", "save", "()V"⟩, 18) := ⟨⟨by decide +kernel, by decide +kernel⟩, List.mem_of_getElem? (i := 732) (by decide +kernel), List.mem_of_getElem? (i := 859) (by decide +kernel), List.mem_of_getElem? (i := 860) (by decide +kernel)⟩
theorem lw_p35 : lw_okq (⟨"SlateHillsModel", "goDay", "([II)I"⟩, 18) := ⟨⟨by decide +kernel, by decide +kernel⟩, List.mem_of_getElem? (i := 732) (by decide +kernel), List.mem_of_getElem? (i := 863) (by decide +kernel), List.mem_of_getElem? (i := 864) (by decide +kernel)⟩
theorem lw_p36 : lw_okq (⟨"SlateHillsModel", "goOff", "([I)I"⟩, 18) := ⟨⟨by decide +kernel, by decide +kernel⟩, List.mem_of_getElem? (i := 732) (by decide +kernel), List.mem_of_getElem? (i := 873) (by decide +kernel), List.mem_of_getElem? (i := 874) (by decide +kernel)⟩
theorem lw_p37 : lw_okq (⟨"SlateHillsModel", "layHand", "()V"⟩, 18) := ⟨⟨by decide +kernel, by decide +kernel⟩, List.mem_of_getElem? (i := 732) (by decide +kernel), List.mem_of_getElem? (i := 911) (by decide +kernel), List.mem_of_getElem? (i := 912) (by decide +kernel)⟩
theorem lw_p38 : lw_okq (⟨"SlateHillsModel", "goQuiet", "(I)I"⟩, 18) := ⟨⟨by decide +kernel, by decide +kernel⟩, List.mem_of_getElem? (i := 732) (by decide +kernel), List.mem_of_getElem? (i := 915) (by decide +kernel), List.mem_of_getElem? (i := 916) (by decide +kernel)⟩
theorem lw_p39 : lw_okq (⟨"SlateHillsModel", "kindsOfHill", "(I)I"⟩, 18) := ⟨⟨by decide +kernel, by decide +kernel⟩, List.mem_of_getElem? (i := 732) (by decide +kernel), List.mem_of_getElem? (i := 962) (by decide +kernel), List.mem_of_getElem? (i := 963) (by decide +kernel)⟩
theorem lw_p40 : lw_okq (⟨"SlateHillsModel", "bestLook", "(IIIZ)I"⟩, 18) := ⟨⟨by decide +kernel, by decide +kernel⟩, List.mem_of_getElem? (i := 732) (by decide +kernel), List.mem_of_getElem? (i := 970) (by decide +kernel), List.mem_of_getElem? (i := 971) (by decide +kernel)⟩
theorem lw_p41 : lw_okq (⟨"SlateHillsModel", "mostAlike", "(I)I"⟩, 18) := ⟨⟨by decide +kernel, by decide +kernel⟩, List.mem_of_getElem? (i := 732) (by decide +kernel), List.mem_of_getElem? (i := 974) (by decide +kernel), List.mem_of_getElem? (i := 975) (by decide +kernel)⟩
theorem lw_p42 : lw_okq (⟨"SlateHillsModel", "layLost", "()V"⟩, 18) := ⟨⟨by decide +kernel, by decide +kernel⟩, List.mem_of_getElem? (i := 732) (by decide +kernel), List.mem_of_getElem? (i := 1000) (by decide +kernel), List.mem_of_getElem? (i := 1001) (by decide +kernel)⟩
theorem lw_p43 : lw_okq (⟨"SlateHillsModel", "rests", "(II)Z"⟩, 18) := ⟨⟨by decide +kernel, by decide +kernel⟩, List.mem_of_getElem? (i := 732) (by decide +kernel), List.mem_of_getElem? (i := 1004) (by decide +kernel), List.mem_of_getElem? (i := 1005) (by decide +kernel)⟩
theorem lw_p44 : lw_okq (⟨"SlateHillsModel", "named", "(I)I"⟩, 18) := ⟨⟨by decide +kernel, by decide +kernel⟩, List.mem_of_getElem? (i := 732) (by decide +kernel), List.mem_of_getElem? (i := 1008) (by decide +kernel), List.mem_of_getElem? (i := 1009) (by decide +kernel)⟩
theorem lw_p45 : lw_okq (⟨"SlateHillsModel", "fraction", "(JJ)V"⟩, 18) := ⟨⟨by decide +kernel, by decide +kernel⟩, List.mem_of_getElem? (i := 732) (by decide +kernel), List.mem_of_getElem? (i := 1018) (by decide +kernel), List.mem_of_getElem? (i := 1019) (by decide +kernel)⟩
theorem lw_p46 : lw_okq (⟨"SlateHillsModel", "lookAt", "(I)V"⟩, 18) := ⟨⟨by decide +kernel, by decide +kernel⟩, List.mem_of_getElem? (i := 732) (by decide +kernel), List.mem_of_getElem? (i := 1046) (by decide +kernel), List.mem_of_getElem? (i := 1047) (by decide +kernel)⟩
theorem lw_p47 : lw_okq (⟨"SlateHillsModel", "spells", "(IIIIIII)Z"⟩, 18) := ⟨⟨by decide +kernel, by decide +kernel⟩, List.mem_of_getElem? (i := 732) (by decide +kernel), List.mem_of_getElem? (i := 1060) (by decide +kernel), List.mem_of_getElem? (i := 1061) (by decide +kernel)⟩
def lw_privs_3 : List (MethodName × Nat) := [(⟨"SlateHillsModel", "full", "()I"⟩, 18), (⟨"SlateHillsModel", "isHill", "(I)Z"⟩, 18), (⟨"SlateHillsModel", "save", "()V"⟩, 18), (⟨"SlateHillsModel", "goDay", "([II)I"⟩, 18), (⟨"SlateHillsModel", "goOff", "([I)I"⟩, 18), (⟨"SlateHillsModel", "layHand", "()V"⟩, 18), (⟨"SlateHillsModel", "goQuiet", "(I)I"⟩, 18), (⟨"SlateHillsModel", "kindsOfHill", "(I)I"⟩, 18), (⟨"SlateHillsModel", "bestLook", "(IIIZ)I"⟩, 18), (⟨"SlateHillsModel", "mostAlike", "(I)I"⟩, 18), (⟨"SlateHillsModel", "layLost", "()V"⟩, 18), (⟨"SlateHillsModel", "rests", "(II)Z"⟩, 18), (⟨"SlateHillsModel", "named", "(I)I"⟩, 18), (⟨"SlateHillsModel", "fraction", "(JJ)V"⟩, 18), (⟨"SlateHillsModel", "lookAt", "(I)V"⟩, 18), (⟨"SlateHillsModel", "spells", "(IIIIIII)Z"⟩, 18)]
theorem lw_r3 : ∀ q ∈ lw_privs_3, lw_okq q := List.forall_mem_cons.mpr ⟨lw_p32, List.forall_mem_cons.mpr ⟨lw_p33, List.forall_mem_cons.mpr ⟨lw_p34, List.forall_mem_cons.mpr ⟨lw_p35, List.forall_mem_cons.mpr ⟨lw_p36, List.forall_mem_cons.mpr ⟨lw_p37, List.forall_mem_cons.mpr ⟨lw_p38, List.forall_mem_cons.mpr ⟨lw_p39, List.forall_mem_cons.mpr ⟨lw_p40, List.forall_mem_cons.mpr ⟨lw_p41, List.forall_mem_cons.mpr ⟨lw_p42, List.forall_mem_cons.mpr ⟨lw_p43, List.forall_mem_cons.mpr ⟨lw_p44, List.forall_mem_cons.mpr ⟨lw_p45, List.forall_mem_cons.mpr ⟨lw_p46, List.forall_mem_cons.mpr ⟨lw_p47, fun _ h => absurd h List.not_mem_nil⟩⟩⟩⟩⟩⟩⟩⟩⟩⟩⟩⟩⟩⟩⟩⟩
theorem lw_p48 : lw_okq (⟨"SlateHillsModel", "goBehind", "()V"⟩, 18) := ⟨⟨by decide +kernel, by decide +kernel⟩, List.mem_of_getElem? (i := 732) (by decide +kernel), List.mem_of_getElem? (i := 1064) (by decide +kernel), List.mem_of_getElem? (i := 1065) (by decide +kernel)⟩
theorem lw_p49 : lw_okq (⟨"SlateHillsModel", "takes", "(III)Z"⟩, 18) := ⟨⟨by decide +kernel, by decide +kernel⟩, List.mem_of_getElem? (i := 732) (by decide +kernel), List.mem_of_getElem? (i := 1068) (by decide +kernel), List.mem_of_getElem? (i := 1069) (by decide +kernel)⟩
theorem lw_p50 : lw_okq (⟨"SlateHillsModel", "takesItem", "()Z"⟩, 18) := ⟨⟨by decide +kernel, by decide +kernel⟩, List.mem_of_getElem? (i := 732) (by decide +kernel), List.mem_of_getElem? (i := 1072) (by decide +kernel), List.mem_of_getElem? (i := 1073) (by decide +kernel)⟩
theorem lw_p51 : lw_okq (⟨"SlateHillsModel", "takesVines", "()Z"⟩, 18) := ⟨⟨by decide +kernel, by decide +kernel⟩, List.mem_of_getElem? (i := 732) (by decide +kernel), List.mem_of_getElem? (i := 1076) (by decide +kernel), List.mem_of_getElem? (i := 1077) (by decide +kernel)⟩
theorem lw_p52 : lw_okq (⟨"SlateHillsModel", "takesHill", "()Z"⟩, 18) := ⟨⟨by decide +kernel, by decide +kernel⟩, List.mem_of_getElem? (i := 732) (by decide +kernel), List.mem_of_getElem? (i := 1080) (by decide +kernel), List.mem_of_getElem? (i := 1081) (by decide +kernel)⟩
theorem lw_p53 : lw_okq (⟨"SlateHillsModel", "takesDays", "()Z"⟩, 18) := ⟨⟨by decide +kernel, by decide +kernel⟩, List.mem_of_getElem? (i := 732) (by decide +kernel), List.mem_of_getElem? (i := 1084) (by decide +kernel), List.mem_of_getElem? (i := 1085) (by decide +kernel)⟩
theorem lw_p54 : lw_okq (⟨"SlateHillsModel", "counted", "(I)I"⟩, 18) := ⟨⟨by decide +kernel, by decide +kernel⟩, List.mem_of_getElem? (i := 732) (by decide +kernel), List.mem_of_getElem? (i := 1109) (by decide +kernel), List.mem_of_getElem? (i := 1110) (by decide +kernel)⟩
theorem lw_p55 : lw_okq (⟨"SlateHillsModel", "vinesOfAll", "()I"⟩, 18) := ⟨⟨by decide +kernel, by decide +kernel⟩, List.mem_of_getElem? (i := 732) (by decide +kernel), List.mem_of_getElem? (i := 1113) (by decide +kernel), List.mem_of_getElem? (i := 1114) (by decide +kernel)⟩
theorem lw_p56 : lw_okq (⟨"SlateHillsModel", "sums", "(JII)J"⟩, 18) := ⟨⟨by decide +kernel, by decide +kernel⟩, List.mem_of_getElem? (i := 732) (by decide +kernel), List.mem_of_getElem? (i := 1123) (by decide +kernel), List.mem_of_getElem? (i := 1124) (by decide +kernel)⟩
def lw_privs_4 : List (MethodName × Nat) := [(⟨"SlateHillsModel", "goBehind", "()V"⟩, 18), (⟨"SlateHillsModel", "takes", "(III)Z"⟩, 18), (⟨"SlateHillsModel", "takesItem", "()Z"⟩, 18), (⟨"SlateHillsModel", "takesVines", "()Z"⟩, 18), (⟨"SlateHillsModel", "takesHill", "()Z"⟩, 18), (⟨"SlateHillsModel", "takesDays", "()Z"⟩, 18), (⟨"SlateHillsModel", "counted", "(I)I"⟩, 18), (⟨"SlateHillsModel", "vinesOfAll", "()I"⟩, 18), (⟨"SlateHillsModel", "sums", "(JII)J"⟩, 18)]
theorem lw_r4 : ∀ q ∈ lw_privs_4, lw_okq q := List.forall_mem_cons.mpr ⟨lw_p48, List.forall_mem_cons.mpr ⟨lw_p49, List.forall_mem_cons.mpr ⟨lw_p50, List.forall_mem_cons.mpr ⟨lw_p51, List.forall_mem_cons.mpr ⟨lw_p52, List.forall_mem_cons.mpr ⟨lw_p53, List.forall_mem_cons.mpr ⟨lw_p54, List.forall_mem_cons.mpr ⟨lw_p55, List.forall_mem_cons.mpr ⟨lw_p56, fun _ h => absurd h List.not_mem_nil⟩⟩⟩⟩⟩⟩⟩⟩⟩
def lw_privs : List (MethodName × Nat) := lw_privs_1 ++ (lw_privs_2 ++ (lw_privs_3 ++ (lw_privs_4)))
def lw_tbl : List Cond := k2_sels lw_privs ++ tables_1
theorem lw_privs_ok : ∀ q ∈ lw_privs, lw_okq q := by
  show ∀ q ∈ lw_privs_1 ++ (lw_privs_2 ++ (lw_privs_3 ++ (lw_privs_4))), lw_okq q
  exact List.forall_mem_append.mpr ⟨lw_r1, List.forall_mem_append.mpr ⟨lw_r2, List.forall_mem_append.mpr ⟨lw_r3, lw_r4⟩⟩⟩
theorem goodIn_r {big : List Cond} (ws : List Cond) (ps : List Nat) (hp : ws = ps.filterMap (fun i => big[i]?)) (h : ws.all goodWord = true) : GoodIn big ws := by
  intro w hw
  have h1 := List.all_eq_true.mp h w hw
  rw [hp] at hw
  obtain ⟨i, -, hi⟩ := List.mem_filterMap.mp hw
  have hm : w ∈ big := by first | exact List.mem_of_getElem? hi | exact List.getElem?_mem hi
  exact ⟨hm, good_of_word h1⟩
theorem goodIn_app {big a b : List Cond} (ha : GoodIn big a) (hb : GoodIn big b) : GoodIn big (a ++ b) := fun w h => (List.mem_append.mp h).elim (ha w) (hb w)
theorem goodIn_ca {big a b : List Cond} {c : Cond} (ha : GoodIn big (c :: a)) (hb : GoodIn big b) : GoodIn big (c :: (a ++ b)) := fun w h => (List.mem_cons.mp h).elim (fun e => ha w (List.mem_cons.mpr (Or.inl e))) (fun h => (List.mem_append.mp h).elim (fun h => ha w (List.mem_cons.mpr (Or.inr h))) (hb w))
theorem goodIn_sub {big ws : List Cond} (hm : ∀ w ∈ ws, w ∈ big) (h : ws.all goodWord = true) : GoodIn big ws := fun w hw => ⟨hm w hw, good_of_word (List.all_eq_true.mp h w hw)⟩
def RX0 : String := "SlateHills$Land"
def TX0 : u_T := fun k => match k with
  | 0 => ("SlateHills$Land", "clerkKind", "I", false)
  | 1 => ("SlateHills$Land", "hills", "I", false)
  | 2 => ("SlateHills$Land", "kind", "[I", true)
  | 3 => ("SlateHills$Land", "cell", "[I", true)
  | 4 => ("SlateHills$Land", "size", "[I", true)
  | 5 => ("SlateHills$Land", "vine", "[I", true)
  | 6 => ("SlateHills$Land", "harm", "I", false)
  | 7 => ("SlateHills$Land", "today", "I", false)
  | _ => ("SlateHills$Land", "wentOff", "I", false)
def tyX0 : Nat → FieldType := fun k => match k with
  | 0 => .int
  | 1 => .int
  | 2 => .array .int
  | 3 => .array .int
  | 4 => .array .int
  | 5 => .array .int
  | 6 => .int
  | 7 => .int
  | _ => .int
abbrev wsX00 : List Cond := u_ws RX0 TX0 9
theorem nmX0 : ∀ a, a < 9 → ∀ b, b < 9 → a ≠ b → (TX0 a).2.1 ≠ (TX0 b).2.1 := by decide +kernel
theorem tyX0_ok : ∀ k, k < 9 → parseFieldDescriptor (TX0 k).2.2.1 = some (tyX0 k) := by decide +kernel
abbrev cX0_init : ByteArray := prog_2_method_1_code
def yX0_init : MethodName := ⟨RX0, "<init>", "()V"⟩
abbrev cX0_restart : ByteArray := prog_2_method_2_code
def yX0_restart : MethodName := ⟨RX0, "restart", "(I)V"⟩
abbrev cX0_copyFrom : ByteArray := prog_2_method_3_code
def yX0_copyFrom : MethodName := ⟨RX0, "copyFrom", "(LSlateHills$Land;)V"⟩
abbrev cX0_copyDaysFrom : ByteArray := prog_2_method_4_code
def yX0_copyDaysFrom : MethodName := ⟨RX0, "copyDaysFrom", "(LSlateHills$Land;)V"⟩
abbrev cX0_isHill : ByteArray := prog_2_method_5_code
def yX0_isHill : MethodName := ⟨RX0, "isHill", "(I)Z"⟩
abbrev cX0_mayVisit : ByteArray := prog_2_method_6_code
def yX0_mayVisit : MethodName := ⟨RX0, "mayVisit", "(I)Z"⟩
abbrev cX0_isTaken : ByteArray := prog_2_method_7_code
def yX0_isTaken : MethodName := ⟨RX0, "isTaken", "(I)Z"⟩
abbrev cX0_raise : ByteArray := prog_2_method_8_code
def yX0_raise : MethodName := ⟨RX0, "raise", "(III)V"⟩
abbrev cX0_allVines : ByteArray := prog_2_method_9_code
def yX0_allVines : MethodName := ⟨RX0, "allVines", "()I"⟩
abbrev cX0_allSizes : ByteArray := prog_2_method_10_code
def yX0_allSizes : MethodName := ⟨RX0, "allSizes", "()I"⟩
abbrev cX0_tallest : ByteArray := prog_2_method_11_code
def yX0_tallest : MethodName := ⟨RX0, "tallest", "()I"⟩
abbrev cX0_pass : ByteArray := prog_2_method_12_code
def yX0_pass : MethodName := ⟨RX0, "pass", "(I)I"⟩
abbrev cX0_passAlone : ByteArray := prog_2_method_13_code
def yX0_passAlone : MethodName := ⟨RX0, "passAlone", "(I)I"⟩
abbrev cX0_passWithTallest : ByteArray := prog_2_method_14_code
def yX0_passWithTallest : MethodName := ⟨RX0, "passWithTallest", "(I)I"⟩
abbrev cX0_settle : ByteArray := prog_2_method_15_code
def yX0_settle : MethodName := ⟨RX0, "settle", "()I"⟩
abbrev cX0_firstOver : ByteArray := prog_2_method_16_code
def yX0_firstOver : MethodName := ⟨RX0, "firstOver", "()I"⟩
abbrev cX0_loseAround : ByteArray := prog_2_method_17_code
def yX0_loseAround : MethodName := ⟨RX0, "loseAround", "(I)I"⟩
abbrev cX0_spreadAround : ByteArray := prog_2_method_18_code
def yX0_spreadAround : MethodName := ⟨RX0, "spreadAround", "(I)V"⟩
def RX1 : String := "SlateHills$Outlook"
def TX1 : u_T := fun k => match k with
  | 0 => ("SlateHills$Outlook", "lands", "[LSlateHills$Land;", true)
  | 1 => ("SlateHills$Outlook", "row", "[I", true)
  | 2 => ("SlateHills$Outlook", "best", "[I", true)
  | 3 => ("SlateHills$Outlook", "fewest", "I", false)
  | 4 => ("SlateHills$Outlook", "leastSizes", "I", false)
  | _ => ("SlateHills$Outlook", "days", "I", false)
def tyX1 : Nat → FieldType := fun k => match k with
  | 0 => .array (.object "SlateHills$Land")
  | 1 => .array .int
  | 2 => .array .int
  | 3 => .int
  | 4 => .int
  | _ => .int
abbrev wsX10 : List Cond := u_ws RX1 TX1 6
theorem nmX1 : ∀ a, a < 6 → ∀ b, b < 6 → a ≠ b → (TX1 a).2.1 ≠ (TX1 b).2.1 := by decide +kernel
theorem tyX1_ok : ∀ k, k < 6 → parseFieldDescriptor (TX1 k).2.2.1 = some (tyX1 k) := by decide +kernel
abbrev cX1_init : ByteArray := prog_3_method_1_code
def yX1_init : MethodName := ⟨RX1, "<init>", "()V"⟩
abbrev cX1_startFrom : ByteArray := prog_3_method_2_code
def yX1_startFrom : MethodName := ⟨RX1, "startFrom", "(LSlateHills$Land;)LSlateHills$Land;"⟩
abbrev cX1_startAllFrom : ByteArray := prog_3_method_3_code
def yX1_startAllFrom : MethodName := ⟨RX1, "startAllFrom", "(LSlateHills$Land;I)V"⟩
abbrev cX1_findPlan : ByteArray := prog_3_method_4_code
def yX1_findPlan : MethodName := ⟨RX1, "findPlan", "(LSlateHills$Land;I)V"⟩
abbrev cX1_tryRows : ByteArray := prog_3_method_5_code
def yX1_tryRows : MethodName := ⟨RX1, "tryRows", "(II)V"⟩
abbrev cX1_keepIfBetter : ByteArray := prog_3_method_6_code
def yX1_keepIfBetter : MethodName := ⟨RX1, "keepIfBetter", "(II)V"⟩
abbrev cX1_weighChance : ByteArray := prog_3_method_7_code
def yX1_weighChance : MethodName := ⟨RX1, "weighChance", "(LSlateHills$Land;III)J"⟩
abbrev cX1_weigh : ByteArray := prog_3_method_8_code
def yX1_weigh : MethodName := ⟨RX1, "weigh", "(III)J"⟩
def RX2 : String := "SlateHills$Reader"
def TX2 : u_T := fun k => match k with
  | 0 => ("SlateHills$Reader", "text", "[I", true)
  | 1 => ("SlateHills$Reader", "length", "I", false)
  | 2 => ("SlateHills$Reader", "at", "I", false)
  | 3 => ("SlateHills$Reader", "token", "I", false)
  | 4 => ("SlateHills$Reader", "value", "I", false)
  | 5 => ("SlateHills$Reader", "start", "I", false)
  | 6 => ("SlateHills$Reader", "items", "I", false)
  | _ => ("SlateHills$Reader", "land", "LSlateHills$Land;", true)
def tyX2 : Nat → FieldType := fun k => match k with
  | 0 => .array .int
  | 1 => .int
  | 2 => .int
  | 3 => .int
  | 4 => .int
  | 5 => .int
  | 6 => .int
  | _ => .object "SlateHills$Land"
abbrev wsX20 : List Cond := u_ws RX2 TX2 8
theorem nmX2 : ∀ a, a < 8 → ∀ b, b < 8 → a ≠ b → (TX2 a).2.1 ≠ (TX2 b).2.1 := by decide +kernel
theorem tyX2_ok : ∀ k, k < 8 → parseFieldDescriptor (TX2 k).2.2.1 = some (tyX2 k) := by decide +kernel
abbrev cX2_init : ByteArray := prog_4_method_1_code
def yX2_init : MethodName := ⟨RX2, "<init>", "()V"⟩
abbrev cX2_append : ByteArray := prog_4_method_2_code
def yX2_append : MethodName := ⟨RX2, "append", "(I)V"⟩
abbrev cX2_readIsland : ByteArray := prog_4_method_3_code
def yX2_readIsland : MethodName := ⟨RX2, "readIsland", "()Z"⟩
abbrev cX2_readClerk : ByteArray := prog_4_method_4_code
def yX2_readClerk : MethodName := ⟨RX2, "readClerk", "()Z"⟩
abbrev cX2_readVines : ByteArray := prog_4_method_5_code
def yX2_readVines : MethodName := ⟨RX2, "readVines", "()Z"⟩
abbrev cX2_readHill : ByteArray := prog_4_method_6_code
def yX2_readHill : MethodName := ⟨RX2, "readHill", "()Z"⟩
abbrev cX2_readDays : ByteArray := prog_4_method_7_code
def yX2_readDays : MethodName := ⟨RX2, "readDays", "()Z"⟩
abbrev cX2_stepToNumber : ByteArray := prog_4_method_8_code
def yX2_stepToNumber : MethodName := ⟨RX2, "stepToNumber", "(I)Z"⟩
abbrev cX2_stepToEndOfItem : ByteArray := prog_4_method_9_code
def yX2_stepToEndOfItem : MethodName := ⟨RX2, "stepToEndOfItem", "()Z"⟩
abbrev cX2_endsItem : ByteArray := prog_4_method_10_code
def yX2_endsItem : MethodName := ⟨RX2, "endsItem", "()Z"⟩
abbrev cX2_step : ByteArray := prog_4_method_11_code
def yX2_step : MethodName := ⟨RX2, "step", "()V"⟩
abbrev cX2_takeWord : ByteArray := prog_4_method_12_code
def yX2_takeWord : MethodName := ⟨RX2, "takeWord", "()V"⟩
abbrev cX2_takeNumber : ByteArray := prog_4_method_13_code
def yX2_takeNumber : MethodName := ⟨RX2, "takeNumber", "()V"⟩
abbrev cX2_spells : ByteArray := prog_4_method_14_code
def yX2_spells : MethodName := ⟨RX2, "spells", "(Ljava/lang/String;)Z"⟩
abbrev cX2_isLetter : ByteArray := prog_4_method_15_code
def yX2_isLetter : MethodName := ⟨RX2, "isLetter", "(I)Z"⟩
abbrev cX2_isFigure : ByteArray := prog_4_method_16_code
def yX2_isFigure : MethodName := ⟨RX2, "isFigure", "(I)Z"⟩
def RX3 : String := "SlateHills$State"
def TX3 : u_T := fun k => match k with
  | 0 => ("SlateHills$State", "land", "LSlateHills$Land;", true)
  | 1 => ("SlateHills$State", "seenRows", "[I", true)
  | 2 => ("SlateHills$State", "seenCount", "I", false)
  | 3 => ("SlateHills$State", "markRows", "[I", true)
  | 4 => ("SlateHills$State", "markCount", "I", false)
  | 5 => ("SlateHills$State", "undoSteps", "[I", true)
  | 6 => ("SlateHills$State", "undoNext", "I", false)
  | 7 => ("SlateHills$State", "undoCount", "I", false)
  | _ => ("SlateHills$State", "isKept", "Z", false)
def tyX3 : Nat → FieldType := fun k => match k with
  | 0 => .object "SlateHills$Land"
  | 1 => .array .int
  | 2 => .int
  | 3 => .array .int
  | 4 => .int
  | 5 => .array .int
  | 6 => .int
  | 7 => .int
  | _ => .boolean
abbrev wsX30 : List Cond := u_ws RX3 TX3 9
theorem nmX3 : ∀ a, a < 9 → ∀ b, b < 9 → a ≠ b → (TX3 a).2.1 ≠ (TX3 b).2.1 := by decide +kernel
theorem tyX3_ok : ∀ k, k < 9 → parseFieldDescriptor (TX3 k).2.2.1 = some (tyX3 k) := by decide +kernel
abbrev cX3_init : ByteArray := prog_5_method_1_code
def yX3_init : MethodName := ⟨RX3, "<init>", "()V"⟩
abbrev cX3_restart : ByteArray := prog_5_method_2_code
def yX3_restart : MethodName := ⟨RX3, "restart", "(I)V"⟩
abbrev cX3_copyFrom : ByteArray := prog_5_method_3_code
def yX3_copyFrom : MethodName := ⟨RX3, "copyFrom", "(LSlateHills$State;)V"⟩
abbrev cX3_keepForUndo : ByteArray := prog_5_method_4_code
def yX3_keepForUndo : MethodName := ⟨RX3, "keepForUndo", "()V"⟩
abbrev cX3_stepBack : ByteArray := prog_5_method_5_code
def yX3_stepBack : MethodName := ⟨RX3, "stepBack", "()V"⟩
abbrev cX3_addSeen : ByteArray := prog_5_method_6_code
def yX3_addSeen : MethodName := ⟨RX3, "addSeen", "(IIII)V"⟩
abbrev cX3_addMark : ByteArray := prog_5_method_7_code
def yX3_addMark : MethodName := ⟨RX3, "addMark", "(III)V"⟩
abbrev cX3_matterKindsOf : ByteArray := prog_5_method_8_code
def yX3_matterKindsOf : MethodName := ⟨RX3, "matterKindsOf", "(I)I"⟩
abbrev cX3_matterFits : ByteArray := prog_5_method_9_code
def yX3_matterFits : MethodName := ⟨RX3, "matterFits", "(II)Z"⟩
abbrev cX3_clerkKinds : ByteArray := prog_5_method_10_code
def yX3_clerkKinds : MethodName := ⟨RX3, "clerkKinds", "()I"⟩
abbrev cX3_clerkFits : ByteArray := prog_5_method_11_code
def yX3_clerkFits : MethodName := ⟨RX3, "clerkFits", "(I)Z"⟩
def RX4 : String := "SlateHills"
def TX4 : u_T := fun k => match k with
  | 0 => ("SlateHills", "now", "LSlateHills$State;", true)
  | 1 => ("SlateHills", "firstImage", "LSlateHills$State;", true)
  | 2 => ("SlateHills", "secondImage", "LSlateHills$State;", true)
  | 3 => ("SlateHills", "outlook", "LSlateHills$Outlook;", true)
  | 4 => ("SlateHills", "reader", "LSlateHills$Reader;", true)
  | 5 => ("SlateHills", "amounts", "[I", true)
  | 6 => ("SlateHills", "losses", "[I", true)
  | 7 => ("SlateHills", "above", "J", false)
  | 8 => ("SlateHills", "below", "J", false)
  | 9 => ("SlateHills", "refusedBad", "I", false)
  | 10 => ("SlateHills", "refusedNo", "I", false)
  | _ => ("SlateHills", "refusedFull", "I", false)
def tyX4 : Nat → FieldType := fun k => match k with
  | 0 => .object "SlateHills$State"
  | 1 => .object "SlateHills$State"
  | 2 => .object "SlateHills$State"
  | 3 => .object "SlateHills$Outlook"
  | 4 => .object "SlateHills$Reader"
  | 5 => .array .int
  | 6 => .array .int
  | 7 => .long
  | 8 => .long
  | 9 => .int
  | 10 => .int
  | _ => .int
abbrev wsX40 : List Cond := u_ws RX4 TX4 12
theorem nmX4 : ∀ a, a < 12 → ∀ b, b < 12 → a ≠ b → (TX4 a).2.1 ≠ (TX4 b).2.1 := by decide +kernel
theorem tyX4_ok : ∀ k, k < 12 → parseFieldDescriptor (TX4 k).2.2.1 = some (tyX4 k) := by decide +kernel
abbrev cX4_init : ByteArray := prog_1_method_1_code
def yX4_init : MethodName := ⟨RX4, "<init>", "()V"⟩
abbrev cX4_island : ByteArray := prog_1_method_2_code
def yX4_island : MethodName := ⟨RX4, "island", "(I)I"⟩
abbrev cX4_clerk : ByteArray := prog_1_method_3_code
def yX4_clerk : MethodName := ⟨RX4, "clerk", "(I)I"⟩
abbrev cX4_vines : ByteArray := prog_1_method_4_code
def yX4_vines : MethodName := ⟨RX4, "vines", "(II)I"⟩
abbrev cX4_hill : ByteArray := prog_1_method_5_code
def yX4_hill : MethodName := ⟨RX4, "hill", "(III)I"⟩
abbrev cX4_type : ByteArray := prog_1_method_6_code
def yX4_type : MethodName := ⟨RX4, "type", "(I)I"⟩
abbrev cX4_clear : ByteArray := prog_1_method_7_code
def yX4_clear : MethodName := ⟨RX4, "clear", "()I"⟩
abbrev cX4_read : ByteArray := prog_1_method_8_code
def yX4_read : MethodName := ⟨RX4, "read", "()I"⟩
abbrev cX4_day : ByteArray := prog_1_method_9_code
def yX4_day : MethodName := ⟨RX4, "day", "(I)I"⟩
abbrev cX4_putBack : ByteArray := prog_1_method_10_code
def yX4_putBack : MethodName := ⟨RX4, "putBack", "(II)I"⟩
abbrev cX4_undo : ByteArray := prog_1_method_11_code
def yX4_undo : MethodName := ⟨RX4, "undo", "()I"⟩
abbrev cX4_of : ByteArray := prog_1_method_12_code
def yX4_of : MethodName := ⟨RX4, "of", "(II)I"⟩
abbrev cX4_has : ByteArray := prog_1_method_13_code
def yX4_has : MethodName := ⟨RX4, "has", "(I)I"⟩
abbrev cX4_high : ByteArray := prog_1_method_14_code
def yX4_high : MethodName := ⟨RX4, "high", "(II)I"⟩
abbrev cX4_goes : ByteArray := prog_1_method_15_code
def yX4_goes : MethodName := ⟨RX4, "goes", "(I)I"⟩
abbrev cX4_lost : ByteArray := prog_1_method_16_code
def yX4_lost : MethodName := ⟨RX4, "lost", "(I)I"⟩
abbrev cX4_chain : ByteArray := prog_1_method_17_code
def yX4_chain : MethodName := ⟨RX4, "chain", "(I)I"⟩
abbrev cX4_plan : ByteArray := prog_1_method_18_code
def yX4_plan : MethodName := ⟨RX4, "plan", "(II)I"⟩
abbrev cX4_askFirst : ByteArray := prog_1_method_19_code
def yX4_askFirst : MethodName := ⟨RX4, "askFirst", "(II)I"⟩
abbrev cX4_calm : ByteArray := prog_1_method_20_code
def yX4_calm : MethodName := ⟨RX4, "calm", "(II)I"⟩
abbrev cX4_seen : ByteArray := prog_1_method_21_code
def yX4_seen : MethodName := ⟨RX4, "seen", "(IIII)I"⟩
abbrev cX4_which : ByteArray := prog_1_method_22_code
def yX4_which : MethodName := ⟨RX4, "which", "(I)I"⟩
abbrev cX4_next : ByteArray := prog_1_method_23_code
def yX4_next : MethodName := ⟨RX4, "next", "(I)I"⟩
abbrev cX4_mark : ByteArray := prog_1_method_24_code
def yX4_mark : MethodName := ⟨RX4, "mark", "(III)I"⟩
abbrev cX4_forget : ByteArray := prog_1_method_25_code
def yX4_forget : MethodName := ⟨RX4, "forget", "(I)I"⟩
abbrev cX4_kinds : ByteArray := prog_1_method_26_code
def yX4_kinds : MethodName := ⟨RX4, "kinds", "()I"⟩
abbrev cX4_look : ByteArray := prog_1_method_27_code
def yX4_look : MethodName := ⟨RX4, "look", "()I"⟩
abbrev cX4_waiting : ByteArray := prog_1_method_28_code
def yX4_waiting : MethodName := ⟨RX4, "waiting", "(I)I"⟩
abbrev cX4_chance : ByteArray := prog_1_method_29_code
def yX4_chance : MethodName := ⟨RX4, "chance", "(III)I"⟩
abbrev cX4_years : ByteArray := prog_1_method_30_code
def yX4_years : MethodName := ⟨RX4, "years", "(II)I"⟩
abbrev cX4_part : ByteArray := prog_1_method_31_code
def yX4_part : MethodName := ⟨RX4, "part", "(I)J"⟩
abbrev cX4_image : ByteArray := prog_1_method_32_code
def yX4_image : MethodName := ⟨RX4, "image", "(I)I"⟩
abbrev cX4_from : ByteArray := prog_1_method_33_code
def yX4_from : MethodName := ⟨RX4, "from", "(I)I"⟩
abbrev cX4_status : ByteArray := prog_1_method_34_code
def yX4_status : MethodName := ⟨RX4, "status", "(I)I"⟩
abbrev cX4_count : ByteArray := prog_1_method_35_code
def yX4_count : MethodName := ⟨RX4, "count", "(I)I"⟩
abbrev cX4_digest : ByteArray := prog_1_method_36_code
def yX4_digest : MethodName := ⟨RX4, "digest", "()J"⟩
abbrev cX4_growth : ByteArray := prog_1_method_37_code
def yX4_growth : MethodName := ⟨RX4, "growth", "(III)I"⟩
abbrev cX4_wallGrowth : ByteArray := prog_1_method_38_code
def yX4_wallGrowth : MethodName := ⟨RX4, "wallGrowth", "()I"⟩
abbrev cX4_shadeGrowth : ByteArray := prog_1_method_39_code
def yX4_shadeGrowth : MethodName := ⟨RX4, "shadeGrowth", "(I)I"⟩
abbrev cX4_spoonGrowth : ByteArray := prog_1_method_40_code
def yX4_spoonGrowth : MethodName := ⟨RX4, "spoonGrowth", "(I)I"⟩
abbrev cX4_fall : ByteArray := prog_1_method_41_code
def yX4_fall : MethodName := ⟨RX4, "fall", "(III)I"⟩
abbrev cX4_plainFall : ByteArray := prog_1_method_42_code
def yX4_plainFall : MethodName := ⟨RX4, "plainFall", "()I"⟩
abbrev cX4_oldFall : ByteArray := prog_1_method_43_code
def yX4_oldFall : MethodName := ⟨RX4, "oldFall", "()I"⟩
abbrev cX4_lampFall : ByteArray := prog_1_method_44_code
def yX4_lampFall : MethodName := ⟨RX4, "lampFall", "(I)I"⟩
abbrev cX4_within : ByteArray := prog_1_method_45_code
def yX4_within : MethodName := ⟨RX4, "within", "(III)Z"⟩
abbrev cX4_isKind : ByteArray := prog_1_method_46_code
def yX4_isKind : MethodName := ⟨RX4, "isKind", "(I)Z"⟩
abbrev cX4_isCell : ByteArray := prog_1_method_47_code
def yX4_isCell : MethodName := ⟨RX4, "isCell", "(I)Z"⟩
abbrev cX4_holds : ByteArray := prog_1_method_48_code
def yX4_holds : MethodName := ⟨RX4, "holds", "(II)Z"⟩
abbrev cX4_mix : ByteArray := prog_1_method_49_code
def yX4_mix : MethodName := ⟨RX4, "mix", "(J[II)J"⟩
abbrev cX4_refuse : ByteArray := prog_1_method_50_code
def yX4_refuse : MethodName := ⟨RX4, "refuse", "(I)I"⟩
abbrev cX4_imageAt : ByteArray := prog_1_method_51_code
def yX4_imageAt : MethodName := ⟨RX4, "imageAt", "(I)LSlateHills$State;"⟩
abbrev cX4_clearest : ByteArray := prog_1_method_52_code
def yX4_clearest : MethodName := ⟨RX4, "clearest", "(ZIIII)I"⟩
abbrev cX4_fillAmounts : ByteArray := prog_1_method_53_code
def yX4_fillAmounts : MethodName := ⟨RX4, "fillAmounts", "(ZII)V"⟩
abbrev cX4_mostAlike : ByteArray := prog_1_method_54_code
def yX4_mostAlike : MethodName := ⟨RX4, "mostAlike", "(I)I"⟩
abbrev cX4_fillLosses : ByteArray := prog_1_method_55_code
def yX4_fillLosses : MethodName := ⟨RX4, "fillLosses", "()V"⟩
abbrev cX4_lossBetween : ByteArray := prog_1_method_56_code
def yX4_lossBetween : MethodName := ⟨RX4, "lossBetween", "(II)I"⟩
abbrev cX4_rests : ByteArray := prog_1_method_57_code
def yX4_rests : MethodName := ⟨RX4, "rests", "(II)Z"⟩
abbrev cX4_setFraction : ByteArray := prog_1_method_58_code
def yX4_setFraction : MethodName := ⟨RX4, "setFraction", "(JJ)V"⟩
def RX5 : String := "SlateHillsModel"
def TX5 : u_T := fun k => match k with
  | 0 => ("SlateHillsModel", "all", "[I", true)
  | 1 => ("SlateHillsModel", "kept", "[I", true)
  | 2 => ("SlateHillsModel", "isKept", "[Z", true)
  | 3 => ("SlateHillsModel", "refused", "[I", true)
  | 4 => ("SlateHillsModel", "above", "J", false)
  | 5 => ("SlateHillsModel", "below", "J", false)
  | 6 => ("SlateHillsModel", "wentOff", "I", false)
  | 7 => ("SlateHillsModel", "hand", "[I", true)
  | 8 => ("SlateHillsModel", "tells", "[I", true)
  | 9 => ("SlateHillsModel", "lostBy", "[I", true)
  | 10 => ("SlateHillsModel", "bytes", "[I", true)
  | 11 => ("SlateHillsModel", "bytesLong", "I", false)
  | 12 => ("SlateHillsModel", "tokenAt", "I", false)
  | 13 => ("SlateHillsModel", "tokenLong", "I", false)
  | 14 => ("SlateHillsModel", "token", "I", false)
  | 15 => ("SlateHillsModel", "value", "I", false)
  | 16 => ("SlateHillsModel", "anew", "[I", true)
  | _ => ("SlateHillsModel", "values", "[I", true)
def tyX5 : Nat → FieldType := fun k => match k with
  | 0 => .array .int
  | 1 => .array .int
  | 2 => .array .boolean
  | 3 => .array .int
  | 4 => .long
  | 5 => .long
  | 6 => .int
  | 7 => .array .int
  | 8 => .array .int
  | 9 => .array .int
  | 10 => .array .int
  | 11 => .int
  | 12 => .int
  | 13 => .int
  | 14 => .int
  | 15 => .int
  | 16 => .array .int
  | _ => .array .int
abbrev wsX50 : List Cond := u_ws RX5 TX5 18
theorem nmX5 : ∀ a, a < 18 → ∀ b, b < 18 → a ≠ b → (TX5 a).2.1 ≠ (TX5 b).2.1 := by decide +kernel
theorem tyX5_ok : ∀ k, k < 18 → parseFieldDescriptor (TX5 k).2.2.1 = some (tyX5 k) := by decide +kernel
abbrev cX5_init : ByteArray := prog_7_method_1_code
def yX5_init : MethodName := ⟨RX5, "<init>", "()V"⟩
abbrev cX5_in : ByteArray := prog_7_method_3_code
def yX5_in : MethodName := ⟨RX5, "in", "(JJJ)Z"⟩
abbrev cX5_bad : ByteArray := prog_7_method_4_code
def yX5_bad : MethodName := ⟨RX5, "bad", "(I)I"⟩
abbrev cX5_no : ByteArray := prog_7_method_5_code
def yX5_no : MethodName := ⟨RX5, "no", "()I"⟩
abbrev cX5_full : ByteArray := prog_7_method_6_code
def yX5_full : MethodName := ⟨RX5, "full", "()I"⟩
abbrev cX5_isIn : ByteArray := prog_7_method_7_code
def yX5_isIn : MethodName := ⟨RX5, "isIn", "(II)Z"⟩
abbrev cX5_begin : ByteArray := prog_7_method_8_code
def yX5_begin : MethodName := ⟨RX5, "begin", "([II)V"⟩
abbrev cX5_many : ByteArray := prog_7_method_9_code
def yX5_many : MethodName := ⟨RX5, "many", "()I"⟩
abbrev cX5_isHill : ByteArray := prog_7_method_10_code
def yX5_isHill : MethodName := ⟨RX5, "isHill", "(I)Z"⟩
abbrev cX5_isCell : ByteArray := prog_7_method_11_code
def yX5_isCell : MethodName := ⟨RX5, "isCell", "(I)Z"⟩
abbrev cX5_isKind : ByteArray := prog_7_method_12_code
def yX5_isKind : MethodName := ⟨RX5, "isKind", "(I)Z"⟩
abbrev cX5_isSize : ByteArray := prog_7_method_13_code
def yX5_isSize : MethodName := ⟨RX5, "isSize", "(I)Z"⟩
abbrev cX5_island : ByteArray := prog_7_method_14_code
def yX5_island : MethodName := ⟨RX5, "island", "(I)I"⟩
abbrev cX5_clerk : ByteArray := prog_7_method_15_code
def yX5_clerk : MethodName := ⟨RX5, "clerk", "(I)I"⟩
abbrev cX5_vines : ByteArray := prog_7_method_16_code
def yX5_vines : MethodName := ⟨RX5, "vines", "(II)I"⟩
abbrev cX5_isFree : ByteArray := prog_7_method_17_code
def yX5_isFree : MethodName := ⟨RX5, "isFree", "([II)Z"⟩
abbrev cX5_layHill : ByteArray := prog_7_method_18_code
def yX5_layHill : MethodName := ⟨RX5, "layHill", "([IIII)V"⟩
abbrev cX5_hill : ByteArray := prog_7_method_19_code
def yX5_hill : MethodName := ⟨RX5, "hill", "(III)I"⟩
abbrev cX5_growsAs : ByteArray := prog_7_method_20_code
def yX5_growsAs : MethodName := ⟨RX5, "growsAs", "(III)I"⟩
abbrev cX5_fallsAs : ByteArray := prog_7_method_21_code
def yX5_fallsAs : MethodName := ⟨RX5, "fallsAs", "(III)I"⟩
abbrev cX5_far : ByteArray := prog_7_method_22_code
def yX5_far : MethodName := ⟨RX5, "far", "(II)I"⟩
abbrev cX5_loses : ByteArray := prog_7_method_23_code
def yX5_loses : MethodName := ⟨RX5, "loses", "([II)I"⟩
abbrev cX5_goOff : ByteArray := prog_7_method_24_code
def yX5_goOff : MethodName := ⟨RX5, "goOff", "([I)I"⟩
abbrev cX5_goDay : ByteArray := prog_7_method_25_code
def yX5_goDay : MethodName := ⟨RX5, "goDay", "([II)I"⟩
abbrev cX5_save : ByteArray := prog_7_method_26_code
def yX5_save : MethodName := ⟨RX5, "save", "()V"⟩
abbrev cX5_harm : ByteArray := prog_7_method_27_code
def yX5_harm : MethodName := ⟨RX5, "harm", "([II)V"⟩
abbrev cX5_day : ByteArray := prog_7_method_28_code
def yX5_day : MethodName := ⟨RX5, "day", "(I)I"⟩
abbrev cX5_putBack : ByteArray := prog_7_method_29_code
def yX5_putBack : MethodName := ⟨RX5, "putBack", "(II)I"⟩
abbrev cX5_undo : ByteArray := prog_7_method_30_code
def yX5_undo : MethodName := ⟨RX5, "undo", "()I"⟩
abbrev cX5_of : ByteArray := prog_7_method_31_code
def yX5_of : MethodName := ⟨RX5, "of", "(II)I"⟩
abbrev cX5_has : ByteArray := prog_7_method_32_code
def yX5_has : MethodName := ⟨RX5, "has", "(I)I"⟩
abbrev cX5_layHand : ByteArray := prog_7_method_33_code
def yX5_layHand : MethodName := ⟨RX5, "layHand", "()V"⟩
abbrev cX5_goQuiet : ByteArray := prog_7_method_34_code
def yX5_goQuiet : MethodName := ⟨RX5, "goQuiet", "(I)I"⟩
abbrev cX5_high : ByteArray := prog_7_method_35_code
def yX5_high : MethodName := ⟨RX5, "high", "(II)I"⟩
abbrev cX5_goes : ByteArray := prog_7_method_36_code
def yX5_goes : MethodName := ⟨RX5, "goes", "(I)I"⟩
abbrev cX5_lost : ByteArray := prog_7_method_37_code
def yX5_lost : MethodName := ⟨RX5, "lost", "(I)I"⟩
abbrev cX5_chain : ByteArray := prog_7_method_38_code
def yX5_chain : MethodName := ⟨RX5, "chain", "(I)I"⟩
abbrev cX5_sizes : ByteArray := prog_7_method_39_code
def yX5_sizes : MethodName := ⟨RX5, "sizes", "([I)I"⟩
abbrev cX5_power : ByteArray := prog_7_method_40_code
def yX5_power : MethodName := ⟨RX5, "power", "(II)I"⟩
abbrev cX5_plan : ByteArray := prog_7_method_41_code
def yX5_plan : MethodName := ⟨RX5, "plan", "(II)I"⟩
abbrev cX5_askFirst : ByteArray := prog_7_method_42_code
def yX5_askFirst : MethodName := ⟨RX5, "askFirst", "(II)I"⟩
abbrev cX5_highest : ByteArray := prog_7_method_43_code
def yX5_highest : MethodName := ⟨RX5, "highest", "([I)I"⟩
abbrev cX5_calm : ByteArray := prog_7_method_44_code
def yX5_calm : MethodName := ⟨RX5, "calm", "(II)I"⟩
abbrev cX5_seen : ByteArray := prog_7_method_45_code
def yX5_seen : MethodName := ⟨RX5, "seen", "(IIII)I"⟩
abbrev cX5_kindsOfHill : ByteArray := prog_7_method_46_code
def yX5_kindsOfHill : MethodName := ⟨RX5, "kindsOfHill", "(I)I"⟩
abbrev cX5_which : ByteArray := prog_7_method_47_code
def yX5_which : MethodName := ⟨RX5, "which", "(I)I"⟩
abbrev cX5_mostAlike : ByteArray := prog_7_method_48_code
def yX5_mostAlike : MethodName := ⟨RX5, "mostAlike", "(I)I"⟩
abbrev cX5_bestLook : ByteArray := prog_7_method_49_code
def yX5_bestLook : MethodName := ⟨RX5, "bestLook", "(IIIZ)I"⟩
abbrev cX5_next : ByteArray := prog_7_method_50_code
def yX5_next : MethodName := ⟨RX5, "next", "(I)I"⟩
abbrev cX5_mark : ByteArray := prog_7_method_51_code
def yX5_mark : MethodName := ⟨RX5, "mark", "(III)I"⟩
abbrev cX5_forget : ByteArray := prog_7_method_52_code
def yX5_forget : MethodName := ⟨RX5, "forget", "(I)I"⟩
abbrev cX5_kinds : ByteArray := prog_7_method_53_code
def yX5_kinds : MethodName := ⟨RX5, "kinds", "()I"⟩
abbrev cX5_look : ByteArray := prog_7_method_54_code
def yX5_look : MethodName := ⟨RX5, "look", "()I"⟩
abbrev cX5_layLost : ByteArray := prog_7_method_55_code
def yX5_layLost : MethodName := ⟨RX5, "layLost", "()V"⟩
abbrev cX5_rests : ByteArray := prog_7_method_56_code
def yX5_rests : MethodName := ⟨RX5, "rests", "(II)Z"⟩
abbrev cX5_named : ByteArray := prog_7_method_57_code
def yX5_named : MethodName := ⟨RX5, "named", "(I)I"⟩
abbrev cX5_waiting : ByteArray := prog_7_method_58_code
def yX5_waiting : MethodName := ⟨RX5, "waiting", "(I)I"⟩
abbrev cX5_fraction : ByteArray := prog_7_method_59_code
def yX5_fraction : MethodName := ⟨RX5, "fraction", "(JJ)V"⟩
abbrev cX5_chance : ByteArray := prog_7_method_60_code
def yX5_chance : MethodName := ⟨RX5, "chance", "(III)I"⟩
abbrev cX5_years : ByteArray := prog_7_method_61_code
def yX5_years : MethodName := ⟨RX5, "years", "(II)I"⟩
abbrev cX5_type : ByteArray := prog_7_method_62_code
def yX5_type : MethodName := ⟨RX5, "type", "(I)I"⟩
abbrev cX5_clear : ByteArray := prog_7_method_63_code
def yX5_clear : MethodName := ⟨RX5, "clear", "()I"⟩
abbrev cX5_isSmall : ByteArray := prog_7_method_64_code
def yX5_isSmall : MethodName := ⟨RX5, "isSmall", "(I)Z"⟩
abbrev cX5_isFigure : ByteArray := prog_7_method_65_code
def yX5_isFigure : MethodName := ⟨RX5, "isFigure", "(I)Z"⟩
abbrev cX5_lookAt : ByteArray := prog_7_method_66_code
def yX5_lookAt : MethodName := ⟨RX5, "lookAt", "(I)V"⟩
abbrev cX5_goBehind : ByteArray := prog_7_method_67_code
def yX5_goBehind : MethodName := ⟨RX5, "goBehind", "()V"⟩
abbrev cX5_spells : ByteArray := prog_7_method_68_code
def yX5_spells : MethodName := ⟨RX5, "spells", "(IIIIIII)Z"⟩
abbrev cX5_takes : ByteArray := prog_7_method_69_code
def yX5_takes : MethodName := ⟨RX5, "takes", "(III)Z"⟩
abbrev cX5_takesVines : ByteArray := prog_7_method_70_code
def yX5_takesVines : MethodName := ⟨RX5, "takesVines", "()Z"⟩
abbrev cX5_takesHill : ByteArray := prog_7_method_71_code
def yX5_takesHill : MethodName := ⟨RX5, "takesHill", "()Z"⟩
abbrev cX5_takesDays : ByteArray := prog_7_method_72_code
def yX5_takesDays : MethodName := ⟨RX5, "takesDays", "()Z"⟩
abbrev cX5_takesItem : ByteArray := prog_7_method_73_code
def yX5_takesItem : MethodName := ⟨RX5, "takesItem", "()Z"⟩
abbrev cX5_read : ByteArray := prog_7_method_74_code
def yX5_read : MethodName := ⟨RX5, "read", "()I"⟩
abbrev cX5_part : ByteArray := prog_7_method_75_code
def yX5_part : MethodName := ⟨RX5, "part", "(I)J"⟩
abbrev cX5_image : ByteArray := prog_7_method_76_code
def yX5_image : MethodName := ⟨RX5, "image", "(I)I"⟩
abbrev cX5_from : ByteArray := prog_7_method_77_code
def yX5_from : MethodName := ⟨RX5, "from", "(I)I"⟩
abbrev cX5_status : ByteArray := prog_7_method_78_code
def yX5_status : MethodName := ⟨RX5, "status", "(I)I"⟩
abbrev cX5_vinesOfAll : ByteArray := prog_7_method_79_code
def yX5_vinesOfAll : MethodName := ⟨RX5, "vinesOfAll", "()I"⟩
abbrev cX5_counted : ByteArray := prog_7_method_80_code
def yX5_counted : MethodName := ⟨RX5, "counted", "(I)I"⟩
abbrev cX5_count : ByteArray := prog_7_method_81_code
def yX5_count : MethodName := ⟨RX5, "count", "(I)I"⟩
abbrev cX5_sums : ByteArray := prog_7_method_82_code
def yX5_sums : MethodName := ⟨RX5, "sums", "(JII)J"⟩
abbrev cX5_digest : ByteArray := prog_7_method_83_code
def yX5_digest : MethodName := ⟨RX5, "digest", "()J"⟩
def RJx145de : String := "java/io/Serializable"
def TJx145de : u_T := fun k => match k with
  | _ => ("", "", "", false)
def tyJx145de : Nat → FieldType := fun k => match k with
  | _ => .int
abbrev wsJx145de0 : List Cond := u_ws RJx145de TJx145de 0
theorem nmJx145de : ∀ a, a < 0 → ∀ b, b < 0 → a ≠ b → (TJx145de a).2.1 ≠ (TJx145de b).2.1 := by decide +kernel
theorem tyJx145de_ok : ∀ k, k < 0 → parseFieldDescriptor (TJx145de k).2.2.1 = some (tyJx145de k) := by decide +kernel
def RJx9f9b0 : String := "java/lang/CharSequence"
def TJx9f9b0 : u_T := fun k => match k with
  | _ => ("", "", "", false)
def tyJx9f9b0 : Nat → FieldType := fun k => match k with
  | _ => .int
abbrev wsJx9f9b00 : List Cond := u_ws RJx9f9b0 TJx9f9b0 0
theorem nmJx9f9b0 : ∀ a, a < 0 → ∀ b, b < 0 → a ≠ b → (TJx9f9b0 a).2.1 ≠ (TJx9f9b0 b).2.1 := by decide +kernel
theorem tyJx9f9b0_ok : ∀ k, k < 0 → parseFieldDescriptor (TJx9f9b0 k).2.2.1 = some (tyJx9f9b0 k) := by decide +kernel
def RJxb160c : String := "java/lang/Comparable"
def TJxb160c : u_T := fun k => match k with
  | _ => ("", "", "", false)
def tyJxb160c : Nat → FieldType := fun k => match k with
  | _ => .int
abbrev wsJxb160c0 : List Cond := u_ws RJxb160c TJxb160c 0
theorem nmJxb160c : ∀ a, a < 0 → ∀ b, b < 0 → a ≠ b → (TJxb160c a).2.1 ≠ (TJxb160c b).2.1 := by decide +kernel
theorem tyJxb160c_ok : ∀ k, k < 0 → parseFieldDescriptor (TJxb160c k).2.2.1 = some (tyJxb160c k) := by decide +kernel
def RJ9 : String := "java/lang/Math"
def TJ9 : u_T := fun k => match k with
  | _ => ("", "", "", false)
def tyJ9 : Nat → FieldType := fun k => match k with
  | _ => .int
abbrev wsJ90 : List Cond := u_ws RJ9 TJ9 0
theorem nmJ9 : ∀ a, a < 0 → ∀ b, b < 0 → a ≠ b → (TJ9 a).2.1 ≠ (TJ9 b).2.1 := by decide +kernel
theorem tyJ9_ok : ∀ k, k < 0 → parseFieldDescriptor (TJ9 k).2.2.1 = some (tyJ9 k) := by decide +kernel
abbrev cJ9_abs_0f7a4 : ByteArray := prog_8_method_59_code
def yJ9_abs_0f7a4 : MethodName := ⟨RJ9, "abs", "(I)I"⟩
abbrev cJ9_max_7cf53 : ByteArray := prog_8_method_65_code
def yJ9_max_7cf53 : MethodName := ⟨RJ9, "max", "(II)I"⟩
abbrev cJ9_min_7cf53 : ByteArray := prog_8_method_69_code
def yJ9_min_7cf53 : MethodName := ⟨RJ9, "min", "(II)I"⟩
def RJ0 : String := "java/lang/String"
def TJ0 : u_T := fun k => match k with
  | _ => ("", "", "", false)
def tyJ0 : Nat → FieldType := fun k => match k with
  | _ => .int
abbrev wsJ00 : List Cond := u_ws RJ0 TJ0 0
theorem nmJ0 : ∀ a, a < 0 → ∀ b, b < 0 → a ≠ b → (TJ0 a).2.1 ≠ (TJ0 b).2.1 := by decide +kernel
theorem tyJ0_ok : ∀ k, k < 0 → parseFieldDescriptor (TJ0 k).2.2.1 = some (tyJ0 k) := by decide +kernel
abbrev cJ0_length_8abf5 : ByteArray := prog_9_method_54_code
def yJ0_length_8abf5 : MethodName := ⟨RJ0, "length", "()I"⟩
abbrev cJ0_charAt_5068e : ByteArray := prog_9_method_56_code
def yJ0_charAt_5068e : MethodName := ⟨RJ0, "charAt", "(I)C"⟩
abbrev cJ0_coder_7d493 : ByteArray := prog_9_method_152_code
def yJ0_coder_7d493 : MethodName := ⟨RJ0, "coder", "()B"⟩
abbrev cJ0_isLatin1_aae02 : ByteArray := prog_9_method_154_code
def yJ0_isLatin1_aae02 : MethodName := ⟨RJ0, "isLatin1", "()Z"⟩
abbrev cJ0_checkIndex_df160 : ByteArray := prog_9_method_155_code
def yJ0_checkIndex_df160 : MethodName := ⟨RJ0, "checkIndex", "(II)V"⟩
def RJ1 : String := "java/lang/StringLatin1"
def TJ1 : u_T := fun k => match k with
  | _ => ("", "", "", false)
def tyJ1 : Nat → FieldType := fun k => match k with
  | _ => .int
abbrev wsJ10 : List Cond := u_ws RJ1 TJ1 0
theorem nmJ1 : ∀ a, a < 0 → ∀ b, b < 0 → a ≠ b → (TJ1 a).2.1 ≠ (TJ1 b).2.1 := by decide +kernel
theorem tyJ1_ok : ∀ k, k < 0 → parseFieldDescriptor (TJ1 k).2.2.1 = some (tyJ1 k) := by decide +kernel
abbrev cJ1_charAt_3b067 : ByteArray := prog_10_method_2_code
def yJ1_charAt_3b067 : MethodName := ⟨RJ1, "charAt", "([BI)C"⟩
def RJ2 : String := "java/lang/StringUTF16"
def TJ2 : u_T := fun k => match k with
  | _ => ("", "", "", false)
def tyJ2 : Nat → FieldType := fun k => match k with
  | _ => .int
abbrev wsJ20 : List Cond := u_ws RJ2 TJ2 0
theorem nmJ2 : ∀ a, a < 0 → ∀ b, b < 0 → a ≠ b → (TJ2 a).2.1 ≠ (TJ2 b).2.1 := by decide +kernel
theorem tyJ2_ok : ∀ k, k < 0 → parseFieldDescriptor (TJ2 k).2.2.1 = some (tyJ2 k) := by decide +kernel
abbrev cJ2_getChar_3b067 : ByteArray := prog_11_method_5_code
def yJ2_getChar_3b067 : MethodName := ⟨RJ2, "getChar", "([BI)C"⟩
abbrev cJ2_length_9d52b : ByteArray := prog_11_method_6_code
def yJ2_length_9d52b : MethodName := ⟨RJ2, "length", "([B)I"⟩
abbrev cJ2_charAt_3b067 : ByteArray := prog_11_method_83_code
def yJ2_charAt_3b067 : MethodName := ⟨RJ2, "charAt", "([BI)C"⟩
abbrev cJ2_checkIndex_2214a : ByteArray := prog_11_method_91_code
def yJ2_checkIndex_2214a : MethodName := ⟨RJ2, "checkIndex", "(I[B)V"⟩
def RJ10 : String := "java/lang/System"
def TJ10 : u_T := fun k => match k with
  | _ => ("", "", "", false)
def tyJ10 : Nat → FieldType := fun k => match k with
  | _ => .int
abbrev wsJ100 : List Cond := u_ws RJ10 TJ10 0
theorem nmJ10 : ∀ a, a < 0 → ∀ b, b < 0 → a ≠ b → (TJ10 a).2.1 ≠ (TJ10 b).2.1 := by decide +kernel
theorem tyJ10_ok : ∀ k, k < 0 → parseFieldDescriptor (TJ10 k).2.2.1 = some (tyJ10 k) := by decide +kernel
def RJxfd54e : String := "java/lang/constant/Constable"
def TJxfd54e : u_T := fun k => match k with
  | _ => ("", "", "", false)
def tyJxfd54e : Nat → FieldType := fun k => match k with
  | _ => .int
abbrev wsJxfd54e0 : List Cond := u_ws RJxfd54e TJxfd54e 0
theorem nmJxfd54e : ∀ a, a < 0 → ∀ b, b < 0 → a ≠ b → (TJxfd54e a).2.1 ≠ (TJxfd54e b).2.1 := by decide +kernel
theorem tyJxfd54e_ok : ∀ k, k < 0 → parseFieldDescriptor (TJxfd54e k).2.2.1 = some (tyJxfd54e k) := by decide +kernel
def RJx3cf43 : String := "java/lang/constant/ConstantDesc"
def TJx3cf43 : u_T := fun k => match k with
  | _ => ("", "", "", false)
def tyJx3cf43 : Nat → FieldType := fun k => match k with
  | _ => .int
abbrev wsJx3cf430 : List Cond := u_ws RJx3cf43 TJx3cf43 0
theorem nmJx3cf43 : ∀ a, a < 0 → ∀ b, b < 0 → a ≠ b → (TJx3cf43 a).2.1 ≠ (TJx3cf43 b).2.1 := by decide +kernel
theorem tyJx3cf43_ok : ∀ k, k < 0 → parseFieldDescriptor (TJx3cf43 k).2.2.1 = some (tyJx3cf43 k) := by decide +kernel
def RJ7 : String := "java/util/Arrays"
def TJ7 : u_T := fun k => match k with
  | _ => ("", "", "", false)
def tyJ7 : Nat → FieldType := fun k => match k with
  | _ => .int
abbrev wsJ70 : List Cond := u_ws RJ7 TJ7 0
theorem nmJ7 : ∀ a, a < 0 → ∀ b, b < 0 → a ≠ b → (TJ7 a).2.1 ≠ (TJ7 b).2.1 := by decide +kernel
theorem tyJ7_ok : ∀ k, k < 0 → parseFieldDescriptor (TJ7 k).2.2.1 = some (tyJ7 k) := by decide +kernel
abbrev cJ7_fill_53178 : ByteArray := prog_13_method_103_code
def yJ7_fill_53178 : MethodName := ⟨RJ7, "fill", "([II)V"⟩
def RJ3 : String := "jdk/internal/util/Preconditions"
def TJ3 : u_T := fun k => match k with
  | _ => ("", "", "", false)
def tyJ3 : Nat → FieldType := fun k => match k with
  | _ => .int
abbrev wsJ30 : List Cond := u_ws RJ3 TJ3 0
theorem nmJ3 : ∀ a, a < 0 → ∀ b, b < 0 → a ≠ b → (TJ3 a).2.1 ≠ (TJ3 b).2.1 := by decide +kernel
theorem tyJ3_ok : ∀ k, k < 0 → parseFieldDescriptor (TJ3 k).2.2.1 = some (tyJ3 k) := by decide +kernel
abbrev cJ3_checkIndex_8e157 : ByteArray := prog_14_method_11_code
def yJ3_checkIndex_8e157 : MethodName := ⟨RJ3, "checkIndex", "(IILjava/util/function/BiFunction;)I"⟩
def RL : String := "SlateHillsLaw"
abbrev cL_law : ByteArray := code
def yL_law : MethodName := ⟨RL, "law", "([I)Z"⟩
def wsL_law_r1 : List Cond := [Cond.classLink RL 7 RX4, Cond.instantiable RX4 12, Cond.initialized RX4, Cond.classLink RL 10 RX5, Cond.instantiable RX5 18, Cond.initialized RX5, Cond.methodLink RL 9 yX4_init, Cond.instanceMethod yX4_init, Cond.code yX4_init cX4_init 1 none, Cond.methodLink RX4 1 objectInit, Cond.instanceMethod objectInit, Cond.code objectInit ⟨#[0xb1]⟩ 1 none, Cond.classLink RX4 7 RX3, Cond.instantiable RX3 9, Cond.initialized RX3, Cond.fieldLink RX4 10 "SlateHills" "now" "LSlateHills$State;", Cond.fieldLink RX4 16 "SlateHills" "firstImage" "LSlateHills$State;", Cond.fieldLink RX4 19 "SlateHills" "secondImage" "LSlateHills$State;", Cond.classLink RX4 22 RX1, Cond.instantiable RX1 6, Cond.initialized RX1, Cond.fieldLink RX4 25 "SlateHills" "outlook" "LSlateHills$Outlook;", Cond.classLink RX4 29 RX2, Cond.instantiable RX2 8]
def wsL_law_r2 : List Cond := [Cond.initialized RX2, Cond.fieldLink RX4 32 "SlateHills" "reader" "LSlateHills$Reader;", Cond.arrayClass .int, Cond.fieldLink RX4 36 "SlateHills" "amounts" "[I", Cond.fieldLink RX4 40 "SlateHills" "losses" "[I", Cond.fieldLink RX4 43 "SlateHills" "above" "J", Cond.fieldLink RX4 47 "SlateHills" "below" "J", Cond.fieldLink RX4 50 "SlateHills" "refusedBad" "I", Cond.fieldLink RX4 54 "SlateHills" "refusedNo" "I", Cond.fieldLink RX4 57 "SlateHills" "refusedFull" "I", Cond.methodLink RX4 9 yX3_init, Cond.instanceMethod yX3_init, Cond.code yX3_init cX3_init 1 none, Cond.methodLink RX3 5 objectInit, Cond.classLink RX3 11 RX0, Cond.instantiable RX0 9, Cond.initialized RX0, Cond.fieldLink RX3 14 "SlateHills$State" "land" "LSlateHills$Land;", Cond.fieldLink RX3 18 "SlateHills$State" "seenRows" "[I", Cond.fieldLink RX3 22 "SlateHills$State" "seenCount" "I", Cond.fieldLink RX3 26 "SlateHills$State" "markRows" "[I", Cond.fieldLink RX3 29 "SlateHills$State" "markCount" "I", Cond.fieldLink RX3 32 "SlateHills$State" "undoSteps" "[I", Cond.fieldLink RX3 35 "SlateHills$State" "undoNext" "I"]
def wsL_law_r3 : List Cond := [Cond.fieldLink RX3 38 "SlateHills$State" "undoCount" "I", Cond.fieldLink RX3 41 "SlateHills$State" "isKept" "Z", Cond.methodLink RX3 13 yX0_init, Cond.instanceMethod yX0_init, Cond.code yX0_init cX0_init 1 none, Cond.methodLink RX0 3 objectInit, Cond.fieldLink RX0 9 "SlateHills$Land" "clerkKind" "I", Cond.fieldLink RX0 15 "SlateHills$Land" "hills" "I", Cond.fieldLink RX0 18 "SlateHills$Land" "kind" "[I", Cond.fieldLink RX0 22 "SlateHills$Land" "cell" "[I", Cond.fieldLink RX0 25 "SlateHills$Land" "size" "[I", Cond.fieldLink RX0 28 "SlateHills$Land" "vine" "[I", Cond.fieldLink RX0 31 "SlateHills$Land" "harm" "I", Cond.fieldLink RX0 34 "SlateHills$Land" "today" "I", Cond.fieldLink RX0 37 "SlateHills$Land" "wentOff" "I", Cond.methodLink RX0 40 yJ7_fill_53178, Cond.static yJ7_fill_53178, Cond.initialized RJ7, Cond.code yJ7_fill_53178 cJ7_fill_53178 4 none, Cond.methodLink RX4 24 yX1_init, Cond.instanceMethod yX1_init, Cond.code yX1_init cX1_init 2 none, Cond.methodLink RX1 3 objectInit, Cond.classLink RX1 9 RX0]
def wsL_law_r4 : List Cond := [Cond.fieldLink RX1 11 "SlateHills$Outlook" "lands" "[LSlateHills$Land;", Cond.fieldLink RX1 17 "SlateHills$Outlook" "row" "[I", Cond.fieldLink RX1 21 "SlateHills$Outlook" "best" "[I", Cond.fieldLink RX1 24 "SlateHills$Outlook" "fewest" "I", Cond.fieldLink RX1 28 "SlateHills$Outlook" "leastSizes" "I", Cond.fieldLink RX1 31 "SlateHills$Outlook" "days" "I", Cond.methodLink RX1 34 yX0_init, Cond.methodLink RX4 31 yX2_init, Cond.instanceMethod yX2_init, Cond.code yX2_init cX2_init 1 none, Cond.methodLink RX2 3 objectInit, Cond.fieldLink RX2 9 "SlateHills$Reader" "text" "[I", Cond.fieldLink RX2 15 "SlateHills$Reader" "length" "I", Cond.fieldLink RX2 19 "SlateHills$Reader" "at" "I", Cond.fieldLink RX2 22 "SlateHills$Reader" "token" "I", Cond.fieldLink RX2 25 "SlateHills$Reader" "value" "I", Cond.fieldLink RX2 28 "SlateHills$Reader" "start" "I", Cond.fieldLink RX2 31 "SlateHills$Reader" "items" "I", Cond.classLink RX2 34 RX0, Cond.fieldLink RX2 37 "SlateHills$Reader" "land" "LSlateHills$Land;", Cond.methodLink RX2 36 yX0_init, Cond.methodLink RL 12 yX5_init, Cond.instanceMethod yX5_init, Cond.code yX5_init cX5_init 1 none]
def wsL_law_r5 : List Cond := [Cond.methodLink RX5 1 objectInit, Cond.fieldLink RX5 7 "SlateHillsModel" "all" "[I", Cond.fieldLink RX5 13 "SlateHillsModel" "kept" "[I", Cond.arrayClass .boolean, Cond.fieldLink RX5 16 "SlateHillsModel" "isKept" "[Z", Cond.fieldLink RX5 20 "SlateHillsModel" "refused" "[I", Cond.fieldLink RX5 23 "SlateHillsModel" "below" "J", Cond.fieldLink RX5 27 "SlateHillsModel" "hand" "[I", Cond.fieldLink RX5 30 "SlateHillsModel" "tells" "[I", Cond.fieldLink RX5 33 "SlateHillsModel" "lostBy" "[I", Cond.fieldLink RX5 36 "SlateHillsModel" "bytes" "[I", Cond.fieldLink RX5 39 "SlateHillsModel" "anew" "[I", Cond.fieldLink RX5 42 "SlateHillsModel" "values" "[I", Cond.methodLink RX5 45 yX5_begin, Cond.static yX5_begin, Cond.code yX5_begin cX5_begin 3 none, Cond.methodLink RL 13 yX4_island, Cond.instanceMethod yX4_island, Cond.selects RX4 yX4_island yX4_island, Cond.code yX4_island cX4_island 3 (some .int), Cond.fieldLink RX4 68 "SlateHills$State" "land" "LSlateHills$Land;", Cond.fieldLink RX4 72 "SlateHills$Land" "hills" "I", Cond.methodLink RX4 60 yX4_isKind, Cond.static yX4_isKind]
def wsL_law_r6 : List Cond := [Cond.code yX4_isKind cX4_isKind 1 (some .boolean), Cond.methodLink RX4 90 yX4_within, Cond.static yX4_within, Cond.code yX4_within cX4_within 3 (some .boolean), Cond.methodLink RX4 64 yX4_refuse, Cond.instanceMethod yX4_refuse, Cond.selects RX4 yX4_refuse yX4_refuse, Cond.code yX4_refuse cX4_refuse 2 (some .int), Cond.methodLink RX4 77 yX3_restart, Cond.instanceMethod yX3_restart, Cond.selects RX3 yX3_restart yX3_restart, Cond.code yX3_restart cX3_restart 2 none, Cond.methodLink RX3 45 yX0_restart, Cond.instanceMethod yX0_restart, Cond.selects RX0 yX0_restart yX0_restart, Cond.code yX0_restart cX0_restart 2 none, Cond.methodLink RL 17 yX5_island, Cond.instanceMethod yX5_island, Cond.selects RX5 yX5_island yX5_island, Cond.code yX5_island cX5_island 3 (some .int), Cond.methodLink RX5 63 yX5_isKind, Cond.static yX5_isKind, Cond.code yX5_isKind cX5_isKind 1 (some .boolean), Cond.constantLong RX5 59 (5)]
def wsL_law_r7 : List Cond := [Cond.methodLink RX5 53 yX5_in, Cond.static yX5_in, Cond.code yX5_in cX5_in 6 (some .boolean), Cond.methodLink RX5 67 yX5_bad, Cond.instanceMethod yX5_bad, Cond.selects RX5 yX5_bad yX5_bad, Cond.code yX5_bad cX5_bad 2 (some .int), Cond.methodLink RX5 49 yX5_many, Cond.instanceMethod yX5_many, Cond.selects RX5 yX5_many yX5_many, Cond.code yX5_many cX5_many 1 (some .int), Cond.methodLink RL 18 yX4_clerk, Cond.instanceMethod yX4_clerk, Cond.selects RX4 yX4_clerk yX4_clerk, Cond.code yX4_clerk cX4_clerk 3 (some .int), Cond.fieldLink RX4 81 "SlateHills$Land" "clerkKind" "I", Cond.fieldLink RX4 84 "SlateHills$State" "undoCount" "I", Cond.methodLink RL 21 yX5_clerk, Cond.instanceMethod yX5_clerk, Cond.selects RX5 yX5_clerk yX5_clerk, Cond.code yX5_clerk cX5_clerk 3 (some .int), Cond.methodLink RL 22 yX4_vines, Cond.instanceMethod yX4_vines, Cond.selects RX4 yX4_vines yX4_vines]
def wsL_law_r8 : List Cond := [Cond.code yX4_vines cX4_vines 4 (some .int), Cond.fieldLink RX4 94 "SlateHills$Land" "vine" "[I", Cond.methodLink RX4 87 yX4_isCell, Cond.static yX4_isCell, Cond.code yX4_isCell cX4_isCell 1 (some .boolean), Cond.methodLink RL 26 yX5_vines, Cond.instanceMethod yX5_vines, Cond.selects RX5 yX5_vines yX5_vines, Cond.code yX5_vines cX5_vines 4 (some .int), Cond.constantLong RX5 74 (9), Cond.methodLink RX5 71 yX5_isCell, Cond.static yX5_isCell, Cond.code yX5_isCell cX5_isCell 1 (some .boolean), Cond.constantLong RX5 57 (19), Cond.methodLink RL 27 yX4_hill, Cond.instanceMethod yX4_hill, Cond.selects RX4 yX4_hill yX4_hill, Cond.code yX4_hill cX4_hill 4 (some .int), Cond.methodLink RX4 97 yX0_isTaken, Cond.instanceMethod yX0_isTaken, Cond.selects RX0 yX0_isTaken yX0_isTaken, Cond.code yX0_isTaken cX0_isTaken 3 (some .boolean), Cond.methodLink RX4 100 yX0_raise, Cond.instanceMethod yX0_raise]
def wsL_law_r9 : List Cond := [Cond.selects RX0 yX0_raise yX0_raise, Cond.code yX0_raise cX0_raise 4 none, Cond.methodLink RL 31 yX5_hill, Cond.instanceMethod yX5_hill, Cond.selects RX5 yX5_hill yX5_hill, Cond.code yX5_hill cX5_hill 4 (some .int), Cond.methodLink RX5 76 yX5_isSize, Cond.static yX5_isSize, Cond.code yX5_isSize cX5_isSize 1 (some .boolean), Cond.constantLong RX5 61 (59), Cond.methodLink RX5 79 yX5_isFree, Cond.static yX5_isFree, Cond.code yX5_isFree cX5_isFree 4 (some .boolean), Cond.methodLink RX5 83 yX5_no, Cond.instanceMethod yX5_no, Cond.selects RX5 yX5_no yX5_no, Cond.code yX5_no cX5_no 1 (some .int), Cond.methodLink RX5 86 yX5_full, Cond.instanceMethod yX5_full, Cond.selects RX5 yX5_full yX5_full, Cond.code yX5_full cX5_full 1 (some .int), Cond.methodLink RX5 89 yX5_layHill, Cond.static yX5_layHill, Cond.code yX5_layHill cX5_layHill 4 none]
def wsL_law_r10 : List Cond := [Cond.methodLink RL 32 yX4_type, Cond.instanceMethod yX4_type, Cond.selects RX4 yX4_type yX4_type, Cond.code yX4_type cX4_type 2 (some .int), Cond.fieldLink RX4 104 "SlateHills$Reader" "length" "I", Cond.methodLink RX4 107 yX2_append, Cond.instanceMethod yX2_append, Cond.selects RX2 yX2_append yX2_append, Cond.code yX2_append cX2_append 2 none, Cond.methodLink RL 35 yX5_type, Cond.instanceMethod yX5_type, Cond.selects RX5 yX5_type yX5_type, Cond.code yX5_type cX5_type 2 (some .int), Cond.constantLong RX5 203 (127), Cond.fieldLink RX5 205 "SlateHillsModel" "bytesLong" "I", Cond.methodLink RL 36 yX4_clear, Cond.instanceMethod yX4_clear, Cond.selects RX4 yX4_clear yX4_clear, Cond.code yX4_clear cX4_clear 2 (some .int), Cond.methodLink RL 40 yX5_clear, Cond.instanceMethod yX5_clear, Cond.selects RX5 yX5_clear yX5_clear, Cond.code yX5_clear cX5_clear 2 (some .int), Cond.methodLink RL 41 yX4_read]
def wsL_law_r11 : List Cond := [Cond.instanceMethod yX4_read, Cond.selects RX4 yX4_read yX4_read, Cond.code yX4_read cX4_read 1 (some .int), Cond.fieldLink RX4 114 "SlateHills$Reader" "start" "I", Cond.fieldLink RX4 117 "SlateHills$Reader" "land" "LSlateHills$Land;", Cond.fieldLink RX4 122 "SlateHills$Reader" "items" "I", Cond.methodLink RX4 110 yX2_readIsland, Cond.instanceMethod yX2_readIsland, Cond.selects RX2 yX2_readIsland yX2_readIsland, Cond.code yX2_readIsland cX2_readIsland 3 (some .boolean), Cond.methodLink RX2 41 yX2_readClerk, Cond.instanceMethod yX2_readClerk, Cond.selects RX2 yX2_readClerk yX2_readClerk, Cond.code yX2_readClerk cX2_readClerk 1 (some .boolean), Cond.methodLink RX2 45 yX2_step, Cond.instanceMethod yX2_step, Cond.selects RX2 yX2_step yX2_step, Cond.code yX2_step cX2_step 1 none, Cond.methodLink RX2 91 yX2_isLetter, Cond.static yX2_isLetter, Cond.code yX2_isLetter cX2_isLetter 1 (some .boolean), Cond.methodLink RX2 94 yX2_takeWord, Cond.instanceMethod yX2_takeWord, Cond.selects RX2 yX2_takeWord yX2_takeWord]
def wsL_law_r12 : List Cond := [Cond.code yX2_takeWord cX2_takeWord 1 none, Cond.methodLink RX2 105 yX2_spells, Cond.instanceMethod yX2_spells, Cond.selects RX2 yX2_spells yX2_spells, Cond.code yX2_spells cX2_spells 3 (some .boolean), Cond.methodLink RX2 115 yJ0_length_8abf5, Cond.instanceMethod yJ0_length_8abf5, Cond.selects RJ0 yJ0_length_8abf5 yJ0_length_8abf5, Cond.initialized RJ0, Cond.code yJ0_length_8abf5 cJ0_length_8abf5 1 (some .int), Cond.fieldLink RJ0 9 "java/lang/String" "value" "[B", Cond.methodLink RJ0 335 yJ0_coder_7d493, Cond.instanceMethod yJ0_coder_7d493, Cond.selects RJ0 yJ0_coder_7d493 yJ0_coder_7d493, Cond.code yJ0_coder_7d493 cJ0_coder_7d493 1 (some .byte), Cond.fieldLink RJ0 38 "java/lang/String" "COMPACT_STRINGS" "Z", Cond.fieldLink RJ0 15 "java/lang/String" "coder" "B", Cond.methodLink RX2 120 yJ0_charAt_5068e, Cond.instanceMethod yJ0_charAt_5068e, Cond.selects RJ0 yJ0_charAt_5068e yJ0_charAt_5068e, Cond.code yJ0_charAt_5068e cJ0_charAt_5068e 2 (some .char), Cond.methodLink RJ0 492 yJ0_isLatin1_aae02, Cond.instanceMethod yJ0_isLatin1_aae02, Cond.selects RJ0 yJ0_isLatin1_aae02 yJ0_isLatin1_aae02]
def wsL_law_r13 : List Cond := [Cond.code yJ0_isLatin1_aae02 cJ0_isLatin1_aae02 1 (some .boolean), Cond.methodLink RJ0 495 yJ1_charAt_3b067, Cond.static yJ1_charAt_3b067, Cond.initialized RJ1, Cond.code yJ1_charAt_3b067 cJ1_charAt_3b067 2 (some .char), Cond.methodLink RJ1 9 yJ0_checkIndex_df160, Cond.static yJ0_checkIndex_df160, Cond.code yJ0_checkIndex_df160 cJ0_checkIndex_df160 2 none, Cond.fieldLink RJ0 1053 "jdk/internal/util/Preconditions" "SIOOBE_FORMATTER" "Ljava/util/function/BiFunction;", Cond.methodLink RJ0 1059 yJ3_checkIndex_8e157, Cond.static yJ3_checkIndex_8e157, Cond.initialized RJ3, Cond.code yJ3_checkIndex_8e157 cJ3_checkIndex_8e157 3 (some .int), Cond.methodLink RJ0 498 yJ2_charAt_3b067, Cond.static yJ2_charAt_3b067, Cond.initialized RJ2, Cond.code yJ2_charAt_3b067 cJ2_charAt_3b067 2 (some .char), Cond.methodLink RJ2 67 yJ2_checkIndex_2214a, Cond.static yJ2_checkIndex_2214a, Cond.code yJ2_checkIndex_2214a cJ2_checkIndex_2214a 2 none, Cond.methodLink RJ2 48 yJ2_length_9d52b, Cond.static yJ2_length_9d52b, Cond.code yJ2_length_9d52b cJ2_length_9d52b 1 (some .int), Cond.methodLink RJ2 414 yJ0_checkIndex_df160]
def wsL_law_r14 : List Cond := [Cond.methodLink RJ2 71 yJ2_getChar_3b067, Cond.static yJ2_getChar_3b067, Cond.code yJ2_getChar_3b067 cJ2_getChar_3b067 2 (some .char), Cond.fieldLink RJ2 44 "java/lang/StringUTF16" "$assertionsDisabled" "Z", Cond.fieldLink RJ2 59 "java/lang/StringUTF16" "HI_BYTE_SHIFT" "I", Cond.fieldLink RJ2 63 "java/lang/StringUTF16" "LO_BYTE_SHIFT" "I", Cond.methodLink RX2 97 yX2_isFigure, Cond.static yX2_isFigure, Cond.code yX2_isFigure cX2_isFigure 1 (some .boolean), Cond.methodLink RX2 100 yX2_takeNumber, Cond.instanceMethod yX2_takeNumber, Cond.selects RX2 yX2_takeNumber yX2_takeNumber, Cond.code yX2_takeNumber cX2_takeNumber 1 none, Cond.methodLink RX2 57 yX2_stepToNumber, Cond.instanceMethod yX2_stepToNumber, Cond.selects RX2 yX2_stepToNumber yX2_stepToNumber, Cond.code yX2_stepToNumber cX2_stepToNumber 2 (some .boolean), Cond.methodLink RX2 61 yX0_restart, Cond.methodLink RX2 65 yX2_stepToEndOfItem, Cond.instanceMethod yX2_stepToEndOfItem, Cond.selects RX2 yX2_stepToEndOfItem yX2_stepToEndOfItem, Cond.code yX2_stepToEndOfItem cX2_stepToEndOfItem 1 (some .boolean), Cond.methodLink RX2 88 yX2_endsItem, Cond.instanceMethod yX2_endsItem]
def wsL_law_r15 : List Cond := [Cond.selects RX2 yX2_endsItem yX2_endsItem, Cond.code yX2_endsItem cX2_endsItem 1 (some .boolean), Cond.methodLink RX2 48 yX2_readVines, Cond.instanceMethod yX2_readVines, Cond.selects RX2 yX2_readVines yX2_readVines, Cond.code yX2_readVines cX2_readVines 2 (some .boolean), Cond.fieldLink RX2 68 "SlateHills$Land" "vine" "[I", Cond.methodLink RX2 51 yX2_readHill, Cond.instanceMethod yX2_readHill, Cond.selects RX2 yX2_readHill yX2_readHill, Cond.code yX2_readHill cX2_readHill 3 (some .boolean), Cond.fieldLink RX2 71 "SlateHills$Land" "hills" "I", Cond.methodLink RX2 74 yX0_isTaken, Cond.methodLink RX2 77 yX0_raise, Cond.methodLink RX2 54 yX2_readDays, Cond.instanceMethod yX2_readDays, Cond.selects RX2 yX2_readDays yX2_readDays, Cond.code yX2_readDays cX2_readDays 2 (some .boolean), Cond.methodLink RX2 81 yX0_mayVisit, Cond.instanceMethod yX0_mayVisit, Cond.selects RX0 yX0_mayVisit yX0_mayVisit, Cond.code yX0_mayVisit cX0_mayVisit 2 (some .boolean), Cond.methodLink RX0 60 yX0_isHill, Cond.instanceMethod yX0_isHill]
def wsL_law_r16 : List Cond := [Cond.selects RX0 yX0_isHill yX0_isHill, Cond.code yX0_isHill cX0_isHill 2 (some .boolean), Cond.methodLink RX2 84 yX0_pass, Cond.instanceMethod yX0_pass, Cond.selects RX0 yX0_pass yX0_pass, Cond.code yX0_pass cX0_pass 3 (some .int), Cond.methodLink RX0 68 Lib.Math.max.name, Cond.static Lib.Math.max.name, Cond.initialized "java/lang/Math", Cond.code Lib.Math.max.name Lib.Math.max.code 2 (some .int), Cond.static yX4_fall, Cond.code yX4_fall cX4_fall 3 (some .int), Cond.methodLink RX4 292 yX4_oldFall, Cond.static yX4_oldFall, Cond.code yX4_oldFall cX4_oldFall 0 (some .int), Cond.methodLink RX4 298 yX4_plainFall, Cond.static yX4_plainFall, Cond.code yX4_plainFall cX4_plainFall 0 (some .int), Cond.methodLink RX4 295 yX4_lampFall, Cond.static yX4_lampFall, Cond.code yX4_lampFall cX4_lampFall 1 (some .int), Cond.static yX4_growth, Cond.code yX4_growth cX4_growth 3 (some .int), Cond.methodLink RX4 283 yX4_shadeGrowth]
def wsL_law_r17 : List Cond := [Cond.static yX4_shadeGrowth, Cond.code yX4_shadeGrowth cX4_shadeGrowth 1 (some .int), Cond.methodLink RX4 289 yX4_wallGrowth, Cond.static yX4_wallGrowth, Cond.code yX4_wallGrowth cX4_wallGrowth 0 (some .int), Cond.methodLink RX4 286 yX4_spoonGrowth, Cond.static yX4_spoonGrowth, Cond.code yX4_spoonGrowth cX4_spoonGrowth 1 (some .int), Cond.methodLink RX0 77 yX0_settle, Cond.instanceMethod yX0_settle, Cond.selects RX0 yX0_settle yX0_settle, Cond.code yX0_settle cX0_settle 4 (some .int), Cond.methodLink RX0 88 yX0_firstOver, Cond.instanceMethod yX0_firstOver, Cond.selects RX0 yX0_firstOver yX0_firstOver, Cond.code yX0_firstOver cX0_firstOver 2 (some .int), Cond.methodLink RX0 91 yX0_loseAround, Cond.instanceMethod yX0_loseAround, Cond.selects RX0 yX0_loseAround yX0_loseAround, Cond.code yX0_loseAround cX0_loseAround 5 (some .int), Cond.methodLink RX0 98 Lib.Math.min.name, Cond.static Lib.Math.min.name, Cond.code Lib.Math.min.name Lib.Math.min.code 2 (some .int), Cond.methodLink RX0 94 yX0_spreadAround]
def wsL_law_r18 : List Cond := [Cond.instanceMethod yX0_spreadAround, Cond.selects RX0 yX0_spreadAround yX0_spreadAround, Cond.code yX0_spreadAround cX0_spreadAround 3 none, Cond.methodLink RX0 105 Lib.Math.abs.name, Cond.static Lib.Math.abs.name, Cond.code Lib.Math.abs.name Lib.Math.abs.code 1 (some .int), Cond.static yX4_holds, Cond.code yX4_holds cX4_holds 2 (some .boolean), Cond.methodLink RX4 118 yX0_copyFrom, Cond.instanceMethod yX0_copyFrom, Cond.selects RX0 yX0_copyFrom yX0_copyFrom, Cond.code yX0_copyFrom cX0_copyFrom 2 none, Cond.methodLink RX0 46 arraycopyName, Cond.native arraycopyName, Cond.static arraycopyName, Cond.initialized "java/lang/System", Cond.methodLink RX0 52 yX0_copyDaysFrom, Cond.instanceMethod yX0_copyDaysFrom, Cond.selects RX0 yX0_copyDaysFrom yX0_copyDaysFrom, Cond.code yX0_copyDaysFrom cX0_copyDaysFrom 2 none, Cond.methodLink RL 44 yX5_read, Cond.instanceMethod yX5_read, Cond.selects RX5 yX5_read yX5_read, Cond.code yX5_read cX5_read 3 (some .int)]
def wsL_law_r19 : List Cond := [Cond.fieldLink RX5 216 "SlateHillsModel" "tokenAt" "I", Cond.fieldLink RX5 222 "SlateHillsModel" "token" "I", Cond.methodLink RX5 234 yX5_lookAt, Cond.instanceMethod yX5_lookAt, Cond.selects RX5 yX5_lookAt yX5_lookAt, Cond.code yX5_lookAt cX5_lookAt 5 none, Cond.fieldLink RX5 219 "SlateHillsModel" "tokenLong" "I", Cond.fieldLink RX5 225 "SlateHillsModel" "value" "I", Cond.methodLink RX5 228 yX5_isSmall, Cond.static yX5_isSmall, Cond.code yX5_isSmall cX5_isSmall 1 (some .boolean), Cond.constantLong RX5 208 (97), Cond.constantLong RX5 210 (122), Cond.methodLink RX5 231 yX5_isFigure, Cond.static yX5_isFigure, Cond.code yX5_isFigure cX5_isFigure 1 (some .boolean), Cond.constantLong RX5 212 (48), Cond.constantLong RX5 214 (57), Cond.methodLink RX5 245 yX5_spells, Cond.instanceMethod yX5_spells, Cond.selects RX5 yX5_spells yX5_spells, Cond.code yX5_spells cX5_spells 10 (some .boolean), Cond.methodLink RX5 238 yX5_goBehind, Cond.instanceMethod yX5_goBehind]
def wsL_law_r20 : List Cond := [Cond.selects RX5 yX5_goBehind yX5_goBehind, Cond.code yX5_goBehind cX5_goBehind 1 none, Cond.methodLink RX5 241 yX5_takes, Cond.instanceMethod yX5_takes, Cond.selects RX5 yX5_takes yX5_takes, Cond.code yX5_takes cX5_takes 4 (some .boolean), Cond.methodLink RX5 259 yX5_takesItem, Cond.instanceMethod yX5_takesItem, Cond.selects RX5 yX5_takesItem yX5_takesItem, Cond.code yX5_takesItem cX5_takesItem 1 (some .boolean), Cond.methodLink RX5 249 yX5_takesVines, Cond.instanceMethod yX5_takesVines, Cond.selects RX5 yX5_takesVines yX5_takesVines, Cond.code yX5_takesVines cX5_takesVines 1 (some .boolean), Cond.methodLink RX5 253 yX5_takesHill, Cond.instanceMethod yX5_takesHill, Cond.selects RX5 yX5_takesHill yX5_takesHill, Cond.code yX5_takesHill cX5_takesHill 1 (some .boolean), Cond.methodLink RX5 256 yX5_takesDays, Cond.instanceMethod yX5_takesDays, Cond.selects RX5 yX5_takesDays yX5_takesDays, Cond.code yX5_takesDays cX5_takesDays 3 (some .boolean), Cond.methodLink RX5 126 yX5_goDay, Cond.instanceMethod yX5_goDay]
def wsL_law_r21 : List Cond := [Cond.selects RX5 yX5_goDay yX5_goDay, Cond.code yX5_goDay cX5_goDay 6 (some .int), Cond.methodLink RX5 109 yX5_fallsAs, Cond.static yX5_fallsAs, Cond.code yX5_fallsAs cX5_fallsAs 4 (some .int), Cond.methodLink RX5 113 yX5_growsAs, Cond.static yX5_growsAs, Cond.code yX5_growsAs cX5_growsAs 5 (some .int), Cond.methodLink RX5 116 yX5_goOff, Cond.instanceMethod yX5_goOff, Cond.selects RX5 yX5_goOff yX5_goOff, Cond.code yX5_goOff cX5_goOff 6 (some .int), Cond.fieldLink RX5 97 "SlateHillsModel" "wentOff" "I", Cond.methodLink RX5 101 yX5_loses, Cond.static yX5_loses, Cond.code yX5_loses cX5_loses 4 (some .int), Cond.methodLink RX5 93 yX5_far, Cond.static yX5_far, Cond.code yX5_far cX5_far 2 (some .int), Cond.methodLink RX5 105 yX5_isIn, Cond.static yX5_isIn, Cond.code yX5_isIn cX5_isIn 2 (some .boolean), Cond.methodLink RX5 129 yX5_harm, Cond.static yX5_harm]
def wsL_law_r22 : List Cond := [Cond.code yX5_harm cX5_harm 2 none, Cond.methodLink RL 45 yX4_day, Cond.instanceMethod yX4_day, Cond.selects RX4 yX4_day yX4_day, Cond.code yX4_day cX4_day 2 (some .int), Cond.fieldLink RX4 128 "SlateHills$Land" "today" "I", Cond.methodLink RX4 125 yX0_mayVisit, Cond.methodLink RX4 131 yX3_keepForUndo, Cond.instanceMethod yX3_keepForUndo, Cond.selects RX3 yX3_keepForUndo yX3_keepForUndo, Cond.code yX3_keepForUndo cX3_keepForUndo 2 none, Cond.fieldLink RX3 59 "SlateHills$Land" "size" "[I", Cond.methodLink RX3 53 arraycopyName, Cond.fieldLink RX3 62 "SlateHills$Land" "vine" "[I", Cond.fieldLink RX3 65 "SlateHills$Land" "harm" "I", Cond.fieldLink RX3 68 "SlateHills$Land" "today" "I", Cond.methodLink RX3 71 Lib.Math.min.name, Cond.methodLink RX4 134 yX0_pass, Cond.methodLink RL 48 yX5_day, Cond.instanceMethod yX5_day, Cond.selects RX5 yX5_day yX5_day, Cond.code yX5_day cX5_day 3 (some .int), Cond.methodLink RX5 120 yX5_isHill, Cond.instanceMethod yX5_isHill]
def wsL_law_r23 : List Cond := [Cond.selects RX5 yX5_isHill yX5_isHill, Cond.code yX5_isHill cX5_isHill 2 (some .boolean), Cond.methodLink RX5 123 yX5_save, Cond.instanceMethod yX5_save, Cond.selects RX5 yX5_save yX5_save, Cond.code yX5_save cX5_save 2 none, Cond.methodLink RL 49 yX4_putBack, Cond.instanceMethod yX4_putBack, Cond.selects RX4 yX4_putBack yX4_putBack, Cond.code yX4_putBack cX4_putBack 3 (some .int), Cond.methodLink RX4 137 Lib.Math.min.name, Cond.methodLink RL 52 yX5_putBack, Cond.instanceMethod yX5_putBack, Cond.selects RX5 yX5_putBack yX5_putBack, Cond.code yX5_putBack cX5_putBack 4 (some .int), Cond.methodLink RL 53 yX4_undo, Cond.instanceMethod yX4_undo, Cond.selects RX4 yX4_undo yX4_undo, Cond.code yX4_undo cX4_undo 1 (some .int), Cond.methodLink RX4 143 yX3_stepBack, Cond.instanceMethod yX3_stepBack, Cond.selects RX3 yX3_stepBack yX3_stepBack, Cond.code yX3_stepBack cX3_stepBack 2 none, Cond.methodLink RL 56 yX5_undo]
def wsL_law_r24 : List Cond := [Cond.instanceMethod yX5_undo, Cond.selects RX5 yX5_undo yX5_undo, Cond.code yX5_undo cX5_undo 2 (some .int), Cond.methodLink RL 57 yX4_of, Cond.instanceMethod yX4_of, Cond.selects RX4 yX4_of yX4_of, Cond.code yX4_of cX4_of 4 (some .int), Cond.fieldLink RX4 149 "SlateHills$Land" "kind" "[I", Cond.fieldLink RX4 152 "SlateHills$Land" "cell" "[I", Cond.fieldLink RX4 155 "SlateHills$Land" "size" "[I", Cond.methodLink RX4 146 yX0_isHill, Cond.methodLink RX4 158 yX4_growth, Cond.methodLink RX4 162 yX4_fall, Cond.methodLink RL 60 yX5_of, Cond.instanceMethod yX5_of, Cond.selects RX5 yX5_of yX5_of, Cond.code yX5_of cX5_of 4 (some .int), Cond.constantLong RX5 132 (4), Cond.methodLink RL 61 yX4_has, Cond.instanceMethod yX4_has, Cond.selects RX4 yX4_has yX4_has, Cond.code yX4_has cX4_has 2 (some .int), Cond.methodLink RL 64 yX5_has, Cond.instanceMethod yX5_has]
def wsL_law_r25 : List Cond := [Cond.selects RX5 yX5_has yX5_has, Cond.code yX5_has cX5_has 2 (some .int), Cond.methodLink RL 65 yX4_high, Cond.instanceMethod yX4_high, Cond.selects RX4 yX4_high yX4_high, Cond.code yX4_high cX4_high 4 (some .int), Cond.methodLink RX4 165 yX1_startFrom, Cond.instanceMethod yX1_startFrom, Cond.selects RX1 yX1_startFrom yX1_startFrom, Cond.code yX1_startFrom cX1_startFrom 2 (some (.object "SlateHills$Land")), Cond.methodLink RX1 35 yX0_copyFrom, Cond.methodLink RX4 169 yX0_passAlone, Cond.instanceMethod yX0_passAlone, Cond.selects RX0 yX0_passAlone yX0_passAlone, Cond.code yX0_passAlone cX0_passAlone 4 (some .int), Cond.methodLink RX0 81 yX0_pass, Cond.methodLink RL 68 yX5_high, Cond.instanceMethod yX5_high, Cond.selects RX5 yX5_high yX5_high, Cond.code yX5_high cX5_high 4 (some .int), Cond.constantLong RX5 134 (30), Cond.methodLink RX5 136 yX5_layHand, Cond.instanceMethod yX5_layHand, Cond.selects RX5 yX5_layHand yX5_layHand]
def wsL_law_r26 : List Cond := [Cond.code yX5_layHand cX5_layHand 2 none, Cond.methodLink RX5 139 yX5_goQuiet, Cond.instanceMethod yX5_goQuiet, Cond.selects RX5 yX5_goQuiet yX5_goQuiet, Cond.code yX5_goQuiet cX5_goQuiet 4 (some .int), Cond.methodLink RL 69 yX4_goes, Cond.instanceMethod yX4_goes, Cond.selects RX4 yX4_goes yX4_goes, Cond.code yX4_goes cX4_goes 4 (some .int), Cond.fieldLink RX4 172 "SlateHills$Land" "wentOff" "I", Cond.methodLink RX4 175 yX4_holds, Cond.methodLink RL 72 yX5_goes, Cond.instanceMethod yX5_goes, Cond.selects RX5 yX5_goes yX5_goes, Cond.code yX5_goes cX5_goes 4 (some .int), Cond.methodLink RL 73 yX4_lost, Cond.instanceMethod yX4_lost, Cond.selects RX4 yX4_lost yX4_lost, Cond.code yX4_lost cX4_lost 2 (some .int), Cond.methodLink RL 76 yX5_lost, Cond.instanceMethod yX5_lost, Cond.selects RX5 yX5_lost yX5_lost, Cond.code yX5_lost cX5_lost 2 (some .int), Cond.methodLink RL 77 yX4_chain]
def wsL_law_r27 : List Cond := [Cond.instanceMethod yX4_chain, Cond.selects RX4 yX4_chain yX4_chain, Cond.code yX4_chain cX4_chain 3 (some .int), Cond.methodLink RX4 179 yX0_settle, Cond.methodLink RL 80 yX5_chain, Cond.instanceMethod yX5_chain, Cond.selects RX5 yX5_chain yX5_chain, Cond.code yX5_chain cX5_chain 3 (some .int), Cond.methodLink RL 81 yX4_plan, Cond.instanceMethod yX4_plan, Cond.selects RX4 yX4_plan yX4_plan, Cond.code yX4_plan cX4_plan 4 (some .int), Cond.fieldLink RX4 187 "SlateHills$Outlook" "fewest" "I", Cond.fieldLink RX4 190 "SlateHills$Outlook" "best" "[I", Cond.methodLink RX4 183 yX1_findPlan, Cond.instanceMethod yX1_findPlan, Cond.selects RX1 yX1_findPlan yX1_findPlan, Cond.code yX1_findPlan cX1_findPlan 3 none, Cond.constant RX1 49 (1000000), Cond.methodLink RX1 45 yX1_startAllFrom, Cond.instanceMethod yX1_startAllFrom, Cond.selects RX1 yX1_startAllFrom yX1_startAllFrom, Cond.code yX1_startAllFrom cX1_startAllFrom 4 none, Cond.methodLink RX1 39 Lib.Math.min.name]
def wsL_law_r28 : List Cond := [Cond.methodLink RX1 50 yX1_tryRows, Cond.instanceMethod yX1_tryRows, Cond.selects RX1 yX1_tryRows yX1_tryRows, Cond.code yX1_tryRows cX1_tryRows 6 none, Cond.methodLink RX1 54 yX0_allSizes, Cond.instanceMethod yX0_allSizes, Cond.selects RX0 yX0_allSizes yX0_allSizes, Cond.code yX0_allSizes cX0_allSizes 3 (some .int), Cond.methodLink RX1 58 yX1_keepIfBetter, Cond.instanceMethod yX1_keepIfBetter, Cond.selects RX1 yX1_keepIfBetter yX1_keepIfBetter, Cond.code yX1_keepIfBetter cX1_keepIfBetter 3 none, Cond.methodLink RX1 72 arraycopyName, Cond.methodLink RX1 61 yX0_mayVisit, Cond.methodLink RX1 65 yX0_copyDaysFrom, Cond.methodLink RX1 68 yX0_pass, Cond.methodLink RL 84 yX5_plan, Cond.instanceMethod yX5_plan, Cond.selects RX5 yX5_plan yX5_plan, Cond.code yX5_plan cX5_plan 11 (some .int), Cond.constant RX5 142 (1000000), Cond.methodLink RX5 143 yX5_power, Cond.static yX5_power, Cond.code yX5_power cX5_power 4 (some .int)]
def wsL_law_r29 : List Cond := [Cond.methodLink RX5 146 yX5_sizes, Cond.static yX5_sizes, Cond.code yX5_sizes cX5_sizes 3 (some .int), Cond.methodLink RL 85 yX4_askFirst, Cond.instanceMethod yX4_askFirst, Cond.selects RX4 yX4_askFirst yX4_askFirst, Cond.code yX4_askFirst cX4_askFirst 8 (some .int), Cond.methodLink RL 88 yX5_askFirst, Cond.instanceMethod yX5_askFirst, Cond.selects RX5 yX5_askFirst yX5_askFirst, Cond.code yX5_askFirst cX5_askFirst 7 (some .int), Cond.methodLink RL 89 yX4_calm, Cond.instanceMethod yX4_calm, Cond.selects RX4 yX4_calm yX4_calm, Cond.code yX4_calm cX4_calm 8 (some .int), Cond.methodLink RX4 193 yX0_passWithTallest, Cond.instanceMethod yX0_passWithTallest, Cond.selects RX0 yX0_passWithTallest yX0_passWithTallest, Cond.code yX0_passWithTallest cX0_passWithTallest 4 (some .int), Cond.methodLink RX0 85 yX0_tallest, Cond.instanceMethod yX0_tallest, Cond.selects RX0 yX0_tallest yX0_tallest, Cond.code yX0_tallest cX0_tallest 4 (some .int), Cond.methodLink RL 92 yX5_calm]
def wsL_law_r30 : List Cond := [Cond.instanceMethod yX5_calm, Cond.selects RX5 yX5_calm yX5_calm, Cond.code yX5_calm cX5_calm 8 (some .int), Cond.methodLink RX5 149 yX5_highest, Cond.static yX5_highest, Cond.code yX5_highest cX5_highest 3 (some .int), Cond.methodLink RL 93 yX4_seen, Cond.instanceMethod yX4_seen, Cond.selects RX4 yX4_seen yX4_seen, Cond.code yX4_seen cX4_seen 5 (some .int), Cond.fieldLink RX4 196 "SlateHills$State" "seenCount" "I", Cond.methodLink RX4 199 yX3_addSeen, Cond.instanceMethod yX3_addSeen, Cond.selects RX3 yX3_addSeen yX3_addSeen, Cond.code yX3_addSeen cX3_addSeen 6 none, Cond.methodLink RL 97 yX5_seen, Cond.instanceMethod yX5_seen, Cond.selects RX5 yX5_seen yX5_seen, Cond.code yX5_seen cX5_seen 6 (some .int), Cond.constantLong RX5 152 (99), Cond.methodLink RL 98 yX4_which, Cond.instanceMethod yX4_which, Cond.selects RX4 yX4_which yX4_which, Cond.code yX4_which cX4_which 2 (some .int)]
def wsL_law_r31 : List Cond := [Cond.methodLink RX4 203 yX3_matterKindsOf, Cond.instanceMethod yX3_matterKindsOf, Cond.selects RX3 yX3_matterKindsOf yX3_matterKindsOf, Cond.code yX3_matterKindsOf cX3_matterKindsOf 4 (some .int), Cond.methodLink RX3 77 yX3_matterFits, Cond.instanceMethod yX3_matterFits, Cond.selects RX3 yX3_matterFits yX3_matterFits, Cond.code yX3_matterFits cX3_matterFits 7 (some .boolean), Cond.methodLink RL 101 yX5_which, Cond.instanceMethod yX5_which, Cond.selects RX5 yX5_which yX5_which, Cond.code yX5_which cX5_which 2 (some .int), Cond.methodLink RX5 154 yX5_kindsOfHill, Cond.instanceMethod yX5_kindsOfHill, Cond.selects RX5 yX5_kindsOfHill yX5_kindsOfHill, Cond.code yX5_kindsOfHill cX5_kindsOfHill 7 (some .int), Cond.methodLink RL 102 yX4_next, Cond.instanceMethod yX4_next, Cond.selects RX4 yX4_next yX4_next, Cond.code yX4_next cX4_next 2 (some .int), Cond.methodLink RX4 206 yX4_clearest, Cond.instanceMethod yX4_clearest, Cond.selects RX4 yX4_clearest yX4_clearest, Cond.code yX4_clearest cX4_clearest 11 (some .int)]
def wsL_law_r32 : List Cond := [Cond.methodLink RX4 301 yX4_fillAmounts, Cond.instanceMethod yX4_fillAmounts, Cond.selects RX4 yX4_fillAmounts yX4_fillAmounts, Cond.code yX4_fillAmounts cX4_fillAmounts 5 none, Cond.methodLink RX4 305 yX4_mostAlike, Cond.instanceMethod yX4_mostAlike, Cond.selects RX4 yX4_mostAlike yX4_mostAlike, Cond.code yX4_mostAlike cX4_mostAlike 6 (some .int), Cond.methodLink RL 105 yX5_next, Cond.instanceMethod yX5_next, Cond.selects RX5 yX5_next yX5_next, Cond.code yX5_next cX5_next 2 (some .int), Cond.methodLink RX5 160 yX5_bestLook, Cond.instanceMethod yX5_bestLook, Cond.selects RX5 yX5_bestLook yX5_bestLook, Cond.code yX5_bestLook cX5_bestLook 10 (some .int), Cond.methodLink RX5 157 yX5_mostAlike, Cond.instanceMethod yX5_mostAlike, Cond.selects RX5 yX5_mostAlike yX5_mostAlike, Cond.code yX5_mostAlike cX5_mostAlike 6 (some .int), Cond.methodLink RL 106 yX4_mark, Cond.instanceMethod yX4_mark, Cond.selects RX4 yX4_mark yX4_mark, Cond.code yX4_mark cX4_mark 4 (some .int)]
def wsL_law_r33 : List Cond := [Cond.fieldLink RX4 210 "SlateHills$State" "markCount" "I", Cond.methodLink RX4 213 yX3_addMark, Cond.instanceMethod yX3_addMark, Cond.selects RX3 yX3_addMark yX3_addMark, Cond.code yX3_addMark cX3_addMark 5 none, Cond.methodLink RL 109 yX5_mark, Cond.instanceMethod yX5_mark, Cond.selects RX5 yX5_mark yX5_mark, Cond.code yX5_mark cX5_mark 5 (some .int), Cond.constantLong RX5 164 (40), Cond.methodLink RL 110 yX4_forget, Cond.instanceMethod yX4_forget, Cond.selects RX4 yX4_forget yX4_forget, Cond.code yX4_forget cX4_forget 3 (some .int), Cond.methodLink RL 113 yX5_forget, Cond.instanceMethod yX5_forget, Cond.selects RX5 yX5_forget yX5_forget, Cond.code yX5_forget cX5_forget 3 (some .int), Cond.methodLink RL 114 yX4_kinds, Cond.instanceMethod yX4_kinds, Cond.selects RX4 yX4_kinds yX4_kinds, Cond.code yX4_kinds cX4_kinds 1 (some .int), Cond.methodLink RX4 216 yX3_clerkKinds, Cond.instanceMethod yX3_clerkKinds]
def wsL_law_r34 : List Cond := [Cond.selects RX3 yX3_clerkKinds yX3_clerkKinds, Cond.code yX3_clerkKinds cX3_clerkKinds 3 (some .int), Cond.methodLink RX3 85 yX3_clerkFits, Cond.instanceMethod yX3_clerkFits, Cond.selects RX3 yX3_clerkFits yX3_clerkFits, Cond.code yX3_clerkFits cX3_clerkFits 4 (some .boolean), Cond.methodLink RL 117 yX5_kinds, Cond.instanceMethod yX5_kinds, Cond.selects RX5 yX5_kinds yX5_kinds, Cond.code yX5_kinds cX5_kinds 6 (some .int), Cond.methodLink RL 118 yX4_look, Cond.instanceMethod yX4_look, Cond.selects RX4 yX4_look yX4_look, Cond.code yX4_look cX4_look 1 (some .int), Cond.methodLink RL 121 yX5_look, Cond.instanceMethod yX5_look, Cond.selects RX5 yX5_look yX5_look, Cond.code yX5_look cX5_look 1 (some .int), Cond.methodLink RX5 166 yX5_kinds, Cond.methodLink RL 122 yX4_waiting, Cond.instanceMethod yX4_waiting, Cond.selects RX4 yX4_waiting yX4_waiting, Cond.code yX4_waiting cX4_waiting 5 (some .int), Cond.methodLink RX4 219 yX4_fillLosses]
def wsL_law_r35 : List Cond := [Cond.instanceMethod yX4_fillLosses, Cond.selects RX4 yX4_fillLosses yX4_fillLosses, Cond.code yX4_fillLosses cX4_fillLosses 3 none, Cond.methodLink RX4 308 yX4_lossBetween, Cond.instanceMethod yX4_lossBetween, Cond.selects RX4 yX4_lossBetween yX4_lossBetween, Cond.code yX4_lossBetween cX4_lossBetween 4 (some .int), Cond.methodLink RX4 222 yX4_rests, Cond.instanceMethod yX4_rests, Cond.selects RX4 yX4_rests yX4_rests, Cond.code yX4_rests cX4_rests 5 (some .boolean), Cond.methodLink RL 125 yX5_waiting, Cond.instanceMethod yX5_waiting, Cond.selects RX5 yX5_waiting yX5_waiting, Cond.code yX5_waiting cX5_waiting 5 (some .int), Cond.methodLink RX5 169 yX5_layLost, Cond.instanceMethod yX5_layLost, Cond.selects RX5 yX5_layLost yX5_layLost, Cond.code yX5_layLost cX5_layLost 4 none, Cond.methodLink RX5 172 yX5_rests, Cond.instanceMethod yX5_rests, Cond.selects RX5 yX5_rests yX5_rests, Cond.code yX5_rests cX5_rests 5 (some .boolean), Cond.methodLink RX5 175 yX5_named]
def wsL_law_r36 : List Cond := [Cond.instanceMethod yX5_named, Cond.selects RX5 yX5_named yX5_named, Cond.code yX5_named cX5_named 2 (some .int), Cond.methodLink RL 126 yX4_chance, Cond.instanceMethod yX4_chance, Cond.selects RX4 yX4_chance yX4_chance, Cond.code yX4_chance cX4_chance 7 (some .int), Cond.constantLong RX4 225 (10), Cond.methodLink RX4 227 yX1_weighChance, Cond.instanceMethod yX1_weighChance, Cond.selects RX1 yX1_weighChance yX1_weighChance, Cond.code yX1_weighChance cX1_weighChance 5 (some .long), Cond.methodLink RX1 78 yX1_weigh, Cond.instanceMethod yX1_weigh, Cond.selects RX1 yX1_weigh yX1_weigh, Cond.code yX1_weigh cX1_weigh 9 (some .long), Cond.methodLink RX1 82 yX0_tallest, Cond.methodLink RX4 231 yX4_setFraction, Cond.instanceMethod yX4_setFraction, Cond.selects RX4 yX4_setFraction yX4_setFraction, Cond.code yX4_setFraction cX4_setFraction 12 none, Cond.methodLink RL 129 yX5_chance, Cond.instanceMethod yX5_chance, Cond.selects RX5 yX5_chance yX5_chance]
def wsL_law_r37 : List Cond := [Cond.code yX5_chance cX5_chance 11 (some .int), Cond.constantLong RX5 181 (50), Cond.constantLong RX5 183 (10), Cond.methodLink RX5 185 yX5_fraction, Cond.instanceMethod yX5_fraction, Cond.selects RX5 yX5_fraction yX5_fraction, Cond.code yX5_fraction cX5_fraction 11 none, Cond.fieldLink RX5 178 "SlateHillsModel" "above" "J", Cond.methodLink RL 130 yX4_years, Cond.instanceMethod yX4_years, Cond.selects RX4 yX4_years yX4_years, Cond.code yX4_years cX4_years 9 (some .int), Cond.constant RX4 235 (999999), Cond.constantLong RX4 236 (1103515245), Cond.constantLong RX4 238 (12345), Cond.constantLong RX4 240 (2147483648), Cond.constantLong RX4 242 (65536), Cond.constantLong RX4 244 (8), Cond.methodLink RL 133 yX5_years, Cond.instanceMethod yX5_years, Cond.selects RX5 yX5_years yX5_years, Cond.code yX5_years cX5_years 8 (some .int), Cond.constantLong RX5 189 (999999), Cond.constantLong RX5 191 (60)]
def wsL_law_r38 : List Cond := [Cond.constantLong RX5 193 (1103515245), Cond.constantLong RX5 195 (12345), Cond.constantLong RX5 197 (2147483648), Cond.constantLong RX5 199 (65536), Cond.constantLong RX5 201 (8), Cond.methodLink RL 134 yX4_part, Cond.instanceMethod yX4_part, Cond.selects RX4 yX4_part yX4_part, Cond.code yX4_part cX4_part 2 (some .long), Cond.methodLink RL 138 yX5_part, Cond.instanceMethod yX5_part, Cond.selects RX5 yX5_part yX5_part, Cond.code yX5_part cX5_part 2 (some .long), Cond.methodLink RL 139 yX4_image, Cond.instanceMethod yX4_image, Cond.selects RX4 yX4_image yX4_image, Cond.code yX4_image cX4_image 3 (some .int), Cond.fieldLink RX4 253 "SlateHills$State" "isKept" "Z", Cond.methodLink RX4 246 yX4_imageAt, Cond.instanceMethod yX4_imageAt, Cond.selects RX4 yX4_imageAt yX4_imageAt, Cond.code yX4_imageAt cX4_imageAt 2 (some (.object "SlateHills$State")), Cond.methodLink RX4 250 yX3_copyFrom, Cond.instanceMethod yX3_copyFrom]
def wsL_law_r39 : List Cond := [Cond.selects RX3 yX3_copyFrom yX3_copyFrom, Cond.code yX3_copyFrom cX3_copyFrom 2 none, Cond.methodLink RX3 49 yX0_copyFrom, Cond.methodLink RL 142 yX5_image, Cond.instanceMethod yX5_image, Cond.selects RX5 yX5_image yX5_image, Cond.code yX5_image cX5_image 3 (some .int), Cond.methodLink RL 143 yX4_from, Cond.instanceMethod yX4_from, Cond.selects RX4 yX4_from yX4_from, Cond.code yX4_from cX4_from 3 (some .int), Cond.methodLink RL 146 yX5_from, Cond.instanceMethod yX5_from, Cond.selects RX5 yX5_from yX5_from, Cond.code yX5_from cX5_from 3 (some .int), Cond.methodLink RL 147 yX4_status, Cond.instanceMethod yX4_status, Cond.selects RX4 yX4_status yX4_status, Cond.code yX4_status cX4_status 2 (some .int), Cond.methodLink RL 150 yX5_status, Cond.instanceMethod yX5_status, Cond.selects RX5 yX5_status yX5_status, Cond.code yX5_status cX5_status 2 (some .int), Cond.constantLong RX5 262 (2)]
def wsL_law_r40 : List Cond := [Cond.methodLink RL 151 yX4_count, Cond.instanceMethod yX4_count, Cond.selects RX4 yX4_count yX4_count, Cond.code yX4_count cX4_count 2 (some .int), Cond.fieldLink RX4 260 "SlateHills$Land" "harm" "I", Cond.methodLink RX4 257 yX0_allVines, Cond.instanceMethod yX0_allVines, Cond.selects RX0 yX0_allVines yX0_allVines, Cond.code yX0_allVines cX0_allVines 3 (some .int), Cond.methodLink RX4 263 yX0_allSizes, Cond.methodLink RL 154 yX5_count, Cond.instanceMethod yX5_count, Cond.selects RX5 yX5_count yX5_count, Cond.code yX5_count cX5_count 2 (some .int), Cond.methodLink RX5 267 yX5_counted, Cond.instanceMethod yX5_counted, Cond.selects RX5 yX5_counted yX5_counted, Cond.code yX5_counted cX5_counted 2 (some .int), Cond.methodLink RX5 264 yX5_vinesOfAll, Cond.instanceMethod yX5_vinesOfAll, Cond.selects RX5 yX5_vinesOfAll yX5_vinesOfAll, Cond.code yX5_vinesOfAll cX5_vinesOfAll 3 (some .int), Cond.methodLink RL 155 yX4_digest, Cond.instanceMethod yX4_digest]
def wsL_law_r41 : List Cond := [Cond.selects RX4 yX4_digest yX4_digest, Cond.code yX4_digest cX4_digest 5 (some .long), Cond.constantLong RX4 266 (1877), Cond.constantLong RX4 268 (31), Cond.fieldLink RX4 277 "SlateHills$State" "seenRows" "[I", Cond.fieldLink RX4 280 "SlateHills$State" "markRows" "[I", Cond.methodLink RX4 270 yX4_count, Cond.methodLink RX4 273 yX4_mix, Cond.static yX4_mix, Cond.code yX4_mix cX4_mix 5 (some .long), Cond.methodLink RL 159 yX5_digest, Cond.instanceMethod yX5_digest, Cond.selects RX5 yX5_digest yX5_digest, Cond.code yX5_digest cX5_digest 4 (some .long), Cond.constantLong RX5 272 (1877), Cond.constantLong RX5 270 (31), Cond.methodLink RX5 274 yX5_sums, Cond.instanceMethod yX5_sums, Cond.selects RX5 yX5_sums yX5_sums, Cond.code yX5_sums cX5_sums 8 (some .long)]
def wsL_law : List Cond := (wsL_law_r1 ++ (wsL_law_r2 ++ (wsL_law_r3 ++ (wsL_law_r4 ++ (wsL_law_r5 ++ (wsL_law_r6 ++ (wsL_law_r7 ++ (wsL_law_r8 ++ (wsL_law_r9 ++ (wsL_law_r10 ++ (wsL_law_r11 ++ (wsL_law_r12 ++ (wsL_law_r13 ++ (wsL_law_r14 ++ (wsL_law_r15 ++ (wsL_law_r16 ++ (wsL_law_r17 ++ (wsL_law_r18 ++ (wsL_law_r19 ++ (wsL_law_r20 ++ (wsL_law_r21 ++ (wsL_law_r22 ++ (wsL_law_r23 ++ (wsL_law_r24 ++ (wsL_law_r25 ++ (wsL_law_r26 ++ (wsL_law_r27 ++ (wsL_law_r28 ++ (wsL_law_r29 ++ (wsL_law_r30 ++ (wsL_law_r31 ++ (wsL_law_r32 ++ (wsL_law_r33 ++ (wsL_law_r34 ++ (wsL_law_r35 ++ (wsL_law_r36 ++ (wsL_law_r37 ++ (wsL_law_r38 ++ (wsL_law_r39 ++ (wsL_law_r40 ++ wsL_law_r41)))))))))))))))))))))))))))))))))))))))) ++ wsX40 ++ wsX50 ++ wsX30 ++ wsX10 ++ wsX20 ++ wsX00 ++ ([] : List Cond)
set_option maxRecDepth 20000 in
theorem gwsL_law_r1 : GoodIn lw_tbl wsL_law_r1 := goodIn_r _ [71, 72, 58, 788, 789, 64, 73, 74, 75, 76, 77, 78, 79, 80, 59, 240, 241, 242, 173, 174, 62, 243, 203, 204] (by decide +kernel) (by decide +kernel)
set_option maxRecDepth 20000 in
theorem gwsL_law_r2 : GoodIn lw_tbl wsL_law_r2 := goodIn_r _ [63, 244, 137, 245, 246, 247, 248, 249, 250, 251, 81, 82, 83, 84, 85, 86, 60, 138, 140, 142, 144, 146, 148, 149] (by decide +kernel) (by decide +kernel)
set_option maxRecDepth 20000 in
theorem gwsL_law_r3 : GoodIn lw_tbl wsL_law_r3 := goodIn_r _ [150, 152, 87, 88, 89, 90, 94, 96, 99, 101, 103, 106, 110, 113, 116, 91, 92, 61, 93, 175, 176, 177, 178, 179] (by decide +kernel) (by decide +kernel)
set_option maxRecDepth 20000 in
theorem gwsL_law_r4 : GoodIn lw_tbl wsL_law_r4 := goodIn_r _ [182, 183, 184, 186, 188, 189, 181, 205, 206, 207, 208, 211, 212, 214, 215, 216, 217, 219, 209, 221, 210, 790, 791, 792] (by decide +kernel) (by decide +kernel)
set_option maxRecDepth 20000 in
theorem gwsL_law_r5 : GoodIn lw_tbl wsL_law_r5 := goodIn_r _ [793, 797, 798, 852, 799, 800, 802, 804, 805, 806, 807, 813, 814, 794, 795, 796, 277, 278, 279, 280, 139, 97, 281, 282] (by decide +kernel) (by decide +kernel)
set_option maxRecDepth 20000 in
theorem gwsL_law_r6 : GoodIn lw_tbl wsL_law_r6 := goodIn_r _ [283, 284, 285, 286, 287, 289, 0, 290, 291, 292, 293, 294, 295, 296, 297, 298, 853, 854, 855, 856, 857, 858, 859, 860] (by decide +kernel) (by decide +kernel)
set_option maxRecDepth 20000 in
theorem gwsL_law_r7 : GoodIn lw_tbl wsL_law_r7 := goodIn_r _ [861, 862, 863, 864, 866, 29, 867, 868, 870, 30, 871, 299, 300, 301, 302, 95, 151, 872, 873, 874, 875, 303, 304, 305] (by decide +kernel) (by decide +kernel)
set_option maxRecDepth 20000 in
theorem gwsL_law_r8 : GoodIn lw_tbl wsL_law_r8 := goodIn_r _ [306, 108, 307, 308, 309, 876, 877, 878, 879, 884, 880, 881, 882, 883, 310, 311, 312, 313, 314, 315, 316, 317, 318, 319] (by decide +kernel) (by decide +kernel)
set_option maxRecDepth 20000 in
theorem gwsL_law_r9 : GoodIn lw_tbl wsL_law_r9 := goodIn_r _ [320, 321, 885, 886, 887, 888, 889, 890, 891, 892, 893, 894, 895, 896, 898, 31, 899, 900, 902, 32, 903, 904, 905, 906] (by decide +kernel) (by decide +kernel)
set_option maxRecDepth 20000 in
theorem gwsL_law_r10 : GoodIn lw_tbl wsL_law_r10 := goodIn_r _ [322, 323, 324, 325, 213, 326, 327, 328, 329, 1089, 1090, 1091, 1092, 1093, 808, 330, 331, 332, 333, 1094, 1095, 1096, 1097, 334] (by decide +kernel) (by decide +kernel)
set_option maxRecDepth 20000 in
theorem gwsL_law_r11 : GoodIn lw_tbl wsL_law_r11 := goodIn_r _ [335, 336, 337, 218, 222, 220, 338, 339, 340, 341, 342, 344, 1, 345, 346, 348, 2, 349, 350, 351, 352, 353, 355, 3] (by decide +kernel) (by decide +kernel)
set_option maxRecDepth 20000 in
theorem gwsL_law_r12 : GoodIn lw_tbl wsL_law_r12 := goodIn_r _ [356, 358, 360, 4, 361, 362, 363, 364, 65, 365, 1183, 366, 367, 368, 369, 370, 1184, 372, 373, 374, 375, 376, 377, 378] (by decide +kernel) (by decide +kernel)
set_option maxRecDepth 20000 in
theorem gwsL_law_r13 : GoodIn lw_tbl wsL_law_r13 := goodIn_r _ [379, 380, 381, 66, 382, 383, 384, 385, 386, 388, 389, 67, 390, 391, 392, 68, 393, 394, 395, 396, 397, 398, 399, 400] (by decide +kernel) (by decide +kernel)
set_option maxRecDepth 20000 in
theorem gwsL_law_r14 : GoodIn lw_tbl wsL_law_r14 := goodIn_r _ [401, 402, 403, 404, 406, 408, 413, 414, 415, 416, 418, 5, 419, 420, 422, 6, 423, 424, 425, 427, 7, 428, 429, 431] (by decide +kernel) (by decide +kernel)
set_option maxRecDepth 20000 in
theorem gwsL_law_r15 : GoodIn lw_tbl wsL_law_r15 := goodIn_r _ [8, 432, 433, 435, 9, 436, 109, 437, 439, 10, 440, 98, 441, 442, 443, 445, 11, 446, 447, 448, 449, 450, 451, 452] (by decide +kernel) (by decide +kernel)
set_option maxRecDepth 20000 in
theorem gwsL_law_r16 : GoodIn lw_tbl wsL_law_r16 := goodIn_r _ [453, 454, 456, 457, 458, 459, 472, 473, 69, 474, 461, 462, 463, 464, 465, 466, 467, 468, 469, 470, 471, 476, 477, 478] (by decide +kernel) (by decide +kernel)
set_option maxRecDepth 20000 in
theorem gwsL_law_r17 : GoodIn lw_tbl wsL_law_r17 := goodIn_r _ [479, 480, 481, 482, 483, 484, 485, 486, 487, 488, 489, 490, 491, 493, 12, 494, 495, 497, 13, 498, 499, 500, 501, 502] (by decide +kernel) (by decide +kernel)
set_option maxRecDepth 20000 in
theorem gwsL_law_r18 : GoodIn lw_tbl wsL_law_r18 := goodIn_r _ [504, 14, 505, 509, 510, 511, 507, 508, 512, 513, 514, 515, 516, 518, 517, 70, 519, 520, 521, 522, 1098, 1099, 1100, 1101] (by decide +kernel) (by decide +kernel)
set_option maxRecDepth 20000 in
theorem gwsL_law_r19 : GoodIn lw_tbl wsL_law_r19 := goodIn_r _ [809, 811, 1102, 1104, 46, 1105, 810, 812, 1106, 1107, 1108, 1109, 1110, 1111, 1112, 1113, 1114, 1115, 1116, 1118, 47, 1119, 1120, 1122] (by decide +kernel) (by decide +kernel)
set_option maxRecDepth 20000 in
theorem gwsL_law_r20 : GoodIn lw_tbl wsL_law_r20 := goodIn_r _ [48, 1123, 1124, 1126, 49, 1127, 1128, 1130, 50, 1131, 1132, 1134, 51, 1135, 1136, 1138, 52, 1139, 1140, 1142, 53, 1143, 919, 921] (by decide +kernel) (by decide +kernel)
set_option maxRecDepth 20000 in
theorem gwsL_law_r21 : GoodIn lw_tbl wsL_law_r21 := goodIn_r _ [35, 922, 923, 924, 925, 926, 927, 928, 929, 931, 36, 932, 803, 933, 934, 935, 936, 937, 938, 939, 940, 941, 942, 943] (by decide +kernel) (by decide +kernel)
set_option maxRecDepth 20000 in
theorem gwsL_law_r22 : GoodIn lw_tbl wsL_law_r22 := goodIn_r _ [944, 524, 525, 526, 527, 115, 528, 529, 530, 531, 532, 104, 533, 107, 111, 114, 534, 535, 907, 908, 909, 910, 911, 913] (by decide +kernel) (by decide +kernel)
set_option maxRecDepth 20000 in
theorem gwsL_law_r23 : GoodIn lw_tbl wsL_law_r23 := goodIn_r _ [33, 914, 915, 917, 34, 918, 536, 537, 538, 539, 540, 945, 946, 947, 948, 541, 542, 543, 544, 545, 546, 547, 548, 949] (by decide +kernel) (by decide +kernel)
set_option maxRecDepth 20000 in
theorem gwsL_law_r24 : GoodIn lw_tbl wsL_law_r24 := goodIn_r _ [950, 951, 952, 549, 550, 551, 552, 100, 102, 105, 553, 554, 555, 953, 954, 955, 956, 957, 556, 557, 558, 559, 958, 959] (by decide +kernel) (by decide +kernel)
set_option maxRecDepth 20000 in
theorem gwsL_law_r25 : GoodIn lw_tbl wsL_law_r25 := goodIn_r _ [960, 961, 560, 561, 562, 563, 564, 565, 566, 567, 568, 569, 570, 571, 572, 573, 962, 963, 964, 965, 966, 967, 969, 37] (by decide +kernel) (by decide +kernel)
set_option maxRecDepth 20000 in
theorem gwsL_law_r26 : GoodIn lw_tbl wsL_law_r26 := goodIn_r _ [970, 971, 973, 38, 974, 574, 575, 576, 577, 117, 578, 975, 976, 977, 978, 579, 580, 581, 582, 979, 980, 981, 982, 583] (by decide +kernel) (by decide +kernel)
set_option maxRecDepth 20000 in
theorem gwsL_law_r27 : GoodIn lw_tbl wsL_law_r27 := goodIn_r _ [584, 585, 586, 587, 983, 984, 985, 986, 588, 589, 590, 591, 187, 185, 592, 593, 594, 595, 601, 596, 598, 15, 599, 600] (by decide +kernel) (by decide +kernel)
set_option maxRecDepth 20000 in
theorem gwsL_law_r28 : GoodIn lw_tbl wsL_law_r28 := goodIn_r _ [602, 604, 16, 605, 606, 607, 608, 609, 610, 612, 17, 613, 614, 615, 616, 617, 987, 988, 989, 990, 991, 992, 993, 994] (by decide +kernel) (by decide +kernel)
set_option maxRecDepth 20000 in
theorem gwsL_law_r29 : GoodIn lw_tbl wsL_law_r29 := goodIn_r _ [995, 996, 997, 618, 619, 620, 621, 998, 999, 1000, 1001, 622, 623, 624, 625, 626, 627, 628, 629, 630, 631, 632, 633, 1002] (by decide +kernel) (by decide +kernel)
set_option maxRecDepth 20000 in
theorem gwsL_law_r30 : GoodIn lw_tbl wsL_law_r30 := goodIn_r _ [1003, 1004, 1005, 1006, 1007, 1008, 634, 635, 636, 637, 143, 638, 639, 640, 641, 1009, 1010, 1011, 1012, 1013, 642, 643, 644, 645] (by decide +kernel) (by decide +kernel)
set_option maxRecDepth 20000 in
theorem gwsL_law_r31 : GoodIn lw_tbl wsL_law_r31 := goodIn_r _ [646, 647, 648, 649, 650, 652, 18, 653, 1014, 1015, 1016, 1017, 1018, 1020, 39, 1021, 655, 656, 657, 658, 659, 661, 19, 662] (by decide +kernel) (by decide +kernel)
set_option maxRecDepth 20000 in
theorem gwsL_law_r32 : GoodIn lw_tbl wsL_law_r32 := goodIn_r _ [663, 665, 20, 666, 667, 669, 21, 670, 1022, 1023, 1024, 1025, 1026, 1028, 40, 1029, 1030, 1032, 41, 1033, 671, 672, 673, 674] (by decide +kernel) (by decide +kernel)
set_option maxRecDepth 20000 in
theorem gwsL_law_r33 : GoodIn lw_tbl wsL_law_r33 := goodIn_r _ [147, 675, 676, 677, 678, 1034, 1035, 1036, 1037, 1038, 679, 680, 681, 682, 1039, 1040, 1041, 1042, 683, 684, 685, 686, 687, 688] (by decide +kernel) (by decide +kernel)
set_option maxRecDepth 20000 in
theorem gwsL_law_r34 : GoodIn lw_tbl wsL_law_r34 := goodIn_r _ [689, 690, 691, 693, 22, 694, 1043, 1044, 1045, 1046, 696, 697, 698, 699, 1047, 1048, 1049, 1050, 1051, 700, 701, 702, 703, 704] (by decide +kernel) (by decide +kernel)
set_option maxRecDepth 20000 in
theorem gwsL_law_r35 : GoodIn lw_tbl wsL_law_r35 := goodIn_r _ [706, 23, 707, 708, 710, 24, 711, 712, 714, 25, 715, 1052, 1053, 1054, 1055, 1056, 1058, 42, 1059, 1060, 1062, 43, 1063, 1064] (by decide +kernel) (by decide +kernel)
set_option maxRecDepth 20000 in
theorem gwsL_law_r36 : GoodIn lw_tbl wsL_law_r36 := goodIn_r _ [1066, 44, 1067, 716, 717, 718, 719, 720, 721, 722, 723, 724, 725, 727, 26, 728, 729, 730, 732, 27, 733, 1068, 1069, 1070] (by decide +kernel) (by decide +kernel)
set_option maxRecDepth 20000 in
theorem gwsL_law_r37 : GoodIn lw_tbl wsL_law_r37 := goodIn_r _ [1071, 1072, 1073, 1074, 1076, 45, 1077, 801, 734, 735, 736, 737, 738, 739, 740, 741, 742, 743, 1078, 1079, 1080, 1081, 1082, 1083] (by decide +kernel) (by decide +kernel)
set_option maxRecDepth 20000 in
theorem gwsL_law_r38 : GoodIn lw_tbl wsL_law_r38 := goodIn_r _ [1084, 1085, 1086, 1087, 1088, 744, 745, 746, 747, 1144, 1145, 1146, 1147, 748, 749, 750, 751, 153, 752, 754, 28, 755, 756, 757] (by decide +kernel) (by decide +kernel)
set_option maxRecDepth 20000 in
theorem gwsL_law_r39 : GoodIn lw_tbl wsL_law_r39 := goodIn_r _ [758, 759, 760, 1148, 1149, 1150, 1151, 761, 762, 763, 764, 1152, 1153, 1154, 1155, 765, 766, 767, 768, 1156, 1157, 1158, 1159, 1160] (by decide +kernel) (by decide +kernel)
set_option maxRecDepth 20000 in
theorem gwsL_law_r40 : GoodIn lw_tbl wsL_law_r40 := goodIn_r _ [769, 770, 771, 772, 112, 773, 774, 775, 776, 777, 1161, 1162, 1163, 1164, 1165, 1167, 54, 1168, 1169, 1171, 55, 1172, 778, 779] (by decide +kernel) (by decide +kernel)
set_option maxRecDepth 20000 in
theorem gwsL_law_r41 : GoodIn lw_tbl wsL_law_r41 := goodIn_r _ [780, 781, 782, 783, 141, 145, 784, 785, 786, 787, 1173, 1174, 1175, 1176, 1177, 1178, 1179, 1181, 56, 1182] (by decide +kernel) (by decide +kernel)
set_option maxRecDepth 20000 in
theorem gwsX40 : GoodIn lw_tbl wsX40 := goodIn_of _ (by decide +kernel)
set_option maxRecDepth 20000 in
theorem gwsX50 : GoodIn lw_tbl wsX50 := goodIn_of _ (by decide +kernel)
set_option maxRecDepth 20000 in
theorem gwsX30 : GoodIn lw_tbl wsX30 := goodIn_of _ (by decide +kernel)
set_option maxRecDepth 20000 in
theorem gwsX10 : GoodIn lw_tbl wsX10 := goodIn_of _ (by decide +kernel)
set_option maxRecDepth 20000 in
theorem gwsX20 : GoodIn lw_tbl wsX20 := goodIn_of _ (by decide +kernel)
set_option maxRecDepth 20000 in
theorem gwsX00 : GoodIn lw_tbl wsX00 := goodIn_of _ (by decide +kernel)
theorem wsL_good : GoodIn lw_tbl wsL_law := goodIn_app (goodIn_app (goodIn_app (goodIn_app (goodIn_app (goodIn_app (goodIn_app (goodIn_app gwsL_law_r1 (goodIn_app gwsL_law_r2 (goodIn_app gwsL_law_r3 (goodIn_app gwsL_law_r4 (goodIn_app gwsL_law_r5 (goodIn_app gwsL_law_r6 (goodIn_app gwsL_law_r7 (goodIn_app gwsL_law_r8 (goodIn_app gwsL_law_r9 (goodIn_app gwsL_law_r10 (goodIn_app gwsL_law_r11 (goodIn_app gwsL_law_r12 (goodIn_app gwsL_law_r13 (goodIn_app gwsL_law_r14 (goodIn_app gwsL_law_r15 (goodIn_app gwsL_law_r16 (goodIn_app gwsL_law_r17 (goodIn_app gwsL_law_r18 (goodIn_app gwsL_law_r19 (goodIn_app gwsL_law_r20 (goodIn_app gwsL_law_r21 (goodIn_app gwsL_law_r22 (goodIn_app gwsL_law_r23 (goodIn_app gwsL_law_r24 (goodIn_app gwsL_law_r25 (goodIn_app gwsL_law_r26 (goodIn_app gwsL_law_r27 (goodIn_app gwsL_law_r28 (goodIn_app gwsL_law_r29 (goodIn_app gwsL_law_r30 (goodIn_app gwsL_law_r31 (goodIn_app gwsL_law_r32 (goodIn_app gwsL_law_r33 (goodIn_app gwsL_law_r34 (goodIn_app gwsL_law_r35 (goodIn_app gwsL_law_r36 (goodIn_app gwsL_law_r37 (goodIn_app gwsL_law_r38 (goodIn_app gwsL_law_r39 (goodIn_app gwsL_law_r40 (gwsL_law_r41))))))))))))))))))))))))))))))))))))))))) gwsX40) gwsX50) gwsX30) gwsX10) gwsX20) gwsX00) (fun _ h => absurd h List.not_mem_nil)
theorem wsL_law_in : ∀ w ∈ wsL_law, w ∈ lw_tbl := fun w h => (wsL_good w h).1
theorem iwsL_law_r1 : ∀ w ∈ wsL_law_r1, w ∈ wsL_law := fun _ h => List.mem_append_left _ (List.mem_append_left _ (List.mem_append_left _ (List.mem_append_left _ (List.mem_append_left _ (List.mem_append_left _ (List.mem_append_left _ (List.mem_append_left _ (h))))))))
theorem iwsL_law_r2 : ∀ w ∈ wsL_law_r2, w ∈ wsL_law := fun _ h => List.mem_append_left _ (List.mem_append_left _ (List.mem_append_left _ (List.mem_append_left _ (List.mem_append_left _ (List.mem_append_left _ (List.mem_append_left _ (List.mem_append_right _ (List.mem_append_left _ (h)))))))))
theorem iwsL_law_r3 : ∀ w ∈ wsL_law_r3, w ∈ wsL_law := fun _ h => List.mem_append_left _ (List.mem_append_left _ (List.mem_append_left _ (List.mem_append_left _ (List.mem_append_left _ (List.mem_append_left _ (List.mem_append_left _ (List.mem_append_right _ (List.mem_append_right _ (List.mem_append_left _ (h))))))))))
theorem iwsL_law_r4 : ∀ w ∈ wsL_law_r4, w ∈ wsL_law := fun _ h => List.mem_append_left _ (List.mem_append_left _ (List.mem_append_left _ (List.mem_append_left _ (List.mem_append_left _ (List.mem_append_left _ (List.mem_append_left _ (List.mem_append_right _ (List.mem_append_right _ (List.mem_append_right _ (List.mem_append_left _ (h)))))))))))
theorem iwsL_law_r5 : ∀ w ∈ wsL_law_r5, w ∈ wsL_law := fun _ h => List.mem_append_left _ (List.mem_append_left _ (List.mem_append_left _ (List.mem_append_left _ (List.mem_append_left _ (List.mem_append_left _ (List.mem_append_left _ (List.mem_append_right _ (List.mem_append_right _ (List.mem_append_right _ (List.mem_append_right _ (List.mem_append_left _ (h))))))))))))
theorem iwsL_law_r6 : ∀ w ∈ wsL_law_r6, w ∈ wsL_law := fun _ h => List.mem_append_left _ (List.mem_append_left _ (List.mem_append_left _ (List.mem_append_left _ (List.mem_append_left _ (List.mem_append_left _ (List.mem_append_left _ (List.mem_append_right _ (List.mem_append_right _ (List.mem_append_right _ (List.mem_append_right _ (List.mem_append_right _ (List.mem_append_left _ (h)))))))))))))
theorem iwsL_law_r7 : ∀ w ∈ wsL_law_r7, w ∈ wsL_law := fun _ h => List.mem_append_left _ (List.mem_append_left _ (List.mem_append_left _ (List.mem_append_left _ (List.mem_append_left _ (List.mem_append_left _ (List.mem_append_left _ (List.mem_append_right _ (List.mem_append_right _ (List.mem_append_right _ (List.mem_append_right _ (List.mem_append_right _ (List.mem_append_right _ (List.mem_append_left _ (h))))))))))))))
theorem iwsL_law_r8 : ∀ w ∈ wsL_law_r8, w ∈ wsL_law := fun _ h => List.mem_append_left _ (List.mem_append_left _ (List.mem_append_left _ (List.mem_append_left _ (List.mem_append_left _ (List.mem_append_left _ (List.mem_append_left _ (List.mem_append_right _ (List.mem_append_right _ (List.mem_append_right _ (List.mem_append_right _ (List.mem_append_right _ (List.mem_append_right _ (List.mem_append_right _ (List.mem_append_left _ (h)))))))))))))))
theorem iwsL_law_r9 : ∀ w ∈ wsL_law_r9, w ∈ wsL_law := fun _ h => List.mem_append_left _ (List.mem_append_left _ (List.mem_append_left _ (List.mem_append_left _ (List.mem_append_left _ (List.mem_append_left _ (List.mem_append_left _ (List.mem_append_right _ (List.mem_append_right _ (List.mem_append_right _ (List.mem_append_right _ (List.mem_append_right _ (List.mem_append_right _ (List.mem_append_right _ (List.mem_append_right _ (List.mem_append_left _ (h))))))))))))))))
theorem iwsL_law_r10 : ∀ w ∈ wsL_law_r10, w ∈ wsL_law := fun _ h => List.mem_append_left _ (List.mem_append_left _ (List.mem_append_left _ (List.mem_append_left _ (List.mem_append_left _ (List.mem_append_left _ (List.mem_append_left _ (List.mem_append_right _ (List.mem_append_right _ (List.mem_append_right _ (List.mem_append_right _ (List.mem_append_right _ (List.mem_append_right _ (List.mem_append_right _ (List.mem_append_right _ (List.mem_append_right _ (List.mem_append_left _ (h)))))))))))))))))
theorem iwsL_law_r11 : ∀ w ∈ wsL_law_r11, w ∈ wsL_law := fun _ h => List.mem_append_left _ (List.mem_append_left _ (List.mem_append_left _ (List.mem_append_left _ (List.mem_append_left _ (List.mem_append_left _ (List.mem_append_left _ (List.mem_append_right _ (List.mem_append_right _ (List.mem_append_right _ (List.mem_append_right _ (List.mem_append_right _ (List.mem_append_right _ (List.mem_append_right _ (List.mem_append_right _ (List.mem_append_right _ (List.mem_append_right _ (List.mem_append_left _ (h))))))))))))))))))
theorem iwsL_law_r12 : ∀ w ∈ wsL_law_r12, w ∈ wsL_law := fun _ h => List.mem_append_left _ (List.mem_append_left _ (List.mem_append_left _ (List.mem_append_left _ (List.mem_append_left _ (List.mem_append_left _ (List.mem_append_left _ (List.mem_append_right _ (List.mem_append_right _ (List.mem_append_right _ (List.mem_append_right _ (List.mem_append_right _ (List.mem_append_right _ (List.mem_append_right _ (List.mem_append_right _ (List.mem_append_right _ (List.mem_append_right _ (List.mem_append_right _ (List.mem_append_left _ (h)))))))))))))))))))
theorem iwsL_law_r13 : ∀ w ∈ wsL_law_r13, w ∈ wsL_law := fun _ h => List.mem_append_left _ (List.mem_append_left _ (List.mem_append_left _ (List.mem_append_left _ (List.mem_append_left _ (List.mem_append_left _ (List.mem_append_left _ (List.mem_append_right _ (List.mem_append_right _ (List.mem_append_right _ (List.mem_append_right _ (List.mem_append_right _ (List.mem_append_right _ (List.mem_append_right _ (List.mem_append_right _ (List.mem_append_right _ (List.mem_append_right _ (List.mem_append_right _ (List.mem_append_right _ (List.mem_append_left _ (h))))))))))))))))))))
theorem iwsL_law_r14 : ∀ w ∈ wsL_law_r14, w ∈ wsL_law := fun _ h => List.mem_append_left _ (List.mem_append_left _ (List.mem_append_left _ (List.mem_append_left _ (List.mem_append_left _ (List.mem_append_left _ (List.mem_append_left _ (List.mem_append_right _ (List.mem_append_right _ (List.mem_append_right _ (List.mem_append_right _ (List.mem_append_right _ (List.mem_append_right _ (List.mem_append_right _ (List.mem_append_right _ (List.mem_append_right _ (List.mem_append_right _ (List.mem_append_right _ (List.mem_append_right _ (List.mem_append_right _ (List.mem_append_left _ (h)))))))))))))))))))))
theorem iwsL_law_r15 : ∀ w ∈ wsL_law_r15, w ∈ wsL_law := fun _ h => List.mem_append_left _ (List.mem_append_left _ (List.mem_append_left _ (List.mem_append_left _ (List.mem_append_left _ (List.mem_append_left _ (List.mem_append_left _ (List.mem_append_right _ (List.mem_append_right _ (List.mem_append_right _ (List.mem_append_right _ (List.mem_append_right _ (List.mem_append_right _ (List.mem_append_right _ (List.mem_append_right _ (List.mem_append_right _ (List.mem_append_right _ (List.mem_append_right _ (List.mem_append_right _ (List.mem_append_right _ (List.mem_append_right _ (List.mem_append_left _ (h))))))))))))))))))))))
theorem iwsL_law_r16 : ∀ w ∈ wsL_law_r16, w ∈ wsL_law := fun _ h => List.mem_append_left _ (List.mem_append_left _ (List.mem_append_left _ (List.mem_append_left _ (List.mem_append_left _ (List.mem_append_left _ (List.mem_append_left _ (List.mem_append_right _ (List.mem_append_right _ (List.mem_append_right _ (List.mem_append_right _ (List.mem_append_right _ (List.mem_append_right _ (List.mem_append_right _ (List.mem_append_right _ (List.mem_append_right _ (List.mem_append_right _ (List.mem_append_right _ (List.mem_append_right _ (List.mem_append_right _ (List.mem_append_right _ (List.mem_append_right _ (List.mem_append_left _ (h)))))))))))))))))))))))
theorem iwsL_law_r17 : ∀ w ∈ wsL_law_r17, w ∈ wsL_law := fun _ h => List.mem_append_left _ (List.mem_append_left _ (List.mem_append_left _ (List.mem_append_left _ (List.mem_append_left _ (List.mem_append_left _ (List.mem_append_left _ (List.mem_append_right _ (List.mem_append_right _ (List.mem_append_right _ (List.mem_append_right _ (List.mem_append_right _ (List.mem_append_right _ (List.mem_append_right _ (List.mem_append_right _ (List.mem_append_right _ (List.mem_append_right _ (List.mem_append_right _ (List.mem_append_right _ (List.mem_append_right _ (List.mem_append_right _ (List.mem_append_right _ (List.mem_append_right _ (List.mem_append_left _ (h))))))))))))))))))))))))
theorem iwsL_law_r18 : ∀ w ∈ wsL_law_r18, w ∈ wsL_law := fun _ h => List.mem_append_left _ (List.mem_append_left _ (List.mem_append_left _ (List.mem_append_left _ (List.mem_append_left _ (List.mem_append_left _ (List.mem_append_left _ (List.mem_append_right _ (List.mem_append_right _ (List.mem_append_right _ (List.mem_append_right _ (List.mem_append_right _ (List.mem_append_right _ (List.mem_append_right _ (List.mem_append_right _ (List.mem_append_right _ (List.mem_append_right _ (List.mem_append_right _ (List.mem_append_right _ (List.mem_append_right _ (List.mem_append_right _ (List.mem_append_right _ (List.mem_append_right _ (List.mem_append_right _ (List.mem_append_left _ (h)))))))))))))))))))))))))
theorem iwsL_law_r19 : ∀ w ∈ wsL_law_r19, w ∈ wsL_law := fun _ h => List.mem_append_left _ (List.mem_append_left _ (List.mem_append_left _ (List.mem_append_left _ (List.mem_append_left _ (List.mem_append_left _ (List.mem_append_left _ (List.mem_append_right _ (List.mem_append_right _ (List.mem_append_right _ (List.mem_append_right _ (List.mem_append_right _ (List.mem_append_right _ (List.mem_append_right _ (List.mem_append_right _ (List.mem_append_right _ (List.mem_append_right _ (List.mem_append_right _ (List.mem_append_right _ (List.mem_append_right _ (List.mem_append_right _ (List.mem_append_right _ (List.mem_append_right _ (List.mem_append_right _ (List.mem_append_right _ (List.mem_append_left _ (h))))))))))))))))))))))))))
theorem iwsL_law_r20 : ∀ w ∈ wsL_law_r20, w ∈ wsL_law := fun _ h => List.mem_append_left _ (List.mem_append_left _ (List.mem_append_left _ (List.mem_append_left _ (List.mem_append_left _ (List.mem_append_left _ (List.mem_append_left _ (List.mem_append_right _ (List.mem_append_right _ (List.mem_append_right _ (List.mem_append_right _ (List.mem_append_right _ (List.mem_append_right _ (List.mem_append_right _ (List.mem_append_right _ (List.mem_append_right _ (List.mem_append_right _ (List.mem_append_right _ (List.mem_append_right _ (List.mem_append_right _ (List.mem_append_right _ (List.mem_append_right _ (List.mem_append_right _ (List.mem_append_right _ (List.mem_append_right _ (List.mem_append_right _ (List.mem_append_left _ (h)))))))))))))))))))))))))))
theorem iwsL_law_r21 : ∀ w ∈ wsL_law_r21, w ∈ wsL_law := fun _ h => List.mem_append_left _ (List.mem_append_left _ (List.mem_append_left _ (List.mem_append_left _ (List.mem_append_left _ (List.mem_append_left _ (List.mem_append_left _ (List.mem_append_right _ (List.mem_append_right _ (List.mem_append_right _ (List.mem_append_right _ (List.mem_append_right _ (List.mem_append_right _ (List.mem_append_right _ (List.mem_append_right _ (List.mem_append_right _ (List.mem_append_right _ (List.mem_append_right _ (List.mem_append_right _ (List.mem_append_right _ (List.mem_append_right _ (List.mem_append_right _ (List.mem_append_right _ (List.mem_append_right _ (List.mem_append_right _ (List.mem_append_right _ (List.mem_append_right _ (List.mem_append_left _ (h))))))))))))))))))))))))))))
theorem iwsL_law_r22 : ∀ w ∈ wsL_law_r22, w ∈ wsL_law := fun _ h => List.mem_append_left _ (List.mem_append_left _ (List.mem_append_left _ (List.mem_append_left _ (List.mem_append_left _ (List.mem_append_left _ (List.mem_append_left _ (List.mem_append_right _ (List.mem_append_right _ (List.mem_append_right _ (List.mem_append_right _ (List.mem_append_right _ (List.mem_append_right _ (List.mem_append_right _ (List.mem_append_right _ (List.mem_append_right _ (List.mem_append_right _ (List.mem_append_right _ (List.mem_append_right _ (List.mem_append_right _ (List.mem_append_right _ (List.mem_append_right _ (List.mem_append_right _ (List.mem_append_right _ (List.mem_append_right _ (List.mem_append_right _ (List.mem_append_right _ (List.mem_append_right _ (List.mem_append_left _ (h)))))))))))))))))))))))))))))
theorem iwsL_law_r23 : ∀ w ∈ wsL_law_r23, w ∈ wsL_law := fun _ h => List.mem_append_left _ (List.mem_append_left _ (List.mem_append_left _ (List.mem_append_left _ (List.mem_append_left _ (List.mem_append_left _ (List.mem_append_left _ (List.mem_append_right _ (List.mem_append_right _ (List.mem_append_right _ (List.mem_append_right _ (List.mem_append_right _ (List.mem_append_right _ (List.mem_append_right _ (List.mem_append_right _ (List.mem_append_right _ (List.mem_append_right _ (List.mem_append_right _ (List.mem_append_right _ (List.mem_append_right _ (List.mem_append_right _ (List.mem_append_right _ (List.mem_append_right _ (List.mem_append_right _ (List.mem_append_right _ (List.mem_append_right _ (List.mem_append_right _ (List.mem_append_right _ (List.mem_append_right _ (List.mem_append_left _ (h))))))))))))))))))))))))))))))
theorem iwsL_law_r24 : ∀ w ∈ wsL_law_r24, w ∈ wsL_law := fun _ h => List.mem_append_left _ (List.mem_append_left _ (List.mem_append_left _ (List.mem_append_left _ (List.mem_append_left _ (List.mem_append_left _ (List.mem_append_left _ (List.mem_append_right _ (List.mem_append_right _ (List.mem_append_right _ (List.mem_append_right _ (List.mem_append_right _ (List.mem_append_right _ (List.mem_append_right _ (List.mem_append_right _ (List.mem_append_right _ (List.mem_append_right _ (List.mem_append_right _ (List.mem_append_right _ (List.mem_append_right _ (List.mem_append_right _ (List.mem_append_right _ (List.mem_append_right _ (List.mem_append_right _ (List.mem_append_right _ (List.mem_append_right _ (List.mem_append_right _ (List.mem_append_right _ (List.mem_append_right _ (List.mem_append_right _ (List.mem_append_left _ (h)))))))))))))))))))))))))))))))
theorem iwsL_law_r25 : ∀ w ∈ wsL_law_r25, w ∈ wsL_law := fun _ h => List.mem_append_left _ (List.mem_append_left _ (List.mem_append_left _ (List.mem_append_left _ (List.mem_append_left _ (List.mem_append_left _ (List.mem_append_left _ (List.mem_append_right _ (List.mem_append_right _ (List.mem_append_right _ (List.mem_append_right _ (List.mem_append_right _ (List.mem_append_right _ (List.mem_append_right _ (List.mem_append_right _ (List.mem_append_right _ (List.mem_append_right _ (List.mem_append_right _ (List.mem_append_right _ (List.mem_append_right _ (List.mem_append_right _ (List.mem_append_right _ (List.mem_append_right _ (List.mem_append_right _ (List.mem_append_right _ (List.mem_append_right _ (List.mem_append_right _ (List.mem_append_right _ (List.mem_append_right _ (List.mem_append_right _ (List.mem_append_right _ (List.mem_append_left _ (h))))))))))))))))))))))))))))))))
theorem iwsL_law_r26 : ∀ w ∈ wsL_law_r26, w ∈ wsL_law := fun _ h => List.mem_append_left _ (List.mem_append_left _ (List.mem_append_left _ (List.mem_append_left _ (List.mem_append_left _ (List.mem_append_left _ (List.mem_append_left _ (List.mem_append_right _ (List.mem_append_right _ (List.mem_append_right _ (List.mem_append_right _ (List.mem_append_right _ (List.mem_append_right _ (List.mem_append_right _ (List.mem_append_right _ (List.mem_append_right _ (List.mem_append_right _ (List.mem_append_right _ (List.mem_append_right _ (List.mem_append_right _ (List.mem_append_right _ (List.mem_append_right _ (List.mem_append_right _ (List.mem_append_right _ (List.mem_append_right _ (List.mem_append_right _ (List.mem_append_right _ (List.mem_append_right _ (List.mem_append_right _ (List.mem_append_right _ (List.mem_append_right _ (List.mem_append_right _ (List.mem_append_left _ (h)))))))))))))))))))))))))))))))))
theorem iwsL_law_r27 : ∀ w ∈ wsL_law_r27, w ∈ wsL_law := fun _ h => List.mem_append_left _ (List.mem_append_left _ (List.mem_append_left _ (List.mem_append_left _ (List.mem_append_left _ (List.mem_append_left _ (List.mem_append_left _ (List.mem_append_right _ (List.mem_append_right _ (List.mem_append_right _ (List.mem_append_right _ (List.mem_append_right _ (List.mem_append_right _ (List.mem_append_right _ (List.mem_append_right _ (List.mem_append_right _ (List.mem_append_right _ (List.mem_append_right _ (List.mem_append_right _ (List.mem_append_right _ (List.mem_append_right _ (List.mem_append_right _ (List.mem_append_right _ (List.mem_append_right _ (List.mem_append_right _ (List.mem_append_right _ (List.mem_append_right _ (List.mem_append_right _ (List.mem_append_right _ (List.mem_append_right _ (List.mem_append_right _ (List.mem_append_right _ (List.mem_append_right _ (List.mem_append_left _ (h))))))))))))))))))))))))))))))))))
theorem iwsL_law_r28 : ∀ w ∈ wsL_law_r28, w ∈ wsL_law := fun _ h => List.mem_append_left _ (List.mem_append_left _ (List.mem_append_left _ (List.mem_append_left _ (List.mem_append_left _ (List.mem_append_left _ (List.mem_append_left _ (List.mem_append_right _ (List.mem_append_right _ (List.mem_append_right _ (List.mem_append_right _ (List.mem_append_right _ (List.mem_append_right _ (List.mem_append_right _ (List.mem_append_right _ (List.mem_append_right _ (List.mem_append_right _ (List.mem_append_right _ (List.mem_append_right _ (List.mem_append_right _ (List.mem_append_right _ (List.mem_append_right _ (List.mem_append_right _ (List.mem_append_right _ (List.mem_append_right _ (List.mem_append_right _ (List.mem_append_right _ (List.mem_append_right _ (List.mem_append_right _ (List.mem_append_right _ (List.mem_append_right _ (List.mem_append_right _ (List.mem_append_right _ (List.mem_append_right _ (List.mem_append_left _ (h)))))))))))))))))))))))))))))))))))
theorem iwsL_law_r29 : ∀ w ∈ wsL_law_r29, w ∈ wsL_law := fun _ h => List.mem_append_left _ (List.mem_append_left _ (List.mem_append_left _ (List.mem_append_left _ (List.mem_append_left _ (List.mem_append_left _ (List.mem_append_left _ (List.mem_append_right _ (List.mem_append_right _ (List.mem_append_right _ (List.mem_append_right _ (List.mem_append_right _ (List.mem_append_right _ (List.mem_append_right _ (List.mem_append_right _ (List.mem_append_right _ (List.mem_append_right _ (List.mem_append_right _ (List.mem_append_right _ (List.mem_append_right _ (List.mem_append_right _ (List.mem_append_right _ (List.mem_append_right _ (List.mem_append_right _ (List.mem_append_right _ (List.mem_append_right _ (List.mem_append_right _ (List.mem_append_right _ (List.mem_append_right _ (List.mem_append_right _ (List.mem_append_right _ (List.mem_append_right _ (List.mem_append_right _ (List.mem_append_right _ (List.mem_append_right _ (List.mem_append_left _ (h))))))))))))))))))))))))))))))))))))
theorem iwsL_law_r30 : ∀ w ∈ wsL_law_r30, w ∈ wsL_law := fun _ h => List.mem_append_left _ (List.mem_append_left _ (List.mem_append_left _ (List.mem_append_left _ (List.mem_append_left _ (List.mem_append_left _ (List.mem_append_left _ (List.mem_append_right _ (List.mem_append_right _ (List.mem_append_right _ (List.mem_append_right _ (List.mem_append_right _ (List.mem_append_right _ (List.mem_append_right _ (List.mem_append_right _ (List.mem_append_right _ (List.mem_append_right _ (List.mem_append_right _ (List.mem_append_right _ (List.mem_append_right _ (List.mem_append_right _ (List.mem_append_right _ (List.mem_append_right _ (List.mem_append_right _ (List.mem_append_right _ (List.mem_append_right _ (List.mem_append_right _ (List.mem_append_right _ (List.mem_append_right _ (List.mem_append_right _ (List.mem_append_right _ (List.mem_append_right _ (List.mem_append_right _ (List.mem_append_right _ (List.mem_append_right _ (List.mem_append_right _ (List.mem_append_left _ (h)))))))))))))))))))))))))))))))))))))
theorem iwsL_law_r31 : ∀ w ∈ wsL_law_r31, w ∈ wsL_law := fun _ h => List.mem_append_left _ (List.mem_append_left _ (List.mem_append_left _ (List.mem_append_left _ (List.mem_append_left _ (List.mem_append_left _ (List.mem_append_left _ (List.mem_append_right _ (List.mem_append_right _ (List.mem_append_right _ (List.mem_append_right _ (List.mem_append_right _ (List.mem_append_right _ (List.mem_append_right _ (List.mem_append_right _ (List.mem_append_right _ (List.mem_append_right _ (List.mem_append_right _ (List.mem_append_right _ (List.mem_append_right _ (List.mem_append_right _ (List.mem_append_right _ (List.mem_append_right _ (List.mem_append_right _ (List.mem_append_right _ (List.mem_append_right _ (List.mem_append_right _ (List.mem_append_right _ (List.mem_append_right _ (List.mem_append_right _ (List.mem_append_right _ (List.mem_append_right _ (List.mem_append_right _ (List.mem_append_right _ (List.mem_append_right _ (List.mem_append_right _ (List.mem_append_right _ (List.mem_append_left _ (h))))))))))))))))))))))))))))))))))))))
theorem iwsL_law_r32 : ∀ w ∈ wsL_law_r32, w ∈ wsL_law := fun _ h => List.mem_append_left _ (List.mem_append_left _ (List.mem_append_left _ (List.mem_append_left _ (List.mem_append_left _ (List.mem_append_left _ (List.mem_append_left _ (List.mem_append_right _ (List.mem_append_right _ (List.mem_append_right _ (List.mem_append_right _ (List.mem_append_right _ (List.mem_append_right _ (List.mem_append_right _ (List.mem_append_right _ (List.mem_append_right _ (List.mem_append_right _ (List.mem_append_right _ (List.mem_append_right _ (List.mem_append_right _ (List.mem_append_right _ (List.mem_append_right _ (List.mem_append_right _ (List.mem_append_right _ (List.mem_append_right _ (List.mem_append_right _ (List.mem_append_right _ (List.mem_append_right _ (List.mem_append_right _ (List.mem_append_right _ (List.mem_append_right _ (List.mem_append_right _ (List.mem_append_right _ (List.mem_append_right _ (List.mem_append_right _ (List.mem_append_right _ (List.mem_append_right _ (List.mem_append_right _ (List.mem_append_left _ (h)))))))))))))))))))))))))))))))))))))))
theorem iwsL_law_r33 : ∀ w ∈ wsL_law_r33, w ∈ wsL_law := fun _ h => List.mem_append_left _ (List.mem_append_left _ (List.mem_append_left _ (List.mem_append_left _ (List.mem_append_left _ (List.mem_append_left _ (List.mem_append_left _ (List.mem_append_right _ (List.mem_append_right _ (List.mem_append_right _ (List.mem_append_right _ (List.mem_append_right _ (List.mem_append_right _ (List.mem_append_right _ (List.mem_append_right _ (List.mem_append_right _ (List.mem_append_right _ (List.mem_append_right _ (List.mem_append_right _ (List.mem_append_right _ (List.mem_append_right _ (List.mem_append_right _ (List.mem_append_right _ (List.mem_append_right _ (List.mem_append_right _ (List.mem_append_right _ (List.mem_append_right _ (List.mem_append_right _ (List.mem_append_right _ (List.mem_append_right _ (List.mem_append_right _ (List.mem_append_right _ (List.mem_append_right _ (List.mem_append_right _ (List.mem_append_right _ (List.mem_append_right _ (List.mem_append_right _ (List.mem_append_right _ (List.mem_append_right _ (List.mem_append_left _ (h))))))))))))))))))))))))))))))))))))))))
theorem iwsL_law_r34 : ∀ w ∈ wsL_law_r34, w ∈ wsL_law := fun _ h => List.mem_append_left _ (List.mem_append_left _ (List.mem_append_left _ (List.mem_append_left _ (List.mem_append_left _ (List.mem_append_left _ (List.mem_append_left _ (List.mem_append_right _ (List.mem_append_right _ (List.mem_append_right _ (List.mem_append_right _ (List.mem_append_right _ (List.mem_append_right _ (List.mem_append_right _ (List.mem_append_right _ (List.mem_append_right _ (List.mem_append_right _ (List.mem_append_right _ (List.mem_append_right _ (List.mem_append_right _ (List.mem_append_right _ (List.mem_append_right _ (List.mem_append_right _ (List.mem_append_right _ (List.mem_append_right _ (List.mem_append_right _ (List.mem_append_right _ (List.mem_append_right _ (List.mem_append_right _ (List.mem_append_right _ (List.mem_append_right _ (List.mem_append_right _ (List.mem_append_right _ (List.mem_append_right _ (List.mem_append_right _ (List.mem_append_right _ (List.mem_append_right _ (List.mem_append_right _ (List.mem_append_right _ (List.mem_append_right _ (List.mem_append_left _ (h)))))))))))))))))))))))))))))))))))))))))
theorem iwsL_law_r35 : ∀ w ∈ wsL_law_r35, w ∈ wsL_law := fun _ h => List.mem_append_left _ (List.mem_append_left _ (List.mem_append_left _ (List.mem_append_left _ (List.mem_append_left _ (List.mem_append_left _ (List.mem_append_left _ (List.mem_append_right _ (List.mem_append_right _ (List.mem_append_right _ (List.mem_append_right _ (List.mem_append_right _ (List.mem_append_right _ (List.mem_append_right _ (List.mem_append_right _ (List.mem_append_right _ (List.mem_append_right _ (List.mem_append_right _ (List.mem_append_right _ (List.mem_append_right _ (List.mem_append_right _ (List.mem_append_right _ (List.mem_append_right _ (List.mem_append_right _ (List.mem_append_right _ (List.mem_append_right _ (List.mem_append_right _ (List.mem_append_right _ (List.mem_append_right _ (List.mem_append_right _ (List.mem_append_right _ (List.mem_append_right _ (List.mem_append_right _ (List.mem_append_right _ (List.mem_append_right _ (List.mem_append_right _ (List.mem_append_right _ (List.mem_append_right _ (List.mem_append_right _ (List.mem_append_right _ (List.mem_append_right _ (List.mem_append_left _ (h))))))))))))))))))))))))))))))))))))))))))
theorem iwsL_law_r36 : ∀ w ∈ wsL_law_r36, w ∈ wsL_law := fun _ h => List.mem_append_left _ (List.mem_append_left _ (List.mem_append_left _ (List.mem_append_left _ (List.mem_append_left _ (List.mem_append_left _ (List.mem_append_left _ (List.mem_append_right _ (List.mem_append_right _ (List.mem_append_right _ (List.mem_append_right _ (List.mem_append_right _ (List.mem_append_right _ (List.mem_append_right _ (List.mem_append_right _ (List.mem_append_right _ (List.mem_append_right _ (List.mem_append_right _ (List.mem_append_right _ (List.mem_append_right _ (List.mem_append_right _ (List.mem_append_right _ (List.mem_append_right _ (List.mem_append_right _ (List.mem_append_right _ (List.mem_append_right _ (List.mem_append_right _ (List.mem_append_right _ (List.mem_append_right _ (List.mem_append_right _ (List.mem_append_right _ (List.mem_append_right _ (List.mem_append_right _ (List.mem_append_right _ (List.mem_append_right _ (List.mem_append_right _ (List.mem_append_right _ (List.mem_append_right _ (List.mem_append_right _ (List.mem_append_right _ (List.mem_append_right _ (List.mem_append_right _ (List.mem_append_left _ (h)))))))))))))))))))))))))))))))))))))))))))
theorem iwsL_law_r37 : ∀ w ∈ wsL_law_r37, w ∈ wsL_law := fun _ h => List.mem_append_left _ (List.mem_append_left _ (List.mem_append_left _ (List.mem_append_left _ (List.mem_append_left _ (List.mem_append_left _ (List.mem_append_left _ (List.mem_append_right _ (List.mem_append_right _ (List.mem_append_right _ (List.mem_append_right _ (List.mem_append_right _ (List.mem_append_right _ (List.mem_append_right _ (List.mem_append_right _ (List.mem_append_right _ (List.mem_append_right _ (List.mem_append_right _ (List.mem_append_right _ (List.mem_append_right _ (List.mem_append_right _ (List.mem_append_right _ (List.mem_append_right _ (List.mem_append_right _ (List.mem_append_right _ (List.mem_append_right _ (List.mem_append_right _ (List.mem_append_right _ (List.mem_append_right _ (List.mem_append_right _ (List.mem_append_right _ (List.mem_append_right _ (List.mem_append_right _ (List.mem_append_right _ (List.mem_append_right _ (List.mem_append_right _ (List.mem_append_right _ (List.mem_append_right _ (List.mem_append_right _ (List.mem_append_right _ (List.mem_append_right _ (List.mem_append_right _ (List.mem_append_right _ (List.mem_append_left _ (h))))))))))))))))))))))))))))))))))))))))))))
theorem iwsL_law_r38 : ∀ w ∈ wsL_law_r38, w ∈ wsL_law := fun _ h => List.mem_append_left _ (List.mem_append_left _ (List.mem_append_left _ (List.mem_append_left _ (List.mem_append_left _ (List.mem_append_left _ (List.mem_append_left _ (List.mem_append_right _ (List.mem_append_right _ (List.mem_append_right _ (List.mem_append_right _ (List.mem_append_right _ (List.mem_append_right _ (List.mem_append_right _ (List.mem_append_right _ (List.mem_append_right _ (List.mem_append_right _ (List.mem_append_right _ (List.mem_append_right _ (List.mem_append_right _ (List.mem_append_right _ (List.mem_append_right _ (List.mem_append_right _ (List.mem_append_right _ (List.mem_append_right _ (List.mem_append_right _ (List.mem_append_right _ (List.mem_append_right _ (List.mem_append_right _ (List.mem_append_right _ (List.mem_append_right _ (List.mem_append_right _ (List.mem_append_right _ (List.mem_append_right _ (List.mem_append_right _ (List.mem_append_right _ (List.mem_append_right _ (List.mem_append_right _ (List.mem_append_right _ (List.mem_append_right _ (List.mem_append_right _ (List.mem_append_right _ (List.mem_append_right _ (List.mem_append_right _ (List.mem_append_left _ (h)))))))))))))))))))))))))))))))))))))))))))))
theorem iwsL_law_r39 : ∀ w ∈ wsL_law_r39, w ∈ wsL_law := fun _ h => List.mem_append_left _ (List.mem_append_left _ (List.mem_append_left _ (List.mem_append_left _ (List.mem_append_left _ (List.mem_append_left _ (List.mem_append_left _ (List.mem_append_right _ (List.mem_append_right _ (List.mem_append_right _ (List.mem_append_right _ (List.mem_append_right _ (List.mem_append_right _ (List.mem_append_right _ (List.mem_append_right _ (List.mem_append_right _ (List.mem_append_right _ (List.mem_append_right _ (List.mem_append_right _ (List.mem_append_right _ (List.mem_append_right _ (List.mem_append_right _ (List.mem_append_right _ (List.mem_append_right _ (List.mem_append_right _ (List.mem_append_right _ (List.mem_append_right _ (List.mem_append_right _ (List.mem_append_right _ (List.mem_append_right _ (List.mem_append_right _ (List.mem_append_right _ (List.mem_append_right _ (List.mem_append_right _ (List.mem_append_right _ (List.mem_append_right _ (List.mem_append_right _ (List.mem_append_right _ (List.mem_append_right _ (List.mem_append_right _ (List.mem_append_right _ (List.mem_append_right _ (List.mem_append_right _ (List.mem_append_right _ (List.mem_append_right _ (List.mem_append_left _ (h))))))))))))))))))))))))))))))))))))))))))))))
theorem iwsL_law_r40 : ∀ w ∈ wsL_law_r40, w ∈ wsL_law := fun _ h => List.mem_append_left _ (List.mem_append_left _ (List.mem_append_left _ (List.mem_append_left _ (List.mem_append_left _ (List.mem_append_left _ (List.mem_append_left _ (List.mem_append_right _ (List.mem_append_right _ (List.mem_append_right _ (List.mem_append_right _ (List.mem_append_right _ (List.mem_append_right _ (List.mem_append_right _ (List.mem_append_right _ (List.mem_append_right _ (List.mem_append_right _ (List.mem_append_right _ (List.mem_append_right _ (List.mem_append_right _ (List.mem_append_right _ (List.mem_append_right _ (List.mem_append_right _ (List.mem_append_right _ (List.mem_append_right _ (List.mem_append_right _ (List.mem_append_right _ (List.mem_append_right _ (List.mem_append_right _ (List.mem_append_right _ (List.mem_append_right _ (List.mem_append_right _ (List.mem_append_right _ (List.mem_append_right _ (List.mem_append_right _ (List.mem_append_right _ (List.mem_append_right _ (List.mem_append_right _ (List.mem_append_right _ (List.mem_append_right _ (List.mem_append_right _ (List.mem_append_right _ (List.mem_append_right _ (List.mem_append_right _ (List.mem_append_right _ (List.mem_append_right _ (List.mem_append_left _ (h)))))))))))))))))))))))))))))))))))))))))))))))
theorem iwsL_law_r41 : ∀ w ∈ wsL_law_r41, w ∈ wsL_law := fun _ h => List.mem_append_left _ (List.mem_append_left _ (List.mem_append_left _ (List.mem_append_left _ (List.mem_append_left _ (List.mem_append_left _ (List.mem_append_left _ (List.mem_append_right _ (List.mem_append_right _ (List.mem_append_right _ (List.mem_append_right _ (List.mem_append_right _ (List.mem_append_right _ (List.mem_append_right _ (List.mem_append_right _ (List.mem_append_right _ (List.mem_append_right _ (List.mem_append_right _ (List.mem_append_right _ (List.mem_append_right _ (List.mem_append_right _ (List.mem_append_right _ (List.mem_append_right _ (List.mem_append_right _ (List.mem_append_right _ (List.mem_append_right _ (List.mem_append_right _ (List.mem_append_right _ (List.mem_append_right _ (List.mem_append_right _ (List.mem_append_right _ (List.mem_append_right _ (List.mem_append_right _ (List.mem_append_right _ (List.mem_append_right _ (List.mem_append_right _ (List.mem_append_right _ (List.mem_append_right _ (List.mem_append_right _ (List.mem_append_right _ (List.mem_append_right _ (List.mem_append_right _ (List.mem_append_right _ (List.mem_append_right _ (List.mem_append_right _ (List.mem_append_right _ (List.mem_append_right _ (h)))))))))))))))))))))))))))))))))))))))))))))))
theorem wd_0 : Cond.classLink RL 7 RX4 ∈ wsL_law := iwsL_law_r1 _ (List.mem_of_getElem? (i := 0) rfl)
theorem wd_1 : Cond.instantiable RX4 12 ∈ wsL_law := iwsL_law_r1 _ (List.mem_of_getElem? (i := 1) rfl)
theorem wd_2 : Cond.initialized RX4 ∈ wsL_law := iwsL_law_r1 _ (List.mem_of_getElem? (i := 2) rfl)
theorem wd_3 : Cond.classLink RL 10 RX5 ∈ wsL_law := iwsL_law_r1 _ (List.mem_of_getElem? (i := 3) rfl)
theorem wd_4 : Cond.instantiable RX5 18 ∈ wsL_law := iwsL_law_r1 _ (List.mem_of_getElem? (i := 4) rfl)
theorem wd_5 : Cond.initialized RX5 ∈ wsL_law := iwsL_law_r1 _ (List.mem_of_getElem? (i := 5) rfl)
theorem wd_6 : Cond.methodLink RL 9 yX4_init ∈ wsL_law := iwsL_law_r1 _ (List.mem_of_getElem? (i := 6) rfl)
theorem wd_7 : Cond.instanceMethod yX4_init ∈ wsL_law := iwsL_law_r1 _ (List.mem_of_getElem? (i := 7) rfl)
theorem wd_8 : Cond.code yX4_init cX4_init 1 none ∈ wsL_law := iwsL_law_r1 _ (List.mem_of_getElem? (i := 8) rfl)
theorem wd_9 : Cond.methodLink RX4 1 objectInit ∈ wsL_law := iwsL_law_r1 _ (List.mem_of_getElem? (i := 9) rfl)
theorem wd_10 : Cond.instanceMethod objectInit ∈ wsL_law := iwsL_law_r1 _ (List.mem_of_getElem? (i := 10) rfl)
theorem wd_11 : Cond.code objectInit ⟨#[0xb1]⟩ 1 none ∈ wsL_law := iwsL_law_r1 _ (List.mem_of_getElem? (i := 11) rfl)
theorem wd_12 : Cond.classLink RX4 7 RX3 ∈ wsL_law := iwsL_law_r1 _ (List.mem_of_getElem? (i := 12) rfl)
theorem wd_13 : Cond.instantiable RX3 9 ∈ wsL_law := iwsL_law_r1 _ (List.mem_of_getElem? (i := 13) rfl)
theorem wd_14 : Cond.initialized RX3 ∈ wsL_law := iwsL_law_r1 _ (List.mem_of_getElem? (i := 14) rfl)
theorem wd_15 : Cond.fieldLink RX4 10 "SlateHills" "now" "LSlateHills$State;" ∈ wsL_law := iwsL_law_r1 _ (List.mem_of_getElem? (i := 15) rfl)
theorem wd_16 : Cond.fieldLink RX4 16 "SlateHills" "firstImage" "LSlateHills$State;" ∈ wsL_law := iwsL_law_r1 _ (List.mem_of_getElem? (i := 16) rfl)
theorem wd_17 : Cond.fieldLink RX4 19 "SlateHills" "secondImage" "LSlateHills$State;" ∈ wsL_law := iwsL_law_r1 _ (List.mem_of_getElem? (i := 17) rfl)
theorem wd_18 : Cond.classLink RX4 22 RX1 ∈ wsL_law := iwsL_law_r1 _ (List.mem_of_getElem? (i := 18) rfl)
theorem wd_19 : Cond.instantiable RX1 6 ∈ wsL_law := iwsL_law_r1 _ (List.mem_of_getElem? (i := 19) rfl)
theorem wd_20 : Cond.initialized RX1 ∈ wsL_law := iwsL_law_r1 _ (List.mem_of_getElem? (i := 20) rfl)
theorem wd_21 : Cond.fieldLink RX4 25 "SlateHills" "outlook" "LSlateHills$Outlook;" ∈ wsL_law := iwsL_law_r1 _ (List.mem_of_getElem? (i := 21) rfl)
theorem wd_22 : Cond.classLink RX4 29 RX2 ∈ wsL_law := iwsL_law_r1 _ (List.mem_of_getElem? (i := 22) rfl)
theorem wd_23 : Cond.instantiable RX2 8 ∈ wsL_law := iwsL_law_r1 _ (List.mem_of_getElem? (i := 23) rfl)
theorem wd_24 : Cond.initialized RX2 ∈ wsL_law := iwsL_law_r2 _ (List.mem_of_getElem? (i := 0) rfl)
theorem wd_25 : Cond.fieldLink RX4 32 "SlateHills" "reader" "LSlateHills$Reader;" ∈ wsL_law := iwsL_law_r2 _ (List.mem_of_getElem? (i := 1) rfl)
theorem wd_26 : Cond.arrayClass .int ∈ wsL_law := iwsL_law_r2 _ (List.mem_of_getElem? (i := 2) rfl)
theorem wd_27 : Cond.fieldLink RX4 36 "SlateHills" "amounts" "[I" ∈ wsL_law := iwsL_law_r2 _ (List.mem_of_getElem? (i := 3) rfl)
theorem wd_28 : Cond.fieldLink RX4 40 "SlateHills" "losses" "[I" ∈ wsL_law := iwsL_law_r2 _ (List.mem_of_getElem? (i := 4) rfl)
theorem wd_29 : Cond.fieldLink RX4 43 "SlateHills" "above" "J" ∈ wsL_law := iwsL_law_r2 _ (List.mem_of_getElem? (i := 5) rfl)
theorem wd_30 : Cond.fieldLink RX4 47 "SlateHills" "below" "J" ∈ wsL_law := iwsL_law_r2 _ (List.mem_of_getElem? (i := 6) rfl)
theorem wd_31 : Cond.fieldLink RX4 50 "SlateHills" "refusedBad" "I" ∈ wsL_law := iwsL_law_r2 _ (List.mem_of_getElem? (i := 7) rfl)
theorem wd_32 : Cond.fieldLink RX4 54 "SlateHills" "refusedNo" "I" ∈ wsL_law := iwsL_law_r2 _ (List.mem_of_getElem? (i := 8) rfl)
theorem wd_33 : Cond.fieldLink RX4 57 "SlateHills" "refusedFull" "I" ∈ wsL_law := iwsL_law_r2 _ (List.mem_of_getElem? (i := 9) rfl)
theorem wd_34 : Cond.methodLink RX4 9 yX3_init ∈ wsL_law := iwsL_law_r2 _ (List.mem_of_getElem? (i := 10) rfl)
theorem wd_35 : Cond.instanceMethod yX3_init ∈ wsL_law := iwsL_law_r2 _ (List.mem_of_getElem? (i := 11) rfl)
theorem wd_36 : Cond.code yX3_init cX3_init 1 none ∈ wsL_law := iwsL_law_r2 _ (List.mem_of_getElem? (i := 12) rfl)
theorem wd_37 : Cond.methodLink RX3 5 objectInit ∈ wsL_law := iwsL_law_r2 _ (List.mem_of_getElem? (i := 13) rfl)
theorem wd_38 : Cond.classLink RX3 11 RX0 ∈ wsL_law := iwsL_law_r2 _ (List.mem_of_getElem? (i := 14) rfl)
theorem wd_39 : Cond.instantiable RX0 9 ∈ wsL_law := iwsL_law_r2 _ (List.mem_of_getElem? (i := 15) rfl)
theorem wd_40 : Cond.initialized RX0 ∈ wsL_law := iwsL_law_r2 _ (List.mem_of_getElem? (i := 16) rfl)
theorem wd_41 : Cond.fieldLink RX3 14 "SlateHills$State" "land" "LSlateHills$Land;" ∈ wsL_law := iwsL_law_r2 _ (List.mem_of_getElem? (i := 17) rfl)
theorem wd_42 : Cond.fieldLink RX3 18 "SlateHills$State" "seenRows" "[I" ∈ wsL_law := iwsL_law_r2 _ (List.mem_of_getElem? (i := 18) rfl)
theorem wd_43 : Cond.fieldLink RX3 22 "SlateHills$State" "seenCount" "I" ∈ wsL_law := iwsL_law_r2 _ (List.mem_of_getElem? (i := 19) rfl)
theorem wd_44 : Cond.fieldLink RX3 26 "SlateHills$State" "markRows" "[I" ∈ wsL_law := iwsL_law_r2 _ (List.mem_of_getElem? (i := 20) rfl)
theorem wd_45 : Cond.fieldLink RX3 29 "SlateHills$State" "markCount" "I" ∈ wsL_law := iwsL_law_r2 _ (List.mem_of_getElem? (i := 21) rfl)
theorem wd_46 : Cond.fieldLink RX3 32 "SlateHills$State" "undoSteps" "[I" ∈ wsL_law := iwsL_law_r2 _ (List.mem_of_getElem? (i := 22) rfl)
theorem wd_47 : Cond.fieldLink RX3 35 "SlateHills$State" "undoNext" "I" ∈ wsL_law := iwsL_law_r2 _ (List.mem_of_getElem? (i := 23) rfl)
theorem wd_48 : Cond.fieldLink RX3 38 "SlateHills$State" "undoCount" "I" ∈ wsL_law := iwsL_law_r3 _ (List.mem_of_getElem? (i := 0) rfl)
theorem wd_49 : Cond.fieldLink RX3 41 "SlateHills$State" "isKept" "Z" ∈ wsL_law := iwsL_law_r3 _ (List.mem_of_getElem? (i := 1) rfl)
theorem wd_50 : Cond.methodLink RX3 13 yX0_init ∈ wsL_law := iwsL_law_r3 _ (List.mem_of_getElem? (i := 2) rfl)
theorem wd_51 : Cond.instanceMethod yX0_init ∈ wsL_law := iwsL_law_r3 _ (List.mem_of_getElem? (i := 3) rfl)
theorem wd_52 : Cond.code yX0_init cX0_init 1 none ∈ wsL_law := iwsL_law_r3 _ (List.mem_of_getElem? (i := 4) rfl)
theorem wd_53 : Cond.methodLink RX0 3 objectInit ∈ wsL_law := iwsL_law_r3 _ (List.mem_of_getElem? (i := 5) rfl)
theorem wd_54 : Cond.fieldLink RX0 9 "SlateHills$Land" "clerkKind" "I" ∈ wsL_law := iwsL_law_r3 _ (List.mem_of_getElem? (i := 6) rfl)
theorem wd_55 : Cond.fieldLink RX0 15 "SlateHills$Land" "hills" "I" ∈ wsL_law := iwsL_law_r3 _ (List.mem_of_getElem? (i := 7) rfl)
theorem wd_56 : Cond.fieldLink RX0 18 "SlateHills$Land" "kind" "[I" ∈ wsL_law := iwsL_law_r3 _ (List.mem_of_getElem? (i := 8) rfl)
theorem wd_57 : Cond.fieldLink RX0 22 "SlateHills$Land" "cell" "[I" ∈ wsL_law := iwsL_law_r3 _ (List.mem_of_getElem? (i := 9) rfl)
theorem wd_58 : Cond.fieldLink RX0 25 "SlateHills$Land" "size" "[I" ∈ wsL_law := iwsL_law_r3 _ (List.mem_of_getElem? (i := 10) rfl)
theorem wd_59 : Cond.fieldLink RX0 28 "SlateHills$Land" "vine" "[I" ∈ wsL_law := iwsL_law_r3 _ (List.mem_of_getElem? (i := 11) rfl)
theorem wd_60 : Cond.fieldLink RX0 31 "SlateHills$Land" "harm" "I" ∈ wsL_law := iwsL_law_r3 _ (List.mem_of_getElem? (i := 12) rfl)
theorem wd_61 : Cond.fieldLink RX0 34 "SlateHills$Land" "today" "I" ∈ wsL_law := iwsL_law_r3 _ (List.mem_of_getElem? (i := 13) rfl)
theorem wd_62 : Cond.fieldLink RX0 37 "SlateHills$Land" "wentOff" "I" ∈ wsL_law := iwsL_law_r3 _ (List.mem_of_getElem? (i := 14) rfl)
theorem wd_63 : Cond.methodLink RX0 40 yJ7_fill_53178 ∈ wsL_law := iwsL_law_r3 _ (List.mem_of_getElem? (i := 15) rfl)
theorem wd_64 : Cond.static yJ7_fill_53178 ∈ wsL_law := iwsL_law_r3 _ (List.mem_of_getElem? (i := 16) rfl)
theorem wd_65 : Cond.initialized RJ7 ∈ wsL_law := iwsL_law_r3 _ (List.mem_of_getElem? (i := 17) rfl)
theorem wd_66 : Cond.code yJ7_fill_53178 cJ7_fill_53178 4 none ∈ wsL_law := iwsL_law_r3 _ (List.mem_of_getElem? (i := 18) rfl)
theorem wd_67 : Cond.methodLink RX4 24 yX1_init ∈ wsL_law := iwsL_law_r3 _ (List.mem_of_getElem? (i := 19) rfl)
theorem wd_68 : Cond.instanceMethod yX1_init ∈ wsL_law := iwsL_law_r3 _ (List.mem_of_getElem? (i := 20) rfl)
theorem wd_69 : Cond.code yX1_init cX1_init 2 none ∈ wsL_law := iwsL_law_r3 _ (List.mem_of_getElem? (i := 21) rfl)
theorem wd_70 : Cond.methodLink RX1 3 objectInit ∈ wsL_law := iwsL_law_r3 _ (List.mem_of_getElem? (i := 22) rfl)
theorem wd_71 : Cond.classLink RX1 9 RX0 ∈ wsL_law := iwsL_law_r3 _ (List.mem_of_getElem? (i := 23) rfl)
theorem wd_72 : Cond.fieldLink RX1 11 "SlateHills$Outlook" "lands" "[LSlateHills$Land;" ∈ wsL_law := iwsL_law_r4 _ (List.mem_of_getElem? (i := 0) rfl)
theorem wd_73 : Cond.fieldLink RX1 17 "SlateHills$Outlook" "row" "[I" ∈ wsL_law := iwsL_law_r4 _ (List.mem_of_getElem? (i := 1) rfl)
theorem wd_74 : Cond.fieldLink RX1 21 "SlateHills$Outlook" "best" "[I" ∈ wsL_law := iwsL_law_r4 _ (List.mem_of_getElem? (i := 2) rfl)
theorem wd_75 : Cond.fieldLink RX1 24 "SlateHills$Outlook" "fewest" "I" ∈ wsL_law := iwsL_law_r4 _ (List.mem_of_getElem? (i := 3) rfl)
theorem wd_76 : Cond.fieldLink RX1 28 "SlateHills$Outlook" "leastSizes" "I" ∈ wsL_law := iwsL_law_r4 _ (List.mem_of_getElem? (i := 4) rfl)
theorem wd_77 : Cond.fieldLink RX1 31 "SlateHills$Outlook" "days" "I" ∈ wsL_law := iwsL_law_r4 _ (List.mem_of_getElem? (i := 5) rfl)
theorem wd_78 : Cond.methodLink RX1 34 yX0_init ∈ wsL_law := iwsL_law_r4 _ (List.mem_of_getElem? (i := 6) rfl)
theorem wd_79 : Cond.methodLink RX4 31 yX2_init ∈ wsL_law := iwsL_law_r4 _ (List.mem_of_getElem? (i := 7) rfl)
theorem wd_80 : Cond.instanceMethod yX2_init ∈ wsL_law := iwsL_law_r4 _ (List.mem_of_getElem? (i := 8) rfl)
theorem wd_81 : Cond.code yX2_init cX2_init 1 none ∈ wsL_law := iwsL_law_r4 _ (List.mem_of_getElem? (i := 9) rfl)
theorem wd_82 : Cond.methodLink RX2 3 objectInit ∈ wsL_law := iwsL_law_r4 _ (List.mem_of_getElem? (i := 10) rfl)
theorem wd_83 : Cond.fieldLink RX2 9 "SlateHills$Reader" "text" "[I" ∈ wsL_law := iwsL_law_r4 _ (List.mem_of_getElem? (i := 11) rfl)
theorem wd_84 : Cond.fieldLink RX2 15 "SlateHills$Reader" "length" "I" ∈ wsL_law := iwsL_law_r4 _ (List.mem_of_getElem? (i := 12) rfl)
theorem wd_85 : Cond.fieldLink RX2 19 "SlateHills$Reader" "at" "I" ∈ wsL_law := iwsL_law_r4 _ (List.mem_of_getElem? (i := 13) rfl)
theorem wd_86 : Cond.fieldLink RX2 22 "SlateHills$Reader" "token" "I" ∈ wsL_law := iwsL_law_r4 _ (List.mem_of_getElem? (i := 14) rfl)
theorem wd_87 : Cond.fieldLink RX2 25 "SlateHills$Reader" "value" "I" ∈ wsL_law := iwsL_law_r4 _ (List.mem_of_getElem? (i := 15) rfl)
theorem wd_88 : Cond.fieldLink RX2 28 "SlateHills$Reader" "start" "I" ∈ wsL_law := iwsL_law_r4 _ (List.mem_of_getElem? (i := 16) rfl)
theorem wd_89 : Cond.fieldLink RX2 31 "SlateHills$Reader" "items" "I" ∈ wsL_law := iwsL_law_r4 _ (List.mem_of_getElem? (i := 17) rfl)
theorem wd_90 : Cond.classLink RX2 34 RX0 ∈ wsL_law := iwsL_law_r4 _ (List.mem_of_getElem? (i := 18) rfl)
theorem wd_91 : Cond.fieldLink RX2 37 "SlateHills$Reader" "land" "LSlateHills$Land;" ∈ wsL_law := iwsL_law_r4 _ (List.mem_of_getElem? (i := 19) rfl)
theorem wd_92 : Cond.methodLink RX2 36 yX0_init ∈ wsL_law := iwsL_law_r4 _ (List.mem_of_getElem? (i := 20) rfl)
theorem wd_93 : Cond.methodLink RL 12 yX5_init ∈ wsL_law := iwsL_law_r4 _ (List.mem_of_getElem? (i := 21) rfl)
theorem wd_94 : Cond.instanceMethod yX5_init ∈ wsL_law := iwsL_law_r4 _ (List.mem_of_getElem? (i := 22) rfl)
theorem wd_95 : Cond.code yX5_init cX5_init 1 none ∈ wsL_law := iwsL_law_r4 _ (List.mem_of_getElem? (i := 23) rfl)
theorem wd_96 : Cond.methodLink RX5 1 objectInit ∈ wsL_law := iwsL_law_r5 _ (List.mem_of_getElem? (i := 0) rfl)
theorem wd_97 : Cond.fieldLink RX5 7 "SlateHillsModel" "all" "[I" ∈ wsL_law := iwsL_law_r5 _ (List.mem_of_getElem? (i := 1) rfl)
theorem wd_98 : Cond.fieldLink RX5 13 "SlateHillsModel" "kept" "[I" ∈ wsL_law := iwsL_law_r5 _ (List.mem_of_getElem? (i := 2) rfl)
theorem wd_99 : Cond.arrayClass .boolean ∈ wsL_law := iwsL_law_r5 _ (List.mem_of_getElem? (i := 3) rfl)
theorem wd_100 : Cond.fieldLink RX5 16 "SlateHillsModel" "isKept" "[Z" ∈ wsL_law := iwsL_law_r5 _ (List.mem_of_getElem? (i := 4) rfl)
theorem wd_101 : Cond.fieldLink RX5 20 "SlateHillsModel" "refused" "[I" ∈ wsL_law := iwsL_law_r5 _ (List.mem_of_getElem? (i := 5) rfl)
theorem wd_102 : Cond.fieldLink RX5 23 "SlateHillsModel" "below" "J" ∈ wsL_law := iwsL_law_r5 _ (List.mem_of_getElem? (i := 6) rfl)
theorem wd_103 : Cond.fieldLink RX5 27 "SlateHillsModel" "hand" "[I" ∈ wsL_law := iwsL_law_r5 _ (List.mem_of_getElem? (i := 7) rfl)
theorem wd_104 : Cond.fieldLink RX5 30 "SlateHillsModel" "tells" "[I" ∈ wsL_law := iwsL_law_r5 _ (List.mem_of_getElem? (i := 8) rfl)
theorem wd_105 : Cond.fieldLink RX5 33 "SlateHillsModel" "lostBy" "[I" ∈ wsL_law := iwsL_law_r5 _ (List.mem_of_getElem? (i := 9) rfl)
theorem wd_106 : Cond.fieldLink RX5 36 "SlateHillsModel" "bytes" "[I" ∈ wsL_law := iwsL_law_r5 _ (List.mem_of_getElem? (i := 10) rfl)
theorem wd_107 : Cond.fieldLink RX5 39 "SlateHillsModel" "anew" "[I" ∈ wsL_law := iwsL_law_r5 _ (List.mem_of_getElem? (i := 11) rfl)
theorem wd_108 : Cond.fieldLink RX5 42 "SlateHillsModel" "values" "[I" ∈ wsL_law := iwsL_law_r5 _ (List.mem_of_getElem? (i := 12) rfl)
theorem wd_109 : Cond.methodLink RX5 45 yX5_begin ∈ wsL_law := iwsL_law_r5 _ (List.mem_of_getElem? (i := 13) rfl)
theorem wd_110 : Cond.static yX5_begin ∈ wsL_law := iwsL_law_r5 _ (List.mem_of_getElem? (i := 14) rfl)
theorem wd_111 : Cond.code yX5_begin cX5_begin 3 none ∈ wsL_law := iwsL_law_r5 _ (List.mem_of_getElem? (i := 15) rfl)
theorem wd_112 : Cond.methodLink RL 13 yX4_island ∈ wsL_law := iwsL_law_r5 _ (List.mem_of_getElem? (i := 16) rfl)
theorem wd_113 : Cond.instanceMethod yX4_island ∈ wsL_law := iwsL_law_r5 _ (List.mem_of_getElem? (i := 17) rfl)
theorem wd_114 : Cond.selects RX4 yX4_island yX4_island ∈ wsL_law := iwsL_law_r5 _ (List.mem_of_getElem? (i := 18) rfl)
theorem wd_115 : Cond.code yX4_island cX4_island 3 (some .int) ∈ wsL_law := iwsL_law_r5 _ (List.mem_of_getElem? (i := 19) rfl)
theorem wd_116 : Cond.fieldLink RX4 68 "SlateHills$State" "land" "LSlateHills$Land;" ∈ wsL_law := iwsL_law_r5 _ (List.mem_of_getElem? (i := 20) rfl)
theorem wd_117 : Cond.fieldLink RX4 72 "SlateHills$Land" "hills" "I" ∈ wsL_law := iwsL_law_r5 _ (List.mem_of_getElem? (i := 21) rfl)
theorem wd_118 : Cond.methodLink RX4 60 yX4_isKind ∈ wsL_law := iwsL_law_r5 _ (List.mem_of_getElem? (i := 22) rfl)
theorem wd_119 : Cond.static yX4_isKind ∈ wsL_law := iwsL_law_r5 _ (List.mem_of_getElem? (i := 23) rfl)
theorem wd_120 : Cond.code yX4_isKind cX4_isKind 1 (some .boolean) ∈ wsL_law := iwsL_law_r6 _ (List.mem_of_getElem? (i := 0) rfl)
theorem wd_121 : Cond.methodLink RX4 90 yX4_within ∈ wsL_law := iwsL_law_r6 _ (List.mem_of_getElem? (i := 1) rfl)
theorem wd_122 : Cond.static yX4_within ∈ wsL_law := iwsL_law_r6 _ (List.mem_of_getElem? (i := 2) rfl)
theorem wd_123 : Cond.code yX4_within cX4_within 3 (some .boolean) ∈ wsL_law := iwsL_law_r6 _ (List.mem_of_getElem? (i := 3) rfl)
theorem wd_124 : Cond.methodLink RX4 64 yX4_refuse ∈ wsL_law := iwsL_law_r6 _ (List.mem_of_getElem? (i := 4) rfl)
theorem wd_125 : Cond.instanceMethod yX4_refuse ∈ wsL_law := iwsL_law_r6 _ (List.mem_of_getElem? (i := 5) rfl)
theorem wd_126 : Cond.selects RX4 yX4_refuse yX4_refuse ∈ wsL_law := iwsL_law_r6 _ (List.mem_of_getElem? (i := 6) rfl)
theorem wd_127 : Cond.code yX4_refuse cX4_refuse 2 (some .int) ∈ wsL_law := iwsL_law_r6 _ (List.mem_of_getElem? (i := 7) rfl)
theorem wd_128 : Cond.methodLink RX4 77 yX3_restart ∈ wsL_law := iwsL_law_r6 _ (List.mem_of_getElem? (i := 8) rfl)
theorem wd_129 : Cond.instanceMethod yX3_restart ∈ wsL_law := iwsL_law_r6 _ (List.mem_of_getElem? (i := 9) rfl)
theorem wd_130 : Cond.selects RX3 yX3_restart yX3_restart ∈ wsL_law := iwsL_law_r6 _ (List.mem_of_getElem? (i := 10) rfl)
theorem wd_131 : Cond.code yX3_restart cX3_restart 2 none ∈ wsL_law := iwsL_law_r6 _ (List.mem_of_getElem? (i := 11) rfl)
theorem wd_132 : Cond.methodLink RX3 45 yX0_restart ∈ wsL_law := iwsL_law_r6 _ (List.mem_of_getElem? (i := 12) rfl)
theorem wd_133 : Cond.instanceMethod yX0_restart ∈ wsL_law := iwsL_law_r6 _ (List.mem_of_getElem? (i := 13) rfl)
theorem wd_134 : Cond.selects RX0 yX0_restart yX0_restart ∈ wsL_law := iwsL_law_r6 _ (List.mem_of_getElem? (i := 14) rfl)
theorem wd_135 : Cond.code yX0_restart cX0_restart 2 none ∈ wsL_law := iwsL_law_r6 _ (List.mem_of_getElem? (i := 15) rfl)
theorem wd_136 : Cond.methodLink RL 17 yX5_island ∈ wsL_law := iwsL_law_r6 _ (List.mem_of_getElem? (i := 16) rfl)
theorem wd_137 : Cond.instanceMethod yX5_island ∈ wsL_law := iwsL_law_r6 _ (List.mem_of_getElem? (i := 17) rfl)
theorem wd_138 : Cond.selects RX5 yX5_island yX5_island ∈ wsL_law := iwsL_law_r6 _ (List.mem_of_getElem? (i := 18) rfl)
theorem wd_139 : Cond.code yX5_island cX5_island 3 (some .int) ∈ wsL_law := iwsL_law_r6 _ (List.mem_of_getElem? (i := 19) rfl)
theorem wd_140 : Cond.methodLink RX5 63 yX5_isKind ∈ wsL_law := iwsL_law_r6 _ (List.mem_of_getElem? (i := 20) rfl)
theorem wd_141 : Cond.static yX5_isKind ∈ wsL_law := iwsL_law_r6 _ (List.mem_of_getElem? (i := 21) rfl)
theorem wd_142 : Cond.code yX5_isKind cX5_isKind 1 (some .boolean) ∈ wsL_law := iwsL_law_r6 _ (List.mem_of_getElem? (i := 22) rfl)
theorem wd_143 : Cond.constantLong RX5 59 (5) ∈ wsL_law := iwsL_law_r6 _ (List.mem_of_getElem? (i := 23) rfl)
theorem wd_144 : Cond.methodLink RX5 53 yX5_in ∈ wsL_law := iwsL_law_r7 _ (List.mem_of_getElem? (i := 0) rfl)
theorem wd_145 : Cond.static yX5_in ∈ wsL_law := iwsL_law_r7 _ (List.mem_of_getElem? (i := 1) rfl)
theorem wd_146 : Cond.code yX5_in cX5_in 6 (some .boolean) ∈ wsL_law := iwsL_law_r7 _ (List.mem_of_getElem? (i := 2) rfl)
theorem wd_147 : Cond.methodLink RX5 67 yX5_bad ∈ wsL_law := iwsL_law_r7 _ (List.mem_of_getElem? (i := 3) rfl)
theorem wd_148 : Cond.instanceMethod yX5_bad ∈ wsL_law := iwsL_law_r7 _ (List.mem_of_getElem? (i := 4) rfl)
theorem wd_149 : Cond.selects RX5 yX5_bad yX5_bad ∈ wsL_law := iwsL_law_r7 _ (List.mem_of_getElem? (i := 5) rfl)
theorem wd_150 : Cond.code yX5_bad cX5_bad 2 (some .int) ∈ wsL_law := iwsL_law_r7 _ (List.mem_of_getElem? (i := 6) rfl)
theorem wd_151 : Cond.methodLink RX5 49 yX5_many ∈ wsL_law := iwsL_law_r7 _ (List.mem_of_getElem? (i := 7) rfl)
theorem wd_152 : Cond.instanceMethod yX5_many ∈ wsL_law := iwsL_law_r7 _ (List.mem_of_getElem? (i := 8) rfl)
theorem wd_153 : Cond.selects RX5 yX5_many yX5_many ∈ wsL_law := iwsL_law_r7 _ (List.mem_of_getElem? (i := 9) rfl)
theorem wd_154 : Cond.code yX5_many cX5_many 1 (some .int) ∈ wsL_law := iwsL_law_r7 _ (List.mem_of_getElem? (i := 10) rfl)
theorem wd_155 : Cond.methodLink RL 18 yX4_clerk ∈ wsL_law := iwsL_law_r7 _ (List.mem_of_getElem? (i := 11) rfl)
theorem wd_156 : Cond.instanceMethod yX4_clerk ∈ wsL_law := iwsL_law_r7 _ (List.mem_of_getElem? (i := 12) rfl)
theorem wd_157 : Cond.selects RX4 yX4_clerk yX4_clerk ∈ wsL_law := iwsL_law_r7 _ (List.mem_of_getElem? (i := 13) rfl)
theorem wd_158 : Cond.code yX4_clerk cX4_clerk 3 (some .int) ∈ wsL_law := iwsL_law_r7 _ (List.mem_of_getElem? (i := 14) rfl)
theorem wd_159 : Cond.fieldLink RX4 81 "SlateHills$Land" "clerkKind" "I" ∈ wsL_law := iwsL_law_r7 _ (List.mem_of_getElem? (i := 15) rfl)
theorem wd_160 : Cond.fieldLink RX4 84 "SlateHills$State" "undoCount" "I" ∈ wsL_law := iwsL_law_r7 _ (List.mem_of_getElem? (i := 16) rfl)
theorem wd_161 : Cond.methodLink RL 21 yX5_clerk ∈ wsL_law := iwsL_law_r7 _ (List.mem_of_getElem? (i := 17) rfl)
theorem wd_162 : Cond.instanceMethod yX5_clerk ∈ wsL_law := iwsL_law_r7 _ (List.mem_of_getElem? (i := 18) rfl)
theorem wd_163 : Cond.selects RX5 yX5_clerk yX5_clerk ∈ wsL_law := iwsL_law_r7 _ (List.mem_of_getElem? (i := 19) rfl)
theorem wd_164 : Cond.code yX5_clerk cX5_clerk 3 (some .int) ∈ wsL_law := iwsL_law_r7 _ (List.mem_of_getElem? (i := 20) rfl)
theorem wd_165 : Cond.methodLink RL 22 yX4_vines ∈ wsL_law := iwsL_law_r7 _ (List.mem_of_getElem? (i := 21) rfl)
theorem wd_166 : Cond.instanceMethod yX4_vines ∈ wsL_law := iwsL_law_r7 _ (List.mem_of_getElem? (i := 22) rfl)
theorem wd_167 : Cond.selects RX4 yX4_vines yX4_vines ∈ wsL_law := iwsL_law_r7 _ (List.mem_of_getElem? (i := 23) rfl)
theorem wd_168 : Cond.code yX4_vines cX4_vines 4 (some .int) ∈ wsL_law := iwsL_law_r8 _ (List.mem_of_getElem? (i := 0) rfl)
theorem wd_169 : Cond.fieldLink RX4 94 "SlateHills$Land" "vine" "[I" ∈ wsL_law := iwsL_law_r8 _ (List.mem_of_getElem? (i := 1) rfl)
theorem wd_170 : Cond.methodLink RX4 87 yX4_isCell ∈ wsL_law := iwsL_law_r8 _ (List.mem_of_getElem? (i := 2) rfl)
theorem wd_171 : Cond.static yX4_isCell ∈ wsL_law := iwsL_law_r8 _ (List.mem_of_getElem? (i := 3) rfl)
theorem wd_172 : Cond.code yX4_isCell cX4_isCell 1 (some .boolean) ∈ wsL_law := iwsL_law_r8 _ (List.mem_of_getElem? (i := 4) rfl)
theorem wd_173 : Cond.methodLink RL 26 yX5_vines ∈ wsL_law := iwsL_law_r8 _ (List.mem_of_getElem? (i := 5) rfl)
theorem wd_174 : Cond.instanceMethod yX5_vines ∈ wsL_law := iwsL_law_r8 _ (List.mem_of_getElem? (i := 6) rfl)
theorem wd_175 : Cond.selects RX5 yX5_vines yX5_vines ∈ wsL_law := iwsL_law_r8 _ (List.mem_of_getElem? (i := 7) rfl)
theorem wd_176 : Cond.code yX5_vines cX5_vines 4 (some .int) ∈ wsL_law := iwsL_law_r8 _ (List.mem_of_getElem? (i := 8) rfl)
theorem wd_177 : Cond.constantLong RX5 74 (9) ∈ wsL_law := iwsL_law_r8 _ (List.mem_of_getElem? (i := 9) rfl)
theorem wd_178 : Cond.methodLink RX5 71 yX5_isCell ∈ wsL_law := iwsL_law_r8 _ (List.mem_of_getElem? (i := 10) rfl)
theorem wd_179 : Cond.static yX5_isCell ∈ wsL_law := iwsL_law_r8 _ (List.mem_of_getElem? (i := 11) rfl)
theorem wd_180 : Cond.code yX5_isCell cX5_isCell 1 (some .boolean) ∈ wsL_law := iwsL_law_r8 _ (List.mem_of_getElem? (i := 12) rfl)
theorem wd_181 : Cond.constantLong RX5 57 (19) ∈ wsL_law := iwsL_law_r8 _ (List.mem_of_getElem? (i := 13) rfl)
theorem wd_182 : Cond.methodLink RL 27 yX4_hill ∈ wsL_law := iwsL_law_r8 _ (List.mem_of_getElem? (i := 14) rfl)
theorem wd_183 : Cond.instanceMethod yX4_hill ∈ wsL_law := iwsL_law_r8 _ (List.mem_of_getElem? (i := 15) rfl)
theorem wd_184 : Cond.selects RX4 yX4_hill yX4_hill ∈ wsL_law := iwsL_law_r8 _ (List.mem_of_getElem? (i := 16) rfl)
theorem wd_185 : Cond.code yX4_hill cX4_hill 4 (some .int) ∈ wsL_law := iwsL_law_r8 _ (List.mem_of_getElem? (i := 17) rfl)
theorem wd_186 : Cond.methodLink RX4 97 yX0_isTaken ∈ wsL_law := iwsL_law_r8 _ (List.mem_of_getElem? (i := 18) rfl)
theorem wd_187 : Cond.instanceMethod yX0_isTaken ∈ wsL_law := iwsL_law_r8 _ (List.mem_of_getElem? (i := 19) rfl)
theorem wd_188 : Cond.selects RX0 yX0_isTaken yX0_isTaken ∈ wsL_law := iwsL_law_r8 _ (List.mem_of_getElem? (i := 20) rfl)
theorem wd_189 : Cond.code yX0_isTaken cX0_isTaken 3 (some .boolean) ∈ wsL_law := iwsL_law_r8 _ (List.mem_of_getElem? (i := 21) rfl)
theorem wd_190 : Cond.methodLink RX4 100 yX0_raise ∈ wsL_law := iwsL_law_r8 _ (List.mem_of_getElem? (i := 22) rfl)
theorem wd_191 : Cond.instanceMethod yX0_raise ∈ wsL_law := iwsL_law_r8 _ (List.mem_of_getElem? (i := 23) rfl)
theorem wd_192 : Cond.selects RX0 yX0_raise yX0_raise ∈ wsL_law := iwsL_law_r9 _ (List.mem_of_getElem? (i := 0) rfl)
theorem wd_193 : Cond.code yX0_raise cX0_raise 4 none ∈ wsL_law := iwsL_law_r9 _ (List.mem_of_getElem? (i := 1) rfl)
theorem wd_194 : Cond.methodLink RL 31 yX5_hill ∈ wsL_law := iwsL_law_r9 _ (List.mem_of_getElem? (i := 2) rfl)
theorem wd_195 : Cond.instanceMethod yX5_hill ∈ wsL_law := iwsL_law_r9 _ (List.mem_of_getElem? (i := 3) rfl)
theorem wd_196 : Cond.selects RX5 yX5_hill yX5_hill ∈ wsL_law := iwsL_law_r9 _ (List.mem_of_getElem? (i := 4) rfl)
theorem wd_197 : Cond.code yX5_hill cX5_hill 4 (some .int) ∈ wsL_law := iwsL_law_r9 _ (List.mem_of_getElem? (i := 5) rfl)
theorem wd_198 : Cond.methodLink RX5 76 yX5_isSize ∈ wsL_law := iwsL_law_r9 _ (List.mem_of_getElem? (i := 6) rfl)
theorem wd_199 : Cond.static yX5_isSize ∈ wsL_law := iwsL_law_r9 _ (List.mem_of_getElem? (i := 7) rfl)
theorem wd_200 : Cond.code yX5_isSize cX5_isSize 1 (some .boolean) ∈ wsL_law := iwsL_law_r9 _ (List.mem_of_getElem? (i := 8) rfl)
theorem wd_201 : Cond.constantLong RX5 61 (59) ∈ wsL_law := iwsL_law_r9 _ (List.mem_of_getElem? (i := 9) rfl)
theorem wd_202 : Cond.methodLink RX5 79 yX5_isFree ∈ wsL_law := iwsL_law_r9 _ (List.mem_of_getElem? (i := 10) rfl)
theorem wd_203 : Cond.static yX5_isFree ∈ wsL_law := iwsL_law_r9 _ (List.mem_of_getElem? (i := 11) rfl)
theorem wd_204 : Cond.code yX5_isFree cX5_isFree 4 (some .boolean) ∈ wsL_law := iwsL_law_r9 _ (List.mem_of_getElem? (i := 12) rfl)
theorem wd_205 : Cond.methodLink RX5 83 yX5_no ∈ wsL_law := iwsL_law_r9 _ (List.mem_of_getElem? (i := 13) rfl)
theorem wd_206 : Cond.instanceMethod yX5_no ∈ wsL_law := iwsL_law_r9 _ (List.mem_of_getElem? (i := 14) rfl)
theorem wd_207 : Cond.selects RX5 yX5_no yX5_no ∈ wsL_law := iwsL_law_r9 _ (List.mem_of_getElem? (i := 15) rfl)
theorem wd_208 : Cond.code yX5_no cX5_no 1 (some .int) ∈ wsL_law := iwsL_law_r9 _ (List.mem_of_getElem? (i := 16) rfl)
theorem wd_209 : Cond.methodLink RX5 86 yX5_full ∈ wsL_law := iwsL_law_r9 _ (List.mem_of_getElem? (i := 17) rfl)
theorem wd_210 : Cond.instanceMethod yX5_full ∈ wsL_law := iwsL_law_r9 _ (List.mem_of_getElem? (i := 18) rfl)
theorem wd_211 : Cond.selects RX5 yX5_full yX5_full ∈ wsL_law := iwsL_law_r9 _ (List.mem_of_getElem? (i := 19) rfl)
theorem wd_212 : Cond.code yX5_full cX5_full 1 (some .int) ∈ wsL_law := iwsL_law_r9 _ (List.mem_of_getElem? (i := 20) rfl)
theorem wd_213 : Cond.methodLink RX5 89 yX5_layHill ∈ wsL_law := iwsL_law_r9 _ (List.mem_of_getElem? (i := 21) rfl)
theorem wd_214 : Cond.static yX5_layHill ∈ wsL_law := iwsL_law_r9 _ (List.mem_of_getElem? (i := 22) rfl)
theorem wd_215 : Cond.code yX5_layHill cX5_layHill 4 none ∈ wsL_law := iwsL_law_r9 _ (List.mem_of_getElem? (i := 23) rfl)
theorem wd_216 : Cond.methodLink RL 32 yX4_type ∈ wsL_law := iwsL_law_r10 _ (List.mem_of_getElem? (i := 0) rfl)
theorem wd_217 : Cond.instanceMethod yX4_type ∈ wsL_law := iwsL_law_r10 _ (List.mem_of_getElem? (i := 1) rfl)
theorem wd_218 : Cond.selects RX4 yX4_type yX4_type ∈ wsL_law := iwsL_law_r10 _ (List.mem_of_getElem? (i := 2) rfl)
theorem wd_219 : Cond.code yX4_type cX4_type 2 (some .int) ∈ wsL_law := iwsL_law_r10 _ (List.mem_of_getElem? (i := 3) rfl)
theorem wd_220 : Cond.fieldLink RX4 104 "SlateHills$Reader" "length" "I" ∈ wsL_law := iwsL_law_r10 _ (List.mem_of_getElem? (i := 4) rfl)
theorem wd_221 : Cond.methodLink RX4 107 yX2_append ∈ wsL_law := iwsL_law_r10 _ (List.mem_of_getElem? (i := 5) rfl)
theorem wd_222 : Cond.instanceMethod yX2_append ∈ wsL_law := iwsL_law_r10 _ (List.mem_of_getElem? (i := 6) rfl)
theorem wd_223 : Cond.selects RX2 yX2_append yX2_append ∈ wsL_law := iwsL_law_r10 _ (List.mem_of_getElem? (i := 7) rfl)
theorem wd_224 : Cond.code yX2_append cX2_append 2 none ∈ wsL_law := iwsL_law_r10 _ (List.mem_of_getElem? (i := 8) rfl)
theorem wd_225 : Cond.methodLink RL 35 yX5_type ∈ wsL_law := iwsL_law_r10 _ (List.mem_of_getElem? (i := 9) rfl)
theorem wd_226 : Cond.instanceMethod yX5_type ∈ wsL_law := iwsL_law_r10 _ (List.mem_of_getElem? (i := 10) rfl)
theorem wd_227 : Cond.selects RX5 yX5_type yX5_type ∈ wsL_law := iwsL_law_r10 _ (List.mem_of_getElem? (i := 11) rfl)
theorem wd_228 : Cond.code yX5_type cX5_type 2 (some .int) ∈ wsL_law := iwsL_law_r10 _ (List.mem_of_getElem? (i := 12) rfl)
theorem wd_229 : Cond.constantLong RX5 203 (127) ∈ wsL_law := iwsL_law_r10 _ (List.mem_of_getElem? (i := 13) rfl)
theorem wd_230 : Cond.fieldLink RX5 205 "SlateHillsModel" "bytesLong" "I" ∈ wsL_law := iwsL_law_r10 _ (List.mem_of_getElem? (i := 14) rfl)
theorem wd_231 : Cond.methodLink RL 36 yX4_clear ∈ wsL_law := iwsL_law_r10 _ (List.mem_of_getElem? (i := 15) rfl)
theorem wd_232 : Cond.instanceMethod yX4_clear ∈ wsL_law := iwsL_law_r10 _ (List.mem_of_getElem? (i := 16) rfl)
theorem wd_233 : Cond.selects RX4 yX4_clear yX4_clear ∈ wsL_law := iwsL_law_r10 _ (List.mem_of_getElem? (i := 17) rfl)
theorem wd_234 : Cond.code yX4_clear cX4_clear 2 (some .int) ∈ wsL_law := iwsL_law_r10 _ (List.mem_of_getElem? (i := 18) rfl)
theorem wd_235 : Cond.methodLink RL 40 yX5_clear ∈ wsL_law := iwsL_law_r10 _ (List.mem_of_getElem? (i := 19) rfl)
theorem wd_236 : Cond.instanceMethod yX5_clear ∈ wsL_law := iwsL_law_r10 _ (List.mem_of_getElem? (i := 20) rfl)
theorem wd_237 : Cond.selects RX5 yX5_clear yX5_clear ∈ wsL_law := iwsL_law_r10 _ (List.mem_of_getElem? (i := 21) rfl)
theorem wd_238 : Cond.code yX5_clear cX5_clear 2 (some .int) ∈ wsL_law := iwsL_law_r10 _ (List.mem_of_getElem? (i := 22) rfl)
theorem wd_239 : Cond.methodLink RL 41 yX4_read ∈ wsL_law := iwsL_law_r10 _ (List.mem_of_getElem? (i := 23) rfl)
theorem wd_240 : Cond.instanceMethod yX4_read ∈ wsL_law := iwsL_law_r11 _ (List.mem_of_getElem? (i := 0) rfl)
theorem wd_241 : Cond.selects RX4 yX4_read yX4_read ∈ wsL_law := iwsL_law_r11 _ (List.mem_of_getElem? (i := 1) rfl)
theorem wd_242 : Cond.code yX4_read cX4_read 1 (some .int) ∈ wsL_law := iwsL_law_r11 _ (List.mem_of_getElem? (i := 2) rfl)
theorem wd_243 : Cond.fieldLink RX4 114 "SlateHills$Reader" "start" "I" ∈ wsL_law := iwsL_law_r11 _ (List.mem_of_getElem? (i := 3) rfl)
theorem wd_244 : Cond.fieldLink RX4 117 "SlateHills$Reader" "land" "LSlateHills$Land;" ∈ wsL_law := iwsL_law_r11 _ (List.mem_of_getElem? (i := 4) rfl)
theorem wd_245 : Cond.fieldLink RX4 122 "SlateHills$Reader" "items" "I" ∈ wsL_law := iwsL_law_r11 _ (List.mem_of_getElem? (i := 5) rfl)
theorem wd_246 : Cond.methodLink RX4 110 yX2_readIsland ∈ wsL_law := iwsL_law_r11 _ (List.mem_of_getElem? (i := 6) rfl)
theorem wd_247 : Cond.instanceMethod yX2_readIsland ∈ wsL_law := iwsL_law_r11 _ (List.mem_of_getElem? (i := 7) rfl)
theorem wd_248 : Cond.selects RX2 yX2_readIsland yX2_readIsland ∈ wsL_law := iwsL_law_r11 _ (List.mem_of_getElem? (i := 8) rfl)
theorem wd_249 : Cond.code yX2_readIsland cX2_readIsland 3 (some .boolean) ∈ wsL_law := iwsL_law_r11 _ (List.mem_of_getElem? (i := 9) rfl)
theorem wd_250 : Cond.methodLink RX2 41 yX2_readClerk ∈ wsL_law := iwsL_law_r11 _ (List.mem_of_getElem? (i := 10) rfl)
theorem wd_251 : Cond.instanceMethod yX2_readClerk ∈ wsL_law := iwsL_law_r11 _ (List.mem_of_getElem? (i := 11) rfl)
theorem wd_252 : Cond.selects RX2 yX2_readClerk yX2_readClerk ∈ wsL_law := iwsL_law_r11 _ (List.mem_of_getElem? (i := 12) rfl)
theorem wd_253 : Cond.code yX2_readClerk cX2_readClerk 1 (some .boolean) ∈ wsL_law := iwsL_law_r11 _ (List.mem_of_getElem? (i := 13) rfl)
theorem wd_254 : Cond.methodLink RX2 45 yX2_step ∈ wsL_law := iwsL_law_r11 _ (List.mem_of_getElem? (i := 14) rfl)
theorem wd_255 : Cond.instanceMethod yX2_step ∈ wsL_law := iwsL_law_r11 _ (List.mem_of_getElem? (i := 15) rfl)
theorem wd_256 : Cond.selects RX2 yX2_step yX2_step ∈ wsL_law := iwsL_law_r11 _ (List.mem_of_getElem? (i := 16) rfl)
theorem wd_257 : Cond.code yX2_step cX2_step 1 none ∈ wsL_law := iwsL_law_r11 _ (List.mem_of_getElem? (i := 17) rfl)
theorem wd_258 : Cond.methodLink RX2 91 yX2_isLetter ∈ wsL_law := iwsL_law_r11 _ (List.mem_of_getElem? (i := 18) rfl)
theorem wd_259 : Cond.static yX2_isLetter ∈ wsL_law := iwsL_law_r11 _ (List.mem_of_getElem? (i := 19) rfl)
theorem wd_260 : Cond.code yX2_isLetter cX2_isLetter 1 (some .boolean) ∈ wsL_law := iwsL_law_r11 _ (List.mem_of_getElem? (i := 20) rfl)
theorem wd_261 : Cond.methodLink RX2 94 yX2_takeWord ∈ wsL_law := iwsL_law_r11 _ (List.mem_of_getElem? (i := 21) rfl)
theorem wd_262 : Cond.instanceMethod yX2_takeWord ∈ wsL_law := iwsL_law_r11 _ (List.mem_of_getElem? (i := 22) rfl)
theorem wd_263 : Cond.selects RX2 yX2_takeWord yX2_takeWord ∈ wsL_law := iwsL_law_r11 _ (List.mem_of_getElem? (i := 23) rfl)
theorem wd_264 : Cond.code yX2_takeWord cX2_takeWord 1 none ∈ wsL_law := iwsL_law_r12 _ (List.mem_of_getElem? (i := 0) rfl)
theorem wd_265 : Cond.methodLink RX2 105 yX2_spells ∈ wsL_law := iwsL_law_r12 _ (List.mem_of_getElem? (i := 1) rfl)
theorem wd_266 : Cond.instanceMethod yX2_spells ∈ wsL_law := iwsL_law_r12 _ (List.mem_of_getElem? (i := 2) rfl)
theorem wd_267 : Cond.selects RX2 yX2_spells yX2_spells ∈ wsL_law := iwsL_law_r12 _ (List.mem_of_getElem? (i := 3) rfl)
theorem wd_268 : Cond.code yX2_spells cX2_spells 3 (some .boolean) ∈ wsL_law := iwsL_law_r12 _ (List.mem_of_getElem? (i := 4) rfl)
theorem wd_269 : Cond.methodLink RX2 115 yJ0_length_8abf5 ∈ wsL_law := iwsL_law_r12 _ (List.mem_of_getElem? (i := 5) rfl)
theorem wd_270 : Cond.instanceMethod yJ0_length_8abf5 ∈ wsL_law := iwsL_law_r12 _ (List.mem_of_getElem? (i := 6) rfl)
theorem wd_271 : Cond.selects RJ0 yJ0_length_8abf5 yJ0_length_8abf5 ∈ wsL_law := iwsL_law_r12 _ (List.mem_of_getElem? (i := 7) rfl)
theorem wd_272 : Cond.initialized RJ0 ∈ wsL_law := iwsL_law_r12 _ (List.mem_of_getElem? (i := 8) rfl)
theorem wd_273 : Cond.code yJ0_length_8abf5 cJ0_length_8abf5 1 (some .int) ∈ wsL_law := iwsL_law_r12 _ (List.mem_of_getElem? (i := 9) rfl)
theorem wd_274 : Cond.fieldLink RJ0 9 "java/lang/String" "value" "[B" ∈ wsL_law := iwsL_law_r12 _ (List.mem_of_getElem? (i := 10) rfl)
theorem wd_275 : Cond.methodLink RJ0 335 yJ0_coder_7d493 ∈ wsL_law := iwsL_law_r12 _ (List.mem_of_getElem? (i := 11) rfl)
theorem wd_276 : Cond.instanceMethod yJ0_coder_7d493 ∈ wsL_law := iwsL_law_r12 _ (List.mem_of_getElem? (i := 12) rfl)
theorem wd_277 : Cond.selects RJ0 yJ0_coder_7d493 yJ0_coder_7d493 ∈ wsL_law := iwsL_law_r12 _ (List.mem_of_getElem? (i := 13) rfl)
theorem wd_278 : Cond.code yJ0_coder_7d493 cJ0_coder_7d493 1 (some .byte) ∈ wsL_law := iwsL_law_r12 _ (List.mem_of_getElem? (i := 14) rfl)
theorem wd_279 : Cond.fieldLink RJ0 38 "java/lang/String" "COMPACT_STRINGS" "Z" ∈ wsL_law := iwsL_law_r12 _ (List.mem_of_getElem? (i := 15) rfl)
theorem wd_280 : Cond.fieldLink RJ0 15 "java/lang/String" "coder" "B" ∈ wsL_law := iwsL_law_r12 _ (List.mem_of_getElem? (i := 16) rfl)
theorem wd_281 : Cond.methodLink RX2 120 yJ0_charAt_5068e ∈ wsL_law := iwsL_law_r12 _ (List.mem_of_getElem? (i := 17) rfl)
theorem wd_282 : Cond.instanceMethod yJ0_charAt_5068e ∈ wsL_law := iwsL_law_r12 _ (List.mem_of_getElem? (i := 18) rfl)
theorem wd_283 : Cond.selects RJ0 yJ0_charAt_5068e yJ0_charAt_5068e ∈ wsL_law := iwsL_law_r12 _ (List.mem_of_getElem? (i := 19) rfl)
theorem wd_284 : Cond.code yJ0_charAt_5068e cJ0_charAt_5068e 2 (some .char) ∈ wsL_law := iwsL_law_r12 _ (List.mem_of_getElem? (i := 20) rfl)
theorem wd_285 : Cond.methodLink RJ0 492 yJ0_isLatin1_aae02 ∈ wsL_law := iwsL_law_r12 _ (List.mem_of_getElem? (i := 21) rfl)
theorem wd_286 : Cond.instanceMethod yJ0_isLatin1_aae02 ∈ wsL_law := iwsL_law_r12 _ (List.mem_of_getElem? (i := 22) rfl)
theorem wd_287 : Cond.selects RJ0 yJ0_isLatin1_aae02 yJ0_isLatin1_aae02 ∈ wsL_law := iwsL_law_r12 _ (List.mem_of_getElem? (i := 23) rfl)
theorem wd_288 : Cond.code yJ0_isLatin1_aae02 cJ0_isLatin1_aae02 1 (some .boolean) ∈ wsL_law := iwsL_law_r13 _ (List.mem_of_getElem? (i := 0) rfl)
theorem wd_289 : Cond.methodLink RJ0 495 yJ1_charAt_3b067 ∈ wsL_law := iwsL_law_r13 _ (List.mem_of_getElem? (i := 1) rfl)
theorem wd_290 : Cond.static yJ1_charAt_3b067 ∈ wsL_law := iwsL_law_r13 _ (List.mem_of_getElem? (i := 2) rfl)
theorem wd_291 : Cond.initialized RJ1 ∈ wsL_law := iwsL_law_r13 _ (List.mem_of_getElem? (i := 3) rfl)
theorem wd_292 : Cond.code yJ1_charAt_3b067 cJ1_charAt_3b067 2 (some .char) ∈ wsL_law := iwsL_law_r13 _ (List.mem_of_getElem? (i := 4) rfl)
theorem wd_293 : Cond.methodLink RJ1 9 yJ0_checkIndex_df160 ∈ wsL_law := iwsL_law_r13 _ (List.mem_of_getElem? (i := 5) rfl)
theorem wd_294 : Cond.static yJ0_checkIndex_df160 ∈ wsL_law := iwsL_law_r13 _ (List.mem_of_getElem? (i := 6) rfl)
theorem wd_295 : Cond.code yJ0_checkIndex_df160 cJ0_checkIndex_df160 2 none ∈ wsL_law := iwsL_law_r13 _ (List.mem_of_getElem? (i := 7) rfl)
theorem wd_296 : Cond.fieldLink RJ0 1053 "jdk/internal/util/Preconditions" "SIOOBE_FORMATTER" "Ljava/util/function/BiFunction;" ∈ wsL_law := iwsL_law_r13 _ (List.mem_of_getElem? (i := 8) rfl)
theorem wd_297 : Cond.methodLink RJ0 1059 yJ3_checkIndex_8e157 ∈ wsL_law := iwsL_law_r13 _ (List.mem_of_getElem? (i := 9) rfl)
theorem wd_298 : Cond.static yJ3_checkIndex_8e157 ∈ wsL_law := iwsL_law_r13 _ (List.mem_of_getElem? (i := 10) rfl)
theorem wd_299 : Cond.initialized RJ3 ∈ wsL_law := iwsL_law_r13 _ (List.mem_of_getElem? (i := 11) rfl)
theorem wd_300 : Cond.code yJ3_checkIndex_8e157 cJ3_checkIndex_8e157 3 (some .int) ∈ wsL_law := iwsL_law_r13 _ (List.mem_of_getElem? (i := 12) rfl)
theorem wd_301 : Cond.methodLink RJ0 498 yJ2_charAt_3b067 ∈ wsL_law := iwsL_law_r13 _ (List.mem_of_getElem? (i := 13) rfl)
theorem wd_302 : Cond.static yJ2_charAt_3b067 ∈ wsL_law := iwsL_law_r13 _ (List.mem_of_getElem? (i := 14) rfl)
theorem wd_303 : Cond.initialized RJ2 ∈ wsL_law := iwsL_law_r13 _ (List.mem_of_getElem? (i := 15) rfl)
theorem wd_304 : Cond.code yJ2_charAt_3b067 cJ2_charAt_3b067 2 (some .char) ∈ wsL_law := iwsL_law_r13 _ (List.mem_of_getElem? (i := 16) rfl)
theorem wd_305 : Cond.methodLink RJ2 67 yJ2_checkIndex_2214a ∈ wsL_law := iwsL_law_r13 _ (List.mem_of_getElem? (i := 17) rfl)
theorem wd_306 : Cond.static yJ2_checkIndex_2214a ∈ wsL_law := iwsL_law_r13 _ (List.mem_of_getElem? (i := 18) rfl)
theorem wd_307 : Cond.code yJ2_checkIndex_2214a cJ2_checkIndex_2214a 2 none ∈ wsL_law := iwsL_law_r13 _ (List.mem_of_getElem? (i := 19) rfl)
theorem wd_308 : Cond.methodLink RJ2 48 yJ2_length_9d52b ∈ wsL_law := iwsL_law_r13 _ (List.mem_of_getElem? (i := 20) rfl)
theorem wd_309 : Cond.static yJ2_length_9d52b ∈ wsL_law := iwsL_law_r13 _ (List.mem_of_getElem? (i := 21) rfl)
theorem wd_310 : Cond.code yJ2_length_9d52b cJ2_length_9d52b 1 (some .int) ∈ wsL_law := iwsL_law_r13 _ (List.mem_of_getElem? (i := 22) rfl)
theorem wd_311 : Cond.methodLink RJ2 414 yJ0_checkIndex_df160 ∈ wsL_law := iwsL_law_r13 _ (List.mem_of_getElem? (i := 23) rfl)
theorem wd_312 : Cond.methodLink RJ2 71 yJ2_getChar_3b067 ∈ wsL_law := iwsL_law_r14 _ (List.mem_of_getElem? (i := 0) rfl)
theorem wd_313 : Cond.static yJ2_getChar_3b067 ∈ wsL_law := iwsL_law_r14 _ (List.mem_of_getElem? (i := 1) rfl)
theorem wd_314 : Cond.code yJ2_getChar_3b067 cJ2_getChar_3b067 2 (some .char) ∈ wsL_law := iwsL_law_r14 _ (List.mem_of_getElem? (i := 2) rfl)
theorem wd_315 : Cond.fieldLink RJ2 44 "java/lang/StringUTF16" "$assertionsDisabled" "Z" ∈ wsL_law := iwsL_law_r14 _ (List.mem_of_getElem? (i := 3) rfl)
theorem wd_316 : Cond.fieldLink RJ2 59 "java/lang/StringUTF16" "HI_BYTE_SHIFT" "I" ∈ wsL_law := iwsL_law_r14 _ (List.mem_of_getElem? (i := 4) rfl)
theorem wd_317 : Cond.fieldLink RJ2 63 "java/lang/StringUTF16" "LO_BYTE_SHIFT" "I" ∈ wsL_law := iwsL_law_r14 _ (List.mem_of_getElem? (i := 5) rfl)
theorem wd_318 : Cond.methodLink RX2 97 yX2_isFigure ∈ wsL_law := iwsL_law_r14 _ (List.mem_of_getElem? (i := 6) rfl)
theorem wd_319 : Cond.static yX2_isFigure ∈ wsL_law := iwsL_law_r14 _ (List.mem_of_getElem? (i := 7) rfl)
theorem wd_320 : Cond.code yX2_isFigure cX2_isFigure 1 (some .boolean) ∈ wsL_law := iwsL_law_r14 _ (List.mem_of_getElem? (i := 8) rfl)
theorem wd_321 : Cond.methodLink RX2 100 yX2_takeNumber ∈ wsL_law := iwsL_law_r14 _ (List.mem_of_getElem? (i := 9) rfl)
theorem wd_322 : Cond.instanceMethod yX2_takeNumber ∈ wsL_law := iwsL_law_r14 _ (List.mem_of_getElem? (i := 10) rfl)
theorem wd_323 : Cond.selects RX2 yX2_takeNumber yX2_takeNumber ∈ wsL_law := iwsL_law_r14 _ (List.mem_of_getElem? (i := 11) rfl)
theorem wd_324 : Cond.code yX2_takeNumber cX2_takeNumber 1 none ∈ wsL_law := iwsL_law_r14 _ (List.mem_of_getElem? (i := 12) rfl)
theorem wd_325 : Cond.methodLink RX2 57 yX2_stepToNumber ∈ wsL_law := iwsL_law_r14 _ (List.mem_of_getElem? (i := 13) rfl)
theorem wd_326 : Cond.instanceMethod yX2_stepToNumber ∈ wsL_law := iwsL_law_r14 _ (List.mem_of_getElem? (i := 14) rfl)
theorem wd_327 : Cond.selects RX2 yX2_stepToNumber yX2_stepToNumber ∈ wsL_law := iwsL_law_r14 _ (List.mem_of_getElem? (i := 15) rfl)
theorem wd_328 : Cond.code yX2_stepToNumber cX2_stepToNumber 2 (some .boolean) ∈ wsL_law := iwsL_law_r14 _ (List.mem_of_getElem? (i := 16) rfl)
theorem wd_329 : Cond.methodLink RX2 61 yX0_restart ∈ wsL_law := iwsL_law_r14 _ (List.mem_of_getElem? (i := 17) rfl)
theorem wd_330 : Cond.methodLink RX2 65 yX2_stepToEndOfItem ∈ wsL_law := iwsL_law_r14 _ (List.mem_of_getElem? (i := 18) rfl)
theorem wd_331 : Cond.instanceMethod yX2_stepToEndOfItem ∈ wsL_law := iwsL_law_r14 _ (List.mem_of_getElem? (i := 19) rfl)
theorem wd_332 : Cond.selects RX2 yX2_stepToEndOfItem yX2_stepToEndOfItem ∈ wsL_law := iwsL_law_r14 _ (List.mem_of_getElem? (i := 20) rfl)
theorem wd_333 : Cond.code yX2_stepToEndOfItem cX2_stepToEndOfItem 1 (some .boolean) ∈ wsL_law := iwsL_law_r14 _ (List.mem_of_getElem? (i := 21) rfl)
theorem wd_334 : Cond.methodLink RX2 88 yX2_endsItem ∈ wsL_law := iwsL_law_r14 _ (List.mem_of_getElem? (i := 22) rfl)
theorem wd_335 : Cond.instanceMethod yX2_endsItem ∈ wsL_law := iwsL_law_r14 _ (List.mem_of_getElem? (i := 23) rfl)
theorem wd_336 : Cond.selects RX2 yX2_endsItem yX2_endsItem ∈ wsL_law := iwsL_law_r15 _ (List.mem_of_getElem? (i := 0) rfl)
theorem wd_337 : Cond.code yX2_endsItem cX2_endsItem 1 (some .boolean) ∈ wsL_law := iwsL_law_r15 _ (List.mem_of_getElem? (i := 1) rfl)
theorem wd_338 : Cond.methodLink RX2 48 yX2_readVines ∈ wsL_law := iwsL_law_r15 _ (List.mem_of_getElem? (i := 2) rfl)
theorem wd_339 : Cond.instanceMethod yX2_readVines ∈ wsL_law := iwsL_law_r15 _ (List.mem_of_getElem? (i := 3) rfl)
theorem wd_340 : Cond.selects RX2 yX2_readVines yX2_readVines ∈ wsL_law := iwsL_law_r15 _ (List.mem_of_getElem? (i := 4) rfl)
theorem wd_341 : Cond.code yX2_readVines cX2_readVines 2 (some .boolean) ∈ wsL_law := iwsL_law_r15 _ (List.mem_of_getElem? (i := 5) rfl)
theorem wd_342 : Cond.fieldLink RX2 68 "SlateHills$Land" "vine" "[I" ∈ wsL_law := iwsL_law_r15 _ (List.mem_of_getElem? (i := 6) rfl)
theorem wd_343 : Cond.methodLink RX2 51 yX2_readHill ∈ wsL_law := iwsL_law_r15 _ (List.mem_of_getElem? (i := 7) rfl)
theorem wd_344 : Cond.instanceMethod yX2_readHill ∈ wsL_law := iwsL_law_r15 _ (List.mem_of_getElem? (i := 8) rfl)
theorem wd_345 : Cond.selects RX2 yX2_readHill yX2_readHill ∈ wsL_law := iwsL_law_r15 _ (List.mem_of_getElem? (i := 9) rfl)
theorem wd_346 : Cond.code yX2_readHill cX2_readHill 3 (some .boolean) ∈ wsL_law := iwsL_law_r15 _ (List.mem_of_getElem? (i := 10) rfl)
theorem wd_347 : Cond.fieldLink RX2 71 "SlateHills$Land" "hills" "I" ∈ wsL_law := iwsL_law_r15 _ (List.mem_of_getElem? (i := 11) rfl)
theorem wd_348 : Cond.methodLink RX2 74 yX0_isTaken ∈ wsL_law := iwsL_law_r15 _ (List.mem_of_getElem? (i := 12) rfl)
theorem wd_349 : Cond.methodLink RX2 77 yX0_raise ∈ wsL_law := iwsL_law_r15 _ (List.mem_of_getElem? (i := 13) rfl)
theorem wd_350 : Cond.methodLink RX2 54 yX2_readDays ∈ wsL_law := iwsL_law_r15 _ (List.mem_of_getElem? (i := 14) rfl)
theorem wd_351 : Cond.instanceMethod yX2_readDays ∈ wsL_law := iwsL_law_r15 _ (List.mem_of_getElem? (i := 15) rfl)
theorem wd_352 : Cond.selects RX2 yX2_readDays yX2_readDays ∈ wsL_law := iwsL_law_r15 _ (List.mem_of_getElem? (i := 16) rfl)
theorem wd_353 : Cond.code yX2_readDays cX2_readDays 2 (some .boolean) ∈ wsL_law := iwsL_law_r15 _ (List.mem_of_getElem? (i := 17) rfl)
theorem wd_354 : Cond.methodLink RX2 81 yX0_mayVisit ∈ wsL_law := iwsL_law_r15 _ (List.mem_of_getElem? (i := 18) rfl)
theorem wd_355 : Cond.instanceMethod yX0_mayVisit ∈ wsL_law := iwsL_law_r15 _ (List.mem_of_getElem? (i := 19) rfl)
theorem wd_356 : Cond.selects RX0 yX0_mayVisit yX0_mayVisit ∈ wsL_law := iwsL_law_r15 _ (List.mem_of_getElem? (i := 20) rfl)
theorem wd_357 : Cond.code yX0_mayVisit cX0_mayVisit 2 (some .boolean) ∈ wsL_law := iwsL_law_r15 _ (List.mem_of_getElem? (i := 21) rfl)
theorem wd_358 : Cond.methodLink RX0 60 yX0_isHill ∈ wsL_law := iwsL_law_r15 _ (List.mem_of_getElem? (i := 22) rfl)
theorem wd_359 : Cond.instanceMethod yX0_isHill ∈ wsL_law := iwsL_law_r15 _ (List.mem_of_getElem? (i := 23) rfl)
theorem wd_360 : Cond.selects RX0 yX0_isHill yX0_isHill ∈ wsL_law := iwsL_law_r16 _ (List.mem_of_getElem? (i := 0) rfl)
theorem wd_361 : Cond.code yX0_isHill cX0_isHill 2 (some .boolean) ∈ wsL_law := iwsL_law_r16 _ (List.mem_of_getElem? (i := 1) rfl)
theorem wd_362 : Cond.methodLink RX2 84 yX0_pass ∈ wsL_law := iwsL_law_r16 _ (List.mem_of_getElem? (i := 2) rfl)
theorem wd_363 : Cond.instanceMethod yX0_pass ∈ wsL_law := iwsL_law_r16 _ (List.mem_of_getElem? (i := 3) rfl)
theorem wd_364 : Cond.selects RX0 yX0_pass yX0_pass ∈ wsL_law := iwsL_law_r16 _ (List.mem_of_getElem? (i := 4) rfl)
theorem wd_365 : Cond.code yX0_pass cX0_pass 3 (some .int) ∈ wsL_law := iwsL_law_r16 _ (List.mem_of_getElem? (i := 5) rfl)
theorem wd_366 : Cond.methodLink RX0 68 Lib.Math.max.name ∈ wsL_law := iwsL_law_r16 _ (List.mem_of_getElem? (i := 6) rfl)
theorem wd_367 : Cond.static Lib.Math.max.name ∈ wsL_law := iwsL_law_r16 _ (List.mem_of_getElem? (i := 7) rfl)
theorem wd_368 : Cond.initialized "java/lang/Math" ∈ wsL_law := iwsL_law_r16 _ (List.mem_of_getElem? (i := 8) rfl)
theorem wd_369 : Cond.code Lib.Math.max.name Lib.Math.max.code 2 (some .int) ∈ wsL_law := iwsL_law_r16 _ (List.mem_of_getElem? (i := 9) rfl)
theorem wd_370 : Cond.static yX4_fall ∈ wsL_law := iwsL_law_r16 _ (List.mem_of_getElem? (i := 10) rfl)
theorem wd_371 : Cond.code yX4_fall cX4_fall 3 (some .int) ∈ wsL_law := iwsL_law_r16 _ (List.mem_of_getElem? (i := 11) rfl)
theorem wd_372 : Cond.methodLink RX4 292 yX4_oldFall ∈ wsL_law := iwsL_law_r16 _ (List.mem_of_getElem? (i := 12) rfl)
theorem wd_373 : Cond.static yX4_oldFall ∈ wsL_law := iwsL_law_r16 _ (List.mem_of_getElem? (i := 13) rfl)
theorem wd_374 : Cond.code yX4_oldFall cX4_oldFall 0 (some .int) ∈ wsL_law := iwsL_law_r16 _ (List.mem_of_getElem? (i := 14) rfl)
theorem wd_375 : Cond.methodLink RX4 298 yX4_plainFall ∈ wsL_law := iwsL_law_r16 _ (List.mem_of_getElem? (i := 15) rfl)
theorem wd_376 : Cond.static yX4_plainFall ∈ wsL_law := iwsL_law_r16 _ (List.mem_of_getElem? (i := 16) rfl)
theorem wd_377 : Cond.code yX4_plainFall cX4_plainFall 0 (some .int) ∈ wsL_law := iwsL_law_r16 _ (List.mem_of_getElem? (i := 17) rfl)
theorem wd_378 : Cond.methodLink RX4 295 yX4_lampFall ∈ wsL_law := iwsL_law_r16 _ (List.mem_of_getElem? (i := 18) rfl)
theorem wd_379 : Cond.static yX4_lampFall ∈ wsL_law := iwsL_law_r16 _ (List.mem_of_getElem? (i := 19) rfl)
theorem wd_380 : Cond.code yX4_lampFall cX4_lampFall 1 (some .int) ∈ wsL_law := iwsL_law_r16 _ (List.mem_of_getElem? (i := 20) rfl)
theorem wd_381 : Cond.static yX4_growth ∈ wsL_law := iwsL_law_r16 _ (List.mem_of_getElem? (i := 21) rfl)
theorem wd_382 : Cond.code yX4_growth cX4_growth 3 (some .int) ∈ wsL_law := iwsL_law_r16 _ (List.mem_of_getElem? (i := 22) rfl)
theorem wd_383 : Cond.methodLink RX4 283 yX4_shadeGrowth ∈ wsL_law := iwsL_law_r16 _ (List.mem_of_getElem? (i := 23) rfl)
theorem wd_384 : Cond.static yX4_shadeGrowth ∈ wsL_law := iwsL_law_r17 _ (List.mem_of_getElem? (i := 0) rfl)
theorem wd_385 : Cond.code yX4_shadeGrowth cX4_shadeGrowth 1 (some .int) ∈ wsL_law := iwsL_law_r17 _ (List.mem_of_getElem? (i := 1) rfl)
theorem wd_386 : Cond.methodLink RX4 289 yX4_wallGrowth ∈ wsL_law := iwsL_law_r17 _ (List.mem_of_getElem? (i := 2) rfl)
theorem wd_387 : Cond.static yX4_wallGrowth ∈ wsL_law := iwsL_law_r17 _ (List.mem_of_getElem? (i := 3) rfl)
theorem wd_388 : Cond.code yX4_wallGrowth cX4_wallGrowth 0 (some .int) ∈ wsL_law := iwsL_law_r17 _ (List.mem_of_getElem? (i := 4) rfl)
theorem wd_389 : Cond.methodLink RX4 286 yX4_spoonGrowth ∈ wsL_law := iwsL_law_r17 _ (List.mem_of_getElem? (i := 5) rfl)
theorem wd_390 : Cond.static yX4_spoonGrowth ∈ wsL_law := iwsL_law_r17 _ (List.mem_of_getElem? (i := 6) rfl)
theorem wd_391 : Cond.code yX4_spoonGrowth cX4_spoonGrowth 1 (some .int) ∈ wsL_law := iwsL_law_r17 _ (List.mem_of_getElem? (i := 7) rfl)
theorem wd_392 : Cond.methodLink RX0 77 yX0_settle ∈ wsL_law := iwsL_law_r17 _ (List.mem_of_getElem? (i := 8) rfl)
theorem wd_393 : Cond.instanceMethod yX0_settle ∈ wsL_law := iwsL_law_r17 _ (List.mem_of_getElem? (i := 9) rfl)
theorem wd_394 : Cond.selects RX0 yX0_settle yX0_settle ∈ wsL_law := iwsL_law_r17 _ (List.mem_of_getElem? (i := 10) rfl)
theorem wd_395 : Cond.code yX0_settle cX0_settle 4 (some .int) ∈ wsL_law := iwsL_law_r17 _ (List.mem_of_getElem? (i := 11) rfl)
theorem wd_396 : Cond.methodLink RX0 88 yX0_firstOver ∈ wsL_law := iwsL_law_r17 _ (List.mem_of_getElem? (i := 12) rfl)
theorem wd_397 : Cond.instanceMethod yX0_firstOver ∈ wsL_law := iwsL_law_r17 _ (List.mem_of_getElem? (i := 13) rfl)
theorem wd_398 : Cond.selects RX0 yX0_firstOver yX0_firstOver ∈ wsL_law := iwsL_law_r17 _ (List.mem_of_getElem? (i := 14) rfl)
theorem wd_399 : Cond.code yX0_firstOver cX0_firstOver 2 (some .int) ∈ wsL_law := iwsL_law_r17 _ (List.mem_of_getElem? (i := 15) rfl)
theorem wd_400 : Cond.methodLink RX0 91 yX0_loseAround ∈ wsL_law := iwsL_law_r17 _ (List.mem_of_getElem? (i := 16) rfl)
theorem wd_401 : Cond.instanceMethod yX0_loseAround ∈ wsL_law := iwsL_law_r17 _ (List.mem_of_getElem? (i := 17) rfl)
theorem wd_402 : Cond.selects RX0 yX0_loseAround yX0_loseAround ∈ wsL_law := iwsL_law_r17 _ (List.mem_of_getElem? (i := 18) rfl)
theorem wd_403 : Cond.code yX0_loseAround cX0_loseAround 5 (some .int) ∈ wsL_law := iwsL_law_r17 _ (List.mem_of_getElem? (i := 19) rfl)
theorem wd_404 : Cond.methodLink RX0 98 Lib.Math.min.name ∈ wsL_law := iwsL_law_r17 _ (List.mem_of_getElem? (i := 20) rfl)
theorem wd_405 : Cond.static Lib.Math.min.name ∈ wsL_law := iwsL_law_r17 _ (List.mem_of_getElem? (i := 21) rfl)
theorem wd_406 : Cond.code Lib.Math.min.name Lib.Math.min.code 2 (some .int) ∈ wsL_law := iwsL_law_r17 _ (List.mem_of_getElem? (i := 22) rfl)
theorem wd_407 : Cond.methodLink RX0 94 yX0_spreadAround ∈ wsL_law := iwsL_law_r17 _ (List.mem_of_getElem? (i := 23) rfl)
theorem wd_408 : Cond.instanceMethod yX0_spreadAround ∈ wsL_law := iwsL_law_r18 _ (List.mem_of_getElem? (i := 0) rfl)
theorem wd_409 : Cond.selects RX0 yX0_spreadAround yX0_spreadAround ∈ wsL_law := iwsL_law_r18 _ (List.mem_of_getElem? (i := 1) rfl)
theorem wd_410 : Cond.code yX0_spreadAround cX0_spreadAround 3 none ∈ wsL_law := iwsL_law_r18 _ (List.mem_of_getElem? (i := 2) rfl)
theorem wd_411 : Cond.methodLink RX0 105 Lib.Math.abs.name ∈ wsL_law := iwsL_law_r18 _ (List.mem_of_getElem? (i := 3) rfl)
theorem wd_412 : Cond.static Lib.Math.abs.name ∈ wsL_law := iwsL_law_r18 _ (List.mem_of_getElem? (i := 4) rfl)
theorem wd_413 : Cond.code Lib.Math.abs.name Lib.Math.abs.code 1 (some .int) ∈ wsL_law := iwsL_law_r18 _ (List.mem_of_getElem? (i := 5) rfl)
theorem wd_414 : Cond.static yX4_holds ∈ wsL_law := iwsL_law_r18 _ (List.mem_of_getElem? (i := 6) rfl)
theorem wd_415 : Cond.code yX4_holds cX4_holds 2 (some .boolean) ∈ wsL_law := iwsL_law_r18 _ (List.mem_of_getElem? (i := 7) rfl)
theorem wd_416 : Cond.methodLink RX4 118 yX0_copyFrom ∈ wsL_law := iwsL_law_r18 _ (List.mem_of_getElem? (i := 8) rfl)
theorem wd_417 : Cond.instanceMethod yX0_copyFrom ∈ wsL_law := iwsL_law_r18 _ (List.mem_of_getElem? (i := 9) rfl)
theorem wd_418 : Cond.selects RX0 yX0_copyFrom yX0_copyFrom ∈ wsL_law := iwsL_law_r18 _ (List.mem_of_getElem? (i := 10) rfl)
theorem wd_419 : Cond.code yX0_copyFrom cX0_copyFrom 2 none ∈ wsL_law := iwsL_law_r18 _ (List.mem_of_getElem? (i := 11) rfl)
theorem wd_420 : Cond.methodLink RX0 46 arraycopyName ∈ wsL_law := iwsL_law_r18 _ (List.mem_of_getElem? (i := 12) rfl)
theorem wd_421 : Cond.native arraycopyName ∈ wsL_law := iwsL_law_r18 _ (List.mem_of_getElem? (i := 13) rfl)
theorem wd_422 : Cond.static arraycopyName ∈ wsL_law := iwsL_law_r18 _ (List.mem_of_getElem? (i := 14) rfl)
theorem wd_423 : Cond.initialized "java/lang/System" ∈ wsL_law := iwsL_law_r18 _ (List.mem_of_getElem? (i := 15) rfl)
theorem wd_424 : Cond.methodLink RX0 52 yX0_copyDaysFrom ∈ wsL_law := iwsL_law_r18 _ (List.mem_of_getElem? (i := 16) rfl)
theorem wd_425 : Cond.instanceMethod yX0_copyDaysFrom ∈ wsL_law := iwsL_law_r18 _ (List.mem_of_getElem? (i := 17) rfl)
theorem wd_426 : Cond.selects RX0 yX0_copyDaysFrom yX0_copyDaysFrom ∈ wsL_law := iwsL_law_r18 _ (List.mem_of_getElem? (i := 18) rfl)
theorem wd_427 : Cond.code yX0_copyDaysFrom cX0_copyDaysFrom 2 none ∈ wsL_law := iwsL_law_r18 _ (List.mem_of_getElem? (i := 19) rfl)
theorem wd_428 : Cond.methodLink RL 44 yX5_read ∈ wsL_law := iwsL_law_r18 _ (List.mem_of_getElem? (i := 20) rfl)
theorem wd_429 : Cond.instanceMethod yX5_read ∈ wsL_law := iwsL_law_r18 _ (List.mem_of_getElem? (i := 21) rfl)
theorem wd_430 : Cond.selects RX5 yX5_read yX5_read ∈ wsL_law := iwsL_law_r18 _ (List.mem_of_getElem? (i := 22) rfl)
theorem wd_431 : Cond.code yX5_read cX5_read 3 (some .int) ∈ wsL_law := iwsL_law_r18 _ (List.mem_of_getElem? (i := 23) rfl)
theorem wd_432 : Cond.fieldLink RX5 216 "SlateHillsModel" "tokenAt" "I" ∈ wsL_law := iwsL_law_r19 _ (List.mem_of_getElem? (i := 0) rfl)
theorem wd_433 : Cond.fieldLink RX5 222 "SlateHillsModel" "token" "I" ∈ wsL_law := iwsL_law_r19 _ (List.mem_of_getElem? (i := 1) rfl)
theorem wd_434 : Cond.methodLink RX5 234 yX5_lookAt ∈ wsL_law := iwsL_law_r19 _ (List.mem_of_getElem? (i := 2) rfl)
theorem wd_435 : Cond.instanceMethod yX5_lookAt ∈ wsL_law := iwsL_law_r19 _ (List.mem_of_getElem? (i := 3) rfl)
theorem wd_436 : Cond.selects RX5 yX5_lookAt yX5_lookAt ∈ wsL_law := iwsL_law_r19 _ (List.mem_of_getElem? (i := 4) rfl)
theorem wd_437 : Cond.code yX5_lookAt cX5_lookAt 5 none ∈ wsL_law := iwsL_law_r19 _ (List.mem_of_getElem? (i := 5) rfl)
theorem wd_438 : Cond.fieldLink RX5 219 "SlateHillsModel" "tokenLong" "I" ∈ wsL_law := iwsL_law_r19 _ (List.mem_of_getElem? (i := 6) rfl)
theorem wd_439 : Cond.fieldLink RX5 225 "SlateHillsModel" "value" "I" ∈ wsL_law := iwsL_law_r19 _ (List.mem_of_getElem? (i := 7) rfl)
theorem wd_440 : Cond.methodLink RX5 228 yX5_isSmall ∈ wsL_law := iwsL_law_r19 _ (List.mem_of_getElem? (i := 8) rfl)
theorem wd_441 : Cond.static yX5_isSmall ∈ wsL_law := iwsL_law_r19 _ (List.mem_of_getElem? (i := 9) rfl)
theorem wd_442 : Cond.code yX5_isSmall cX5_isSmall 1 (some .boolean) ∈ wsL_law := iwsL_law_r19 _ (List.mem_of_getElem? (i := 10) rfl)
theorem wd_443 : Cond.constantLong RX5 208 (97) ∈ wsL_law := iwsL_law_r19 _ (List.mem_of_getElem? (i := 11) rfl)
theorem wd_444 : Cond.constantLong RX5 210 (122) ∈ wsL_law := iwsL_law_r19 _ (List.mem_of_getElem? (i := 12) rfl)
theorem wd_445 : Cond.methodLink RX5 231 yX5_isFigure ∈ wsL_law := iwsL_law_r19 _ (List.mem_of_getElem? (i := 13) rfl)
theorem wd_446 : Cond.static yX5_isFigure ∈ wsL_law := iwsL_law_r19 _ (List.mem_of_getElem? (i := 14) rfl)
theorem wd_447 : Cond.code yX5_isFigure cX5_isFigure 1 (some .boolean) ∈ wsL_law := iwsL_law_r19 _ (List.mem_of_getElem? (i := 15) rfl)
theorem wd_448 : Cond.constantLong RX5 212 (48) ∈ wsL_law := iwsL_law_r19 _ (List.mem_of_getElem? (i := 16) rfl)
theorem wd_449 : Cond.constantLong RX5 214 (57) ∈ wsL_law := iwsL_law_r19 _ (List.mem_of_getElem? (i := 17) rfl)
theorem wd_450 : Cond.methodLink RX5 245 yX5_spells ∈ wsL_law := iwsL_law_r19 _ (List.mem_of_getElem? (i := 18) rfl)
theorem wd_451 : Cond.instanceMethod yX5_spells ∈ wsL_law := iwsL_law_r19 _ (List.mem_of_getElem? (i := 19) rfl)
theorem wd_452 : Cond.selects RX5 yX5_spells yX5_spells ∈ wsL_law := iwsL_law_r19 _ (List.mem_of_getElem? (i := 20) rfl)
theorem wd_453 : Cond.code yX5_spells cX5_spells 10 (some .boolean) ∈ wsL_law := iwsL_law_r19 _ (List.mem_of_getElem? (i := 21) rfl)
theorem wd_454 : Cond.methodLink RX5 238 yX5_goBehind ∈ wsL_law := iwsL_law_r19 _ (List.mem_of_getElem? (i := 22) rfl)
theorem wd_455 : Cond.instanceMethod yX5_goBehind ∈ wsL_law := iwsL_law_r19 _ (List.mem_of_getElem? (i := 23) rfl)
theorem wd_456 : Cond.selects RX5 yX5_goBehind yX5_goBehind ∈ wsL_law := iwsL_law_r20 _ (List.mem_of_getElem? (i := 0) rfl)
theorem wd_457 : Cond.code yX5_goBehind cX5_goBehind 1 none ∈ wsL_law := iwsL_law_r20 _ (List.mem_of_getElem? (i := 1) rfl)
theorem wd_458 : Cond.methodLink RX5 241 yX5_takes ∈ wsL_law := iwsL_law_r20 _ (List.mem_of_getElem? (i := 2) rfl)
theorem wd_459 : Cond.instanceMethod yX5_takes ∈ wsL_law := iwsL_law_r20 _ (List.mem_of_getElem? (i := 3) rfl)
theorem wd_460 : Cond.selects RX5 yX5_takes yX5_takes ∈ wsL_law := iwsL_law_r20 _ (List.mem_of_getElem? (i := 4) rfl)
theorem wd_461 : Cond.code yX5_takes cX5_takes 4 (some .boolean) ∈ wsL_law := iwsL_law_r20 _ (List.mem_of_getElem? (i := 5) rfl)
theorem wd_462 : Cond.methodLink RX5 259 yX5_takesItem ∈ wsL_law := iwsL_law_r20 _ (List.mem_of_getElem? (i := 6) rfl)
theorem wd_463 : Cond.instanceMethod yX5_takesItem ∈ wsL_law := iwsL_law_r20 _ (List.mem_of_getElem? (i := 7) rfl)
theorem wd_464 : Cond.selects RX5 yX5_takesItem yX5_takesItem ∈ wsL_law := iwsL_law_r20 _ (List.mem_of_getElem? (i := 8) rfl)
theorem wd_465 : Cond.code yX5_takesItem cX5_takesItem 1 (some .boolean) ∈ wsL_law := iwsL_law_r20 _ (List.mem_of_getElem? (i := 9) rfl)
theorem wd_466 : Cond.methodLink RX5 249 yX5_takesVines ∈ wsL_law := iwsL_law_r20 _ (List.mem_of_getElem? (i := 10) rfl)
theorem wd_467 : Cond.instanceMethod yX5_takesVines ∈ wsL_law := iwsL_law_r20 _ (List.mem_of_getElem? (i := 11) rfl)
theorem wd_468 : Cond.selects RX5 yX5_takesVines yX5_takesVines ∈ wsL_law := iwsL_law_r20 _ (List.mem_of_getElem? (i := 12) rfl)
theorem wd_469 : Cond.code yX5_takesVines cX5_takesVines 1 (some .boolean) ∈ wsL_law := iwsL_law_r20 _ (List.mem_of_getElem? (i := 13) rfl)
theorem wd_470 : Cond.methodLink RX5 253 yX5_takesHill ∈ wsL_law := iwsL_law_r20 _ (List.mem_of_getElem? (i := 14) rfl)
theorem wd_471 : Cond.instanceMethod yX5_takesHill ∈ wsL_law := iwsL_law_r20 _ (List.mem_of_getElem? (i := 15) rfl)
theorem wd_472 : Cond.selects RX5 yX5_takesHill yX5_takesHill ∈ wsL_law := iwsL_law_r20 _ (List.mem_of_getElem? (i := 16) rfl)
theorem wd_473 : Cond.code yX5_takesHill cX5_takesHill 1 (some .boolean) ∈ wsL_law := iwsL_law_r20 _ (List.mem_of_getElem? (i := 17) rfl)
theorem wd_474 : Cond.methodLink RX5 256 yX5_takesDays ∈ wsL_law := iwsL_law_r20 _ (List.mem_of_getElem? (i := 18) rfl)
theorem wd_475 : Cond.instanceMethod yX5_takesDays ∈ wsL_law := iwsL_law_r20 _ (List.mem_of_getElem? (i := 19) rfl)
theorem wd_476 : Cond.selects RX5 yX5_takesDays yX5_takesDays ∈ wsL_law := iwsL_law_r20 _ (List.mem_of_getElem? (i := 20) rfl)
theorem wd_477 : Cond.code yX5_takesDays cX5_takesDays 3 (some .boolean) ∈ wsL_law := iwsL_law_r20 _ (List.mem_of_getElem? (i := 21) rfl)
theorem wd_478 : Cond.methodLink RX5 126 yX5_goDay ∈ wsL_law := iwsL_law_r20 _ (List.mem_of_getElem? (i := 22) rfl)
theorem wd_479 : Cond.instanceMethod yX5_goDay ∈ wsL_law := iwsL_law_r20 _ (List.mem_of_getElem? (i := 23) rfl)
theorem wd_480 : Cond.selects RX5 yX5_goDay yX5_goDay ∈ wsL_law := iwsL_law_r21 _ (List.mem_of_getElem? (i := 0) rfl)
theorem wd_481 : Cond.code yX5_goDay cX5_goDay 6 (some .int) ∈ wsL_law := iwsL_law_r21 _ (List.mem_of_getElem? (i := 1) rfl)
theorem wd_482 : Cond.methodLink RX5 109 yX5_fallsAs ∈ wsL_law := iwsL_law_r21 _ (List.mem_of_getElem? (i := 2) rfl)
theorem wd_483 : Cond.static yX5_fallsAs ∈ wsL_law := iwsL_law_r21 _ (List.mem_of_getElem? (i := 3) rfl)
theorem wd_484 : Cond.code yX5_fallsAs cX5_fallsAs 4 (some .int) ∈ wsL_law := iwsL_law_r21 _ (List.mem_of_getElem? (i := 4) rfl)
theorem wd_485 : Cond.methodLink RX5 113 yX5_growsAs ∈ wsL_law := iwsL_law_r21 _ (List.mem_of_getElem? (i := 5) rfl)
theorem wd_486 : Cond.static yX5_growsAs ∈ wsL_law := iwsL_law_r21 _ (List.mem_of_getElem? (i := 6) rfl)
theorem wd_487 : Cond.code yX5_growsAs cX5_growsAs 5 (some .int) ∈ wsL_law := iwsL_law_r21 _ (List.mem_of_getElem? (i := 7) rfl)
theorem wd_488 : Cond.methodLink RX5 116 yX5_goOff ∈ wsL_law := iwsL_law_r21 _ (List.mem_of_getElem? (i := 8) rfl)
theorem wd_489 : Cond.instanceMethod yX5_goOff ∈ wsL_law := iwsL_law_r21 _ (List.mem_of_getElem? (i := 9) rfl)
theorem wd_490 : Cond.selects RX5 yX5_goOff yX5_goOff ∈ wsL_law := iwsL_law_r21 _ (List.mem_of_getElem? (i := 10) rfl)
theorem wd_491 : Cond.code yX5_goOff cX5_goOff 6 (some .int) ∈ wsL_law := iwsL_law_r21 _ (List.mem_of_getElem? (i := 11) rfl)
theorem wd_492 : Cond.fieldLink RX5 97 "SlateHillsModel" "wentOff" "I" ∈ wsL_law := iwsL_law_r21 _ (List.mem_of_getElem? (i := 12) rfl)
theorem wd_493 : Cond.methodLink RX5 101 yX5_loses ∈ wsL_law := iwsL_law_r21 _ (List.mem_of_getElem? (i := 13) rfl)
theorem wd_494 : Cond.static yX5_loses ∈ wsL_law := iwsL_law_r21 _ (List.mem_of_getElem? (i := 14) rfl)
theorem wd_495 : Cond.code yX5_loses cX5_loses 4 (some .int) ∈ wsL_law := iwsL_law_r21 _ (List.mem_of_getElem? (i := 15) rfl)
theorem wd_496 : Cond.methodLink RX5 93 yX5_far ∈ wsL_law := iwsL_law_r21 _ (List.mem_of_getElem? (i := 16) rfl)
theorem wd_497 : Cond.static yX5_far ∈ wsL_law := iwsL_law_r21 _ (List.mem_of_getElem? (i := 17) rfl)
theorem wd_498 : Cond.code yX5_far cX5_far 2 (some .int) ∈ wsL_law := iwsL_law_r21 _ (List.mem_of_getElem? (i := 18) rfl)
theorem wd_499 : Cond.methodLink RX5 105 yX5_isIn ∈ wsL_law := iwsL_law_r21 _ (List.mem_of_getElem? (i := 19) rfl)
theorem wd_500 : Cond.static yX5_isIn ∈ wsL_law := iwsL_law_r21 _ (List.mem_of_getElem? (i := 20) rfl)
theorem wd_501 : Cond.code yX5_isIn cX5_isIn 2 (some .boolean) ∈ wsL_law := iwsL_law_r21 _ (List.mem_of_getElem? (i := 21) rfl)
theorem wd_502 : Cond.methodLink RX5 129 yX5_harm ∈ wsL_law := iwsL_law_r21 _ (List.mem_of_getElem? (i := 22) rfl)
theorem wd_503 : Cond.static yX5_harm ∈ wsL_law := iwsL_law_r21 _ (List.mem_of_getElem? (i := 23) rfl)
theorem wd_504 : Cond.code yX5_harm cX5_harm 2 none ∈ wsL_law := iwsL_law_r22 _ (List.mem_of_getElem? (i := 0) rfl)
theorem wd_505 : Cond.methodLink RL 45 yX4_day ∈ wsL_law := iwsL_law_r22 _ (List.mem_of_getElem? (i := 1) rfl)
theorem wd_506 : Cond.instanceMethod yX4_day ∈ wsL_law := iwsL_law_r22 _ (List.mem_of_getElem? (i := 2) rfl)
theorem wd_507 : Cond.selects RX4 yX4_day yX4_day ∈ wsL_law := iwsL_law_r22 _ (List.mem_of_getElem? (i := 3) rfl)
theorem wd_508 : Cond.code yX4_day cX4_day 2 (some .int) ∈ wsL_law := iwsL_law_r22 _ (List.mem_of_getElem? (i := 4) rfl)
theorem wd_509 : Cond.fieldLink RX4 128 "SlateHills$Land" "today" "I" ∈ wsL_law := iwsL_law_r22 _ (List.mem_of_getElem? (i := 5) rfl)
theorem wd_510 : Cond.methodLink RX4 125 yX0_mayVisit ∈ wsL_law := iwsL_law_r22 _ (List.mem_of_getElem? (i := 6) rfl)
theorem wd_511 : Cond.methodLink RX4 131 yX3_keepForUndo ∈ wsL_law := iwsL_law_r22 _ (List.mem_of_getElem? (i := 7) rfl)
theorem wd_512 : Cond.instanceMethod yX3_keepForUndo ∈ wsL_law := iwsL_law_r22 _ (List.mem_of_getElem? (i := 8) rfl)
theorem wd_513 : Cond.selects RX3 yX3_keepForUndo yX3_keepForUndo ∈ wsL_law := iwsL_law_r22 _ (List.mem_of_getElem? (i := 9) rfl)
theorem wd_514 : Cond.code yX3_keepForUndo cX3_keepForUndo 2 none ∈ wsL_law := iwsL_law_r22 _ (List.mem_of_getElem? (i := 10) rfl)
theorem wd_515 : Cond.fieldLink RX3 59 "SlateHills$Land" "size" "[I" ∈ wsL_law := iwsL_law_r22 _ (List.mem_of_getElem? (i := 11) rfl)
theorem wd_516 : Cond.methodLink RX3 53 arraycopyName ∈ wsL_law := iwsL_law_r22 _ (List.mem_of_getElem? (i := 12) rfl)
theorem wd_517 : Cond.fieldLink RX3 62 "SlateHills$Land" "vine" "[I" ∈ wsL_law := iwsL_law_r22 _ (List.mem_of_getElem? (i := 13) rfl)
theorem wd_518 : Cond.fieldLink RX3 65 "SlateHills$Land" "harm" "I" ∈ wsL_law := iwsL_law_r22 _ (List.mem_of_getElem? (i := 14) rfl)
theorem wd_519 : Cond.fieldLink RX3 68 "SlateHills$Land" "today" "I" ∈ wsL_law := iwsL_law_r22 _ (List.mem_of_getElem? (i := 15) rfl)
theorem wd_520 : Cond.methodLink RX3 71 Lib.Math.min.name ∈ wsL_law := iwsL_law_r22 _ (List.mem_of_getElem? (i := 16) rfl)
theorem wd_521 : Cond.methodLink RX4 134 yX0_pass ∈ wsL_law := iwsL_law_r22 _ (List.mem_of_getElem? (i := 17) rfl)
theorem wd_522 : Cond.methodLink RL 48 yX5_day ∈ wsL_law := iwsL_law_r22 _ (List.mem_of_getElem? (i := 18) rfl)
theorem wd_523 : Cond.instanceMethod yX5_day ∈ wsL_law := iwsL_law_r22 _ (List.mem_of_getElem? (i := 19) rfl)
theorem wd_524 : Cond.selects RX5 yX5_day yX5_day ∈ wsL_law := iwsL_law_r22 _ (List.mem_of_getElem? (i := 20) rfl)
theorem wd_525 : Cond.code yX5_day cX5_day 3 (some .int) ∈ wsL_law := iwsL_law_r22 _ (List.mem_of_getElem? (i := 21) rfl)
theorem wd_526 : Cond.methodLink RX5 120 yX5_isHill ∈ wsL_law := iwsL_law_r22 _ (List.mem_of_getElem? (i := 22) rfl)
theorem wd_527 : Cond.instanceMethod yX5_isHill ∈ wsL_law := iwsL_law_r22 _ (List.mem_of_getElem? (i := 23) rfl)
theorem wd_528 : Cond.selects RX5 yX5_isHill yX5_isHill ∈ wsL_law := iwsL_law_r23 _ (List.mem_of_getElem? (i := 0) rfl)
theorem wd_529 : Cond.code yX5_isHill cX5_isHill 2 (some .boolean) ∈ wsL_law := iwsL_law_r23 _ (List.mem_of_getElem? (i := 1) rfl)
theorem wd_530 : Cond.methodLink RX5 123 yX5_save ∈ wsL_law := iwsL_law_r23 _ (List.mem_of_getElem? (i := 2) rfl)
theorem wd_531 : Cond.instanceMethod yX5_save ∈ wsL_law := iwsL_law_r23 _ (List.mem_of_getElem? (i := 3) rfl)
theorem wd_532 : Cond.selects RX5 yX5_save yX5_save ∈ wsL_law := iwsL_law_r23 _ (List.mem_of_getElem? (i := 4) rfl)
theorem wd_533 : Cond.code yX5_save cX5_save 2 none ∈ wsL_law := iwsL_law_r23 _ (List.mem_of_getElem? (i := 5) rfl)
theorem wd_534 : Cond.methodLink RL 49 yX4_putBack ∈ wsL_law := iwsL_law_r23 _ (List.mem_of_getElem? (i := 6) rfl)
theorem wd_535 : Cond.instanceMethod yX4_putBack ∈ wsL_law := iwsL_law_r23 _ (List.mem_of_getElem? (i := 7) rfl)
theorem wd_536 : Cond.selects RX4 yX4_putBack yX4_putBack ∈ wsL_law := iwsL_law_r23 _ (List.mem_of_getElem? (i := 8) rfl)
theorem wd_537 : Cond.code yX4_putBack cX4_putBack 3 (some .int) ∈ wsL_law := iwsL_law_r23 _ (List.mem_of_getElem? (i := 9) rfl)
theorem wd_538 : Cond.methodLink RX4 137 Lib.Math.min.name ∈ wsL_law := iwsL_law_r23 _ (List.mem_of_getElem? (i := 10) rfl)
theorem wd_539 : Cond.methodLink RL 52 yX5_putBack ∈ wsL_law := iwsL_law_r23 _ (List.mem_of_getElem? (i := 11) rfl)
theorem wd_540 : Cond.instanceMethod yX5_putBack ∈ wsL_law := iwsL_law_r23 _ (List.mem_of_getElem? (i := 12) rfl)
theorem wd_541 : Cond.selects RX5 yX5_putBack yX5_putBack ∈ wsL_law := iwsL_law_r23 _ (List.mem_of_getElem? (i := 13) rfl)
theorem wd_542 : Cond.code yX5_putBack cX5_putBack 4 (some .int) ∈ wsL_law := iwsL_law_r23 _ (List.mem_of_getElem? (i := 14) rfl)
theorem wd_543 : Cond.methodLink RL 53 yX4_undo ∈ wsL_law := iwsL_law_r23 _ (List.mem_of_getElem? (i := 15) rfl)
theorem wd_544 : Cond.instanceMethod yX4_undo ∈ wsL_law := iwsL_law_r23 _ (List.mem_of_getElem? (i := 16) rfl)
theorem wd_545 : Cond.selects RX4 yX4_undo yX4_undo ∈ wsL_law := iwsL_law_r23 _ (List.mem_of_getElem? (i := 17) rfl)
theorem wd_546 : Cond.code yX4_undo cX4_undo 1 (some .int) ∈ wsL_law := iwsL_law_r23 _ (List.mem_of_getElem? (i := 18) rfl)
theorem wd_547 : Cond.methodLink RX4 143 yX3_stepBack ∈ wsL_law := iwsL_law_r23 _ (List.mem_of_getElem? (i := 19) rfl)
theorem wd_548 : Cond.instanceMethod yX3_stepBack ∈ wsL_law := iwsL_law_r23 _ (List.mem_of_getElem? (i := 20) rfl)
theorem wd_549 : Cond.selects RX3 yX3_stepBack yX3_stepBack ∈ wsL_law := iwsL_law_r23 _ (List.mem_of_getElem? (i := 21) rfl)
theorem wd_550 : Cond.code yX3_stepBack cX3_stepBack 2 none ∈ wsL_law := iwsL_law_r23 _ (List.mem_of_getElem? (i := 22) rfl)
theorem wd_551 : Cond.methodLink RL 56 yX5_undo ∈ wsL_law := iwsL_law_r23 _ (List.mem_of_getElem? (i := 23) rfl)
theorem wd_552 : Cond.instanceMethod yX5_undo ∈ wsL_law := iwsL_law_r24 _ (List.mem_of_getElem? (i := 0) rfl)
theorem wd_553 : Cond.selects RX5 yX5_undo yX5_undo ∈ wsL_law := iwsL_law_r24 _ (List.mem_of_getElem? (i := 1) rfl)
theorem wd_554 : Cond.code yX5_undo cX5_undo 2 (some .int) ∈ wsL_law := iwsL_law_r24 _ (List.mem_of_getElem? (i := 2) rfl)
theorem wd_555 : Cond.methodLink RL 57 yX4_of ∈ wsL_law := iwsL_law_r24 _ (List.mem_of_getElem? (i := 3) rfl)
theorem wd_556 : Cond.instanceMethod yX4_of ∈ wsL_law := iwsL_law_r24 _ (List.mem_of_getElem? (i := 4) rfl)
theorem wd_557 : Cond.selects RX4 yX4_of yX4_of ∈ wsL_law := iwsL_law_r24 _ (List.mem_of_getElem? (i := 5) rfl)
theorem wd_558 : Cond.code yX4_of cX4_of 4 (some .int) ∈ wsL_law := iwsL_law_r24 _ (List.mem_of_getElem? (i := 6) rfl)
theorem wd_559 : Cond.fieldLink RX4 149 "SlateHills$Land" "kind" "[I" ∈ wsL_law := iwsL_law_r24 _ (List.mem_of_getElem? (i := 7) rfl)
theorem wd_560 : Cond.fieldLink RX4 152 "SlateHills$Land" "cell" "[I" ∈ wsL_law := iwsL_law_r24 _ (List.mem_of_getElem? (i := 8) rfl)
theorem wd_561 : Cond.fieldLink RX4 155 "SlateHills$Land" "size" "[I" ∈ wsL_law := iwsL_law_r24 _ (List.mem_of_getElem? (i := 9) rfl)
theorem wd_562 : Cond.methodLink RX4 146 yX0_isHill ∈ wsL_law := iwsL_law_r24 _ (List.mem_of_getElem? (i := 10) rfl)
theorem wd_563 : Cond.methodLink RX4 158 yX4_growth ∈ wsL_law := iwsL_law_r24 _ (List.mem_of_getElem? (i := 11) rfl)
theorem wd_564 : Cond.methodLink RX4 162 yX4_fall ∈ wsL_law := iwsL_law_r24 _ (List.mem_of_getElem? (i := 12) rfl)
theorem wd_565 : Cond.methodLink RL 60 yX5_of ∈ wsL_law := iwsL_law_r24 _ (List.mem_of_getElem? (i := 13) rfl)
theorem wd_566 : Cond.instanceMethod yX5_of ∈ wsL_law := iwsL_law_r24 _ (List.mem_of_getElem? (i := 14) rfl)
theorem wd_567 : Cond.selects RX5 yX5_of yX5_of ∈ wsL_law := iwsL_law_r24 _ (List.mem_of_getElem? (i := 15) rfl)
theorem wd_568 : Cond.code yX5_of cX5_of 4 (some .int) ∈ wsL_law := iwsL_law_r24 _ (List.mem_of_getElem? (i := 16) rfl)
theorem wd_569 : Cond.constantLong RX5 132 (4) ∈ wsL_law := iwsL_law_r24 _ (List.mem_of_getElem? (i := 17) rfl)
theorem wd_570 : Cond.methodLink RL 61 yX4_has ∈ wsL_law := iwsL_law_r24 _ (List.mem_of_getElem? (i := 18) rfl)
theorem wd_571 : Cond.instanceMethod yX4_has ∈ wsL_law := iwsL_law_r24 _ (List.mem_of_getElem? (i := 19) rfl)
theorem wd_572 : Cond.selects RX4 yX4_has yX4_has ∈ wsL_law := iwsL_law_r24 _ (List.mem_of_getElem? (i := 20) rfl)
theorem wd_573 : Cond.code yX4_has cX4_has 2 (some .int) ∈ wsL_law := iwsL_law_r24 _ (List.mem_of_getElem? (i := 21) rfl)
theorem wd_574 : Cond.methodLink RL 64 yX5_has ∈ wsL_law := iwsL_law_r24 _ (List.mem_of_getElem? (i := 22) rfl)
theorem wd_575 : Cond.instanceMethod yX5_has ∈ wsL_law := iwsL_law_r24 _ (List.mem_of_getElem? (i := 23) rfl)
theorem wd_576 : Cond.selects RX5 yX5_has yX5_has ∈ wsL_law := iwsL_law_r25 _ (List.mem_of_getElem? (i := 0) rfl)
theorem wd_577 : Cond.code yX5_has cX5_has 2 (some .int) ∈ wsL_law := iwsL_law_r25 _ (List.mem_of_getElem? (i := 1) rfl)
theorem wd_578 : Cond.methodLink RL 65 yX4_high ∈ wsL_law := iwsL_law_r25 _ (List.mem_of_getElem? (i := 2) rfl)
theorem wd_579 : Cond.instanceMethod yX4_high ∈ wsL_law := iwsL_law_r25 _ (List.mem_of_getElem? (i := 3) rfl)
theorem wd_580 : Cond.selects RX4 yX4_high yX4_high ∈ wsL_law := iwsL_law_r25 _ (List.mem_of_getElem? (i := 4) rfl)
theorem wd_581 : Cond.code yX4_high cX4_high 4 (some .int) ∈ wsL_law := iwsL_law_r25 _ (List.mem_of_getElem? (i := 5) rfl)
theorem wd_582 : Cond.methodLink RX4 165 yX1_startFrom ∈ wsL_law := iwsL_law_r25 _ (List.mem_of_getElem? (i := 6) rfl)
theorem wd_583 : Cond.instanceMethod yX1_startFrom ∈ wsL_law := iwsL_law_r25 _ (List.mem_of_getElem? (i := 7) rfl)
theorem wd_584 : Cond.selects RX1 yX1_startFrom yX1_startFrom ∈ wsL_law := iwsL_law_r25 _ (List.mem_of_getElem? (i := 8) rfl)
theorem wd_585 : Cond.code yX1_startFrom cX1_startFrom 2 (some (.object "SlateHills$Land")) ∈ wsL_law := iwsL_law_r25 _ (List.mem_of_getElem? (i := 9) rfl)
theorem wd_586 : Cond.methodLink RX1 35 yX0_copyFrom ∈ wsL_law := iwsL_law_r25 _ (List.mem_of_getElem? (i := 10) rfl)
theorem wd_587 : Cond.methodLink RX4 169 yX0_passAlone ∈ wsL_law := iwsL_law_r25 _ (List.mem_of_getElem? (i := 11) rfl)
theorem wd_588 : Cond.instanceMethod yX0_passAlone ∈ wsL_law := iwsL_law_r25 _ (List.mem_of_getElem? (i := 12) rfl)
theorem wd_589 : Cond.selects RX0 yX0_passAlone yX0_passAlone ∈ wsL_law := iwsL_law_r25 _ (List.mem_of_getElem? (i := 13) rfl)
theorem wd_590 : Cond.code yX0_passAlone cX0_passAlone 4 (some .int) ∈ wsL_law := iwsL_law_r25 _ (List.mem_of_getElem? (i := 14) rfl)
theorem wd_591 : Cond.methodLink RX0 81 yX0_pass ∈ wsL_law := iwsL_law_r25 _ (List.mem_of_getElem? (i := 15) rfl)
theorem wd_592 : Cond.methodLink RL 68 yX5_high ∈ wsL_law := iwsL_law_r25 _ (List.mem_of_getElem? (i := 16) rfl)
theorem wd_593 : Cond.instanceMethod yX5_high ∈ wsL_law := iwsL_law_r25 _ (List.mem_of_getElem? (i := 17) rfl)
theorem wd_594 : Cond.selects RX5 yX5_high yX5_high ∈ wsL_law := iwsL_law_r25 _ (List.mem_of_getElem? (i := 18) rfl)
theorem wd_595 : Cond.code yX5_high cX5_high 4 (some .int) ∈ wsL_law := iwsL_law_r25 _ (List.mem_of_getElem? (i := 19) rfl)
theorem wd_596 : Cond.constantLong RX5 134 (30) ∈ wsL_law := iwsL_law_r25 _ (List.mem_of_getElem? (i := 20) rfl)
theorem wd_597 : Cond.methodLink RX5 136 yX5_layHand ∈ wsL_law := iwsL_law_r25 _ (List.mem_of_getElem? (i := 21) rfl)
theorem wd_598 : Cond.instanceMethod yX5_layHand ∈ wsL_law := iwsL_law_r25 _ (List.mem_of_getElem? (i := 22) rfl)
theorem wd_599 : Cond.selects RX5 yX5_layHand yX5_layHand ∈ wsL_law := iwsL_law_r25 _ (List.mem_of_getElem? (i := 23) rfl)
theorem wd_600 : Cond.code yX5_layHand cX5_layHand 2 none ∈ wsL_law := iwsL_law_r26 _ (List.mem_of_getElem? (i := 0) rfl)
theorem wd_601 : Cond.methodLink RX5 139 yX5_goQuiet ∈ wsL_law := iwsL_law_r26 _ (List.mem_of_getElem? (i := 1) rfl)
theorem wd_602 : Cond.instanceMethod yX5_goQuiet ∈ wsL_law := iwsL_law_r26 _ (List.mem_of_getElem? (i := 2) rfl)
theorem wd_603 : Cond.selects RX5 yX5_goQuiet yX5_goQuiet ∈ wsL_law := iwsL_law_r26 _ (List.mem_of_getElem? (i := 3) rfl)
theorem wd_604 : Cond.code yX5_goQuiet cX5_goQuiet 4 (some .int) ∈ wsL_law := iwsL_law_r26 _ (List.mem_of_getElem? (i := 4) rfl)
theorem wd_605 : Cond.methodLink RL 69 yX4_goes ∈ wsL_law := iwsL_law_r26 _ (List.mem_of_getElem? (i := 5) rfl)
theorem wd_606 : Cond.instanceMethod yX4_goes ∈ wsL_law := iwsL_law_r26 _ (List.mem_of_getElem? (i := 6) rfl)
theorem wd_607 : Cond.selects RX4 yX4_goes yX4_goes ∈ wsL_law := iwsL_law_r26 _ (List.mem_of_getElem? (i := 7) rfl)
theorem wd_608 : Cond.code yX4_goes cX4_goes 4 (some .int) ∈ wsL_law := iwsL_law_r26 _ (List.mem_of_getElem? (i := 8) rfl)
theorem wd_609 : Cond.fieldLink RX4 172 "SlateHills$Land" "wentOff" "I" ∈ wsL_law := iwsL_law_r26 _ (List.mem_of_getElem? (i := 9) rfl)
theorem wd_610 : Cond.methodLink RX4 175 yX4_holds ∈ wsL_law := iwsL_law_r26 _ (List.mem_of_getElem? (i := 10) rfl)
theorem wd_611 : Cond.methodLink RL 72 yX5_goes ∈ wsL_law := iwsL_law_r26 _ (List.mem_of_getElem? (i := 11) rfl)
theorem wd_612 : Cond.instanceMethod yX5_goes ∈ wsL_law := iwsL_law_r26 _ (List.mem_of_getElem? (i := 12) rfl)
theorem wd_613 : Cond.selects RX5 yX5_goes yX5_goes ∈ wsL_law := iwsL_law_r26 _ (List.mem_of_getElem? (i := 13) rfl)
theorem wd_614 : Cond.code yX5_goes cX5_goes 4 (some .int) ∈ wsL_law := iwsL_law_r26 _ (List.mem_of_getElem? (i := 14) rfl)
theorem wd_615 : Cond.methodLink RL 73 yX4_lost ∈ wsL_law := iwsL_law_r26 _ (List.mem_of_getElem? (i := 15) rfl)
theorem wd_616 : Cond.instanceMethod yX4_lost ∈ wsL_law := iwsL_law_r26 _ (List.mem_of_getElem? (i := 16) rfl)
theorem wd_617 : Cond.selects RX4 yX4_lost yX4_lost ∈ wsL_law := iwsL_law_r26 _ (List.mem_of_getElem? (i := 17) rfl)
theorem wd_618 : Cond.code yX4_lost cX4_lost 2 (some .int) ∈ wsL_law := iwsL_law_r26 _ (List.mem_of_getElem? (i := 18) rfl)
theorem wd_619 : Cond.methodLink RL 76 yX5_lost ∈ wsL_law := iwsL_law_r26 _ (List.mem_of_getElem? (i := 19) rfl)
theorem wd_620 : Cond.instanceMethod yX5_lost ∈ wsL_law := iwsL_law_r26 _ (List.mem_of_getElem? (i := 20) rfl)
theorem wd_621 : Cond.selects RX5 yX5_lost yX5_lost ∈ wsL_law := iwsL_law_r26 _ (List.mem_of_getElem? (i := 21) rfl)
theorem wd_622 : Cond.code yX5_lost cX5_lost 2 (some .int) ∈ wsL_law := iwsL_law_r26 _ (List.mem_of_getElem? (i := 22) rfl)
theorem wd_623 : Cond.methodLink RL 77 yX4_chain ∈ wsL_law := iwsL_law_r26 _ (List.mem_of_getElem? (i := 23) rfl)
theorem wd_624 : Cond.instanceMethod yX4_chain ∈ wsL_law := iwsL_law_r27 _ (List.mem_of_getElem? (i := 0) rfl)
theorem wd_625 : Cond.selects RX4 yX4_chain yX4_chain ∈ wsL_law := iwsL_law_r27 _ (List.mem_of_getElem? (i := 1) rfl)
theorem wd_626 : Cond.code yX4_chain cX4_chain 3 (some .int) ∈ wsL_law := iwsL_law_r27 _ (List.mem_of_getElem? (i := 2) rfl)
theorem wd_627 : Cond.methodLink RX4 179 yX0_settle ∈ wsL_law := iwsL_law_r27 _ (List.mem_of_getElem? (i := 3) rfl)
theorem wd_628 : Cond.methodLink RL 80 yX5_chain ∈ wsL_law := iwsL_law_r27 _ (List.mem_of_getElem? (i := 4) rfl)
theorem wd_629 : Cond.instanceMethod yX5_chain ∈ wsL_law := iwsL_law_r27 _ (List.mem_of_getElem? (i := 5) rfl)
theorem wd_630 : Cond.selects RX5 yX5_chain yX5_chain ∈ wsL_law := iwsL_law_r27 _ (List.mem_of_getElem? (i := 6) rfl)
theorem wd_631 : Cond.code yX5_chain cX5_chain 3 (some .int) ∈ wsL_law := iwsL_law_r27 _ (List.mem_of_getElem? (i := 7) rfl)
theorem wd_632 : Cond.methodLink RL 81 yX4_plan ∈ wsL_law := iwsL_law_r27 _ (List.mem_of_getElem? (i := 8) rfl)
theorem wd_633 : Cond.instanceMethod yX4_plan ∈ wsL_law := iwsL_law_r27 _ (List.mem_of_getElem? (i := 9) rfl)
theorem wd_634 : Cond.selects RX4 yX4_plan yX4_plan ∈ wsL_law := iwsL_law_r27 _ (List.mem_of_getElem? (i := 10) rfl)
theorem wd_635 : Cond.code yX4_plan cX4_plan 4 (some .int) ∈ wsL_law := iwsL_law_r27 _ (List.mem_of_getElem? (i := 11) rfl)
theorem wd_636 : Cond.fieldLink RX4 187 "SlateHills$Outlook" "fewest" "I" ∈ wsL_law := iwsL_law_r27 _ (List.mem_of_getElem? (i := 12) rfl)
theorem wd_637 : Cond.fieldLink RX4 190 "SlateHills$Outlook" "best" "[I" ∈ wsL_law := iwsL_law_r27 _ (List.mem_of_getElem? (i := 13) rfl)
theorem wd_638 : Cond.methodLink RX4 183 yX1_findPlan ∈ wsL_law := iwsL_law_r27 _ (List.mem_of_getElem? (i := 14) rfl)
theorem wd_639 : Cond.instanceMethod yX1_findPlan ∈ wsL_law := iwsL_law_r27 _ (List.mem_of_getElem? (i := 15) rfl)
theorem wd_640 : Cond.selects RX1 yX1_findPlan yX1_findPlan ∈ wsL_law := iwsL_law_r27 _ (List.mem_of_getElem? (i := 16) rfl)
theorem wd_641 : Cond.code yX1_findPlan cX1_findPlan 3 none ∈ wsL_law := iwsL_law_r27 _ (List.mem_of_getElem? (i := 17) rfl)
theorem wd_642 : Cond.constant RX1 49 (1000000) ∈ wsL_law := iwsL_law_r27 _ (List.mem_of_getElem? (i := 18) rfl)
theorem wd_643 : Cond.methodLink RX1 45 yX1_startAllFrom ∈ wsL_law := iwsL_law_r27 _ (List.mem_of_getElem? (i := 19) rfl)
theorem wd_644 : Cond.instanceMethod yX1_startAllFrom ∈ wsL_law := iwsL_law_r27 _ (List.mem_of_getElem? (i := 20) rfl)
theorem wd_645 : Cond.selects RX1 yX1_startAllFrom yX1_startAllFrom ∈ wsL_law := iwsL_law_r27 _ (List.mem_of_getElem? (i := 21) rfl)
theorem wd_646 : Cond.code yX1_startAllFrom cX1_startAllFrom 4 none ∈ wsL_law := iwsL_law_r27 _ (List.mem_of_getElem? (i := 22) rfl)
theorem wd_647 : Cond.methodLink RX1 39 Lib.Math.min.name ∈ wsL_law := iwsL_law_r27 _ (List.mem_of_getElem? (i := 23) rfl)
theorem wd_648 : Cond.methodLink RX1 50 yX1_tryRows ∈ wsL_law := iwsL_law_r28 _ (List.mem_of_getElem? (i := 0) rfl)
theorem wd_649 : Cond.instanceMethod yX1_tryRows ∈ wsL_law := iwsL_law_r28 _ (List.mem_of_getElem? (i := 1) rfl)
theorem wd_650 : Cond.selects RX1 yX1_tryRows yX1_tryRows ∈ wsL_law := iwsL_law_r28 _ (List.mem_of_getElem? (i := 2) rfl)
theorem wd_651 : Cond.code yX1_tryRows cX1_tryRows 6 none ∈ wsL_law := iwsL_law_r28 _ (List.mem_of_getElem? (i := 3) rfl)
theorem wd_652 : Cond.methodLink RX1 54 yX0_allSizes ∈ wsL_law := iwsL_law_r28 _ (List.mem_of_getElem? (i := 4) rfl)
theorem wd_653 : Cond.instanceMethod yX0_allSizes ∈ wsL_law := iwsL_law_r28 _ (List.mem_of_getElem? (i := 5) rfl)
theorem wd_654 : Cond.selects RX0 yX0_allSizes yX0_allSizes ∈ wsL_law := iwsL_law_r28 _ (List.mem_of_getElem? (i := 6) rfl)
theorem wd_655 : Cond.code yX0_allSizes cX0_allSizes 3 (some .int) ∈ wsL_law := iwsL_law_r28 _ (List.mem_of_getElem? (i := 7) rfl)
theorem wd_656 : Cond.methodLink RX1 58 yX1_keepIfBetter ∈ wsL_law := iwsL_law_r28 _ (List.mem_of_getElem? (i := 8) rfl)
theorem wd_657 : Cond.instanceMethod yX1_keepIfBetter ∈ wsL_law := iwsL_law_r28 _ (List.mem_of_getElem? (i := 9) rfl)
theorem wd_658 : Cond.selects RX1 yX1_keepIfBetter yX1_keepIfBetter ∈ wsL_law := iwsL_law_r28 _ (List.mem_of_getElem? (i := 10) rfl)
theorem wd_659 : Cond.code yX1_keepIfBetter cX1_keepIfBetter 3 none ∈ wsL_law := iwsL_law_r28 _ (List.mem_of_getElem? (i := 11) rfl)
theorem wd_660 : Cond.methodLink RX1 72 arraycopyName ∈ wsL_law := iwsL_law_r28 _ (List.mem_of_getElem? (i := 12) rfl)
theorem wd_661 : Cond.methodLink RX1 61 yX0_mayVisit ∈ wsL_law := iwsL_law_r28 _ (List.mem_of_getElem? (i := 13) rfl)
theorem wd_662 : Cond.methodLink RX1 65 yX0_copyDaysFrom ∈ wsL_law := iwsL_law_r28 _ (List.mem_of_getElem? (i := 14) rfl)
theorem wd_663 : Cond.methodLink RX1 68 yX0_pass ∈ wsL_law := iwsL_law_r28 _ (List.mem_of_getElem? (i := 15) rfl)
theorem wd_664 : Cond.methodLink RL 84 yX5_plan ∈ wsL_law := iwsL_law_r28 _ (List.mem_of_getElem? (i := 16) rfl)
theorem wd_665 : Cond.instanceMethod yX5_plan ∈ wsL_law := iwsL_law_r28 _ (List.mem_of_getElem? (i := 17) rfl)
theorem wd_666 : Cond.selects RX5 yX5_plan yX5_plan ∈ wsL_law := iwsL_law_r28 _ (List.mem_of_getElem? (i := 18) rfl)
theorem wd_667 : Cond.code yX5_plan cX5_plan 11 (some .int) ∈ wsL_law := iwsL_law_r28 _ (List.mem_of_getElem? (i := 19) rfl)
theorem wd_668 : Cond.constant RX5 142 (1000000) ∈ wsL_law := iwsL_law_r28 _ (List.mem_of_getElem? (i := 20) rfl)
theorem wd_669 : Cond.methodLink RX5 143 yX5_power ∈ wsL_law := iwsL_law_r28 _ (List.mem_of_getElem? (i := 21) rfl)
theorem wd_670 : Cond.static yX5_power ∈ wsL_law := iwsL_law_r28 _ (List.mem_of_getElem? (i := 22) rfl)
theorem wd_671 : Cond.code yX5_power cX5_power 4 (some .int) ∈ wsL_law := iwsL_law_r28 _ (List.mem_of_getElem? (i := 23) rfl)
theorem wd_672 : Cond.methodLink RX5 146 yX5_sizes ∈ wsL_law := iwsL_law_r29 _ (List.mem_of_getElem? (i := 0) rfl)
theorem wd_673 : Cond.static yX5_sizes ∈ wsL_law := iwsL_law_r29 _ (List.mem_of_getElem? (i := 1) rfl)
theorem wd_674 : Cond.code yX5_sizes cX5_sizes 3 (some .int) ∈ wsL_law := iwsL_law_r29 _ (List.mem_of_getElem? (i := 2) rfl)
theorem wd_675 : Cond.methodLink RL 85 yX4_askFirst ∈ wsL_law := iwsL_law_r29 _ (List.mem_of_getElem? (i := 3) rfl)
theorem wd_676 : Cond.instanceMethod yX4_askFirst ∈ wsL_law := iwsL_law_r29 _ (List.mem_of_getElem? (i := 4) rfl)
theorem wd_677 : Cond.selects RX4 yX4_askFirst yX4_askFirst ∈ wsL_law := iwsL_law_r29 _ (List.mem_of_getElem? (i := 5) rfl)
theorem wd_678 : Cond.code yX4_askFirst cX4_askFirst 8 (some .int) ∈ wsL_law := iwsL_law_r29 _ (List.mem_of_getElem? (i := 6) rfl)
theorem wd_679 : Cond.methodLink RL 88 yX5_askFirst ∈ wsL_law := iwsL_law_r29 _ (List.mem_of_getElem? (i := 7) rfl)
theorem wd_680 : Cond.instanceMethod yX5_askFirst ∈ wsL_law := iwsL_law_r29 _ (List.mem_of_getElem? (i := 8) rfl)
theorem wd_681 : Cond.selects RX5 yX5_askFirst yX5_askFirst ∈ wsL_law := iwsL_law_r29 _ (List.mem_of_getElem? (i := 9) rfl)
theorem wd_682 : Cond.code yX5_askFirst cX5_askFirst 7 (some .int) ∈ wsL_law := iwsL_law_r29 _ (List.mem_of_getElem? (i := 10) rfl)
theorem wd_683 : Cond.methodLink RL 89 yX4_calm ∈ wsL_law := iwsL_law_r29 _ (List.mem_of_getElem? (i := 11) rfl)
theorem wd_684 : Cond.instanceMethod yX4_calm ∈ wsL_law := iwsL_law_r29 _ (List.mem_of_getElem? (i := 12) rfl)
theorem wd_685 : Cond.selects RX4 yX4_calm yX4_calm ∈ wsL_law := iwsL_law_r29 _ (List.mem_of_getElem? (i := 13) rfl)
theorem wd_686 : Cond.code yX4_calm cX4_calm 8 (some .int) ∈ wsL_law := iwsL_law_r29 _ (List.mem_of_getElem? (i := 14) rfl)
theorem wd_687 : Cond.methodLink RX4 193 yX0_passWithTallest ∈ wsL_law := iwsL_law_r29 _ (List.mem_of_getElem? (i := 15) rfl)
theorem wd_688 : Cond.instanceMethod yX0_passWithTallest ∈ wsL_law := iwsL_law_r29 _ (List.mem_of_getElem? (i := 16) rfl)
theorem wd_689 : Cond.selects RX0 yX0_passWithTallest yX0_passWithTallest ∈ wsL_law := iwsL_law_r29 _ (List.mem_of_getElem? (i := 17) rfl)
theorem wd_690 : Cond.code yX0_passWithTallest cX0_passWithTallest 4 (some .int) ∈ wsL_law := iwsL_law_r29 _ (List.mem_of_getElem? (i := 18) rfl)
theorem wd_691 : Cond.methodLink RX0 85 yX0_tallest ∈ wsL_law := iwsL_law_r29 _ (List.mem_of_getElem? (i := 19) rfl)
theorem wd_692 : Cond.instanceMethod yX0_tallest ∈ wsL_law := iwsL_law_r29 _ (List.mem_of_getElem? (i := 20) rfl)
theorem wd_693 : Cond.selects RX0 yX0_tallest yX0_tallest ∈ wsL_law := iwsL_law_r29 _ (List.mem_of_getElem? (i := 21) rfl)
theorem wd_694 : Cond.code yX0_tallest cX0_tallest 4 (some .int) ∈ wsL_law := iwsL_law_r29 _ (List.mem_of_getElem? (i := 22) rfl)
theorem wd_695 : Cond.methodLink RL 92 yX5_calm ∈ wsL_law := iwsL_law_r29 _ (List.mem_of_getElem? (i := 23) rfl)
theorem wd_696 : Cond.instanceMethod yX5_calm ∈ wsL_law := iwsL_law_r30 _ (List.mem_of_getElem? (i := 0) rfl)
theorem wd_697 : Cond.selects RX5 yX5_calm yX5_calm ∈ wsL_law := iwsL_law_r30 _ (List.mem_of_getElem? (i := 1) rfl)
theorem wd_698 : Cond.code yX5_calm cX5_calm 8 (some .int) ∈ wsL_law := iwsL_law_r30 _ (List.mem_of_getElem? (i := 2) rfl)
theorem wd_699 : Cond.methodLink RX5 149 yX5_highest ∈ wsL_law := iwsL_law_r30 _ (List.mem_of_getElem? (i := 3) rfl)
theorem wd_700 : Cond.static yX5_highest ∈ wsL_law := iwsL_law_r30 _ (List.mem_of_getElem? (i := 4) rfl)
theorem wd_701 : Cond.code yX5_highest cX5_highest 3 (some .int) ∈ wsL_law := iwsL_law_r30 _ (List.mem_of_getElem? (i := 5) rfl)
theorem wd_702 : Cond.methodLink RL 93 yX4_seen ∈ wsL_law := iwsL_law_r30 _ (List.mem_of_getElem? (i := 6) rfl)
theorem wd_703 : Cond.instanceMethod yX4_seen ∈ wsL_law := iwsL_law_r30 _ (List.mem_of_getElem? (i := 7) rfl)
theorem wd_704 : Cond.selects RX4 yX4_seen yX4_seen ∈ wsL_law := iwsL_law_r30 _ (List.mem_of_getElem? (i := 8) rfl)
theorem wd_705 : Cond.code yX4_seen cX4_seen 5 (some .int) ∈ wsL_law := iwsL_law_r30 _ (List.mem_of_getElem? (i := 9) rfl)
theorem wd_706 : Cond.fieldLink RX4 196 "SlateHills$State" "seenCount" "I" ∈ wsL_law := iwsL_law_r30 _ (List.mem_of_getElem? (i := 10) rfl)
theorem wd_707 : Cond.methodLink RX4 199 yX3_addSeen ∈ wsL_law := iwsL_law_r30 _ (List.mem_of_getElem? (i := 11) rfl)
theorem wd_708 : Cond.instanceMethod yX3_addSeen ∈ wsL_law := iwsL_law_r30 _ (List.mem_of_getElem? (i := 12) rfl)
theorem wd_709 : Cond.selects RX3 yX3_addSeen yX3_addSeen ∈ wsL_law := iwsL_law_r30 _ (List.mem_of_getElem? (i := 13) rfl)
theorem wd_710 : Cond.code yX3_addSeen cX3_addSeen 6 none ∈ wsL_law := iwsL_law_r30 _ (List.mem_of_getElem? (i := 14) rfl)
theorem wd_711 : Cond.methodLink RL 97 yX5_seen ∈ wsL_law := iwsL_law_r30 _ (List.mem_of_getElem? (i := 15) rfl)
theorem wd_712 : Cond.instanceMethod yX5_seen ∈ wsL_law := iwsL_law_r30 _ (List.mem_of_getElem? (i := 16) rfl)
theorem wd_713 : Cond.selects RX5 yX5_seen yX5_seen ∈ wsL_law := iwsL_law_r30 _ (List.mem_of_getElem? (i := 17) rfl)
theorem wd_714 : Cond.code yX5_seen cX5_seen 6 (some .int) ∈ wsL_law := iwsL_law_r30 _ (List.mem_of_getElem? (i := 18) rfl)
theorem wd_715 : Cond.constantLong RX5 152 (99) ∈ wsL_law := iwsL_law_r30 _ (List.mem_of_getElem? (i := 19) rfl)
theorem wd_716 : Cond.methodLink RL 98 yX4_which ∈ wsL_law := iwsL_law_r30 _ (List.mem_of_getElem? (i := 20) rfl)
theorem wd_717 : Cond.instanceMethod yX4_which ∈ wsL_law := iwsL_law_r30 _ (List.mem_of_getElem? (i := 21) rfl)
theorem wd_718 : Cond.selects RX4 yX4_which yX4_which ∈ wsL_law := iwsL_law_r30 _ (List.mem_of_getElem? (i := 22) rfl)
theorem wd_719 : Cond.code yX4_which cX4_which 2 (some .int) ∈ wsL_law := iwsL_law_r30 _ (List.mem_of_getElem? (i := 23) rfl)
theorem wd_720 : Cond.methodLink RX4 203 yX3_matterKindsOf ∈ wsL_law := iwsL_law_r31 _ (List.mem_of_getElem? (i := 0) rfl)
theorem wd_721 : Cond.instanceMethod yX3_matterKindsOf ∈ wsL_law := iwsL_law_r31 _ (List.mem_of_getElem? (i := 1) rfl)
theorem wd_722 : Cond.selects RX3 yX3_matterKindsOf yX3_matterKindsOf ∈ wsL_law := iwsL_law_r31 _ (List.mem_of_getElem? (i := 2) rfl)
theorem wd_723 : Cond.code yX3_matterKindsOf cX3_matterKindsOf 4 (some .int) ∈ wsL_law := iwsL_law_r31 _ (List.mem_of_getElem? (i := 3) rfl)
theorem wd_724 : Cond.methodLink RX3 77 yX3_matterFits ∈ wsL_law := iwsL_law_r31 _ (List.mem_of_getElem? (i := 4) rfl)
theorem wd_725 : Cond.instanceMethod yX3_matterFits ∈ wsL_law := iwsL_law_r31 _ (List.mem_of_getElem? (i := 5) rfl)
theorem wd_726 : Cond.selects RX3 yX3_matterFits yX3_matterFits ∈ wsL_law := iwsL_law_r31 _ (List.mem_of_getElem? (i := 6) rfl)
theorem wd_727 : Cond.code yX3_matterFits cX3_matterFits 7 (some .boolean) ∈ wsL_law := iwsL_law_r31 _ (List.mem_of_getElem? (i := 7) rfl)
theorem wd_728 : Cond.methodLink RL 101 yX5_which ∈ wsL_law := iwsL_law_r31 _ (List.mem_of_getElem? (i := 8) rfl)
theorem wd_729 : Cond.instanceMethod yX5_which ∈ wsL_law := iwsL_law_r31 _ (List.mem_of_getElem? (i := 9) rfl)
theorem wd_730 : Cond.selects RX5 yX5_which yX5_which ∈ wsL_law := iwsL_law_r31 _ (List.mem_of_getElem? (i := 10) rfl)
theorem wd_731 : Cond.code yX5_which cX5_which 2 (some .int) ∈ wsL_law := iwsL_law_r31 _ (List.mem_of_getElem? (i := 11) rfl)
theorem wd_732 : Cond.methodLink RX5 154 yX5_kindsOfHill ∈ wsL_law := iwsL_law_r31 _ (List.mem_of_getElem? (i := 12) rfl)
theorem wd_733 : Cond.instanceMethod yX5_kindsOfHill ∈ wsL_law := iwsL_law_r31 _ (List.mem_of_getElem? (i := 13) rfl)
theorem wd_734 : Cond.selects RX5 yX5_kindsOfHill yX5_kindsOfHill ∈ wsL_law := iwsL_law_r31 _ (List.mem_of_getElem? (i := 14) rfl)
theorem wd_735 : Cond.code yX5_kindsOfHill cX5_kindsOfHill 7 (some .int) ∈ wsL_law := iwsL_law_r31 _ (List.mem_of_getElem? (i := 15) rfl)
theorem wd_736 : Cond.methodLink RL 102 yX4_next ∈ wsL_law := iwsL_law_r31 _ (List.mem_of_getElem? (i := 16) rfl)
theorem wd_737 : Cond.instanceMethod yX4_next ∈ wsL_law := iwsL_law_r31 _ (List.mem_of_getElem? (i := 17) rfl)
theorem wd_738 : Cond.selects RX4 yX4_next yX4_next ∈ wsL_law := iwsL_law_r31 _ (List.mem_of_getElem? (i := 18) rfl)
theorem wd_739 : Cond.code yX4_next cX4_next 2 (some .int) ∈ wsL_law := iwsL_law_r31 _ (List.mem_of_getElem? (i := 19) rfl)
theorem wd_740 : Cond.methodLink RX4 206 yX4_clearest ∈ wsL_law := iwsL_law_r31 _ (List.mem_of_getElem? (i := 20) rfl)
theorem wd_741 : Cond.instanceMethod yX4_clearest ∈ wsL_law := iwsL_law_r31 _ (List.mem_of_getElem? (i := 21) rfl)
theorem wd_742 : Cond.selects RX4 yX4_clearest yX4_clearest ∈ wsL_law := iwsL_law_r31 _ (List.mem_of_getElem? (i := 22) rfl)
theorem wd_743 : Cond.code yX4_clearest cX4_clearest 11 (some .int) ∈ wsL_law := iwsL_law_r31 _ (List.mem_of_getElem? (i := 23) rfl)
theorem wd_744 : Cond.methodLink RX4 301 yX4_fillAmounts ∈ wsL_law := iwsL_law_r32 _ (List.mem_of_getElem? (i := 0) rfl)
theorem wd_745 : Cond.instanceMethod yX4_fillAmounts ∈ wsL_law := iwsL_law_r32 _ (List.mem_of_getElem? (i := 1) rfl)
theorem wd_746 : Cond.selects RX4 yX4_fillAmounts yX4_fillAmounts ∈ wsL_law := iwsL_law_r32 _ (List.mem_of_getElem? (i := 2) rfl)
theorem wd_747 : Cond.code yX4_fillAmounts cX4_fillAmounts 5 none ∈ wsL_law := iwsL_law_r32 _ (List.mem_of_getElem? (i := 3) rfl)
theorem wd_748 : Cond.methodLink RX4 305 yX4_mostAlike ∈ wsL_law := iwsL_law_r32 _ (List.mem_of_getElem? (i := 4) rfl)
theorem wd_749 : Cond.instanceMethod yX4_mostAlike ∈ wsL_law := iwsL_law_r32 _ (List.mem_of_getElem? (i := 5) rfl)
theorem wd_750 : Cond.selects RX4 yX4_mostAlike yX4_mostAlike ∈ wsL_law := iwsL_law_r32 _ (List.mem_of_getElem? (i := 6) rfl)
theorem wd_751 : Cond.code yX4_mostAlike cX4_mostAlike 6 (some .int) ∈ wsL_law := iwsL_law_r32 _ (List.mem_of_getElem? (i := 7) rfl)
theorem wd_752 : Cond.methodLink RL 105 yX5_next ∈ wsL_law := iwsL_law_r32 _ (List.mem_of_getElem? (i := 8) rfl)
theorem wd_753 : Cond.instanceMethod yX5_next ∈ wsL_law := iwsL_law_r32 _ (List.mem_of_getElem? (i := 9) rfl)
theorem wd_754 : Cond.selects RX5 yX5_next yX5_next ∈ wsL_law := iwsL_law_r32 _ (List.mem_of_getElem? (i := 10) rfl)
theorem wd_755 : Cond.code yX5_next cX5_next 2 (some .int) ∈ wsL_law := iwsL_law_r32 _ (List.mem_of_getElem? (i := 11) rfl)
theorem wd_756 : Cond.methodLink RX5 160 yX5_bestLook ∈ wsL_law := iwsL_law_r32 _ (List.mem_of_getElem? (i := 12) rfl)
theorem wd_757 : Cond.instanceMethod yX5_bestLook ∈ wsL_law := iwsL_law_r32 _ (List.mem_of_getElem? (i := 13) rfl)
theorem wd_758 : Cond.selects RX5 yX5_bestLook yX5_bestLook ∈ wsL_law := iwsL_law_r32 _ (List.mem_of_getElem? (i := 14) rfl)
theorem wd_759 : Cond.code yX5_bestLook cX5_bestLook 10 (some .int) ∈ wsL_law := iwsL_law_r32 _ (List.mem_of_getElem? (i := 15) rfl)
theorem wd_760 : Cond.methodLink RX5 157 yX5_mostAlike ∈ wsL_law := iwsL_law_r32 _ (List.mem_of_getElem? (i := 16) rfl)
theorem wd_761 : Cond.instanceMethod yX5_mostAlike ∈ wsL_law := iwsL_law_r32 _ (List.mem_of_getElem? (i := 17) rfl)
theorem wd_762 : Cond.selects RX5 yX5_mostAlike yX5_mostAlike ∈ wsL_law := iwsL_law_r32 _ (List.mem_of_getElem? (i := 18) rfl)
theorem wd_763 : Cond.code yX5_mostAlike cX5_mostAlike 6 (some .int) ∈ wsL_law := iwsL_law_r32 _ (List.mem_of_getElem? (i := 19) rfl)
theorem wd_764 : Cond.methodLink RL 106 yX4_mark ∈ wsL_law := iwsL_law_r32 _ (List.mem_of_getElem? (i := 20) rfl)
theorem wd_765 : Cond.instanceMethod yX4_mark ∈ wsL_law := iwsL_law_r32 _ (List.mem_of_getElem? (i := 21) rfl)
theorem wd_766 : Cond.selects RX4 yX4_mark yX4_mark ∈ wsL_law := iwsL_law_r32 _ (List.mem_of_getElem? (i := 22) rfl)
theorem wd_767 : Cond.code yX4_mark cX4_mark 4 (some .int) ∈ wsL_law := iwsL_law_r32 _ (List.mem_of_getElem? (i := 23) rfl)
theorem wd_768 : Cond.fieldLink RX4 210 "SlateHills$State" "markCount" "I" ∈ wsL_law := iwsL_law_r33 _ (List.mem_of_getElem? (i := 0) rfl)
theorem wd_769 : Cond.methodLink RX4 213 yX3_addMark ∈ wsL_law := iwsL_law_r33 _ (List.mem_of_getElem? (i := 1) rfl)
theorem wd_770 : Cond.instanceMethod yX3_addMark ∈ wsL_law := iwsL_law_r33 _ (List.mem_of_getElem? (i := 2) rfl)
theorem wd_771 : Cond.selects RX3 yX3_addMark yX3_addMark ∈ wsL_law := iwsL_law_r33 _ (List.mem_of_getElem? (i := 3) rfl)
theorem wd_772 : Cond.code yX3_addMark cX3_addMark 5 none ∈ wsL_law := iwsL_law_r33 _ (List.mem_of_getElem? (i := 4) rfl)
theorem wd_773 : Cond.methodLink RL 109 yX5_mark ∈ wsL_law := iwsL_law_r33 _ (List.mem_of_getElem? (i := 5) rfl)
theorem wd_774 : Cond.instanceMethod yX5_mark ∈ wsL_law := iwsL_law_r33 _ (List.mem_of_getElem? (i := 6) rfl)
theorem wd_775 : Cond.selects RX5 yX5_mark yX5_mark ∈ wsL_law := iwsL_law_r33 _ (List.mem_of_getElem? (i := 7) rfl)
theorem wd_776 : Cond.code yX5_mark cX5_mark 5 (some .int) ∈ wsL_law := iwsL_law_r33 _ (List.mem_of_getElem? (i := 8) rfl)
theorem wd_777 : Cond.constantLong RX5 164 (40) ∈ wsL_law := iwsL_law_r33 _ (List.mem_of_getElem? (i := 9) rfl)
theorem wd_778 : Cond.methodLink RL 110 yX4_forget ∈ wsL_law := iwsL_law_r33 _ (List.mem_of_getElem? (i := 10) rfl)
theorem wd_779 : Cond.instanceMethod yX4_forget ∈ wsL_law := iwsL_law_r33 _ (List.mem_of_getElem? (i := 11) rfl)
theorem wd_780 : Cond.selects RX4 yX4_forget yX4_forget ∈ wsL_law := iwsL_law_r33 _ (List.mem_of_getElem? (i := 12) rfl)
theorem wd_781 : Cond.code yX4_forget cX4_forget 3 (some .int) ∈ wsL_law := iwsL_law_r33 _ (List.mem_of_getElem? (i := 13) rfl)
theorem wd_782 : Cond.methodLink RL 113 yX5_forget ∈ wsL_law := iwsL_law_r33 _ (List.mem_of_getElem? (i := 14) rfl)
theorem wd_783 : Cond.instanceMethod yX5_forget ∈ wsL_law := iwsL_law_r33 _ (List.mem_of_getElem? (i := 15) rfl)
theorem wd_784 : Cond.selects RX5 yX5_forget yX5_forget ∈ wsL_law := iwsL_law_r33 _ (List.mem_of_getElem? (i := 16) rfl)
theorem wd_785 : Cond.code yX5_forget cX5_forget 3 (some .int) ∈ wsL_law := iwsL_law_r33 _ (List.mem_of_getElem? (i := 17) rfl)
theorem wd_786 : Cond.methodLink RL 114 yX4_kinds ∈ wsL_law := iwsL_law_r33 _ (List.mem_of_getElem? (i := 18) rfl)
theorem wd_787 : Cond.instanceMethod yX4_kinds ∈ wsL_law := iwsL_law_r33 _ (List.mem_of_getElem? (i := 19) rfl)
theorem wd_788 : Cond.selects RX4 yX4_kinds yX4_kinds ∈ wsL_law := iwsL_law_r33 _ (List.mem_of_getElem? (i := 20) rfl)
theorem wd_789 : Cond.code yX4_kinds cX4_kinds 1 (some .int) ∈ wsL_law := iwsL_law_r33 _ (List.mem_of_getElem? (i := 21) rfl)
theorem wd_790 : Cond.methodLink RX4 216 yX3_clerkKinds ∈ wsL_law := iwsL_law_r33 _ (List.mem_of_getElem? (i := 22) rfl)
theorem wd_791 : Cond.instanceMethod yX3_clerkKinds ∈ wsL_law := iwsL_law_r33 _ (List.mem_of_getElem? (i := 23) rfl)
theorem wd_792 : Cond.selects RX3 yX3_clerkKinds yX3_clerkKinds ∈ wsL_law := iwsL_law_r34 _ (List.mem_of_getElem? (i := 0) rfl)
theorem wd_793 : Cond.code yX3_clerkKinds cX3_clerkKinds 3 (some .int) ∈ wsL_law := iwsL_law_r34 _ (List.mem_of_getElem? (i := 1) rfl)
theorem wd_794 : Cond.methodLink RX3 85 yX3_clerkFits ∈ wsL_law := iwsL_law_r34 _ (List.mem_of_getElem? (i := 2) rfl)
theorem wd_795 : Cond.instanceMethod yX3_clerkFits ∈ wsL_law := iwsL_law_r34 _ (List.mem_of_getElem? (i := 3) rfl)
theorem wd_796 : Cond.selects RX3 yX3_clerkFits yX3_clerkFits ∈ wsL_law := iwsL_law_r34 _ (List.mem_of_getElem? (i := 4) rfl)
theorem wd_797 : Cond.code yX3_clerkFits cX3_clerkFits 4 (some .boolean) ∈ wsL_law := iwsL_law_r34 _ (List.mem_of_getElem? (i := 5) rfl)
theorem wd_798 : Cond.methodLink RL 117 yX5_kinds ∈ wsL_law := iwsL_law_r34 _ (List.mem_of_getElem? (i := 6) rfl)
theorem wd_799 : Cond.instanceMethod yX5_kinds ∈ wsL_law := iwsL_law_r34 _ (List.mem_of_getElem? (i := 7) rfl)
theorem wd_800 : Cond.selects RX5 yX5_kinds yX5_kinds ∈ wsL_law := iwsL_law_r34 _ (List.mem_of_getElem? (i := 8) rfl)
theorem wd_801 : Cond.code yX5_kinds cX5_kinds 6 (some .int) ∈ wsL_law := iwsL_law_r34 _ (List.mem_of_getElem? (i := 9) rfl)
theorem wd_802 : Cond.methodLink RL 118 yX4_look ∈ wsL_law := iwsL_law_r34 _ (List.mem_of_getElem? (i := 10) rfl)
theorem wd_803 : Cond.instanceMethod yX4_look ∈ wsL_law := iwsL_law_r34 _ (List.mem_of_getElem? (i := 11) rfl)
theorem wd_804 : Cond.selects RX4 yX4_look yX4_look ∈ wsL_law := iwsL_law_r34 _ (List.mem_of_getElem? (i := 12) rfl)
theorem wd_805 : Cond.code yX4_look cX4_look 1 (some .int) ∈ wsL_law := iwsL_law_r34 _ (List.mem_of_getElem? (i := 13) rfl)
theorem wd_806 : Cond.methodLink RL 121 yX5_look ∈ wsL_law := iwsL_law_r34 _ (List.mem_of_getElem? (i := 14) rfl)
theorem wd_807 : Cond.instanceMethod yX5_look ∈ wsL_law := iwsL_law_r34 _ (List.mem_of_getElem? (i := 15) rfl)
theorem wd_808 : Cond.selects RX5 yX5_look yX5_look ∈ wsL_law := iwsL_law_r34 _ (List.mem_of_getElem? (i := 16) rfl)
theorem wd_809 : Cond.code yX5_look cX5_look 1 (some .int) ∈ wsL_law := iwsL_law_r34 _ (List.mem_of_getElem? (i := 17) rfl)
theorem wd_810 : Cond.methodLink RX5 166 yX5_kinds ∈ wsL_law := iwsL_law_r34 _ (List.mem_of_getElem? (i := 18) rfl)
theorem wd_811 : Cond.methodLink RL 122 yX4_waiting ∈ wsL_law := iwsL_law_r34 _ (List.mem_of_getElem? (i := 19) rfl)
theorem wd_812 : Cond.instanceMethod yX4_waiting ∈ wsL_law := iwsL_law_r34 _ (List.mem_of_getElem? (i := 20) rfl)
theorem wd_813 : Cond.selects RX4 yX4_waiting yX4_waiting ∈ wsL_law := iwsL_law_r34 _ (List.mem_of_getElem? (i := 21) rfl)
theorem wd_814 : Cond.code yX4_waiting cX4_waiting 5 (some .int) ∈ wsL_law := iwsL_law_r34 _ (List.mem_of_getElem? (i := 22) rfl)
theorem wd_815 : Cond.methodLink RX4 219 yX4_fillLosses ∈ wsL_law := iwsL_law_r34 _ (List.mem_of_getElem? (i := 23) rfl)
theorem wd_816 : Cond.instanceMethod yX4_fillLosses ∈ wsL_law := iwsL_law_r35 _ (List.mem_of_getElem? (i := 0) rfl)
theorem wd_817 : Cond.selects RX4 yX4_fillLosses yX4_fillLosses ∈ wsL_law := iwsL_law_r35 _ (List.mem_of_getElem? (i := 1) rfl)
theorem wd_818 : Cond.code yX4_fillLosses cX4_fillLosses 3 none ∈ wsL_law := iwsL_law_r35 _ (List.mem_of_getElem? (i := 2) rfl)
theorem wd_819 : Cond.methodLink RX4 308 yX4_lossBetween ∈ wsL_law := iwsL_law_r35 _ (List.mem_of_getElem? (i := 3) rfl)
theorem wd_820 : Cond.instanceMethod yX4_lossBetween ∈ wsL_law := iwsL_law_r35 _ (List.mem_of_getElem? (i := 4) rfl)
theorem wd_821 : Cond.selects RX4 yX4_lossBetween yX4_lossBetween ∈ wsL_law := iwsL_law_r35 _ (List.mem_of_getElem? (i := 5) rfl)
theorem wd_822 : Cond.code yX4_lossBetween cX4_lossBetween 4 (some .int) ∈ wsL_law := iwsL_law_r35 _ (List.mem_of_getElem? (i := 6) rfl)
theorem wd_823 : Cond.methodLink RX4 222 yX4_rests ∈ wsL_law := iwsL_law_r35 _ (List.mem_of_getElem? (i := 7) rfl)
theorem wd_824 : Cond.instanceMethod yX4_rests ∈ wsL_law := iwsL_law_r35 _ (List.mem_of_getElem? (i := 8) rfl)
theorem wd_825 : Cond.selects RX4 yX4_rests yX4_rests ∈ wsL_law := iwsL_law_r35 _ (List.mem_of_getElem? (i := 9) rfl)
theorem wd_826 : Cond.code yX4_rests cX4_rests 5 (some .boolean) ∈ wsL_law := iwsL_law_r35 _ (List.mem_of_getElem? (i := 10) rfl)
theorem wd_827 : Cond.methodLink RL 125 yX5_waiting ∈ wsL_law := iwsL_law_r35 _ (List.mem_of_getElem? (i := 11) rfl)
theorem wd_828 : Cond.instanceMethod yX5_waiting ∈ wsL_law := iwsL_law_r35 _ (List.mem_of_getElem? (i := 12) rfl)
theorem wd_829 : Cond.selects RX5 yX5_waiting yX5_waiting ∈ wsL_law := iwsL_law_r35 _ (List.mem_of_getElem? (i := 13) rfl)
theorem wd_830 : Cond.code yX5_waiting cX5_waiting 5 (some .int) ∈ wsL_law := iwsL_law_r35 _ (List.mem_of_getElem? (i := 14) rfl)
theorem wd_831 : Cond.methodLink RX5 169 yX5_layLost ∈ wsL_law := iwsL_law_r35 _ (List.mem_of_getElem? (i := 15) rfl)
theorem wd_832 : Cond.instanceMethod yX5_layLost ∈ wsL_law := iwsL_law_r35 _ (List.mem_of_getElem? (i := 16) rfl)
theorem wd_833 : Cond.selects RX5 yX5_layLost yX5_layLost ∈ wsL_law := iwsL_law_r35 _ (List.mem_of_getElem? (i := 17) rfl)
theorem wd_834 : Cond.code yX5_layLost cX5_layLost 4 none ∈ wsL_law := iwsL_law_r35 _ (List.mem_of_getElem? (i := 18) rfl)
theorem wd_835 : Cond.methodLink RX5 172 yX5_rests ∈ wsL_law := iwsL_law_r35 _ (List.mem_of_getElem? (i := 19) rfl)
theorem wd_836 : Cond.instanceMethod yX5_rests ∈ wsL_law := iwsL_law_r35 _ (List.mem_of_getElem? (i := 20) rfl)
theorem wd_837 : Cond.selects RX5 yX5_rests yX5_rests ∈ wsL_law := iwsL_law_r35 _ (List.mem_of_getElem? (i := 21) rfl)
theorem wd_838 : Cond.code yX5_rests cX5_rests 5 (some .boolean) ∈ wsL_law := iwsL_law_r35 _ (List.mem_of_getElem? (i := 22) rfl)
theorem wd_839 : Cond.methodLink RX5 175 yX5_named ∈ wsL_law := iwsL_law_r35 _ (List.mem_of_getElem? (i := 23) rfl)
theorem wd_840 : Cond.instanceMethod yX5_named ∈ wsL_law := iwsL_law_r36 _ (List.mem_of_getElem? (i := 0) rfl)
theorem wd_841 : Cond.selects RX5 yX5_named yX5_named ∈ wsL_law := iwsL_law_r36 _ (List.mem_of_getElem? (i := 1) rfl)
theorem wd_842 : Cond.code yX5_named cX5_named 2 (some .int) ∈ wsL_law := iwsL_law_r36 _ (List.mem_of_getElem? (i := 2) rfl)
theorem wd_843 : Cond.methodLink RL 126 yX4_chance ∈ wsL_law := iwsL_law_r36 _ (List.mem_of_getElem? (i := 3) rfl)
theorem wd_844 : Cond.instanceMethod yX4_chance ∈ wsL_law := iwsL_law_r36 _ (List.mem_of_getElem? (i := 4) rfl)
theorem wd_845 : Cond.selects RX4 yX4_chance yX4_chance ∈ wsL_law := iwsL_law_r36 _ (List.mem_of_getElem? (i := 5) rfl)
theorem wd_846 : Cond.code yX4_chance cX4_chance 7 (some .int) ∈ wsL_law := iwsL_law_r36 _ (List.mem_of_getElem? (i := 6) rfl)
theorem wd_847 : Cond.constantLong RX4 225 (10) ∈ wsL_law := iwsL_law_r36 _ (List.mem_of_getElem? (i := 7) rfl)
theorem wd_848 : Cond.methodLink RX4 227 yX1_weighChance ∈ wsL_law := iwsL_law_r36 _ (List.mem_of_getElem? (i := 8) rfl)
theorem wd_849 : Cond.instanceMethod yX1_weighChance ∈ wsL_law := iwsL_law_r36 _ (List.mem_of_getElem? (i := 9) rfl)
theorem wd_850 : Cond.selects RX1 yX1_weighChance yX1_weighChance ∈ wsL_law := iwsL_law_r36 _ (List.mem_of_getElem? (i := 10) rfl)
theorem wd_851 : Cond.code yX1_weighChance cX1_weighChance 5 (some .long) ∈ wsL_law := iwsL_law_r36 _ (List.mem_of_getElem? (i := 11) rfl)
theorem wd_852 : Cond.methodLink RX1 78 yX1_weigh ∈ wsL_law := iwsL_law_r36 _ (List.mem_of_getElem? (i := 12) rfl)
theorem wd_853 : Cond.instanceMethod yX1_weigh ∈ wsL_law := iwsL_law_r36 _ (List.mem_of_getElem? (i := 13) rfl)
theorem wd_854 : Cond.selects RX1 yX1_weigh yX1_weigh ∈ wsL_law := iwsL_law_r36 _ (List.mem_of_getElem? (i := 14) rfl)
theorem wd_855 : Cond.code yX1_weigh cX1_weigh 9 (some .long) ∈ wsL_law := iwsL_law_r36 _ (List.mem_of_getElem? (i := 15) rfl)
theorem wd_856 : Cond.methodLink RX1 82 yX0_tallest ∈ wsL_law := iwsL_law_r36 _ (List.mem_of_getElem? (i := 16) rfl)
theorem wd_857 : Cond.methodLink RX4 231 yX4_setFraction ∈ wsL_law := iwsL_law_r36 _ (List.mem_of_getElem? (i := 17) rfl)
theorem wd_858 : Cond.instanceMethod yX4_setFraction ∈ wsL_law := iwsL_law_r36 _ (List.mem_of_getElem? (i := 18) rfl)
theorem wd_859 : Cond.selects RX4 yX4_setFraction yX4_setFraction ∈ wsL_law := iwsL_law_r36 _ (List.mem_of_getElem? (i := 19) rfl)
theorem wd_860 : Cond.code yX4_setFraction cX4_setFraction 12 none ∈ wsL_law := iwsL_law_r36 _ (List.mem_of_getElem? (i := 20) rfl)
theorem wd_861 : Cond.methodLink RL 129 yX5_chance ∈ wsL_law := iwsL_law_r36 _ (List.mem_of_getElem? (i := 21) rfl)
theorem wd_862 : Cond.instanceMethod yX5_chance ∈ wsL_law := iwsL_law_r36 _ (List.mem_of_getElem? (i := 22) rfl)
theorem wd_863 : Cond.selects RX5 yX5_chance yX5_chance ∈ wsL_law := iwsL_law_r36 _ (List.mem_of_getElem? (i := 23) rfl)
theorem wd_864 : Cond.code yX5_chance cX5_chance 11 (some .int) ∈ wsL_law := iwsL_law_r37 _ (List.mem_of_getElem? (i := 0) rfl)
theorem wd_865 : Cond.constantLong RX5 181 (50) ∈ wsL_law := iwsL_law_r37 _ (List.mem_of_getElem? (i := 1) rfl)
theorem wd_866 : Cond.constantLong RX5 183 (10) ∈ wsL_law := iwsL_law_r37 _ (List.mem_of_getElem? (i := 2) rfl)
theorem wd_867 : Cond.methodLink RX5 185 yX5_fraction ∈ wsL_law := iwsL_law_r37 _ (List.mem_of_getElem? (i := 3) rfl)
theorem wd_868 : Cond.instanceMethod yX5_fraction ∈ wsL_law := iwsL_law_r37 _ (List.mem_of_getElem? (i := 4) rfl)
theorem wd_869 : Cond.selects RX5 yX5_fraction yX5_fraction ∈ wsL_law := iwsL_law_r37 _ (List.mem_of_getElem? (i := 5) rfl)
theorem wd_870 : Cond.code yX5_fraction cX5_fraction 11 none ∈ wsL_law := iwsL_law_r37 _ (List.mem_of_getElem? (i := 6) rfl)
theorem wd_871 : Cond.fieldLink RX5 178 "SlateHillsModel" "above" "J" ∈ wsL_law := iwsL_law_r37 _ (List.mem_of_getElem? (i := 7) rfl)
theorem wd_872 : Cond.methodLink RL 130 yX4_years ∈ wsL_law := iwsL_law_r37 _ (List.mem_of_getElem? (i := 8) rfl)
theorem wd_873 : Cond.instanceMethod yX4_years ∈ wsL_law := iwsL_law_r37 _ (List.mem_of_getElem? (i := 9) rfl)
theorem wd_874 : Cond.selects RX4 yX4_years yX4_years ∈ wsL_law := iwsL_law_r37 _ (List.mem_of_getElem? (i := 10) rfl)
theorem wd_875 : Cond.code yX4_years cX4_years 9 (some .int) ∈ wsL_law := iwsL_law_r37 _ (List.mem_of_getElem? (i := 11) rfl)
theorem wd_876 : Cond.constant RX4 235 (999999) ∈ wsL_law := iwsL_law_r37 _ (List.mem_of_getElem? (i := 12) rfl)
theorem wd_877 : Cond.constantLong RX4 236 (1103515245) ∈ wsL_law := iwsL_law_r37 _ (List.mem_of_getElem? (i := 13) rfl)
theorem wd_878 : Cond.constantLong RX4 238 (12345) ∈ wsL_law := iwsL_law_r37 _ (List.mem_of_getElem? (i := 14) rfl)
theorem wd_879 : Cond.constantLong RX4 240 (2147483648) ∈ wsL_law := iwsL_law_r37 _ (List.mem_of_getElem? (i := 15) rfl)
theorem wd_880 : Cond.constantLong RX4 242 (65536) ∈ wsL_law := iwsL_law_r37 _ (List.mem_of_getElem? (i := 16) rfl)
theorem wd_881 : Cond.constantLong RX4 244 (8) ∈ wsL_law := iwsL_law_r37 _ (List.mem_of_getElem? (i := 17) rfl)
theorem wd_882 : Cond.methodLink RL 133 yX5_years ∈ wsL_law := iwsL_law_r37 _ (List.mem_of_getElem? (i := 18) rfl)
theorem wd_883 : Cond.instanceMethod yX5_years ∈ wsL_law := iwsL_law_r37 _ (List.mem_of_getElem? (i := 19) rfl)
theorem wd_884 : Cond.selects RX5 yX5_years yX5_years ∈ wsL_law := iwsL_law_r37 _ (List.mem_of_getElem? (i := 20) rfl)
theorem wd_885 : Cond.code yX5_years cX5_years 8 (some .int) ∈ wsL_law := iwsL_law_r37 _ (List.mem_of_getElem? (i := 21) rfl)
theorem wd_886 : Cond.constantLong RX5 189 (999999) ∈ wsL_law := iwsL_law_r37 _ (List.mem_of_getElem? (i := 22) rfl)
theorem wd_887 : Cond.constantLong RX5 191 (60) ∈ wsL_law := iwsL_law_r37 _ (List.mem_of_getElem? (i := 23) rfl)
theorem wd_888 : Cond.constantLong RX5 193 (1103515245) ∈ wsL_law := iwsL_law_r38 _ (List.mem_of_getElem? (i := 0) rfl)
theorem wd_889 : Cond.constantLong RX5 195 (12345) ∈ wsL_law := iwsL_law_r38 _ (List.mem_of_getElem? (i := 1) rfl)
theorem wd_890 : Cond.constantLong RX5 197 (2147483648) ∈ wsL_law := iwsL_law_r38 _ (List.mem_of_getElem? (i := 2) rfl)
theorem wd_891 : Cond.constantLong RX5 199 (65536) ∈ wsL_law := iwsL_law_r38 _ (List.mem_of_getElem? (i := 3) rfl)
theorem wd_892 : Cond.constantLong RX5 201 (8) ∈ wsL_law := iwsL_law_r38 _ (List.mem_of_getElem? (i := 4) rfl)
theorem wd_893 : Cond.methodLink RL 134 yX4_part ∈ wsL_law := iwsL_law_r38 _ (List.mem_of_getElem? (i := 5) rfl)
theorem wd_894 : Cond.instanceMethod yX4_part ∈ wsL_law := iwsL_law_r38 _ (List.mem_of_getElem? (i := 6) rfl)
theorem wd_895 : Cond.selects RX4 yX4_part yX4_part ∈ wsL_law := iwsL_law_r38 _ (List.mem_of_getElem? (i := 7) rfl)
theorem wd_896 : Cond.code yX4_part cX4_part 2 (some .long) ∈ wsL_law := iwsL_law_r38 _ (List.mem_of_getElem? (i := 8) rfl)
theorem wd_897 : Cond.methodLink RL 138 yX5_part ∈ wsL_law := iwsL_law_r38 _ (List.mem_of_getElem? (i := 9) rfl)
theorem wd_898 : Cond.instanceMethod yX5_part ∈ wsL_law := iwsL_law_r38 _ (List.mem_of_getElem? (i := 10) rfl)
theorem wd_899 : Cond.selects RX5 yX5_part yX5_part ∈ wsL_law := iwsL_law_r38 _ (List.mem_of_getElem? (i := 11) rfl)
theorem wd_900 : Cond.code yX5_part cX5_part 2 (some .long) ∈ wsL_law := iwsL_law_r38 _ (List.mem_of_getElem? (i := 12) rfl)
theorem wd_901 : Cond.methodLink RL 139 yX4_image ∈ wsL_law := iwsL_law_r38 _ (List.mem_of_getElem? (i := 13) rfl)
theorem wd_902 : Cond.instanceMethod yX4_image ∈ wsL_law := iwsL_law_r38 _ (List.mem_of_getElem? (i := 14) rfl)
theorem wd_903 : Cond.selects RX4 yX4_image yX4_image ∈ wsL_law := iwsL_law_r38 _ (List.mem_of_getElem? (i := 15) rfl)
theorem wd_904 : Cond.code yX4_image cX4_image 3 (some .int) ∈ wsL_law := iwsL_law_r38 _ (List.mem_of_getElem? (i := 16) rfl)
theorem wd_905 : Cond.fieldLink RX4 253 "SlateHills$State" "isKept" "Z" ∈ wsL_law := iwsL_law_r38 _ (List.mem_of_getElem? (i := 17) rfl)
theorem wd_906 : Cond.methodLink RX4 246 yX4_imageAt ∈ wsL_law := iwsL_law_r38 _ (List.mem_of_getElem? (i := 18) rfl)
theorem wd_907 : Cond.instanceMethod yX4_imageAt ∈ wsL_law := iwsL_law_r38 _ (List.mem_of_getElem? (i := 19) rfl)
theorem wd_908 : Cond.selects RX4 yX4_imageAt yX4_imageAt ∈ wsL_law := iwsL_law_r38 _ (List.mem_of_getElem? (i := 20) rfl)
theorem wd_909 : Cond.code yX4_imageAt cX4_imageAt 2 (some (.object "SlateHills$State")) ∈ wsL_law := iwsL_law_r38 _ (List.mem_of_getElem? (i := 21) rfl)
theorem wd_910 : Cond.methodLink RX4 250 yX3_copyFrom ∈ wsL_law := iwsL_law_r38 _ (List.mem_of_getElem? (i := 22) rfl)
theorem wd_911 : Cond.instanceMethod yX3_copyFrom ∈ wsL_law := iwsL_law_r38 _ (List.mem_of_getElem? (i := 23) rfl)
theorem wd_912 : Cond.selects RX3 yX3_copyFrom yX3_copyFrom ∈ wsL_law := iwsL_law_r39 _ (List.mem_of_getElem? (i := 0) rfl)
theorem wd_913 : Cond.code yX3_copyFrom cX3_copyFrom 2 none ∈ wsL_law := iwsL_law_r39 _ (List.mem_of_getElem? (i := 1) rfl)
theorem wd_914 : Cond.methodLink RX3 49 yX0_copyFrom ∈ wsL_law := iwsL_law_r39 _ (List.mem_of_getElem? (i := 2) rfl)
theorem wd_915 : Cond.methodLink RL 142 yX5_image ∈ wsL_law := iwsL_law_r39 _ (List.mem_of_getElem? (i := 3) rfl)
theorem wd_916 : Cond.instanceMethod yX5_image ∈ wsL_law := iwsL_law_r39 _ (List.mem_of_getElem? (i := 4) rfl)
theorem wd_917 : Cond.selects RX5 yX5_image yX5_image ∈ wsL_law := iwsL_law_r39 _ (List.mem_of_getElem? (i := 5) rfl)
theorem wd_918 : Cond.code yX5_image cX5_image 3 (some .int) ∈ wsL_law := iwsL_law_r39 _ (List.mem_of_getElem? (i := 6) rfl)
theorem wd_919 : Cond.methodLink RL 143 yX4_from ∈ wsL_law := iwsL_law_r39 _ (List.mem_of_getElem? (i := 7) rfl)
theorem wd_920 : Cond.instanceMethod yX4_from ∈ wsL_law := iwsL_law_r39 _ (List.mem_of_getElem? (i := 8) rfl)
theorem wd_921 : Cond.selects RX4 yX4_from yX4_from ∈ wsL_law := iwsL_law_r39 _ (List.mem_of_getElem? (i := 9) rfl)
theorem wd_922 : Cond.code yX4_from cX4_from 3 (some .int) ∈ wsL_law := iwsL_law_r39 _ (List.mem_of_getElem? (i := 10) rfl)
theorem wd_923 : Cond.methodLink RL 146 yX5_from ∈ wsL_law := iwsL_law_r39 _ (List.mem_of_getElem? (i := 11) rfl)
theorem wd_924 : Cond.instanceMethod yX5_from ∈ wsL_law := iwsL_law_r39 _ (List.mem_of_getElem? (i := 12) rfl)
theorem wd_925 : Cond.selects RX5 yX5_from yX5_from ∈ wsL_law := iwsL_law_r39 _ (List.mem_of_getElem? (i := 13) rfl)
theorem wd_926 : Cond.code yX5_from cX5_from 3 (some .int) ∈ wsL_law := iwsL_law_r39 _ (List.mem_of_getElem? (i := 14) rfl)
theorem wd_927 : Cond.methodLink RL 147 yX4_status ∈ wsL_law := iwsL_law_r39 _ (List.mem_of_getElem? (i := 15) rfl)
theorem wd_928 : Cond.instanceMethod yX4_status ∈ wsL_law := iwsL_law_r39 _ (List.mem_of_getElem? (i := 16) rfl)
theorem wd_929 : Cond.selects RX4 yX4_status yX4_status ∈ wsL_law := iwsL_law_r39 _ (List.mem_of_getElem? (i := 17) rfl)
theorem wd_930 : Cond.code yX4_status cX4_status 2 (some .int) ∈ wsL_law := iwsL_law_r39 _ (List.mem_of_getElem? (i := 18) rfl)
theorem wd_931 : Cond.methodLink RL 150 yX5_status ∈ wsL_law := iwsL_law_r39 _ (List.mem_of_getElem? (i := 19) rfl)
theorem wd_932 : Cond.instanceMethod yX5_status ∈ wsL_law := iwsL_law_r39 _ (List.mem_of_getElem? (i := 20) rfl)
theorem wd_933 : Cond.selects RX5 yX5_status yX5_status ∈ wsL_law := iwsL_law_r39 _ (List.mem_of_getElem? (i := 21) rfl)
theorem wd_934 : Cond.code yX5_status cX5_status 2 (some .int) ∈ wsL_law := iwsL_law_r39 _ (List.mem_of_getElem? (i := 22) rfl)
theorem wd_935 : Cond.constantLong RX5 262 (2) ∈ wsL_law := iwsL_law_r39 _ (List.mem_of_getElem? (i := 23) rfl)
theorem wd_936 : Cond.methodLink RL 151 yX4_count ∈ wsL_law := iwsL_law_r40 _ (List.mem_of_getElem? (i := 0) rfl)
theorem wd_937 : Cond.instanceMethod yX4_count ∈ wsL_law := iwsL_law_r40 _ (List.mem_of_getElem? (i := 1) rfl)
theorem wd_938 : Cond.selects RX4 yX4_count yX4_count ∈ wsL_law := iwsL_law_r40 _ (List.mem_of_getElem? (i := 2) rfl)
theorem wd_939 : Cond.code yX4_count cX4_count 2 (some .int) ∈ wsL_law := iwsL_law_r40 _ (List.mem_of_getElem? (i := 3) rfl)
theorem wd_940 : Cond.fieldLink RX4 260 "SlateHills$Land" "harm" "I" ∈ wsL_law := iwsL_law_r40 _ (List.mem_of_getElem? (i := 4) rfl)
theorem wd_941 : Cond.methodLink RX4 257 yX0_allVines ∈ wsL_law := iwsL_law_r40 _ (List.mem_of_getElem? (i := 5) rfl)
theorem wd_942 : Cond.instanceMethod yX0_allVines ∈ wsL_law := iwsL_law_r40 _ (List.mem_of_getElem? (i := 6) rfl)
theorem wd_943 : Cond.selects RX0 yX0_allVines yX0_allVines ∈ wsL_law := iwsL_law_r40 _ (List.mem_of_getElem? (i := 7) rfl)
theorem wd_944 : Cond.code yX0_allVines cX0_allVines 3 (some .int) ∈ wsL_law := iwsL_law_r40 _ (List.mem_of_getElem? (i := 8) rfl)
theorem wd_945 : Cond.methodLink RX4 263 yX0_allSizes ∈ wsL_law := iwsL_law_r40 _ (List.mem_of_getElem? (i := 9) rfl)
theorem wd_946 : Cond.methodLink RL 154 yX5_count ∈ wsL_law := iwsL_law_r40 _ (List.mem_of_getElem? (i := 10) rfl)
theorem wd_947 : Cond.instanceMethod yX5_count ∈ wsL_law := iwsL_law_r40 _ (List.mem_of_getElem? (i := 11) rfl)
theorem wd_948 : Cond.selects RX5 yX5_count yX5_count ∈ wsL_law := iwsL_law_r40 _ (List.mem_of_getElem? (i := 12) rfl)
theorem wd_949 : Cond.code yX5_count cX5_count 2 (some .int) ∈ wsL_law := iwsL_law_r40 _ (List.mem_of_getElem? (i := 13) rfl)
theorem wd_950 : Cond.methodLink RX5 267 yX5_counted ∈ wsL_law := iwsL_law_r40 _ (List.mem_of_getElem? (i := 14) rfl)
theorem wd_951 : Cond.instanceMethod yX5_counted ∈ wsL_law := iwsL_law_r40 _ (List.mem_of_getElem? (i := 15) rfl)
theorem wd_952 : Cond.selects RX5 yX5_counted yX5_counted ∈ wsL_law := iwsL_law_r40 _ (List.mem_of_getElem? (i := 16) rfl)
theorem wd_953 : Cond.code yX5_counted cX5_counted 2 (some .int) ∈ wsL_law := iwsL_law_r40 _ (List.mem_of_getElem? (i := 17) rfl)
theorem wd_954 : Cond.methodLink RX5 264 yX5_vinesOfAll ∈ wsL_law := iwsL_law_r40 _ (List.mem_of_getElem? (i := 18) rfl)
theorem wd_955 : Cond.instanceMethod yX5_vinesOfAll ∈ wsL_law := iwsL_law_r40 _ (List.mem_of_getElem? (i := 19) rfl)
theorem wd_956 : Cond.selects RX5 yX5_vinesOfAll yX5_vinesOfAll ∈ wsL_law := iwsL_law_r40 _ (List.mem_of_getElem? (i := 20) rfl)
theorem wd_957 : Cond.code yX5_vinesOfAll cX5_vinesOfAll 3 (some .int) ∈ wsL_law := iwsL_law_r40 _ (List.mem_of_getElem? (i := 21) rfl)
theorem wd_958 : Cond.methodLink RL 155 yX4_digest ∈ wsL_law := iwsL_law_r40 _ (List.mem_of_getElem? (i := 22) rfl)
theorem wd_959 : Cond.instanceMethod yX4_digest ∈ wsL_law := iwsL_law_r40 _ (List.mem_of_getElem? (i := 23) rfl)
theorem wd_960 : Cond.selects RX4 yX4_digest yX4_digest ∈ wsL_law := iwsL_law_r41 _ (List.mem_of_getElem? (i := 0) rfl)
theorem wd_961 : Cond.code yX4_digest cX4_digest 5 (some .long) ∈ wsL_law := iwsL_law_r41 _ (List.mem_of_getElem? (i := 1) rfl)
theorem wd_962 : Cond.constantLong RX4 266 (1877) ∈ wsL_law := iwsL_law_r41 _ (List.mem_of_getElem? (i := 2) rfl)
theorem wd_963 : Cond.constantLong RX4 268 (31) ∈ wsL_law := iwsL_law_r41 _ (List.mem_of_getElem? (i := 3) rfl)
theorem wd_964 : Cond.fieldLink RX4 277 "SlateHills$State" "seenRows" "[I" ∈ wsL_law := iwsL_law_r41 _ (List.mem_of_getElem? (i := 4) rfl)
theorem wd_965 : Cond.fieldLink RX4 280 "SlateHills$State" "markRows" "[I" ∈ wsL_law := iwsL_law_r41 _ (List.mem_of_getElem? (i := 5) rfl)
theorem wd_966 : Cond.methodLink RX4 270 yX4_count ∈ wsL_law := iwsL_law_r41 _ (List.mem_of_getElem? (i := 6) rfl)
theorem wd_967 : Cond.methodLink RX4 273 yX4_mix ∈ wsL_law := iwsL_law_r41 _ (List.mem_of_getElem? (i := 7) rfl)
theorem wd_968 : Cond.static yX4_mix ∈ wsL_law := iwsL_law_r41 _ (List.mem_of_getElem? (i := 8) rfl)
theorem wd_969 : Cond.code yX4_mix cX4_mix 5 (some .long) ∈ wsL_law := iwsL_law_r41 _ (List.mem_of_getElem? (i := 9) rfl)
theorem wd_970 : Cond.methodLink RL 159 yX5_digest ∈ wsL_law := iwsL_law_r41 _ (List.mem_of_getElem? (i := 10) rfl)
theorem wd_971 : Cond.instanceMethod yX5_digest ∈ wsL_law := iwsL_law_r41 _ (List.mem_of_getElem? (i := 11) rfl)
theorem wd_972 : Cond.selects RX5 yX5_digest yX5_digest ∈ wsL_law := iwsL_law_r41 _ (List.mem_of_getElem? (i := 12) rfl)
theorem wd_973 : Cond.code yX5_digest cX5_digest 4 (some .long) ∈ wsL_law := iwsL_law_r41 _ (List.mem_of_getElem? (i := 13) rfl)
theorem wd_974 : Cond.constantLong RX5 272 (1877) ∈ wsL_law := iwsL_law_r41 _ (List.mem_of_getElem? (i := 14) rfl)
theorem wd_975 : Cond.constantLong RX5 270 (31) ∈ wsL_law := iwsL_law_r41 _ (List.mem_of_getElem? (i := 15) rfl)
theorem wd_976 : Cond.methodLink RX5 274 yX5_sums ∈ wsL_law := iwsL_law_r41 _ (List.mem_of_getElem? (i := 16) rfl)
theorem wd_977 : Cond.instanceMethod yX5_sums ∈ wsL_law := iwsL_law_r41 _ (List.mem_of_getElem? (i := 17) rfl)
theorem wd_978 : Cond.selects RX5 yX5_sums yX5_sums ∈ wsL_law := iwsL_law_r41 _ (List.mem_of_getElem? (i := 18) rfl)
theorem wd_979 : Cond.code yX5_sums cX5_sums 8 (some .long) ∈ wsL_law := iwsL_law_r41 _ (List.mem_of_getElem? (i := 19) rfl)
theorem inlX0 : ∀ w ∈ wsX00, w ∈ wsL_law := fun _ h => List.mem_append_left _ (List.mem_append_right _ h)
theorem inX0 : ∀ w ∈ wsX00, w ∈ lw_tbl := fun w h => wsL_law_in w (inlX0 w h)
theorem inlX1 : ∀ w ∈ wsX10, w ∈ wsL_law := fun _ h => List.mem_append_left _ (List.mem_append_left _ (List.mem_append_left _ (List.mem_append_right _ h)))
theorem inX1 : ∀ w ∈ wsX10, w ∈ lw_tbl := fun w h => wsL_law_in w (inlX1 w h)
theorem inlX2 : ∀ w ∈ wsX20, w ∈ wsL_law := fun _ h => List.mem_append_left _ (List.mem_append_left _ (List.mem_append_right _ h))
theorem inX2 : ∀ w ∈ wsX20, w ∈ lw_tbl := fun w h => wsL_law_in w (inlX2 w h)
theorem inlX3 : ∀ w ∈ wsX30, w ∈ wsL_law := fun _ h => List.mem_append_left _ (List.mem_append_left _ (List.mem_append_left _ (List.mem_append_left _ (List.mem_append_right _ h))))
theorem inX3 : ∀ w ∈ wsX30, w ∈ lw_tbl := fun w h => wsL_law_in w (inlX3 w h)
theorem inlX4 : ∀ w ∈ wsX40, w ∈ wsL_law := fun _ h => List.mem_append_left _ (List.mem_append_left _ (List.mem_append_left _ (List.mem_append_left _ (List.mem_append_left _ (List.mem_append_left _ (List.mem_append_right _ h))))))
theorem inX4 : ∀ w ∈ wsX40, w ∈ lw_tbl := fun w h => wsL_law_in w (inlX4 w h)
theorem inlX5 : ∀ w ∈ wsX50, w ∈ wsL_law := fun _ h => List.mem_append_left _ (List.mem_append_left _ (List.mem_append_left _ (List.mem_append_left _ (List.mem_append_left _ (List.mem_append_right _ h)))))
theorem inX5 : ∀ w ∈ wsX50, w ∈ lw_tbl := fun w h => wsL_law_in w (inlX5 w h)
abbrev vwCl : List vw_C := [(RX0, TX0, 9), (RX1, TX1, 6), (RX2, TX2, 8), (RX3, TX3, 9), (RX4, TX4, 12), (RX5, TX5, 18)]
end
section
/-! ===== the memory of all cells of the two objects, by numbers: (cell, place) ===== -/
abbrev Mm : Type := (Nat → Nat → Int32) × (Nat → Nat → Int64)
def mset (μ : Mm) (k i : Nat) (x : Int32) : Mm := (fun a b => if a = k ∧ b = i then x else μ.1 a b, μ.2)
def msetL (μ : Mm) (k i : Nat) (x : Int64) : Mm := (μ.1, fun a b => if a = k ∧ b = i then x else μ.2 a b)
def mcpy (μ : Mm) (k0 k1 sp dp n : Nat) : Mm := (fun a b => if a = k1 then va_cpy (μ.1 k0) (μ.1 k1) sp dp n b else μ.1 a b, μ.2)
/-- the addresses, the classes' numbers and slots, the array classes [I, [Z, [Land -/
abbrev Wd : Type := (Nat → Nat) × va_G × ClassId × ClassId × ClassId
/-- what stands in a class's fields: 0 a number, 1 a long, 2 a cell at a distance -/
def fdT : List (List (Nat × Nat)) := [
  [(0,0),(0,0),(2,1),(2,2),(2,3),(2,4),(0,0),(0,0),(0,0)],
  [(2,1),(2,2),(2,3),(0,0),(0,0),(0,0)],
  [(2,1),(0,0),(0,0),(0,0),(0,0),(0,0),(0,0),(2,2)],
  [(2,1),(2,6),(0,0),(2,7),(0,0),(2,8),(0,0),(0,0),(0,0)],
  [(2,3),(2,12),(2,21),(2,30),(2,59),(2,1),(2,2),(1,0),(1,0),(0,0),(0,0),(0,0)],
  [(2,1),(2,2),(2,3),(2,4),(1,0),(1,0),(0,0),(2,5),(2,6),(2,7),(2,8),(0,0),(0,0),(0,0),(0,0),(0,0),(2,9),(2,10)]]
abbrev shLand : List (Nat ⊕ (Nat × Nat)) := [.inl 0, .inr (0,7), .inr (0,7), .inr (0,7), .inr (0,20)]
abbrev shState : List (Nat ⊕ (Nat × Nat)) := [.inl 3] ++ shLand ++ [.inr (0,20), .inr (0,18), .inr (0,232)]
/-- a cell's kind: an object of a class, or an array (0 of int, 1 of boolean, 2 of Land) of a length -/
def shT : List (Nat ⊕ (Nat × Nat)) := [.inl 4, .inr (0,6), .inr (0,64)] ++ shState ++ shState ++ shState ++ [.inl 1, .inr (2,5), .inr (0,4), .inr (0,4)] ++ shLand ++ shLand ++ shLand ++ shLand ++ shLand ++ [.inl 2, .inr (0,150)] ++ shLand ++ [.inl 5, .inr (0,318), .inr (0,636), .inr (1,2), .inr (0,3), .inr (0,48), .inr (0,6), .inr (0,64), .inr (0,150), .inr (0,86), .inr (0,3)]
def shp (k : Nat) : Nat ⊕ (Nat × Nat) := shT.getD k (.inl 9)
def fv (ad : Nat → Nat) (μ : Mm) (k : Nat) (q : Nat × Nat) (j : Nat) : Value := if q.1 = 0 then .int (μ.1 k j) else if q.1 = 1 then .long (μ.2 k j) else .ref (ad (k + q.2))
def flds (ad : Nat → Nat) (μ : Mm) (k c : Nat) : List Value := (fdT.getD c []).zipIdx.map (fun q => fv ad μ k q.1 q.2)
def celE (wd : Wd) (μ : Mm) (k : Nat) (h : Nat ⊕ (Nat × Nat)) : va_E := match h with
  | .inl c => .inr (c, flds wd.1 μ k c)
  | .inr (0, n) => .inl (wd.2.2.1, n, .inl (μ.1 k))
  | .inr (1, n) => .inl (wd.2.2.2.1, n, .inl (μ.1 k))
  | .inr (_, n) => .inl (wd.2.2.2.2, n, .inr (.inr (.inr (.inr (fun d => some (wd.1 (k + 3 + 5 * d)))))))
def cel (wd : Wd) (μ : Mm) (k : Nat) : Nat × va_E := (wd.1 k, celE wd μ k (shp k))
def cells (wd : Wd) (μ : Mm) : va_W := (List.range 77).map (cel wd μ)
theorem cells_get (wd : Wd) (μ : Mm) {k : Nat} (h : k < 77) : (cells wd μ)[k]? = some (cel wd μ k) := by
  unfold cells
  rw [List.getElem?_map, List.getElem?_range h]
  rfl
theorem shp_lt {k : Nat} {h : Nat ⊕ (Nat × Nat)} (e : shp k = h) (hn : h ≠ .inl 9) : k < 77 := by
  rcases Nat.lt_or_ge k 77 with q | q
  · exact q
  · exfalso
    apply hn
    rw [← e]
    unfold shp
    rw [List.getD_eq_getElem?_getD, List.getElem?_eq_none (by exact q)]
    rfl
theorem cells_at {wd : Wd} {μ : Mm} {k : Nat} {h : Nat ⊕ (Nat × Nat)} (e : shp k = h) (hn : h ≠ .inl 9) : (cells wd μ)[k]? = some (wd.1 k, celE wd μ k h) := by
  rw [cells_get wd μ (shp_lt e hn)]
  unfold cel
  rw [e]
theorem cel_congr {wd : Wd} {μ μ' : Mm} {k : Nat} (h1 : μ'.1 k = μ.1 k) (h2 : μ'.2 k = μ.2 k) : cel wd μ' k = cel wd μ k := by
  unfold cel
  congr 1
  unfold celE
  split
  · unfold flds fv
    rw [h1, h2]
  · rw [h1]
  · rw [h1]
  · rfl
theorem cells_set {wd : Wd} {μ μ' : Mm} {k : Nat} {e : va_E} (he : cel wd μ' k = (wd.1 k, e)) (ho : ∀ j, j ≠ k → μ'.1 j = μ.1 j ∧ μ'.2 j = μ.2 j) : (cells wd μ).set k (wd.1 k, e) = cells wd μ' := by
  apply List.ext_getElem?
  intro j
  rw [List.getElem?_set]
  by_cases hj : k = j
  · subst hj
    rw [if_pos rfl]
    by_cases hk : k < 77
    · rw [if_pos (by unfold cells; rw [List.length_map, List.length_range]; exact hk), cells_get wd μ' hk, he]
    · rw [if_neg (by unfold cells; rw [List.length_map, List.length_range]; exact hk)]
      unfold cells
      rw [List.getElem?_map, List.getElem?_eq_none (by rw [List.length_range]; omega)]
      rfl
  · rw [if_neg hj]
    by_cases hk : j < 77
    · rw [cells_get wd μ hk, cells_get wd μ' hk, cel_congr (ho j (Ne.symm hj)).1 (ho j (Ne.symm hj)).2]
    · unfold cells
      rw [List.getElem?_map, List.getElem?_map, List.getElem?_eq_none (by rw [List.length_range]; omega)]
      rfl
theorem cells_ad {wd : Wd} {μ μ' : Mm} {k : Nat} {q : Nat × va_E} (h : (cells wd μ)[k]? = some q) : ∃ e, (cells wd μ')[k]? = some (q.1, e) := by
  unfold cells at h ⊢
  rw [List.getElem?_map] at h ⊢
  cases hr : (List.range 77)[k]? with
  | none => rw [hr] at h; cases h
  | some j =>
    rw [hr] at h
    cases h
    exact ⟨(cel wd μ' j).2, rfl⟩
theorem va_A_cells {wd : Wd} {μ μ' : Mm} {sz q : Nat} (h : va_A (cells wd μ) sz q) : va_A (cells wd μ') sz q := by
  rcases h with ⟨k, e, h⟩ | h
  · obtain ⟨e', h'⟩ := cells_ad (μ' := μ') h
    exact Or.inl ⟨k, e', h'⟩
  · exact Or.inr h
theorem flds_at {ad : Nat → Nat} {μ : Mm} {k c j : Nat} {q : Nat × Nat} (h : (fdT.getD c [])[j]? = some q) : (flds ad μ k c)[j]? = some (fv ad μ k q j) := by
  unfold flds
  rw [List.getElem?_map, List.getElem?_zipIdx, h]
  simp
theorem flds_len {ad : Nat → Nat} {μ : Mm} {k c : Nat} : (flds ad μ k c).length = (fdT.getD c []).length := by
  unfold flds
  rw [List.length_map, List.length_zipIdx]
theorem flds_set {ad : Nat → Nat} {μ μ' : Mm} {k c j : Nat} {q : Nat × Nat} {v : Value} (h : (fdT.getD c [])[j]? = some q) (hv : fv ad μ' k q j = v) (ho : ∀ i, i ≠ j → μ'.1 k i = μ.1 k i ∧ μ'.2 k i = μ.2 k i) : (flds ad μ k c).set j v = flds ad μ' k c := by
  apply List.ext_getElem?
  intro i
  rw [List.getElem?_set]
  by_cases hi : j = i
  · subst hi
    rw [if_pos rfl, if_pos (by rw [flds_len]; exact (List.getElem?_eq_some_iff.mp h).1), flds_at h, hv]
  · rw [if_neg hi]
    unfold flds
    rw [List.getElem?_map, List.getElem?_map, List.getElem?_zipIdx]
    cases hx : (fdT.getD c [])[i]? with
    | none => simp
    | some x =>
      obtain ⟨e1, e2⟩ := ho i (Ne.symm hi)
      simp [fv, e1, e2]
/-! ===== values: a cell by its number ===== -/
def cnc (ad : Nat → Nat) (v : Value) : Value := match v with
  | .ref k => .ref (ad k)
  | v => v
theorem cnc_cat (ad : Nat → Nat) (v : Value) : (cnc ad v).category = v.category := by cases v <;> rfl
def cvl (ad : Nat → Nat) (lv : List (Nat × Value)) : List (Nat × Value) := lv.map (fun q => (q.1, cnc ad q.2))
theorem cvl_args (ad : Nat → Nat) : ∀ (as : List Value) (i : Nat), lv_args i (as.map (cnc ad)) = cvl ad (lv_args i as)
  | [], _ => rfl
  | v :: vs, i => by
    show (i, cnc ad v) :: lv_args (if (cnc ad v).category = 2 then i + 2 else i + 1) (vs.map (cnc ad)) = (i, cnc ad v) :: cvl ad (lv_args (if v.category = 2 then i + 2 else i + 1) vs)
    rw [cnc_cat, cvl_args ad vs]
theorem lg_sl_cnc (ad : Nat → Nat) : ∀ (as : List Value), (lg_sl (as.map (cnc ad))).length = (lg_sl as).length
  | [] => rfl
  | v :: vs => by
    have h := lg_sl_cnc ad vs
    unfold lg_sl at h ⊢
    rw [List.map_cons, List.flatMap_cons, List.flatMap_cons, List.length_append, List.length_append, h, cnc_cat]
    congr 1
    split <;> rfl
/-- the value of a local -/
def lkp (lv : List (Nat × Value)) (i : Nat) : Option Value := match lv with
  | [] => none
  | q :: r => match Nat.beq q.1 i with
    | true => some q.2
    | false => lkp r i
theorem lkp_mem : ∀ {lv : List (Nat × Value)} {i : Nat} {v : Value}, lkp lv i = some v → (i, v) ∈ lv
  | [], _, _, h => by cases h
  | q :: r, i, v, h => by
    unfold lkp at h
    split at h
    · next hq =>
      cases h
      have hq := Nat.eq_of_beq_eq_true hq
      subst hq
      exact List.mem_cons_self
    · exact List.mem_cons_of_mem _ (lkp_mem h)
theorem lkp_at {ad : Nat → Nat} {ls : Array Slot} {nL : Nat} {lv : List (Nat × Value)} (h : lv_has ls nL (cvl ad lv)) {i : Nat} {v : Value} (hk : lkp lv i = some v) : ls[i]? = some (.val (cnc ad v)) := h.2.2 (i, cnc ad v) (List.mem_map.mpr ⟨(i, v), lkp_mem hk, rfl⟩)
/-- the locals behind a store: of a word, of two -/
def dr1 (i : Nat) (lv : List (Nat × Value)) : List (Nat × Value) := match lv with
  | [] => []
  | q :: r => match (Nat.beq q.1 i || (Nat.beq (q.1 + 1) i && Nat.beq q.2.category 2)) with
    | true => dr1 i r
    | false => q :: dr1 i r
def dr2 (i : Nat) (lv : List (Nat × Value)) : List (Nat × Value) := match lv with
  | [] => []
  | q :: r => match (Nat.beq q.1 i || (Nat.beq q.1 (i + 1) || (Nat.beq (q.1 + 1) i && Nat.beq q.2.category 2))) with
    | true => dr2 i r
    | false => q :: dr2 i r
def st1 (lv : List (Nat × Value)) (i : Nat) (v : Value) : List (Nat × Value) := (i, v) :: dr1 i lv
def st2 (lv : List (Nat × Value)) (i : Nat) (v : Value) : List (Nat × Value) := (i, v) :: dr2 i lv
theorem beq_nb (a b : Nat) : (a == b) = Nat.beq a b := by
  cases h : Nat.beq a b with
  | true => rw [Nat.eq_of_beq_eq_true h]; exact beq_self_eq_true b
  | false => exact beq_eq_false_iff_ne.mpr (Nat.ne_of_beq_eq_false h)
theorem cvl_dr1 (ad : Nat → Nat) (i : Nat) : ∀ lv : List (Nat × Value), (cvl ad lv).filter (fun q => !(q.1 == i) && !(q.1 + 1 == i && q.2.category == 2)) = cvl ad (dr1 i lv)
  | [] => rfl
  | q :: r => by
    have ih := cvl_dr1 ad i r
    unfold dr1
    show List.filter _ ((q.1, cnc ad q.2) :: cvl ad r) = _
    rw [List.filter_cons, ih]
    dsimp only
    rw [cnc_cat, beq_nb, beq_nb, beq_nb]
    cases h : (Nat.beq q.1 i || (Nat.beq (q.1 + 1) i && Nat.beq q.2.category 2)) with
    | true =>
      rw [if_neg]
      intro hh
      cases h1 : Nat.beq q.1 i <;> cases h2 : Nat.beq (q.1 + 1) i <;> cases h3 : Nat.beq q.2.category 2 <;> simp_all
    | false =>
      rw [if_pos]
      · rfl
      · cases h1 : Nat.beq q.1 i <;> cases h2 : Nat.beq (q.1 + 1) i <;> cases h3 : Nat.beq q.2.category 2 <;> simp_all
theorem cvl_dr2 (ad : Nat → Nat) (i : Nat) : ∀ lv : List (Nat × Value), (cvl ad lv).filter (fun q => !(q.1 == i) && (!(q.1 == i + 1) && !(q.1 + 1 == i && q.2.category == 2))) = cvl ad (dr2 i lv)
  | [] => rfl
  | q :: r => by
    have ih := cvl_dr2 ad i r
    unfold dr2
    show List.filter _ ((q.1, cnc ad q.2) :: cvl ad r) = _
    rw [List.filter_cons, ih]
    dsimp only
    rw [cnc_cat, beq_nb, beq_nb, beq_nb, beq_nb]
    cases h : (Nat.beq q.1 i || (Nat.beq q.1 (i + 1) || (Nat.beq (q.1 + 1) i && Nat.beq q.2.category 2))) with
    | true =>
      rw [if_neg]
      intro hh
      cases h1 : Nat.beq q.1 i <;> cases h4 : Nat.beq q.1 (i + 1) <;> cases h2 : Nat.beq (q.1 + 1) i <;> cases h3 : Nat.beq q.2.category 2 <;> simp_all
    | false =>
      rw [if_pos]
      · rfl
      · cases h1 : Nat.beq q.1 i <;> cases h4 : Nat.beq q.1 (i + 1) <;> cases h2 : Nat.beq (q.1 + 1) i <;> cases h3 : Nat.beq q.2.category 2 <;> simp_all
theorem cvl_st1 (ad : Nat → Nat) (lv : List (Nat × Value)) (i : Nat) (v : Value) : (i, cnc ad v) :: (cvl ad lv).filter (fun q => !(q.1 == i) && !(q.1 + 1 == i && q.2.category == 2)) = cvl ad (st1 lv i v) := congrArg _ (cvl_dr1 ad i lv)
theorem cvl_st2 (ad : Nat → Nat) (lv : List (Nat × Value)) (i : Nat) (v : Value) : (i, cnc ad v) :: (cvl ad lv).filter (fun q => !(q.1 == i) && (!(q.1 == i + 1) && !(q.1 + 1 == i && q.2.category == 2))) = cvl ad (st2 lv i v) := congrArg _ (cvl_dr2 ad i lv)
/-! ===== the standing facts ===== -/
/-- the tables' words -/
abbrev TBL : List Cond := wsL_law
theorem TBL_good : GoodIn TBL TBL := fun w h => ⟨h, (wsL_good w h).2⟩
/-- the links to nest mates -/
def NWL : List (String × Nat × MethodName) := [(RX0, 56, yX4_within), (RX0, 101, yX4_holds), (RX0, 64, yX4_fall), (RX0, 74, yX4_growth), (RX3, 81, yX4_growth), (RX3, 89, yX4_fall)]
abbrev tysL (wd : Wd) : List (ClassId × FieldType) := [(wd.2.2.1, .int), (wd.2.2.2.1, .boolean), (wd.2.2.2.2, .object "SlateHills$Land")]
/-- the four words of the Reader, and what String's methods look at -/
def sbyt : List (List Int32) := [[105, 115, 108, 97, 110, 100], [118, 105, 110, 101, 115], [104, 105, 108, 108], [100, 97, 121]]
def sStr (wd : Wd) (A : Nat → Prop) (U : State) (H : Heap) : Prop := vk_S 4 [6, 5, 4, 3] sbyt (fun i => wd.1 (100 + i)) (fun i => wd.1 (110 + i)) A U H ∧ vk_R RX2 103 "island" (wd.1 100) U ∧ vk_R RX2 109 "vines" (wd.1 101) U ∧ vk_R RX2 111 "hill" (wd.1 102) U ∧ vk_R RX2 113 "day" (wd.1 103) U ∧ va_Z "java/lang/String" "COMPACT_STRINGS" "Z" (.int 1) A U H
def sNest (U : State) : Prop := ∀ q ∈ NWL, va_Nw (.methodLinkNest q.1 q.2.1 q.2.2 "SlateHills") U
theorem sNest.warm {s U : State} (hW : s.WarmedH U.vm) (h : sNest s) : sNest U := fun q hq => va_Nw.warmM hW (h q hq)
theorem sNest.same {s U : State} (hv : s.vm = U.vm) (h : sNest s) : sNest U := fun q hq => va_Nw.same rfl hv (h q hq)
theorem sStr.warm {wd : Wd} {A : Nat → Prop} {s U : State} {H : Heap} (hW : s.WarmedH U.vm) (h : sStr wd A s H) : sStr wd A U H := ⟨h.1.moved hW.alike, h.2.1.warm hW, h.2.2.1.warm hW, h.2.2.2.1.warm hW, h.2.2.2.2.1.warm hW, h.2.2.2.2.2.moved hW.alike⟩
theorem sStr.same {wd : Wd} {A : Nat → Prop} {s U : State} {H : Heap} (hv : U.vm = s.vm) (h : sStr wd A s H) : sStr wd A U H := ⟨h.1.moved (by rw [hv]; exact Vm.Alike.refl _), h.2.1.same hv, h.2.2.1.same hv, h.2.2.2.1.same hv, h.2.2.2.2.1.same hv, h.2.2.2.2.2.moved (by rw [hv]; exact Vm.Alike.refl _)⟩
theorem sStr.kept {wd : Wd} {A : Nat → Prop} {U : State} {H H1 : Heap} (h : sStr wd A U H) (hq : ∀ a : Nat, a < H.size → ¬ A a → H1[a]? = H[a]?) : sStr wd A U H1 := ⟨h.1.kept hq, h.2.1, h.2.2.1, h.2.2.2.1, h.2.2.2.2.1, h.2.2.2.2.2.kept hq⟩
theorem sStr.narrow {wd : Wd} {A B : Nat → Prop} {U : State} {H : Heap} (h : sStr wd A U H) (hAB : ∀ q, B q → A q) : sStr wd B U H := ⟨h.1.narrow hAB, h.2.1, h.2.2.1, h.2.2.2.1, h.2.2.2.2.1, h.2.2.2.2.2.narrow hAB⟩
/-- a method: name, code, locals, answer's type, depth of its calls -/
abbrev Mi : Type := MethodName × ByteArray × Nat × Option FieldType × Nat
abbrev Kx : Type := Program × Launch × Env × Room × State × MethodId × Array Value × List Frame × Method × Code × Wd × (Nat → Prop)
def Fx (κ : Kx) (M : Mi) (n q : Nat) : Prop := match κ with
  | (p, _, _, R, s, m, args, _, meth, c, wd, A) => p.tables.exec = Jvm.exec ∧ c.code = M.2.1 ∧ c.maxLocals = M.2.2.1 ∧ s.vm.findClass M.1.cls = some m.cls ∧ (∀ w ∈ TBL, w.before args s = true) ∧ meth.sig.returnType = M.2.2.2.1 ∧ meth.locks = false ∧ va_K wd.2.1 vwCl (tysL wd) s ∧ (∀ a, s.heap.size ≤ a → A a) ∧ sStr wd A s s.heap ∧ sNest s ∧ M.2.2.2.2 ≤ R.frames ∧ 40 * M.2.2.2.2 ≤ R.locals ∧ n ≤ R.cells ∧ q ≤ R.slots
/-- the machine, at a place of a method, its locals, its stack and the memory as told, comes to an end with Qf -/
def V (κ : Kx) (M : Mi) (Qf : State → Prop) (n q : Nat) (pc : Nat) (lv : List (Nat × Value)) (st : List Value) (μ : Mm) : Prop :=
  Fx κ M n q → match κ with
  | (p, l, e, R, s, m, args, below, meth, c, wd, A) => ∀ (ls : Array Slot) (H : Heap) (locs : List Loc), lv_has ls M.2.2.1 (cvl wd.1 lv) → va_P wd.2.1 vwCl (cells wd μ) H → va_D A (cells wd μ) → va_S A s.heap H locs → W p l e R s m args below meth c H locs n q Qf (F0 m pc ls (st.map (cnc wd.1)))
/-- a method's end: an answer and a memory -/
def Qcm (wd : Wd) (Q : Option Value → Mm → Prop) (A : Nat → Prop) : Array Value → State → Outcome → State → Prop := fun _ st oc t => (∃ (r : Option Value) (μ : Mm), oc = .returned (r.map (cnc wd.1)) ∧ Q r μ ∧ va_P wd.2.1 vwCl (cells wd μ) t.heap ∧ va_D A (cells wd μ)) ∧ va_F A st t
def fin (κ : Kx) (Q : Option Value → Mm → Prop) : State → Prop := match κ with
  | (_, _, _, _, s, _, args, below, _, _, wd, A) => MQ below (Qcm wd Q A) args s 0 0 A
abbrev rmD (d : Nat) : Room := { frames := d, cells := 0, slots := 0, locals := 40 * d }
def PcM (wd : Wd) (as : List Value) (μ : Mm) (sz : Nat) : Array Value → State → Prop := va_Pc (as.map (cnc wd.1)) (fun U => U.heap.size = sz ∧ va_P wd.2.1 vwCl (cells wd μ) U.heap ∧ va_K wd.2.1 vwCl (tysL wd) U ∧ va_D (fun _ => True) (cells wd μ) ∧ sStr wd (va_A (cells wd μ) sz) U U.heap ∧ sNest U)
/-- A METHOD'S CONTRACT: called so, in such a memory, it answers r and leaves a memory with Q -/
def Con (M : Mi) (as : List Value) (μ : Mm) (Q : Option Value → Mm → Prop) : Prop := ∀ (l : Launch) (wd : Wd) (sz : Nat), Met l M.1 (.code M.1 M.2.1 M.2.2.1 M.2.2.2.1 :: TBL) (rmD M.2.2.2.2) (PcM wd as μ sz) (Qcm wd Q (va_A (cells wd μ) sz)) 0 0 (va_A (cells wd μ) sz)
theorem PcM.blind {wd : Wd} {as : List Value} {μ : Mm} {sz : Nat} : FrameBlind (PcM wd as μ sz) := by
  intro a U g mk h
  obtain ⟨h0, h1, h2, h3, h4, h5, h6⟩ := h
  exact ⟨h0, h1, h2, va_K.moved (u := U) (U := U.calling g mk a) (Vm.Alike.refl U.vm) h3, h4, sStr.same (s := U) (U := U.calling g mk a) rfl h5, sNest.same (s := U) (U := U.calling g mk a) rfl h6⟩
set_option maxHeartbeats 1000000 in
theorem Con.of {M : Mi} {as : List Value} {μ : Mm} {Q : Option Value → Mm → Prop} (hy : plainName M.1.cls = true) (hn : (lg_sl as).length ≤ M.2.2.1) (h : ∀ κ, V κ M (fin κ Q) 0 0 0 (lv_args 0 as) [] μ) : Con M as μ Q := by
  intro l wd sz
  refine Met.ofW (cc := M.2.1) (maxL := M.2.2.1) (ret := M.2.2.2.1) hy rfl ?_
  intro p e s m args below meth c s₁ B hml hv
  obtain ⟨rfl, hsz, hP, hK, hD0, hStr, hN⟩ := hv
  have hts := atoms_spec (ws := (.code M.1 M.2.1 M.2.2.1 M.2.2.2.1 :: TBL)) B.pre
  have hown : s.vm.findClass M.1.cls = some m.cls := findClass_of_methodNamed B.named
  subst hsz
  have hD := hD0.self (sz := s.heap.size)
  have hA : ∀ q : Nat, s.heap.size ≤ q → va_A (cells wd μ) s.heap.size q := fun q h => Or.inr h
  have hS : va_S (va_A (cells wd μ) s.heap.size) s.heap s.heap [] := va_S.rf
  have hl := lv_entry (as.map (cnc wd.1)) (n := M.2.2.1) (by rw [lg_sl_cnc]; exact hn)
  rw [lg_entry_eq]
  rw [cvl_args] at hl
  exact h (p, l, e, _, s, m, _, below, meth, c, wd, va_A (cells wd μ) s.heap.size) ⟨B.exec, B.bytes, hml, hown, fun w hw => hts w (List.mem_cons_of_mem _ hw), B.returns, B.notSynchronized, hK, hA, hStr, hN, Nat.le_refl _, Nat.le_refl _, Nat.zero_le _, Nat.zero_le _⟩ _ s.heap [] hl hP hD hS
theorem Qcm.mono {wd : Wd} {Q Q' : Option Value → Mm → Prop} {A : Nat → Prop} (h : ∀ r μ, Q r μ → Q' r μ) {a : Array Value} {st t : State} {oc : Outcome} (hq : Qcm wd Q A a st oc t) : Qcm wd Q' A a st oc t := by
  obtain ⟨⟨r, μ, h1, h2, h3⟩, h4⟩ := hq
  exact ⟨⟨r, μ, h1, h _ _ h2, h3⟩, h4⟩
theorem Con.mono {M : Mi} {as : List Value} {μ : Mm} {Q Q' : Option Value → Mm → Prop} (h : Con M as μ Q) (hq : ∀ r μ', Q r μ' → Q' r μ') : Con M as μ Q' := by
  intro l wd sz
  exact MetFree.mono (h l wd sz) (fun _ _ h => h) (fun _ _ _ _ _ h => h) (fun a st o t _ h => ⟨Qcm.mono hq h.1, h.2⟩)
theorem cat_sum (ad : Nat → Nat) (st : List Value) : ((st.map (cnc ad)).map fun v => v.category).sum = (st.map fun v => v.category).sum := by
  rw [List.map_map]
  congr 1
  exact List.map_congr_left (fun v _ => cnc_cat ad v)
section VR
variable {κ : Kx} {M : Mi} {Qf : State → Prop} {n q pc : Nat} {lv : List (Nat × Value)} {st : List Value} {μ : Mm}
theorem v_iconst {i : Int} {v : Int32} (hd : decode M.2.1 pc = .ok (.iconst i, 1)) (hv : Int32.ofInt i = v) (kk : V κ M Qf n q (pc + 1) lv (.int v :: st) μ) : V κ M Qf n q pc lv (st) μ := by
  obtain ⟨p, l, e, R, s, m, args, below, meth, c, wd, A⟩ := κ
  intro hF ls H locs hl hP hD hS
  exact lv_iconst hF.1 hF.2.1 hd hv (kk hF ls H locs hl hP hD hS)
theorem v_bipush {i : Int} {v : Int32} (hd : decode M.2.1 pc = .ok (.bipush i, 2)) (hv : (Int8.ofInt i).toInt32 = v) (kk : V κ M Qf n q (pc + 2) lv (.int v :: st) μ) : V κ M Qf n q pc lv (st) μ := by
  obtain ⟨p, l, e, R, s, m, args, below, meth, c, wd, A⟩ := κ
  intro hF ls H locs hl hP hD hS
  exact lv_bipush hF.1 hF.2.1 hd hv (kk hF ls H locs hl hP hD hS)
theorem v_sipush {i : Int} {v : Int32} (hd : decode M.2.1 pc = .ok (.sipush i, 3)) (hv : (Int16.ofInt i).toInt32 = v) (kk : V κ M Qf n q (pc + 3) lv (.int v :: st) μ) : V κ M Qf n q pc lv (st) μ := by
  obtain ⟨p, l, e, R, s, m, args, below, meth, c, wd, A⟩ := κ
  intro hF ls H locs hl hP hD hS
  exact lv_sipush hF.1 hF.2.1 hd hv (kk hF ls H locs hl hP hD hS)
theorem v_lconst {i : Fin 2} {v : Int64} (hd : decode M.2.1 pc = .ok (.lconst i, 1)) (hv : Int64.ofNat (i : Nat) = v) (kk : V κ M Qf n q (pc + 1) lv (.long v :: st) μ) : V κ M Qf n q pc lv (st) μ := by
  obtain ⟨p, l, e, R, s, m, args, below, meth, c, wd, A⟩ := κ
  intro hF ls H locs hl hP hD hS
  exact lv_lconst hF.1 hF.2.1 hd hv (kk hF ls H locs hl hP hD hS)
theorem v_iload_n {k : Fin 4} (i : Nat) {x : Int32} (hd : decode M.2.1 pc = .ok (.iload_n k, 1)) (hi : (k : Nat) = i) (h : lkp lv i = some (.int x)) (kk : V κ M Qf n q (pc + 1) lv (.int x :: st) μ) : V κ M Qf n q pc lv (st) μ := by
  obtain ⟨p, l, e, R, s, m, args, below, meth, c, wd, A⟩ := κ
  intro hF ls H locs hl hP hD hS
  exact lv_iload_n hF.1 hF.2.1 hd hi (lkp_at hl h) (kk hF ls H locs hl hP hD hS)
theorem v_iload {i : Nat} {x : Int32} (hd : decode M.2.1 pc = .ok (.iload i, 2)) (h : lkp lv i = some (.int x)) (kk : V κ M Qf n q (pc + 2) lv (.int x :: st) μ) : V κ M Qf n q pc lv (st) μ := by
  obtain ⟨p, l, e, R, s, m, args, below, meth, c, wd, A⟩ := κ
  intro hF ls H locs hl hP hD hS
  exact lv_iload hF.1 hF.2.1 hd (lkp_at hl h) (kk hF ls H locs hl hP hD hS)
theorem v_istore_n {k : Fin 4} (i : Nat) {x : Int32} (hd : decode M.2.1 pc = .ok (.istore_n k, 1)) (hi : (k : Nat) = i) (hn : i < M.2.2.1) (kk : V κ M Qf n q (pc + 1) (st1 lv i (.int x)) st μ) : V κ M Qf n q pc lv (.int x :: st) μ := by
  obtain ⟨p, l, e, R, s, m, args, below, meth, c, wd, A⟩ := κ
  intro hF ls H locs hl hP hD hS
  exact lv_istore_n hF.1 hF.2.1 hd hi hl hn (cvl_st1 _ _ _ (.int x)) (fun ls hl => (kk hF ls H locs hl hP hD hS))
theorem v_istore {i : Nat} {x : Int32} (hd : decode M.2.1 pc = .ok (.istore i, 2)) (hn : i < M.2.2.1) (kk : V κ M Qf n q (pc + 2) (st1 lv i (.int x)) st μ) : V κ M Qf n q pc lv (.int x :: st) μ := by
  obtain ⟨p, l, e, R, s, m, args, below, meth, c, wd, A⟩ := κ
  intro hF ls H locs hl hP hD hS
  exact lv_istore hF.1 hF.2.1 hd  hl hn (cvl_st1 _ _ _ (.int x)) (fun ls hl => (kk hF ls H locs hl hP hD hS))
theorem v_lload_n {k : Fin 4} (i : Nat) {x : Int64} (hd : decode M.2.1 pc = .ok (.lload_n k, 1)) (hi : (k : Nat) = i) (h : lkp lv i = some (.long x)) (kk : V κ M Qf n q (pc + 1) lv (.long x :: st) μ) : V κ M Qf n q pc lv (st) μ := by
  obtain ⟨p, l, e, R, s, m, args, below, meth, c, wd, A⟩ := κ
  intro hF ls H locs hl hP hD hS
  exact lv_lload_n hF.1 hF.2.1 hd hi (lkp_at hl h) (kk hF ls H locs hl hP hD hS)
theorem v_lload {i : Nat} {x : Int64} (hd : decode M.2.1 pc = .ok (.lload i, 2)) (h : lkp lv i = some (.long x)) (kk : V κ M Qf n q (pc + 2) lv (.long x :: st) μ) : V κ M Qf n q pc lv (st) μ := by
  obtain ⟨p, l, e, R, s, m, args, below, meth, c, wd, A⟩ := κ
  intro hF ls H locs hl hP hD hS
  exact lv_lload hF.1 hF.2.1 hd (lkp_at hl h) (kk hF ls H locs hl hP hD hS)
theorem v_lstore_n {k : Fin 4} (i : Nat) {x : Int64} (hd : decode M.2.1 pc = .ok (.lstore_n k, 1)) (hi : (k : Nat) = i) (hn : i + 1 < M.2.2.1) (kk : V κ M Qf n q (pc + 1) (st2 lv i (.long x)) st μ) : V κ M Qf n q pc lv (.long x :: st) μ := by
  obtain ⟨p, l, e, R, s, m, args, below, meth, c, wd, A⟩ := κ
  intro hF ls H locs hl hP hD hS
  exact lv_lstore_n hF.1 hF.2.1 hd hi hl hn (cvl_st2 _ _ _ (.long x)) (fun ls hl => (kk hF ls H locs hl hP hD hS))
theorem v_lstore {i : Nat} {x : Int64} (hd : decode M.2.1 pc = .ok (.lstore i, 2)) (hn : i + 1 < M.2.2.1) (kk : V κ M Qf n q (pc + 2) (st2 lv i (.long x)) st μ) : V κ M Qf n q pc lv (.long x :: st) μ := by
  obtain ⟨p, l, e, R, s, m, args, below, meth, c, wd, A⟩ := κ
  intro hF ls H locs hl hP hD hS
  exact lv_lstore hF.1 hF.2.1 hd  hl hn (cvl_st2 _ _ _ (.long x)) (fun ls hl => (kk hF ls H locs hl hP hD hS))
theorem v_aload_n {k : Fin 4} (i : Nat) {x : Nat} (hd : decode M.2.1 pc = .ok (.aload_n k, 1)) (hi : (k : Nat) = i) (h : lkp lv i = some (.ref x)) (kk : V κ M Qf n q (pc + 1) lv (.ref x :: st) μ) : V κ M Qf n q pc lv (st) μ := by
  obtain ⟨p, l, e, R, s, m, args, below, meth, c, wd, A⟩ := κ
  intro hF ls H locs hl hP hD hS
  exact lv_aload_n hF.1 hF.2.1 hd hi (lkp_at hl h) (kk hF ls H locs hl hP hD hS)
theorem v_aload {i : Nat} {x : Nat} (hd : decode M.2.1 pc = .ok (.aload i, 2)) (h : lkp lv i = some (.ref x)) (kk : V κ M Qf n q (pc + 2) lv (.ref x :: st) μ) : V κ M Qf n q pc lv (st) μ := by
  obtain ⟨p, l, e, R, s, m, args, below, meth, c, wd, A⟩ := κ
  intro hF ls H locs hl hP hD hS
  exact lv_aload hF.1 hF.2.1 hd (lkp_at hl h) (kk hF ls H locs hl hP hD hS)
theorem v_astore_n {k : Fin 4} (i : Nat) {x : Nat} (hd : decode M.2.1 pc = .ok (.astore_n k, 1)) (hi : (k : Nat) = i) (hn : i < M.2.2.1) (kk : V κ M Qf n q (pc + 1) (st1 lv i (.ref x)) st μ) : V κ M Qf n q pc lv (.ref x :: st) μ := by
  obtain ⟨p, l, e, R, s, m, args, below, meth, c, wd, A⟩ := κ
  intro hF ls H locs hl hP hD hS
  exact lv_astore_n hF.1 hF.2.1 hd hi hl hn (cvl_st1 _ _ _ (.ref x)) (fun ls hl => (kk hF ls H locs hl hP hD hS))
theorem v_astore {i : Nat} {x : Nat} (hd : decode M.2.1 pc = .ok (.astore i, 2)) (hn : i < M.2.2.1) (kk : V κ M Qf n q (pc + 2) (st1 lv i (.ref x)) st μ) : V κ M Qf n q pc lv (.ref x :: st) μ := by
  obtain ⟨p, l, e, R, s, m, args, below, meth, c, wd, A⟩ := κ
  intro hF ls H locs hl hP hD hS
  exact lv_astore hF.1 hF.2.1 hd  hl hn (cvl_st1 _ _ _ (.ref x)) (fun ls hl => (kk hF ls H locs hl hP hD hS))
theorem v_iinc {i : Nat} {d : Int} {x v : Int32} (hd : decode M.2.1 pc = .ok (.iinc i d, 3)) (h : lkp lv i = some (.int x)) (hv : x + Int32.ofInt d = v) (hn : i < M.2.2.1) (kk : V κ M Qf n q (pc + 3) (st1 lv i (.int v)) st μ) : V κ M Qf n q pc lv st μ := by
  obtain ⟨p, l, e, R, s, m, args, below, meth, c, wd, A⟩ := κ
  intro hF ls H locs hl hP hD hS
  obtain ⟨k, hk⟩ := List.getElem?_of_mem (List.mem_map.mpr ⟨(i, .int x), lkp_mem h, rfl⟩ : (i, cnc wd.1 (.int x)) ∈ cvl wd.1 lv)
  exact lv_iinc hF.1 hF.2.1 hd hl hk hv hn (cvl_st1 _ _ _ (.int v)) (fun ls hl => (kk hF ls H locs hl hP hD hS))
theorem v_iadd {x y : Int32} (hd : decode M.2.1 pc = .ok (.iadd, 1)) (kk : V κ M Qf n q (pc + 1) lv (.int (x + y) :: st) μ) : V κ M Qf n q pc lv (.int y :: .int x :: st) μ := by
  obtain ⟨p, l, e, R, s, m, args, below, meth, c, wd, A⟩ := κ
  intro hF ls H locs hl hP hD hS
  exact lv_iadd hF.1 hF.2.1 hd  (kk hF ls H locs hl hP hD hS)
theorem v_isub {x y : Int32} (hd : decode M.2.1 pc = .ok (.isub, 1)) (kk : V κ M Qf n q (pc + 1) lv (.int (x - y) :: st) μ) : V κ M Qf n q pc lv (.int y :: .int x :: st) μ := by
  obtain ⟨p, l, e, R, s, m, args, below, meth, c, wd, A⟩ := κ
  intro hF ls H locs hl hP hD hS
  exact lv_isub hF.1 hF.2.1 hd  (kk hF ls H locs hl hP hD hS)
theorem v_imul {x y : Int32} (hd : decode M.2.1 pc = .ok (.imul, 1)) (kk : V κ M Qf n q (pc + 1) lv (.int (x * y) :: st) μ) : V κ M Qf n q pc lv (.int y :: .int x :: st) μ := by
  obtain ⟨p, l, e, R, s, m, args, below, meth, c, wd, A⟩ := κ
  intro hF ls H locs hl hP hD hS
  exact lv_imul hF.1 hF.2.1 hd  (kk hF ls H locs hl hP hD hS)
theorem v_iand {x y : Int32} (hd : decode M.2.1 pc = .ok (.iand, 1)) (kk : V κ M Qf n q (pc + 1) lv (.int (x &&& y) :: st) μ) : V κ M Qf n q pc lv (.int y :: .int x :: st) μ := by
  obtain ⟨p, l, e, R, s, m, args, below, meth, c, wd, A⟩ := κ
  intro hF ls H locs hl hP hD hS
  exact lv_iand hF.1 hF.2.1 hd  (kk hF ls H locs hl hP hD hS)
theorem v_ior {x y : Int32} (hd : decode M.2.1 pc = .ok (.ior, 1)) (kk : V κ M Qf n q (pc + 1) lv (.int (x ||| y) :: st) μ) : V κ M Qf n q pc lv (.int y :: .int x :: st) μ := by
  obtain ⟨p, l, e, R, s, m, args, below, meth, c, wd, A⟩ := κ
  intro hF ls H locs hl hP hD hS
  exact lv_ior hF.1 hF.2.1 hd  (kk hF ls H locs hl hP hD hS)
theorem v_ixor {x y : Int32} (hd : decode M.2.1 pc = .ok (.ixor, 1)) (kk : V κ M Qf n q (pc + 1) lv (.int (x ^^^ y) :: st) μ) : V κ M Qf n q pc lv (.int y :: .int x :: st) μ := by
  obtain ⟨p, l, e, R, s, m, args, below, meth, c, wd, A⟩ := κ
  intro hF ls H locs hl hP hD hS
  exact lv_ixor hF.1 hF.2.1 hd  (kk hF ls H locs hl hP hD hS)
theorem v_ishl {x y : Int32} (hd : decode M.2.1 pc = .ok (.ishl, 1)) (kk : V κ M Qf n q (pc + 1) lv (.int (x <<< (y &&& 31)) :: st) μ) : V κ M Qf n q pc lv (.int y :: .int x :: st) μ := by
  obtain ⟨p, l, e, R, s, m, args, below, meth, c, wd, A⟩ := κ
  intro hF ls H locs hl hP hD hS
  exact lv_ishl hF.1 hF.2.1 hd  (kk hF ls H locs hl hP hD hS)
theorem v_ishr {x y : Int32} (hd : decode M.2.1 pc = .ok (.ishr, 1)) (kk : V κ M Qf n q (pc + 1) lv (.int (x >>> (y &&& 31)) :: st) μ) : V κ M Qf n q pc lv (.int y :: .int x :: st) μ := by
  obtain ⟨p, l, e, R, s, m, args, below, meth, c, wd, A⟩ := κ
  intro hF ls H locs hl hP hD hS
  exact lv_ishr hF.1 hF.2.1 hd  (kk hF ls H locs hl hP hD hS)
theorem v_idiv {x y : Int32} (hd : decode M.2.1 pc = .ok (.idiv, 1)) (hne : ¬ y = 0) (kk : V κ M Qf n q (pc + 1) lv (.int (x / y) :: st) μ) : V κ M Qf n q pc lv (.int y :: .int x :: st) μ := by
  obtain ⟨p, l, e, R, s, m, args, below, meth, c, wd, A⟩ := κ
  intro hF ls H locs hl hP hD hS
  exact lv_idiv hF.1 hF.2.1 hd hne (kk hF ls H locs hl hP hD hS)
theorem v_irem {x y : Int32} (hd : decode M.2.1 pc = .ok (.irem, 1)) (hne : ¬ y = 0) (kk : V κ M Qf n q (pc + 1) lv (.int (x - x / y * y) :: st) μ) : V κ M Qf n q pc lv (.int y :: .int x :: st) μ := by
  obtain ⟨p, l, e, R, s, m, args, below, meth, c, wd, A⟩ := κ
  intro hF ls H locs hl hP hD hS
  exact lv_irem hF.1 hF.2.1 hd hne (kk hF ls H locs hl hP hD hS)
theorem v_ladd {x y : Int64} (hd : decode M.2.1 pc = .ok (.ladd, 1)) (kk : V κ M Qf n q (pc + 1) lv (.long (x + y) :: st) μ) : V κ M Qf n q pc lv (.long y :: .long x :: st) μ := by
  obtain ⟨p, l, e, R, s, m, args, below, meth, c, wd, A⟩ := κ
  intro hF ls H locs hl hP hD hS
  exact lv_ladd hF.1 hF.2.1 hd  (kk hF ls H locs hl hP hD hS)
theorem v_lsub {x y : Int64} (hd : decode M.2.1 pc = .ok (.lsub, 1)) (kk : V κ M Qf n q (pc + 1) lv (.long (x - y) :: st) μ) : V κ M Qf n q pc lv (.long y :: .long x :: st) μ := by
  obtain ⟨p, l, e, R, s, m, args, below, meth, c, wd, A⟩ := κ
  intro hF ls H locs hl hP hD hS
  exact lv_lsub hF.1 hF.2.1 hd  (kk hF ls H locs hl hP hD hS)
theorem v_lmul {x y : Int64} (hd : decode M.2.1 pc = .ok (.lmul, 1)) (kk : V κ M Qf n q (pc + 1) lv (.long (x * y) :: st) μ) : V κ M Qf n q pc lv (.long y :: .long x :: st) μ := by
  obtain ⟨p, l, e, R, s, m, args, below, meth, c, wd, A⟩ := κ
  intro hF ls H locs hl hP hD hS
  exact lv_lmul hF.1 hF.2.1 hd  (kk hF ls H locs hl hP hD hS)
theorem v_ldiv {x y : Int64} (hd : decode M.2.1 pc = .ok (.ldiv, 1)) (hne : ¬ y = 0) (kk : V κ M Qf n q (pc + 1) lv (.long (x / y) :: st) μ) : V κ M Qf n q pc lv (.long y :: .long x :: st) μ := by
  obtain ⟨p, l, e, R, s, m, args, below, meth, c, wd, A⟩ := κ
  intro hF ls H locs hl hP hD hS
  exact lv_ldiv hF.1 hF.2.1 hd hne (kk hF ls H locs hl hP hD hS)
theorem v_lrem {x y : Int64} (hd : decode M.2.1 pc = .ok (.lrem, 1)) (hne : ¬ y = 0) (kk : V κ M Qf n q (pc + 1) lv (.long (x - x / y * y) :: st) μ) : V κ M Qf n q pc lv (.long y :: .long x :: st) μ := by
  obtain ⟨p, l, e, R, s, m, args, below, meth, c, wd, A⟩ := κ
  intro hF ls H locs hl hP hD hS
  exact lv_lrem hF.1 hF.2.1 hd hne (kk hF ls H locs hl hP hD hS)
theorem v_lcmp {x y : Int64} (hd : decode M.2.1 pc = .ok (.lcmp, 1)) (kk : V κ M Qf n q (pc + 1) lv (.int (lg_cmp x y) :: st) μ) : V κ M Qf n q pc lv (.long y :: .long x :: st) μ := by
  obtain ⟨p, l, e, R, s, m, args, below, meth, c, wd, A⟩ := κ
  intro hF ls H locs hl hP hD hS
  exact W.lcmp hF.1 hF.2.1 hd  (kk hF ls H locs hl hP hD hS)
theorem v_ineg {x : Int32} (hd : decode M.2.1 pc = .ok (.ineg, 1)) (kk : V κ M Qf n q (pc + 1) lv (.int (0 - x) :: st) μ) : V κ M Qf n q pc lv (.int x :: st) μ := by
  obtain ⟨p, l, e, R, s, m, args, below, meth, c, wd, A⟩ := κ
  intro hF ls H locs hl hP hD hS
  exact lv_ineg hF.1 hF.2.1 hd  (kk hF ls H locs hl hP hD hS)
theorem v_i2l {x : Int32} (hd : decode M.2.1 pc = .ok (.i2l, 1)) (kk : V κ M Qf n q (pc + 1) lv (.long x.toInt64 :: st) μ) : V κ M Qf n q pc lv (.int x :: st) μ := by
  obtain ⟨p, l, e, R, s, m, args, below, meth, c, wd, A⟩ := κ
  intro hF ls H locs hl hP hD hS
  exact lv_i2l hF.1 hF.2.1 hd rfl (kk hF ls H locs hl hP hD hS)
theorem v_l2i {x : Int64} (hd : decode M.2.1 pc = .ok (.l2i, 1)) (kk : V κ M Qf n q (pc + 1) lv (.int x.toInt32 :: st) μ) : V κ M Qf n q pc lv (.long x :: st) μ := by
  obtain ⟨p, l, e, R, s, m, args, below, meth, c, wd, A⟩ := κ
  intro hF ls H locs hl hP hD hS
  exact lv_l2i hF.1 hF.2.1 hd rfl (kk hF ls H locs hl hP hD hS)
theorem v_i2c {x : Int32} (hd : decode M.2.1 pc = .ok (.i2c, 1)) (kk : V κ M Qf n q (pc + 1) lv (.int (x.toUInt32 % 65536).toInt32 :: st) μ) : V κ M Qf n q pc lv (.int x :: st) μ := by
  obtain ⟨p, l, e, R, s, m, args, below, meth, c, wd, A⟩ := κ
  intro hF ls H locs hl hP hD hS
  exact lv_i2c hF.1 hF.2.1 hd rfl (kk hF ls H locs hl hP hD hS)
theorem v_dup {a : Value} (hd : decode M.2.1 pc = .ok (.dup, 1)) (ha : a.category = 1) (kk : V κ M Qf n q (pc + 1) lv (a :: a :: st) μ) : V κ M Qf n q pc lv (a :: st) μ := by
  obtain ⟨p, l, e, R, s, m, args, below, meth, c, wd, A⟩ := κ
  intro hF ls H locs hl hP hD hS
  exact lv_dup hF.1 hF.2.1 hd ((cnc_cat _ _).trans ha) (kk hF ls H locs hl hP hD hS)
theorem v_pop {a : Value} (hd : decode M.2.1 pc = .ok (.pop, 1)) (ha : a.category = 1) (kk : V κ M Qf n q (pc + 1) lv (st) μ) : V κ M Qf n q pc lv (a :: st) μ := by
  obtain ⟨p, l, e, R, s, m, args, below, meth, c, wd, A⟩ := κ
  intro hF ls H locs hl hP hD hS
  exact lv_pop hF.1 hF.2.1 hd ((cnc_cat _ _).trans ha) (kk hF ls H locs hl hP hD hS)
theorem v_dup2 {a b : Value} (hd : decode M.2.1 pc = .ok (.dup2, 1)) (ha : a.category = 1) (hb : b.category = 1) (kk : V κ M Qf n q (pc + 1) lv (a :: b :: a :: b :: st) μ) : V κ M Qf n q pc lv (a :: b :: st) μ := by
  obtain ⟨p, l, e, R, s, m, args, below, meth, c, wd, A⟩ := κ
  intro hF ls H locs hl hP hD hS
  exact lv_dup2_11 hF.1 hF.2.1 hd ((cnc_cat _ _).trans ha) ((cnc_cat _ _).trans hb) (kk hF ls H locs hl hP hD hS)
theorem v_if_eq {x : Int32} {off : Int} {tgt : Nat} (hd : decode M.2.1 pc = .ok (.ifCond .eq off, 3)) (ht : (pc : Int) + off = (tgt : Int)) (kt : x = 0 → V κ M Qf n q tgt lv st μ) (kf : ¬ x = 0 → V κ M Qf n q (pc + 3) lv st μ) : V κ M Qf n q pc lv (.int x :: st) μ := by
  obtain ⟨p, l, e, R, s, m, args, below, meth, c, wd, A⟩ := κ
  intro hF ls H locs hl hP hD hS
  exact lv_if_eq hF.1 hF.2.1 hd ht (fun hc => kt hc hF ls H locs hl hP hD hS) (fun hc => kf hc hF ls H locs hl hP hD hS)
theorem v_icmp_eq {x y : Int32} {off : Int} {tgt : Nat} (hd : decode M.2.1 pc = .ok (.if_icmp .eq off, 3)) (ht : (pc : Int) + off = (tgt : Int)) (kt : x = y → V κ M Qf n q tgt lv st μ) (kf : ¬ x = y → V κ M Qf n q (pc + 3) lv st μ) : V κ M Qf n q pc lv (.int y :: .int x :: st) μ := by
  obtain ⟨p, l, e, R, s, m, args, below, meth, c, wd, A⟩ := κ
  intro hF ls H locs hl hP hD hS
  exact lv_icmp_eq hF.1 hF.2.1 hd ht (fun hc => kt hc hF ls H locs hl hP hD hS) (fun hc => kf hc hF ls H locs hl hP hD hS)
theorem v_if_ne {x : Int32} {off : Int} {tgt : Nat} (hd : decode M.2.1 pc = .ok (.ifCond .ne off, 3)) (ht : (pc : Int) + off = (tgt : Int)) (kt : ¬ x = 0 → V κ M Qf n q tgt lv st μ) (kf : x = 0 → V κ M Qf n q (pc + 3) lv st μ) : V κ M Qf n q pc lv (.int x :: st) μ := by
  obtain ⟨p, l, e, R, s, m, args, below, meth, c, wd, A⟩ := κ
  intro hF ls H locs hl hP hD hS
  exact lv_if_ne hF.1 hF.2.1 hd ht (fun hc => kt hc hF ls H locs hl hP hD hS) (fun hc => kf hc hF ls H locs hl hP hD hS)
theorem v_icmp_ne {x y : Int32} {off : Int} {tgt : Nat} (hd : decode M.2.1 pc = .ok (.if_icmp .ne off, 3)) (ht : (pc : Int) + off = (tgt : Int)) (kt : ¬ x = y → V κ M Qf n q tgt lv st μ) (kf : x = y → V κ M Qf n q (pc + 3) lv st μ) : V κ M Qf n q pc lv (.int y :: .int x :: st) μ := by
  obtain ⟨p, l, e, R, s, m, args, below, meth, c, wd, A⟩ := κ
  intro hF ls H locs hl hP hD hS
  exact lv_icmp_ne hF.1 hF.2.1 hd ht (fun hc => kt hc hF ls H locs hl hP hD hS) (fun hc => kf hc hF ls H locs hl hP hD hS)
theorem v_if_lt {x : Int32} {off : Int} {tgt : Nat} (hd : decode M.2.1 pc = .ok (.ifCond .lt off, 3)) (ht : (pc : Int) + off = (tgt : Int)) (kt : x < 0 → V κ M Qf n q tgt lv st μ) (kf : ¬ x < 0 → V κ M Qf n q (pc + 3) lv st μ) : V κ M Qf n q pc lv (.int x :: st) μ := by
  obtain ⟨p, l, e, R, s, m, args, below, meth, c, wd, A⟩ := κ
  intro hF ls H locs hl hP hD hS
  exact lv_if_lt hF.1 hF.2.1 hd ht (fun hc => kt hc hF ls H locs hl hP hD hS) (fun hc => kf hc hF ls H locs hl hP hD hS)
theorem v_icmp_lt {x y : Int32} {off : Int} {tgt : Nat} (hd : decode M.2.1 pc = .ok (.if_icmp .lt off, 3)) (ht : (pc : Int) + off = (tgt : Int)) (kt : x < y → V κ M Qf n q tgt lv st μ) (kf : ¬ x < y → V κ M Qf n q (pc + 3) lv st μ) : V κ M Qf n q pc lv (.int y :: .int x :: st) μ := by
  obtain ⟨p, l, e, R, s, m, args, below, meth, c, wd, A⟩ := κ
  intro hF ls H locs hl hP hD hS
  exact lv_icmp_lt hF.1 hF.2.1 hd ht (fun hc => kt hc hF ls H locs hl hP hD hS) (fun hc => kf hc hF ls H locs hl hP hD hS)
theorem v_if_ge {x : Int32} {off : Int} {tgt : Nat} (hd : decode M.2.1 pc = .ok (.ifCond .ge off, 3)) (ht : (pc : Int) + off = (tgt : Int)) (kt : 0 ≤ x → V κ M Qf n q tgt lv st μ) (kf : ¬ 0 ≤ x → V κ M Qf n q (pc + 3) lv st μ) : V κ M Qf n q pc lv (.int x :: st) μ := by
  obtain ⟨p, l, e, R, s, m, args, below, meth, c, wd, A⟩ := κ
  intro hF ls H locs hl hP hD hS
  exact lv_if_ge hF.1 hF.2.1 hd ht (fun hc => kt hc hF ls H locs hl hP hD hS) (fun hc => kf hc hF ls H locs hl hP hD hS)
theorem v_icmp_ge {x y : Int32} {off : Int} {tgt : Nat} (hd : decode M.2.1 pc = .ok (.if_icmp .ge off, 3)) (ht : (pc : Int) + off = (tgt : Int)) (kt : y ≤ x → V κ M Qf n q tgt lv st μ) (kf : ¬ y ≤ x → V κ M Qf n q (pc + 3) lv st μ) : V κ M Qf n q pc lv (.int y :: .int x :: st) μ := by
  obtain ⟨p, l, e, R, s, m, args, below, meth, c, wd, A⟩ := κ
  intro hF ls H locs hl hP hD hS
  exact lv_icmp_ge hF.1 hF.2.1 hd ht (fun hc => kt hc hF ls H locs hl hP hD hS) (fun hc => kf hc hF ls H locs hl hP hD hS)
theorem v_if_gt {x : Int32} {off : Int} {tgt : Nat} (hd : decode M.2.1 pc = .ok (.ifCond .gt off, 3)) (ht : (pc : Int) + off = (tgt : Int)) (kt : 0 < x → V κ M Qf n q tgt lv st μ) (kf : ¬ 0 < x → V κ M Qf n q (pc + 3) lv st μ) : V κ M Qf n q pc lv (.int x :: st) μ := by
  obtain ⟨p, l, e, R, s, m, args, below, meth, c, wd, A⟩ := κ
  intro hF ls H locs hl hP hD hS
  exact lv_if_gt hF.1 hF.2.1 hd ht (fun hc => kt hc hF ls H locs hl hP hD hS) (fun hc => kf hc hF ls H locs hl hP hD hS)
theorem v_icmp_gt {x y : Int32} {off : Int} {tgt : Nat} (hd : decode M.2.1 pc = .ok (.if_icmp .gt off, 3)) (ht : (pc : Int) + off = (tgt : Int)) (kt : y < x → V κ M Qf n q tgt lv st μ) (kf : ¬ y < x → V κ M Qf n q (pc + 3) lv st μ) : V κ M Qf n q pc lv (.int y :: .int x :: st) μ := by
  obtain ⟨p, l, e, R, s, m, args, below, meth, c, wd, A⟩ := κ
  intro hF ls H locs hl hP hD hS
  exact lv_icmp_gt hF.1 hF.2.1 hd ht (fun hc => kt hc hF ls H locs hl hP hD hS) (fun hc => kf hc hF ls H locs hl hP hD hS)
theorem v_if_le {x : Int32} {off : Int} {tgt : Nat} (hd : decode M.2.1 pc = .ok (.ifCond .le off, 3)) (ht : (pc : Int) + off = (tgt : Int)) (kt : x ≤ 0 → V κ M Qf n q tgt lv st μ) (kf : ¬ x ≤ 0 → V κ M Qf n q (pc + 3) lv st μ) : V κ M Qf n q pc lv (.int x :: st) μ := by
  obtain ⟨p, l, e, R, s, m, args, below, meth, c, wd, A⟩ := κ
  intro hF ls H locs hl hP hD hS
  exact lv_if_le hF.1 hF.2.1 hd ht (fun hc => kt hc hF ls H locs hl hP hD hS) (fun hc => kf hc hF ls H locs hl hP hD hS)
theorem v_icmp_le {x y : Int32} {off : Int} {tgt : Nat} (hd : decode M.2.1 pc = .ok (.if_icmp .le off, 3)) (ht : (pc : Int) + off = (tgt : Int)) (kt : x ≤ y → V κ M Qf n q tgt lv st μ) (kf : ¬ x ≤ y → V κ M Qf n q (pc + 3) lv st μ) : V κ M Qf n q pc lv (.int y :: .int x :: st) μ := by
  obtain ⟨p, l, e, R, s, m, args, below, meth, c, wd, A⟩ := κ
  intro hF ls H locs hl hP hD hS
  exact lv_icmp_le hF.1 hF.2.1 hd ht (fun hc => kt hc hF ls H locs hl hP hD hS) (fun hc => kf hc hF ls H locs hl hP hD hS)
theorem v_goto {off : Int} {tgt : Nat} (hd : decode M.2.1 pc = .ok (.goto off, 3)) (ht : (pc : Int) + off = (tgt : Int)) (kk : V κ M Qf n q tgt lv st μ) : V κ M Qf n q pc lv st μ := by
  obtain ⟨p, l, e, R, s, m, args, below, meth, c, wd, A⟩ := κ
  intro hF ls H locs hl hP hD hS
  exact lv_goto hF.1 hF.2.1 hd ht (kk hF ls H locs hl hP hD hS)
theorem v_tsw_hit {dflt lo hi : Int} {offs : Array Int} {len : Nat} {x : Int32} {off : Int} {tgt : Nat} (v : Nat) (hx : x = nI v) (hv : v < 2 ^ 31) (hd : decode M.2.1 pc = .ok (.tableswitch dflt lo hi offs, len)) (h1 : ¬ (v : Int) < lo) (h2 : ¬ hi < (v : Int)) (ho : offs[((v : Int) - lo).toNat]? = some off) (ht : (pc : Int) + off = (tgt : Int)) (kk : V κ M Qf n q tgt lv st μ) : V κ M Qf n q pc lv (.int x :: st) μ := by
  obtain ⟨p, l, e, R, s, m, args, below, meth, c, wd, A⟩ := κ
  intro hF ls H locs hl hP hD hS
  have e : x.toInt = (v : Int) := by rw [hx]; exact nI_toInt hv
  exact lv_tableIn hF.1 hF.2.1 hd (by rw [e]; exact h1) (by rw [e]; exact h2) (by rw [e]; exact ho) ht (kk hF ls H locs hl hP hD hS)
theorem v_tsw_miss {dflt lo hi : Int} {offs : Array Int} {len : Nat} {x : Int32} {tgt : Nat} (hd : decode M.2.1 pc = .ok (.tableswitch dflt lo hi offs, len)) (h0 : 0 ≤ lo) (h1 : hi < 2 ^ 31) (hx : ∀ v : Nat, lo ≤ (v : Int) → (v : Int) ≤ hi → ¬ x = nI v) (ht : (pc : Int) + dflt = (tgt : Int)) (kk : V κ M Qf n q tgt lv st μ) : V κ M Qf n q pc lv (.int x :: st) μ := by
  obtain ⟨p, l, e, R, s, m, args, below, meth, c, wd, A⟩ := κ
  intro hF ls H locs hl hP hD hS
  refine lv_tableOut hF.1 hF.2.1 hd ?_ ht (kk hF ls H locs hl hP hD hS)
  rcases Int.lt_or_le x.toInt lo with h | h
  · exact Or.inl h
  · rcases Int.lt_or_le hi x.toInt with h' | h'
    · exact Or.inr h'
    · exfalso
      refine hx x.toInt.toNat (by omega) (by omega) (Int32.toInt_inj.mp ?_)
      rw [nI_toInt (by omega)]
      omega
theorem v_ldc {idx : Nat} {v : Int32} (hd : decode M.2.1 pc = .ok (.ldc idx, 2)) (hw : Cond.constant M.1.cls idx v ∈ TBL) (kk : V κ M Qf n q (pc + 2) lv (.int v :: st) μ) : V κ M Qf n q pc lv st μ := by
  obtain ⟨p, l, e, R, s, m, args, below, meth, c, wd, A⟩ := κ
  intro hF ls H locs hl hP hD hS
  exact lv_ldc hF.1 hF.2.1 hF.2.2.2.1 (hF.2.2.2.2.1 _ hw) hd (kk hF ls H locs hl hP hD hS)
theorem v_ldc2 {idx : Nat} {v : Int64} (hd : decode M.2.1 pc = .ok (.ldc2_w idx, 3)) (hw : Cond.constantLong M.1.cls idx v ∈ TBL) (kk : V κ M Qf n q (pc + 3) lv (.long v :: st) μ) : V κ M Qf n q pc lv st μ := by
  obtain ⟨p, l, e, R, s, m, args, below, meth, c, wd, A⟩ := κ
  intro hF ls H locs hl hP hD hS
  exact lv_ldc2 hF.1 hF.2.1 hF.2.2.2.1 (hF.2.2.2.2.1 _ hw) hd (kk hF ls H locs hl hP hD hS)
theorem v_pick {lv' : List (Nat × Value)} (ks : List Nat) (h : lv_pick lv ks = lv') (kk : V κ M Qf n q pc lv' st μ) : V κ M Qf n q pc lv st μ := by
  obtain ⟨p, l, e, R, s, m, args, below, meth, c, wd, A⟩ := κ
  intro hF ls H locs hl hP hD hS
  refine kk hF ls H locs ⟨hl.1, hl.2.1, fun a ha => ?_⟩ hP hD hS
  obtain ⟨b, hb, rfl⟩ := List.mem_map.mp ha
  rw [← h] at hb
  obtain ⟨k, -, hk⟩ := List.mem_filterMap.mp hb
  exact hl.2.2 _ (List.mem_map.mpr ⟨b, List.mem_of_getElem? hk, rfl⟩)
theorem v_getI {C : String} {T : u_T} {N ci j o idx k : Nat} (hs : shp k = .inl ci) (hs9 : ci ≠ 9) (hc : vwCl[ci]? = some (C, T, N)) (hin : ∀ w ∈ u_ws C T N, w ∈ TBL) (hj : j < N) (hw : Cond.fieldLink M.1.cls idx (T j).1 (T j).2.1 (T j).2.2.1 ∈ TBL) (hf : (fdT.getD ci [])[j]? = some (0, o)) (hd : decode M.2.1 pc = .ok (.getfield idx, 3)) (kk : V κ M Qf n q (pc + 3) lv (.int (μ.1 k j) :: st) μ) : V κ M Qf n q pc lv (.ref k :: st) μ := by
  obtain ⟨p, l, e, R, s, m, args, below, meth, c, wd, A⟩ := κ
  intro hF ls H locs hl hP hD hS
  exact va_get hF.1 hF.2.1 hF.2.2.2.2.1 hin hF.2.2.2.1 hF.2.2.2.2.2.2.2.1 hP k (cells_at hs (fun h => hs9 (Sum.inl.inj h))) hc j hj (hF.2.2.2.2.1 _ hw) (fun _ h => h) (flds_at hf) hd (kk hF ls H locs hl hP hD hS)
theorem v_getL {C : String} {T : u_T} {N ci j o idx k : Nat} (hs : shp k = .inl ci) (hs9 : ci ≠ 9) (hc : vwCl[ci]? = some (C, T, N)) (hin : ∀ w ∈ u_ws C T N, w ∈ TBL) (hj : j < N) (hw : Cond.fieldLink M.1.cls idx (T j).1 (T j).2.1 (T j).2.2.1 ∈ TBL) (hf : (fdT.getD ci [])[j]? = some (1, o)) (hd : decode M.2.1 pc = .ok (.getfield idx, 3)) (kk : V κ M Qf n q (pc + 3) lv (.long (μ.2 k j) :: st) μ) : V κ M Qf n q pc lv (.ref k :: st) μ := by
  obtain ⟨p, l, e, R, s, m, args, below, meth, c, wd, A⟩ := κ
  intro hF ls H locs hl hP hD hS
  exact va_get hF.1 hF.2.1 hF.2.2.2.2.1 hin hF.2.2.2.1 hF.2.2.2.2.2.2.2.1 hP k (cells_at hs (fun h => hs9 (Sum.inl.inj h))) hc j hj (hF.2.2.2.2.1 _ hw) (fun _ h => h) (flds_at hf) hd (kk hF ls H locs hl hP hD hS)
theorem v_getR {C : String} {T : u_T} {N ci j o idx k : Nat} (hs : shp k = .inl ci) (hs9 : ci ≠ 9) (hc : vwCl[ci]? = some (C, T, N)) (hin : ∀ w ∈ u_ws C T N, w ∈ TBL) (hj : j < N) (hw : Cond.fieldLink M.1.cls idx (T j).1 (T j).2.1 (T j).2.2.1 ∈ TBL) (hf : (fdT.getD ci [])[j]? = some (2, o)) (hd : decode M.2.1 pc = .ok (.getfield idx, 3)) (kk : V κ M Qf n q (pc + 3) lv (.ref (k + o) :: st) μ) : V κ M Qf n q pc lv (.ref k :: st) μ := by
  obtain ⟨p, l, e, R, s, m, args, below, meth, c, wd, A⟩ := κ
  intro hF ls H locs hl hP hD hS
  exact va_get hF.1 hF.2.1 hF.2.2.2.2.1 hin hF.2.2.2.1 hF.2.2.2.2.2.2.2.1 hP k (cells_at hs (fun h => hs9 (Sum.inl.inj h))) hc j hj (hF.2.2.2.2.1 _ hw) (fun _ h => h) (flds_at hf) hd (kk hF ls H locs hl hP hD hS)
theorem v_putI {C : String} {T : u_T} {N ci j o idx k : Nat} (hs : shp k = .inl ci) (hs9 : ci ≠ 9) (hc : vwCl[ci]? = some (C, T, N)) (hin : ∀ w ∈ u_ws C T N, w ∈ TBL) (hj : j < N) (hw : Cond.fieldLink M.1.cls idx (T j).1 (T j).2.1 (T j).2.2.1 ∈ TBL) (hf : (fdT.getD ci [])[j]? = some (0, o)) (ty0 : Nat → FieldType) (hty : ∀ k, k < N → parseFieldDescriptor (T k).2.2.1 = some (ty0 k)) (hnm : ∀ a, a < N → ∀ b, b < N → a ≠ b → (T a).2.1 ≠ (T b).2.1) (hfin : (T j).2.2.2 = false) {x : Int32} (hn : narrow (ty0 j) (.int x) = .int x) (hfit : fits (ty0 j) (.int x) = true) (hd : decode M.2.1 pc = .ok (.putfield idx, 3)) (kk : V κ M Qf n q (pc + 3) lv st (mset μ k j x)) : V κ M Qf n q pc lv (.int x :: .ref k :: st) μ := by
  obtain ⟨p, l, e, R, s, m, args, below, meth, c, wd, A⟩ := κ
  intro hF ls H locs hl hP hD hS
  have hat := cells_at (wd := wd) (μ := μ) hs (fun h => hs9 (Sum.inl.inj h))
  have hset : (flds wd.1 μ k ci).set j (.int x) = flds wd.1 (mset μ k j x) k ci := flds_set hf (by simp [fv, mset]) (fun i hi => by simp [mset, hi])
  have hcel : cel wd (mset μ k j x) k = (wd.1 k, .inr (ci, flds wd.1 (mset μ k j x) k ci)) := by unfold cel; rw [hs]; rfl
  refine va_put (v := .int x) hF.1 hF.2.1 hF.2.2.2.2.1 hin ty0 hty hnm hF.2.2.2.1 hF.2.2.2.2.2.2.2.1 hP hD hS k hat hc j hj (hF.2.2.2.2.1 _ hw) (fun _ h => h) hfin (hty j hj) hn hfit (by rw [flds_len]; exact (List.getElem?_eq_some_iff.mp hf).1) hd (fun H1 locs1 hP1 hD1 hS1 => ?_)
  rw [hset, cells_set hcel (fun i hi => by simp [mset, hi])] at hP1 hD1
  exact kk hF ls H1 locs1 hl hP1 hD1 hS1
theorem v_putL {C : String} {T : u_T} {N ci j o idx k : Nat} (hs : shp k = .inl ci) (hs9 : ci ≠ 9) (hc : vwCl[ci]? = some (C, T, N)) (hin : ∀ w ∈ u_ws C T N, w ∈ TBL) (hj : j < N) (hw : Cond.fieldLink M.1.cls idx (T j).1 (T j).2.1 (T j).2.2.1 ∈ TBL) (hf : (fdT.getD ci [])[j]? = some (1, o)) (ty0 : Nat → FieldType) (hty : ∀ k, k < N → parseFieldDescriptor (T k).2.2.1 = some (ty0 k)) (hnm : ∀ a, a < N → ∀ b, b < N → a ≠ b → (T a).2.1 ≠ (T b).2.1) (hfin : (T j).2.2.2 = false) {x : Int64} (hn : narrow (ty0 j) (.long x) = .long x) (hfit : fits (ty0 j) (.long x) = true) (hd : decode M.2.1 pc = .ok (.putfield idx, 3)) (kk : V κ M Qf n q (pc + 3) lv st (msetL μ k j x)) : V κ M Qf n q pc lv (.long x :: .ref k :: st) μ := by
  obtain ⟨p, l, e, R, s, m, args, below, meth, c, wd, A⟩ := κ
  intro hF ls H locs hl hP hD hS
  have hat := cells_at (wd := wd) (μ := μ) hs (fun h => hs9 (Sum.inl.inj h))
  have hset : (flds wd.1 μ k ci).set j (.long x) = flds wd.1 (msetL μ k j x) k ci := flds_set hf (by simp [fv, msetL]) (fun i hi => by simp [msetL, hi])
  have hcel : cel wd (msetL μ k j x) k = (wd.1 k, .inr (ci, flds wd.1 (msetL μ k j x) k ci)) := by unfold cel; rw [hs]; rfl
  refine va_put (v := .long x) hF.1 hF.2.1 hF.2.2.2.2.1 hin ty0 hty hnm hF.2.2.2.1 hF.2.2.2.2.2.2.2.1 hP hD hS k hat hc j hj (hF.2.2.2.2.1 _ hw) (fun _ h => h) hfin (hty j hj) hn hfit (by rw [flds_len]; exact (List.getElem?_eq_some_iff.mp hf).1) hd (fun H1 locs1 hP1 hD1 hS1 => ?_)
  rw [hset, cells_set hcel (fun i hi => by simp [msetL, hi])] at hP1 hD1
  exact kk hF ls H1 locs1 hl hP1 hD1 hS1
theorem v_iald {k N : Nat} {i : Int32} (hs : shp k = .inr (0, N)) (hin : vp_in i N) (hd : decode M.2.1 pc = .ok (.iaload, 1)) (kk : V κ M Qf n q (pc + 1) lv (.int (μ.1 k i.toNatClampNeg) :: st) μ) : V κ M Qf n q pc lv (.int i :: .ref k :: st) μ := by
  obtain ⟨p, l, e, R, s, m, args, below, meth, c, wd, A⟩ := κ
  intro hF ls H locs hl hP hD hS
  exact va_iald hF.1 hF.2.1 hF.2.2.2.2.2.2.2.1 hP k 0 (cells_at hs (fun h => by cases h)) rfl hin hd (kk hF ls H locs hl hP hD hS)
theorem v_zald {k N : Nat} {i : Int32} (hs : shp k = .inr (1, N)) (hin : vp_in i N) (hd : decode M.2.1 pc = .ok (.baload, 1)) (kk : V κ M Qf n q (pc + 1) lv (.int (μ.1 k i.toNatClampNeg) :: st) μ) : V κ M Qf n q pc lv (.int i :: .ref k :: st) μ := by
  obtain ⟨p, l, e, R, s, m, args, below, meth, c, wd, A⟩ := κ
  intro hF ls H locs hl hP hD hS
  exact va_zald hF.1 hF.2.1 hF.2.2.2.2.2.2.2.1 hP k 1 (cells_at hs (fun h => by cases h)) rfl hin hd (kk hF ls H locs hl hP hD hS)
theorem v_aald {k N : Nat} {i : Int32} (hs : shp k = .inr (2, N)) (hin : vp_in i N) (hd : decode M.2.1 pc = .ok (.aaload, 1)) (kk : V κ M Qf n q (pc + 1) lv (.ref (k + 3 + 5 * i.toNatClampNeg) :: st) μ) : V κ M Qf n q pc lv (.int i :: .ref k :: st) μ := by
  obtain ⟨p, l, e, R, s, m, args, below, meth, c, wd, A⟩ := κ
  intro hF ls H locs hl hP hD hS
  exact va_aldq hF.1 hF.2.1 hF.2.2.2.2.2.2.2.1 hP k 2 (cells_at hs (fun h => by cases h)) rfl hin hd (kk hF ls H locs hl hP hD hS)
theorem v_alen {k N : Nat} (hs : shp k = .inr (0, N)) (hd : decode M.2.1 pc = .ok (.arraylength, 1)) (kk : V κ M Qf n q (pc + 1) lv (.int (nI N) :: st) μ) : V κ M Qf n q pc lv (.ref k :: st) μ := by
  obtain ⟨p, l, e, R, s, m, args, below, meth, c, wd, A⟩ := κ
  intro hF ls H locs hl hP hD hS
  exact va_alen hF.1 hF.2.1 hF.2.2.2.2.2.2.2.1 hP k 0 (cells_at hs (fun h => by cases h)) rfl rfl hd (kk hF ls H locs hl hP hD hS)
theorem v_iast {k N : Nat} {i x : Int32} (hs : shp k = .inr (0, N)) (hin : vp_in i N) (hd : decode M.2.1 pc = .ok (.iastore, 1)) (kk : V κ M Qf n q (pc + 1) lv st (mset μ k i.toNatClampNeg x)) : V κ M Qf n q pc lv (.int x :: .int i :: .ref k :: st) μ := by
  obtain ⟨p, l, e, R, s, m, args, below, meth, c, wd, A⟩ := κ
  intro hF ls H locs hl hP hD hS
  have hcel : cel wd (mset μ k i.toNatClampNeg x) k = (wd.1 k, .inl (wd.2.2.1, N, .inl (upd (μ.1 k) i.toNatClampNeg x))) := by
    unfold cel
    rw [hs]
    refine congrArg (fun f => (wd.1 k, (Sum.inl (wd.2.2.1, N, Sum.inl f) : va_E))) (funext fun b => ?_)
    simp [mset, upd]
  refine va_iast hF.1 hF.2.1 hF.2.2.2.2.2.2.2.1 hP hD hS k 0 (cells_at hs (fun h => by cases h)) rfl hin hd (fun H1 locs1 hP1 hD1 hS1 => ?_)
  rw [cells_set hcel (fun a ha => by simp [mset, ha])] at hP1 hD1
  exact kk hF ls H1 locs1 hl hP1 hD1 hS1
theorem v_zast {k N : Nat} {i x : Int32} (hs : shp k = .inr (1, N)) (hin : vp_in i N) (hd : decode M.2.1 pc = .ok (.bastore, 1)) (kk : V κ M Qf n q (pc + 1) lv st (mset μ k i.toNatClampNeg (vp_nar .boolean x))) : V κ M Qf n q pc lv (.int x :: .int i :: .ref k :: st) μ := by
  obtain ⟨p, l, e, R, s, m, args, below, meth, c, wd, A⟩ := κ
  intro hF ls H locs hl hP hD hS
  have hcel : cel wd (mset μ k i.toNatClampNeg (vp_nar .boolean x)) k = (wd.1 k, .inl (wd.2.2.2.1, N, .inl (upd (μ.1 k) i.toNatClampNeg (vp_nar .boolean x)))) := by
    unfold cel
    rw [hs]
    refine congrArg (fun f => (wd.1 k, (Sum.inl (wd.2.2.2.1, N, Sum.inl f) : va_E))) (funext fun b => ?_)
    simp [mset, upd]
  refine va_zast hF.1 hF.2.1 hF.2.2.2.2.2.2.2.1 hP hD hS k 1 (cells_at hs (fun h => by cases h)) rfl hin hd (fun H1 locs1 hP1 hD1 hS1 => ?_)
  rw [cells_set hcel (fun a ha => by simp [mset, ha])] at hP1 hD1
  exact kk hF ls H1 locs1 hl hP1 hD1 hS1
theorem v_max {x y : Int32} {idx : Nat} (hw : Cond.methodLink M.1.cls idx Lib.Math.max.name ∈ TBL) (hw2 : Cond.static Lib.Math.max.name ∈ TBL) (hw3 : Cond.initialized "java/lang/Math" ∈ TBL) (hw4 : Cond.code Lib.Math.max.name Lib.Math.max.code 2 (some .int) ∈ TBL) (hdp : 1 ≤ M.2.2.2.2) (hst : (st.map fun v => v.category).sum ≤ 8) (hd : decode M.2.1 pc = .ok (.invokestatic idx, 3)) (kk : V κ M Qf n q (pc + 3) lv (.int (if x < y then y else x) :: st) μ) : V κ M Qf n q pc lv (.int y :: .int x :: st) μ := by
  obtain ⟨p, l, e, R, s, m, args, below, meth, c, wd, A⟩ := κ
  intro hF ls H locs hl hP hD hS
  have hR := hF.2.2.2.2.2.2.2.2.2.2.2
  exact va_mmax hF.1 hF.2.1 (hF.2.2.1.trans hl.1.symm) hF.2.2.2.1 (hF.2.2.2.2.1 _ hw) (hF.2.2.2.2.1 _ hw2) (hF.2.2.2.2.1 _ hw3) (hF.2.2.2.2.1 _ hw4) (Nat.le_trans hdp hR.1) (by rw [cat_sum]; omega) hR.2.2.1 hR.2.2.2 hd (kk hF ls H locs hl hP hD hS)
theorem v_min {x y : Int32} {idx : Nat} (hw : Cond.methodLink M.1.cls idx Lib.Math.min.name ∈ TBL) (hw2 : Cond.static Lib.Math.min.name ∈ TBL) (hw3 : Cond.initialized "java/lang/Math" ∈ TBL) (hw4 : Cond.code Lib.Math.min.name Lib.Math.min.code 2 (some .int) ∈ TBL) (hdp : 1 ≤ M.2.2.2.2) (hst : (st.map fun v => v.category).sum ≤ 8) (hd : decode M.2.1 pc = .ok (.invokestatic idx, 3)) (kk : V κ M Qf n q (pc + 3) lv (.int (if y < x then y else x) :: st) μ) : V κ M Qf n q pc lv (.int y :: .int x :: st) μ := by
  obtain ⟨p, l, e, R, s, m, args, below, meth, c, wd, A⟩ := κ
  intro hF ls H locs hl hP hD hS
  have hR := hF.2.2.2.2.2.2.2.2.2.2.2
  exact va_mmin hF.1 hF.2.1 (hF.2.2.1.trans hl.1.symm) hF.2.2.2.1 (hF.2.2.2.2.1 _ hw) (hF.2.2.2.2.1 _ hw2) (hF.2.2.2.2.1 _ hw3) (hF.2.2.2.2.1 _ hw4) (Nat.le_trans hdp hR.1) (by rw [cat_sum]; omega) hR.2.2.1 hR.2.2.2 hd (kk hF ls H locs hl hP hD hS)
theorem v_abs {x : Int32} {idx : Nat} (hw : Cond.methodLink M.1.cls idx Lib.Math.abs.name ∈ TBL) (hw2 : Cond.static Lib.Math.abs.name ∈ TBL) (hw3 : Cond.initialized "java/lang/Math" ∈ TBL) (hw4 : Cond.code Lib.Math.abs.name Lib.Math.abs.code 1 (some .int) ∈ TBL) (hdp : 1 ≤ M.2.2.2.2) (hst : (st.map fun v => v.category).sum ≤ 8) (hd : decode M.2.1 pc = .ok (.invokestatic idx, 3)) (kk : V κ M Qf n q (pc + 3) lv (.int (if 0 ≤ x then x else 0 - x) :: st) μ) : V κ M Qf n q pc lv (.int x :: st) μ := by
  obtain ⟨p, l, e, R, s, m, args, below, meth, c, wd, A⟩ := κ
  intro hF ls H locs hl hP hD hS
  have hR := hF.2.2.2.2.2.2.2.2.2.2.2
  exact va_mabs hF.1 hF.2.1 (hF.2.2.1.trans hl.1.symm) hF.2.2.2.1 (hF.2.2.2.2.1 _ hw) (hF.2.2.2.2.1 _ hw2) (hF.2.2.2.2.1 _ hw3) (hF.2.2.2.2.1 _ hw4) (Nat.le_trans hdp hR.1) (by rw [cat_sum]; omega) hR.2.2.1 hR.2.2.2 hd (kk hF ls H locs hl hP hD hS)
end VR
section VQ
variable {κ : Kx} {M : Mi} {Q : Option Value → Mm → Prop} {n q pc : Nat} {lv : List (Nat × Value)} {st : List Value} {μ : Mm}
theorem v_iret {x : Int32} (hr : M.2.2.2.1 = some .int) (hd : decode M.2.1 pc = .ok (.ireturn, 1)) (kk : Q (some (.int x)) μ) : V κ M (fin κ Q) 0 0 pc lv ([.int x]) μ := by
  obtain ⟨p, l, e, R, s, m, args, below, meth, c, wd, A⟩ := κ
  intro hF ls H locs hl hP hD hS
  exact W.iret hF.1 hF.2.1 (by first | exact hF.2.2.2.2.2.1.trans hr | exact hF.2.2.2.2.2.1)  (fun t ht _ => ⟨⟨some (.int x), μ, rfl, kk, by rw [ht]; exact hP, hD⟩, hS.F ht⟩) hS.2.2 hd (hlocks := hF.2.2.2.2.2.2.1)
theorem v_zret {x : Int32} (hr : M.2.2.2.1 = some .boolean) (hz : narrow .boolean (.int x) = .int x) (hd : decode M.2.1 pc = .ok (.ireturn, 1)) (kk : Q (some (.int x)) μ) : V κ M (fin κ Q) 0 0 pc lv ([.int x]) μ := by
  obtain ⟨p, l, e, R, s, m, args, below, meth, c, wd, A⟩ := κ
  intro hF ls H locs hl hP hD hS
  exact W.zret hF.1 hF.2.1 (by first | exact hF.2.2.2.2.2.1.trans hr | exact hF.2.2.2.2.2.1) hz (fun t ht _ => ⟨⟨some (.int x), μ, rfl, kk, by rw [ht]; exact hP, hD⟩, hS.F ht⟩) hS.2.2 hd (hlocks := hF.2.2.2.2.2.2.1)
theorem v_lret {x : Int64} (hr : M.2.2.2.1 = some .long) (hd : decode M.2.1 pc = .ok (.lreturn, 1)) (kk : Q (some (.long x)) μ) : V κ M (fin κ Q) 0 0 pc lv ([.long x]) μ := by
  obtain ⟨p, l, e, R, s, m, args, below, meth, c, wd, A⟩ := κ
  intro hF ls H locs hl hP hD hS
  exact W.lret hF.1 hF.2.1 (by first | exact hF.2.2.2.2.2.1.trans hr | exact hF.2.2.2.2.2.1)  (fun t ht _ => ⟨⟨some (.long x), μ, rfl, kk, by rw [ht]; exact hP, hD⟩, hS.F ht⟩) hS.2.2 hd (hlocks := hF.2.2.2.2.2.2.1)
theorem v_vret  (hr : M.2.2.2.1 = none) (hd : decode M.2.1 pc = .ok (.return_, 1)) (kk : Q (none) μ) : V κ M (fin κ Q) 0 0 pc lv ([]) μ := by
  obtain ⟨p, l, e, R, s, m, args, below, meth, c, wd, A⟩ := κ
  intro hF ls H locs hl hP hD hS
  exact W.vret hF.1 hF.2.1 (by first | exact hF.2.2.2.2.2.1.trans hr | exact hF.2.2.2.2.2.1)  (fun t ht _ => ⟨⟨none, μ, rfl, kk, by rw [ht]; exact hP, hD⟩, hS.F ht⟩) hS.2.2 hd (hlocks := hF.2.2.2.2.2.2.1)
theorem v_aret {k : Nat} {C : String} (hr : M.2.2.2.1 = some (.object C)) (hd : decode M.2.1 pc = .ok (.areturn, 1)) (kk : Q (some (.ref k)) μ) : V κ M (fin κ Q) 0 0 pc lv ([.ref k]) μ := by
  obtain ⟨p, l, e, R, s, m, args, below, meth, c, wd, A⟩ := κ
  intro hF ls H locs hl hP hD hS
  exact W.aret hF.1 hF.2.1 (by first | exact hF.2.2.2.2.2.1.trans hr | exact hF.2.2.2.2.2.1) (Or.inl ⟨C, rfl⟩) (Or.inr ⟨_, rfl⟩) (fun t ht _ => ⟨⟨some (.ref k), μ, rfl, kk, by rw [ht]; exact hP, hD⟩, hS.F ht⟩) hS.2.2 hd (hlocks := hF.2.2.2.2.2.2.1)
end VQ
section VC
variable {κ : Kx} {M M' : Mi} {Qf : State → Prop} {Q : Option Value → Mm → Prop} {n q pc na idx : Nat} {lv : List (Nat × Value)} {st st0 as : List Value} {μ : Mm}
/-- what a call needs of the one that is called -/
def CW (M' : Mi) (na : Nat) : Prop := Cond.code M'.1 M'.2.1 M'.2.2.1 M'.2.2.2.1 ∈ TBL ∧ Cond.initialized M'.1.cls ∈ TBL ∧ M'.1.cls ≠ "java/lang/invoke/MethodHandle" ∧ M'.1.cls ≠ "java/lang/invoke/VarHandle" ∧ (parseMethodDescriptor M'.1.desc).map (fun d => d.parameters.length) = some na ∧ M'.2.2.1 ≤ 21
theorem CW.good (h : CW M' na) : GoodIn TBL (.code M'.1 M'.2.1 M'.2.2.1 M'.2.2.2.1 :: TBL) := by
  intro w hw
  rcases List.mem_cons.mp hw with e | hw
  · subst e
    exact TBL_good _ h.1
  · exact TBL_good w hw
theorem opt_map (ad : Nat → Nat) (r : Option Value) (st : List Value) : (r.map (cnc ad)).toList ++ st.map (cnc ad) = (r.toList ++ st).map (cnc ad) := by
  cases r <;> simp
theorem v_calling {p : Program} {l : Launch} {e : Env} {R : Room} {s : State} {m : MethodId} {args : Array Value} {below : List Frame} {meth : Method} {c : Code} {wd : Wd} {A : Nat → Prop} {ls : Array Slot} {H : Heap} {locs : List Loc} {a : Array Value} {stk : List Value}
    (hF : Fx (p, l, e, R, s, m, args, below, meth, c, wd, A) M n q) (hl : lv_has ls M.2.2.1 (cvl wd.1 lv)) (hS : va_S A s.heap H locs) (hsub : ∀ a, va_A (cells wd μ) H.size a → A a)
    (hrun : va_Run p l e R s m args below meth c H locs n q 0 0 (F0 m pc ls stk) (st.map (cnc wd.1)) (Qcm wd Q (va_A (cells wd μ) H.size) a) (va_A (cells wd μ) H.size))
    (kk : ∀ r μ', Q r μ' → V (p, l, e, R, s, m, args, below, meth, c, wd, A) M Qf n q (pc + 3) lv (r.toList ++ st) μ') : W p l e R s m args below meth c H locs n q Qf (F0 m pc ls stk) := by
  intro T hT X
  obtain ⟨v, st₀, t, T', L, h0, X', hL, e1, e2, ⟨⟨r, μ', hv, hQ, hP', hD'⟩, hz, hk⟩, stp⟩ := hrun T hT X
  cases hv
  rw [h0] at hz hk
  rw [opt_map] at stp
  obtain ⟨t2, a1, b1⟩ := kk r μ' hQ hF ls T'.heap (locs ++ L) hl (by rw [e1]; exact hP') (hD'.weaken (fun _ _ _ h => hsub _ h))
    ⟨Nat.le_trans hS.1 (by rw [e1]; exact hz), fun x h1 h2 => by rw [e1, hk x (Nat.lt_of_lt_of_le h1 hS.1) (fun z => h2 (hsub x z))]; exact hS.2.1 x h1 h2, fun x hx => by
      rcases List.mem_append.mp hx with h | h
      · exact hS.2.2 x h
      · exact hsub _ (hL x h)⟩ T' rfl X'
  exact ⟨t2, stp t2 a1, b1⟩
theorem v_sub {s : State} {wd : Wd} {A : Nat → Prop} {H : Heap} {locs : List Loc} (hD : va_D A (cells wd μ)) (hS : va_S A s.heap H locs) (hA : ∀ a, s.heap.size ≤ a → A a) : ∀ a, va_A (cells wd μ) H.size a → A a := by
  intro a h
  rcases h with ⟨k, e, h⟩ | h
  · exact hD.2 k (a, e) h
  · exact hA a (Nat.le_trans hS.1 h)
theorem v_pre {s : State} {wd : Wd} {A : Nat → Prop} {H : Heap} {locs : List Loc} (hP : va_P wd.2.1 vwCl (cells wd μ) H) (hD : va_D A (cells wd μ)) (hS : va_S A s.heap H locs) (hA : ∀ a, s.heap.size ≤ a → A a) (hK : va_K wd.2.1 vwCl (tysL wd) s) (hStr : sStr wd A s s.heap) (hN : sNest s) :
    ∀ U : State, U.heap = H → s.WarmedH U.vm → PcM wd as μ H.size (as.map (cnc wd.1)).toArray U := by
  intro U hU hW
  refine ⟨rfl, by rw [hU], by rw [hU]; exact hP, va_K.moved hW.alike hK, hD.weaken (fun _ _ _ _ => trivial), ?_, hN.warm hW⟩
  rw [hU]
  exact ((hStr.kept hS.2.1).narrow (v_sub hD hS hA)).warm hW
set_option maxHeartbeats 1000000 in
theorem v_callS (hC : Con M' as μ Q) (hM : CW M' na) (hs : Cond.static M'.1 ∈ TBL) (hw : Cond.methodLink M.1.cls idx M'.1 ∈ TBL) (hlen : as.length = na) (hdp : M'.2.2.2.2 + 1 ≤ M.2.2.2.2) (hcat : (st.map fun v => v.category).sum ≤ 8) (hd : decode M.2.1 pc = .ok (.invokestatic idx, 3)) (hst : st0 = as.reverse ++ st) (kk : ∀ r μ', Q r μ' → V κ M Qf n q (pc + 3) lv (r.toList ++ st) μ') : V κ M Qf n q pc lv st0 μ := by
  obtain ⟨p, l, e, R, s, m, args, below, meth, c, wd, A⟩ := κ
  intro hF ls H locs hl hP hD hS
  have hF0 := hF
  obtain ⟨hx, hb, hml, hown, hts, -, -, hK, hA, hStr, hN, hr1, hr2, hr3, hr4⟩ := hF
  have hsub := v_sub hD hS hA
  refine v_calling hF0 hl hS hsub (va_runS (As := as.map (cnc wd.1)) (rest := st.map (cnc wd.1)) (Ts := TBL) (own := M.1.cls) (n := na) ⟨hx, hb, hml, hown, hts⟩ (hC l wd H.size) ⟨callB_of na hts hM.good rfl rfl rfl (hts _ hM.2.1) (hts _ hw) ⟨hM.2.2.1, hM.2.2.2.1, hM.2.2.2.2.1⟩ ⟨?_, ?_⟩, hts _ hs⟩ ⟨PcM.blind, v_pre hP hD hS hA hK hStr hN⟩ rfl ?_ hl.1 ?_ (lv_room ?_) hd ⟨hr3, hr4⟩) kk
  · show M'.2.2.2.2 + 1 ≤ R.frames
    omega
  · have := hM.2.2.2.2.2
    show 8 + (M'.2.2.1 + 11) + 40 * M'.2.2.2.2 ≤ R.locals
    omega
  · rw [List.length_map]
    exact hlen
  · show st0.map (cnc wd.1) = _
    rw [hst, List.map_append, List.map_reverse]
  · rw [cat_sum]
    exact hcat
set_option maxHeartbeats 1000000 in
theorem v_callN (hC : Con M' as μ Q) (hM : CW M' na) (hs : Cond.static M'.1 ∈ TBL) (hw : (M.1.cls, idx, M'.1) ∈ NWL) (hlen : as.length = na) (hdp : M'.2.2.2.2 + 1 ≤ M.2.2.2.2) (hcat : (st.map fun v => v.category).sum ≤ 8) (hd : decode M.2.1 pc = .ok (.invokestatic idx, 3)) (hst : st0 = as.reverse ++ st) (kk : ∀ r μ', Q r μ' → V κ M Qf n q (pc + 3) lv (r.toList ++ st) μ') : V κ M Qf n q pc lv st0 μ := by
  obtain ⟨p, l, e, R, s, m, args, below, meth, c, wd, A⟩ := κ
  intro hF ls H locs hl hP hD hS
  have hF0 := hF
  obtain ⟨hx, hb, hml, hown, hts, -, -, hK, hA, hStr, hN, hr1, hr2, hr3, hr4⟩ := hF
  have hsub := v_sub hD hS hA
  refine v_calling hF0 hl hS hsub (va_runSN (As := as.map (cnc wd.1)) (rest := st.map (cnc wd.1)) (Ts := TBL) (own := M.1.cls) (host := "SlateHills") (n := na) ⟨hx, hb, hml, hown, hts⟩ (hC l wd H.size) ⟨va_cnB na hts hM.good rfl rfl rfl (hN _ hw) (hts _ hM.2.1) ⟨hM.2.2.1, hM.2.2.2.1, hM.2.2.2.2.1⟩ ⟨?_, ?_⟩, hts _ hs, trivial⟩ ⟨PcM.blind, v_pre hP hD hS hA hK hStr hN⟩ rfl ?_ hl.1 ?_ (lv_room ?_) hd ⟨hr3, hr4⟩) kk
  · show M'.2.2.2.2 + 1 ≤ R.frames
    omega
  · have := hM.2.2.2.2.2
    show 8 + (M'.2.2.1 + 11) + 40 * M'.2.2.2.2 ≤ R.locals
    omega
  · rw [List.length_map]
    exact hlen
  · show st0.map (cnc wd.1) = _
    rw [hst, List.map_append, List.map_reverse]
  · rw [cat_sum]
    exact hcat
set_option maxHeartbeats 1000000 in
theorem v_callV {k ci : Nat} {T : u_T} {N : Nat} (hC : Con M' (.ref k :: as) μ Q) (hM : CW M' na) (hk : shp k = .inl ci) (hk9 : ci ≠ 9) (hc : vwCl[ci]? = some (M'.1.cls, T, N)) (hi : Cond.instanceMethod M'.1 ∈ TBL) (hse : Cond.selects M'.1.cls M'.1 M'.1 ∈ TBL) (hw : Cond.methodLink M.1.cls idx M'.1 ∈ TBL) (hlen : as.length = na) (hdp : M'.2.2.2.2 + 1 ≤ M.2.2.2.2) (hcat : (st.map fun v => v.category).sum ≤ 8) (hd : decode M.2.1 pc = .ok (.invokevirtual idx, 3)) (hst : st0 = as.reverse ++ .ref k :: st) (kk : ∀ r μ', Q r μ' → V κ M Qf n q (pc + 3) lv (r.toList ++ st) μ') : V κ M Qf n q pc lv st0 μ := by
  obtain ⟨p, l, e, R, s, m, args, below, meth, c, wd, A⟩ := κ
  intro hF ls H locs hl hP hD hS
  have hF0 := hF
  obtain ⟨hx, hb, hml, hown, hts, -, -, hK, hA, hStr, hN, hr1, hr2, hr3, hr4⟩ := hF
  have hsub := v_sub hD hS hA
  refine v_calling hF0 hl hS hsub (va_runV (C := M'.1.cls) (b := wd.1 k) (As := as.map (cnc wd.1)) (rest := st.map (cnc wd.1)) (Ts := TBL) (own := M.1.cls) (n := na) ⟨hx, hb, hml, hown, hts⟩ (hC l wd H.size) ⟨callB_of na hts hM.good rfl rfl rfl (hts _ hM.2.1) (hts _ hw) ⟨hM.2.2.1, hM.2.2.2.1, hM.2.2.2.2.1⟩ ⟨?_, ?_⟩, hts _ hi, hts _ hse⟩ ⟨PcM.blind, va_recv hK hP hc (cells_at hk (fun h => hk9 (Sum.inl.inj h))), v_pre hP hD hS hA hK hStr hN⟩ rfl ?_ hl.1 ?_ (lv_room ?_) hd ⟨hr3, hr4⟩) kk
  · show M'.2.2.2.2 + 1 ≤ R.frames
    omega
  · have := hM.2.2.2.2.2
    show 8 + (M'.2.2.1 + 11) + 40 * M'.2.2.2.2 ≤ R.locals
    omega
  · rw [List.length_map]
    exact hlen
  · show st0.map (cnc wd.1) = _
    rw [hst, List.map_append, List.map_reverse]
    rfl
  · rw [cat_sum]
    exact hcat
set_option maxHeartbeats 1000000 in
theorem v_copy {k0 k1 N0 N1 : Nat} {sp dp cnt : Int32} (hw : Cond.methodLink M.1.cls idx arraycopyName ∈ TBL) (hw1 : Cond.native arraycopyName ∈ TBL) (hw2 : Cond.static arraycopyName ∈ TBL) (hw3 : Cond.initialized "java/lang/System" ∈ TBL) (hs0 : shp k0 = .inr (0, N0)) (hs1 : shp k1 = .inr (0, N1)) (hdp : 1 ≤ M.2.2.2.2) (hcat : (st.map fun v => v.category).sum ≤ 8) (hd : decode M.2.1 pc = .ok (.invokestatic idx, 3)) (h1 : ¬ sp < 0) (h2 : ¬ dp < 0) (h3 : ¬ cnt < 0) (h4 : sp.toNatClampNeg + cnt.toNatClampNeg ≤ N0) (h5 : dp.toNatClampNeg + cnt.toNatClampNeg ≤ N1) (kk : V κ M Qf n q (pc + 3) lv st (mcpy μ k0 k1 sp.toNatClampNeg dp.toNatClampNeg cnt.toNatClampNeg)) : V κ M Qf n q pc lv (.int cnt :: .int dp :: .ref k1 :: .int sp :: .ref k0 :: st) μ := by
  obtain ⟨p, l, e, R, s, m, args, below, meth, c, wd, A⟩ := κ
  intro hF ls H locs hl hP hD hS
  have hR := hF.2.2.2.2.2.2.2.2.2.2.2
  have hcel : cel wd (mcpy μ k0 k1 sp.toNatClampNeg dp.toNatClampNeg cnt.toNatClampNeg) k1 = (wd.1 k1, .inl (wd.2.2.1, N1, .inl (va_cpy (μ.1 k0) (μ.1 k1) sp.toNatClampNeg dp.toNatClampNeg cnt.toNatClampNeg))) := by
    unfold cel
    rw [hs1]
    refine congrArg (fun f => (wd.1 k1, (Sum.inl (wd.2.2.1, N1, Sum.inl f) : va_E))) (funext fun b => ?_)
    simp [mcpy]
  refine va_copyi hF.1 hF.2.1 (hF.2.2.1.trans hl.1.symm) hF.2.2.2.1 (hF.2.2.2.2.1 _ hw) (hF.2.2.2.2.1 _ hw1) (hF.2.2.2.2.1 _ hw2) (hF.2.2.2.2.1 _ hw3) hF.2.2.2.2.2.2.2.1 hP hD hS k0 k1 0 0 (cells_at hs0 (fun h => by cases h)) (cells_at hs1 (fun h => by cases h)) rfl rfl rfl h1 h2 h3 h4 h5 (fun i _ => rfl) (Nat.le_trans hdp hR.1) ?_ hd (fun H1 locs1 hP1 hD1 hS1 => ?_)
  · rw [cat_sum]
    have : nativeFrameWords "java/lang/System" "arraycopy" 5 + 11 ≤ 32 := by decide +kernel
    omega
  · rw [cells_set hcel (fun a ha => by simp [mcpy, ha])] at hP1 hD1
    exact kk hF ls H1 locs1 hl hP1 hD1 hS1
end VC
end
