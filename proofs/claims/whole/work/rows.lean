section
-- ===== PART A: goes FIRST, ahead of the names: the tables' words, and 'selects' of the private methods out of them =====
/-- a private method of a class that the tables say can be made, by its rows of tables_1 -/
def lw_okq (q : MethodName × Nat) : Prop := (q.1.cls ≠ "java/lang/invoke/MethodHandle" ∧ q.1.cls ≠ "java/lang/invoke/VarHandle") ∧ Cond.instantiable q.1.cls q.2 ∈ tables_1 ∧ Cond.privateMethod q.1 ∈ tables_1 ∧ Cond.instanceMethod q.1 ∈ tables_1
theorem lw_p0 : lw_okq (⟨"ForceNet$Net", "leadBack", "(I)V"⟩, 9) := ⟨⟨by decide +kernel, by decide +kernel⟩, List.mem_of_getElem? (i := 26) (by decide +kernel), List.mem_of_getElem? (i := 39) (by decide +kernel), List.mem_of_getElem? (i := 40) (by decide +kernel)⟩
theorem lw_p1 : lw_okq (⟨"ForceNet$Tape", "readForm", "(I)Z"⟩, 6) := ⟨⟨by decide +kernel, by decide +kernel⟩, List.mem_of_getElem? (i := 200) (by decide +kernel), List.mem_of_getElem? (i := 544) (by decide +kernel), List.mem_of_getElem? (i := 545) (by decide +kernel)⟩
theorem lw_p2 : lw_okq (⟨"ForceNet$Tape", "here", "()I"⟩, 6) := ⟨⟨by decide +kernel, by decide +kernel⟩, List.mem_of_getElem? (i := 200) (by decide +kernel), List.mem_of_getElem? (i := 548) (by decide +kernel), List.mem_of_getElem? (i := 549) (by decide +kernel)⟩
theorem lw_p3 : lw_okq (⟨"ForceNet$Tape", "refuse", "()Z"⟩, 6) := ⟨⟨by decide +kernel, by decide +kernel⟩, List.mem_of_getElem? (i := 200) (by decide +kernel), List.mem_of_getElem? (i := 553) (by decide +kernel), List.mem_of_getElem? (i := 554) (by decide +kernel)⟩
theorem lw_p4 : lw_okq (⟨"ForceNet$Tape", "readPair", "(IZI)Z"⟩, 6) := ⟨⟨by decide +kernel, by decide +kernel⟩, List.mem_of_getElem? (i := 200) (by decide +kernel), List.mem_of_getElem? (i := 559) (by decide +kernel), List.mem_of_getElem? (i := 560) (by decide +kernel)⟩
theorem lw_p5 : lw_okq (⟨"ForceNet$Tape", "take", "(I)Z"⟩, 6) := ⟨⟨by decide +kernel, by decide +kernel⟩, List.mem_of_getElem? (i := 200) (by decide +kernel), List.mem_of_getElem? (i := 566) (by decide +kernel), List.mem_of_getElem? (i := 567) (by decide +kernel)⟩
theorem lw_p6 : lw_okq (⟨"ForceNet$Tape", "readGroup", "(I)Z"⟩, 6) := ⟨⟨by decide +kernel, by decide +kernel⟩, List.mem_of_getElem? (i := 200) (by decide +kernel), List.mem_of_getElem? (i := 570) (by decide +kernel), List.mem_of_getElem? (i := 571) (by decide +kernel)⟩
theorem lw_p7 : lw_okq (⟨"ForceNet$Tape", "readLaw", "(II)Z"⟩, 6) := ⟨⟨by decide +kernel, by decide +kernel⟩, List.mem_of_getElem? (i := 200) (by decide +kernel), List.mem_of_getElem? (i := 574) (by decide +kernel), List.mem_of_getElem? (i := 575) (by decide +kernel)⟩
theorem lw_p8 : lw_okq (⟨"ForceNet$Table", "fill", "(I)V"⟩, 6) := ⟨⟨by decide +kernel, by decide +kernel⟩, List.mem_of_getElem? (i := 141) (by decide +kernel), List.mem_of_getElem? (i := 620) (by decide +kernel), List.mem_of_getElem? (i := 621) (by decide +kernel)⟩
theorem lw_p9 : lw_okq (⟨"ForceNet$Table", "share", "(I)I"⟩, 6) := ⟨⟨by decide +kernel, by decide +kernel⟩, List.mem_of_getElem? (i := 141) (by decide +kernel), List.mem_of_getElem? (i := 626) (by decide +kernel), List.mem_of_getElem? (i := 627) (by decide +kernel)⟩
theorem lw_p10 : lw_okq (⟨"ForceNet$Laws", "judge", "(I)I"⟩, 7) := ⟨⟨by decide +kernel, by decide +kernel⟩, List.mem_of_getElem? (i := 168) (by decide +kernel), List.mem_of_getElem? (i := 634) (by decide +kernel), List.mem_of_getElem? (i := 635) (by decide +kernel)⟩
theorem lw_p11 : lw_okq (⟨"ForceNet$Laws", "always", "(I)I"⟩, 7) := ⟨⟨by decide +kernel, by decide +kernel⟩, List.mem_of_getElem? (i := 168) (by decide +kernel), List.mem_of_getElem? (i := 658) (by decide +kernel), List.mem_of_getElem? (i := 659) (by decide +kernel)⟩
theorem lw_p12 : lw_okq (⟨"ForceNet$Laws", "until", "(II)I"⟩, 7) := ⟨⟨by decide +kernel, by decide +kernel⟩, List.mem_of_getElem? (i := 168) (by decide +kernel), List.mem_of_getElem? (i := 662) (by decide +kernel), List.mem_of_getElem? (i := 663) (by decide +kernel)⟩
theorem lw_p13 : lw_okq (⟨"ForceNet$Laws", "mark", "(II)V"⟩, 7) := ⟨⟨by decide +kernel, by decide +kernel⟩, List.mem_of_getElem? (i := 168) (by decide +kernel), List.mem_of_getElem? (i := 668) (by decide +kernel), List.mem_of_getElem? (i := 669) (by decide +kernel)⟩
theorem lw_p14 : lw_okq (⟨"ForceNet$Laws", "again", "(I)I"⟩, 7) := ⟨⟨by decide +kernel, by decide +kernel⟩, List.mem_of_getElem? (i := 168) (by decide +kernel), List.mem_of_getElem? (i := 672) (by decide +kernel), List.mem_of_getElem? (i := 673) (by decide +kernel)⟩
theorem lw_p15 : lw_okq (⟨"ForceNet$Plans", "aim", "(I)I"⟩, 7) := ⟨⟨by decide +kernel, by decide +kernel⟩, List.mem_of_getElem? (i := 228) (by decide +kernel), List.mem_of_getElem? (i := 732) (by decide +kernel), List.mem_of_getElem? (i := 733) (by decide +kernel)⟩
def lw_privs_1 : List (MethodName × Nat) := [(⟨"ForceNet$Net", "leadBack", "(I)V"⟩, 9), (⟨"ForceNet$Tape", "readForm", "(I)Z"⟩, 6), (⟨"ForceNet$Tape", "here", "()I"⟩, 6), (⟨"ForceNet$Tape", "refuse", "()Z"⟩, 6), (⟨"ForceNet$Tape", "readPair", "(IZI)Z"⟩, 6), (⟨"ForceNet$Tape", "take", "(I)Z"⟩, 6), (⟨"ForceNet$Tape", "readGroup", "(I)Z"⟩, 6), (⟨"ForceNet$Tape", "readLaw", "(II)Z"⟩, 6), (⟨"ForceNet$Table", "fill", "(I)V"⟩, 6), (⟨"ForceNet$Table", "share", "(I)I"⟩, 6), (⟨"ForceNet$Laws", "judge", "(I)I"⟩, 7), (⟨"ForceNet$Laws", "always", "(I)I"⟩, 7), (⟨"ForceNet$Laws", "until", "(II)I"⟩, 7), (⟨"ForceNet$Laws", "mark", "(II)V"⟩, 7), (⟨"ForceNet$Laws", "again", "(I)I"⟩, 7), (⟨"ForceNet$Plans", "aim", "(I)I"⟩, 7)]
theorem lw_r1 : ∀ q ∈ lw_privs_1, lw_okq q := List.forall_mem_cons.mpr ⟨lw_p0, List.forall_mem_cons.mpr ⟨lw_p1, List.forall_mem_cons.mpr ⟨lw_p2, List.forall_mem_cons.mpr ⟨lw_p3, List.forall_mem_cons.mpr ⟨lw_p4, List.forall_mem_cons.mpr ⟨lw_p5, List.forall_mem_cons.mpr ⟨lw_p6, List.forall_mem_cons.mpr ⟨lw_p7, List.forall_mem_cons.mpr ⟨lw_p8, List.forall_mem_cons.mpr ⟨lw_p9, List.forall_mem_cons.mpr ⟨lw_p10, List.forall_mem_cons.mpr ⟨lw_p11, List.forall_mem_cons.mpr ⟨lw_p12, List.forall_mem_cons.mpr ⟨lw_p13, List.forall_mem_cons.mpr ⟨lw_p14, List.forall_mem_cons.mpr ⟨lw_p15, fun _ h => absurd h List.not_mem_nil⟩⟩⟩⟩⟩⟩⟩⟩⟩⟩⟩⟩⟩⟩⟩⟩
theorem lw_p16 : lw_okq (⟨"ForceNet$Plans", "cheapest", "(I)I"⟩, 7) := ⟨⟨by decide +kernel, by decide +kernel⟩, List.mem_of_getElem? (i := 228) (by decide +kernel), List.mem_of_getElem? (i := 772) (by decide +kernel), List.mem_of_getElem? (i := 773) (by decide +kernel)⟩
theorem lw_p17 : lw_okq (⟨"ForceNet$Plans", "worst", "(I)I"⟩, 7) := ⟨⟨by decide +kernel, by decide +kernel⟩, List.mem_of_getElem? (i := 228) (by decide +kernel), List.mem_of_getElem? (i := 784) (by decide +kernel), List.mem_of_getElem? (i := 785) (by decide +kernel)⟩
theorem lw_p18 : lw_okq (⟨"ForceNet", "findRow", "(I)I"⟩, 9) := ⟨⟨by decide +kernel, by decide +kernel⟩, List.mem_of_getElem? (i := 18) (by decide +kernel), List.mem_of_getElem? (i := 825) (by decide +kernel), List.mem_of_getElem? (i := 826) (by decide +kernel)⟩
theorem lw_p19 : lw_okq (⟨"ForceNet$Blind", "does", "(I)Z"⟩, 9) := ⟨⟨by decide +kernel, by decide +kernel⟩, List.mem_of_getElem? (i := 256) (by decide +kernel), List.mem_of_getElem? (i := 862) (by decide +kernel), List.mem_of_getElem? (i := 863) (by decide +kernel)⟩
theorem lw_p20 : lw_okq (⟨"ForceNet$Blind", "spread", "(I)I"⟩, 9) := ⟨⟨by decide +kernel, by decide +kernel⟩, List.mem_of_getElem? (i := 256) (by decide +kernel), List.mem_of_getElem? (i := 866) (by decide +kernel), List.mem_of_getElem? (i := 867) (by decide +kernel)⟩
theorem lw_p21 : lw_okq (⟨"ForceNet$Blind", "endsBy", "(I)I"⟩, 9) := ⟨⟨by decide +kernel, by decide +kernel⟩, List.mem_of_getElem? (i := 256) (by decide +kernel), List.mem_of_getElem? (i := 879) (by decide +kernel), List.mem_of_getElem? (i := 880) (by decide +kernel)⟩
theorem lw_p22 : lw_okq (⟨"ForceNet$Blind", "endsOfAll", "(I)I"⟩, 9) := ⟨⟨by decide +kernel, by decide +kernel⟩, List.mem_of_getElem? (i := 256) (by decide +kernel), List.mem_of_getElem? (i := 884) (by decide +kernel), List.mem_of_getElem? (i := 885) (by decide +kernel)⟩
theorem lw_p23 : lw_okq (⟨"ForceNet$Blind", "staying", "(I)I"⟩, 9) := ⟨⟨by decide +kernel, by decide +kernel⟩, List.mem_of_getElem? (i := 256) (by decide +kernel), List.mem_of_getElem? (i := 888) (by decide +kernel), List.mem_of_getElem? (i := 889) (by decide +kernel)⟩
theorem lw_p24 : lw_okq (⟨"ForceNet$Blind", "sure", "(II)I"⟩, 9) := ⟨⟨by decide +kernel, by decide +kernel⟩, List.mem_of_getElem? (i := 256) (by decide +kernel), List.mem_of_getElem? (i := 892) (by decide +kernel), List.mem_of_getElem? (i := 893) (by decide +kernel)⟩
theorem lw_p25 : lw_okq (⟨"ForceNet$Blind", "advance", "()Z"⟩, 9) := ⟨⟨by decide +kernel, by decide +kernel⟩, List.mem_of_getElem? (i := 256) (by decide +kernel), List.mem_of_getElem? (i := 896) (by decide +kernel), List.mem_of_getElem? (i := 897) (by decide +kernel)⟩
theorem lw_p26 : lw_okq (⟨"ForceNet$Lots", "countAll", "()V"⟩, 8) := ⟨⟨by decide +kernel, by decide +kernel⟩, List.mem_of_getElem? (i := 291) (by decide +kernel), List.mem_of_getElem? (i := 923) (by decide +kernel), List.mem_of_getElem? (i := 924) (by decide +kernel)⟩
theorem lw_p27 : lw_okq (⟨"ForceNet$Lots", "coming", "(I)I"⟩, 8) := ⟨⟨by decide +kernel, by decide +kernel⟩, List.mem_of_getElem? (i := 291) (by decide +kernel), List.mem_of_getElem? (i := 935) (by decide +kernel), List.mem_of_getElem? (i := 936) (by decide +kernel)⟩
theorem lw_p28 : lw_okq (⟨"ForceNet$Lots", "countInto", "(II)I"⟩, 8) := ⟨⟨by decide +kernel, by decide +kernel⟩, List.mem_of_getElem? (i := 291) (by decide +kernel), List.mem_of_getElem? (i := 939) (by decide +kernel), List.mem_of_getElem? (i := 940) (by decide +kernel)⟩
theorem lw_p29 : lw_okq (⟨"ForceNet$Lots", "line", "(II)I"⟩, 8) := ⟨⟨by decide +kernel, by decide +kernel⟩, List.mem_of_getElem? (i := 291) (by decide +kernel), List.mem_of_getElem? (i := 943) (by decide +kernel), List.mem_of_getElem? (i := 944) (by decide +kernel)⟩
theorem lw_p30 : lw_okq (⟨"ForceNet$Lots", "write", "(II)V"⟩, 8) := ⟨⟨by decide +kernel, by decide +kernel⟩, List.mem_of_getElem? (i := 291) (by decide +kernel), List.mem_of_getElem? (i := 947) (by decide +kernel), List.mem_of_getElem? (i := 948) (by decide +kernel)⟩
theorem lw_p31 : lw_okq (⟨"ForceNet$Lots", "setCell", "(IIJ)V"⟩, 8) := ⟨⟨by decide +kernel, by decide +kernel⟩, List.mem_of_getElem? (i := 291) (by decide +kernel), List.mem_of_getElem? (i := 951) (by decide +kernel), List.mem_of_getElem? (i := 952) (by decide +kernel)⟩
def lw_privs_2 : List (MethodName × Nat) := [(⟨"ForceNet$Plans", "cheapest", "(I)I"⟩, 7), (⟨"ForceNet$Plans", "worst", "(I)I"⟩, 7), (⟨"ForceNet", "findRow", "(I)I"⟩, 9), (⟨"ForceNet$Blind", "does", "(I)Z"⟩, 9), (⟨"ForceNet$Blind", "spread", "(I)I"⟩, 9), (⟨"ForceNet$Blind", "endsBy", "(I)I"⟩, 9), (⟨"ForceNet$Blind", "endsOfAll", "(I)I"⟩, 9), (⟨"ForceNet$Blind", "staying", "(I)I"⟩, 9), (⟨"ForceNet$Blind", "sure", "(II)I"⟩, 9), (⟨"ForceNet$Blind", "advance", "()Z"⟩, 9), (⟨"ForceNet$Lots", "countAll", "()V"⟩, 8), (⟨"ForceNet$Lots", "coming", "(I)I"⟩, 8), (⟨"ForceNet$Lots", "countInto", "(II)I"⟩, 8), (⟨"ForceNet$Lots", "line", "(II)I"⟩, 8), (⟨"ForceNet$Lots", "write", "(II)V"⟩, 8), (⟨"ForceNet$Lots", "setCell", "(IIJ)V"⟩, 8)]
theorem lw_r2 : ∀ q ∈ lw_privs_2, lw_okq q := List.forall_mem_cons.mpr ⟨lw_p16, List.forall_mem_cons.mpr ⟨lw_p17, List.forall_mem_cons.mpr ⟨lw_p18, List.forall_mem_cons.mpr ⟨lw_p19, List.forall_mem_cons.mpr ⟨lw_p20, List.forall_mem_cons.mpr ⟨lw_p21, List.forall_mem_cons.mpr ⟨lw_p22, List.forall_mem_cons.mpr ⟨lw_p23, List.forall_mem_cons.mpr ⟨lw_p24, List.forall_mem_cons.mpr ⟨lw_p25, List.forall_mem_cons.mpr ⟨lw_p26, List.forall_mem_cons.mpr ⟨lw_p27, List.forall_mem_cons.mpr ⟨lw_p28, List.forall_mem_cons.mpr ⟨lw_p29, List.forall_mem_cons.mpr ⟨lw_p30, List.forall_mem_cons.mpr ⟨lw_p31, fun _ h => absurd h List.not_mem_nil⟩⟩⟩⟩⟩⟩⟩⟩⟩⟩⟩⟩⟩⟩⟩⟩
theorem lw_p32 : lw_okq (⟨"ForceNet$Lots", "solve", "(I)V"⟩, 8) := ⟨⟨by decide +kernel, by decide +kernel⟩, List.mem_of_getElem? (i := 291) (by decide +kernel), List.mem_of_getElem? (i := 955) (by decide +kernel), List.mem_of_getElem? (i := 956) (by decide +kernel)⟩
theorem lw_p33 : lw_okq (⟨"ForceNet$Lots", "clearBelow", "(IIIJ)V"⟩, 8) := ⟨⟨by decide +kernel, by decide +kernel⟩, List.mem_of_getElem? (i := 291) (by decide +kernel), List.mem_of_getElem? (i := 959) (by decide +kernel), List.mem_of_getElem? (i := 960) (by decide +kernel)⟩
theorem lw_p34 : lw_okq (⟨"ForceNet$Lots", "cell", "(II)J"⟩, 8) := ⟨⟨by decide +kernel, by decide +kernel⟩, List.mem_of_getElem? (i := 291) (by decide +kernel), List.mem_of_getElem? (i := 963) (by decide +kernel), List.mem_of_getElem? (i := 964) (by decide +kernel)⟩
theorem lw_p35 : lw_okq (⟨"ForceNet$Lots", "shorten", "()V"⟩, 8) := ⟨⟨by decide +kernel, by decide +kernel⟩, List.mem_of_getElem? (i := 291) (by decide +kernel), List.mem_of_getElem? (i := 967) (by decide +kernel), List.mem_of_getElem? (i := 968) (by decide +kernel)⟩
theorem lw_p36 : lw_okq (⟨"ForceNet$Goals", "couldMeet", "([III)Z"⟩, 3) := ⟨⟨by decide +kernel, by decide +kernel⟩, List.mem_of_getElem? (i := 326) (by decide +kernel), List.mem_of_getElem? (i := 1000) (by decide +kernel), List.mem_of_getElem? (i := 1001) (by decide +kernel)⟩
theorem lw_p37 : lw_okq (⟨"ForceNet$Goals", "advance", "()Z"⟩, 3) := ⟨⟨by decide +kernel, by decide +kernel⟩, List.mem_of_getElem? (i := 326) (by decide +kernel), List.mem_of_getElem? (i := 1023) (by decide +kernel), List.mem_of_getElem? (i := 1024) (by decide +kernel)⟩
theorem lw_p38 : lw_okq (⟨"ForceNetModel", "begins", "(II)V"⟩, 47) := ⟨⟨by decide +kernel, by decide +kernel⟩, List.mem_of_getElem? (i := 1077) (by decide +kernel), List.mem_of_getElem? (i := 1083) (by decide +kernel), List.mem_of_getElem? (i := 1084) (by decide +kernel)⟩
theorem lw_p39 : lw_okq (⟨"ForceNetModel", "isState", "(I)Z"⟩, 47) := ⟨⟨by decide +kernel, by decide +kernel⟩, List.mem_of_getElem? (i := 1077) (by decide +kernel), List.mem_of_getElem? (i := 1244) (by decide +kernel), List.mem_of_getElem? (i := 1245) (by decide +kernel)⟩
theorem lw_p40 : lw_okq (⟨"ForceNetModel", "isPlayer", "(I)Z"⟩, 47) := ⟨⟨by decide +kernel, by decide +kernel⟩, List.mem_of_getElem? (i := 1077) (by decide +kernel), List.mem_of_getElem? (i := 1248) (by decide +kernel), List.mem_of_getElem? (i := 1249) (by decide +kernel)⟩
theorem lw_p41 : lw_okq (⟨"ForceNetModel", "isGroup", "(I)Z"⟩, 47) := ⟨⟨by decide +kernel, by decide +kernel⟩, List.mem_of_getElem? (i := 1077) (by decide +kernel), List.mem_of_getElem? (i := 1257) (by decide +kernel), List.mem_of_getElem? (i := 1258) (by decide +kernel)⟩
theorem lw_p42 : lw_okq (⟨"ForceNetModel", "jointOf", "(II)I"⟩, 47) := ⟨⟨by decide +kernel, by decide +kernel⟩, List.mem_of_getElem? (i := 1077) (by decide +kernel), List.mem_of_getElem? (i := 1261) (by decide +kernel), List.mem_of_getElem? (i := 1262) (by decide +kernel)⟩
theorem lw_p43 : lw_okq (⟨"ForceNetModel", "isMove", "(II)Z"⟩, 47) := ⟨⟨by decide +kernel, by decide +kernel⟩, List.mem_of_getElem? (i := 1077) (by decide +kernel), List.mem_of_getElem? (i := 1269) (by decide +kernel), List.mem_of_getElem? (i := 1270) (by decide +kernel)⟩
theorem lw_p44 : lw_okq (⟨"ForceNetModel", "everybody", "()I"⟩, 47) := ⟨⟨by decide +kernel, by decide +kernel⟩, List.mem_of_getElem? (i := 1077) (by decide +kernel), List.mem_of_getElem? (i := 1273) (by decide +kernel), List.mem_of_getElem? (i := 1274) (by decide +kernel)⟩
theorem lw_p45 : lw_okq (⟨"ForceNetModel", "isSet", "(I)Z"⟩, 47) := ⟨⟨by decide +kernel, by decide +kernel⟩, List.mem_of_getElem? (i := 1077) (by decide +kernel), List.mem_of_getElem? (i := 1300) (by decide +kernel), List.mem_of_getElem? (i := 1301) (by decide +kernel)⟩
theorem lw_p46 : lw_okq (⟨"ForceNetModel", "forces", "(III)I"⟩, 47) := ⟨⟨by decide +kernel, by decide +kernel⟩, List.mem_of_getElem? (i := 1077) (by decide +kernel), List.mem_of_getElem? (i := 1304) (by decide +kernel), List.mem_of_getElem? (i := 1305) (by decide +kernel)⟩
theorem lw_p47 : lw_okq (⟨"ForceNetModel", "others", "(I)I"⟩, 47) := ⟨⟨by decide +kernel, by decide +kernel⟩, List.mem_of_getElem? (i := 1077) (by decide +kernel), List.mem_of_getElem? (i := 1308) (by decide +kernel), List.mem_of_getElem? (i := 1309) (by decide +kernel)⟩
def lw_privs_3 : List (MethodName × Nat) := [(⟨"ForceNet$Lots", "solve", "(I)V"⟩, 8), (⟨"ForceNet$Lots", "clearBelow", "(IIIJ)V"⟩, 8), (⟨"ForceNet$Lots", "cell", "(II)J"⟩, 8), (⟨"ForceNet$Lots", "shorten", "()V"⟩, 8), (⟨"ForceNet$Goals", "couldMeet", "([III)Z"⟩, 3), (⟨"ForceNet$Goals", "advance", "()Z"⟩, 3), (⟨"ForceNetModel", "begins", "(II)V"⟩, 47), (⟨"ForceNetModel", "isState", "(I)Z"⟩, 47), (⟨"ForceNetModel", "isPlayer", "(I)Z"⟩, 47), (⟨"ForceNetModel", "isGroup", "(I)Z"⟩, 47), (⟨"ForceNetModel", "jointOf", "(II)I"⟩, 47), (⟨"ForceNetModel", "isMove", "(II)Z"⟩, 47), (⟨"ForceNetModel", "everybody", "()I"⟩, 47), (⟨"ForceNetModel", "isSet", "(I)Z"⟩, 47), (⟨"ForceNetModel", "forces", "(III)I"⟩, 47), (⟨"ForceNetModel", "others", "(I)I"⟩, 47)]
theorem lw_r3 : ∀ q ∈ lw_privs_3, lw_okq q := List.forall_mem_cons.mpr ⟨lw_p32, List.forall_mem_cons.mpr ⟨lw_p33, List.forall_mem_cons.mpr ⟨lw_p34, List.forall_mem_cons.mpr ⟨lw_p35, List.forall_mem_cons.mpr ⟨lw_p36, List.forall_mem_cons.mpr ⟨lw_p37, List.forall_mem_cons.mpr ⟨lw_p38, List.forall_mem_cons.mpr ⟨lw_p39, List.forall_mem_cons.mpr ⟨lw_p40, List.forall_mem_cons.mpr ⟨lw_p41, List.forall_mem_cons.mpr ⟨lw_p42, List.forall_mem_cons.mpr ⟨lw_p43, List.forall_mem_cons.mpr ⟨lw_p44, List.forall_mem_cons.mpr ⟨lw_p45, List.forall_mem_cons.mpr ⟨lw_p46, List.forall_mem_cons.mpr ⟨lw_p47, fun _ h => absurd h List.not_mem_nil⟩⟩⟩⟩⟩⟩⟩⟩⟩⟩⟩⟩⟩⟩⟩⟩
theorem lw_p48 : lw_okq (⟨"ForceNetModel", "leadsBy", "(IIII)I"⟩, 47) := ⟨⟨by decide +kernel, by decide +kernel⟩, List.mem_of_getElem? (i := 1077) (by decide +kernel), List.mem_of_getElem? (i := 1312) (by decide +kernel), List.mem_of_getElem? (i := 1313) (by decide +kernel)⟩
theorem lw_p49 : lw_okq (⟨"ForceNetModel", "isWhole", "()Z"⟩, 47) := ⟨⟨by decide +kernel, by decide +kernel⟩, List.mem_of_getElem? (i := 1077) (by decide +kernel), List.mem_of_getElem? (i := 1327) (by decide +kernel), List.mem_of_getElem? (i := 1328) (by decide +kernel)⟩
theorem lw_p50 : lw_okq (⟨"ForceNetModel", "next", "()I"⟩, 47) := ⟨⟨by decide +kernel, by decide +kernel⟩, List.mem_of_getElem? (i := 1077) (by decide +kernel), List.mem_of_getElem? (i := 1331) (by decide +kernel), List.mem_of_getElem? (i := 1332) (by decide +kernel)⟩
theorem lw_p51 : lw_okq (⟨"ForceNetModel", "group", "(I)V"⟩, 47) := ⟨⟨by decide +kernel, by decide +kernel⟩, List.mem_of_getElem? (i := 1077) (by decide +kernel), List.mem_of_getElem? (i := 1337) (by decide +kernel), List.mem_of_getElem? (i := 1338) (by decide +kernel)⟩
theorem lw_p52 : lw_okq (⟨"ForceNetModel", "needs", "(I)V"⟩, 47) := ⟨⟨by decide +kernel, by decide +kernel⟩, List.mem_of_getElem? (i := 1077) (by decide +kernel), List.mem_of_getElem? (i := 1341) (by decide +kernel), List.mem_of_getElem? (i := 1342) (by decide +kernel)⟩
theorem lw_p53 : lw_okq (⟨"ForceNetModel", "opens", "(II)V"⟩, 47) := ⟨⟨by decide +kernel, by decide +kernel⟩, List.mem_of_getElem? (i := 1077) (by decide +kernel), List.mem_of_getElem? (i := 1346) (by decide +kernel), List.mem_of_getElem? (i := 1347) (by decide +kernel)⟩
theorem lw_p54 : lw_okq (⟨"ForceNetModel", "closes", "(I)V"⟩, 47) := ⟨⟨by decide +kernel, by decide +kernel⟩, List.mem_of_getElem? (i := 1077) (by decide +kernel), List.mem_of_getElem? (i := 1350) (by decide +kernel), List.mem_of_getElem? (i := 1351) (by decide +kernel)⟩
theorem lw_p55 : lw_okq (⟨"ForceNetModel", "tell", "()I"⟩, 47) := ⟨⟨by decide +kernel, by decide +kernel⟩, List.mem_of_getElem? (i := 1077) (by decide +kernel), List.mem_of_getElem? (i := 1358) (by decide +kernel), List.mem_of_getElem? (i := 1359) (by decide +kernel)⟩
theorem lw_p56 : lw_okq (⟨"ForceNetModel", "heldOf", "(II)I"⟩, 47) := ⟨⟨by decide +kernel, by decide +kernel⟩, List.mem_of_getElem? (i := 1077) (by decide +kernel), List.mem_of_getElem? (i := 1362) (by decide +kernel), List.mem_of_getElem? (i := 1363) (by decide +kernel)⟩
theorem lw_p57 : lw_okq (⟨"ForceNetModel", "whole", "()I"⟩, 47) := ⟨⟨by decide +kernel, by decide +kernel⟩, List.mem_of_getElem? (i := 1077) (by decide +kernel), List.mem_of_getElem? (i := 1366) (by decide +kernel), List.mem_of_getElem? (i := 1367) (by decide +kernel)⟩
theorem lw_p58 : lw_okq (⟨"ForceNetModel", "forcing", "(II)I"⟩, 47) := ⟨⟨by decide +kernel, by decide +kernel⟩, List.mem_of_getElem? (i := 1077) (by decide +kernel), List.mem_of_getElem? (i := 1370) (by decide +kernel), List.mem_of_getElem? (i := 1371) (by decide +kernel)⟩
theorem lw_p59 : lw_okq (⟨"ForceNetModel", "always", "(II)I"⟩, 47) := ⟨⟨by decide +kernel, by decide +kernel⟩, List.mem_of_getElem? (i := 1077) (by decide +kernel), List.mem_of_getElem? (i := 1374) (by decide +kernel), List.mem_of_getElem? (i := 1375) (by decide +kernel)⟩
theorem lw_p60 : lw_okq (⟨"ForceNetModel", "until", "(III)I"⟩, 47) := ⟨⟨by decide +kernel, by decide +kernel⟩, List.mem_of_getElem? (i := 1077) (by decide +kernel), List.mem_of_getElem? (i := 1378) (by decide +kernel), List.mem_of_getElem? (i := 1379) (by decide +kernel)⟩
theorem lw_p61 : lw_okq (⟨"ForceNetModel", "again", "(II)I"⟩, 47) := ⟨⟨by decide +kernel, by decide +kernel⟩, List.mem_of_getElem? (i := 1077) (by decide +kernel), List.mem_of_getElem? (i := 1382) (by decide +kernel), List.mem_of_getElem? (i := 1383) (by decide +kernel)⟩
theorem lw_p62 : lw_okq (⟨"ForceNetModel", "hasRounds", "()Z"⟩, 47) := ⟨⟨by decide +kernel, by decide +kernel⟩, List.mem_of_getElem? (i := 1077) (by decide +kernel), List.mem_of_getElem? (i := 1394) (by decide +kernel), List.mem_of_getElem? (i := 1395) (by decide +kernel)⟩
theorem lw_p63 : lw_okq (⟨"ForceNetModel", "isOfGroup", "()Z"⟩, 47) := ⟨⟨by decide +kernel, by decide +kernel⟩, List.mem_of_getElem? (i := 1077) (by decide +kernel), List.mem_of_getElem? (i := 1402) (by decide +kernel), List.mem_of_getElem? (i := 1403) (by decide +kernel)⟩
def lw_privs_4 : List (MethodName × Nat) := [(⟨"ForceNetModel", "leadsBy", "(IIII)I"⟩, 47), (⟨"ForceNetModel", "isWhole", "()Z"⟩, 47), (⟨"ForceNetModel", "next", "()I"⟩, 47), (⟨"ForceNetModel", "group", "(I)V"⟩, 47), (⟨"ForceNetModel", "needs", "(I)V"⟩, 47), (⟨"ForceNetModel", "opens", "(II)V"⟩, 47), (⟨"ForceNetModel", "closes", "(I)V"⟩, 47), (⟨"ForceNetModel", "tell", "()I"⟩, 47), (⟨"ForceNetModel", "heldOf", "(II)I"⟩, 47), (⟨"ForceNetModel", "whole", "()I"⟩, 47), (⟨"ForceNetModel", "forcing", "(II)I"⟩, 47), (⟨"ForceNetModel", "always", "(II)I"⟩, 47), (⟨"ForceNetModel", "until", "(III)I"⟩, 47), (⟨"ForceNetModel", "again", "(II)I"⟩, 47), (⟨"ForceNetModel", "hasRounds", "()Z"⟩, 47), (⟨"ForceNetModel", "isOfGroup", "()Z"⟩, 47)]
theorem lw_r4 : ∀ q ∈ lw_privs_4, lw_okq q := List.forall_mem_cons.mpr ⟨lw_p48, List.forall_mem_cons.mpr ⟨lw_p49, List.forall_mem_cons.mpr ⟨lw_p50, List.forall_mem_cons.mpr ⟨lw_p51, List.forall_mem_cons.mpr ⟨lw_p52, List.forall_mem_cons.mpr ⟨lw_p53, List.forall_mem_cons.mpr ⟨lw_p54, List.forall_mem_cons.mpr ⟨lw_p55, List.forall_mem_cons.mpr ⟨lw_p56, List.forall_mem_cons.mpr ⟨lw_p57, List.forall_mem_cons.mpr ⟨lw_p58, List.forall_mem_cons.mpr ⟨lw_p59, List.forall_mem_cons.mpr ⟨lw_p60, List.forall_mem_cons.mpr ⟨lw_p61, List.forall_mem_cons.mpr ⟨lw_p62, List.forall_mem_cons.mpr ⟨lw_p63, fun _ h => absurd h List.not_mem_nil⟩⟩⟩⟩⟩⟩⟩⟩⟩⟩⟩⟩⟩⟩⟩⟩
theorem lw_p64 : lw_okq (⟨"ForceNetModel", "planOf", "(I)I"⟩, 47) := ⟨⟨by decide +kernel, by decide +kernel⟩, List.mem_of_getElem? (i := 1077) (by decide +kernel), List.mem_of_getElem? (i := 1406) (by decide +kernel), List.mem_of_getElem? (i := 1407) (by decide +kernel)⟩
theorem lw_p65 : lw_okq (⟨"ForceNetModel", "aim", "(I)I"⟩, 47) := ⟨⟨by decide +kernel, by decide +kernel⟩, List.mem_of_getElem? (i := 1077) (by decide +kernel), List.mem_of_getElem? (i := 1410) (by decide +kernel), List.mem_of_getElem? (i := 1411) (by decide +kernel)⟩
theorem lw_p66 : lw_okq (⟨"ForceNetModel", "tollBy", "(II)I"⟩, 47) := ⟨⟨by decide +kernel, by decide +kernel⟩, List.mem_of_getElem? (i := 1077) (by decide +kernel), List.mem_of_getElem? (i := 1422) (by decide +kernel), List.mem_of_getElem? (i := 1423) (by decide +kernel)⟩
theorem lw_p67 : lw_okq (⟨"ForceNetModel", "sumOf", "(III)I"⟩, 47) := ⟨⟨by decide +kernel, by decide +kernel⟩, List.mem_of_getElem? (i := 1077) (by decide +kernel), List.mem_of_getElem? (i := 1426) (by decide +kernel), List.mem_of_getElem? (i := 1427) (by decide +kernel)⟩
theorem lw_p68 : lw_okq (⟨"ForceNetModel", "finds", "(IIII)I"⟩, 47) := ⟨⟨by decide +kernel, by decide +kernel⟩, List.mem_of_getElem? (i := 1077) (by decide +kernel), List.mem_of_getElem? (i := 1441) (by decide +kernel), List.mem_of_getElem? (i := 1442) (by decide +kernel)⟩
theorem lw_p69 : lw_okq (⟨"ForceNetModel", "seeks", "(I)I"⟩, 47) := ⟨⟨by decide +kernel, by decide +kernel⟩, List.mem_of_getElem? (i := 1077) (by decide +kernel), List.mem_of_getElem? (i := 1457) (by decide +kernel), List.mem_of_getElem? (i := 1458) (by decide +kernel)⟩
theorem lw_p70 : lw_okq (⟨"ForceNetModel", "lays", "()I"⟩, 47) := ⟨⟨by decide +kernel, by decide +kernel⟩, List.mem_of_getElem? (i := 1077) (by decide +kernel), List.mem_of_getElem? (i := 1461) (by decide +kernel), List.mem_of_getElem? (i := 1462) (by decide +kernel)⟩
theorem lw_p71 : lw_okq (⟨"ForceNetModel", "mostOf", "(II)I"⟩, 47) := ⟨⟨by decide +kernel, by decide +kernel⟩, List.mem_of_getElem? (i := 1077) (by decide +kernel), List.mem_of_getElem? (i := 1465) (by decide +kernel), List.mem_of_getElem? (i := 1466) (by decide +kernel)⟩
theorem lw_p72 : lw_okq (⟨"ForceNetModel", "fits", "(I)I"⟩, 47) := ⟨⟨by decide +kernel, by decide +kernel⟩, List.mem_of_getElem? (i := 1077) (by decide +kernel), List.mem_of_getElem? (i := 1469) (by decide +kernel), List.mem_of_getElem? (i := 1470) (by decide +kernel)⟩
theorem lw_p73 : lw_okq (⟨"ForceNetModel", "links", "()V"⟩, 47) := ⟨⟨by decide +kernel, by decide +kernel⟩, List.mem_of_getElem? (i := 1077) (by decide +kernel), List.mem_of_getElem? (i := 1473) (by decide +kernel), List.mem_of_getElem? (i := 1474) (by decide +kernel)⟩
theorem lw_p74 : lw_okq (⟨"ForceNetModel", "digitOf", "(II)I"⟩, 47) := ⟨⟨by decide +kernel, by decide +kernel⟩, List.mem_of_getElem? (i := 1077) (by decide +kernel), List.mem_of_getElem? (i := 1477) (by decide +kernel), List.mem_of_getElem? (i := 1478) (by decide +kernel)⟩
theorem lw_p75 : lw_okq (⟨"ForceNetModel", "does", "()I"⟩, 47) := ⟨⟨by decide +kernel, by decide +kernel⟩, List.mem_of_getElem? (i := 1077) (by decide +kernel), List.mem_of_getElem? (i := 1481) (by decide +kernel), List.mem_of_getElem? (i := 1482) (by decide +kernel)⟩
theorem lw_p76 : lw_okq (⟨"ForceNetModel", "stays", "(I)I"⟩, 47) := ⟨⟨by decide +kernel, by decide +kernel⟩, List.mem_of_getElem? (i := 1077) (by decide +kernel), List.mem_of_getElem? (i := 1485) (by decide +kernel), List.mem_of_getElem? (i := 1486) (by decide +kernel)⟩
theorem lw_p77 : lw_okq (⟨"ForceNetModel", "surely", "(II)I"⟩, 47) := ⟨⟨by decide +kernel, by decide +kernel⟩, List.mem_of_getElem? (i := 1077) (by decide +kernel), List.mem_of_getElem? (i := 1489) (by decide +kernel), List.mem_of_getElem? (i := 1490) (by decide +kernel)⟩
theorem lw_p78 : lw_okq (⟨"ForceNetModel", "countsUp", "()Z"⟩, 47) := ⟨⟨by decide +kernel, by decide +kernel⟩, List.mem_of_getElem? (i := 1077) (by decide +kernel), List.mem_of_getElem? (i := 1493) (by decide +kernel), List.mem_of_getElem? (i := 1494) (by decide +kernel)⟩
theorem lw_p79 : lw_okq (⟨"ForceNetModel", "coming", "(I)I"⟩, 47) := ⟨⟨by decide +kernel, by decide +kernel⟩, List.mem_of_getElem? (i := 1077) (by decide +kernel), List.mem_of_getElem? (i := 1514) (by decide +kernel), List.mem_of_getElem? (i := 1515) (by decide +kernel)⟩
def lw_privs_5 : List (MethodName × Nat) := [(⟨"ForceNetModel", "planOf", "(I)I"⟩, 47), (⟨"ForceNetModel", "aim", "(I)I"⟩, 47), (⟨"ForceNetModel", "tollBy", "(II)I"⟩, 47), (⟨"ForceNetModel", "sumOf", "(III)I"⟩, 47), (⟨"ForceNetModel", "finds", "(IIII)I"⟩, 47), (⟨"ForceNetModel", "seeks", "(I)I"⟩, 47), (⟨"ForceNetModel", "lays", "()I"⟩, 47), (⟨"ForceNetModel", "mostOf", "(II)I"⟩, 47), (⟨"ForceNetModel", "fits", "(I)I"⟩, 47), (⟨"ForceNetModel", "links", "()V"⟩, 47), (⟨"ForceNetModel", "digitOf", "(II)I"⟩, 47), (⟨"ForceNetModel", "does", "()I"⟩, 47), (⟨"ForceNetModel", "stays", "(I)I"⟩, 47), (⟨"ForceNetModel", "surely", "(II)I"⟩, 47), (⟨"ForceNetModel", "countsUp", "()Z"⟩, 47), (⟨"ForceNetModel", "coming", "(I)I"⟩, 47)]
theorem lw_r5 : ∀ q ∈ lw_privs_5, lw_okq q := List.forall_mem_cons.mpr ⟨lw_p64, List.forall_mem_cons.mpr ⟨lw_p65, List.forall_mem_cons.mpr ⟨lw_p66, List.forall_mem_cons.mpr ⟨lw_p67, List.forall_mem_cons.mpr ⟨lw_p68, List.forall_mem_cons.mpr ⟨lw_p69, List.forall_mem_cons.mpr ⟨lw_p70, List.forall_mem_cons.mpr ⟨lw_p71, List.forall_mem_cons.mpr ⟨lw_p72, List.forall_mem_cons.mpr ⟨lw_p73, List.forall_mem_cons.mpr ⟨lw_p74, List.forall_mem_cons.mpr ⟨lw_p75, List.forall_mem_cons.mpr ⟨lw_p76, List.forall_mem_cons.mpr ⟨lw_p77, List.forall_mem_cons.mpr ⟨lw_p78, List.forall_mem_cons.mpr ⟨lw_p79, fun _ h => absurd h List.not_mem_nil⟩⟩⟩⟩⟩⟩⟩⟩⟩⟩⟩⟩⟩⟩⟩⟩
theorem lw_p80 : lw_okq (⟨"ForceNetModel", "lotMany", "(I)I"⟩, 47) := ⟨⟨by decide +kernel, by decide +kernel⟩, List.mem_of_getElem? (i := 1077) (by decide +kernel), List.mem_of_getElem? (i := 1518) (by decide +kernel), List.mem_of_getElem? (i := 1519) (by decide +kernel)⟩
theorem lw_p81 : lw_okq (⟨"ForceNetModel", "leadsWith", "(III)I"⟩, 47) := ⟨⟨by decide +kernel, by decide +kernel⟩, List.mem_of_getElem? (i := 1077) (by decide +kernel), List.mem_of_getElem? (i := 1522) (by decide +kernel), List.mem_of_getElem? (i := 1523) (by decide +kernel)⟩
theorem lw_p82 : lw_okq (⟨"ForceNetModel", "equations", "(II)V"⟩, 47) := ⟨⟨by decide +kernel, by decide +kernel⟩, List.mem_of_getElem? (i := 1077) (by decide +kernel), List.mem_of_getElem? (i := 1526) (by decide +kernel), List.mem_of_getElem? (i := 1527) (by decide +kernel)⟩
theorem lw_p83 : lw_okq (⟨"ForceNetModel", "solve", "()V"⟩, 47) := ⟨⟨by decide +kernel, by decide +kernel⟩, List.mem_of_getElem? (i := 1077) (by decide +kernel), List.mem_of_getElem? (i := 1530) (by decide +kernel), List.mem_of_getElem? (i := 1531) (by decide +kernel)⟩
theorem lw_p84 : lw_okq (⟨"ForceNetModel", "swap", "(II)V"⟩, 47) := ⟨⟨by decide +kernel, by decide +kernel⟩, List.mem_of_getElem? (i := 1077) (by decide +kernel), List.mem_of_getElem? (i := 1534) (by decide +kernel), List.mem_of_getElem? (i := 1535) (by decide +kernel)⟩
theorem lw_p85 : lw_okq (⟨"ForceNetModel", "shorten", "(I)V"⟩, 47) := ⟨⟨by decide +kernel, by decide +kernel⟩, List.mem_of_getElem? (i := 1077) (by decide +kernel), List.mem_of_getElem? (i := 1541) (by decide +kernel), List.mem_of_getElem? (i := 1542) (by decide +kernel)⟩
theorem lw_p86 : lw_okq (⟨"ForceNetModel", "contentOf", "(I)I"⟩, 47) := ⟨⟨by decide +kernel, by decide +kernel⟩, List.mem_of_getElem? (i := 1077) (by decide +kernel), List.mem_of_getElem? (i := 1553) (by decide +kernel), List.mem_of_getElem? (i := 1554) (by decide +kernel)⟩
theorem lw_p87 : lw_okq (⟨"ForceNetModel", "way", "(I)I"⟩, 47) := ⟨⟨by decide +kernel, by decide +kernel⟩, List.mem_of_getElem? (i := 1077) (by decide +kernel), List.mem_of_getElem? (i := 1557) (by decide +kernel), List.mem_of_getElem? (i := 1558) (by decide +kernel)⟩
theorem lw_p88 : lw_okq (⟨"ForceNetModel", "isStable", "(I)Z"⟩, 47) := ⟨⟨by decide +kernel, by decide +kernel⟩, List.mem_of_getElem? (i := 1077) (by decide +kernel), List.mem_of_getElem? (i := 1565) (by decide +kernel), List.mem_of_getElem? (i := 1566) (by decide +kernel)⟩
theorem lw_p89 : lw_okq (⟨"ForceNetModel", "alone", "(II)I"⟩, 47) := ⟨⟨by decide +kernel, by decide +kernel⟩, List.mem_of_getElem? (i := 1077) (by decide +kernel), List.mem_of_getElem? (i := 1569) (by decide +kernel), List.mem_of_getElem? (i := 1570) (by decide +kernel)⟩
theorem lw_p90 : lw_okq (⟨"ForceNetModel", "plansOfAll", "()I"⟩, 47) := ⟨⟨by decide +kernel, by decide +kernel⟩, List.mem_of_getElem? (i := 1077) (by decide +kernel), List.mem_of_getElem? (i := 1577) (by decide +kernel), List.mem_of_getElem? (i := 1578) (by decide +kernel)⟩
theorem lw_p91 : lw_okq (⟨"ForceNetModel", "plansUp", "()Z"⟩, 47) := ⟨⟨by decide +kernel, by decide +kernel⟩, List.mem_of_getElem? (i := 1077) (by decide +kernel), List.mem_of_getElem? (i := 1582) (by decide +kernel), List.mem_of_getElem? (i := 1583) (by decide +kernel)⟩
def lw_privs_6 : List (MethodName × Nat) := [(⟨"ForceNetModel", "lotMany", "(I)I"⟩, 47), (⟨"ForceNetModel", "leadsWith", "(III)I"⟩, 47), (⟨"ForceNetModel", "equations", "(II)V"⟩, 47), (⟨"ForceNetModel", "solve", "()V"⟩, 47), (⟨"ForceNetModel", "swap", "(II)V"⟩, 47), (⟨"ForceNetModel", "shorten", "(I)V"⟩, 47), (⟨"ForceNetModel", "contentOf", "(I)I"⟩, 47), (⟨"ForceNetModel", "way", "(I)I"⟩, 47), (⟨"ForceNetModel", "isStable", "(I)Z"⟩, 47), (⟨"ForceNetModel", "alone", "(II)I"⟩, 47), (⟨"ForceNetModel", "plansOfAll", "()I"⟩, 47), (⟨"ForceNetModel", "plansUp", "()Z"⟩, 47)]
theorem lw_r6 : ∀ q ∈ lw_privs_6, lw_okq q := List.forall_mem_cons.mpr ⟨lw_p80, List.forall_mem_cons.mpr ⟨lw_p81, List.forall_mem_cons.mpr ⟨lw_p82, List.forall_mem_cons.mpr ⟨lw_p83, List.forall_mem_cons.mpr ⟨lw_p84, List.forall_mem_cons.mpr ⟨lw_p85, List.forall_mem_cons.mpr ⟨lw_p86, List.forall_mem_cons.mpr ⟨lw_p87, List.forall_mem_cons.mpr ⟨lw_p88, List.forall_mem_cons.mpr ⟨lw_p89, List.forall_mem_cons.mpr ⟨lw_p90, List.forall_mem_cons.mpr ⟨lw_p91, fun _ h => absurd h List.not_mem_nil⟩⟩⟩⟩⟩⟩⟩⟩⟩⟩⟩⟩
def lw_privs : List (MethodName × Nat) := lw_privs_1 ++ (lw_privs_2 ++ (lw_privs_3 ++ (lw_privs_4 ++ (lw_privs_5 ++ (lw_privs_6)))))
def lw_tbl : List Cond := k2_sels lw_privs ++ tables_1
theorem lw_privs_ok : ∀ q ∈ lw_privs, lw_okq q := by
  show ∀ q ∈ lw_privs_1 ++ (lw_privs_2 ++ (lw_privs_3 ++ (lw_privs_4 ++ (lw_privs_5 ++ (lw_privs_6))))), lw_okq q
  exact List.forall_mem_append.mpr ⟨lw_r1, List.forall_mem_append.mpr ⟨lw_r2, List.forall_mem_append.mpr ⟨lw_r3, List.forall_mem_append.mpr ⟨lw_r4, List.forall_mem_append.mpr ⟨lw_r5, lw_r6⟩⟩⟩⟩⟩
-- ===== end of PART A; then your names; then what follows =====
end
section
/-! names and fields: from claim/NAMES.whole.lean.txt -/
def RX0 : String := "ForceNet$Blind"
def TX0 : u_T := fun k => match k with
  | 0 => ("ForceNet$Blind", "net", "LForceNet$Net;", true)
  | 1 => ("ForceNet$Blind", "table", "LForceNet$Table;", true)
  | 2 => ("ForceNet$Blind", "row", "[I", true)
  | 3 => ("ForceNet$Blind", "bases", "[I", true)
  | 4 => ("ForceNet$Blind", "ends", "[I", true)
  | 5 => ("ForceNet$Blind", "group", "I", false)
  | 6 => ("ForceNet$Blind", "kind", "I", false)
  | 7 => ("ForceNet$Blind", "first", "I", false)
  | _ => ("ForceNet$Blind", "second", "I", false)
def tyX0 : Nat → FieldType := fun k => match k with
  | 0 => .object "ForceNet$Net"
  | 1 => .object "ForceNet$Table"
  | 2 => .array .int
  | 3 => .array .int
  | 4 => .array .int
  | 5 => .int
  | 6 => .int
  | 7 => .int
  | _ => .int
abbrev wsX00 : List Cond := u_ws RX0 TX0 9
theorem nmX0 : ∀ a, a < 9 → ∀ b, b < 9 → a ≠ b → (TX0 a).2.1 ≠ (TX0 b).2.1 := by decide +kernel
theorem tyX0_ok : ∀ k, k < 9 → parseFieldDescriptor (TX0 k).2.2.1 = some (tyX0 k) := by decide +kernel
abbrev cX0_init : ByteArray := prog_2_method_1_code
def yX0_init : MethodName := ⟨RX0, "<init>", "(LForceNet$Net;LForceNet$Table;)V"⟩
abbrev cX0_prepare : ByteArray := prog_2_method_2_code
def yX0_prepare : MethodName := ⟨RX0, "prepare", "(I)I"⟩
abbrev cX0_want : ByteArray := prog_2_method_3_code
def yX0_want : MethodName := ⟨RX0, "want", "(III)V"⟩
abbrev cX0_fit : ByteArray := prog_2_method_4_code
def yX0_fit : MethodName := ⟨RX0, "fit", "(I)I"⟩
abbrev cX0_search : ByteArray := prog_2_method_5_code
def yX0_search : MethodName := ⟨RX0, "search", "(I)Z"⟩
abbrev cX0_advance : ByteArray := prog_2_method_6_code
def yX0_advance : MethodName := ⟨RX0, "advance", "()Z"⟩
abbrev cX0_does : ByteArray := prog_2_method_7_code
def yX0_does : MethodName := ⟨RX0, "does", "(I)Z"⟩
abbrev cX0_spread : ByteArray := prog_2_method_8_code
def yX0_spread : MethodName := ⟨RX0, "spread", "(I)I"⟩
abbrev cX0_endsBy : ByteArray := prog_2_method_9_code
def yX0_endsBy : MethodName := ⟨RX0, "endsBy", "(I)I"⟩
abbrev cX0_endsOfAll : ByteArray := prog_2_method_10_code
def yX0_endsOfAll : MethodName := ⟨RX0, "endsOfAll", "(I)I"⟩
abbrev cX0_staying : ByteArray := prog_2_method_11_code
def yX0_staying : MethodName := ⟨RX0, "staying", "(I)I"⟩
abbrev cX0_sure : ByteArray := prog_2_method_12_code
def yX0_sure : MethodName := ⟨RX0, "sure", "(II)I"⟩
def RX1 : String := "ForceNet$Form"
def TX1 : u_T := fun k => match k with
  | 0 => ("ForceNet$Form", "parts", "I", false)
  | 1 => ("ForceNet$Form", "version", "I", false)
  | 2 => ("ForceNet$Form", "kinds", "[I", true)
  | 3 => ("ForceNet$Form", "lefts", "[I", true)
  | 4 => ("ForceNet$Form", "rights", "[I", true)
  | _ => ("ForceNet$Form", "groups", "[I", true)
def tyX1 : Nat → FieldType := fun k => match k with
  | 0 => .int
  | 1 => .int
  | 2 => .array .int
  | 3 => .array .int
  | 4 => .array .int
  | _ => .array .int
abbrev wsX10 : List Cond := u_ws RX1 TX1 6
theorem nmX1 : ∀ a, a < 6 → ∀ b, b < 6 → a ≠ b → (TX1 a).2.1 ≠ (TX1 b).2.1 := by decide +kernel
theorem tyX1_ok : ∀ k, k < 6 → parseFieldDescriptor (TX1 k).2.2.1 = some (tyX1 k) := by decide +kernel
abbrev cX1_init : ByteArray := prog_3_method_1_code
def yX1_init : MethodName := ⟨RX1, "<init>", "()V"⟩
abbrev cX1_becomeTrue : ByteArray := prog_3_method_2_code
def yX1_becomeTrue : MethodName := ⟨RX1, "becomeTrue", "()V"⟩
abbrev cX1_clear : ByteArray := prog_3_method_3_code
def yX1_clear : MethodName := ⟨RX1, "clear", "()V"⟩
abbrev cX1_add : ByteArray := prog_3_method_4_code
def yX1_add : MethodName := ⟨RX1, "add", "(I)I"⟩
abbrev cX1_set : ByteArray := prog_3_method_5_code
def yX1_set : MethodName := ⟨RX1, "set", "(IIII)V"⟩
abbrev cX1_become : ByteArray := prog_3_method_6_code
def yX1_become : MethodName := ⟨RX1, "become", "(LForceNet$Form;)V"⟩
abbrev cX1_kind : ByteArray := prog_3_method_7_code
def yX1_kind : MethodName := ⟨RX1, "kind", "(I)I"⟩
abbrev cX1_left : ByteArray := prog_3_method_8_code
def yX1_left : MethodName := ⟨RX1, "left", "(I)I"⟩
abbrev cX1_right : ByteArray := prog_3_method_9_code
def yX1_right : MethodName := ⟨RX1, "right", "(I)I"⟩
abbrev cX1_group : ByteArray := prog_3_method_10_code
def yX1_group : MethodName := ⟨RX1, "group", "(I)I"⟩
abbrev cX1_isLaw : ByteArray := prog_3_method_11_code
def yX1_isLaw : MethodName := ⟨RX1, "isLaw", "(I)Z"⟩
abbrev cX1_isOfGroup : ByteArray := prog_3_method_12_code
def yX1_isOfGroup : MethodName := ⟨RX1, "isOfGroup", "()Z"⟩
abbrev cX1_hasRounds : ByteArray := prog_3_method_13_code
def yX1_hasRounds : MethodName := ⟨RX1, "hasRounds", "()Z"⟩
abbrev cX1_hasToll : ByteArray := prog_3_method_14_code
def yX1_hasToll : MethodName := ⟨RX1, "hasToll", "()Z"⟩
def RX2 : String := "ForceNet$Goals"
def TX2 : u_T := fun k => match k with
  | 0 => ("ForceNet$Goals", "net", "LForceNet$Net;", true)
  | 1 => ("ForceNet$Goals", "sets", "[I", true)
  | _ => ("ForceNet$Goals", "tried", "[I", true)
def tyX2 : Nat → FieldType := fun k => match k with
  | 0 => .object "ForceNet$Net"
  | 1 => .array .int
  | _ => .array .int
abbrev wsX20 : List Cond := u_ws RX2 TX2 3
theorem nmX2 : ∀ a, a < 3 → ∀ b, b < 3 → a ≠ b → (TX2 a).2.1 ≠ (TX2 b).2.1 := by decide +kernel
theorem tyX2_ok : ∀ k, k < 3 → parseFieldDescriptor (TX2 k).2.2.1 = some (tyX2 k) := by decide +kernel
abbrev cX2_init : ByteArray := prog_4_method_1_code
def yX2_init : MethodName := ⟨RX2, "<init>", "(LForceNet$Net;)V"⟩
abbrev cX2_forget : ByteArray := prog_4_method_2_code
def yX2_forget : MethodName := ⟨RX2, "forget", "()V"⟩
abbrev cX2_passed : ByteArray := prog_4_method_3_code
def yX2_passed : MethodName := ⟨RX2, "passed", "([II)I"⟩
abbrev cX2_meeting : ByteArray := prog_4_method_4_code
def yX2_meeting : MethodName := ⟨RX2, "meeting", "(I)I"⟩
abbrev cX2_isStable : ByteArray := prog_4_method_5_code
def yX2_isStable : MethodName := ⟨RX2, "isStable", "([II)Z"⟩
abbrev cX2_couldMeet : ByteArray := prog_4_method_6_code
def yX2_couldMeet : MethodName := ⟨RX2, "couldMeet", "([III)Z"⟩
abbrev cX2_search : ByteArray := prog_4_method_7_code
def yX2_search : MethodName := ⟨RX2, "search", "(I)Z"⟩
abbrev cX2_advance : ByteArray := prog_4_method_8_code
def yX2_advance : MethodName := ⟨RX2, "advance", "()Z"⟩
def RX3 : String := "ForceNet$Laws"
def TX3 : u_T := fun k => match k with
  | 0 => ("ForceNet$Laws", "net", "LForceNet$Net;", true)
  | 1 => ("ForceNet$Laws", "form", "LForceNet$Form;", true)
  | 2 => ("ForceNet$Laws", "table", "LForceNet$Table;", true)
  | 3 => ("ForceNet$Laws", "held", "[I", true)
  | 4 => ("ForceNet$Laws", "rounds", "[I", true)
  | 5 => ("ForceNet$Laws", "netVersion", "I", false)
  | _ => ("ForceNet$Laws", "formVersion", "I", false)
def tyX3 : Nat → FieldType := fun k => match k with
  | 0 => .object "ForceNet$Net"
  | 1 => .object "ForceNet$Form"
  | 2 => .object "ForceNet$Table"
  | 3 => .array .int
  | 4 => .array .int
  | 5 => .int
  | _ => .int
abbrev wsX30 : List Cond := u_ws RX3 TX3 7
theorem nmX3 : ∀ a, a < 7 → ∀ b, b < 7 → a ≠ b → (TX3 a).2.1 ≠ (TX3 b).2.1 := by decide +kernel
theorem tyX3_ok : ∀ k, k < 7 → parseFieldDescriptor (TX3 k).2.2.1 = some (tyX3 k) := by decide +kernel
abbrev cX3_init : ByteArray := prog_5_method_1_code
def yX3_init : MethodName := ⟨RX3, "<init>", "(LForceNet$Net;LForceNet$Form;LForceNet$Table;)V"⟩
abbrev cX3_whole : ByteArray := prog_5_method_2_code
def yX3_whole : MethodName := ⟨RX3, "whole", "()I"⟩
abbrev cX3_refresh : ByteArray := prog_5_method_3_code
def yX3_refresh : MethodName := ⟨RX3, "refresh", "()V"⟩
abbrev cX3_judge : ByteArray := prog_5_method_4_code
def yX3_judge : MethodName := ⟨RX3, "judge", "(I)I"⟩
abbrev cX3_always : ByteArray := prog_5_method_5_code
def yX3_always : MethodName := ⟨RX3, "always", "(I)I"⟩
abbrev cX3_until : ByteArray := prog_5_method_6_code
def yX3_until : MethodName := ⟨RX3, "until", "(II)I"⟩
abbrev cX3_mark : ByteArray := prog_5_method_7_code
def yX3_mark : MethodName := ⟨RX3, "mark", "(II)V"⟩
abbrev cX3_again : ByteArray := prog_5_method_8_code
def yX3_again : MethodName := ⟨RX3, "again", "(I)I"⟩
abbrev cX3_ahead : ByteArray := prog_5_method_9_code
def yX3_ahead : MethodName := ⟨RX3, "ahead", "(I)I"⟩
abbrev cX3_fewestMore : ByteArray := prog_5_method_10_code
def yX3_fewestMore : MethodName := ⟨RX3, "fewestMore", "(I)I"⟩
def RX4 : String := "ForceNet$Lots"
def TX4 : u_T := fun k => match k with
  | 0 => ("ForceNet$Lots", "net", "LForceNet$Net;", true)
  | 1 => ("ForceNet$Lots", "player", "I", false)
  | 2 => ("ForceNet$Lots", "above", "J", false)
  | 3 => ("ForceNet$Lots", "below", "J", false)
  | 4 => ("ForceNet$Lots", "counts", "[I", true)
  | 5 => ("ForceNet$Lots", "totals", "[I", true)
  | 6 => ("ForceNet$Lots", "order", "[I", true)
  | _ => ("ForceNet$Lots", "grid", "[J", true)
def tyX4 : Nat → FieldType := fun k => match k with
  | 0 => .object "ForceNet$Net"
  | 1 => .int
  | 2 => .long
  | 3 => .long
  | 4 => .array .int
  | 5 => .array .int
  | 6 => .array .int
  | _ => .array .long
abbrev wsX40 : List Cond := u_ws RX4 TX4 8
theorem nmX4 : ∀ a, a < 8 → ∀ b, b < 8 → a ≠ b → (TX4 a).2.1 ≠ (TX4 b).2.1 := by decide +kernel
theorem tyX4_ok : ∀ k, k < 8 → parseFieldDescriptor (TX4 k).2.2.1 = some (tyX4 k) := by decide +kernel
abbrev cX4_init : ByteArray := prog_6_method_1_code
def yX4_init : MethodName := ⟨RX4, "<init>", "(LForceNet$Net;)V"⟩
abbrev cX4_weigh : ByteArray := prog_6_method_2_code
def yX4_weigh : MethodName := ⟨RX4, "weigh", "(II)V"⟩
abbrev cX4_countAll : ByteArray := prog_6_method_3_code
def yX4_countAll : MethodName := ⟨RX4, "countAll", "()V"⟩
abbrev cX4_coming : ByteArray := prog_6_method_4_code
def yX4_coming : MethodName := ⟨RX4, "coming", "(I)I"⟩
abbrev cX4_countInto : ByteArray := prog_6_method_5_code
def yX4_countInto : MethodName := ⟨RX4, "countInto", "(II)I"⟩
abbrev cX4_line : ByteArray := prog_6_method_6_code
def yX4_line : MethodName := ⟨RX4, "line", "(II)I"⟩
abbrev cX4_write : ByteArray := prog_6_method_7_code
def yX4_write : MethodName := ⟨RX4, "write", "(II)V"⟩
abbrev cX4_solve : ByteArray := prog_6_method_8_code
def yX4_solve : MethodName := ⟨RX4, "solve", "(I)V"⟩
abbrev cX4_clearBelow : ByteArray := prog_6_method_9_code
def yX4_clearBelow : MethodName := ⟨RX4, "clearBelow", "(IIIJ)V"⟩
abbrev cX4_cell : ByteArray := prog_6_method_10_code
def yX4_cell : MethodName := ⟨RX4, "cell", "(II)J"⟩
abbrev cX4_setCell : ByteArray := prog_6_method_11_code
def yX4_setCell : MethodName := ⟨RX4, "setCell", "(IIJ)V"⟩
abbrev cX4_shorten : ByteArray := prog_6_method_12_code
def yX4_shorten : MethodName := ⟨RX4, "shorten", "()V"⟩
def RX5 : String := "ForceNet$Net"
def TX5 : u_T := fun k => match k with
  | 0 => ("ForceNet$Net", "states", "I", false)
  | 1 => ("ForceNet$Net", "players", "I", false)
  | 2 => ("ForceNet$Net", "version", "I", false)
  | 3 => ("ForceNet$Net", "moves", "[I", true)
  | 4 => ("ForceNet$Net", "chosen", "[I", true)
  | 5 => ("ForceNet$Net", "prices", "[I", true)
  | 6 => ("ForceNet$Net", "targets", "[I", true)
  | 7 => ("ForceNet$Net", "letters", "[I", true)
  | _ => ("ForceNet$Net", "heaps", "[I", true)
def tyX5 : Nat → FieldType := fun k => match k with
  | 0 => .int
  | 1 => .int
  | 2 => .int
  | 3 => .array .int
  | 4 => .array .int
  | 5 => .array .int
  | 6 => .array .int
  | 7 => .array .int
  | _ => .array .int
abbrev wsX50 : List Cond := u_ws RX5 TX5 9
theorem nmX5 : ∀ a, a < 9 → ∀ b, b < 9 → a ≠ b → (TX5 a).2.1 ≠ (TX5 b).2.1 := by decide +kernel
theorem tyX5_ok : ∀ k, k < 9 → parseFieldDescriptor (TX5 k).2.2.1 = some (tyX5 k) := by decide +kernel
abbrev cX5_init : ByteArray := prog_7_method_1_code
def yX5_init : MethodName := ⟨RX5, "<init>", "()V"⟩
abbrev cX5_begin : ByteArray := prog_7_method_2_code
def yX5_begin : MethodName := ⟨RX5, "begin", "(II)V"⟩
abbrev cX5_leadBack : ByteArray := prog_7_method_3_code
def yX5_leadBack : MethodName := ⟨RX5, "leadBack", "(I)V"⟩
abbrev cX5_hasState : ByteArray := prog_7_method_4_code
def yX5_hasState : MethodName := ⟨RX5, "hasState", "(I)Z"⟩
abbrev cX5_hasPlayer : ByteArray := prog_7_method_5_code
def yX5_hasPlayer : MethodName := ⟨RX5, "hasPlayer", "(I)Z"⟩
abbrev cX5_hasGroup : ByteArray := prog_7_method_6_code
def yX5_hasGroup : MethodName := ⟨RX5, "hasGroup", "(I)Z"⟩
abbrev cX5_hasSet : ByteArray := prog_7_method_7_code
def yX5_hasSet : MethodName := ⟨RX5, "hasSet", "(I)Z"⟩
abbrev cX5_hasMove : ByteArray := prog_7_method_8_code
def yX5_hasMove : MethodName := ⟨RX5, "hasMove", "(III)Z"⟩
abbrev cX5_hasJoint : ByteArray := prog_7_method_9_code
def yX5_hasJoint : MethodName := ⟨RX5, "hasJoint", "(II)Z"⟩
abbrev cX5_everyone : ByteArray := prog_7_method_10_code
def yX5_everyone : MethodName := ⟨RX5, "everyone", "()I"⟩
abbrev cX5_everywhere : ByteArray := prog_7_method_11_code
def yX5_everywhere : MethodName := ⟨RX5, "everywhere", "()I"⟩
abbrev cX5_movesOf : ByteArray := prog_7_method_12_code
def yX5_movesOf : MethodName := ⟨RX5, "movesOf", "(II)I"⟩
abbrev cX5_heapOf : ByteArray := prog_7_method_13_code
def yX5_heapOf : MethodName := ⟨RX5, "heapOf", "(II)I"⟩
abbrev cX5_target : ByteArray := prog_7_method_14_code
def yX5_target : MethodName := ⟨RX5, "target", "(II)I"⟩
abbrev cX5_changeMoves : ByteArray := prog_7_method_15_code
def yX5_changeMoves : MethodName := ⟨RX5, "changeMoves", "(III)I"⟩
abbrev cX5_changeTarget : ByteArray := prog_7_method_16_code
def yX5_changeTarget : MethodName := ⟨RX5, "changeTarget", "(III)I"⟩
abbrev cX5_changeLetters : ByteArray := prog_7_method_17_code
def yX5_changeLetters : MethodName := ⟨RX5, "changeLetters", "(II)I"⟩
abbrev cX5_bearing : ByteArray := prog_7_method_18_code
def yX5_bearing : MethodName := ⟨RX5, "bearing", "(I)I"⟩
abbrev cX5_ways : ByteArray := prog_7_method_19_code
def yX5_ways : MethodName := ⟨RX5, "ways", "(II)I"⟩
abbrev cX5_together : ByteArray := prog_7_method_20_code
def yX5_together : MethodName := ⟨RX5, "together", "(IIII)I"⟩
abbrev cX5_leastInto : ByteArray := prog_7_method_21_code
def yX5_leastInto : MethodName := ⟨RX5, "leastInto", "(III)I"⟩
abbrev cX5_sumOfPrices : ByteArray := prog_7_method_22_code
def yX5_sumOfPrices : MethodName := ⟨RX5, "sumOfPrices", "(III)I"⟩
abbrev cX5_leastMoves : ByteArray := prog_7_method_23_code
def yX5_leastMoves : MethodName := ⟨RX5, "leastMoves", "(II)I"⟩
abbrev cX5_next : ByteArray := prog_7_method_24_code
def yX5_next : MethodName := ⟨RX5, "next", "([IIII)I"⟩
abbrev cX5_allPlans : ByteArray := prog_7_method_25_code
def yX5_allPlans : MethodName := ⟨RX5, "allPlans", "()I"⟩
def RX6 : String := "ForceNet$Plans"
def TX6 : u_T := fun k => match k with
  | 0 => ("ForceNet$Plans", "net", "LForceNet$Net;", true)
  | 1 => ("ForceNet$Plans", "form", "LForceNet$Form;", true)
  | 2 => ("ForceNet$Plans", "table", "LForceNet$Table;", true)
  | 3 => ("ForceNet$Plans", "laws", "LForceNet$Laws;", true)
  | 4 => ("ForceNet$Plans", "tolls", "[I", true)
  | 5 => ("ForceNet$Plans", "trail", "[I", true)
  | _ => ("ForceNet$Plans", "trailLength", "I", false)
def tyX6 : Nat → FieldType := fun k => match k with
  | 0 => .object "ForceNet$Net"
  | 1 => .object "ForceNet$Form"
  | 2 => .object "ForceNet$Table"
  | 3 => .object "ForceNet$Laws"
  | 4 => .array .int
  | 5 => .array .int
  | _ => .int
abbrev wsX60 : List Cond := u_ws RX6 TX6 7
theorem nmX6 : ∀ a, a < 7 → ∀ b, b < 7 → a ≠ b → (TX6 a).2.1 ≠ (TX6 b).2.1 := by decide +kernel
theorem tyX6_ok : ∀ k, k < 7 → parseFieldDescriptor (TX6 k).2.2.1 = some (tyX6 k) := by decide +kernel
abbrev cX6_init : ByteArray := prog_8_method_1_code
def yX6_init : MethodName := ⟨RX6, "<init>", "(LForceNet$Net;LForceNet$Form;LForceNet$Table;LForceNet$Laws;)V"⟩
abbrev cX6_move : ByteArray := prog_8_method_2_code
def yX6_move : MethodName := ⟨RX6, "move", "(I)I"⟩
abbrev cX6_aim : ByteArray := prog_8_method_3_code
def yX6_aim : MethodName := ⟨RX6, "aim", "(I)I"⟩
abbrev cX6_hinder : ByteArray := prog_8_method_4_code
def yX6_hinder : MethodName := ⟨RX6, "hinder", "(II)I"⟩
abbrev cX6_leastSum : ByteArray := prog_8_method_5_code
def yX6_leastSum : MethodName := ⟨RX6, "leastSum", "(I)I"⟩
abbrev cX6_cheapest : ByteArray := prog_8_method_6_code
def yX6_cheapest : MethodName := ⟨RX6, "cheapest", "(I)I"⟩
abbrev cX6_worst : ByteArray := prog_8_method_7_code
def yX6_worst : MethodName := ⟨RX6, "worst", "(I)I"⟩
abbrev cX6_forget : ByteArray := prog_8_method_8_code
def yX6_forget : MethodName := ⟨RX6, "forget", "()V"⟩
abbrev cX6_startWalk : ByteArray := prog_8_method_9_code
def yX6_startWalk : MethodName := ⟨RX6, "startWalk", "(I)V"⟩
abbrev cX6_goOn : ByteArray := prog_8_method_10_code
def yX6_goOn : MethodName := ⟨RX6, "goOn", "(I)V"⟩
abbrev cX6_behind : ByteArray := prog_8_method_11_code
def yX6_behind : MethodName := ⟨RX6, "behind", "(I)I"⟩
def RX7 : String := "ForceNet$Sheets"
def TX7 : u_T := fun k => match k with
  | 0 => ("ForceNet$Sheets", "lanes", "[I", true)
  | 1 => ("ForceNet$Sheets", "sizes", "[I", true)
  | _ => ("ForceNet$Sheets", "items", "[I", true)
def tyX7 : Nat → FieldType := fun k => match k with
  | 0 => .array .int
  | 1 => .array .int
  | _ => .array .int
abbrev wsX70 : List Cond := u_ws RX7 TX7 3
theorem nmX7 : ∀ a, a < 3 → ∀ b, b < 3 → a ≠ b → (TX7 a).2.1 ≠ (TX7 b).2.1 := by decide +kernel
theorem tyX7_ok : ∀ k, k < 3 → parseFieldDescriptor (TX7 k).2.2.1 = some (tyX7 k) := by decide +kernel
abbrev cX7_init : ByteArray := prog_9_method_1_code
def yX7_init : MethodName := ⟨RX7, "<init>", "()V"⟩
abbrev cX7_hasPlace : ByteArray := prog_9_method_2_code
def yX7_hasPlace : MethodName := ⟨RX7, "hasPlace", "(II)Z"⟩
abbrev cX7_isEmptyPlace : ByteArray := prog_9_method_3_code
def yX7_isEmptyPlace : MethodName := ⟨RX7, "isEmptyPlace", "(I)Z"⟩
abbrev cX7_hasItems : ByteArray := prog_9_method_4_code
def yX7_hasItems : MethodName := ⟨RX7, "hasItems", "(III)Z"⟩
abbrev cX7_wrong : ByteArray := prog_9_method_5_code
def yX7_wrong : MethodName := ⟨RX7, "wrong", "(IIII)I"⟩
abbrev cX7_start : ByteArray := prog_9_method_6_code
def yX7_start : MethodName := ⟨RX7, "start", "(III)V"⟩
abbrev cX7_empty : ByteArray := prog_9_method_7_code
def yX7_empty : MethodName := ⟨RX7, "empty", "(I)I"⟩
abbrev cX7_read : ByteArray := prog_9_method_8_code
def yX7_read : MethodName := ⟨RX7, "read", "(II)I"⟩
abbrev cX7_write : ByteArray := prog_9_method_9_code
def yX7_write : MethodName := ⟨RX7, "write", "(III)V"⟩
abbrev cX7_hasBelowZero : ByteArray := prog_9_method_10_code
def yX7_hasBelowZero : MethodName := ⟨RX7, "hasBelowZero", "(III)Z"⟩
def RX8 : String := "ForceNet$Table"
def TX8 : u_T := fun k => match k with
  | 0 => ("ForceNet$Table", "net", "LForceNet$Net;", true)
  | 1 => ("ForceNet$Table", "ends", "[I", true)
  | 2 => ("ForceNet$Table", "ways", "[I", true)
  | 3 => ("ForceNet$Table", "shares", "[I", true)
  | 4 => ("ForceNet$Table", "group", "I", false)
  | _ => ("ForceNet$Table", "version", "I", false)
def tyX8 : Nat → FieldType := fun k => match k with
  | 0 => .object "ForceNet$Net"
  | 1 => .array .int
  | 2 => .array .int
  | 3 => .array .int
  | 4 => .int
  | _ => .int
abbrev wsX80 : List Cond := u_ws RX8 TX8 6
theorem nmX8 : ∀ a, a < 6 → ∀ b, b < 6 → a ≠ b → (TX8 a).2.1 ≠ (TX8 b).2.1 := by decide +kernel
theorem tyX8_ok : ∀ k, k < 6 → parseFieldDescriptor (TX8 k).2.2.1 = some (tyX8 k) := by decide +kernel
abbrev cX8_init : ByteArray := prog_10_method_1_code
def yX8_init : MethodName := ⟨RX8, "<init>", "(LForceNet$Net;)V"⟩
abbrev cX8_prepare : ByteArray := prog_10_method_2_code
def yX8_prepare : MethodName := ⟨RX8, "prepare", "(I)V"⟩
abbrev cX8_fill : ByteArray := prog_10_method_3_code
def yX8_fill : MethodName := ⟨RX8, "fill", "(I)V"⟩
abbrev cX8_share : ByteArray := prog_10_method_4_code
def yX8_share : MethodName := ⟨RX8, "share", "(I)I"⟩
abbrev cX8_endsOf : ByteArray := prog_10_method_5_code
def yX8_endsOf : MethodName := ⟨RX8, "endsOf", "(II)I"⟩
abbrev cX8_leastInto : ByteArray := prog_10_method_6_code
def yX8_leastInto : MethodName := ⟨RX8, "leastInto", "(II)I"⟩
abbrev cX8_forcing : ByteArray := prog_10_method_7_code
def yX8_forcing : MethodName := ⟨RX8, "forcing", "(II)I"⟩
def RX9 : String := "ForceNet$Tape"
def TX9 : u_T := fun k => match k with
  | 0 => ("ForceNet$Tape", "bytes", "[I", true)
  | 1 => ("ForceNet$Tape", "draft", "LForceNet$Form;", true)
  | 2 => ("ForceNet$Tape", "length", "I", false)
  | 3 => ("ForceNet$Tape", "place", "I", false)
  | 4 => ("ForceNet$Tape", "fault", "I", false)
  | _ => ("ForceNet$Tape", "players", "I", false)
def tyX9 : Nat → FieldType := fun k => match k with
  | 0 => .array .int
  | 1 => .object "ForceNet$Form"
  | 2 => .int
  | 3 => .int
  | 4 => .int
  | _ => .int
abbrev wsX90 : List Cond := u_ws RX9 TX9 6
theorem nmX9 : ∀ a, a < 6 → ∀ b, b < 6 → a ≠ b → (TX9 a).2.1 ≠ (TX9 b).2.1 := by decide +kernel
theorem tyX9_ok : ∀ k, k < 6 → parseFieldDescriptor (TX9 k).2.2.1 = some (tyX9 k) := by decide +kernel
abbrev cX9_init : ByteArray := prog_11_method_1_code
def yX9_init : MethodName := ⟨RX9, "<init>", "()V"⟩
abbrev cX9_add : ByteArray := prog_11_method_2_code
def yX9_add : MethodName := ⟨RX9, "add", "(JI)I"⟩
abbrev cX9_byteOf : ByteArray := prog_11_method_3_code
def yX9_byteOf : MethodName := ⟨RX9, "byteOf", "(JI)I"⟩
abbrev cX9_understand : ByteArray := prog_11_method_4_code
def yX9_understand : MethodName := ⟨RX9, "understand", "(I)I"⟩
abbrev cX9_here : ByteArray := prog_11_method_5_code
def yX9_here : MethodName := ⟨RX9, "here", "()I"⟩
abbrev cX9_refuse : ByteArray := prog_11_method_6_code
def yX9_refuse : MethodName := ⟨RX9, "refuse", "()Z"⟩
abbrev cX9_take : ByteArray := prog_11_method_7_code
def yX9_take : MethodName := ⟨RX9, "take", "(I)Z"⟩
abbrev cX9_readForm : ByteArray := prog_11_method_8_code
def yX9_readForm : MethodName := ⟨RX9, "readForm", "(I)Z"⟩
abbrev cX9_readGroup : ByteArray := prog_11_method_9_code
def yX9_readGroup : MethodName := ⟨RX9, "readGroup", "(I)Z"⟩
abbrev cX9_readLaw : ByteArray := prog_11_method_10_code
def yX9_readLaw : MethodName := ⟨RX9, "readLaw", "(II)Z"⟩
abbrev cX9_readPair : ByteArray := prog_11_method_11_code
def yX9_readPair : MethodName := ⟨RX9, "readPair", "(IZI)Z"⟩
abbrev cX9_lawKind : ByteArray := prog_11_method_12_code
def yX9_lawKind : MethodName := ⟨RX9, "lawKind", "(I)I"⟩
abbrev cX9_pairKind : ByteArray := prog_11_method_13_code
def yX9_pairKind : MethodName := ⟨RX9, "pairKind", "(I)I"⟩
def RX10 : String := "ForceNet"
def TX10 : u_T := fun k => match k with
  | 0 => ("ForceNet", "net", "LForceNet$Net;", true)
  | 1 => ("ForceNet", "form", "LForceNet$Form;", true)
  | 2 => ("ForceNet", "tape", "LForceNet$Tape;", true)
  | 3 => ("ForceNet", "laws", "LForceNet$Laws;", true)
  | 4 => ("ForceNet", "plans", "LForceNet$Plans;", true)
  | 5 => ("ForceNet", "rows", "LForceNet$Blind;", true)
  | 6 => ("ForceNet", "lots", "LForceNet$Lots;", true)
  | 7 => ("ForceNet", "goals", "LForceNet$Goals;", true)
  | _ => ("ForceNet", "sheets", "LForceNet$Sheets;", true)
def tyX10 : Nat → FieldType := fun k => match k with
  | 0 => .object "ForceNet$Net"
  | 1 => .object "ForceNet$Form"
  | 2 => .object "ForceNet$Tape"
  | 3 => .object "ForceNet$Laws"
  | 4 => .object "ForceNet$Plans"
  | 5 => .object "ForceNet$Blind"
  | 6 => .object "ForceNet$Lots"
  | 7 => .object "ForceNet$Goals"
  | _ => .object "ForceNet$Sheets"
abbrev wsX100 : List Cond := u_ws RX10 TX10 9
theorem nmX10 : ∀ a, a < 9 → ∀ b, b < 9 → a ≠ b → (TX10 a).2.1 ≠ (TX10 b).2.1 := by decide +kernel
theorem tyX10_ok : ∀ k, k < 9 → parseFieldDescriptor (TX10 k).2.2.1 = some (tyX10 k) := by decide +kernel
abbrev cX10_init : ByteArray := prog_1_method_1_code
def yX10_init : MethodName := ⟨RX10, "<init>", "()V"⟩
abbrev cX10_net : ByteArray := prog_1_method_2_code
def yX10_net : MethodName := ⟨RX10, "net", "(II)I"⟩
abbrev cX10_moves : ByteArray := prog_1_method_3_code
def yX10_moves : MethodName := ⟨RX10, "moves", "(III)I"⟩
abbrev cX10_joint : ByteArray := prog_1_method_4_code
def yX10_joint : MethodName := ⟨RX10, "joint", "(II)I"⟩
abbrev cX10_step : ByteArray := prog_1_method_5_code
def yX10_step : MethodName := ⟨RX10, "step", "(III)I"⟩
abbrev cX10_leads : ByteArray := prog_1_method_6_code
def yX10_leads : MethodName := ⟨RX10, "leads", "(II)I"⟩
abbrev cX10_letters : ByteArray := prog_1_method_7_code
def yX10_letters : MethodName := ⟨RX10, "letters", "(II)I"⟩
abbrev cX10_heap : ByteArray := prog_1_method_8_code
def yX10_heap : MethodName := ⟨RX10, "heap", "(III)I"⟩
abbrev cX10_price : ByteArray := prog_1_method_9_code
def yX10_price : MethodName := ⟨RX10, "price", "(IIII)I"⟩
abbrev cX10_steps : ByteArray := prog_1_method_10_code
def yX10_steps : MethodName := ⟨RX10, "steps", "(IIIII)I"⟩
abbrev cX10_type : ByteArray := prog_1_method_11_code
def yX10_type : MethodName := ⟨RX10, "type", "(JI)I"⟩
abbrev cX10_form : ByteArray := prog_1_method_12_code
def yX10_form : MethodName := ⟨RX10, "form", "()I"⟩
abbrev cX10_holds : ByteArray := prog_1_method_13_code
def yX10_holds : MethodName := ⟨RX10, "holds", "()I"⟩
abbrev cX10_part : ByteArray := prog_1_method_14_code
def yX10_part : MethodName := ⟨RX10, "part", "(I)I"⟩
abbrev cX10_force : ByteArray := prog_1_method_15_code
def yX10_force : MethodName := ⟨RX10, "force", "(III)I"⟩
abbrev cX10_round : ByteArray := prog_1_method_16_code
def yX10_round : MethodName := ⟨RX10, "round", "(I)I"⟩
abbrev cX10_plan : ByteArray := prog_1_method_17_code
def yX10_plan : MethodName := ⟨RX10, "plan", "(I)I"⟩
abbrev cX10_answer : ByteArray := prog_1_method_18_code
def yX10_answer : MethodName := ⟨RX10, "answer", "(II)I"⟩
abbrev cX10_toll : ByteArray := prog_1_method_19_code
def yX10_toll : MethodName := ⟨RX10, "toll", "(I)I"⟩
abbrev cX10_walk : ByteArray := prog_1_method_20_code
def yX10_walk : MethodName := ⟨RX10, "walk", "(IIIII)I"⟩
abbrev cX10_walked : ByteArray := prog_1_method_21_code
def yX10_walked : MethodName := ⟨RX10, "walked", "(I)I"⟩
abbrev cX10_blind : ByteArray := prog_1_method_22_code
def yX10_blind : MethodName := ⟨RX10, "blind", "(I)I"⟩
abbrev cX10_blindMove : ByteArray := prog_1_method_23_code
def yX10_blindMove : MethodName := ⟨RX10, "blindMove", "(III)I"⟩
abbrev cX10_findRow : ByteArray := prog_1_method_24_code
def yX10_findRow : MethodName := ⟨RX10, "findRow", "(I)I"⟩
abbrev cX10_choose : ByteArray := prog_1_method_25_code
def yX10_choose : MethodName := ⟨RX10, "choose", "(III)I"⟩
abbrev cX10_lot : ByteArray := prog_1_method_26_code
def yX10_lot : MethodName := ⟨RX10, "lot", "(I)I"⟩
abbrev cX10_chance : ByteArray := prog_1_method_27_code
def yX10_chance : MethodName := ⟨RX10, "chance", "(II)J"⟩
abbrev cX10_goal : ByteArray := prog_1_method_28_code
def yX10_goal : MethodName := ⟨RX10, "goal", "(II)I"⟩
abbrev cX10_content : ByteArray := prog_1_method_29_code
def yX10_content : MethodName := ⟨RX10, "content", "(I)I"⟩
abbrev cX10_stable : ByteArray := prog_1_method_30_code
def yX10_stable : MethodName := ⟨RX10, "stable", "(I)I"⟩
abbrev cX10_settle : ByteArray := prog_1_method_31_code
def yX10_settle : MethodName := ⟨RX10, "settle", "(I)I"⟩
abbrev cX10_helpers : ByteArray := prog_1_method_32_code
def yX10_helpers : MethodName := ⟨RX10, "helpers", "(I)I"⟩
abbrev cX10_count : ByteArray := prog_1_method_33_code
def yX10_count : MethodName := ⟨RX10, "count", "(I)I"⟩
abbrev cX10_sheet : ByteArray := prog_1_method_34_code
def yX10_sheet : MethodName := ⟨RX10, "sheet", "(III)I"⟩
abbrev cX10_drop : ByteArray := prog_1_method_35_code
def yX10_drop : MethodName := ⟨RX10, "drop", "(I)I"⟩
abbrev cX10_item : ByteArray := prog_1_method_36_code
def yX10_item : MethodName := ⟨RX10, "item", "(IIII)I"⟩
abbrev cX10_copy : ByteArray := prog_1_method_37_code
def yX10_copy : MethodName := ⟨RX10, "copy", "(IIIII)I"⟩
abbrev cX10_at : ByteArray := prog_1_method_38_code
def yX10_at : MethodName := ⟨RX10, "at", "([II)I"⟩
abbrev cX10_put : ByteArray := prog_1_method_39_code
def yX10_put : MethodName := ⟨RX10, "put", "([III)V"⟩
abbrev cX10_swap : ByteArray := prog_1_method_40_code
def yX10_swap : MethodName := ⟨RX10, "swap", "([III)I"⟩
abbrev cX10_has : ByteArray := prog_1_method_41_code
def yX10_has : MethodName := ⟨RX10, "has", "(II)Z"⟩
abbrev cX10_lowest : ByteArray := prog_1_method_42_code
def yX10_lowest : MethodName := ⟨RX10, "lowest", "(I)I"⟩
abbrev cX10_over : ByteArray := prog_1_method_43_code
def yX10_over : MethodName := ⟨RX10, "over", "(II)I"⟩
abbrev cX10_rest : ByteArray := prog_1_method_44_code
def yX10_rest : MethodName := ⟨RX10, "rest", "(II)I"⟩
def RX11 : String := "ForceNetModel"
def TX11 : u_T := fun k => match k with
  | 0 => ("ForceNetModel", "states", "I", false)
  | 1 => ("ForceNetModel", "players", "I", false)
  | 2 => ("ForceNetModel", "ms", "[I", true)
  | 3 => ("ForceNetModel", "leads", "[I", true)
  | 4 => ("ForceNetModel", "prices", "[I", true)
  | 5 => ("ForceNetModel", "letters", "[I", true)
  | 6 => ("ForceNetModel", "heaps", "[I", true)
  | 7 => ("ForceNetModel", "chosen", "[I", true)
  | 8 => ("ForceNetModel", "goals", "[I", true)
  | 9 => ("ForceNetModel", "lot", "I", false)
  | 10 => ("ForceNetModel", "parts", "I", false)
  | 11 => ("ForceNetModel", "kinds", "[I", true)
  | 12 => ("ForceNetModel", "ones", "[I", true)
  | 13 => ("ForceNetModel", "twos", "[I", true)
  | 14 => ("ForceNetModel", "groups", "[I", true)
  | 15 => ("ForceNetModel", "readParts", "I", false)
  | 16 => ("ForceNetModel", "readKinds", "[I", true)
  | 17 => ("ForceNetModel", "readOnes", "[I", true)
  | 18 => ("ForceNetModel", "readTwos", "[I", true)
  | 19 => ("ForceNetModel", "readGroups", "[I", true)
  | 20 => ("ForceNetModel", "opened", "[I", true)
  | 21 => ("ForceNetModel", "isSecond", "[Z", true)
  | 22 => ("ForceNetModel", "depth", "I", false)
  | 23 => ("ForceNetModel", "tape", "[I", true)
  | 24 => ("ForceNetModel", "taped", "I", false)
  | 25 => ("ForceNetModel", "at", "I", false)
  | 26 => ("ForceNetModel", "wrong", "Z", false)
  | 27 => ("ForceNetModel", "held", "[I", true)
  | 28 => ("ForceNetModel", "rounds", "[I", true)
  | 29 => ("ForceNetModel", "tolls", "[I", true)
  | 30 => ("ForceNetModel", "lessTolls", "[I", true)
  | 31 => ("ForceNetModel", "walkedMany", "I", false)
  | 32 => ("ForceNetModel", "walked", "[I", true)
  | 33 => ("ForceNetModel", "lanes", "[I", true)
  | 34 => ("ForceNetModel", "sizes", "[I", true)
  | 35 => ("ForceNetModel", "items", "[I", true)
  | 36 => ("ForceNetModel", "moved", "[I", true)
  | 37 => ("ForceNetModel", "digitPlayer", "[I", true)
  | 38 => ("ForceNetModel", "digitHeap", "[I", true)
  | 39 => ("ForceNetModel", "digitMost", "[I", true)
  | 40 => ("ForceNetModel", "digits", "[I", true)
  | 41 => ("ForceNetModel", "digitMany", "I", false)
  | 42 => ("ForceNetModel", "next", "[I", true)
  | 43 => ("ForceNetModel", "rows", "[J", true)
  | 44 => ("ForceNetModel", "above", "J", false)
  | 45 => ("ForceNetModel", "below", "J", false)
  | _ => ("ForceNetModel", "kept", "[I", true)
def tyX11 : Nat → FieldType := fun k => match k with
  | 0 => .int
  | 1 => .int
  | 2 => .array .int
  | 3 => .array .int
  | 4 => .array .int
  | 5 => .array .int
  | 6 => .array .int
  | 7 => .array .int
  | 8 => .array .int
  | 9 => .int
  | 10 => .int
  | 11 => .array .int
  | 12 => .array .int
  | 13 => .array .int
  | 14 => .array .int
  | 15 => .int
  | 16 => .array .int
  | 17 => .array .int
  | 18 => .array .int
  | 19 => .array .int
  | 20 => .array .int
  | 21 => .array .boolean
  | 22 => .int
  | 23 => .array .int
  | 24 => .int
  | 25 => .int
  | 26 => .boolean
  | 27 => .array .int
  | 28 => .array .int
  | 29 => .array .int
  | 30 => .array .int
  | 31 => .int
  | 32 => .array .int
  | 33 => .array .int
  | 34 => .array .int
  | 35 => .array .int
  | 36 => .array .int
  | 37 => .array .int
  | 38 => .array .int
  | 39 => .array .int
  | 40 => .array .int
  | 41 => .int
  | 42 => .array .int
  | 43 => .array .long
  | 44 => .long
  | 45 => .long
  | _ => .array .int
abbrev wsX110 : List Cond := u_ws RX11 TX11 47
theorem nmX11 : ∀ a, a < 47 → ∀ b, b < 47 → a ≠ b → (TX11 a).2.1 ≠ (TX11 b).2.1 := by decide +kernel
theorem tyX11_ok : ∀ k, k < 47 → parseFieldDescriptor (TX11 k).2.2.1 = some (tyX11 k) := by decide +kernel
abbrev cX11_in : ByteArray := prog_13_method_2_code
def yX11_in : MethodName := ⟨RX11, "in", "(JJJ)Z"⟩
abbrev cX11_init : ByteArray := prog_13_method_3_code
def yX11_init : MethodName := ⟨RX11, "<init>", "()V"⟩
abbrev cX11_begins : ByteArray := prog_13_method_4_code
def yX11_begins : MethodName := ⟨RX11, "begins", "(II)V"⟩
abbrev cX11_net : ByteArray := prog_13_method_5_code
def yX11_net : MethodName := ⟨RX11, "net", "(II)I"⟩
abbrev cX11_isState : ByteArray := prog_13_method_6_code
def yX11_isState : MethodName := ⟨RX11, "isState", "(I)Z"⟩
abbrev cX11_isPlayer : ByteArray := prog_13_method_7_code
def yX11_isPlayer : MethodName := ⟨RX11, "isPlayer", "(I)Z"⟩
abbrev cX11_isSet : ByteArray := prog_13_method_8_code
def yX11_isSet : MethodName := ⟨RX11, "isSet", "(I)Z"⟩
abbrev cX11_isGroup : ByteArray := prog_13_method_9_code
def yX11_isGroup : MethodName := ⟨RX11, "isGroup", "(I)Z"⟩
abbrev cX11_moves : ByteArray := prog_13_method_10_code
def yX11_moves : MethodName := ⟨RX11, "moves", "(III)I"⟩
abbrev cX11_jointOf : ByteArray := prog_13_method_11_code
def yX11_jointOf : MethodName := ⟨RX11, "jointOf", "(II)I"⟩
abbrev cX11_everybody : ByteArray := prog_13_method_12_code
def yX11_everybody : MethodName := ⟨RX11, "everybody", "()I"⟩
abbrev cX11_joint : ByteArray := prog_13_method_13_code
def yX11_joint : MethodName := ⟨RX11, "joint", "(II)I"⟩
abbrev cX11_isMove : ByteArray := prog_13_method_14_code
def yX11_isMove : MethodName := ⟨RX11, "isMove", "(II)Z"⟩
abbrev cX11_step : ByteArray := prog_13_method_15_code
def yX11_step : MethodName := ⟨RX11, "step", "(III)I"⟩
abbrev cX11_leads : ByteArray := prog_13_method_16_code
def yX11_leads : MethodName := ⟨RX11, "leads", "(II)I"⟩
abbrev cX11_letters : ByteArray := prog_13_method_17_code
def yX11_letters : MethodName := ⟨RX11, "letters", "(II)I"⟩
abbrev cX11_heap : ByteArray := prog_13_method_18_code
def yX11_heap : MethodName := ⟨RX11, "heap", "(III)I"⟩
abbrev cX11_price : ByteArray := prog_13_method_19_code
def yX11_price : MethodName := ⟨RX11, "price", "(IIII)I"⟩
abbrev cX11_leadsBy : ByteArray := prog_13_method_20_code
def yX11_leadsBy : MethodName := ⟨RX11, "leadsBy", "(IIII)I"⟩
abbrev cX11_others : ByteArray := prog_13_method_21_code
def yX11_others : MethodName := ⟨RX11, "others", "(I)I"⟩
abbrev cX11_forces : ByteArray := prog_13_method_22_code
def yX11_forces : MethodName := ⟨RX11, "forces", "(III)I"⟩
abbrev cX11_force : ByteArray := prog_13_method_23_code
def yX11_force : MethodName := ⟨RX11, "force", "(III)I"⟩
abbrev cX11_type : ByteArray := prog_13_method_24_code
def yX11_type : MethodName := ⟨RX11, "type", "(JI)I"⟩
abbrev cX11_next : ByteArray := prog_13_method_25_code
def yX11_next : MethodName := ⟨RX11, "next", "()I"⟩
abbrev cX11_needs : ByteArray := prog_13_method_26_code
def yX11_needs : MethodName := ⟨RX11, "needs", "(I)V"⟩
abbrev cX11_opens : ByteArray := prog_13_method_27_code
def yX11_opens : MethodName := ⟨RX11, "opens", "(II)V"⟩
abbrev cX11_group : ByteArray := prog_13_method_28_code
def yX11_group : MethodName := ⟨RX11, "group", "(I)V"⟩
abbrev cX11_isWhole : ByteArray := prog_13_method_29_code
def yX11_isWhole : MethodName := ⟨RX11, "isWhole", "()Z"⟩
abbrev cX11_closes : ByteArray := prog_13_method_30_code
def yX11_closes : MethodName := ⟨RX11, "closes", "(I)V"⟩
abbrev cX11_form : ByteArray := prog_13_method_31_code
def yX11_form : MethodName := ⟨RX11, "form", "()I"⟩
abbrev cX11_whole : ByteArray := prog_13_method_32_code
def yX11_whole : MethodName := ⟨RX11, "whole", "()I"⟩
abbrev cX11_forcing : ByteArray := prog_13_method_33_code
def yX11_forcing : MethodName := ⟨RX11, "forcing", "(II)I"⟩
abbrev cX11_until : ByteArray := prog_13_method_34_code
def yX11_until : MethodName := ⟨RX11, "until", "(III)I"⟩
abbrev cX11_always : ByteArray := prog_13_method_35_code
def yX11_always : MethodName := ⟨RX11, "always", "(II)I"⟩
abbrev cX11_again : ByteArray := prog_13_method_36_code
def yX11_again : MethodName := ⟨RX11, "again", "(II)I"⟩
abbrev cX11_heldOf : ByteArray := prog_13_method_37_code
def yX11_heldOf : MethodName := ⟨RX11, "heldOf", "(II)I"⟩
abbrev cX11_tell : ByteArray := prog_13_method_38_code
def yX11_tell : MethodName := ⟨RX11, "tell", "()I"⟩
abbrev cX11_holds : ByteArray := prog_13_method_39_code
def yX11_holds : MethodName := ⟨RX11, "holds", "()I"⟩
abbrev cX11_part : ByteArray := prog_13_method_40_code
def yX11_part : MethodName := ⟨RX11, "part", "(I)I"⟩
abbrev cX11_isOfGroup : ByteArray := prog_13_method_41_code
def yX11_isOfGroup : MethodName := ⟨RX11, "isOfGroup", "()Z"⟩
abbrev cX11_hasRounds : ByteArray := prog_13_method_42_code
def yX11_hasRounds : MethodName := ⟨RX11, "hasRounds", "()Z"⟩
abbrev cX11_round : ByteArray := prog_13_method_43_code
def yX11_round : MethodName := ⟨RX11, "round", "(I)I"⟩
abbrev cX11_aim : ByteArray := prog_13_method_44_code
def yX11_aim : MethodName := ⟨RX11, "aim", "(I)I"⟩
abbrev cX11_planOf : ByteArray := prog_13_method_45_code
def yX11_planOf : MethodName := ⟨RX11, "planOf", "(I)I"⟩
abbrev cX11_plan : ByteArray := prog_13_method_46_code
def yX11_plan : MethodName := ⟨RX11, "plan", "(I)I"⟩
abbrev cX11_answer : ByteArray := prog_13_method_47_code
def yX11_answer : MethodName := ⟨RX11, "answer", "(II)I"⟩
abbrev cX11_sumOf : ByteArray := prog_13_method_48_code
def yX11_sumOf : MethodName := ⟨RX11, "sumOf", "(III)I"⟩
abbrev cX11_tollBy : ByteArray := prog_13_method_49_code
def yX11_tollBy : MethodName := ⟨RX11, "tollBy", "(II)I"⟩
abbrev cX11_toll : ByteArray := prog_13_method_50_code
def yX11_toll : MethodName := ⟨RX11, "toll", "(I)I"⟩
abbrev cX11_isSheet : ByteArray := prog_13_method_51_code
def yX11_isSheet : MethodName := ⟨RX11, "isSheet", "(I)Z"⟩
abbrev cX11_isLane : ByteArray := prog_13_method_52_code
def yX11_isLane : MethodName := ⟨RX11, "isLane", "(I)Z"⟩
abbrev cX11_finds : ByteArray := prog_13_method_53_code
def yX11_finds : MethodName := ⟨RX11, "finds", "(IIII)I"⟩
abbrev cX11_walk : ByteArray := prog_13_method_54_code
def yX11_walk : MethodName := ⟨RX11, "walk", "(IIIII)I"⟩
abbrev cX11_walked : ByteArray := prog_13_method_55_code
def yX11_walked : MethodName := ⟨RX11, "walked", "(I)I"⟩
abbrev cX11_steps : ByteArray := prog_13_method_56_code
def yX11_steps : MethodName := ⟨RX11, "steps", "(IIIII)I"⟩
abbrev cX11_mostOf : ByteArray := prog_13_method_57_code
def yX11_mostOf : MethodName := ⟨RX11, "mostOf", "(II)I"⟩
abbrev cX11_lays : ByteArray := prog_13_method_58_code
def yX11_lays : MethodName := ⟨RX11, "lays", "()I"⟩
abbrev cX11_digitOf : ByteArray := prog_13_method_59_code
def yX11_digitOf : MethodName := ⟨RX11, "digitOf", "(II)I"⟩
abbrev cX11_countsUp : ByteArray := prog_13_method_60_code
def yX11_countsUp : MethodName := ⟨RX11, "countsUp", "()Z"⟩
abbrev cX11_links : ByteArray := prog_13_method_61_code
def yX11_links : MethodName := ⟨RX11, "links", "()V"⟩
abbrev cX11_surely : ByteArray := prog_13_method_62_code
def yX11_surely : MethodName := ⟨RX11, "surely", "(II)I"⟩
abbrev cX11_stays : ByteArray := prog_13_method_63_code
def yX11_stays : MethodName := ⟨RX11, "stays", "(I)I"⟩
abbrev cX11_does : ByteArray := prog_13_method_64_code
def yX11_does : MethodName := ⟨RX11, "does", "()I"⟩
abbrev cX11_fits : ByteArray := prog_13_method_65_code
def yX11_fits : MethodName := ⟨RX11, "fits", "(I)I"⟩
abbrev cX11_seeks : ByteArray := prog_13_method_66_code
def yX11_seeks : MethodName := ⟨RX11, "seeks", "(I)I"⟩
abbrev cX11_blind : ByteArray := prog_13_method_67_code
def yX11_blind : MethodName := ⟨RX11, "blind", "(I)I"⟩
abbrev cX11_blindMove : ByteArray := prog_13_method_68_code
def yX11_blindMove : MethodName := ⟨RX11, "blindMove", "(III)I"⟩
abbrev cX11_choose : ByteArray := prog_13_method_69_code
def yX11_choose : MethodName := ⟨RX11, "choose", "(III)I"⟩
abbrev cX11_lot : ByteArray := prog_13_method_70_code
def yX11_lot : MethodName := ⟨RX11, "lot", "(I)I"⟩
abbrev cX11_leadsWith : ByteArray := prog_13_method_71_code
def yX11_leadsWith : MethodName := ⟨RX11, "leadsWith", "(III)I"⟩
abbrev cX11_lotMany : ByteArray := prog_13_method_72_code
def yX11_lotMany : MethodName := ⟨RX11, "lotMany", "(I)I"⟩
abbrev cX11_common : ByteArray := prog_13_method_73_code
def yX11_common : MethodName := ⟨RX11, "common", "(JJ)J"⟩
abbrev cX11_coming : ByteArray := prog_13_method_74_code
def yX11_coming : MethodName := ⟨RX11, "coming", "(I)I"⟩
abbrev cX11_equations : ByteArray := prog_13_method_75_code
def yX11_equations : MethodName := ⟨RX11, "equations", "(II)V"⟩
abbrev cX11_shorten : ByteArray := prog_13_method_76_code
def yX11_shorten : MethodName := ⟨RX11, "shorten", "(I)V"⟩
abbrev cX11_swap : ByteArray := prog_13_method_77_code
def yX11_swap : MethodName := ⟨RX11, "swap", "(II)V"⟩
abbrev cX11_solve : ByteArray := prog_13_method_78_code
def yX11_solve : MethodName := ⟨RX11, "solve", "()V"⟩
abbrev cX11_chance : ByteArray := prog_13_method_79_code
def yX11_chance : MethodName := ⟨RX11, "chance", "(II)J"⟩
abbrev cX11_goal : ByteArray := prog_13_method_80_code
def yX11_goal : MethodName := ⟨RX11, "goal", "(II)I"⟩
abbrev cX11_way : ByteArray := prog_13_method_81_code
def yX11_way : MethodName := ⟨RX11, "way", "(I)I"⟩
abbrev cX11_contentOf : ByteArray := prog_13_method_82_code
def yX11_contentOf : MethodName := ⟨RX11, "contentOf", "(I)I"⟩
abbrev cX11_content : ByteArray := prog_13_method_83_code
def yX11_content : MethodName := ⟨RX11, "content", "(I)I"⟩
abbrev cX11_alone : ByteArray := prog_13_method_84_code
def yX11_alone : MethodName := ⟨RX11, "alone", "(II)I"⟩
abbrev cX11_isStable : ByteArray := prog_13_method_85_code
def yX11_isStable : MethodName := ⟨RX11, "isStable", "(I)Z"⟩
abbrev cX11_stable : ByteArray := prog_13_method_86_code
def yX11_stable : MethodName := ⟨RX11, "stable", "(I)I"⟩
abbrev cX11_plansOfAll : ByteArray := prog_13_method_87_code
def yX11_plansOfAll : MethodName := ⟨RX11, "plansOfAll", "()I"⟩
abbrev cX11_plansUp : ByteArray := prog_13_method_88_code
def yX11_plansUp : MethodName := ⟨RX11, "plansUp", "()Z"⟩
abbrev cX11_settle : ByteArray := prog_13_method_89_code
def yX11_settle : MethodName := ⟨RX11, "settle", "(I)I"⟩
abbrev cX11_many : ByteArray := prog_13_method_90_code
def yX11_many : MethodName := ⟨RX11, "many", "(I)I"⟩
abbrev cX11_isAhead : ByteArray := prog_13_method_91_code
def yX11_isAhead : MethodName := ⟨RX11, "isAhead", "(II)Z"⟩
abbrev cX11_helpers : ByteArray := prog_13_method_92_code
def yX11_helpers : MethodName := ⟨RX11, "helpers", "(I)I"⟩
abbrev cX11_count : ByteArray := prog_13_method_93_code
def yX11_count : MethodName := ⟨RX11, "count", "(I)I"⟩
abbrev cX11_sheet : ByteArray := prog_13_method_94_code
def yX11_sheet : MethodName := ⟨RX11, "sheet", "(III)I"⟩
abbrev cX11_drop : ByteArray := prog_13_method_95_code
def yX11_drop : MethodName := ⟨RX11, "drop", "(I)I"⟩
abbrev cX11_item : ByteArray := prog_13_method_96_code
def yX11_item : MethodName := ⟨RX11, "item", "(IIII)I"⟩
abbrev cX11_copy : ByteArray := prog_13_method_97_code
def yX11_copy : MethodName := ⟨RX11, "copy", "(IIIII)I"⟩
def RJ6 : String := "java/lang/Integer"
def TJ6 : u_T := fun k => match k with
  | _ => ("", "", "", false)
def tyJ6 : Nat → FieldType := fun k => match k with
  | _ => .int
abbrev wsJ60 : List Cond := u_ws RJ6 TJ6 0
theorem nmJ6 : ∀ a, a < 0 → ∀ b, b < 0 → a ≠ b → (TJ6 a).2.1 ≠ (TJ6 b).2.1 := by decide +kernel
theorem tyJ6_ok : ∀ k, k < 0 → parseFieldDescriptor (TJ6 k).2.2.1 = some (tyJ6 k) := by decide +kernel
abbrev cJ6_bitCount_0f7a4 : ByteArray := prog_14_method_49_code
def yJ6_bitCount_0f7a4 : MethodName := ⟨RJ6, "bitCount", "(I)I"⟩
def RJ9 : String := "java/lang/Math"
def TJ9 : u_T := fun k => match k with
  | _ => ("", "", "", false)
def tyJ9 : Nat → FieldType := fun k => match k with
  | _ => .int
abbrev wsJ90 : List Cond := u_ws RJ9 TJ9 0
theorem nmJ9 : ∀ a, a < 0 → ∀ b, b < 0 → a ≠ b → (TJ9 a).2.1 ≠ (TJ9 b).2.1 := by decide +kernel
theorem tyJ9_ok : ∀ k, k < 0 → parseFieldDescriptor (TJ9 k).2.2.1 = some (tyJ9 k) := by decide +kernel
abbrev cJ9_max_7cf53 : ByteArray := prog_15_method_65_code
def yJ9_max_7cf53 : MethodName := ⟨RJ9, "max", "(II)I"⟩
abbrev cJ9_min_7cf53 : ByteArray := prog_15_method_69_code
def yJ9_min_7cf53 : MethodName := ⟨RJ9, "min", "(II)I"⟩
abbrev cJ9_min_f86c9 : ByteArray := prog_15_method_70_code
def yJ9_min_f86c9 : MethodName := ⟨RJ9, "min", "(JJ)J"⟩
def RJ10 : String := "java/lang/System"
def TJ10 : u_T := fun k => match k with
  | _ => ("", "", "", false)
def tyJ10 : Nat → FieldType := fun k => match k with
  | _ => .int
abbrev wsJ100 : List Cond := u_ws RJ10 TJ10 0
theorem nmJ10 : ∀ a, a < 0 → ∀ b, b < 0 → a ≠ b → (TJ10 a).2.1 ≠ (TJ10 b).2.1 := by decide +kernel
theorem tyJ10_ok : ∀ k, k < 0 → parseFieldDescriptor (TJ10 k).2.2.1 = some (tyJ10 k) := by decide +kernel
def RJ7 : String := "java/util/Arrays"
def TJ7 : u_T := fun k => match k with
  | _ => ("", "", "", false)
def tyJ7 : Nat → FieldType := fun k => match k with
  | _ => .int
abbrev wsJ70 : List Cond := u_ws RJ7 TJ7 0
theorem nmJ7 : ∀ a, a < 0 → ∀ b, b < 0 → a ≠ b → (TJ7 a).2.1 ≠ (TJ7 b).2.1 := by decide +kernel
theorem tyJ7_ok : ∀ k, k < 0 → parseFieldDescriptor (TJ7 k).2.2.1 = some (tyJ7 k) := by decide +kernel
abbrev cJ7_fill_53178 : ByteArray := prog_17_method_103_code
def yJ7_fill_53178 : MethodName := ⟨RJ7, "fill", "([II)V"⟩
def RL : String := "ForceNetLaw"
abbrev cL_law : ByteArray := code
def yL_law : MethodName := ⟨RL, "law", "([I)Z"⟩
abbrev vwCl : List vw_C := [(RX0, TX0, 9), (RX1, TX1, 6), (RX2, TX2, 3), (RX3, TX3, 7), (RX4, TX4, 8), (RX5, TX5, 9), (RX6, TX6, 7), (RX7, TX7, 3), (RX8, TX8, 6), (RX9, TX9, 6), (RX10, TX10, 9), (RX11, TX11, 47)]
end
section
/-! the code of each method, its instructions with their targets, laid by wip/whole/gen.py -/
abbrev zEnt : Type := Instr × Nat × Nat
abbrev i_Bl_init : Nat := 0
abbrev i_Bl_prepare : Nat := 1
abbrev i_Bl_want : Nat := 2
abbrev i_Bl_fit : Nat := 3
abbrev i_Bl_search : Nat := 4
abbrev i_Bl_advance : Nat := 5
abbrev i_Bl_does : Nat := 6
abbrev i_Bl_spread : Nat := 7
abbrev i_Bl_endsBy : Nat := 8
abbrev i_Bl_endsOfAll : Nat := 9
abbrev i_Bl_staying : Nat := 10
abbrev i_Bl_sure : Nat := 11
abbrev i_Fo_init : Nat := 12
abbrev i_Fo_becomeTrue : Nat := 13
abbrev i_Fo_clear : Nat := 14
abbrev i_Fo_add : Nat := 15
abbrev i_Fo_set : Nat := 16
abbrev i_Fo_become : Nat := 17
abbrev i_Fo_kind : Nat := 18
abbrev i_Fo_left : Nat := 19
abbrev i_Fo_right : Nat := 20
abbrev i_Fo_group : Nat := 21
abbrev i_Fo_isLaw : Nat := 22
abbrev i_Fo_isOfGroup : Nat := 23
abbrev i_Fo_hasRounds : Nat := 24
abbrev i_Fo_hasToll : Nat := 25
abbrev i_Go_init : Nat := 26
abbrev i_Go_forget : Nat := 27
abbrev i_Go_passed : Nat := 28
abbrev i_Go_meeting : Nat := 29
abbrev i_Go_isStable : Nat := 30
abbrev i_Go_couldMeet : Nat := 31
abbrev i_Go_search : Nat := 32
abbrev i_Go_advance : Nat := 33
abbrev i_La_init : Nat := 34
abbrev i_La_whole : Nat := 35
abbrev i_La_refresh : Nat := 36
abbrev i_La_judge : Nat := 37
abbrev i_La_always : Nat := 38
abbrev i_La_until : Nat := 39
abbrev i_La_mark : Nat := 40
abbrev i_La_again : Nat := 41
abbrev i_La_ahead : Nat := 42
abbrev i_La_fewestMore : Nat := 43
abbrev i_Lo_init : Nat := 44
abbrev i_Lo_weigh : Nat := 45
abbrev i_Lo_countAll : Nat := 46
abbrev i_Lo_coming : Nat := 47
abbrev i_Lo_countInto : Nat := 48
abbrev i_Lo_line : Nat := 49
abbrev i_Lo_write : Nat := 50
abbrev i_Lo_solve : Nat := 51
abbrev i_Lo_clearBelow : Nat := 52
abbrev i_Lo_cell : Nat := 53
abbrev i_Lo_setCell : Nat := 54
abbrev i_Lo_shorten : Nat := 55
abbrev i_Ne_init : Nat := 56
abbrev i_Ne_begin : Nat := 57
abbrev i_Ne_leadBack : Nat := 58
abbrev i_Ne_hasState : Nat := 59
abbrev i_Ne_hasPlayer : Nat := 60
abbrev i_Ne_hasGroup : Nat := 61
abbrev i_Ne_hasSet : Nat := 62
abbrev i_Ne_hasMove : Nat := 63
abbrev i_Ne_hasJoint : Nat := 64
abbrev i_Ne_everyone : Nat := 65
abbrev i_Ne_everywhere : Nat := 66
abbrev i_Ne_movesOf : Nat := 67
abbrev i_Ne_heapOf : Nat := 68
abbrev i_Ne_target : Nat := 69
abbrev i_Ne_changeMoves : Nat := 70
abbrev i_Ne_changeTarget : Nat := 71
abbrev i_Ne_changeLetters : Nat := 72
abbrev i_Ne_bearing : Nat := 73
abbrev i_Ne_ways : Nat := 74
abbrev i_Ne_together : Nat := 75
abbrev i_Ne_leastInto : Nat := 76
abbrev i_Ne_sumOfPrices : Nat := 77
abbrev i_Ne_leastMoves : Nat := 78
abbrev i_Ne_next : Nat := 79
abbrev i_Ne_allPlans : Nat := 80
abbrev i_Pl_init : Nat := 81
abbrev i_Pl_move : Nat := 82
abbrev i_Pl_aim : Nat := 83
abbrev i_Pl_hinder : Nat := 84
abbrev i_Pl_leastSum : Nat := 85
abbrev i_Pl_cheapest : Nat := 86
abbrev i_Pl_worst : Nat := 87
abbrev i_Pl_forget : Nat := 88
abbrev i_Pl_startWalk : Nat := 89
abbrev i_Pl_goOn : Nat := 90
abbrev i_Pl_behind : Nat := 91
abbrev i_Sh_init : Nat := 92
abbrev i_Sh_hasPlace : Nat := 93
abbrev i_Sh_isEmptyPlace : Nat := 94
abbrev i_Sh_hasItems : Nat := 95
abbrev i_Sh_wrong : Nat := 96
abbrev i_Sh_start : Nat := 97
abbrev i_Sh_empty : Nat := 98
abbrev i_Sh_read : Nat := 99
abbrev i_Sh_write : Nat := 100
abbrev i_Sh_hasBelowZero : Nat := 101
abbrev i_Ta_init : Nat := 102
abbrev i_Ta_prepare : Nat := 103
abbrev i_Ta_fill : Nat := 104
abbrev i_Ta_share : Nat := 105
abbrev i_Ta_endsOf : Nat := 106
abbrev i_Ta_leastInto : Nat := 107
abbrev i_Ta_forcing : Nat := 108
abbrev i_Tp_init : Nat := 109
abbrev i_Tp_add : Nat := 110
abbrev i_Tp_byteOf : Nat := 111
abbrev i_Tp_understand : Nat := 112
abbrev i_Tp_here : Nat := 113
abbrev i_Tp_refuse : Nat := 114
abbrev i_Tp_take : Nat := 115
abbrev i_Tp_readForm : Nat := 116
abbrev i_Tp_readGroup : Nat := 117
abbrev i_Tp_readLaw : Nat := 118
abbrev i_Tp_readPair : Nat := 119
abbrev i_Tp_lawKind : Nat := 120
abbrev i_Tp_pairKind : Nat := 121
abbrev i_FN_init : Nat := 122
abbrev i_FN_net : Nat := 123
abbrev i_FN_moves : Nat := 124
abbrev i_FN_joint : Nat := 125
abbrev i_FN_step : Nat := 126
abbrev i_FN_leads : Nat := 127
abbrev i_FN_letters : Nat := 128
abbrev i_FN_heap : Nat := 129
abbrev i_FN_price : Nat := 130
abbrev i_FN_steps : Nat := 131
abbrev i_FN_type : Nat := 132
abbrev i_FN_form : Nat := 133
abbrev i_FN_holds : Nat := 134
abbrev i_FN_part : Nat := 135
abbrev i_FN_force : Nat := 136
abbrev i_FN_round : Nat := 137
abbrev i_FN_plan : Nat := 138
abbrev i_FN_answer : Nat := 139
abbrev i_FN_toll : Nat := 140
abbrev i_FN_walk : Nat := 141
abbrev i_FN_walked : Nat := 142
abbrev i_FN_blind : Nat := 143
abbrev i_FN_blindMove : Nat := 144
abbrev i_FN_findRow : Nat := 145
abbrev i_FN_choose : Nat := 146
abbrev i_FN_lot : Nat := 147
abbrev i_FN_chance : Nat := 148
abbrev i_FN_goal : Nat := 149
abbrev i_FN_content : Nat := 150
abbrev i_FN_stable : Nat := 151
abbrev i_FN_settle : Nat := 152
abbrev i_FN_helpers : Nat := 153
abbrev i_FN_count : Nat := 154
abbrev i_FN_sheet : Nat := 155
abbrev i_FN_drop : Nat := 156
abbrev i_FN_item : Nat := 157
abbrev i_FN_copy : Nat := 158
abbrev i_FN_at : Nat := 159
abbrev i_FN_put : Nat := 160
abbrev i_FN_swap : Nat := 161
abbrev i_FN_has : Nat := 162
abbrev i_FN_lowest : Nat := 163
abbrev i_FN_over : Nat := 164
abbrev i_FN_rest : Nat := 165
abbrev i_Md_in : Nat := 166
abbrev i_Md_init : Nat := 167
abbrev i_Md_begins : Nat := 168
abbrev i_Md_net : Nat := 169
abbrev i_Md_isState : Nat := 170
abbrev i_Md_isPlayer : Nat := 171
abbrev i_Md_isSet : Nat := 172
abbrev i_Md_isGroup : Nat := 173
abbrev i_Md_moves : Nat := 174
abbrev i_Md_jointOf : Nat := 175
abbrev i_Md_everybody : Nat := 176
abbrev i_Md_joint : Nat := 177
abbrev i_Md_isMove : Nat := 178
abbrev i_Md_step : Nat := 179
abbrev i_Md_leads : Nat := 180
abbrev i_Md_letters : Nat := 181
abbrev i_Md_heap : Nat := 182
abbrev i_Md_price : Nat := 183
abbrev i_Md_leadsBy : Nat := 184
abbrev i_Md_others : Nat := 185
abbrev i_Md_forces : Nat := 186
abbrev i_Md_force : Nat := 187
abbrev i_Md_type : Nat := 188
abbrev i_Md_next : Nat := 189
abbrev i_Md_needs : Nat := 190
abbrev i_Md_opens : Nat := 191
abbrev i_Md_group : Nat := 192
abbrev i_Md_isWhole : Nat := 193
abbrev i_Md_closes : Nat := 194
abbrev i_Md_form : Nat := 195
abbrev i_Md_whole : Nat := 196
abbrev i_Md_forcing : Nat := 197
abbrev i_Md_until : Nat := 198
abbrev i_Md_always : Nat := 199
abbrev i_Md_again : Nat := 200
abbrev i_Md_heldOf : Nat := 201
abbrev i_Md_tell : Nat := 202
abbrev i_Md_holds : Nat := 203
abbrev i_Md_part : Nat := 204
abbrev i_Md_isOfGroup : Nat := 205
abbrev i_Md_hasRounds : Nat := 206
abbrev i_Md_round : Nat := 207
abbrev i_Md_aim : Nat := 208
abbrev i_Md_planOf : Nat := 209
abbrev i_Md_plan : Nat := 210
abbrev i_Md_answer : Nat := 211
abbrev i_Md_sumOf : Nat := 212
abbrev i_Md_tollBy : Nat := 213
abbrev i_Md_toll : Nat := 214
abbrev i_Md_isSheet : Nat := 215
abbrev i_Md_isLane : Nat := 216
abbrev i_Md_finds : Nat := 217
abbrev i_Md_walk : Nat := 218
abbrev i_Md_walked : Nat := 219
abbrev i_Md_steps : Nat := 220
abbrev i_Md_mostOf : Nat := 221
abbrev i_Md_lays : Nat := 222
abbrev i_Md_digitOf : Nat := 223
abbrev i_Md_countsUp : Nat := 224
abbrev i_Md_links : Nat := 225
abbrev i_Md_surely : Nat := 226
abbrev i_Md_stays : Nat := 227
abbrev i_Md_does : Nat := 228
abbrev i_Md_fits : Nat := 229
abbrev i_Md_seeks : Nat := 230
abbrev i_Md_blind : Nat := 231
abbrev i_Md_blindMove : Nat := 232
abbrev i_Md_choose : Nat := 233
abbrev i_Md_lot : Nat := 234
abbrev i_Md_leadsWith : Nat := 235
abbrev i_Md_lotMany : Nat := 236
abbrev i_Md_common : Nat := 237
abbrev i_Md_coming : Nat := 238
abbrev i_Md_equations : Nat := 239
abbrev i_Md_shorten : Nat := 240
abbrev i_Md_swap : Nat := 241
abbrev i_Md_solve : Nat := 242
abbrev i_Md_chance : Nat := 243
abbrev i_Md_goal : Nat := 244
abbrev i_Md_way : Nat := 245
abbrev i_Md_contentOf : Nat := 246
abbrev i_Md_content : Nat := 247
abbrev i_Md_alone : Nat := 248
abbrev i_Md_isStable : Nat := 249
abbrev i_Md_stable : Nat := 250
abbrev i_Md_plansOfAll : Nat := 251
abbrev i_Md_plansUp : Nat := 252
abbrev i_Md_settle : Nat := 253
abbrev i_Md_many : Nat := 254
abbrev i_Md_isAhead : Nat := 255
abbrev i_Md_helpers : Nat := 256
abbrev i_Md_count : Nat := 257
abbrev i_Md_sheet : Nat := 258
abbrev i_Md_drop : Nat := 259
abbrev i_Md_item : Nat := 260
abbrev i_Md_copy : Nat := 261
abbrev i_JI_bitCount : Nat := 262
abbrev i_JA_fill : Nat := 263
abbrev i_LW_law : Nat := 264
def zB_Bl_init : List (Nat × List zEnt) := [(0, [(.aload 0, 0, 0), (.nop, 0, 0), (.aload 0, 0, 0), (.iconst (48), 0, 0), (.newarray .int, 0, 0), (.putfield 0, 0, 2), (.aload 0, 0, 0), (.iconst (48), 0, 0), (.newarray .int, 0, 0), (.putfield 0, 0, 3), (.aload 0, 0, 0), (.iconst (12), 0, 0), (.newarray .int, 0, 0), (.putfield 0, 0, 4), (.aload 0, 0, 0), (.aload 1, 0, 0), (.putfield 0, 0, 0), (.aload 0, 0, 0), (.aload 2, 0, 0), (.putfield 0, 0, 1), (.return_, 0, 0)])]
def zB_Bl_prepare : List (Nat × List zEnt) := [(0, [(.aload 0, 0, 0), (.iload 1, 0, 0), (.putfield 0, 0, 5), (.iconst (1), 0, 0), (.istore 2, 0, 0), (.iconst (0), 0, 0), (.istore 3, 0, 0), (.goto_w 0, 1, 0)]),
  (9, [(.iload 3, 0, 0), (.iconst (4), 0, 0), (.if_icmp .ge 0, 10, 0), (.goto_w 0, 2, 0)]),
  (14, [(.iconst (0), 0, 0), (.istore 4, 0, 0), (.goto_w 0, 3, 0)]),
  (17, [(.iload 4, 0, 0), (.iconst (12), 0, 0), (.if_icmp .ge 0, 9, 0), (.goto_w 0, 4, 0)]),
  (24, [(.iload 3, 0, 0), (.aload 0, 0, 0), (.getfield 0, 0, 0), (.getfield 0, 5, 1), (.if_icmp .ge 0, 7, 0), (.goto_w 0, 5, 0)]),
  (35, [(.aload 0, 0, 0), (.getfield 0, 0, 5), (.iload 3, 0, 0), (.invokestatic 0, 162, 0), (.ifCond .eq 0, 7, 0), (.goto_w 0, 6, 0)]),
  (46, [(.aload 0, 0, 0), (.getfield 0, 0, 0), (.iload 3, 0, 0), (.iload 4, 0, 0), (.invokevirtual 0, 78, 0), (.goto 0, 8, 0)]),
  (59, [(.iconst (0), 0, 0), (.goto_w 0, 8, 0)]),
  (60, [(.istore 5, 0, 0), (.aload 0, 0, 0), (.getfield 0, 0, 3), (.iload 3, 0, 0), (.iconst (12), 0, 0), (.imul, 0, 0), (.iload 4, 0, 0), (.iadd, 0, 0), (.iload 5, 0, 0), (.invokestatic 0, 160, 0), (.iload 2, 0, 0), (.iload 5, 0, 0), (.iconst (1), 0, 0), (.fadd, 0, 0), (.imul, 0, 0), (.iconst (5001), 0, 0), (.fsub, 0, 0), (.istore 2, 0, 0), (.iinc 4 (1), 0, 0), (.goto 0, 3, 0)]),
  (99, [(.iinc 3 (1), 0, 0), (.goto 0, 1, 0)]),
  (105, [(.iload 2, 0, 0), (.ireturn, 0, 0)])]
def zB_Bl_want : List (Nat × List zEnt) := [(0, [(.aload 0, 0, 0), (.iload 1, 0, 0), (.putfield 0, 0, 6), (.aload 0, 0, 0), (.iload 2, 0, 0), (.putfield 0, 0, 7), (.aload 0, 0, 0), (.iload 3, 0, 0), (.putfield 0, 0, 8), (.return_, 0, 0)])]
def zB_Bl_fit : List (Nat × List zEnt) := [(0, [(.iconst (1), 0, 0), (.iload 1, 0, 0), (.ishl, 0, 0), (.istore 2, 0, 0), (.iconst (0), 0, 0), (.istore 3, 0, 0), (.goto_w 0, 1, 0)]),
  (6, [(.iload 3, 0, 0), (.aload 0, 0, 0), (.getfield 0, 0, 0), (.getfield 0, 5, 1), (.if_icmp .ge 0, 9, 0), (.goto_w 0, 2, 0)]),
  (17, [(.iconst (0), 0, 0), (.istore 4, 0, 0), (.goto_w 0, 3, 0)]),
  (20, [(.iload 4, 0, 0), (.aload 0, 0, 0), (.getfield 0, 0, 0), (.getfield 0, 5, 0), (.if_icmp .ge 0, 8, 0), (.goto_w 0, 4, 0)]),
  (32, [(.aload 0, 0, 0), (.getfield 0, 0, 5), (.iload 3, 0, 0), (.invokestatic 0, 162, 0), (.ifCond .eq 0, 7, 0), (.goto_w 0, 5, 0)]),
  (43, [(.aload 0, 0, 0), (.getfield 0, 0, 0), (.iload 3, 0, 0), (.iload 4, 0, 0), (.invokevirtual 0, 68, 0), (.aload 0, 0, 0), (.getfield 0, 0, 0), (.iload 3, 0, 0), (.iload 1, 0, 0), (.invokevirtual 0, 68, 0), (.if_icmp .ne 0, 7, 0), (.goto_w 0, 6, 0)]),
  (65, [(.iload 2, 0, 0), (.iconst (1), 0, 0), (.iload 4, 0, 0), (.ishl, 0, 0), (.ior, 0, 0), (.istore 2, 0, 0), (.goto_w 0, 7, 0)]),
  (72, [(.iinc 4 (1), 0, 0), (.goto 0, 3, 0)]),
  (78, [(.iinc 3 (1), 0, 0), (.goto 0, 1, 0)]),
  (84, [(.iload 2, 0, 0), (.ireturn, 0, 0)])]
def zB_Bl_search : List (Nat × List zEnt) := [(0, [(.aload 0, 0, 0), (.getfield 0, 0, 2), (.iconst (0), 0, 0), (.invokestatic 0, 263, 0), (.iconst (0), 0, 0), (.istore 2, 0, 0), (.goto_w 0, 1, 0)]),
  (10, [(.iload 2, 0, 0), (.iconst (5000), 0, 0), (.if_icmp .ge 0, 7, 0), (.goto_w 0, 2, 0)]),
  (17, [(.aload 0, 0, 0), (.iload 1, 0, 0), (.invokevirtual 0, 6, 0), (.ifCond .eq 0, 4, 0), (.goto_w 0, 3, 0)]),
  (25, [(.iconst (1), 0, 0), (.ireturn, 0, 0)]),
  (27, [(.aload 0, 0, 0), (.invokevirtual 0, 5, 0), (.ifCond .ne 0, 6, 0), (.goto_w 0, 5, 0)]),
  (34, [(.iconst (0), 0, 0), (.ireturn, 0, 0)]),
  (36, [(.iinc 2 (1), 0, 0), (.goto 0, 1, 0)]),
  (42, [(.iconst (0), 0, 0), (.ireturn, 0, 0)])]
def zB_Bl_advance : List (Nat × List zEnt) := [(0, [(.iconst (47), 0, 0), (.istore 1, 0, 0), (.goto_w 0, 1, 0)]),
  (3, [(.iload 1, 0, 0), (.ifCond .lt 0, 5, 0), (.goto_w 0, 2, 0)]),
  (7, [(.aload 0, 0, 0), (.getfield 0, 0, 2), (.iload 1, 0, 0), (.invokestatic 0, 159, 0), (.iconst (1), 0, 0), (.iadd, 0, 0), (.aload 0, 0, 0), (.getfield 0, 0, 3), (.iload 1, 0, 0), (.invokestatic 0, 159, 0), (.if_icmp .ge 0, 4, 0), (.goto_w 0, 3, 0)]),
  (28, [(.aload 0, 0, 0), (.getfield 0, 0, 2), (.iload 1, 0, 0), (.aload 0, 0, 0), (.getfield 0, 0, 2), (.iload 1, 0, 0), (.invokestatic 0, 159, 0), (.iconst (1), 0, 0), (.iadd, 0, 0), (.invokestatic 0, 160, 0), (.iconst (1), 0, 0), (.ireturn, 0, 0)]),
  (48, [(.aload 0, 0, 0), (.getfield 0, 0, 2), (.iload 1, 0, 0), (.iconst (0), 0, 0), (.invokestatic 0, 160, 0), (.iinc 1 (-1), 0, 0), (.goto 0, 1, 0)]),
  (63, [(.iconst (0), 0, 0), (.ireturn, 0, 0)])]
def zB_Bl_does : List (Nat × List zEnt) := [(0, [(.aload 0, 0, 0), (.iload 1, 0, 0), (.invokevirtual 0, 7, 0), (.istore 2, 0, 0), (.aload 0, 0, 0), (.getfield 0, 0, 6), (.tableswitch 17 (5) (9) #[1, 5, 17, 13, 9], 0, 0)]),
  (44, [(.aload 0, 0, 0), (.iload 1, 0, 0), (.invokevirtual 0, 9, 0), (.aload 0, 0, 0), (.getfield 0, 0, 7), (.iconst (-1), 0, 0), (.ixor, 0, 0), (.iand, 0, 0), (.ifCond .ne 0, 3, 0), (.goto_w 0, 2, 0)]),
  (59, [(.iconst (1), 0, 0), (.goto 0, 4, 0)]),
  (63, [(.iconst (0), 0, 0), (.goto_w 0, 4, 0)]),
  (64, [(.ireturn, 0, 0)]),
  (65, [(.iload 2, 0, 0), (.aload 0, 0, 0), (.getfield 0, 0, 7), (.iconst (-1), 0, 0), (.ixor, 0, 0), (.iand, 0, 0), (.ifCond .ne 0, 7, 0), (.goto_w 0, 6, 0)]),
  (76, [(.iconst (1), 0, 0), (.goto 0, 8, 0)]),
  (80, [(.iconst (0), 0, 0), (.goto_w 0, 8, 0)]),
  (81, [(.ireturn, 0, 0)]),
  (82, [(.aload 0, 0, 0), (.iload 2, 0, 0), (.aload 0, 0, 0), (.getfield 0, 0, 7), (.iconst (-1), 0, 0), (.ixor, 0, 0), (.iand, 0, 0), (.invokevirtual 0, 10, 0), (.ifCond .ne 0, 11, 0), (.goto_w 0, 10, 0)]),
  (97, [(.iconst (1), 0, 0), (.goto 0, 12, 0)]),
  (101, [(.iconst (0), 0, 0), (.goto_w 0, 12, 0)]),
  (102, [(.ireturn, 0, 0)]),
  (103, [(.iload 1, 0, 0), (.aload 0, 0, 0), (.iload 2, 0, 0), (.aload 0, 0, 0), (.getfield 0, 0, 7), (.iand, 0, 0), (.aload 0, 0, 0), (.getfield 0, 0, 8), (.invokevirtual 0, 11, 0), (.iconst (-1), 0, 0), (.ixor, 0, 0), (.iand, 0, 0), (.ifCond .ne 0, 15, 0), (.goto_w 0, 14, 0)]),
  (124, [(.iconst (1), 0, 0), (.goto 0, 16, 0)]),
  (128, [(.iconst (0), 0, 0), (.goto_w 0, 16, 0)]),
  (129, [(.ireturn, 0, 0)]),
  (130, [(.iload 1, 0, 0), (.aload 0, 0, 0), (.iload 2, 0, 0), (.aload 0, 0, 0), (.getfield 0, 0, 7), (.invokevirtual 0, 11, 0), (.iconst (-1), 0, 0), (.ixor, 0, 0), (.iand, 0, 0), (.ifCond .ne 0, 19, 0), (.goto_w 0, 18, 0)]),
  (146, [(.iconst (1), 0, 0), (.goto 0, 20, 0)]),
  (150, [(.iconst (0), 0, 0), (.goto_w 0, 20, 0)]),
  (151, [(.ireturn, 0, 0)])]
def zB_Bl_spread : List (Nat × List zEnt) := [(0, [(.iload 1, 0, 0), (.istore 2, 0, 0), (.iload 1, 0, 0), (.istore 3, 0, 0), (.iconst (0), 0, 0), (.istore 4, 0, 0), (.goto_w 0, 1, 0)]),
  (7, [(.iload 4, 0, 0), (.iconst (12), 0, 0), (.if_icmp .ge 0, 4, 0), (.goto_w 0, 2, 0)]),
  (14, [(.iload 3, 0, 0), (.ifCond .eq 0, 4, 0), (.goto_w 0, 3, 0)]),
  (18, [(.iload 3, 0, 0), (.invokestatic 0, 163, 0), (.istore 5, 0, 0), (.aload 0, 0, 0), (.iload 5, 0, 0), (.invokevirtual 0, 8, 0), (.istore 6, 0, 0), (.aload 0, 0, 0), (.getfield 0, 0, 4), (.iload 5, 0, 0), (.iload 6, 0, 0), (.invokestatic 0, 160, 0), (.iload 3, 0, 0), (.iconst (1), 0, 0), (.iload 5, 0, 0), (.ishl, 0, 0), (.iconst (-1), 0, 0), (.ixor, 0, 0), (.iand, 0, 0), (.iload 6, 0, 0), (.iload 2, 0, 0), (.iconst (-1), 0, 0), (.ixor, 0, 0), (.iand, 0, 0), (.ior, 0, 0), (.istore 3, 0, 0), (.iload 2, 0, 0), (.iload 6, 0, 0), (.ior, 0, 0), (.istore 2, 0, 0), (.iinc 4 (1), 0, 0), (.goto 0, 1, 0)]),
  (70, [(.iload 2, 0, 0), (.ireturn, 0, 0)])]
def zB_Bl_endsBy : List (Nat × List zEnt) := [(0, [(.iconst (0), 0, 0), (.istore 2, 0, 0), (.iconst (0), 0, 0), (.istore 3, 0, 0), (.goto_w 0, 1, 0)]),
  (4, [(.iload 3, 0, 0), (.aload 0, 0, 0), (.getfield 0, 0, 0), (.getfield 0, 5, 1), (.if_icmp .ge 0, 5, 0), (.goto_w 0, 2, 0)]),
  (15, [(.aload 0, 0, 0), (.getfield 0, 0, 5), (.iload 3, 0, 0), (.invokestatic 0, 162, 0), (.ifCond .eq 0, 4, 0), (.goto_w 0, 3, 0)]),
  (26, [(.aload 0, 0, 0), (.getfield 0, 0, 2), (.iload 3, 0, 0), (.iconst (12), 0, 0), (.imul, 0, 0), (.aload 0, 0, 0), (.getfield 0, 0, 0), (.getfield 0, 5, 8), (.iload 3, 0, 0), (.iconst (12), 0, 0), (.imul, 0, 0), (.iload 1, 0, 0), (.iadd, 0, 0), (.invokestatic 0, 159, 0), (.iadd, 0, 0), (.invokestatic 0, 159, 0), (.istore 4, 0, 0), (.iload 2, 0, 0), (.aload 0, 0, 0), (.getfield 0, 0, 0), (.getfield 0, 5, 3), (.iload 1, 0, 0), (.iconst (4), 0, 0), (.imul, 0, 0), (.iload 3, 0, 0), (.iadd, 0, 0), (.invokestatic 0, 159, 0), (.imul, 0, 0), (.iload 4, 0, 0), (.iadd, 0, 0), (.istore 2, 0, 0), (.goto_w 0, 4, 0)]),
  (77, [(.iinc 3 (1), 0, 0), (.goto 0, 1, 0)]),
  (83, [(.aload 0, 0, 0), (.getfield 0, 0, 1), (.getfield 0, 8, 1), (.iload 1, 0, 0), (.iconst (81), 0, 0), (.imul, 0, 0), (.iload 2, 0, 0), (.iadd, 0, 0), (.invokestatic 0, 159, 0), (.ireturn, 0, 0)])]
def zB_Bl_endsOfAll : List (Nat × List zEnt) := [(0, [(.iconst (0), 0, 0), (.istore 2, 0, 0), (.iconst (0), 0, 0), (.istore 3, 0, 0), (.goto_w 0, 1, 0)]),
  (4, [(.iload 3, 0, 0), (.aload 0, 0, 0), (.getfield 0, 0, 0), (.getfield 0, 5, 0), (.if_icmp .ge 0, 5, 0), (.goto_w 0, 2, 0)]),
  (15, [(.iload 1, 0, 0), (.iload 3, 0, 0), (.invokestatic 0, 162, 0), (.ifCond .eq 0, 4, 0), (.goto_w 0, 3, 0)]),
  (23, [(.iload 2, 0, 0), (.aload 0, 0, 0), (.getfield 0, 0, 4), (.iload 3, 0, 0), (.invokestatic 0, 159, 0), (.ior, 0, 0), (.istore 2, 0, 0), (.goto_w 0, 4, 0)]),
  (34, [(.iinc 3 (1), 0, 0), (.goto 0, 1, 0)]),
  (40, [(.iload 2, 0, 0), (.ireturn, 0, 0)])]
def zB_Bl_staying : List (Nat × List zEnt) := [(0, [(.iload 1, 0, 0), (.istore 2, 0, 0), (.iconst (0), 0, 0), (.istore 3, 0, 0), (.goto_w 0, 1, 0)]),
  (4, [(.iload 3, 0, 0), (.iconst (12), 0, 0), (.if_icmp .ge 0, 9, 0), (.goto_w 0, 2, 0)]),
  (10, [(.iconst (0), 0, 0), (.istore 4, 0, 0), (.goto_w 0, 3, 0)]),
  (13, [(.iload 4, 0, 0), (.aload 0, 0, 0), (.getfield 0, 0, 0), (.getfield 0, 5, 0), (.if_icmp .ge 0, 8, 0), (.goto_w 0, 4, 0)]),
  (25, [(.iload 2, 0, 0), (.iload 4, 0, 0), (.invokestatic 0, 162, 0), (.ifCond .eq 0, 7, 0), (.goto_w 0, 5, 0)]),
  (34, [(.aload 0, 0, 0), (.getfield 0, 0, 4), (.iload 4, 0, 0), (.invokestatic 0, 159, 0), (.iload 2, 0, 0), (.iand, 0, 0), (.ifCond .ne 0, 7, 0), (.goto_w 0, 6, 0)]),
  (48, [(.iload 2, 0, 0), (.iconst (1), 0, 0), (.iload 4, 0, 0), (.ishl, 0, 0), (.iconst (-1), 0, 0), (.ixor, 0, 0), (.iand, 0, 0), (.istore 2, 0, 0), (.goto_w 0, 7, 0)]),
  (57, [(.iinc 4 (1), 0, 0), (.goto 0, 3, 0)]),
  (63, [(.iinc 3 (1), 0, 0), (.goto 0, 1, 0)]),
  (69, [(.iload 2, 0, 0), (.ireturn, 0, 0)])]
def zB_Bl_sure : List (Nat × List zEnt) := [(0, [(.iload 2, 0, 0), (.istore 3, 0, 0), (.iconst (0), 0, 0), (.istore 4, 0, 0), (.goto_w 0, 1, 0)]),
  (5, [(.iload 4, 0, 0), (.iconst (12), 0, 0), (.if_icmp .ge 0, 9, 0), (.goto_w 0, 2, 0)]),
  (12, [(.iconst (0), 0, 0), (.istore 5, 0, 0), (.goto_w 0, 3, 0)]),
  (15, [(.iload 5, 0, 0), (.aload 0, 0, 0), (.getfield 0, 0, 0), (.getfield 0, 5, 0), (.if_icmp .ge 0, 8, 0), (.goto_w 0, 4, 0)]),
  (27, [(.iload 1, 0, 0), (.iload 5, 0, 0), (.invokestatic 0, 162, 0), (.ifCond .eq 0, 7, 0), (.goto_w 0, 5, 0)]),
  (36, [(.aload 0, 0, 0), (.getfield 0, 0, 4), (.iload 5, 0, 0), (.invokestatic 0, 159, 0), (.iload 3, 0, 0), (.iconst (-1), 0, 0), (.ixor, 0, 0), (.iand, 0, 0), (.ifCond .ne 0, 7, 0), (.goto_w 0, 6, 0)]),
  (52, [(.iload 3, 0, 0), (.iconst (1), 0, 0), (.iload 5, 0, 0), (.ishl, 0, 0), (.ior, 0, 0), (.istore 3, 0, 0), (.goto_w 0, 7, 0)]),
  (59, [(.iinc 5 (1), 0, 0), (.goto 0, 3, 0)]),
  (65, [(.iinc 4 (1), 0, 0), (.goto 0, 1, 0)]),
  (71, [(.iload 3, 0, 0), (.ireturn, 0, 0)])]
def zB_Fo_init : List (Nat × List zEnt) := [(0, [(.aload 0, 0, 0), (.nop, 0, 0), (.aload 0, 0, 0), (.iconst (24), 0, 0), (.newarray .int, 0, 0), (.putfield 0, 1, 2), (.aload 0, 0, 0), (.iconst (24), 0, 0), (.newarray .int, 0, 0), (.putfield 0, 1, 3), (.aload 0, 0, 0), (.iconst (24), 0, 0), (.newarray .int, 0, 0), (.putfield 0, 1, 4), (.aload 0, 0, 0), (.iconst (24), 0, 0), (.newarray .int, 0, 0), (.putfield 0, 1, 5), (.aload 0, 0, 0), (.invokevirtual 0, 13, 0), (.return_, 0, 0)])]
def zB_Fo_becomeTrue : List (Nat × List zEnt) := [(0, [(.aload 0, 0, 0), (.invokevirtual 0, 14, 0), (.aload 0, 0, 0), (.aload 0, 0, 0), (.iconst (0), 0, 0), (.invokevirtual 0, 15, 0), (.iconst (0), 0, 0), (.iconst (0), 0, 0), (.iconst (0), 0, 0), (.invokevirtual 0, 16, 0), (.return_, 0, 0)])]
def zB_Fo_clear : List (Nat × List zEnt) := [(0, [(.aload 0, 0, 0), (.iconst (0), 0, 0), (.putfield 0, 1, 0), (.aload 0, 0, 0), (.dup, 0, 0), (.getfield 0, 1, 1), (.iconst (1), 0, 0), (.iadd, 0, 0), (.putfield 0, 1, 1), (.return_, 0, 0)])]
def zB_Fo_add : List (Nat × List zEnt) := [(0, [(.aload 0, 0, 0), (.getfield 0, 1, 0), (.istore 2, 0, 0), (.aload 0, 0, 0), (.getfield 0, 1, 5), (.iload 2, 0, 0), (.iload 1, 0, 0), (.invokestatic 0, 160, 0), (.aload 0, 0, 0), (.dup, 0, 0), (.getfield 0, 1, 0), (.iconst (1), 0, 0), (.iadd, 0, 0), (.putfield 0, 1, 0), (.iload 2, 0, 0), (.ireturn, 0, 0)])]
def zB_Fo_set : List (Nat × List zEnt) := [(0, [(.aload 0, 0, 0), (.getfield 0, 1, 2), (.iload 1, 0, 0), (.iload 2, 0, 0), (.invokestatic 0, 160, 0), (.aload 0, 0, 0), (.getfield 0, 1, 3), (.iload 1, 0, 0), (.iload 3, 0, 0), (.invokestatic 0, 160, 0), (.aload 0, 0, 0), (.getfield 0, 1, 4), (.iload 1, 0, 0), (.iload 4, 0, 0), (.invokestatic 0, 160, 0), (.return_, 0, 0)])]
def zB_Fo_become : List (Nat × List zEnt) := [(0, [(.aload 0, 0, 0), (.invokevirtual 0, 14, 0), (.iconst (0), 0, 0), (.istore 2, 0, 0), (.goto_w 0, 1, 0)]),
  (6, [(.iload 2, 0, 0), (.aload 1, 0, 0), (.getfield 0, 1, 0), (.if_icmp .ge 0, 3, 0), (.goto_w 0, 2, 0)]),
  (14, [(.aload 0, 0, 0), (.aload 0, 0, 0), (.aload 1, 0, 0), (.iload 2, 0, 0), (.invokevirtual 0, 21, 0), (.invokevirtual 0, 15, 0), (.aload 1, 0, 0), (.iload 2, 0, 0), (.invokevirtual 0, 18, 0), (.aload 1, 0, 0), (.iload 2, 0, 0), (.invokevirtual 0, 19, 0), (.aload 1, 0, 0), (.iload 2, 0, 0), (.invokevirtual 0, 20, 0), (.invokevirtual 0, 16, 0), (.iinc 2 (1), 0, 0), (.goto 0, 1, 0)]),
  (48, [(.return_, 0, 0)])]
def zB_Fo_kind : List (Nat × List zEnt) := [(0, [(.aload 0, 0, 0), (.getfield 0, 1, 2), (.iload 1, 0, 0), (.invokestatic 0, 159, 0), (.ireturn, 0, 0)])]
def zB_Fo_left : List (Nat × List zEnt) := [(0, [(.aload 0, 0, 0), (.getfield 0, 1, 3), (.iload 1, 0, 0), (.invokestatic 0, 159, 0), (.ireturn, 0, 0)])]
def zB_Fo_right : List (Nat × List zEnt) := [(0, [(.aload 0, 0, 0), (.getfield 0, 1, 4), (.iload 1, 0, 0), (.invokestatic 0, 159, 0), (.ireturn, 0, 0)])]
def zB_Fo_group : List (Nat × List zEnt) := [(0, [(.aload 0, 0, 0), (.getfield 0, 1, 5), (.iload 1, 0, 0), (.invokestatic 0, 159, 0), (.ireturn, 0, 0)])]
def zB_Fo_isLaw : List (Nat × List zEnt) := [(0, [(.aload 0, 0, 0), (.iload 1, 0, 0), (.invokevirtual 0, 18, 0), (.iconst (5), 0, 0), (.if_icmp .lt 0, 2, 0), (.goto_w 0, 1, 0)]),
  (9, [(.iconst (1), 0, 0), (.goto 0, 3, 0)]),
  (13, [(.iconst (0), 0, 0), (.goto_w 0, 3, 0)]),
  (14, [(.ireturn, 0, 0)])]
def zB_Fo_isOfGroup : List (Nat × List zEnt) := [(0, [(.aload 0, 0, 0), (.iconst (0), 0, 0), (.invokevirtual 0, 22, 0), (.ireturn, 0, 0)])]
def zB_Fo_hasRounds : List (Nat × List zEnt) := [(0, [(.aload 0, 0, 0), (.iconst (0), 0, 0), (.invokevirtual 0, 18, 0), (.iconst (7), 0, 0), (.if_icmp .lt 0, 2, 0), (.goto_w 0, 1, 0)]),
  (10, [(.iconst (1), 0, 0), (.goto 0, 3, 0)]),
  (14, [(.iconst (0), 0, 0), (.goto_w 0, 3, 0)]),
  (15, [(.ireturn, 0, 0)])]
def zB_Fo_hasToll : List (Nat × List zEnt) := [(0, [(.aload 0, 0, 0), (.iconst (0), 0, 0), (.invokevirtual 0, 18, 0), (.iconst (7), 0, 0), (.if_icmp .eq 0, 2, 0), (.goto_w 0, 1, 0)]),
  (10, [(.aload 0, 0, 0), (.iconst (0), 0, 0), (.invokevirtual 0, 18, 0), (.iconst (8), 0, 0), (.if_icmp .ne 0, 3, 0), (.goto_w 0, 2, 0)]),
  (20, [(.iconst (1), 0, 0), (.goto 0, 4, 0)]),
  (24, [(.iconst (0), 0, 0), (.goto_w 0, 4, 0)]),
  (25, [(.ireturn, 0, 0)])]
def zB_Go_init : List (Nat × List zEnt) := [(0, [(.aload 0, 0, 0), (.nop, 0, 0), (.aload 0, 0, 0), (.iconst (4), 0, 0), (.newarray .int, 0, 0), (.putfield 0, 2, 1), (.aload 0, 0, 0), (.iconst (48), 0, 0), (.newarray .int, 0, 0), (.putfield 0, 2, 2), (.aload 0, 0, 0), (.aload 1, 0, 0), (.putfield 0, 2, 0), (.return_, 0, 0)])]
def zB_Go_forget : List (Nat × List zEnt) := [(0, [(.aload 0, 0, 0), (.getfield 0, 2, 1), (.iconst (0), 0, 0), (.invokestatic 0, 263, 0), (.return_, 0, 0)])]
def zB_Go_passed : List (Nat × List zEnt) := [(0, [(.iconst (0), 0, 0), (.istore 3, 0, 0), (.iload 2, 0, 0), (.istore 4, 0, 0), (.iconst (0), 0, 0), (.istore 5, 0, 0), (.goto_w 0, 1, 0)]),
  (8, [(.iload 5, 0, 0), (.iconst (12), 0, 0), (.if_icmp .ge 0, 4, 0), (.goto_w 0, 2, 0)]),
  (15, [(.iload 3, 0, 0), (.iload 4, 0, 0), (.invokestatic 0, 162, 0), (.ifCond .ne 0, 4, 0), (.goto_w 0, 3, 0)]),
  (24, [(.iload 3, 0, 0), (.iconst (1), 0, 0), (.iload 4, 0, 0), (.ishl, 0, 0), (.ior, 0, 0), (.istore 3, 0, 0), (.aload 0, 0, 0), (.getfield 0, 2, 0), (.aload 1, 0, 0), (.iload 4, 0, 0), (.iconst (-1), 0, 0), (.iconst (0), 0, 0), (.invokevirtual 0, 79, 0), (.istore 4, 0, 0), (.iinc 5 (1), 0, 0), (.goto 0, 1, 0)]),
  (51, [(.iload 3, 0, 0), (.ireturn, 0, 0)])]
def zB_Go_meeting : List (Nat × List zEnt) := [(0, [(.iconst (0), 0, 0), (.istore 2, 0, 0), (.iconst (0), 0, 0), (.istore 3, 0, 0), (.goto_w 0, 1, 0)]),
  (4, [(.iload 3, 0, 0), (.aload 0, 0, 0), (.getfield 0, 2, 0), (.getfield 0, 5, 1), (.if_icmp .ge 0, 5, 0), (.goto_w 0, 2, 0)]),
  (15, [(.aload 0, 0, 0), (.getfield 0, 2, 1), (.iload 3, 0, 0), (.invokestatic 0, 159, 0), (.iload 1, 0, 0), (.iand, 0, 0), (.ifCond .eq 0, 4, 0), (.goto_w 0, 3, 0)]),
  (28, [(.iload 2, 0, 0), (.iconst (1), 0, 0), (.iload 3, 0, 0), (.ishl, 0, 0), (.ior, 0, 0), (.istore 2, 0, 0), (.goto_w 0, 4, 0)]),
  (34, [(.iinc 3 (1), 0, 0), (.goto 0, 1, 0)]),
  (40, [(.iload 2, 0, 0), (.ireturn, 0, 0)])]
def zB_Go_isStable : List (Nat × List zEnt) := [(0, [(.aload 0, 0, 0), (.aload 0, 0, 0), (.aload 1, 0, 0), (.iload 2, 0, 0), (.invokevirtual 0, 28, 0), (.invokevirtual 0, 29, 0), (.istore 3, 0, 0), (.iconst (0), 0, 0), (.istore 4, 0, 0), (.goto_w 0, 1, 0)]),
  (14, [(.iload 4, 0, 0), (.aload 0, 0, 0), (.getfield 0, 2, 0), (.getfield 0, 5, 1), (.if_icmp .ge 0, 7, 0), (.goto_w 0, 2, 0)]),
  (26, [(.iload 3, 0, 0), (.iload 4, 0, 0), (.invokestatic 0, 162, 0), (.ifCond .ne 0, 6, 0), (.goto_w 0, 3, 0)]),
  (35, [(.aload 0, 0, 0), (.getfield 0, 2, 1), (.iload 4, 0, 0), (.invokestatic 0, 159, 0), (.ifCond .eq 0, 6, 0), (.goto_w 0, 4, 0)]),
  (47, [(.aload 0, 0, 0), (.aload 1, 0, 0), (.iload 2, 0, 0), (.iload 4, 0, 0), (.invokevirtual 0, 31, 0), (.ifCond .eq 0, 6, 0), (.goto_w 0, 5, 0)]),
  (58, [(.iconst (0), 0, 0), (.ireturn, 0, 0)]),
  (60, [(.iinc 4 (1), 0, 0), (.goto 0, 1, 0)]),
  (66, [(.iconst (1), 0, 0), (.ireturn, 0, 0)])]
def zB_Go_couldMeet : List (Nat × List zEnt) := [(0, [(.iconst (1), 0, 0), (.iload 2, 0, 0), (.ishl, 0, 0), (.istore 4, 0, 0), (.iload 4, 0, 0), (.istore 5, 0, 0), (.iconst (0), 0, 0), (.istore 6, 0, 0), (.goto_w 0, 1, 0)]),
  (12, [(.iload 6, 0, 0), (.iconst (12), 0, 0), (.if_icmp .ge 0, 7, 0), (.goto_w 0, 2, 0)]),
  (19, [(.iload 5, 0, 0), (.ifCond .eq 0, 7, 0), (.goto_w 0, 3, 0)]),
  (24, [(.iload 5, 0, 0), (.invokestatic 0, 163, 0), (.istore 7, 0, 0), (.iload 5, 0, 0), (.iconst (1), 0, 0), (.iload 7, 0, 0), (.ishl, 0, 0), (.iconst (-1), 0, 0), (.ixor, 0, 0), (.iand, 0, 0), (.istore 5, 0, 0), (.aload 0, 0, 0), (.getfield 0, 2, 0), (.iload 7, 0, 0), (.iload 3, 0, 0), (.invokevirtual 0, 67, 0), (.istore 8, 0, 0), (.iconst (0), 0, 0), (.istore 9, 0, 0), (.goto_w 0, 4, 0)]),
  (57, [(.iload 9, 0, 0), (.iload 8, 0, 0), (.if_icmp .ge 0, 6, 0), (.goto_w 0, 5, 0)]),
  (64, [(.iconst (1), 0, 0), (.aload 0, 0, 0), (.getfield 0, 2, 0), (.aload 1, 0, 0), (.iload 7, 0, 0), (.iload 3, 0, 0), (.iload 9, 0, 0), (.invokevirtual 0, 79, 0), (.ishl, 0, 0), (.istore 10, 0, 0), (.iload 5, 0, 0), (.iload 10, 0, 0), (.iload 4, 0, 0), (.iconst (-1), 0, 0), (.ixor, 0, 0), (.iand, 0, 0), (.ior, 0, 0), (.istore 5, 0, 0), (.iload 4, 0, 0), (.iload 10, 0, 0), (.ior, 0, 0), (.istore 4, 0, 0), (.iinc 9 (1), 0, 0), (.goto 0, 4, 0)]),
  (106, [(.iinc 6 (1), 0, 0), (.goto 0, 1, 0)]),
  (112, [(.iload 4, 0, 0), (.aload 0, 0, 0), (.getfield 0, 2, 1), (.iload 3, 0, 0), (.invokestatic 0, 159, 0), (.iand, 0, 0), (.ifCond .eq 0, 9, 0), (.goto_w 0, 8, 0)]),
  (126, [(.iconst (1), 0, 0), (.goto 0, 10, 0)]),
  (130, [(.iconst (0), 0, 0), (.goto_w 0, 10, 0)]),
  (131, [(.ireturn, 0, 0)])]
def zB_Go_search : List (Nat × List zEnt) := [(0, [(.aload 0, 0, 0), (.getfield 0, 2, 2), (.iconst (0), 0, 0), (.invokestatic 0, 263, 0), (.iconst (0), 0, 0), (.istore 2, 0, 0), (.goto_w 0, 1, 0)]),
  (10, [(.iload 2, 0, 0), (.iconst (20000), 0, 0), (.if_icmp .ge 0, 7, 0), (.goto_w 0, 2, 0)]),
  (17, [(.aload 0, 0, 0), (.aload 0, 0, 0), (.getfield 0, 2, 2), (.iload 1, 0, 0), (.invokevirtual 0, 30, 0), (.ifCond .eq 0, 4, 0), (.goto_w 0, 3, 0)]),
  (29, [(.iconst (1), 0, 0), (.ireturn, 0, 0)]),
  (31, [(.aload 0, 0, 0), (.invokevirtual 0, 33, 0), (.ifCond .ne 0, 6, 0), (.goto_w 0, 5, 0)]),
  (38, [(.iconst (0), 0, 0), (.ireturn, 0, 0)]),
  (40, [(.iinc 2 (1), 0, 0), (.goto 0, 1, 0)]),
  (46, [(.iconst (0), 0, 0), (.ireturn, 0, 0)])]
def zB_Go_advance : List (Nat × List zEnt) := [(0, [(.aload 0, 0, 0), (.getfield 0, 2, 0), (.getfield 0, 5, 1), (.iconst (1), 0, 0), (.isub, 0, 0), (.istore 1, 0, 0), (.goto_w 0, 1, 0)]),
  (10, [(.iload 1, 0, 0), (.ifCond .lt 0, 8, 0), (.goto_w 0, 2, 0)]),
  (14, [(.aload 0, 0, 0), (.getfield 0, 2, 0), (.getfield 0, 5, 0), (.iconst (1), 0, 0), (.isub, 0, 0), (.istore 2, 0, 0), (.goto_w 0, 3, 0)]),
  (24, [(.iload 2, 0, 0), (.ifCond .lt 0, 7, 0), (.goto_w 0, 4, 0)]),
  (28, [(.iload 2, 0, 0), (.iconst (4), 0, 0), (.imul, 0, 0), (.iload 1, 0, 0), (.iadd, 0, 0), (.istore 3, 0, 0), (.aload 0, 0, 0), (.getfield 0, 2, 2), (.iload 3, 0, 0), (.invokestatic 0, 159, 0), (.iconst (1), 0, 0), (.iadd, 0, 0), (.aload 0, 0, 0), (.getfield 0, 2, 0), (.iload 2, 0, 0), (.iload 1, 0, 0), (.invokevirtual 0, 67, 0), (.if_icmp .ge 0, 6, 0), (.goto_w 0, 5, 0)]),
  (56, [(.aload 0, 0, 0), (.getfield 0, 2, 2), (.iload 3, 0, 0), (.aload 0, 0, 0), (.getfield 0, 2, 2), (.iload 3, 0, 0), (.invokestatic 0, 159, 0), (.iconst (1), 0, 0), (.iadd, 0, 0), (.invokestatic 0, 160, 0), (.iconst (1), 0, 0), (.ireturn, 0, 0)]),
  (76, [(.aload 0, 0, 0), (.getfield 0, 2, 2), (.iload 3, 0, 0), (.iconst (0), 0, 0), (.invokestatic 0, 160, 0), (.iinc 2 (-1), 0, 0), (.goto 0, 3, 0)]),
  (91, [(.iinc 1 (-1), 0, 0), (.goto 0, 1, 0)]),
  (97, [(.iconst (0), 0, 0), (.ireturn, 0, 0)])]
def zB_La_init : List (Nat × List zEnt) := [(0, [(.aload 0, 0, 0), (.nop, 0, 0), (.aload 0, 0, 0), (.iconst (24), 0, 0), (.newarray .int, 0, 0), (.putfield 0, 3, 3), (.aload 0, 0, 0), (.iconst (12), 0, 0), (.newarray .int, 0, 0), (.putfield 0, 3, 4), (.aload 0, 0, 0), (.iconst (-1), 0, 0), (.putfield 0, 3, 5), (.aload 0, 0, 0), (.iconst (-1), 0, 0), (.putfield 0, 3, 6), (.aload 0, 0, 0), (.aload 1, 0, 0), (.putfield 0, 3, 0), (.aload 0, 0, 0), (.aload 2, 0, 0), (.putfield 0, 3, 1), (.aload 0, 0, 0), (.aload 3, 0, 0), (.putfield 0, 3, 2), (.return_, 0, 0)])]
def zB_La_whole : List (Nat × List zEnt) := [(0, [(.aload 0, 0, 0), (.getfield 0, 3, 3), (.iconst (0), 0, 0), (.invokestatic 0, 159, 0), (.ireturn, 0, 0)])]
def zB_La_refresh : List (Nat × List zEnt) := [(0, [(.aload 0, 0, 0), (.getfield 0, 3, 5), (.aload 0, 0, 0), (.getfield 0, 3, 0), (.getfield 0, 5, 2), (.if_icmp .ne 0, 2, 0), (.goto_w 0, 1, 0)]),
  (14, [(.aload 0, 0, 0), (.getfield 0, 3, 6), (.aload 0, 0, 0), (.getfield 0, 3, 1), (.getfield 0, 1, 1), (.if_icmp .eq 0, 8, 0), (.goto_w 0, 2, 0)]),
  (28, [(.aload 0, 0, 0), (.getfield 0, 3, 1), (.getfield 0, 1, 0), (.iconst (1), 0, 0), (.isub, 0, 0), (.istore 1, 0, 0), (.goto_w 0, 3, 0)]),
  (38, [(.iload 1, 0, 0), (.ifCond .lt 0, 7, 0), (.goto_w 0, 4, 0)]),
  (42, [(.aload 0, 0, 0), (.getfield 0, 3, 1), (.iload 1, 0, 0), (.invokevirtual 0, 22, 0), (.ifCond .eq 0, 6, 0), (.goto_w 0, 5, 0)]),
  (53, [(.aload 0, 0, 0), (.getfield 0, 3, 2), (.aload 0, 0, 0), (.getfield 0, 3, 1), (.iload 1, 0, 0), (.invokevirtual 0, 21, 0), (.invokevirtual 0, 103, 0), (.goto_w 0, 6, 0)]),
  (68, [(.aload 0, 0, 0), (.getfield 0, 3, 3), (.iload 1, 0, 0), (.aload 0, 0, 0), (.iload 1, 0, 0), (.invokevirtual 0, 37, 0), (.invokestatic 0, 160, 0), (.iinc 1 (-1), 0, 0), (.goto 0, 3, 0)]),
  (87, [(.aload 0, 0, 0), (.aload 0, 0, 0), (.getfield 0, 3, 0), (.getfield 0, 5, 2), (.putfield 0, 3, 5), (.aload 0, 0, 0), (.aload 0, 0, 0), (.getfield 0, 3, 1), (.getfield 0, 1, 1), (.putfield 0, 3, 6), (.goto_w 0, 8, 0)]),
  (109, [(.return_, 0, 0)])]
def zB_La_judge : List (Nat × List zEnt) := [(0, [(.aload 0, 0, 0), (.getfield 0, 3, 3), (.aload 0, 0, 0), (.getfield 0, 3, 1), (.iload 1, 0, 0), (.invokevirtual 0, 19, 0), (.invokestatic 0, 159, 0), (.istore 2, 0, 0), (.aload 0, 0, 0), (.getfield 0, 3, 3), (.aload 0, 0, 0), (.getfield 0, 3, 1), (.iload 1, 0, 0), (.invokevirtual 0, 20, 0), (.invokestatic 0, 159, 0), (.istore 3, 0, 0), (.aload 0, 0, 0), (.getfield 0, 3, 0), (.invokevirtual 0, 66, 0), (.istore 4, 0, 0), (.aload 0, 0, 0), (.getfield 0, 3, 1), (.iload 1, 0, 0), (.invokevirtual 0, 18, 0), (.tableswitch 10 (0) (8) #[1, 2, 3, 4, 5, 6, 7, 8, 9], 0, 0)]),
  (100, [(.iload 4, 0, 0), (.ireturn, 0, 0)]),
  (103, [(.aload 0, 0, 0), (.getfield 0, 3, 0), (.aload 0, 0, 0), (.getfield 0, 3, 1), (.iload 1, 0, 0), (.invokevirtual 0, 19, 0), (.invokevirtual 0, 73, 0), (.ireturn, 0, 0)]),
  (119, [(.iload 4, 0, 0), (.iload 2, 0, 0), (.iconst (-1), 0, 0), (.ixor, 0, 0), (.iand, 0, 0), (.ireturn, 0, 0)]),
  (126, [(.iload 2, 0, 0), (.iload 3, 0, 0), (.iand, 0, 0), (.ireturn, 0, 0)]),
  (130, [(.iload 2, 0, 0), (.iload 3, 0, 0), (.ior, 0, 0), (.ireturn, 0, 0)]),
  (134, [(.aload 0, 0, 0), (.getfield 0, 3, 2), (.iload 4, 0, 0), (.iload 2, 0, 0), (.invokevirtual 0, 108, 0), (.ireturn, 0, 0)]),
  (145, [(.aload 0, 0, 0), (.iload 2, 0, 0), (.invokevirtual 0, 38, 0), (.ireturn, 0, 0)]),
  (151, [(.aload 0, 0, 0), (.iload 4, 0, 0), (.iload 2, 0, 0), (.invokevirtual 0, 39, 0), (.ireturn, 0, 0)]),
  (159, [(.aload 0, 0, 0), (.iload 2, 0, 0), (.iload 3, 0, 0), (.invokevirtual 0, 39, 0), (.ireturn, 0, 0)]),
  (166, [(.aload 0, 0, 0), (.iload 2, 0, 0), (.invokevirtual 0, 41, 0), (.ireturn, 0, 0)])]
def zB_La_always : List (Nat × List zEnt) := [(0, [(.iload 1, 0, 0), (.istore 2, 0, 0), (.iconst (0), 0, 0), (.istore 3, 0, 0), (.goto_w 0, 1, 0)]),
  (4, [(.iload 3, 0, 0), (.iconst (12), 0, 0), (.if_icmp .ge 0, 3, 0), (.goto_w 0, 2, 0)]),
  (10, [(.aload 0, 0, 0), (.getfield 0, 3, 2), (.iload 2, 0, 0), (.iload 2, 0, 0), (.invokevirtual 0, 108, 0), (.istore 2, 0, 0), (.iinc 3 (1), 0, 0), (.goto 0, 1, 0)]),
  (26, [(.iload 2, 0, 0), (.ireturn, 0, 0)])]
def zB_La_until : List (Nat × List zEnt) := [(0, [(.iload 2, 0, 0), (.istore 3, 0, 0), (.iconst (0), 0, 0), (.istore 4, 0, 0), (.goto_w 0, 1, 0)]),
  (5, [(.iload 4, 0, 0), (.iconst (12), 0, 0), (.if_icmp .ge 0, 6, 0), (.goto_w 0, 2, 0)]),
  (12, [(.aload 0, 0, 0), (.getfield 0, 3, 4), (.iload 4, 0, 0), (.iload 2, 0, 0), (.iload 4, 0, 0), (.invokestatic 0, 162, 0), (.ifCond .eq 0, 4, 0), (.goto_w 0, 3, 0)]),
  (27, [(.iconst (0), 0, 0), (.goto 0, 5, 0)]),
  (31, [(.iconst (-1), 0, 0), (.goto_w 0, 5, 0)]),
  (32, [(.invokestatic 0, 160, 0), (.iinc 4 (1), 0, 0), (.goto 0, 1, 0)]),
  (41, [(.iconst (1), 0, 0), (.istore 4, 0, 0), (.goto_w 0, 7, 0)]),
  (44, [(.iload 4, 0, 0), (.iconst (12), 0, 0), (.if_icmp .gt 0, 11, 0), (.goto_w 0, 8, 0)]),
  (51, [(.aload 0, 0, 0), (.getfield 0, 3, 2), (.iload 1, 0, 0), (.iload 3, 0, 0), (.iconst (-1), 0, 0), (.ixor, 0, 0), (.iand, 0, 0), (.iload 3, 0, 0), (.invokevirtual 0, 108, 0), (.istore 5, 0, 0), (.iload 5, 0, 0), (.ifCond .ne 0, 10, 0), (.goto_w 0, 9, 0)]),
  (71, [(.goto 0, 11, 0)]),
  (74, [(.aload 0, 0, 0), (.iload 5, 0, 0), (.iload 4, 0, 0), (.invokevirtual 0, 40, 0), (.iload 3, 0, 0), (.iload 5, 0, 0), (.ior, 0, 0), (.istore 3, 0, 0), (.iinc 4 (1), 0, 0), (.goto 0, 7, 0)]),
  (93, [(.iload 3, 0, 0), (.ireturn, 0, 0)])]
def zB_La_mark : List (Nat × List zEnt) := [(0, [(.iconst (0), 0, 0), (.istore 3, 0, 0), (.goto_w 0, 1, 0)]),
  (2, [(.iload 3, 0, 0), (.iconst (12), 0, 0), (.if_icmp .ge 0, 5, 0), (.goto_w 0, 2, 0)]),
  (8, [(.iload 1, 0, 0), (.iload 3, 0, 0), (.invokestatic 0, 162, 0), (.ifCond .eq 0, 4, 0), (.goto_w 0, 3, 0)]),
  (16, [(.aload 0, 0, 0), (.getfield 0, 3, 4), (.iload 3, 0, 0), (.iload 2, 0, 0), (.invokestatic 0, 160, 0), (.goto_w 0, 4, 0)]),
  (25, [(.iinc 3 (1), 0, 0), (.goto 0, 1, 0)]),
  (31, [(.return_, 0, 0)])]
def zB_La_again : List (Nat × List zEnt) := [(0, [(.aload 0, 0, 0), (.getfield 0, 3, 0), (.invokevirtual 0, 66, 0), (.istore 2, 0, 0), (.iconst (0), 0, 0), (.istore 3, 0, 0), (.goto_w 0, 1, 0)]),
  (10, [(.iload 3, 0, 0), (.iconst (12), 0, 0), (.if_icmp .gt 0, 5, 0), (.goto_w 0, 2, 0)]),
  (16, [(.aload 0, 0, 0), (.aload 0, 0, 0), (.getfield 0, 3, 0), (.invokevirtual 0, 66, 0), (.aload 0, 0, 0), (.getfield 0, 3, 2), (.iload 1, 0, 0), (.iload 2, 0, 0), (.invokevirtual 0, 108, 0), (.invokevirtual 0, 39, 0), (.istore 4, 0, 0), (.iload 4, 0, 0), (.iload 2, 0, 0), (.if_icmp .ne 0, 4, 0), (.goto_w 0, 3, 0)]),
  (44, [(.goto 0, 5, 0)]),
  (47, [(.iload 4, 0, 0), (.istore 2, 0, 0), (.iinc 3 (1), 0, 0), (.goto 0, 1, 0)]),
  (56, [(.iload 2, 0, 0), (.ireturn, 0, 0)])]
def zB_La_ahead : List (Nat × List zEnt) := [(0, [(.iconst (0), 0, 0), (.istore 2, 0, 0), (.iconst (0), 0, 0), (.istore 3, 0, 0), (.goto_w 0, 1, 0)]),
  (4, [(.iload 3, 0, 0), (.aload 0, 0, 0), (.getfield 0, 3, 0), (.getfield 0, 5, 0), (.if_icmp .ge 0, 6, 0), (.goto_w 0, 2, 0)]),
  (15, [(.aload 0, 0, 0), (.getfield 0, 3, 4), (.iload 3, 0, 0), (.invokestatic 0, 159, 0), (.ifCond .lt 0, 5, 0), (.goto_w 0, 3, 0)]),
  (26, [(.aload 0, 0, 0), (.getfield 0, 3, 4), (.iload 3, 0, 0), (.invokestatic 0, 159, 0), (.iload 1, 0, 0), (.if_icmp .ge 0, 5, 0), (.goto_w 0, 4, 0)]),
  (38, [(.iload 2, 0, 0), (.iconst (1), 0, 0), (.iload 3, 0, 0), (.ishl, 0, 0), (.ior, 0, 0), (.istore 2, 0, 0), (.goto_w 0, 5, 0)]),
  (44, [(.iinc 3 (1), 0, 0), (.goto 0, 1, 0)]),
  (50, [(.iload 2, 0, 0), (.ireturn, 0, 0)])]
def zB_La_fewestMore : List (Nat × List zEnt) := [(0, [(.iconst (-4), 0, 0), (.istore 2, 0, 0), (.aload 0, 0, 0), (.getfield 0, 3, 1), (.iconst (0), 0, 0), (.invokevirtual 0, 21, 0), (.istore 3, 0, 0), (.iconst (0), 0, 0), (.istore 4, 0, 0), (.goto_w 0, 1, 0)]),
  (15, [(.iload 4, 0, 0), (.getstatic 0, 0, 0), (.arraylength, 0, 0), (.if_icmp .ge 0, 10, 0), (.goto_w 0, 2, 0)]),
  (24, [(.iload 2, 0, 0), (.iconst (-4), 0, 0), (.if_icmp .ne 0, 10, 0), (.goto_w 0, 3, 0)]),
  (30, [(.getstatic 0, 0, 0), (.iload 4, 0, 0), (.invokestatic 0, 159, 0), (.istore 5, 0, 0), (.aload 0, 0, 0), (.getfield 0, 3, 0), (.iload 5, 0, 0), (.invokevirtual 0, 61, 0), (.ifCond .eq 0, 9, 0), (.goto_w 0, 4, 0)]),
  (52, [(.iload 5, 0, 0), (.iload 3, 0, 0), (.iand, 0, 0), (.ifCond .ne 0, 9, 0), (.goto_w 0, 5, 0)]),
  (59, [(.aload 0, 0, 0), (.getfield 0, 3, 2), (.iload 3, 0, 0), (.iload 5, 0, 0), (.ior, 0, 0), (.invokevirtual 0, 103, 0), (.aload 0, 0, 0), (.iconst (0), 0, 0), (.invokevirtual 0, 37, 0), (.iload 1, 0, 0), (.invokestatic 0, 162, 0), (.ifCond .eq 0, 7, 0), (.goto_w 0, 6, 0)]),
  (82, [(.iload 5, 0, 0), (.goto 0, 8, 0)]),
  (87, [(.iconst (-4), 0, 0), (.goto_w 0, 8, 0)]),
  (89, [(.istore 2, 0, 0), (.goto_w 0, 9, 0)]),
  (90, [(.iinc 4 (1), 0, 0), (.goto 0, 1, 0)]),
  (96, [(.aload 0, 0, 0), (.iconst (-1), 0, 0), (.putfield 0, 3, 5), (.iload 2, 0, 0), (.ireturn, 0, 0)])]
def zB_Lo_init : List (Nat × List zEnt) := [(0, [(.aload 0, 0, 0), (.nop, 0, 0), (.aload 0, 0, 0), (.iconst (-1), 0, 0), (.putfield 0, 4, 1), (.aload 0, 0, 0), (.iconst (144), 0, 0), (.newarray .int, 0, 0), (.putfield 0, 4, 4), (.aload 0, 0, 0), (.iconst (12), 0, 0), (.newarray .int, 0, 0), (.putfield 0, 4, 5), (.aload 0, 0, 0), (.iconst (12), 0, 0), (.newarray .int, 0, 0), (.putfield 0, 4, 6), (.aload 0, 0, 0), (.iconst (156), 0, 0), (.newarray .long, 0, 0), (.putfield 0, 4, 7), (.aload 0, 0, 0), (.aload 1, 0, 0), (.putfield 0, 4, 0), (.return_, 0, 0)])]
def zB_Lo_weigh : List (Nat × List zEnt) := [(0, [(.aload 0, 0, 0), (.iload 2, 0, 0), (.iload 1, 0, 0), (.invokestatic 0, 162, 0), (.ifCond .eq 0, 2, 0), (.goto_w 0, 1, 0)]),
  (9, [(.sipush (1), 0, 0), (.goto 0, 3, 0)]),
  (13, [(.sipush (0), 0, 0), (.goto_w 0, 3, 0)]),
  (14, [(.putfield 0, 4, 2), (.aload 0, 0, 0), (.sipush (1), 0, 0), (.putfield 0, 4, 3), (.aload 0, 0, 0), (.getfield 0, 4, 2), (.sipush (1), 0, 0), (.lcmp, 0, 0), (.ifCond .ne 0, 5, 0), (.goto_w 0, 4, 0)]),
  (31, [(.return_, 0, 0)]),
  (32, [(.aload 0, 0, 0), (.invokevirtual 0, 46, 0), (.aload 0, 0, 0), (.iload 2, 0, 0), (.invokevirtual 0, 47, 0), (.iload 2, 0, 0), (.iconst (-1), 0, 0), (.ixor, 0, 0), (.iand, 0, 0), (.istore 3, 0, 0), (.iload 3, 0, 0), (.iload 1, 0, 0), (.invokestatic 0, 162, 0), (.ifCond .eq 0, 7, 0), (.goto_w 0, 6, 0)]),
  (54, [(.aload 0, 0, 0), (.iload 3, 0, 0), (.iload 1, 0, 0), (.invokevirtual 0, 49, 0), (.istore 4, 0, 0), (.aload 0, 0, 0), (.iload 4, 0, 0), (.iload 2, 0, 0), (.invokevirtual 0, 50, 0), (.aload 0, 0, 0), (.iload 4, 0, 0), (.invokevirtual 0, 51, 0), (.aload 0, 0, 0), (.aload 0, 0, 0), (.iload 4, 0, 0), (.iconst (1), 0, 0), (.isub, 0, 0), (.iload 4, 0, 0), (.invokevirtual 0, 53, 0), (.putfield 0, 4, 2), (.aload 0, 0, 0), (.aload 0, 0, 0), (.iload 4, 0, 0), (.iconst (1), 0, 0), (.isub, 0, 0), (.iload 4, 0, 0), (.iconst (1), 0, 0), (.isub, 0, 0), (.invokevirtual 0, 53, 0), (.putfield 0, 4, 3), (.aload 0, 0, 0), (.invokevirtual 0, 55, 0), (.goto_w 0, 7, 0)]),
  (109, [(.return_, 0, 0)])]
def zB_Lo_countAll : List (Nat × List zEnt) := [(0, [(.aload 0, 0, 0), (.getfield 0, 4, 4), (.iconst (0), 0, 0), (.invokestatic 0, 263, 0), (.iconst (0), 0, 0), (.istore 1, 0, 0), (.goto_w 0, 1, 0)]),
  (10, [(.iload 1, 0, 0), (.aload 0, 0, 0), (.getfield 0, 4, 0), (.getfield 0, 5, 0), (.if_icmp .ge 0, 9, 0), (.goto_w 0, 2, 0)]),
  (21, [(.aload 0, 0, 0), (.getfield 0, 4, 1), (.ifCond .ge 0, 4, 0), (.goto_w 0, 3, 0)]),
  (28, [(.iconst (1), 0, 0), (.goto 0, 5, 0)]),
  (32, [(.aload 0, 0, 0), (.getfield 0, 4, 0), (.iload 1, 0, 0), (.aload 0, 0, 0), (.getfield 0, 4, 1), (.invokevirtual 0, 67, 0), (.goto_w 0, 5, 0)]),
  (44, [(.istore 2, 0, 0), (.aload 0, 0, 0), (.getfield 0, 4, 5), (.iload 1, 0, 0), (.iload 2, 0, 0), (.invokestatic 0, 160, 0), (.iconst (0), 0, 0), (.istore 3, 0, 0), (.goto_w 0, 6, 0)]),
  (56, [(.iload 3, 0, 0), (.iload 2, 0, 0), (.if_icmp .ge 0, 8, 0), (.goto_w 0, 7, 0)]),
  (61, [(.iload 1, 0, 0), (.iconst (12), 0, 0), (.imul, 0, 0), (.aload 0, 0, 0), (.getfield 0, 4, 0), (.aload 0, 0, 0), (.getfield 0, 4, 0), (.getfield 0, 5, 4), (.iload 1, 0, 0), (.aload 0, 0, 0), (.getfield 0, 4, 1), (.iload 3, 0, 0), (.invokevirtual 0, 79, 0), (.iadd, 0, 0), (.istore 4, 0, 0), (.aload 0, 0, 0), (.getfield 0, 4, 4), (.iload 4, 0, 0), (.aload 0, 0, 0), (.getfield 0, 4, 4), (.iload 4, 0, 0), (.invokestatic 0, 159, 0), (.iconst (1), 0, 0), (.iadd, 0, 0), (.invokestatic 0, 160, 0), (.iinc 3 (1), 0, 0), (.goto 0, 6, 0)]),
  (114, [(.iinc 1 (1), 0, 0), (.goto 0, 1, 0)]),
  (120, [(.return_, 0, 0)])]
def zB_Lo_coming : List (Nat × List zEnt) := [(0, [(.iload 1, 0, 0), (.istore 2, 0, 0), (.iconst (0), 0, 0), (.istore 3, 0, 0), (.goto_w 0, 1, 0)]),
  (4, [(.iload 3, 0, 0), (.iconst (12), 0, 0), (.if_icmp .ge 0, 8, 0), (.goto_w 0, 2, 0)]),
  (10, [(.iconst (0), 0, 0), (.istore 4, 0, 0), (.goto_w 0, 3, 0)]),
  (13, [(.iload 4, 0, 0), (.aload 0, 0, 0), (.getfield 0, 4, 0), (.getfield 0, 5, 0), (.if_icmp .ge 0, 7, 0), (.goto_w 0, 4, 0)]),
  (25, [(.aload 0, 0, 0), (.iload 4, 0, 0), (.iload 2, 0, 0), (.invokevirtual 0, 48, 0), (.ifCond .le 0, 6, 0), (.goto_w 0, 5, 0)]),
  (35, [(.iload 2, 0, 0), (.iconst (1), 0, 0), (.iload 4, 0, 0), (.ishl, 0, 0), (.ior, 0, 0), (.istore 2, 0, 0), (.goto_w 0, 6, 0)]),
  (42, [(.iinc 4 (1), 0, 0), (.goto 0, 3, 0)]),
  (48, [(.iinc 3 (1), 0, 0), (.goto 0, 1, 0)]),
  (54, [(.iload 2, 0, 0), (.ireturn, 0, 0)])]
def zB_Lo_countInto : List (Nat × List zEnt) := [(0, [(.iconst (0), 0, 0), (.istore 3, 0, 0), (.iconst (0), 0, 0), (.istore 4, 0, 0), (.goto_w 0, 1, 0)]),
  (5, [(.iload 4, 0, 0), (.aload 0, 0, 0), (.getfield 0, 4, 0), (.getfield 0, 5, 0), (.if_icmp .ge 0, 5, 0), (.goto_w 0, 2, 0)]),
  (17, [(.iload 2, 0, 0), (.iload 4, 0, 0), (.invokestatic 0, 162, 0), (.ifCond .eq 0, 4, 0), (.goto_w 0, 3, 0)]),
  (26, [(.iload 3, 0, 0), (.aload 0, 0, 0), (.getfield 0, 4, 4), (.iload 1, 0, 0), (.iconst (12), 0, 0), (.imul, 0, 0), (.iload 4, 0, 0), (.iadd, 0, 0), (.invokestatic 0, 159, 0), (.iadd, 0, 0), (.istore 3, 0, 0), (.goto_w 0, 4, 0)]),
  (43, [(.iinc 4 (1), 0, 0), (.goto 0, 1, 0)]),
  (49, [(.iload 3, 0, 0), (.ireturn, 0, 0)])]
def zB_Lo_line : List (Nat × List zEnt) := [(0, [(.iconst (0), 0, 0), (.istore 3, 0, 0), (.iconst (0), 0, 0), (.istore 4, 0, 0), (.goto_w 0, 1, 0)]),
  (5, [(.iload 4, 0, 0), (.aload 0, 0, 0), (.getfield 0, 4, 0), (.getfield 0, 5, 0), (.if_icmp .ge 0, 6, 0), (.goto_w 0, 2, 0)]),
  (17, [(.iload 1, 0, 0), (.iload 4, 0, 0), (.invokestatic 0, 162, 0), (.ifCond .eq 0, 5, 0), (.goto_w 0, 3, 0)]),
  (26, [(.iload 4, 0, 0), (.iload 2, 0, 0), (.if_icmp .eq 0, 5, 0), (.goto_w 0, 4, 0)]),
  (32, [(.aload 0, 0, 0), (.getfield 0, 4, 6), (.iload 3, 0, 0), (.iload 4, 0, 0), (.invokestatic 0, 160, 0), (.iinc 3 (1), 0, 0), (.goto_w 0, 5, 0)]),
  (45, [(.iinc 4 (1), 0, 0), (.goto 0, 1, 0)]),
  (51, [(.aload 0, 0, 0), (.getfield 0, 4, 6), (.iload 3, 0, 0), (.iload 2, 0, 0), (.invokestatic 0, 160, 0), (.iload 3, 0, 0), (.iconst (1), 0, 0), (.iadd, 0, 0), (.ireturn, 0, 0)])]
def zB_Lo_write : List (Nat × List zEnt) := [(0, [(.iconst (0), 0, 0), (.istore 3, 0, 0), (.goto_w 0, 1, 0)]),
  (2, [(.iload 3, 0, 0), (.iload 1, 0, 0), (.if_icmp .ge 0, 9, 0), (.goto_w 0, 2, 0)]),
  (7, [(.aload 0, 0, 0), (.getfield 0, 4, 6), (.iload 3, 0, 0), (.invokestatic 0, 159, 0), (.istore 4, 0, 0), (.iconst (0), 0, 0), (.istore 5, 0, 0), (.goto_w 0, 3, 0)]),
  (20, [(.iload 5, 0, 0), (.iload 1, 0, 0), (.if_icmp .ge 0, 8, 0), (.goto_w 0, 4, 0)]),
  (26, [(.iload 3, 0, 0), (.iload 5, 0, 0), (.if_icmp .ne 0, 6, 0), (.goto_w 0, 5, 0)]),
  (32, [(.aload 0, 0, 0), (.getfield 0, 4, 5), (.iload 4, 0, 0), (.invokestatic 0, 159, 0), (.goto 0, 7, 0)]),
  (44, [(.iconst (0), 0, 0), (.goto_w 0, 7, 0)]),
  (45, [(.istore 6, 0, 0), (.aload 0, 0, 0), (.iload 3, 0, 0), (.iload 5, 0, 0), (.iload 6, 0, 0), (.aload 0, 0, 0), (.getfield 0, 4, 4), (.iload 4, 0, 0), (.iconst (12), 0, 0), (.imul, 0, 0), (.aload 0, 0, 0), (.getfield 0, 4, 6), (.iload 5, 0, 0), (.invokestatic 0, 159, 0), (.iadd, 0, 0), (.invokestatic 0, 159, 0), (.isub, 0, 0), (.i2l, 0, 0), (.invokevirtual 0, 54, 0), (.iinc 5 (1), 0, 0), (.goto 0, 3, 0)]),
  (86, [(.aload 0, 0, 0), (.iload 3, 0, 0), (.iload 1, 0, 0), (.aload 0, 0, 0), (.iload 4, 0, 0), (.iload 2, 0, 0), (.invokevirtual 0, 48, 0), (.i2l, 0, 0), (.invokevirtual 0, 54, 0), (.iinc 3 (1), 0, 0), (.goto 0, 1, 0)]),
  (106, [(.return_, 0, 0)])]
def zB_Lo_solve : List (Nat × List zEnt) := [(0, [(.sipush (1), 0, 0), (.lstore 2, 0, 0), (.iconst (0), 0, 0), (.istore 4, 0, 0), (.goto_w 0, 1, 0)]),
  (5, [(.iload 4, 0, 0), (.iconst (1), 0, 0), (.iadd, 0, 0), (.iload 1, 0, 0), (.if_icmp .ge 0, 6, 0), (.goto_w 0, 2, 0)]),
  (13, [(.iload 4, 0, 0), (.iconst (1), 0, 0), (.iadd, 0, 0), (.istore 5, 0, 0), (.goto_w 0, 3, 0)]),
  (19, [(.iload 5, 0, 0), (.iload 1, 0, 0), (.if_icmp .ge 0, 5, 0), (.goto_w 0, 4, 0)]),
  (25, [(.aload 0, 0, 0), (.iload 5, 0, 0), (.iload 4, 0, 0), (.iload 1, 0, 0), (.lload 2, 0, 0), (.invokevirtual 0, 52, 0), (.iinc 5 (1), 0, 0), (.goto 0, 3, 0)]),
  (41, [(.aload 0, 0, 0), (.iload 4, 0, 0), (.iload 4, 0, 0), (.invokevirtual 0, 53, 0), (.lstore 2, 0, 0), (.iinc 4 (1), 0, 0), (.goto 0, 1, 0)]),
  (56, [(.return_, 0, 0)])]
def zB_Lo_clearBelow : List (Nat × List zEnt) := [(0, [(.aload 0, 0, 0), (.iload 1, 0, 0), (.iload 2, 0, 0), (.invokevirtual 0, 53, 0), (.lstore 6, 0, 0), (.iload 2, 0, 0), (.istore 8, 0, 0), (.goto_w 0, 1, 0)]),
  (11, [(.iload 8, 0, 0), (.iload 3, 0, 0), (.if_icmp .gt 0, 6, 0), (.goto_w 0, 2, 0)]),
  (17, [(.aload 0, 0, 0), (.iload 2, 0, 0), (.iload 2, 0, 0), (.invokevirtual 0, 53, 0), (.aload 0, 0, 0), (.iload 1, 0, 0), (.iload 8, 0, 0), (.invokevirtual 0, 53, 0), (.lmul, 0, 0), (.lload 6, 0, 0), (.aload 0, 0, 0), (.iload 2, 0, 0), (.iload 8, 0, 0), (.invokevirtual 0, 53, 0), (.lmul, 0, 0), (.lsub, 0, 0), (.lstore 9, 0, 0), (.aload 0, 0, 0), (.iload 1, 0, 0), (.iload 8, 0, 0), (.lload 4, 0, 0), (.sipush (0), 0, 0), (.lcmp, 0, 0), (.ifCond .ne 0, 4, 0), (.goto_w 0, 3, 0)]),
  (55, [(.sipush (0), 0, 0), (.goto 0, 5, 0)]),
  (59, [(.lload 9, 0, 0), (.lload 4, 0, 0), (.ldiv, 0, 0), (.goto_w 0, 5, 0)]),
  (64, [(.invokevirtual 0, 54, 0), (.iinc 8 (1), 0, 0), (.goto 0, 1, 0)]),
  (73, [(.return_, 0, 0)])]
def zB_Lo_cell : List (Nat × List zEnt) := [(0, [(.iload 1, 0, 0), (.iconst (13), 0, 0), (.imul, 0, 0), (.iload 2, 0, 0), (.iadd, 0, 0), (.istore 3, 0, 0), (.iload 3, 0, 0), (.ifCond .lt 0, 3, 0), (.goto_w 0, 1, 0)]),
  (11, [(.iload 3, 0, 0), (.aload 0, 0, 0), (.getfield 0, 4, 7), (.arraylength, 0, 0), (.if_icmp .ge 0, 3, 0), (.goto_w 0, 2, 0)]),
  (20, [(.aload 0, 0, 0), (.getfield 0, 4, 7), (.iload 3, 0, 0), (.laload, 0, 0), (.goto 0, 4, 0)]),
  (29, [(.sipush (0), 0, 0), (.goto_w 0, 4, 0)]),
  (30, [(.lreturn, 0, 0)])]
def zB_Lo_setCell : List (Nat × List zEnt) := [(0, [(.iload 1, 0, 0), (.iconst (13), 0, 0), (.imul, 0, 0), (.iload 2, 0, 0), (.iadd, 0, 0), (.istore 5, 0, 0), (.iload 5, 0, 0), (.ifCond .lt 0, 3, 0), (.goto_w 0, 1, 0)]),
  (13, [(.iload 5, 0, 0), (.aload 0, 0, 0), (.getfield 0, 4, 7), (.arraylength, 0, 0), (.if_icmp .ge 0, 3, 0), (.goto_w 0, 2, 0)]),
  (23, [(.aload 0, 0, 0), (.getfield 0, 4, 7), (.iload 5, 0, 0), (.lload 3, 0, 0), (.lastore, 0, 0), (.goto_w 0, 3, 0)]),
  (31, [(.return_, 0, 0)])]
def zB_Lo_shorten : List (Nat × List zEnt) := [(0, [(.aload 0, 0, 0), (.getfield 0, 4, 3), (.lstore 1, 0, 0), (.aload 0, 0, 0), (.getfield 0, 4, 2), (.lstore 3, 0, 0), (.iconst (0), 0, 0), (.istore 5, 0, 0), (.goto_w 0, 1, 0)]),
  (13, [(.iload 5, 0, 0), (.iconst (1000), 0, 0), (.if_icmp .ge 0, 4, 0), (.goto_w 0, 2, 0)]),
  (21, [(.lload 3, 0, 0), (.sipush (0), 0, 0), (.lcmp, 0, 0), (.ifCond .eq 0, 4, 0), (.goto_w 0, 3, 0)]),
  (27, [(.lload 1, 0, 0), (.lload 3, 0, 0), (.lrem, 0, 0), (.lstore 6, 0, 0), (.lload 3, 0, 0), (.lstore 1, 0, 0), (.lload 6, 0, 0), (.lstore 3, 0, 0), (.iinc 5 (1), 0, 0), (.goto 0, 1, 0)]),
  (43, [(.lload 1, 0, 0), (.sipush (0), 0, 0), (.lcmp, 0, 0), (.ifCond .eq 0, 6, 0), (.goto_w 0, 5, 0)]),
  (49, [(.aload 0, 0, 0), (.dup, 0, 0), (.getfield 0, 4, 2), (.lload 1, 0, 0), (.ldiv, 0, 0), (.putfield 0, 4, 2), (.aload 0, 0, 0), (.dup, 0, 0), (.getfield 0, 4, 3), (.lload 1, 0, 0), (.ldiv, 0, 0), (.putfield 0, 4, 3), (.goto_w 0, 6, 0)]),
  (69, [(.return_, 0, 0)])]
def zB_Ne_init : List (Nat × List zEnt) := [(0, [(.aload 0, 0, 0), (.nop, 0, 0), (.aload 0, 0, 0), (.iconst (48), 0, 0), (.newarray .int, 0, 0), (.putfield 0, 5, 3), (.aload 0, 0, 0), (.iconst (48), 0, 0), (.newarray .int, 0, 0), (.putfield 0, 5, 4), (.aload 0, 0, 0), (.iconst (144), 0, 0), (.newarray .int, 0, 0), (.putfield 0, 5, 5), (.aload 0, 0, 0), (.iconst (972), 0, 0), (.newarray .int, 0, 0), (.putfield 0, 5, 6), (.aload 0, 0, 0), (.iconst (12), 0, 0), (.newarray .int, 0, 0), (.putfield 0, 5, 7), (.aload 0, 0, 0), (.iconst (48), 0, 0), (.newarray .int, 0, 0), (.putfield 0, 5, 8), (.aload 0, 0, 0), (.iconst (4), 0, 0), (.iconst (2), 0, 0), (.invokevirtual 0, 57, 0), (.return_, 0, 0)])]
def zB_Ne_begin : List (Nat × List zEnt) := [(0, [(.aload 0, 0, 0), (.iload 1, 0, 0), (.putfield 0, 5, 0), (.aload 0, 0, 0), (.iload 2, 0, 0), (.putfield 0, 5, 1), (.aload 0, 0, 0), (.getfield 0, 5, 3), (.iconst (1), 0, 0), (.invokestatic 0, 263, 0), (.aload 0, 0, 0), (.getfield 0, 5, 7), (.iconst (0), 0, 0), (.invokestatic 0, 263, 0), (.iconst (0), 0, 0), (.istore 3, 0, 0), (.goto_w 0, 1, 0)]),
  (28, [(.iload 3, 0, 0), (.iconst (12), 0, 0), (.if_icmp .ge 0, 6, 0), (.goto_w 0, 2, 0)]),
  (34, [(.aload 0, 0, 0), (.iload 3, 0, 0), (.invokevirtual 0, 58, 0), (.iconst (0), 0, 0), (.istore 4, 0, 0), (.goto_w 0, 3, 0)]),
  (42, [(.iload 4, 0, 0), (.iconst (4), 0, 0), (.if_icmp .ge 0, 5, 0), (.goto_w 0, 4, 0)]),
  (48, [(.aload 0, 0, 0), (.getfield 0, 5, 8), (.iload 4, 0, 0), (.iconst (12), 0, 0), (.imul, 0, 0), (.iload 3, 0, 0), (.iadd, 0, 0), (.iload 3, 0, 0), (.invokestatic 0, 160, 0), (.iinc 4 (1), 0, 0), (.goto 0, 3, 0)]),
  (69, [(.iinc 3 (1), 0, 0), (.goto 0, 1, 0)]),
  (75, [(.aload 0, 0, 0), (.dup, 0, 0), (.getfield 0, 5, 2), (.iconst (1), 0, 0), (.iadd, 0, 0), (.putfield 0, 5, 2), (.return_, 0, 0)])]
def zB_Ne_leadBack : List (Nat × List zEnt) := [(0, [(.iconst (0), 0, 0), (.istore 2, 0, 0), (.goto_w 0, 1, 0)]),
  (2, [(.iload 2, 0, 0), (.iconst (81), 0, 0), (.if_icmp .ge 0, 3, 0), (.goto_w 0, 2, 0)]),
  (8, [(.aload 0, 0, 0), (.getfield 0, 5, 6), (.iload 1, 0, 0), (.iconst (81), 0, 0), (.imul, 0, 0), (.iload 2, 0, 0), (.iadd, 0, 0), (.iload 1, 0, 0), (.invokestatic 0, 160, 0), (.iinc 2 (1), 0, 0), (.goto 0, 1, 0)]),
  (28, [(.iconst (0), 0, 0), (.istore 2, 0, 0), (.goto_w 0, 4, 0)]),
  (30, [(.iload 2, 0, 0), (.iconst (4), 0, 0), (.if_icmp .ge 0, 6, 0), (.goto_w 0, 5, 0)]),
  (35, [(.aload 0, 0, 0), (.getfield 0, 5, 4), (.iload 1, 0, 0), (.iconst (4), 0, 0), (.imul, 0, 0), (.iload 2, 0, 0), (.iadd, 0, 0), (.iconst (0), 0, 0), (.invokestatic 0, 160, 0), (.iinc 2 (1), 0, 0), (.goto 0, 4, 0)]),
  (54, [(.iconst (0), 0, 0), (.istore 2, 0, 0), (.goto_w 0, 7, 0)]),
  (56, [(.iload 2, 0, 0), (.iconst (12), 0, 0), (.if_icmp .ge 0, 9, 0), (.goto_w 0, 8, 0)]),
  (62, [(.aload 0, 0, 0), (.getfield 0, 5, 5), (.iload 1, 0, 0), (.iconst (4), 0, 0), (.imul, 0, 0), (.iconst (3), 0, 0), (.imul, 0, 0), (.iload 2, 0, 0), (.iadd, 0, 0), (.iconst (0), 0, 0), (.invokestatic 0, 160, 0), (.iinc 2 (1), 0, 0), (.goto 0, 7, 0)]),
  (83, [(.return_, 0, 0)])]
def zB_Ne_hasState : List (Nat × List zEnt) := [(0, [(.iload 1, 0, 0), (.ifCond .lt 0, 3, 0), (.goto_w 0, 1, 0)]),
  (4, [(.iload 1, 0, 0), (.aload 0, 0, 0), (.getfield 0, 5, 0), (.if_icmp .ge 0, 3, 0), (.goto_w 0, 2, 0)]),
  (12, [(.iconst (1), 0, 0), (.goto 0, 4, 0)]),
  (16, [(.iconst (0), 0, 0), (.goto_w 0, 4, 0)]),
  (17, [(.ireturn, 0, 0)])]
def zB_Ne_hasPlayer : List (Nat × List zEnt) := [(0, [(.iload 1, 0, 0), (.ifCond .lt 0, 3, 0), (.goto_w 0, 1, 0)]),
  (4, [(.iload 1, 0, 0), (.aload 0, 0, 0), (.getfield 0, 5, 1), (.if_icmp .ge 0, 3, 0), (.goto_w 0, 2, 0)]),
  (12, [(.iconst (1), 0, 0), (.goto 0, 4, 0)]),
  (16, [(.iconst (0), 0, 0), (.goto_w 0, 4, 0)]),
  (17, [(.ireturn, 0, 0)])]
def zB_Ne_hasGroup : List (Nat × List zEnt) := [(0, [(.iload 1, 0, 0), (.ifCond .lt 0, 3, 0), (.goto_w 0, 1, 0)]),
  (4, [(.iload 1, 0, 0), (.aload 0, 0, 0), (.invokevirtual 0, 65, 0), (.if_icmp .gt 0, 3, 0), (.goto_w 0, 2, 0)]),
  (12, [(.iconst (1), 0, 0), (.goto 0, 4, 0)]),
  (16, [(.iconst (0), 0, 0), (.goto_w 0, 4, 0)]),
  (17, [(.ireturn, 0, 0)])]
def zB_Ne_hasSet : List (Nat × List zEnt) := [(0, [(.iload 1, 0, 0), (.ifCond .lt 0, 3, 0), (.goto_w 0, 1, 0)]),
  (4, [(.iload 1, 0, 0), (.aload 0, 0, 0), (.invokevirtual 0, 66, 0), (.if_icmp .gt 0, 3, 0), (.goto_w 0, 2, 0)]),
  (12, [(.iconst (1), 0, 0), (.goto 0, 4, 0)]),
  (16, [(.iconst (0), 0, 0), (.goto_w 0, 4, 0)]),
  (17, [(.ireturn, 0, 0)])]
def zB_Ne_hasMove : List (Nat × List zEnt) := [(0, [(.aload 0, 0, 0), (.iload 1, 0, 0), (.invokevirtual 0, 59, 0), (.ifCond .eq 0, 5, 0), (.goto_w 0, 1, 0)]),
  (8, [(.aload 0, 0, 0), (.iload 2, 0, 0), (.invokevirtual 0, 60, 0), (.ifCond .eq 0, 5, 0), (.goto_w 0, 2, 0)]),
  (16, [(.iload 3, 0, 0), (.ifCond .lt 0, 5, 0), (.goto_w 0, 3, 0)]),
  (20, [(.iload 3, 0, 0), (.aload 0, 0, 0), (.iload 1, 0, 0), (.iload 2, 0, 0), (.invokevirtual 0, 67, 0), (.if_icmp .ge 0, 5, 0), (.goto_w 0, 4, 0)]),
  (30, [(.iconst (1), 0, 0), (.goto 0, 6, 0)]),
  (34, [(.iconst (0), 0, 0), (.goto_w 0, 6, 0)]),
  (35, [(.ireturn, 0, 0)])]
def zB_Ne_hasJoint : List (Nat × List zEnt) := [(0, [(.aload 0, 0, 0), (.iload 1, 0, 0), (.invokevirtual 0, 59, 0), (.ifCond .eq 0, 4, 0), (.goto_w 0, 1, 0)]),
  (8, [(.iload 2, 0, 0), (.ifCond .lt 0, 4, 0), (.goto_w 0, 2, 0)]),
  (12, [(.iload 2, 0, 0), (.aload 0, 0, 0), (.iload 1, 0, 0), (.aload 0, 0, 0), (.invokevirtual 0, 65, 0), (.invokevirtual 0, 74, 0), (.if_icmp .ge 0, 4, 0), (.goto_w 0, 3, 0)]),
  (25, [(.iconst (1), 0, 0), (.goto 0, 5, 0)]),
  (29, [(.iconst (0), 0, 0), (.goto_w 0, 5, 0)]),
  (30, [(.ireturn, 0, 0)])]
def zB_Ne_everyone : List (Nat × List zEnt) := [(0, [(.iconst (1), 0, 0), (.aload 0, 0, 0), (.getfield 0, 5, 1), (.ishl, 0, 0), (.iconst (1), 0, 0), (.isub, 0, 0), (.ireturn, 0, 0)])]
def zB_Ne_everywhere : List (Nat × List zEnt) := [(0, [(.iconst (1), 0, 0), (.aload 0, 0, 0), (.getfield 0, 5, 0), (.ishl, 0, 0), (.iconst (1), 0, 0), (.isub, 0, 0), (.ireturn, 0, 0)])]
def zB_Ne_movesOf : List (Nat × List zEnt) := [(0, [(.aload 0, 0, 0), (.getfield 0, 5, 3), (.iload 1, 0, 0), (.iconst (4), 0, 0), (.imul, 0, 0), (.iload 2, 0, 0), (.iadd, 0, 0), (.invokestatic 0, 159, 0), (.ireturn, 0, 0)])]
def zB_Ne_heapOf : List (Nat × List zEnt) := [(0, [(.aload 0, 0, 0), (.getfield 0, 5, 8), (.iload 1, 0, 0), (.iconst (12), 0, 0), (.imul, 0, 0), (.iload 2, 0, 0), (.iadd, 0, 0), (.invokestatic 0, 159, 0), (.ireturn, 0, 0)])]
def zB_Ne_target : List (Nat × List zEnt) := [(0, [(.aload 0, 0, 0), (.getfield 0, 5, 6), (.iload 1, 0, 0), (.iconst (81), 0, 0), (.imul, 0, 0), (.iload 2, 0, 0), (.iadd, 0, 0), (.invokestatic 0, 159, 0), (.ireturn, 0, 0)])]
def zB_Ne_changeMoves : List (Nat × List zEnt) := [(0, [(.aload 0, 0, 0), (.dup, 0, 0), (.getfield 0, 5, 2), (.iconst (1), 0, 0), (.iadd, 0, 0), (.putfield 0, 5, 2), (.aload 0, 0, 0), (.iload 1, 0, 0), (.invokevirtual 0, 58, 0), (.aload 0, 0, 0), (.getfield 0, 5, 3), (.iload 1, 0, 0), (.iconst (4), 0, 0), (.imul, 0, 0), (.iload 2, 0, 0), (.iadd, 0, 0), (.iload 3, 0, 0), (.invokestatic 0, 161, 0), (.ireturn, 0, 0)])]
def zB_Ne_changeTarget : List (Nat × List zEnt) := [(0, [(.aload 0, 0, 0), (.dup, 0, 0), (.getfield 0, 5, 2), (.iconst (1), 0, 0), (.iadd, 0, 0), (.putfield 0, 5, 2), (.aload 0, 0, 0), (.getfield 0, 5, 6), (.iload 1, 0, 0), (.iconst (81), 0, 0), (.imul, 0, 0), (.iload 2, 0, 0), (.iadd, 0, 0), (.iload 3, 0, 0), (.invokestatic 0, 161, 0), (.ireturn, 0, 0)])]
def zB_Ne_changeLetters : List (Nat × List zEnt) := [(0, [(.aload 0, 0, 0), (.dup, 0, 0), (.getfield 0, 5, 2), (.iconst (1), 0, 0), (.iadd, 0, 0), (.putfield 0, 5, 2), (.aload 0, 0, 0), (.getfield 0, 5, 7), (.iload 1, 0, 0), (.iload 2, 0, 0), (.invokestatic 0, 161, 0), (.ireturn, 0, 0)])]
def zB_Ne_bearing : List (Nat × List zEnt) := [(0, [(.iconst (0), 0, 0), (.istore 2, 0, 0), (.iconst (0), 0, 0), (.istore 3, 0, 0), (.goto_w 0, 1, 0)]),
  (4, [(.iload 3, 0, 0), (.aload 0, 0, 0), (.getfield 0, 5, 0), (.if_icmp .ge 0, 5, 0), (.goto_w 0, 2, 0)]),
  (12, [(.aload 0, 0, 0), (.getfield 0, 5, 7), (.iload 3, 0, 0), (.invokestatic 0, 159, 0), (.iload 1, 0, 0), (.invokestatic 0, 162, 0), (.ifCond .eq 0, 4, 0), (.goto_w 0, 3, 0)]),
  (27, [(.iload 2, 0, 0), (.iconst (1), 0, 0), (.iload 3, 0, 0), (.ishl, 0, 0), (.ior, 0, 0), (.istore 2, 0, 0), (.goto_w 0, 4, 0)]),
  (33, [(.iinc 3 (1), 0, 0), (.goto 0, 1, 0)]),
  (39, [(.iload 2, 0, 0), (.ireturn, 0, 0)])]
def zB_Ne_ways : List (Nat × List zEnt) := [(0, [(.iconst (1), 0, 0), (.istore 3, 0, 0), (.iconst (0), 0, 0), (.istore 4, 0, 0), (.goto_w 0, 1, 0)]),
  (5, [(.iload 4, 0, 0), (.aload 0, 0, 0), (.getfield 0, 5, 1), (.if_icmp .ge 0, 5, 0), (.goto_w 0, 2, 0)]),
  (14, [(.iload 2, 0, 0), (.iload 4, 0, 0), (.invokestatic 0, 162, 0), (.ifCond .eq 0, 4, 0), (.goto_w 0, 3, 0)]),
  (23, [(.iload 3, 0, 0), (.aload 0, 0, 0), (.iload 1, 0, 0), (.iload 4, 0, 0), (.invokevirtual 0, 67, 0), (.imul, 0, 0), (.istore 3, 0, 0), (.goto_w 0, 4, 0)]),
  (33, [(.iinc 4 (1), 0, 0), (.goto 0, 1, 0)]),
  (39, [(.iload 3, 0, 0), (.ireturn, 0, 0)])]
def zB_Ne_together : List (Nat × List zEnt) := [(0, [(.iload 3, 0, 0), (.istore 5, 0, 0), (.iload 4, 0, 0), (.istore 6, 0, 0), (.iconst (0), 0, 0), (.istore 7, 0, 0), (.iconst (1), 0, 0), (.istore 8, 0, 0), (.aload 0, 0, 0), (.getfield 0, 5, 1), (.iconst (1), 0, 0), (.isub, 0, 0), (.istore 9, 0, 0), (.goto_w 0, 1, 0)]),
  (21, [(.iload 9, 0, 0), (.ifCond .lt 0, 6, 0), (.goto_w 0, 2, 0)]),
  (26, [(.aload 0, 0, 0), (.iload 1, 0, 0), (.iload 9, 0, 0), (.invokevirtual 0, 67, 0), (.istore 10, 0, 0), (.iload 2, 0, 0), (.iload 9, 0, 0), (.invokestatic 0, 162, 0), (.ifCond .eq 0, 4, 0), (.goto_w 0, 3, 0)]),
  (44, [(.iload 7, 0, 0), (.iload 5, 0, 0), (.iload 10, 0, 0), (.invokestatic 0, 165, 0), (.iload 8, 0, 0), (.imul, 0, 0), (.iadd, 0, 0), (.istore 7, 0, 0), (.iload 5, 0, 0), (.iload 10, 0, 0), (.invokestatic 0, 164, 0), (.istore 5, 0, 0), (.goto 0, 5, 0)]),
  (71, [(.iload 7, 0, 0), (.iload 6, 0, 0), (.iload 10, 0, 0), (.invokestatic 0, 165, 0), (.iload 8, 0, 0), (.imul, 0, 0), (.iadd, 0, 0), (.istore 7, 0, 0), (.iload 6, 0, 0), (.iload 10, 0, 0), (.invokestatic 0, 164, 0), (.istore 6, 0, 0), (.goto_w 0, 5, 0)]),
  (95, [(.iload 8, 0, 0), (.iload 10, 0, 0), (.imul, 0, 0), (.istore 8, 0, 0), (.iinc 9 (-1), 0, 0), (.goto 0, 1, 0)]),
  (108, [(.iload 7, 0, 0), (.ireturn, 0, 0)])]
def zB_Ne_leastInto : List (Nat × List zEnt) := [(0, [(.aload 0, 0, 0), (.iload 1, 0, 0), (.iload 2, 0, 0), (.invokevirtual 0, 74, 0), (.istore 4, 0, 0), (.aload 0, 0, 0), (.iload 1, 0, 0), (.aload 0, 0, 0), (.invokevirtual 0, 65, 0), (.iload 2, 0, 0), (.iconst (-1), 0, 0), (.ixor, 0, 0), (.iand, 0, 0), (.invokevirtual 0, 74, 0), (.istore 5, 0, 0), (.iconst (0), 0, 0), (.istore 6, 0, 0), (.goto_w 0, 1, 0)]),
  (26, [(.iload 6, 0, 0), (.iload 4, 0, 0), (.if_icmp .ge 0, 10, 0), (.goto_w 0, 2, 0)]),
  (33, [(.iconst (0), 0, 0), (.istore 7, 0, 0), (.iconst (0), 0, 0), (.istore 8, 0, 0), (.goto_w 0, 3, 0)]),
  (39, [(.iload 8, 0, 0), (.iload 5, 0, 0), (.if_icmp .ge 0, 7, 0), (.goto_w 0, 4, 0)]),
  (46, [(.iload 3, 0, 0), (.aload 0, 0, 0), (.iload 1, 0, 0), (.aload 0, 0, 0), (.iload 1, 0, 0), (.iload 2, 0, 0), (.iload 6, 0, 0), (.iload 8, 0, 0), (.invokevirtual 0, 75, 0), (.invokevirtual 0, 69, 0), (.invokestatic 0, 162, 0), (.ifCond .eq 0, 6, 0), (.goto_w 0, 5, 0)]),
  (68, [(.iinc 7 (1), 0, 0), (.goto_w 0, 6, 0)]),
  (71, [(.iinc 8 (1), 0, 0), (.goto 0, 3, 0)]),
  (77, [(.iload 7, 0, 0), (.iload 5, 0, 0), (.if_icmp .ne 0, 9, 0), (.goto_w 0, 8, 0)]),
  (84, [(.iload 6, 0, 0), (.ireturn, 0, 0)]),
  (87, [(.iinc 6 (1), 0, 0), (.goto 0, 1, 0)]),
  (93, [(.iconst (-1), 0, 0), (.ireturn, 0, 0)])]
def zB_Ne_sumOfPrices : List (Nat × List zEnt) := [(0, [(.iload 3, 0, 0), (.istore 4, 0, 0), (.iconst (0), 0, 0), (.istore 5, 0, 0), (.aload 0, 0, 0), (.getfield 0, 5, 1), (.iconst (1), 0, 0), (.isub, 0, 0), (.istore 6, 0, 0), (.goto_w 0, 1, 0)]),
  (14, [(.iload 6, 0, 0), (.ifCond .lt 0, 5, 0), (.goto_w 0, 2, 0)]),
  (19, [(.iload 2, 0, 0), (.iload 6, 0, 0), (.invokestatic 0, 162, 0), (.ifCond .eq 0, 4, 0), (.goto_w 0, 3, 0)]),
  (28, [(.aload 0, 0, 0), (.iload 1, 0, 0), (.iload 6, 0, 0), (.invokevirtual 0, 67, 0), (.istore 7, 0, 0), (.iload 5, 0, 0), (.aload 0, 0, 0), (.getfield 0, 5, 5), (.iload 1, 0, 0), (.iconst (4), 0, 0), (.imul, 0, 0), (.iload 6, 0, 0), (.iadd, 0, 0), (.iconst (3), 0, 0), (.imul, 0, 0), (.iload 4, 0, 0), (.iload 7, 0, 0), (.invokestatic 0, 165, 0), (.iadd, 0, 0), (.invokestatic 0, 159, 0), (.iadd, 0, 0), (.istore 5, 0, 0), (.iload 4, 0, 0), (.iload 7, 0, 0), (.invokestatic 0, 164, 0), (.istore 4, 0, 0), (.goto_w 0, 4, 0)]),
  (74, [(.iinc 6 (-1), 0, 0), (.goto 0, 1, 0)]),
  (80, [(.iload 5, 0, 0), (.ireturn, 0, 0)])]
def zB_Ne_leastMoves : List (Nat × List zEnt) := [(0, [(.iconst (0), 0, 0), (.istore 3, 0, 0), (.iconst (0), 0, 0), (.istore 4, 0, 0), (.goto_w 0, 1, 0)]),
  (5, [(.iload 4, 0, 0), (.aload 0, 0, 0), (.getfield 0, 5, 0), (.if_icmp .ge 0, 7, 0), (.goto_w 0, 2, 0)]),
  (14, [(.aload 0, 0, 0), (.iload 1, 0, 0), (.iload 4, 0, 0), (.invokevirtual 0, 68, 0), (.iload 2, 0, 0), (.if_icmp .ne 0, 6, 0), (.goto_w 0, 3, 0)]),
  (25, [(.iload 3, 0, 0), (.ifCond .eq 0, 5, 0), (.goto_w 0, 4, 0)]),
  (29, [(.aload 0, 0, 0), (.iload 4, 0, 0), (.iload 1, 0, 0), (.invokevirtual 0, 67, 0), (.iload 3, 0, 0), (.if_icmp .ge 0, 6, 0), (.goto_w 0, 5, 0)]),
  (40, [(.aload 0, 0, 0), (.iload 4, 0, 0), (.iload 1, 0, 0), (.invokevirtual 0, 67, 0), (.istore 3, 0, 0), (.goto_w 0, 6, 0)]),
  (48, [(.iinc 4 (1), 0, 0), (.goto 0, 1, 0)]),
  (54, [(.iload 3, 0, 0), (.ireturn, 0, 0)])]
def zB_Ne_next : List (Nat × List zEnt) := [(0, [(.iconst (0), 0, 0), (.istore 5, 0, 0), (.iconst (0), 0, 0), (.istore 6, 0, 0), (.goto_w 0, 1, 0)]),
  (6, [(.iload 6, 0, 0), (.aload 0, 0, 0), (.getfield 0, 5, 1), (.if_icmp .ge 0, 6, 0), (.goto_w 0, 2, 0)]),
  (15, [(.iload 6, 0, 0), (.iload 3, 0, 0), (.if_icmp .ne 0, 4, 0), (.goto_w 0, 3, 0)]),
  (21, [(.iload 4, 0, 0), (.goto 0, 5, 0)]),
  (26, [(.aload 1, 0, 0), (.iload 2, 0, 0), (.iconst (4), 0, 0), (.imul, 0, 0), (.iload 6, 0, 0), (.iadd, 0, 0), (.invokestatic 0, 159, 0), (.goto_w 0, 5, 0)]),
  (36, [(.istore 7, 0, 0), (.iload 5, 0, 0), (.aload 0, 0, 0), (.iload 2, 0, 0), (.iload 6, 0, 0), (.invokevirtual 0, 67, 0), (.imul, 0, 0), (.iload 7, 0, 0), (.iadd, 0, 0), (.istore 5, 0, 0), (.iinc 6 (1), 0, 0), (.goto 0, 1, 0)]),
  (59, [(.aload 0, 0, 0), (.iload 2, 0, 0), (.iload 5, 0, 0), (.invokevirtual 0, 69, 0), (.ireturn, 0, 0)])]
def zB_Ne_allPlans : List (Nat × List zEnt) := [(0, [(.sipush (1), 0, 0), (.lstore 1, 0, 0), (.iconst (0), 0, 0), (.istore 3, 0, 0), (.goto_w 0, 1, 0)]),
  (4, [(.iload 3, 0, 0), (.aload 0, 0, 0), (.getfield 0, 5, 0), (.if_icmp .ge 0, 3, 0), (.goto_w 0, 2, 0)]),
  (12, [(.lload 1, 0, 0), (.aload 0, 0, 0), (.iload 3, 0, 0), (.aload 0, 0, 0), (.invokevirtual 0, 65, 0), (.invokevirtual 0, 74, 0), (.i2l, 0, 0), (.lmul, 0, 0), (.sipush (2000000000), 0, 0), (.dsub, 0, 0), (.lstore 1, 0, 0), (.iinc 3 (1), 0, 0), (.goto 0, 1, 0)]),
  (37, [(.lload 1, 0, 0), (.l2i, 0, 0), (.ireturn, 0, 0)])]
def zB_Pl_init : List (Nat × List zEnt) := [(0, [(.aload 0, 0, 0), (.nop, 0, 0), (.aload 0, 0, 0), (.iconst (12), 0, 0), (.newarray .int, 0, 0), (.putfield 0, 6, 4), (.aload 0, 0, 0), (.iconst (41), 0, 0), (.newarray .int, 0, 0), (.putfield 0, 6, 5), (.aload 0, 0, 0), (.aload 1, 0, 0), (.putfield 0, 6, 0), (.aload 0, 0, 0), (.aload 2, 0, 0), (.putfield 0, 6, 1), (.aload 0, 0, 0), (.aload 3, 0, 0), (.putfield 0, 6, 2), (.aload 0, 0, 0), (.aload 4, 0, 0), (.putfield 0, 6, 3), (.return_, 0, 0)])]
def zB_Pl_move : List (Nat × List zEnt) := [(0, [(.aload 0, 0, 0), (.getfield 0, 6, 3), (.invokevirtual 0, 35, 0), (.iload 1, 0, 0), (.invokestatic 0, 162, 0), (.ifCond .ne 0, 2, 0), (.goto_w 0, 1, 0)]),
  (14, [(.iconst (-4), 0, 0), (.ireturn, 0, 0)]),
  (17, [(.aload 0, 0, 0), (.getfield 0, 6, 2), (.iload 1, 0, 0), (.aload 0, 0, 0), (.iload 1, 0, 0), (.invokevirtual 0, 83, 0), (.invokevirtual 0, 107, 0), (.istore 2, 0, 0), (.iload 2, 0, 0), (.ifCond .ge 0, 4, 0), (.goto_w 0, 3, 0)]),
  (35, [(.iconst (-4), 0, 0), (.goto 0, 5, 0)]),
  (40, [(.iload 2, 0, 0), (.goto_w 0, 5, 0)]),
  (41, [(.ireturn, 0, 0)])]
def zB_Pl_aim : List (Nat × List zEnt) := [(0, [(.aload 0, 0, 0), (.getfield 0, 6, 3), (.getfield 0, 3, 4), (.iload 1, 0, 0), (.invokestatic 0, 159, 0), (.istore 2, 0, 0), (.aload 0, 0, 0), (.getfield 0, 6, 1), (.iconst (0), 0, 0), (.invokevirtual 0, 18, 0), (.tableswitch 7 (5) (9) #[1, 2, 7, 7, 3], 0, 0)]),
  (56, [(.aload 0, 0, 0), (.getfield 0, 6, 3), (.getfield 0, 3, 3), (.aload 0, 0, 0), (.getfield 0, 6, 1), (.iconst (0), 0, 0), (.invokevirtual 0, 19, 0), (.invokestatic 0, 159, 0), (.ireturn, 0, 0)]),
  (75, [(.aload 0, 0, 0), (.getfield 0, 6, 3), (.invokevirtual 0, 35, 0), (.ireturn, 0, 0)]),
  (83, [(.iload 2, 0, 0), (.ifCond .ne 0, 5, 0), (.goto_w 0, 4, 0)]),
  (87, [(.aload 0, 0, 0), (.getfield 0, 6, 3), (.invokevirtual 0, 35, 0), (.goto 0, 6, 0)]),
  (97, [(.aload 0, 0, 0), (.getfield 0, 6, 3), (.iload 2, 0, 0), (.invokevirtual 0, 42, 0), (.goto_w 0, 6, 0)]),
  (105, [(.ireturn, 0, 0)]),
  (106, [(.aload 0, 0, 0), (.getfield 0, 6, 3), (.iload 2, 0, 0), (.invokevirtual 0, 42, 0), (.ireturn, 0, 0)])]
def zB_Pl_hinder : List (Nat × List zEnt) := [(0, [(.aload 0, 0, 0), (.getfield 0, 6, 1), (.iconst (0), 0, 0), (.invokevirtual 0, 21, 0), (.istore 3, 0, 0), (.aload 0, 0, 0), (.getfield 0, 6, 1), (.iconst (0), 0, 0), (.invokevirtual 0, 18, 0), (.iconst (5), 0, 0), (.if_icmp .ne 0, 2, 0), (.goto_w 0, 1, 0)]),
  (21, [(.aload 0, 0, 0), (.getfield 0, 6, 3), (.getfield 0, 3, 3), (.aload 0, 0, 0), (.getfield 0, 6, 1), (.iconst (0), 0, 0), (.invokevirtual 0, 19, 0), (.invokestatic 0, 159, 0), (.goto 0, 3, 0)]),
  (42, [(.aload 0, 0, 0), (.getfield 0, 6, 3), (.invokevirtual 0, 35, 0), (.goto_w 0, 3, 0)]),
  (49, [(.istore 4, 0, 0), (.aload 0, 0, 0), (.getfield 0, 6, 0), (.iload 1, 0, 0), (.aload 0, 0, 0), (.getfield 0, 6, 0), (.invokevirtual 0, 65, 0), (.iload 3, 0, 0), (.iconst (-1), 0, 0), (.ixor, 0, 0), (.iand, 0, 0), (.invokevirtual 0, 74, 0), (.istore 5, 0, 0), (.iconst (0), 0, 0), (.istore 6, 0, 0), (.goto_w 0, 4, 0)]),
  (75, [(.iload 6, 0, 0), (.iload 5, 0, 0), (.if_icmp .ge 0, 8, 0), (.goto_w 0, 5, 0)]),
  (82, [(.iload 4, 0, 0), (.aload 0, 0, 0), (.getfield 0, 6, 0), (.iload 1, 0, 0), (.aload 0, 0, 0), (.getfield 0, 6, 0), (.iload 1, 0, 0), (.iload 3, 0, 0), (.iload 2, 0, 0), (.iload 6, 0, 0), (.invokevirtual 0, 75, 0), (.invokevirtual 0, 69, 0), (.invokestatic 0, 162, 0), (.ifCond .ne 0, 7, 0), (.goto_w 0, 6, 0)]),
  (110, [(.iload 6, 0, 0), (.ireturn, 0, 0)]),
  (113, [(.iinc 6 (1), 0, 0), (.goto 0, 4, 0)]),
  (119, [(.iconst (-4), 0, 0), (.ireturn, 0, 0)])]
def zB_Pl_leastSum : List (Nat × List zEnt) := [(0, [(.iconst (0), 0, 0), (.istore 2, 0, 0), (.goto_w 0, 1, 0)]),
  (2, [(.iload 2, 0, 0), (.iconst (12), 0, 0), (.if_icmp .ge 0, 3, 0), (.goto_w 0, 2, 0)]),
  (8, [(.aload 0, 0, 0), (.getfield 0, 6, 4), (.iload 2, 0, 0), (.iconst (1000000), 0, 0), (.invokestatic 0, 160, 0), (.iinc 2 (1), 0, 0), (.goto 0, 1, 0)]),
  (24, [(.iconst (0), 0, 0), (.istore 2, 0, 0), (.goto_w 0, 4, 0)]),
  (26, [(.iload 2, 0, 0), (.aload 0, 0, 0), (.getfield 0, 6, 0), (.getfield 0, 5, 0), (.if_icmp .gt 0, 14, 0), (.goto_w 0, 5, 0)]),
  (37, [(.iconst (0), 0, 0), (.istore 3, 0, 0), (.goto_w 0, 6, 0)]),
  (39, [(.iload 3, 0, 0), (.aload 0, 0, 0), (.getfield 0, 6, 0), (.getfield 0, 5, 0), (.if_icmp .ge 0, 13, 0), (.goto_w 0, 7, 0)]),
  (50, [(.aload 0, 0, 0), (.getfield 0, 6, 3), (.invokevirtual 0, 35, 0), (.iload 3, 0, 0), (.invokestatic 0, 162, 0), (.ifCond .eq 0, 12, 0), (.goto_w 0, 8, 0)]),
  (64, [(.aload 0, 0, 0), (.getfield 0, 6, 4), (.iload 3, 0, 0), (.aload 0, 0, 0), (.getfield 0, 6, 3), (.getfield 0, 3, 4), (.iload 3, 0, 0), (.invokestatic 0, 159, 0), (.ifCond .ne 0, 10, 0), (.goto_w 0, 9, 0)]),
  (83, [(.iconst (0), 0, 0), (.goto 0, 11, 0)]),
  (87, [(.aload 0, 0, 0), (.iload 3, 0, 0), (.invokevirtual 0, 86, 0), (.goto_w 0, 11, 0)]),
  (92, [(.invokestatic 0, 160, 0), (.goto_w 0, 12, 0)]),
  (95, [(.iinc 3 (1), 0, 0), (.goto 0, 6, 0)]),
  (101, [(.iinc 2 (1), 0, 0), (.goto 0, 4, 0)]),
  (107, [(.aload 0, 0, 0), (.getfield 0, 6, 4), (.iload 1, 0, 0), (.invokestatic 0, 159, 0), (.ireturn, 0, 0)])]
def zB_Pl_cheapest : List (Nat × List zEnt) := [(0, [(.iconst (1000000), 0, 0), (.istore 2, 0, 0), (.aload 0, 0, 0), (.getfield 0, 6, 2), (.getfield 0, 8, 2), (.iload 1, 0, 0), (.invokestatic 0, 159, 0), (.istore 3, 0, 0), (.iconst (0), 0, 0), (.istore 4, 0, 0), (.goto_w 0, 1, 0)]),
  (18, [(.iload 4, 0, 0), (.iload 3, 0, 0), (.if_icmp .ge 0, 3, 0), (.goto_w 0, 2, 0)]),
  (24, [(.aload 0, 0, 0), (.getfield 0, 6, 0), (.iload 1, 0, 0), (.aload 0, 0, 0), (.getfield 0, 6, 1), (.iconst (0), 0, 0), (.invokevirtual 0, 21, 0), (.iload 4, 0, 0), (.invokevirtual 0, 77, 0), (.aload 0, 0, 0), (.aload 0, 0, 0), (.getfield 0, 6, 2), (.iload 1, 0, 0), (.iload 4, 0, 0), (.invokevirtual 0, 106, 0), (.invokevirtual 0, 87, 0), (.iadd, 0, 0), (.istore 5, 0, 0), (.iload 2, 0, 0), (.iload 5, 0, 0), (.fsub, 0, 0), (.istore 2, 0, 0), (.iinc 4 (1), 0, 0), (.goto 0, 1, 0)]),
  (72, [(.iload 2, 0, 0), (.ireturn, 0, 0)])]
def zB_Pl_worst : List (Nat × List zEnt) := [(0, [(.iconst (0), 0, 0), (.istore 2, 0, 0), (.iconst (0), 0, 0), (.istore 3, 0, 0), (.goto_w 0, 1, 0)]),
  (4, [(.iload 3, 0, 0), (.aload 0, 0, 0), (.getfield 0, 6, 0), (.getfield 0, 5, 0), (.if_icmp .ge 0, 5, 0), (.goto_w 0, 2, 0)]),
  (15, [(.iload 1, 0, 0), (.iload 3, 0, 0), (.invokestatic 0, 162, 0), (.ifCond .eq 0, 4, 0), (.goto_w 0, 3, 0)]),
  (23, [(.iload 2, 0, 0), (.aload 0, 0, 0), (.getfield 0, 6, 4), (.iload 3, 0, 0), (.invokestatic 0, 159, 0), (.fadd, 0, 0), (.istore 2, 0, 0), (.goto_w 0, 4, 0)]),
  (36, [(.iinc 3 (1), 0, 0), (.goto 0, 1, 0)]),
  (42, [(.iload 2, 0, 0), (.ireturn, 0, 0)])]
def zB_Pl_forget : List (Nat × List zEnt) := [(0, [(.aload 0, 0, 0), (.iconst (0), 0, 0), (.putfield 0, 6, 6), (.return_, 0, 0)])]
def zB_Pl_startWalk : List (Nat × List zEnt) := [(0, [(.aload 0, 0, 0), (.getfield 0, 6, 5), (.iconst (0), 0, 0), (.iload 1, 0, 0), (.invokestatic 0, 160, 0), (.aload 0, 0, 0), (.iconst (1), 0, 0), (.putfield 0, 6, 6), (.return_, 0, 0)])]
def zB_Pl_goOn : List (Nat × List zEnt) := [(0, [(.aload 0, 0, 0), (.getfield 0, 6, 5), (.aload 0, 0, 0), (.getfield 0, 6, 6), (.iconst (1), 0, 0), (.isub, 0, 0), (.invokestatic 0, 159, 0), (.istore 2, 0, 0), (.aload 0, 0, 0), (.getfield 0, 6, 1), (.iconst (0), 0, 0), (.invokevirtual 0, 21, 0), (.istore 3, 0, 0), (.iload 1, 0, 0), (.aload 0, 0, 0), (.getfield 0, 6, 0), (.iload 2, 0, 0), (.aload 0, 0, 0), (.getfield 0, 6, 0), (.invokevirtual 0, 65, 0), (.iload 3, 0, 0), (.iconst (-1), 0, 0), (.ixor, 0, 0), (.iand, 0, 0), (.invokevirtual 0, 74, 0), (.invokestatic 0, 165, 0), (.istore 4, 0, 0), (.aload 0, 0, 0), (.iload 2, 0, 0), (.invokevirtual 0, 82, 0), (.iconst (0), 0, 0), (.fadd, 0, 0), (.istore 5, 0, 0), (.aload 0, 0, 0), (.getfield 0, 6, 5), (.aload 0, 0, 0), (.getfield 0, 6, 6), (.aload 0, 0, 0), (.getfield 0, 6, 0), (.iload 2, 0, 0), (.aload 0, 0, 0), (.getfield 0, 6, 0), (.iload 2, 0, 0), (.iload 3, 0, 0), (.iload 5, 0, 0), (.iload 4, 0, 0), (.invokevirtual 0, 75, 0), (.invokevirtual 0, 69, 0), (.invokestatic 0, 160, 0), (.aload 0, 0, 0), (.dup, 0, 0), (.getfield 0, 6, 6), (.iconst (1), 0, 0), (.iadd, 0, 0), (.putfield 0, 6, 6), (.return_, 0, 0)])]
def zB_Pl_behind : List (Nat × List zEnt) := [(0, [(.iload 1, 0, 0), (.ifCond .lt 0, 3, 0), (.goto_w 0, 1, 0)]),
  (4, [(.iload 1, 0, 0), (.aload 0, 0, 0), (.getfield 0, 6, 6), (.if_icmp .ge 0, 3, 0), (.goto_w 0, 2, 0)]),
  (12, [(.aload 0, 0, 0), (.getfield 0, 6, 5), (.iload 1, 0, 0), (.invokestatic 0, 159, 0), (.goto 0, 4, 0)]),
  (23, [(.iconst (-1), 0, 0), (.goto_w 0, 4, 0)]),
  (24, [(.ireturn, 0, 0)])]
def zB_Sh_init : List (Nat × List zEnt) := [(0, [(.aload 0, 0, 0), (.nop, 0, 0), (.aload 0, 0, 0), (.iconst (4), 0, 0), (.newarray .int, 0, 0), (.putfield 0, 7, 0), (.aload 0, 0, 0), (.iconst (4), 0, 0), (.newarray .int, 0, 0), (.putfield 0, 7, 1), (.aload 0, 0, 0), (.iconst (324), 0, 0), (.newarray .int, 0, 0), (.putfield 0, 7, 2), (.aload 0, 0, 0), (.getfield 0, 7, 0), (.iconst (-1), 0, 0), (.invokestatic 0, 263, 0), (.return_, 0, 0)])]
def zB_Sh_hasPlace : List (Nat × List zEnt) := [(0, [(.iload 1, 0, 0), (.ifCond .lt 0, 5, 0), (.goto_w 0, 1, 0)]),
  (4, [(.iload 1, 0, 0), (.iconst (4), 0, 0), (.if_icmp .ge 0, 5, 0), (.goto_w 0, 2, 0)]),
  (9, [(.iload 2, 0, 0), (.ifCond .lt 0, 5, 0), (.goto_w 0, 3, 0)]),
  (13, [(.iload 2, 0, 0), (.iconst (3), 0, 0), (.if_icmp .ge 0, 5, 0), (.goto_w 0, 4, 0)]),
  (18, [(.iconst (1), 0, 0), (.goto 0, 6, 0)]),
  (22, [(.iconst (0), 0, 0), (.goto_w 0, 6, 0)]),
  (23, [(.ireturn, 0, 0)])]
def zB_Sh_isEmptyPlace : List (Nat × List zEnt) := [(0, [(.aload 0, 0, 0), (.getfield 0, 7, 0), (.iload 1, 0, 0), (.invokestatic 0, 159, 0), (.iconst (-1), 0, 0), (.if_icmp .ne 0, 2, 0), (.goto_w 0, 1, 0)]),
  (12, [(.iconst (1), 0, 0), (.goto 0, 3, 0)]),
  (16, [(.iconst (0), 0, 0), (.goto_w 0, 3, 0)]),
  (17, [(.ireturn, 0, 0)])]
def zB_Sh_hasItems : List (Nat × List zEnt) := [(0, [(.aload 0, 0, 0), (.getfield 0, 7, 1), (.iload 1, 0, 0), (.invokestatic 0, 159, 0), (.istore 4, 0, 0), (.iload 3, 0, 0), (.ifCond .lt 0, 5, 0), (.goto_w 0, 1, 0)]),
  (14, [(.iload 2, 0, 0), (.ifCond .lt 0, 5, 0), (.goto_w 0, 2, 0)]),
  (18, [(.iload 2, 0, 0), (.iload 4, 0, 0), (.if_icmp .gt 0, 5, 0), (.goto_w 0, 3, 0)]),
  (24, [(.iload 3, 0, 0), (.iload 4, 0, 0), (.iload 2, 0, 0), (.isub, 0, 0), (.if_icmp .gt 0, 5, 0), (.goto_w 0, 4, 0)]),
  (32, [(.iconst (1), 0, 0), (.goto 0, 6, 0)]),
  (36, [(.iconst (0), 0, 0), (.goto_w 0, 6, 0)]),
  (37, [(.ireturn, 0, 0)])]
def zB_Sh_wrong : List (Nat × List zEnt) := [(0, [(.aload 0, 0, 0), (.iload 1, 0, 0), (.invokevirtual 0, 94, 0), (.ifCond .eq 0, 2, 0), (.goto_w 0, 1, 0)]),
  (8, [(.iconst (-11), 0, 0), (.ireturn, 0, 0)]),
  (11, [(.aload 0, 0, 0), (.getfield 0, 7, 0), (.iload 1, 0, 0), (.invokestatic 0, 159, 0), (.iload 2, 0, 0), (.if_icmp .eq 0, 4, 0), (.goto_w 0, 3, 0)]),
  (23, [(.iconst (-12), 0, 0), (.ireturn, 0, 0)]),
  (26, [(.aload 0, 0, 0), (.iload 1, 0, 0), (.iload 3, 0, 0), (.iload 4, 0, 0), (.invokevirtual 0, 95, 0), (.ifCond .eq 0, 6, 0), (.goto_w 0, 5, 0)]),
  (37, [(.iconst (0), 0, 0), (.goto 0, 7, 0)]),
  (41, [(.iconst (-13), 0, 0), (.goto_w 0, 7, 0)]),
  (43, [(.ireturn, 0, 0)])]
def zB_Sh_start : List (Nat × List zEnt) := [(0, [(.aload 0, 0, 0), (.getfield 0, 7, 0), (.iload 1, 0, 0), (.iload 2, 0, 0), (.invokestatic 0, 160, 0), (.aload 0, 0, 0), (.getfield 0, 7, 1), (.iload 1, 0, 0), (.iload 3, 0, 0), (.invokestatic 0, 160, 0), (.iconst (0), 0, 0), (.istore 4, 0, 0), (.goto_w 0, 1, 0)]),
  (21, [(.iload 4, 0, 0), (.iconst (81), 0, 0), (.if_icmp .ge 0, 3, 0), (.goto_w 0, 2, 0)]),
  (28, [(.aload 0, 0, 0), (.getfield 0, 7, 2), (.iload 1, 0, 0), (.iconst (81), 0, 0), (.imul, 0, 0), (.iload 4, 0, 0), (.iadd, 0, 0), (.iconst (0), 0, 0), (.invokestatic 0, 160, 0), (.iinc 4 (1), 0, 0), (.goto 0, 1, 0)]),
  (49, [(.return_, 0, 0)])]
def zB_Sh_empty : List (Nat × List zEnt) := [(0, [(.aload 0, 0, 0), (.getfield 0, 7, 0), (.iload 1, 0, 0), (.iconst (-1), 0, 0), (.invokestatic 0, 160, 0), (.aload 0, 0, 0), (.getfield 0, 7, 1), (.iload 1, 0, 0), (.invokestatic 0, 159, 0), (.ireturn, 0, 0)])]
def zB_Sh_read : List (Nat × List zEnt) := [(0, [(.aload 0, 0, 0), (.getfield 0, 7, 2), (.iload 1, 0, 0), (.iconst (81), 0, 0), (.imul, 0, 0), (.iload 2, 0, 0), (.iadd, 0, 0), (.invokestatic 0, 159, 0), (.ireturn, 0, 0)])]
def zB_Sh_write : List (Nat × List zEnt) := [(0, [(.aload 0, 0, 0), (.getfield 0, 7, 2), (.iload 1, 0, 0), (.iconst (81), 0, 0), (.imul, 0, 0), (.iload 2, 0, 0), (.iadd, 0, 0), (.aload 0, 0, 0), (.getfield 0, 7, 0), (.iload 1, 0, 0), (.invokestatic 0, 159, 0), (.ifCond .ne 0, 2, 0), (.goto_w 0, 1, 0)]),
  (21, [(.iload 3, 0, 0), (.i2b, 0, 0), (.goto 0, 3, 0)]),
  (26, [(.iload 3, 0, 0), (.goto_w 0, 3, 0)]),
  (27, [(.invokestatic 0, 160, 0), (.return_, 0, 0)])]
def zB_Sh_hasBelowZero : List (Nat × List zEnt) := [(0, [(.iconst (0), 0, 0), (.istore 4, 0, 0), (.goto_w 0, 1, 0)]),
  (3, [(.iload 4, 0, 0), (.iload 3, 0, 0), (.if_icmp .ge 0, 5, 0), (.goto_w 0, 2, 0)]),
  (9, [(.aload 0, 0, 0), (.iload 1, 0, 0), (.iload 2, 0, 0), (.iload 4, 0, 0), (.iadd, 0, 0), (.invokevirtual 0, 99, 0), (.ifCond .ge 0, 4, 0), (.goto_w 0, 3, 0)]),
  (21, [(.iconst (1), 0, 0), (.ireturn, 0, 0)]),
  (23, [(.iinc 4 (1), 0, 0), (.goto 0, 1, 0)]),
  (29, [(.iconst (0), 0, 0), (.ireturn, 0, 0)])]
def zB_Ta_init : List (Nat × List zEnt) := [(0, [(.aload 0, 0, 0), (.nop, 0, 0), (.aload 0, 0, 0), (.iconst (972), 0, 0), (.newarray .int, 0, 0), (.putfield 0, 8, 1), (.aload 0, 0, 0), (.iconst (12), 0, 0), (.newarray .int, 0, 0), (.putfield 0, 8, 2), (.aload 0, 0, 0), (.iconst (81), 0, 0), (.newarray .int, 0, 0), (.putfield 0, 8, 3), (.aload 0, 0, 0), (.iconst (-1), 0, 0), (.putfield 0, 8, 4), (.aload 0, 0, 0), (.iconst (-1), 0, 0), (.putfield 0, 8, 5), (.aload 0, 0, 0), (.aload 1, 0, 0), (.putfield 0, 8, 0), (.return_, 0, 0)])]
def zB_Ta_prepare : List (Nat × List zEnt) := [(0, [(.iload 1, 0, 0), (.aload 0, 0, 0), (.getfield 0, 8, 4), (.if_icmp .ne 0, 3, 0), (.goto_w 0, 1, 0)]),
  (8, [(.aload 0, 0, 0), (.getfield 0, 8, 5), (.aload 0, 0, 0), (.getfield 0, 8, 0), (.getfield 0, 5, 2), (.if_icmp .ne 0, 3, 0), (.goto_w 0, 2, 0)]),
  (22, [(.return_, 0, 0)]),
  (23, [(.aload 0, 0, 0), (.iload 1, 0, 0), (.putfield 0, 8, 4), (.aload 0, 0, 0), (.aload 0, 0, 0), (.getfield 0, 8, 0), (.getfield 0, 5, 2), (.putfield 0, 8, 5), (.aload 0, 0, 0), (.getfield 0, 8, 1), (.iconst (0), 0, 0), (.invokestatic 0, 263, 0), (.iconst (0), 0, 0), (.istore 2, 0, 0), (.goto_w 0, 4, 0)]),
  (49, [(.iload 2, 0, 0), (.aload 0, 0, 0), (.getfield 0, 8, 0), (.getfield 0, 5, 0), (.if_icmp .ge 0, 6, 0), (.goto_w 0, 5, 0)]),
  (60, [(.aload 0, 0, 0), (.iload 2, 0, 0), (.invokevirtual 0, 104, 0), (.iinc 2 (1), 0, 0), (.goto 0, 4, 0)]),
  (71, [(.return_, 0, 0)])]
def zB_Ta_fill : List (Nat × List zEnt) := [(0, [(.aload 0, 0, 0), (.getfield 0, 8, 2), (.iload 1, 0, 0), (.aload 0, 0, 0), (.getfield 0, 8, 0), (.iload 1, 0, 0), (.aload 0, 0, 0), (.getfield 0, 8, 4), (.invokevirtual 0, 74, 0), (.invokestatic 0, 160, 0), (.aload 0, 0, 0), (.iload 1, 0, 0), (.invokevirtual 0, 105, 0), (.istore 2, 0, 0), (.iconst (0), 0, 0), (.istore 3, 0, 0), (.goto_w 0, 1, 0)]),
  (28, [(.iload 3, 0, 0), (.iload 2, 0, 0), (.if_icmp .ge 0, 3, 0), (.goto_w 0, 2, 0)]),
  (33, [(.iload 1, 0, 0), (.iconst (81), 0, 0), (.imul, 0, 0), (.aload 0, 0, 0), (.getfield 0, 8, 3), (.iload 3, 0, 0), (.invokestatic 0, 159, 0), (.iadd, 0, 0), (.istore 4, 0, 0), (.aload 0, 0, 0), (.getfield 0, 8, 1), (.iload 4, 0, 0), (.aload 0, 0, 0), (.getfield 0, 8, 1), (.iload 4, 0, 0), (.invokestatic 0, 159, 0), (.iconst (1), 0, 0), (.aload 0, 0, 0), (.getfield 0, 8, 0), (.iload 1, 0, 0), (.iload 3, 0, 0), (.invokevirtual 0, 69, 0), (.ishl, 0, 0), (.ior, 0, 0), (.invokestatic 0, 160, 0), (.iinc 3 (1), 0, 0), (.goto 0, 1, 0)]),
  (84, [(.return_, 0, 0)])]
def zB_Ta_share : List (Nat × List zEnt) := [(0, [(.iconst (1), 0, 0), (.istore 2, 0, 0), (.aload 0, 0, 0), (.getfield 0, 8, 3), (.iconst (0), 0, 0), (.iconst (0), 0, 0), (.invokestatic 0, 160, 0), (.iconst (0), 0, 0), (.istore 3, 0, 0), (.goto_w 0, 1, 0)]),
  (13, [(.iload 3, 0, 0), (.aload 0, 0, 0), (.getfield 0, 8, 0), (.getfield 0, 5, 1), (.if_icmp .ge 0, 12, 0), (.goto_w 0, 2, 0)]),
  (24, [(.aload 0, 0, 0), (.getfield 0, 8, 0), (.iload 1, 0, 0), (.iload 3, 0, 0), (.invokevirtual 0, 67, 0), (.istore 4, 0, 0), (.iload 2, 0, 0), (.iconst (1), 0, 0), (.isub, 0, 0), (.istore 5, 0, 0), (.goto_w 0, 3, 0)]),
  (40, [(.iload 5, 0, 0), (.ifCond .lt 0, 11, 0), (.goto_w 0, 4, 0)]),
  (45, [(.aload 0, 0, 0), (.getfield 0, 8, 3), (.iload 5, 0, 0), (.invokestatic 0, 159, 0), (.istore 6, 0, 0), (.iconst (0), 0, 0), (.istore 7, 0, 0), (.goto_w 0, 5, 0)]),
  (59, [(.iload 7, 0, 0), (.iload 4, 0, 0), (.if_icmp .ge 0, 10, 0), (.goto_w 0, 6, 0)]),
  (66, [(.aload 0, 0, 0), (.getfield 0, 8, 3), (.iload 5, 0, 0), (.iload 4, 0, 0), (.imul, 0, 0), (.iload 7, 0, 0), (.iadd, 0, 0), (.aload 0, 0, 0), (.getfield 0, 8, 4), (.iload 3, 0, 0), (.invokestatic 0, 162, 0), (.ifCond .eq 0, 8, 0), (.goto_w 0, 7, 0)]),
  (89, [(.iload 6, 0, 0), (.iload 4, 0, 0), (.imul, 0, 0), (.iload 7, 0, 0), (.iadd, 0, 0), (.goto 0, 9, 0)]),
  (100, [(.iload 6, 0, 0), (.goto_w 0, 9, 0)]),
  (102, [(.invokestatic 0, 160, 0), (.iinc 7 (1), 0, 0), (.goto 0, 5, 0)]),
  (111, [(.iinc 5 (-1), 0, 0), (.goto 0, 3, 0)]),
  (117, [(.iload 2, 0, 0), (.iload 4, 0, 0), (.imul, 0, 0), (.istore 2, 0, 0), (.iinc 3 (1), 0, 0), (.goto 0, 1, 0)]),
  (128, [(.iload 2, 0, 0), (.ireturn, 0, 0)])]
def zB_Ta_endsOf : List (Nat × List zEnt) := [(0, [(.aload 0, 0, 0), (.getfield 0, 8, 1), (.iload 1, 0, 0), (.iconst (81), 0, 0), (.imul, 0, 0), (.iload 2, 0, 0), (.iadd, 0, 0), (.invokestatic 0, 159, 0), (.ireturn, 0, 0)])]
def zB_Ta_leastInto : List (Nat × List zEnt) := [(0, [(.aload 0, 0, 0), (.getfield 0, 8, 2), (.iload 1, 0, 0), (.invokestatic 0, 159, 0), (.istore 3, 0, 0), (.iconst (0), 0, 0), (.istore 4, 0, 0), (.goto_w 0, 1, 0)]),
  (12, [(.iload 4, 0, 0), (.iload 3, 0, 0), (.if_icmp .ge 0, 5, 0), (.goto_w 0, 2, 0)]),
  (18, [(.aload 0, 0, 0), (.getfield 0, 8, 1), (.iload 1, 0, 0), (.iconst (81), 0, 0), (.imul, 0, 0), (.iload 4, 0, 0), (.iadd, 0, 0), (.invokestatic 0, 159, 0), (.iload 2, 0, 0), (.iconst (-1), 0, 0), (.ixor, 0, 0), (.iand, 0, 0), (.ifCond .ne 0, 4, 0), (.goto_w 0, 3, 0)]),
  (39, [(.iload 4, 0, 0), (.ireturn, 0, 0)]),
  (42, [(.iinc 4 (1), 0, 0), (.goto 0, 1, 0)]),
  (48, [(.iconst (-1), 0, 0), (.ireturn, 0, 0)])]
def zB_Ta_forcing : List (Nat × List zEnt) := [(0, [(.iconst (0), 0, 0), (.istore 3, 0, 0), (.iconst (0), 0, 0), (.istore 4, 0, 0), (.goto_w 0, 1, 0)]),
  (5, [(.iload 4, 0, 0), (.aload 0, 0, 0), (.getfield 0, 8, 0), (.getfield 0, 5, 0), (.if_icmp .ge 0, 6, 0), (.goto_w 0, 2, 0)]),
  (17, [(.iload 1, 0, 0), (.iload 4, 0, 0), (.invokestatic 0, 162, 0), (.ifCond .eq 0, 5, 0), (.goto_w 0, 3, 0)]),
  (26, [(.aload 0, 0, 0), (.iload 4, 0, 0), (.iload 2, 0, 0), (.invokevirtual 0, 107, 0), (.ifCond .lt 0, 5, 0), (.goto_w 0, 4, 0)]),
  (36, [(.iload 3, 0, 0), (.iconst (1), 0, 0), (.iload 4, 0, 0), (.ishl, 0, 0), (.ior, 0, 0), (.istore 3, 0, 0), (.goto_w 0, 5, 0)]),
  (43, [(.iinc 4 (1), 0, 0), (.goto 0, 1, 0)]),
  (49, [(.iload 3, 0, 0), (.ireturn, 0, 0)])]
def zB_Tp_init : List (Nat × List zEnt) := [(0, [(.aload 0, 0, 0), (.nop, 0, 0), (.aload 0, 0, 0), (.iconst (100), 0, 0), (.newarray .int, 0, 0), (.putfield 0, 9, 0), (.aload 0, 0, 0), (.new 0, 1, 0), (.dup, 0, 0), (.invokevirtual 0, 12, 0), (.putfield 0, 9, 1), (.return_, 0, 0)])]
def zB_Tp_add : List (Nat × List zEnt) := [(0, [(.iconst (0), 0, 0), (.istore 4, 0, 0), (.goto_w 0, 1, 0)]),
  (3, [(.iload 4, 0, 0), (.iload 3, 0, 0), (.if_icmp .ge 0, 6, 0), (.goto_w 0, 2, 0)]),
  (9, [(.lload 1, 0, 0), (.iload 4, 0, 0), (.invokestatic 0, 111, 0), (.istore 5, 0, 0), (.iload 5, 0, 0), (.iconst (32), 0, 0), (.if_icmp .lt 0, 4, 0), (.goto_w 0, 3, 0)]),
  (24, [(.iload 5, 0, 0), (.iconst (126), 0, 0), (.if_icmp .le 0, 5, 0), (.goto_w 0, 4, 0)]),
  (31, [(.iconst (-1), 0, 0), (.ireturn, 0, 0)]),
  (33, [(.iinc 4 (1), 0, 0), (.goto 0, 1, 0)]),
  (39, [(.iload 3, 0, 0), (.iconst (100), 0, 0), (.aload 0, 0, 0), (.getfield 0, 9, 2), (.isub, 0, 0), (.if_icmp .le 0, 8, 0), (.goto_w 0, 7, 0)]),
  (50, [(.iconst (-3), 0, 0), (.ireturn, 0, 0)]),
  (53, [(.iload 3, 0, 0), (.iconst (1), 0, 0), (.isub, 0, 0), (.istore 4, 0, 0), (.goto_w 0, 9, 0)]),
  (58, [(.iload 4, 0, 0), (.ifCond .lt 0, 11, 0), (.goto_w 0, 10, 0)]),
  (63, [(.aload 0, 0, 0), (.getfield 0, 9, 0), (.aload 0, 0, 0), (.getfield 0, 9, 2), (.lload 1, 0, 0), (.iload 4, 0, 0), (.invokestatic 0, 111, 0), (.invokestatic 0, 160, 0), (.aload 0, 0, 0), (.dup, 0, 0), (.getfield 0, 9, 2), (.iconst (1), 0, 0), (.iadd, 0, 0), (.putfield 0, 9, 2), (.iinc 4 (-1), 0, 0), (.goto 0, 9, 0)]),
  (96, [(.aload 0, 0, 0), (.getfield 0, 9, 2), (.ireturn, 0, 0)])]
def zB_Tp_byteOf : List (Nat × List zEnt) := [(0, [(.lload 0, 0, 0), (.iconst (8), 0, 0), (.iload 2, 0, 0), (.imul, 0, 0), (.lshr, 0, 0), (.l2i, 0, 0), (.iconst (255), 0, 0), (.iand, 0, 0), (.ireturn, 0, 0)])]
def zB_Tp_understand : List (Nat × List zEnt) := [(0, [(.aload 0, 0, 0), (.iload 1, 0, 0), (.putfield 0, 9, 5), (.aload 0, 0, 0), (.iconst (0), 0, 0), (.putfield 0, 9, 3), (.aload 0, 0, 0), (.iconst (-1), 0, 0), (.putfield 0, 9, 4), (.aload 0, 0, 0), (.getfield 0, 9, 1), (.invokevirtual 0, 14, 0), (.aload 0, 0, 0), (.iconst (0), 0, 0), (.invokevirtual 0, 116, 0), (.ifCond .eq 0, 3, 0), (.goto_w 0, 1, 0)]),
  (30, [(.aload 0, 0, 0), (.invokevirtual 0, 113, 0), (.iconst (-1), 0, 0), (.if_icmp .eq 0, 3, 0), (.goto_w 0, 2, 0)]),
  (38, [(.aload 0, 0, 0), (.invokevirtual 0, 114, 0), (.pop, 0, 0), (.goto_w 0, 3, 0)]),
  (43, [(.aload 0, 0, 0), (.iconst (0), 0, 0), (.putfield 0, 9, 2), (.aload 0, 0, 0), (.getfield 0, 9, 4), (.ifCond .ge 0, 5, 0), (.goto_w 0, 4, 0)]),
  (55, [(.iconst (0), 0, 0), (.goto 0, 6, 0)]),
  (59, [(.iconst (-20), 0, 0), (.aload 0, 0, 0), (.getfield 0, 9, 4), (.isub, 0, 0), (.goto_w 0, 6, 0)]),
  (66, [(.ireturn, 0, 0)])]
def zB_Tp_here : List (Nat × List zEnt) := [(0, [(.aload 0, 0, 0), (.getfield 0, 9, 3), (.aload 0, 0, 0), (.getfield 0, 9, 2), (.if_icmp .ge 0, 3, 0), (.goto_w 0, 1, 0)]),
  (11, [(.aload 0, 0, 0), (.getfield 0, 9, 0), (.aload 0, 0, 0), (.getfield 0, 9, 3), (.invokestatic 0, 159, 0), (.iconst (32), 0, 0), (.if_icmp .ne 0, 3, 0), (.goto_w 0, 2, 0)]),
  (27, [(.aload 0, 0, 0), (.dup, 0, 0), (.getfield 0, 9, 3), (.iconst (1), 0, 0), (.iadd, 0, 0), (.putfield 0, 9, 3), (.goto 0, 0, 0)]),
  (40, [(.aload 0, 0, 0), (.getfield 0, 9, 3), (.aload 0, 0, 0), (.getfield 0, 9, 2), (.if_icmp .ge 0, 5, 0), (.goto_w 0, 4, 0)]),
  (51, [(.aload 0, 0, 0), (.getfield 0, 9, 0), (.aload 0, 0, 0), (.getfield 0, 9, 3), (.invokestatic 0, 159, 0), (.goto 0, 6, 0)]),
  (65, [(.iconst (-1), 0, 0), (.goto_w 0, 6, 0)]),
  (66, [(.ireturn, 0, 0)])]
def zB_Tp_refuse : List (Nat × List zEnt) := [(0, [(.aload 0, 0, 0), (.aload 0, 0, 0), (.getfield 0, 9, 3), (.putfield 0, 9, 4), (.iconst (0), 0, 0), (.ireturn, 0, 0)])]
def zB_Tp_take : List (Nat × List zEnt) := [(0, [(.aload 0, 0, 0), (.invokevirtual 0, 113, 0), (.iload 1, 0, 0), (.if_icmp .eq 0, 2, 0), (.goto_w 0, 1, 0)]),
  (8, [(.aload 0, 0, 0), (.invokevirtual 0, 114, 0), (.ireturn, 0, 0)]),
  (13, [(.aload 0, 0, 0), (.dup, 0, 0), (.getfield 0, 9, 3), (.iconst (1), 0, 0), (.iadd, 0, 0), (.putfield 0, 9, 3), (.iconst (1), 0, 0), (.ireturn, 0, 0)])]
def zB_Tp_readForm : List (Nat × List zEnt) := [(0, [(.aload 0, 0, 0), (.invokevirtual 0, 113, 0), (.istore 2, 0, 0), (.iload 1, 0, 0), (.iconst (24), 0, 0), (.if_icmp .ge 0, 2, 0), (.goto_w 0, 1, 0)]),
  (11, [(.aload 0, 0, 0), (.getfield 0, 9, 1), (.getfield 0, 1, 0), (.iconst (24), 0, 0), (.if_icmp .lt 0, 3, 0), (.goto_w 0, 2, 0)]),
  (23, [(.aload 0, 0, 0), (.invokevirtual 0, 114, 0), (.ireturn, 0, 0)]),
  (28, [(.iload 2, 0, 0), (.iconst (84), 0, 0), (.if_icmp .eq 0, 6, 0), (.goto_w 0, 4, 0)]),
  (34, [(.iload 2, 0, 0), (.iconst (97), 0, 0), (.if_icmp .lt 0, 10, 0), (.goto_w 0, 5, 0)]),
  (40, [(.iload 2, 0, 0), (.iconst (104), 0, 0), (.if_icmp .gt 0, 10, 0), (.goto_w 0, 6, 0)]),
  (46, [(.aload 0, 0, 0), (.dup, 0, 0), (.getfield 0, 9, 3), (.iconst (1), 0, 0), (.iadd, 0, 0), (.putfield 0, 9, 3), (.aload 0, 0, 0), (.getfield 0, 9, 1), (.aload 0, 0, 0), (.getfield 0, 9, 1), (.iconst (0), 0, 0), (.invokevirtual 0, 15, 0), (.iload 2, 0, 0), (.iconst (84), 0, 0), (.if_icmp .ne 0, 8, 0), (.goto_w 0, 7, 0)]),
  (74, [(.iconst (0), 0, 0), (.goto 0, 9, 0)]),
  (78, [(.iconst (1), 0, 0), (.goto_w 0, 9, 0)]),
  (79, [(.iload 2, 0, 0), (.iconst (97), 0, 0), (.isub, 0, 0), (.iconst (0), 0, 0), (.invokevirtual 0, 16, 0), (.iconst (1), 0, 0), (.ireturn, 0, 0)]),
  (89, [(.iload 2, 0, 0), (.iconst (33), 0, 0), (.if_icmp .eq 0, 14, 0), (.goto_w 0, 11, 0)]),
  (95, [(.iload 2, 0, 0), (.iconst (40), 0, 0), (.if_icmp .eq 0, 14, 0), (.goto_w 0, 12, 0)]),
  (101, [(.iload 2, 0, 0), (.iconst (60), 0, 0), (.if_icmp .eq 0, 14, 0), (.goto_w 0, 13, 0)]),
  (107, [(.aload 0, 0, 0), (.invokevirtual 0, 114, 0), (.ireturn, 0, 0)]),
  (112, [(.aload 0, 0, 0), (.dup, 0, 0), (.getfield 0, 9, 3), (.iconst (1), 0, 0), (.iadd, 0, 0), (.putfield 0, 9, 3), (.aload 0, 0, 0), (.getfield 0, 9, 1), (.iconst (0), 0, 0), (.invokevirtual 0, 15, 0), (.istore 3, 0, 0), (.iload 2, 0, 0), (.iconst (33), 0, 0), (.if_icmp .ne 0, 16, 0), (.goto_w 0, 15, 0)]),
  (137, [(.aload 0, 0, 0), (.getfield 0, 9, 1), (.iload 3, 0, 0), (.iconst (2), 0, 0), (.iload 3, 0, 0), (.iconst (1), 0, 0), (.iadd, 0, 0), (.iconst (0), 0, 0), (.invokevirtual 0, 16, 0), (.aload 0, 0, 0), (.iload 1, 0, 0), (.iconst (1), 0, 0), (.iadd, 0, 0), (.invokevirtual 0, 116, 0), (.ireturn, 0, 0)]),
  (158, [(.iload 2, 0, 0), (.iconst (40), 0, 0), (.if_icmp .ne 0, 18, 0), (.goto_w 0, 17, 0)]),
  (164, [(.aload 0, 0, 0), (.iload 3, 0, 0), (.iconst (0), 0, 0), (.iload 1, 0, 0), (.invokevirtual 0, 119, 0), (.goto 0, 22, 0)]),
  (174, [(.aload 0, 0, 0), (.iload 3, 0, 0), (.invokevirtual 0, 117, 0), (.ifCond .eq 0, 21, 0), (.goto_w 0, 19, 0)]),
  (182, [(.aload 0, 0, 0), (.iload 3, 0, 0), (.iload 1, 0, 0), (.invokevirtual 0, 118, 0), (.ifCond .eq 0, 21, 0), (.goto_w 0, 20, 0)]),
  (191, [(.iconst (1), 0, 0), (.goto 0, 22, 0)]),
  (195, [(.iconst (0), 0, 0), (.goto_w 0, 22, 0)]),
  (196, [(.ireturn, 0, 0)])]
def zB_Tp_readGroup : List (Nat × List zEnt) := [(0, [(.iconst (0), 0, 0), (.istore 2, 0, 0), (.iconst (0), 0, 0), (.istore 3, 0, 0), (.iconst (0), 0, 0), (.istore 4, 0, 0), (.goto_w 0, 1, 0)]),
  (7, [(.iload 4, 0, 0), (.iconst (4), 0, 0), (.if_icmp .ge 0, 6, 0), (.goto_w 0, 2, 0)]),
  (13, [(.aload 0, 0, 0), (.invokevirtual 0, 113, 0), (.iconst (48), 0, 0), (.isub, 0, 0), (.istore 5, 0, 0), (.iload 5, 0, 0), (.iload 3, 0, 0), (.if_icmp .lt 0, 6, 0), (.goto_w 0, 3, 0)]),
  (28, [(.iload 5, 0, 0), (.aload 0, 0, 0), (.getfield 0, 9, 5), (.if_icmp .lt 0, 5, 0), (.goto_w 0, 4, 0)]),
  (37, [(.goto 0, 6, 0)]),
  (40, [(.iload 2, 0, 0), (.iconst (1), 0, 0), (.iload 5, 0, 0), (.ishl, 0, 0), (.ior, 0, 0), (.istore 2, 0, 0), (.iload 5, 0, 0), (.iconst (1), 0, 0), (.iadd, 0, 0), (.istore 3, 0, 0), (.aload 0, 0, 0), (.dup, 0, 0), (.getfield 0, 9, 3), (.iconst (1), 0, 0), (.iadd, 0, 0), (.putfield 0, 9, 3), (.iinc 4 (1), 0, 0), (.goto 0, 1, 0)]),
  (68, [(.aload 0, 0, 0), (.getfield 0, 9, 1), (.getfield 0, 1, 5), (.iload 1, 0, 0), (.iload 2, 0, 0), (.invokestatic 0, 160, 0), (.aload 0, 0, 0), (.iconst (62), 0, 0), (.invokevirtual 0, 115, 0), (.ireturn, 0, 0)])]
def zB_Tp_readLaw : List (Nat × List zEnt) := [(0, [(.aload 0, 0, 0), (.invokevirtual 0, 113, 0), (.istore 3, 0, 0), (.iload 3, 0, 0), (.invokestatic 0, 120, 0), (.istore 4, 0, 0), (.iload 4, 0, 0), (.ifCond .ge 0, 2, 0), (.goto_w 0, 1, 0)]),
  (16, [(.aload 0, 0, 0), (.invokevirtual 0, 114, 0), (.ireturn, 0, 0)]),
  (21, [(.aload 0, 0, 0), (.dup, 0, 0), (.getfield 0, 9, 3), (.iconst (1), 0, 0), (.iadd, 0, 0), (.putfield 0, 9, 3), (.iload 4, 0, 0), (.iconst (8), 0, 0), (.if_icmp .ne 0, 4, 0), (.goto_w 0, 3, 0)]),
  (38, [(.aload 0, 0, 0), (.iload 1, 0, 0), (.iconst (1), 0, 0), (.iload 2, 0, 0), (.invokevirtual 0, 119, 0), (.ireturn, 0, 0)]),
  (46, [(.aload 0, 0, 0), (.getfield 0, 9, 1), (.iload 1, 0, 0), (.iload 4, 0, 0), (.iload 1, 0, 0), (.iconst (1), 0, 0), (.iadd, 0, 0), (.iconst (0), 0, 0), (.invokevirtual 0, 16, 0), (.aload 0, 0, 0), (.iload 2, 0, 0), (.iconst (1), 0, 0), (.iadd, 0, 0), (.invokevirtual 0, 116, 0), (.ireturn, 0, 0)])]
def zB_Tp_readPair : List (Nat × List zEnt) := [(0, [(.aload 0, 0, 0), (.iload 3, 0, 0), (.iconst (1), 0, 0), (.iadd, 0, 0), (.invokevirtual 0, 116, 0), (.ifCond .ne 0, 2, 0), (.goto_w 0, 1, 0)]),
  (10, [(.iconst (0), 0, 0), (.ireturn, 0, 0)]),
  (12, [(.aload 0, 0, 0), (.invokevirtual 0, 113, 0), (.invokestatic 0, 121, 0), (.istore 4, 0, 0), (.iload 4, 0, 0), (.ifCond .lt 0, 7, 0), (.goto_w 0, 3, 0)]),
  (26, [(.iload 2, 0, 0), (.iload 4, 0, 0), (.iconst (8), 0, 0), (.if_icmp .ne 0, 5, 0), (.goto_w 0, 4, 0)]),
  (34, [(.iconst (1), 0, 0), (.goto 0, 6, 0)]),
  (38, [(.iconst (0), 0, 0), (.goto_w 0, 6, 0)]),
  (39, [(.if_icmp .eq 0, 8, 0), (.goto_w 0, 7, 0)]),
  (42, [(.aload 0, 0, 0), (.invokevirtual 0, 114, 0), (.ireturn, 0, 0)]),
  (47, [(.aload 0, 0, 0), (.dup, 0, 0), (.getfield 0, 9, 3), (.iconst (1), 0, 0), (.iadd, 0, 0), (.putfield 0, 9, 3), (.aload 0, 0, 0), (.getfield 0, 9, 1), (.iload 1, 0, 0), (.iload 4, 0, 0), (.iload 1, 0, 0), (.iconst (1), 0, 0), (.iadd, 0, 0), (.aload 0, 0, 0), (.getfield 0, 9, 1), (.getfield 0, 1, 0), (.invokevirtual 0, 16, 0), (.aload 0, 0, 0), (.iload 3, 0, 0), (.iconst (1), 0, 0), (.iadd, 0, 0), (.invokevirtual 0, 116, 0), (.ifCond .eq 0, 11, 0), (.goto_w 0, 9, 0)]),
  (87, [(.aload 0, 0, 0), (.iconst (41), 0, 0), (.invokevirtual 0, 115, 0), (.ifCond .eq 0, 11, 0), (.goto_w 0, 10, 0)]),
  (96, [(.iconst (1), 0, 0), (.goto 0, 12, 0)]),
  (100, [(.iconst (0), 0, 0), (.goto_w 0, 12, 0)]),
  (101, [(.ireturn, 0, 0)])]
def zB_Tp_lawKind : List (Nat × List zEnt) := [(0, [(.iload 0, 0, 0), (.lookupswitch 6 #[(40, 5), (70, 3), (71, 2), (73, 4), (88, 1)], 0, 0)]),
  (52, [(.iconst (5), 0, 0), (.ireturn, 0, 0)]),
  (54, [(.iconst (6), 0, 0), (.ireturn, 0, 0)]),
  (57, [(.iconst (7), 0, 0), (.ireturn, 0, 0)]),
  (60, [(.iconst (9), 0, 0), (.ireturn, 0, 0)]),
  (63, [(.iconst (8), 0, 0), (.ireturn, 0, 0)]),
  (66, [(.iconst (-1), 0, 0), (.ireturn, 0, 0)])]
def zB_Tp_pairKind : List (Nat × List zEnt) := [(0, [(.iload 0, 0, 0), (.lookupswitch 4 #[(38, 1), (85, 3), (124, 2)], 0, 0)]),
  (36, [(.iconst (3), 0, 0), (.ireturn, 0, 0)]),
  (38, [(.iconst (4), 0, 0), (.ireturn, 0, 0)]),
  (40, [(.iconst (8), 0, 0), (.ireturn, 0, 0)]),
  (43, [(.iconst (-1), 0, 0), (.ireturn, 0, 0)])]
def zB_FN_init : List (Nat × List zEnt) := [(0, [(.aload 0, 0, 0), (.nop, 0, 0), (.new 0, 5, 0), (.dup, 0, 0), (.invokevirtual 0, 56, 0), (.astore 1, 0, 0), (.new 0, 1, 0), (.dup, 0, 0), (.invokevirtual 0, 12, 0), (.astore 2, 0, 0), (.new 0, 8, 0), (.dup, 0, 0), (.aload 1, 0, 0), (.invokevirtual 0, 102, 0), (.astore 3, 0, 0), (.new 0, 3, 0), (.dup, 0, 0), (.aload 1, 0, 0), (.aload 2, 0, 0), (.aload 3, 0, 0), (.invokevirtual 0, 34, 0), (.astore 4, 0, 0), (.aload 0, 0, 0), (.aload 1, 0, 0), (.putfield 0, 10, 0), (.aload 0, 0, 0), (.aload 2, 0, 0), (.putfield 0, 10, 1), (.aload 0, 0, 0), (.new 0, 9, 0), (.dup, 0, 0), (.invokevirtual 0, 109, 0), (.putfield 0, 10, 2), (.aload 0, 0, 0), (.aload 4, 0, 0), (.putfield 0, 10, 3), (.aload 0, 0, 0), (.new 0, 6, 0), (.dup, 0, 0), (.aload 1, 0, 0), (.aload 2, 0, 0), (.aload 3, 0, 0), (.aload 4, 0, 0), (.invokevirtual 0, 81, 0), (.putfield 0, 10, 4), (.aload 0, 0, 0), (.new 0, 0, 0), (.dup, 0, 0), (.aload 1, 0, 0), (.aload 3, 0, 0), (.invokevirtual 0, 0, 0), (.putfield 0, 10, 5), (.aload 0, 0, 0), (.new 0, 4, 0), (.dup, 0, 0), (.aload 1, 0, 0), (.invokevirtual 0, 44, 0), (.putfield 0, 10, 6), (.aload 0, 0, 0), (.new 0, 2, 0), (.dup, 0, 0), (.aload 1, 0, 0), (.invokevirtual 0, 26, 0), (.putfield 0, 10, 7), (.aload 0, 0, 0), (.new 0, 7, 0), (.dup, 0, 0), (.invokevirtual 0, 92, 0), (.putfield 0, 10, 8), (.return_, 0, 0)])]
def zB_FN_net : List (Nat × List zEnt) := [(0, [(.iload 1, 0, 0), (.iconst (2), 0, 0), (.if_icmp .lt 0, 4, 0), (.goto_w 0, 1, 0)]),
  (5, [(.iload 1, 0, 0), (.iconst (12), 0, 0), (.if_icmp .gt 0, 4, 0), (.goto_w 0, 2, 0)]),
  (11, [(.iload 2, 0, 0), (.iconst (1), 0, 0), (.if_icmp .lt 0, 4, 0), (.goto_w 0, 3, 0)]),
  (16, [(.iload 2, 0, 0), (.iconst (4), 0, 0), (.if_icmp .le 0, 5, 0), (.goto_w 0, 4, 0)]),
  (21, [(.iconst (-1), 0, 0), (.ireturn, 0, 0)]),
  (23, [(.aload 0, 0, 0), (.getfield 0, 10, 0), (.iload 1, 0, 0), (.iload 2, 0, 0), (.invokevirtual 0, 57, 0), (.aload 0, 0, 0), (.getfield 0, 10, 1), (.invokevirtual 0, 13, 0), (.aload 0, 0, 0), (.getfield 0, 10, 6), (.iconst (-1), 0, 0), (.putfield 0, 4, 1), (.aload 0, 0, 0), (.getfield 0, 10, 7), (.invokevirtual 0, 27, 0), (.aload 0, 0, 0), (.getfield 0, 10, 4), (.invokevirtual 0, 88, 0), (.iconst (1), 0, 0), (.ireturn, 0, 0)])]
def zB_FN_moves : List (Nat × List zEnt) := [(0, [(.aload 0, 0, 0), (.getfield 0, 10, 0), (.iload 1, 0, 0), (.invokevirtual 0, 59, 0), (.ifCond .eq 0, 4, 0), (.goto_w 0, 1, 0)]),
  (11, [(.aload 0, 0, 0), (.getfield 0, 10, 0), (.iload 2, 0, 0), (.invokevirtual 0, 60, 0), (.ifCond .eq 0, 4, 0), (.goto_w 0, 2, 0)]),
  (22, [(.iload 3, 0, 0), (.iconst (1), 0, 0), (.if_icmp .lt 0, 4, 0), (.goto_w 0, 3, 0)]),
  (27, [(.iload 3, 0, 0), (.iconst (3), 0, 0), (.if_icmp .le 0, 5, 0), (.goto_w 0, 4, 0)]),
  (32, [(.iconst (-1), 0, 0), (.ireturn, 0, 0)]),
  (34, [(.aload 0, 0, 0), (.getfield 0, 10, 0), (.iload 1, 0, 0), (.iload 2, 0, 0), (.iload 3, 0, 0), (.invokevirtual 0, 70, 0), (.ireturn, 0, 0)])]
def zB_FN_joint : List (Nat × List zEnt) := [(0, [(.aload 0, 0, 0), (.getfield 0, 10, 0), (.iload 1, 0, 0), (.invokevirtual 0, 59, 0), (.ifCond .eq 0, 2, 0), (.goto_w 0, 1, 0)]),
  (11, [(.aload 0, 0, 0), (.getfield 0, 10, 0), (.iload 2, 0, 0), (.invokevirtual 0, 61, 0), (.ifCond .ne 0, 3, 0), (.goto_w 0, 2, 0)]),
  (22, [(.iconst (-1), 0, 0), (.ireturn, 0, 0)]),
  (24, [(.aload 0, 0, 0), (.getfield 0, 10, 0), (.iload 1, 0, 0), (.iload 2, 0, 0), (.invokevirtual 0, 74, 0), (.ireturn, 0, 0)])]
def zB_FN_step : List (Nat × List zEnt) := [(0, [(.aload 0, 0, 0), (.getfield 0, 10, 0), (.iload 1, 0, 0), (.iload 2, 0, 0), (.invokevirtual 0, 64, 0), (.ifCond .eq 0, 2, 0), (.goto_w 0, 1, 0)]),
  (12, [(.aload 0, 0, 0), (.getfield 0, 10, 0), (.iload 3, 0, 0), (.invokevirtual 0, 59, 0), (.ifCond .ne 0, 3, 0), (.goto_w 0, 2, 0)]),
  (23, [(.iconst (-1), 0, 0), (.ireturn, 0, 0)]),
  (25, [(.aload 0, 0, 0), (.getfield 0, 10, 0), (.iload 1, 0, 0), (.iload 2, 0, 0), (.iload 3, 0, 0), (.invokevirtual 0, 71, 0), (.ireturn, 0, 0)])]
def zB_FN_leads : List (Nat × List zEnt) := [(0, [(.aload 0, 0, 0), (.getfield 0, 10, 0), (.iload 1, 0, 0), (.iload 2, 0, 0), (.invokevirtual 0, 64, 0), (.ifCond .ne 0, 2, 0), (.goto_w 0, 1, 0)]),
  (12, [(.iconst (-1), 0, 0), (.ireturn, 0, 0)]),
  (14, [(.aload 0, 0, 0), (.getfield 0, 10, 0), (.iload 1, 0, 0), (.iload 2, 0, 0), (.invokevirtual 0, 69, 0), (.ireturn, 0, 0)])]
def zB_FN_letters : List (Nat × List zEnt) := [(0, [(.aload 0, 0, 0), (.getfield 0, 10, 0), (.iload 1, 0, 0), (.invokevirtual 0, 59, 0), (.ifCond .eq 0, 3, 0), (.goto_w 0, 1, 0)]),
  (11, [(.iload 2, 0, 0), (.ifCond .lt 0, 3, 0), (.goto_w 0, 2, 0)]),
  (15, [(.iload 2, 0, 0), (.iconst (256), 0, 0), (.if_icmp .lt 0, 4, 0), (.goto_w 0, 3, 0)]),
  (22, [(.iconst (-1), 0, 0), (.ireturn, 0, 0)]),
  (24, [(.aload 0, 0, 0), (.getfield 0, 10, 0), (.iload 1, 0, 0), (.iload 2, 0, 0), (.invokevirtual 0, 72, 0), (.ireturn, 0, 0)])]
def zB_FN_heap : List (Nat × List zEnt) := [(0, [(.aload 0, 0, 0), (.getfield 0, 10, 0), (.iload 1, 0, 0), (.invokevirtual 0, 60, 0), (.ifCond .eq 0, 4, 0), (.goto_w 0, 1, 0)]),
  (11, [(.aload 0, 0, 0), (.getfield 0, 10, 0), (.iload 2, 0, 0), (.invokevirtual 0, 59, 0), (.ifCond .eq 0, 4, 0), (.goto_w 0, 2, 0)]),
  (22, [(.iload 3, 0, 0), (.ifCond .lt 0, 4, 0), (.goto_w 0, 3, 0)]),
  (26, [(.iload 3, 0, 0), (.iconst (12), 0, 0), (.if_icmp .lt 0, 5, 0), (.goto_w 0, 4, 0)]),
  (32, [(.iconst (-1), 0, 0), (.ireturn, 0, 0)]),
  (34, [(.aload 0, 0, 0), (.getfield 0, 10, 0), (.getfield 0, 5, 8), (.iload 1, 0, 0), (.iconst (12), 0, 0), (.imul, 0, 0), (.iload 2, 0, 0), (.iadd, 0, 0), (.iload 3, 0, 0), (.invokestatic 0, 161, 0), (.ireturn, 0, 0)])]
def zB_FN_price : List (Nat × List zEnt) := [(0, [(.aload 0, 0, 0), (.getfield 0, 10, 0), (.iload 1, 0, 0), (.iload 2, 0, 0), (.iload 3, 0, 0), (.invokevirtual 0, 63, 0), (.ifCond .eq 0, 3, 0), (.goto_w 0, 1, 0)]),
  (13, [(.iload 4, 0, 0), (.ifCond .lt 0, 3, 0), (.goto_w 0, 2, 0)]),
  (18, [(.iload 4, 0, 0), (.iconst (9), 0, 0), (.if_icmp .le 0, 4, 0), (.goto_w 0, 3, 0)]),
  (25, [(.iconst (-1), 0, 0), (.ireturn, 0, 0)]),
  (27, [(.aload 0, 0, 0), (.getfield 0, 10, 0), (.getfield 0, 5, 5), (.iload 1, 0, 0), (.iconst (4), 0, 0), (.imul, 0, 0), (.iload 2, 0, 0), (.iadd, 0, 0), (.iconst (3), 0, 0), (.imul, 0, 0), (.iload 3, 0, 0), (.iadd, 0, 0), (.iload 4, 0, 0), (.invokestatic 0, 161, 0), (.ireturn, 0, 0)])]
def zB_FN_steps : List (Nat × List zEnt) := [(0, [(.aload 0, 0, 0), (.getfield 0, 10, 0), (.iload 1, 0, 0), (.invokevirtual 0, 59, 0), (.ifCond .eq 0, 5, 0), (.goto_w 0, 1, 0)]),
  (11, [(.aload 0, 0, 0), (.getfield 0, 10, 8), (.iload 2, 0, 0), (.iload 3, 0, 0), (.invokevirtual 0, 93, 0), (.ifCond .eq 0, 5, 0), (.goto_w 0, 2, 0)]),
  (23, [(.iload 5, 0, 0), (.ifCond .lt 0, 5, 0), (.goto_w 0, 3, 0)]),
  (28, [(.iload 5, 0, 0), (.iconst (81), 0, 0), (.if_icmp .gt 0, 5, 0), (.goto_w 0, 4, 0)]),
  (35, [(.iload 5, 0, 0), (.aload 0, 0, 0), (.getfield 0, 10, 0), (.iload 1, 0, 0), (.aload 0, 0, 0), (.getfield 0, 10, 0), (.invokevirtual 0, 65, 0), (.invokevirtual 0, 74, 0), (.if_icmp .le 0, 6, 0), (.goto_w 0, 5, 0)]),
  (55, [(.iconst (-1), 0, 0), (.ireturn, 0, 0)]),
  (57, [(.aload 0, 0, 0), (.getfield 0, 10, 8), (.iload 2, 0, 0), (.iload 3, 0, 0), (.iload 4, 0, 0), (.iload 5, 0, 0), (.invokevirtual 0, 96, 0), (.istore 6, 0, 0), (.iload 6, 0, 0), (.ifCond .eq 0, 8, 0), (.goto_w 0, 7, 0)]),
  (77, [(.iload 6, 0, 0), (.ireturn, 0, 0)]),
  (80, [(.iconst (0), 0, 0), (.istore 7, 0, 0), (.goto_w 0, 9, 0)]),
  (83, [(.iload 7, 0, 0), (.iload 5, 0, 0), (.if_icmp .ge 0, 13, 0), (.goto_w 0, 10, 0)]),
  (90, [(.aload 0, 0, 0), (.getfield 0, 10, 0), (.aload 0, 0, 0), (.getfield 0, 10, 8), (.iload 2, 0, 0), (.iload 4, 0, 0), (.iload 7, 0, 0), (.iadd, 0, 0), (.invokevirtual 0, 99, 0), (.invokevirtual 0, 59, 0), (.ifCond .ne 0, 12, 0), (.goto_w 0, 11, 0)]),
  (113, [(.iconst (-2), 0, 0), (.ireturn, 0, 0)]),
  (116, [(.iinc 7 (1), 0, 0), (.goto 0, 9, 0)]),
  (122, [(.iconst (0), 0, 0), (.istore 7, 0, 0), (.goto_w 0, 14, 0)]),
  (125, [(.iload 7, 0, 0), (.iload 5, 0, 0), (.if_icmp .ge 0, 16, 0), (.goto_w 0, 15, 0)]),
  (132, [(.aload 0, 0, 0), (.getfield 0, 10, 0), (.iload 1, 0, 0), (.iload 7, 0, 0), (.aload 0, 0, 0), (.getfield 0, 10, 8), (.iload 2, 0, 0), (.iload 4, 0, 0), (.iload 7, 0, 0), (.iadd, 0, 0), (.invokevirtual 0, 99, 0), (.invokevirtual 0, 71, 0), (.pop, 0, 0), (.iinc 7 (1), 0, 0), (.goto 0, 14, 0)]),
  (162, [(.iload 5, 0, 0), (.ireturn, 0, 0)])]
def zB_FN_type : List (Nat × List zEnt) := [(0, [(.iload 3, 0, 0), (.iconst (1), 0, 0), (.if_icmp .lt 0, 2, 0), (.goto_w 0, 1, 0)]),
  (5, [(.iload 3, 0, 0), (.iconst (8), 0, 0), (.if_icmp .le 0, 3, 0), (.goto_w 0, 2, 0)]),
  (11, [(.iconst (-1), 0, 0), (.ireturn, 0, 0)]),
  (13, [(.aload 0, 0, 0), (.getfield 0, 10, 2), (.lload 1, 0, 0), (.iload 3, 0, 0), (.invokevirtual 0, 110, 0), (.ireturn, 0, 0)])]
def zB_FN_form : List (Nat × List zEnt) := [(0, [(.aload 0, 0, 0), (.getfield 0, 10, 2), (.aload 0, 0, 0), (.getfield 0, 10, 0), (.getfield 0, 5, 1), (.invokevirtual 0, 112, 0), (.istore 1, 0, 0), (.iload 1, 0, 0), (.ifCond .eq 0, 2, 0), (.goto_w 0, 1, 0)]),
  (19, [(.iload 1, 0, 0), (.ireturn, 0, 0)]),
  (21, [(.aload 0, 0, 0), (.getfield 0, 10, 1), (.aload 0, 0, 0), (.getfield 0, 10, 2), (.getfield 0, 9, 1), (.invokevirtual 0, 17, 0), (.aload 0, 0, 0), (.getfield 0, 10, 1), (.getfield 0, 1, 0), (.ireturn, 0, 0)])]
def zB_FN_holds : List (Nat × List zEnt) := [(0, [(.aload 0, 0, 0), (.getfield 0, 10, 3), (.invokevirtual 0, 36, 0), (.aload 0, 0, 0), (.getfield 0, 10, 3), (.invokevirtual 0, 35, 0), (.ireturn, 0, 0)])]
def zB_FN_part : List (Nat × List zEnt) := [(0, [(.iload 1, 0, 0), (.ifCond .lt 0, 2, 0), (.goto_w 0, 1, 0)]),
  (4, [(.iload 1, 0, 0), (.aload 0, 0, 0), (.getfield 0, 10, 1), (.getfield 0, 1, 0), (.if_icmp .lt 0, 3, 0), (.goto_w 0, 2, 0)]),
  (15, [(.iconst (-1), 0, 0), (.ireturn, 0, 0)]),
  (17, [(.aload 0, 0, 0), (.getfield 0, 10, 3), (.invokevirtual 0, 36, 0), (.aload 0, 0, 0), (.getfield 0, 10, 3), (.getfield 0, 3, 3), (.iload 1, 0, 0), (.invokestatic 0, 159, 0), (.ireturn, 0, 0)])]
def zB_FN_force : List (Nat × List zEnt) := [(0, [(.aload 0, 0, 0), (.getfield 0, 10, 0), (.iload 1, 0, 0), (.invokevirtual 0, 59, 0), (.ifCond .eq 0, 3, 0), (.goto_w 0, 1, 0)]),
  (11, [(.aload 0, 0, 0), (.getfield 0, 10, 0), (.iload 2, 0, 0), (.invokevirtual 0, 61, 0), (.ifCond .eq 0, 3, 0), (.goto_w 0, 2, 0)]),
  (22, [(.aload 0, 0, 0), (.getfield 0, 10, 0), (.iload 3, 0, 0), (.invokevirtual 0, 62, 0), (.ifCond .ne 0, 4, 0), (.goto_w 0, 3, 0)]),
  (33, [(.iconst (-1), 0, 0), (.ireturn, 0, 0)]),
  (35, [(.aload 0, 0, 0), (.getfield 0, 10, 0), (.iload 1, 0, 0), (.iload 2, 0, 0), (.iload 3, 0, 0), (.invokevirtual 0, 76, 0), (.ifCond .lt 0, 6, 0), (.goto_w 0, 5, 0)]),
  (48, [(.iconst (1), 0, 0), (.goto 0, 7, 0)]),
  (52, [(.iconst (0), 0, 0), (.goto_w 0, 7, 0)]),
  (53, [(.ireturn, 0, 0)])]
def zB_FN_round : List (Nat × List zEnt) := [(0, [(.aload 0, 0, 0), (.getfield 0, 10, 0), (.iload 1, 0, 0), (.invokevirtual 0, 59, 0), (.ifCond .ne 0, 2, 0), (.goto_w 0, 1, 0)]),
  (11, [(.iconst (-1), 0, 0), (.ireturn, 0, 0)]),
  (13, [(.aload 0, 0, 0), (.getfield 0, 10, 1), (.invokevirtual 0, 24, 0), (.ifCond .ne 0, 4, 0), (.goto_w 0, 3, 0)]),
  (23, [(.iconst (-2), 0, 0), (.ireturn, 0, 0)]),
  (26, [(.aload 0, 0, 0), (.getfield 0, 10, 3), (.invokevirtual 0, 36, 0), (.aload 0, 0, 0), (.getfield 0, 10, 3), (.invokevirtual 0, 35, 0), (.iload 1, 0, 0), (.invokestatic 0, 162, 0), (.ifCond .eq 0, 6, 0), (.goto_w 0, 5, 0)]),
  (47, [(.aload 0, 0, 0), (.getfield 0, 10, 3), (.getfield 0, 3, 4), (.iload 1, 0, 0), (.invokestatic 0, 159, 0), (.goto 0, 7, 0)]),
  (61, [(.iconst (-4), 0, 0), (.goto_w 0, 7, 0)]),
  (63, [(.ireturn, 0, 0)])]
def zB_FN_plan : List (Nat × List zEnt) := [(0, [(.aload 0, 0, 0), (.getfield 0, 10, 0), (.iload 1, 0, 0), (.invokevirtual 0, 59, 0), (.ifCond .ne 0, 2, 0), (.goto_w 0, 1, 0)]),
  (11, [(.iconst (-1), 0, 0), (.ireturn, 0, 0)]),
  (13, [(.aload 0, 0, 0), (.getfield 0, 10, 1), (.invokevirtual 0, 23, 0), (.ifCond .ne 0, 4, 0), (.goto_w 0, 3, 0)]),
  (23, [(.iconst (-2), 0, 0), (.ireturn, 0, 0)]),
  (26, [(.aload 0, 0, 0), (.getfield 0, 10, 3), (.invokevirtual 0, 36, 0), (.aload 0, 0, 0), (.getfield 0, 10, 4), (.iload 1, 0, 0), (.invokevirtual 0, 82, 0), (.ireturn, 0, 0)])]
def zB_FN_answer : List (Nat × List zEnt) := [(0, [(.aload 0, 0, 0), (.getfield 0, 10, 0), (.iload 1, 0, 0), (.invokevirtual 0, 59, 0), (.ifCond .ne 0, 2, 0), (.goto_w 0, 1, 0)]),
  (11, [(.iconst (-1), 0, 0), (.ireturn, 0, 0)]),
  (13, [(.aload 0, 0, 0), (.getfield 0, 10, 1), (.invokevirtual 0, 23, 0), (.ifCond .ne 0, 4, 0), (.goto_w 0, 3, 0)]),
  (23, [(.iconst (-2), 0, 0), (.ireturn, 0, 0)]),
  (26, [(.iload 2, 0, 0), (.ifCond .lt 0, 6, 0), (.goto_w 0, 5, 0)]),
  (30, [(.iload 2, 0, 0), (.aload 0, 0, 0), (.getfield 0, 10, 0), (.iload 1, 0, 0), (.aload 0, 0, 0), (.getfield 0, 10, 1), (.iconst (0), 0, 0), (.invokevirtual 0, 21, 0), (.invokevirtual 0, 74, 0), (.if_icmp .lt 0, 7, 0), (.goto_w 0, 6, 0)]),
  (50, [(.iconst (-1), 0, 0), (.ireturn, 0, 0)]),
  (52, [(.aload 0, 0, 0), (.getfield 0, 10, 3), (.invokevirtual 0, 36, 0), (.aload 0, 0, 0), (.getfield 0, 10, 4), (.iload 1, 0, 0), (.iload 2, 0, 0), (.invokevirtual 0, 84, 0), (.ireturn, 0, 0)])]
def zB_FN_toll : List (Nat × List zEnt) := [(0, [(.aload 0, 0, 0), (.getfield 0, 10, 0), (.iload 1, 0, 0), (.invokevirtual 0, 59, 0), (.ifCond .ne 0, 2, 0), (.goto_w 0, 1, 0)]),
  (11, [(.iconst (-1), 0, 0), (.ireturn, 0, 0)]),
  (13, [(.aload 0, 0, 0), (.getfield 0, 10, 1), (.invokevirtual 0, 25, 0), (.ifCond .ne 0, 4, 0), (.goto_w 0, 3, 0)]),
  (23, [(.iconst (-2), 0, 0), (.ireturn, 0, 0)]),
  (26, [(.aload 0, 0, 0), (.getfield 0, 10, 3), (.invokevirtual 0, 36, 0), (.aload 0, 0, 0), (.getfield 0, 10, 3), (.invokevirtual 0, 35, 0), (.iload 1, 0, 0), (.invokestatic 0, 162, 0), (.ifCond .eq 0, 6, 0), (.goto_w 0, 5, 0)]),
  (47, [(.aload 0, 0, 0), (.getfield 0, 10, 4), (.iload 1, 0, 0), (.invokevirtual 0, 85, 0), (.goto 0, 7, 0)]),
  (58, [(.iconst (-4), 0, 0), (.goto_w 0, 7, 0)]),
  (60, [(.ireturn, 0, 0)])]
def zB_FN_walk : List (Nat × List zEnt) := [(0, [(.aload 0, 0, 0), (.getfield 0, 10, 0), (.iload 1, 0, 0), (.invokevirtual 0, 59, 0), (.ifCond .eq 0, 4, 0), (.goto_w 0, 1, 0)]),
  (11, [(.aload 0, 0, 0), (.getfield 0, 10, 8), (.iload 2, 0, 0), (.iload 3, 0, 0), (.invokevirtual 0, 93, 0), (.ifCond .eq 0, 4, 0), (.goto_w 0, 2, 0)]),
  (23, [(.iload 5, 0, 0), (.ifCond .lt 0, 4, 0), (.goto_w 0, 3, 0)]),
  (28, [(.iload 5, 0, 0), (.iconst (40), 0, 0), (.if_icmp .le 0, 5, 0), (.goto_w 0, 4, 0)]),
  (35, [(.iconst (-1), 0, 0), (.ireturn, 0, 0)]),
  (37, [(.aload 0, 0, 0), (.getfield 0, 10, 8), (.iload 2, 0, 0), (.iload 3, 0, 0), (.iload 4, 0, 0), (.iload 5, 0, 0), (.invokevirtual 0, 96, 0), (.istore 6, 0, 0), (.iload 6, 0, 0), (.ifCond .eq 0, 7, 0), (.goto_w 0, 6, 0)]),
  (57, [(.iload 6, 0, 0), (.ireturn, 0, 0)]),
  (60, [(.aload 0, 0, 0), (.getfield 0, 10, 1), (.invokevirtual 0, 23, 0), (.ifCond .eq 0, 9, 0), (.goto_w 0, 8, 0)]),
  (70, [(.aload 0, 0, 0), (.getfield 0, 10, 8), (.iload 2, 0, 0), (.iload 4, 0, 0), (.iload 5, 0, 0), (.invokevirtual 0, 101, 0), (.ifCond .eq 0, 10, 0), (.goto_w 0, 9, 0)]),
  (85, [(.iconst (-2), 0, 0), (.ireturn, 0, 0)]),
  (88, [(.aload 0, 0, 0), (.getfield 0, 10, 3), (.invokevirtual 0, 36, 0), (.aload 0, 0, 0), (.getfield 0, 10, 4), (.iload 1, 0, 0), (.invokevirtual 0, 89, 0), (.iconst (0), 0, 0), (.istore 7, 0, 0), (.goto_w 0, 11, 0)]),
  (106, [(.iload 7, 0, 0), (.iload 5, 0, 0), (.if_icmp .ge 0, 13, 0), (.goto_w 0, 12, 0)]),
  (113, [(.aload 0, 0, 0), (.getfield 0, 10, 4), (.aload 0, 0, 0), (.getfield 0, 10, 8), (.iload 2, 0, 0), (.iload 4, 0, 0), (.iload 7, 0, 0), (.iadd, 0, 0), (.invokevirtual 0, 99, 0), (.invokevirtual 0, 90, 0), (.iinc 7 (1), 0, 0), (.goto 0, 11, 0)]),
  (139, [(.aload 0, 0, 0), (.getfield 0, 10, 4), (.iload 5, 0, 0), (.invokevirtual 0, 91, 0), (.ireturn, 0, 0)])]
def zB_FN_walked : List (Nat × List zEnt) := [(0, [(.aload 0, 0, 0), (.getfield 0, 10, 4), (.iload 1, 0, 0), (.invokevirtual 0, 91, 0), (.ireturn, 0, 0)])]
def zB_FN_blind : List (Nat × List zEnt) := [(0, [(.aload 0, 0, 0), (.getfield 0, 10, 0), (.iload 1, 0, 0), (.invokevirtual 0, 59, 0), (.ifCond .ne 0, 2, 0), (.goto_w 0, 1, 0)]),
  (11, [(.iconst (-1), 0, 0), (.ireturn, 0, 0)]),
  (13, [(.aload 0, 0, 0), (.getfield 0, 10, 1), (.invokevirtual 0, 23, 0), (.ifCond .ne 0, 4, 0), (.goto_w 0, 3, 0)]),
  (23, [(.iconst (-2), 0, 0), (.ireturn, 0, 0)]),
  (26, [(.aload 0, 0, 0), (.getfield 0, 10, 3), (.invokevirtual 0, 36, 0), (.aload 0, 0, 0), (.iload 1, 0, 0), (.invokevirtual 0, 145, 0), (.istore 2, 0, 0), (.iload 2, 0, 0), (.iconst (-4), 0, 0), (.if_icmp .ne 0, 6, 0), (.goto_w 0, 5, 0)]),
  (45, [(.iconst (0), 0, 0), (.goto 0, 7, 0)]),
  (49, [(.iload 2, 0, 0), (.goto_w 0, 7, 0)]),
  (50, [(.ireturn, 0, 0)])]
def zB_FN_blindMove : List (Nat × List zEnt) := [(0, [(.aload 0, 0, 0), (.getfield 0, 10, 0), (.iload 1, 0, 0), (.invokevirtual 0, 59, 0), (.ifCond .eq 0, 4, 0), (.goto_w 0, 1, 0)]),
  (11, [(.aload 0, 0, 0), (.getfield 0, 10, 0), (.iload 2, 0, 0), (.invokevirtual 0, 60, 0), (.ifCond .eq 0, 4, 0), (.goto_w 0, 2, 0)]),
  (22, [(.iload 3, 0, 0), (.ifCond .lt 0, 4, 0), (.goto_w 0, 3, 0)]),
  (26, [(.iload 3, 0, 0), (.iconst (12), 0, 0), (.if_icmp .lt 0, 5, 0), (.goto_w 0, 4, 0)]),
  (32, [(.iconst (-1), 0, 0), (.ireturn, 0, 0)]),
  (34, [(.aload 0, 0, 0), (.getfield 0, 10, 1), (.invokevirtual 0, 23, 0), (.ifCond .ne 0, 7, 0), (.goto_w 0, 6, 0)]),
  (44, [(.iconst (-2), 0, 0), (.ireturn, 0, 0)]),
  (47, [(.aload 0, 0, 0), (.getfield 0, 10, 1), (.iconst (0), 0, 0), (.invokevirtual 0, 21, 0), (.iload 2, 0, 0), (.invokestatic 0, 162, 0), (.ifCond .eq 0, 9, 0), (.goto_w 0, 8, 0)]),
  (62, [(.aload 0, 0, 0), (.getfield 0, 10, 0), (.iload 2, 0, 0), (.iload 3, 0, 0), (.invokevirtual 0, 78, 0), (.ifCond .ne 0, 10, 0), (.goto_w 0, 9, 0)]),
  (74, [(.iconst (-1), 0, 0), (.ireturn, 0, 0)]),
  (76, [(.aload 0, 0, 0), (.getfield 0, 10, 3), (.invokevirtual 0, 36, 0), (.aload 0, 0, 0), (.iload 1, 0, 0), (.invokevirtual 0, 145, 0), (.istore 4, 0, 0), (.iload 4, 0, 0), (.iconst (1), 0, 0), (.if_icmp .ne 0, 12, 0), (.goto_w 0, 11, 0)]),
  (96, [(.aload 0, 0, 0), (.getfield 0, 10, 5), (.getfield 0, 0, 2), (.iload 2, 0, 0), (.iconst (12), 0, 0), (.imul, 0, 0), (.iload 3, 0, 0), (.iadd, 0, 0), (.invokestatic 0, 159, 0), (.goto 0, 13, 0)]),
  (115, [(.iload 4, 0, 0), (.goto_w 0, 13, 0)]),
  (117, [(.ireturn, 0, 0)])]
def zB_FN_findRow : List (Nat × List zEnt) := [(0, [(.aload 0, 0, 0), (.getfield 0, 10, 1), (.iconst (0), 0, 0), (.invokevirtual 0, 21, 0), (.istore 2, 0, 0), (.aload 0, 0, 0), (.getfield 0, 10, 5), (.iload 2, 0, 0), (.invokevirtual 0, 1, 0), (.iconst (5000), 0, 0), (.if_icmp .le 0, 2, 0), (.goto_w 0, 1, 0)]),
  (23, [(.iconst (-5), 0, 0), (.ireturn, 0, 0)]),
  (26, [(.aload 0, 0, 0), (.getfield 0, 10, 3), (.getfield 0, 3, 3), (.aload 0, 0, 0), (.getfield 0, 10, 1), (.iconst (0), 0, 0), (.invokevirtual 0, 19, 0), (.invokestatic 0, 159, 0), (.istore 3, 0, 0), (.aload 0, 0, 0), (.getfield 0, 10, 3), (.getfield 0, 3, 3), (.aload 0, 0, 0), (.getfield 0, 10, 1), (.iconst (0), 0, 0), (.invokevirtual 0, 20, 0), (.invokestatic 0, 159, 0), (.istore 4, 0, 0), (.aload 0, 0, 0), (.getfield 0, 10, 5), (.aload 0, 0, 0), (.getfield 0, 10, 1), (.iconst (0), 0, 0), (.invokevirtual 0, 18, 0), (.iload 3, 0, 0), (.iload 4, 0, 0), (.invokevirtual 0, 2, 0), (.aload 0, 0, 0), (.getfield 0, 10, 5), (.aload 0, 0, 0), (.getfield 0, 10, 5), (.iload 1, 0, 0), (.invokevirtual 0, 3, 0), (.invokevirtual 0, 4, 0), (.ifCond .eq 0, 4, 0), (.goto_w 0, 3, 0)]),
  (101, [(.iconst (1), 0, 0), (.goto 0, 5, 0)]),
  (105, [(.iconst (-4), 0, 0), (.goto_w 0, 5, 0)]),
  (107, [(.ireturn, 0, 0)])]
def zB_FN_choose : List (Nat × List zEnt) := [(0, [(.aload 0, 0, 0), (.getfield 0, 10, 0), (.iload 2, 0, 0), (.iload 1, 0, 0), (.iload 3, 0, 0), (.invokevirtual 0, 63, 0), (.ifCond .ne 0, 2, 0), (.goto_w 0, 1, 0)]),
  (13, [(.iconst (-1), 0, 0), (.ireturn, 0, 0)]),
  (15, [(.aload 0, 0, 0), (.getfield 0, 10, 0), (.getfield 0, 5, 4), (.iload 2, 0, 0), (.iconst (4), 0, 0), (.imul, 0, 0), (.iload 1, 0, 0), (.iadd, 0, 0), (.iload 3, 0, 0), (.invokestatic 0, 161, 0), (.ireturn, 0, 0)])]
def zB_FN_lot : List (Nat × List zEnt) := [(0, [(.iload 1, 0, 0), (.iconst (-1), 0, 0), (.if_icmp .eq 0, 3, 0), (.goto_w 0, 1, 0)]),
  (5, [(.aload 0, 0, 0), (.getfield 0, 10, 0), (.iload 1, 0, 0), (.invokevirtual 0, 60, 0), (.ifCond .ne 0, 3, 0), (.goto_w 0, 2, 0)]),
  (16, [(.iconst (-11), 0, 0), (.ireturn, 0, 0)]),
  (19, [(.aload 0, 0, 0), (.getfield 0, 10, 6), (.getfield 0, 4, 1), (.istore 2, 0, 0), (.aload 0, 0, 0), (.getfield 0, 10, 6), (.iload 1, 0, 0), (.putfield 0, 4, 1), (.iload 2, 0, 0), (.ireturn, 0, 0)])]
def zB_FN_chance : List (Nat × List zEnt) := [(0, [(.aload 0, 0, 0), (.getfield 0, 10, 0), (.iload 1, 0, 0), (.invokevirtual 0, 59, 0), (.ifCond .eq 0, 3, 0), (.goto_w 0, 1, 0)]),
  (11, [(.iload 2, 0, 0), (.ifCond .lt 0, 3, 0), (.goto_w 0, 2, 0)]),
  (15, [(.iload 2, 0, 0), (.iconst (1), 0, 0), (.if_icmp .le 0, 4, 0), (.goto_w 0, 3, 0)]),
  (20, [(.sipush (-1), 0, 0), (.lreturn, 0, 0)]),
  (24, [(.aload 0, 0, 0), (.getfield 0, 10, 3), (.invokevirtual 0, 36, 0), (.aload 0, 0, 0), (.getfield 0, 10, 6), (.iload 1, 0, 0), (.aload 0, 0, 0), (.getfield 0, 10, 3), (.invokevirtual 0, 35, 0), (.invokevirtual 0, 45, 0), (.iload 2, 0, 0), (.ifCond .ne 0, 6, 0), (.goto_w 0, 5, 0)]),
  (50, [(.aload 0, 0, 0), (.getfield 0, 10, 6), (.getfield 0, 4, 2), (.goto 0, 7, 0)]),
  (60, [(.aload 0, 0, 0), (.getfield 0, 10, 6), (.getfield 0, 4, 3), (.goto_w 0, 7, 0)]),
  (67, [(.lreturn, 0, 0)])]
def zB_FN_goal : List (Nat × List zEnt) := [(0, [(.aload 0, 0, 0), (.getfield 0, 10, 0), (.iload 1, 0, 0), (.invokevirtual 0, 60, 0), (.ifCond .eq 0, 2, 0), (.goto_w 0, 1, 0)]),
  (11, [(.aload 0, 0, 0), (.getfield 0, 10, 0), (.iload 2, 0, 0), (.invokevirtual 0, 62, 0), (.ifCond .ne 0, 3, 0), (.goto_w 0, 2, 0)]),
  (22, [(.iconst (-1), 0, 0), (.ireturn, 0, 0)]),
  (24, [(.aload 0, 0, 0), (.getfield 0, 10, 7), (.getfield 0, 2, 1), (.iload 1, 0, 0), (.iload 2, 0, 0), (.invokestatic 0, 161, 0), (.ireturn, 0, 0)])]
def zB_FN_content : List (Nat × List zEnt) := [(0, [(.aload 0, 0, 0), (.getfield 0, 10, 0), (.iload 1, 0, 0), (.invokevirtual 0, 59, 0), (.ifCond .ne 0, 2, 0), (.goto_w 0, 1, 0)]),
  (11, [(.iconst (-1), 0, 0), (.ireturn, 0, 0)]),
  (13, [(.aload 0, 0, 0), (.getfield 0, 10, 7), (.aload 0, 0, 0), (.getfield 0, 10, 7), (.aload 0, 0, 0), (.getfield 0, 10, 0), (.getfield 0, 5, 4), (.iload 1, 0, 0), (.invokevirtual 0, 28, 0), (.invokevirtual 0, 29, 0), (.ireturn, 0, 0)])]
def zB_FN_stable : List (Nat × List zEnt) := [(0, [(.aload 0, 0, 0), (.getfield 0, 10, 0), (.iload 1, 0, 0), (.invokevirtual 0, 59, 0), (.ifCond .ne 0, 2, 0), (.goto_w 0, 1, 0)]),
  (11, [(.iconst (-1), 0, 0), (.ireturn, 0, 0)]),
  (13, [(.aload 0, 0, 0), (.getfield 0, 10, 7), (.aload 0, 0, 0), (.getfield 0, 10, 0), (.getfield 0, 5, 4), (.iload 1, 0, 0), (.invokevirtual 0, 30, 0), (.ifCond .eq 0, 4, 0), (.goto_w 0, 3, 0)]),
  (31, [(.iconst (1), 0, 0), (.goto 0, 5, 0)]),
  (35, [(.iconst (0), 0, 0), (.goto_w 0, 5, 0)]),
  (36, [(.ireturn, 0, 0)])]
def zB_FN_settle : List (Nat × List zEnt) := [(0, [(.aload 0, 0, 0), (.getfield 0, 10, 0), (.iload 1, 0, 0), (.invokevirtual 0, 59, 0), (.ifCond .ne 0, 2, 0), (.goto_w 0, 1, 0)]),
  (11, [(.iconst (-1), 0, 0), (.ireturn, 0, 0)]),
  (13, [(.aload 0, 0, 0), (.getfield 0, 10, 0), (.invokevirtual 0, 80, 0), (.iconst (20000), 0, 0), (.if_icmp .le 0, 4, 0), (.goto_w 0, 3, 0)]),
  (26, [(.iconst (-5), 0, 0), (.ireturn, 0, 0)]),
  (29, [(.aload 0, 0, 0), (.getfield 0, 10, 7), (.iload 1, 0, 0), (.invokevirtual 0, 32, 0), (.ifCond .ne 0, 6, 0), (.goto_w 0, 5, 0)]),
  (40, [(.iconst (-4), 0, 0), (.ireturn, 0, 0)]),
  (43, [(.aload 0, 0, 0), (.getfield 0, 10, 7), (.getfield 0, 2, 2), (.iconst (0), 0, 0), (.aload 0, 0, 0), (.getfield 0, 10, 0), (.getfield 0, 5, 4), (.iconst (0), 0, 0), (.iconst (48), 0, 0), (.swap, 0, 0), (.aload 0, 0, 0), (.getfield 0, 10, 7), (.aload 0, 0, 0), (.getfield 0, 10, 7), (.aload 0, 0, 0), (.getfield 0, 10, 0), (.getfield 0, 5, 4), (.iload 1, 0, 0), (.invokevirtual 0, 28, 0), (.invokevirtual 0, 29, 0), (.ireturn, 0, 0)])]
def zB_FN_helpers : List (Nat × List zEnt) := [(0, [(.aload 0, 0, 0), (.getfield 0, 10, 0), (.iload 1, 0, 0), (.invokevirtual 0, 59, 0), (.ifCond .ne 0, 2, 0), (.goto_w 0, 1, 0)]),
  (11, [(.iconst (-1), 0, 0), (.ireturn, 0, 0)]),
  (13, [(.aload 0, 0, 0), (.getfield 0, 10, 1), (.invokevirtual 0, 23, 0), (.ifCond .ne 0, 4, 0), (.goto_w 0, 3, 0)]),
  (23, [(.iconst (-2), 0, 0), (.ireturn, 0, 0)]),
  (26, [(.aload 0, 0, 0), (.getfield 0, 10, 3), (.invokevirtual 0, 36, 0), (.aload 0, 0, 0), (.getfield 0, 10, 3), (.iload 1, 0, 0), (.invokevirtual 0, 43, 0), (.ireturn, 0, 0)])]
def zB_FN_count : List (Nat × List zEnt) := [(0, [(.iload 1, 0, 0), (.tableswitch 5 (0) (3) #[1, 2, 3, 4], 0, 0)]),
  (32, [(.aload 0, 0, 0), (.getfield 0, 10, 0), (.getfield 0, 5, 0), (.ireturn, 0, 0)]),
  (40, [(.aload 0, 0, 0), (.getfield 0, 10, 0), (.getfield 0, 5, 1), (.ireturn, 0, 0)]),
  (48, [(.aload 0, 0, 0), (.getfield 0, 10, 1), (.getfield 0, 1, 0), (.ireturn, 0, 0)]),
  (56, [(.aload 0, 0, 0), (.getfield 0, 10, 0), (.invokevirtual 0, 80, 0), (.ireturn, 0, 0)]),
  (64, [(.iconst (-1), 0, 0), (.ireturn, 0, 0)])]
def zB_FN_sheet : List (Nat × List zEnt) := [(0, [(.aload 0, 0, 0), (.getfield 0, 10, 8), (.iload 1, 0, 0), (.iload 2, 0, 0), (.invokevirtual 0, 93, 0), (.ifCond .eq 0, 2, 0), (.goto_w 0, 1, 0)]),
  (12, [(.iload 3, 0, 0), (.iconst (81), 0, 0), (.if_icmp .le 0, 3, 0), (.goto_w 0, 2, 0)]),
  (18, [(.iconst (-1), 0, 0), (.ireturn, 0, 0)]),
  (20, [(.iload 3, 0, 0), (.ifCond .ge 0, 5, 0), (.goto_w 0, 4, 0)]),
  (24, [(.iconst (-14), 0, 0), (.ireturn, 0, 0)]),
  (27, [(.aload 0, 0, 0), (.getfield 0, 10, 8), (.iload 1, 0, 0), (.iload 2, 0, 0), (.iload 3, 0, 0), (.invokevirtual 0, 97, 0), (.iload 3, 0, 0), (.ireturn, 0, 0)])]
def zB_FN_drop : List (Nat × List zEnt) := [(0, [(.aload 0, 0, 0), (.getfield 0, 10, 8), (.iload 1, 0, 0), (.iconst (0), 0, 0), (.invokevirtual 0, 93, 0), (.ifCond .ne 0, 2, 0), (.goto_w 0, 1, 0)]),
  (12, [(.iconst (-1), 0, 0), (.ireturn, 0, 0)]),
  (14, [(.aload 0, 0, 0), (.getfield 0, 10, 8), (.iload 1, 0, 0), (.invokevirtual 0, 94, 0), (.ifCond .eq 0, 4, 0), (.goto_w 0, 3, 0)]),
  (25, [(.iconst (-11), 0, 0), (.ireturn, 0, 0)]),
  (28, [(.aload 0, 0, 0), (.getfield 0, 10, 8), (.iload 1, 0, 0), (.invokevirtual 0, 98, 0), (.ireturn, 0, 0)])]
def zB_FN_item : List (Nat × List zEnt) := [(0, [(.aload 0, 0, 0), (.getfield 0, 10, 8), (.iload 1, 0, 0), (.iload 2, 0, 0), (.invokevirtual 0, 93, 0), (.ifCond .ne 0, 2, 0), (.goto_w 0, 1, 0)]),
  (12, [(.iconst (-1), 0, 0), (.ireturn, 0, 0)]),
  (14, [(.aload 0, 0, 0), (.getfield 0, 10, 8), (.iload 1, 0, 0), (.iload 2, 0, 0), (.iload 3, 0, 0), (.iconst (1), 0, 0), (.invokevirtual 0, 96, 0), (.istore 5, 0, 0), (.iload 5, 0, 0), (.ifCond .eq 0, 4, 0), (.goto_w 0, 3, 0)]),
  (32, [(.iload 5, 0, 0), (.ireturn, 0, 0)]),
  (35, [(.aload 0, 0, 0), (.getfield 0, 10, 8), (.iload 1, 0, 0), (.iload 3, 0, 0), (.iload 4, 0, 0), (.invokevirtual 0, 100, 0), (.iconst (1), 0, 0), (.ireturn, 0, 0)])]
def zB_FN_copy : List (Nat × List zEnt) := [(0, [(.aload 0, 0, 0), (.getfield 0, 10, 8), (.iload 1, 0, 0), (.iconst (0), 0, 0), (.invokevirtual 0, 93, 0), (.ifCond .eq 0, 2, 0), (.goto_w 0, 1, 0)]),
  (12, [(.aload 0, 0, 0), (.getfield 0, 10, 8), (.iload 3, 0, 0), (.iconst (0), 0, 0), (.invokevirtual 0, 93, 0), (.ifCond .ne 0, 3, 0), (.goto_w 0, 2, 0)]),
  (24, [(.iconst (-1), 0, 0), (.ireturn, 0, 0)]),
  (26, [(.aload 0, 0, 0), (.getfield 0, 10, 8), (.iload 1, 0, 0), (.invokevirtual 0, 94, 0), (.ifCond .ne 0, 5, 0), (.goto_w 0, 4, 0)]),
  (37, [(.aload 0, 0, 0), (.getfield 0, 10, 8), (.iload 3, 0, 0), (.invokevirtual 0, 94, 0), (.ifCond .eq 0, 6, 0), (.goto_w 0, 5, 0)]),
  (48, [(.iconst (-11), 0, 0), (.ireturn, 0, 0)]),
  (51, [(.aload 0, 0, 0), (.getfield 0, 10, 8), (.getfield 0, 7, 0), (.iload 1, 0, 0), (.invokestatic 0, 159, 0), (.aload 0, 0, 0), (.getfield 0, 10, 8), (.getfield 0, 7, 0), (.iload 3, 0, 0), (.invokestatic 0, 159, 0), (.if_icmp .eq 0, 8, 0), (.goto_w 0, 7, 0)]),
  (76, [(.iconst (-12), 0, 0), (.ireturn, 0, 0)]),
  (79, [(.aload 0, 0, 0), (.getfield 0, 10, 8), (.iload 1, 0, 0), (.iload 2, 0, 0), (.iload 5, 0, 0), (.invokevirtual 0, 95, 0), (.ifCond .eq 0, 10, 0), (.goto_w 0, 9, 0)]),
  (93, [(.aload 0, 0, 0), (.getfield 0, 10, 8), (.iload 3, 0, 0), (.iload 4, 0, 0), (.iload 5, 0, 0), (.invokevirtual 0, 95, 0), (.ifCond .ne 0, 11, 0), (.goto_w 0, 10, 0)]),
  (108, [(.iconst (-13), 0, 0), (.ireturn, 0, 0)]),
  (111, [(.aload 0, 0, 0), (.getfield 0, 10, 8), (.getfield 0, 7, 2), (.iload 1, 0, 0), (.iconst (81), 0, 0), (.imul, 0, 0), (.iload 2, 0, 0), (.iadd, 0, 0), (.aload 0, 0, 0), (.getfield 0, 10, 8), (.getfield 0, 7, 2), (.iload 3, 0, 0), (.iconst (81), 0, 0), (.imul, 0, 0), (.iload 4, 0, 0), (.iadd, 0, 0), (.iload 5, 0, 0), (.swap, 0, 0), (.iload 5, 0, 0), (.ireturn, 0, 0)])]
def zB_FN_at : List (Nat × List zEnt) := [(0, [(.iload 1, 0, 0), (.ifCond .lt 0, 3, 0), (.goto_w 0, 1, 0)]),
  (4, [(.iload 1, 0, 0), (.aload 0, 0, 0), (.arraylength, 0, 0), (.if_icmp .ge 0, 3, 0), (.goto_w 0, 2, 0)]),
  (10, [(.aload 0, 0, 0), (.iload 1, 0, 0), (.iaload, 0, 0), (.goto 0, 4, 0)]),
  (16, [(.iconst (0), 0, 0), (.goto_w 0, 4, 0)]),
  (17, [(.ireturn, 0, 0)])]
def zB_FN_put : List (Nat × List zEnt) := [(0, [(.iload 1, 0, 0), (.ifCond .lt 0, 3, 0), (.goto_w 0, 1, 0)]),
  (4, [(.iload 1, 0, 0), (.aload 0, 0, 0), (.arraylength, 0, 0), (.if_icmp .ge 0, 3, 0), (.goto_w 0, 2, 0)]),
  (10, [(.aload 0, 0, 0), (.iload 1, 0, 0), (.iload 2, 0, 0), (.iastore, 0, 0), (.goto_w 0, 3, 0)]),
  (14, [(.return_, 0, 0)])]
def zB_FN_swap : List (Nat × List zEnt) := [(0, [(.aload 0, 0, 0), (.iload 1, 0, 0), (.invokestatic 0, 159, 0), (.istore 3, 0, 0), (.aload 0, 0, 0), (.iload 1, 0, 0), (.iload 2, 0, 0), (.invokestatic 0, 160, 0), (.iload 3, 0, 0), (.ireturn, 0, 0)])]
def zB_FN_has : List (Nat × List zEnt) := [(0, [(.iload 0, 0, 0), (.iload 1, 0, 0), (.ishr, 0, 0), (.iconst (1), 0, 0), (.iand, 0, 0), (.ifCond .eq 0, 2, 0), (.goto_w 0, 1, 0)]),
  (8, [(.iconst (1), 0, 0), (.goto 0, 3, 0)]),
  (12, [(.iconst (0), 0, 0), (.goto_w 0, 3, 0)]),
  (13, [(.ireturn, 0, 0)])]
def zB_FN_lowest : List (Nat × List zEnt) := [(0, [(.iload 0, 0, 0), (.iconst (1), 0, 0), (.isub, 0, 0), (.iload 0, 0, 0), (.iconst (-1), 0, 0), (.ixor, 0, 0), (.iand, 0, 0), (.invokestatic 0, 262, 0), (.ireturn, 0, 0)])]
def zB_FN_over : List (Nat × List zEnt) := [(0, [(.iload 1, 0, 0), (.iconst (1), 0, 0), (.if_icmp .ge 0, 2, 0), (.goto_w 0, 1, 0)]),
  (5, [(.iconst (0), 0, 0), (.goto 0, 3, 0)]),
  (9, [(.iload 0, 0, 0), (.iload 1, 0, 0), (.idiv, 0, 0), (.goto_w 0, 3, 0)]),
  (12, [(.ireturn, 0, 0)])]
def zB_FN_rest : List (Nat × List zEnt) := [(0, [(.iload 1, 0, 0), (.iconst (1), 0, 0), (.if_icmp .ge 0, 2, 0), (.goto_w 0, 1, 0)]),
  (5, [(.iconst (0), 0, 0), (.goto 0, 3, 0)]),
  (9, [(.iload 0, 0, 0), (.iload 1, 0, 0), (.irem, 0, 0), (.goto_w 0, 3, 0)]),
  (12, [(.ireturn, 0, 0)])]
def zB_Md_in : List (Nat × List zEnt) := [(0, [(.lload 0, 0, 0), (.lload 2, 0, 0), (.lcmp, 0, 0), (.ifCond .lt 0, 3, 0), (.goto_w 0, 1, 0)]),
  (6, [(.lload 0, 0, 0), (.lload 4, 0, 0), (.lcmp, 0, 0), (.ifCond .gt 0, 3, 0), (.goto_w 0, 2, 0)]),
  (13, [(.iconst (1), 0, 0), (.goto 0, 4, 0)]),
  (17, [(.iconst (0), 0, 0), (.goto_w 0, 4, 0)]),
  (18, [(.ireturn, 0, 0)])]
def zB_Md_init : List (Nat × List zEnt) := [(0, [(.aload 0, 0, 0), (.nop, 0, 0), (.aload 0, 0, 0), (.iconst (48), 0, 0), (.newarray .int, 0, 0), (.putfield 0, 11, 2), (.aload 0, 0, 0), (.iconst (972), 0, 0), (.newarray .int, 0, 0), (.putfield 0, 11, 3), (.aload 0, 0, 0), (.iconst (144), 0, 0), (.newarray .int, 0, 0), (.putfield 0, 11, 4), (.aload 0, 0, 0), (.iconst (12), 0, 0), (.newarray .int, 0, 0), (.putfield 0, 11, 5), (.aload 0, 0, 0), (.iconst (48), 0, 0), (.newarray .int, 0, 0), (.putfield 0, 11, 6), (.aload 0, 0, 0), (.iconst (48), 0, 0), (.newarray .int, 0, 0), (.putfield 0, 11, 7), (.aload 0, 0, 0), (.iconst (4), 0, 0), (.newarray .int, 0, 0), (.putfield 0, 11, 8), (.aload 0, 0, 0), (.iconst (24), 0, 0), (.newarray .int, 0, 0), (.putfield 0, 11, 11), (.aload 0, 0, 0), (.iconst (24), 0, 0), (.newarray .int, 0, 0), (.putfield 0, 11, 12), (.aload 0, 0, 0), (.iconst (24), 0, 0), (.newarray .int, 0, 0), (.putfield 0, 11, 13), (.aload 0, 0, 0), (.iconst (24), 0, 0), (.newarray .int, 0, 0), (.putfield 0, 11, 14), (.aload 0, 0, 0), (.iconst (24), 0, 0), (.newarray .int, 0, 0), (.putfield 0, 11, 16), (.aload 0, 0, 0), (.iconst (24), 0, 0), (.newarray .int, 0, 0), (.putfield 0, 11, 17), (.aload 0, 0, 0), (.iconst (24), 0, 0), (.newarray .int, 0, 0), (.putfield 0, 11, 18), (.aload 0, 0, 0), (.iconst (24), 0, 0), (.newarray .int, 0, 0), (.putfield 0, 11, 19), (.aload 0, 0, 0), (.iconst (24), 0, 0), (.newarray .int, 0, 0), (.putfield 0, 11, 20), (.aload 0, 0, 0), (.iconst (24), 0, 0), (.newarray .boolean, 0, 0), (.putfield 0, 11, 21), (.aload 0, 0, 0), (.iconst (100), 0, 0), (.newarray .int, 0, 0), (.putfield 0, 11, 23), (.aload 0, 0, 0), (.iconst (24), 0, 0), (.newarray .int, 0, 0), (.putfield 0, 11, 27), (.aload 0, 0, 0), (.iconst (12), 0, 0), (.newarray .int, 0, 0), (.putfield 0, 11, 28), (.aload 0, 0, 0), (.iconst (12), 0, 0), (.newarray .int, 0, 0), (.putfield 0, 11, 29), (.aload 0, 0, 0), (.iconst (12), 0, 0), (.newarray .int, 0, 0), (.putfield 0, 11, 30), (.aload 0, 0, 0), (.iconst (41), 0, 0), (.newarray .int, 0, 0), (.putfield 0, 11, 32), (.aload 0, 0, 0), (.iconst (4), 0, 0), (.newarray .int, 0, 0), (.putfield 0, 11, 33), (.aload 0, 0, 0), (.iconst (4), 0, 0), (.newarray .int, 0, 0), (.putfield 0, 11, 34), (.aload 0, 0, 0), (.iconst (324), 0, 0), (.newarray .int, 0, 0), (.putfield 0, 11, 35), (.aload 0, 0, 0), (.iconst (81), 0, 0), (.newarray .int, 0, 0), (.putfield 0, 11, 36), (.aload 0, 0, 0), (.iconst (48), 0, 0), (.newarray .int, 0, 0), (.putfield 0, 11, 37), (.aload 0, 0, 0), (.iconst (48), 0, 0), (.newarray .int, 0, 0), (.putfield 0, 11, 38), (.aload 0, 0, 0), (.iconst (48), 0, 0), (.newarray .int, 0, 0), (.putfield 0, 11, 39), (.aload 0, 0, 0), (.iconst (48), 0, 0), (.newarray .int, 0, 0), (.putfield 0, 11, 40), (.aload 0, 0, 0), (.iconst (12), 0, 0), (.newarray .int, 0, 0), (.putfield 0, 11, 42), (.aload 0, 0, 0), (.iconst (156), 0, 0), (.newarray .long, 0, 0), (.putfield 0, 11, 43), (.aload 0, 0, 0), (.iconst (48), 0, 0), (.newarray .int, 0, 0), (.putfield 0, 11, 46), (.iconst (0), 0, 0), (.istore 1, 0, 0), (.goto_w 0, 1, 0)]),
  (279, [(.iload 1, 0, 0), (.iconst (4), 0, 0), (.if_icmp .ge 0, 3, 0), (.goto_w 0, 2, 0)]),
  (284, [(.aload 0, 0, 0), (.getfield 0, 11, 33), (.iload 1, 0, 0), (.iconst (-1), 0, 0), (.iastore, 0, 0), (.iinc 1 (1), 0, 0), (.goto 0, 1, 0)]),
  (297, [(.aload 0, 0, 0), (.iconst (4), 0, 0), (.iconst (2), 0, 0), (.invokevirtual 0, 168, 0), (.return_, 0, 0)])]
def zB_Md_begins : List (Nat × List zEnt) := [(0, [(.aload 0, 0, 0), (.iload 1, 0, 0), (.putfield 0, 11, 0), (.aload 0, 0, 0), (.iload 2, 0, 0), (.putfield 0, 11, 1), (.aload 0, 0, 0), (.iconst (-1), 0, 0), (.putfield 0, 11, 9), (.iconst (0), 0, 0), (.istore 3, 0, 0), (.goto_w 0, 1, 0)]),
  (17, [(.iload 3, 0, 0), (.iconst (48), 0, 0), (.if_icmp .ge 0, 3, 0), (.goto_w 0, 2, 0)]),
  (23, [(.aload 0, 0, 0), (.getfield 0, 11, 2), (.iload 3, 0, 0), (.iconst (1), 0, 0), (.iastore, 0, 0), (.aload 0, 0, 0), (.getfield 0, 11, 6), (.iload 3, 0, 0), (.iload 3, 0, 0), (.iconst (4), 0, 0), (.idiv, 0, 0), (.iastore, 0, 0), (.aload 0, 0, 0), (.getfield 0, 11, 7), (.iload 3, 0, 0), (.iconst (0), 0, 0), (.iastore, 0, 0), (.iinc 3 (1), 0, 0), (.goto 0, 1, 0)]),
  (52, [(.iconst (0), 0, 0), (.istore 3, 0, 0), (.goto_w 0, 4, 0)]),
  (54, [(.iload 3, 0, 0), (.iconst (972), 0, 0), (.if_icmp .ge 0, 6, 0), (.goto_w 0, 5, 0)]),
  (61, [(.aload 0, 0, 0), (.getfield 0, 11, 3), (.iload 3, 0, 0), (.iload 3, 0, 0), (.iconst (81), 0, 0), (.idiv, 0, 0), (.iastore, 0, 0), (.iinc 3 (1), 0, 0), (.goto 0, 4, 0)]),
  (77, [(.iconst (0), 0, 0), (.istore 3, 0, 0), (.goto_w 0, 7, 0)]),
  (79, [(.iload 3, 0, 0), (.iconst (144), 0, 0), (.if_icmp .ge 0, 9, 0), (.goto_w 0, 8, 0)]),
  (86, [(.aload 0, 0, 0), (.getfield 0, 11, 4), (.iload 3, 0, 0), (.iconst (0), 0, 0), (.iastore, 0, 0), (.iinc 3 (1), 0, 0), (.goto 0, 7, 0)]),
  (99, [(.iconst (0), 0, 0), (.istore 3, 0, 0), (.goto_w 0, 10, 0)]),
  (101, [(.iload 3, 0, 0), (.iconst (12), 0, 0), (.if_icmp .ge 0, 12, 0), (.goto_w 0, 11, 0)]),
  (107, [(.aload 0, 0, 0), (.getfield 0, 11, 5), (.iload 3, 0, 0), (.iconst (0), 0, 0), (.iastore, 0, 0), (.iinc 3 (1), 0, 0), (.goto 0, 10, 0)]),
  (120, [(.iconst (0), 0, 0), (.istore 3, 0, 0), (.goto_w 0, 13, 0)]),
  (122, [(.iload 3, 0, 0), (.iconst (4), 0, 0), (.if_icmp .ge 0, 15, 0), (.goto_w 0, 14, 0)]),
  (127, [(.aload 0, 0, 0), (.getfield 0, 11, 8), (.iload 3, 0, 0), (.iconst (0), 0, 0), (.iastore, 0, 0), (.iinc 3 (1), 0, 0), (.goto 0, 13, 0)]),
  (140, [(.aload 0, 0, 0), (.iconst (1), 0, 0), (.putfield 0, 11, 10), (.aload 0, 0, 0), (.getfield 0, 11, 11), (.iconst (0), 0, 0), (.iconst (0), 0, 0), (.iastore, 0, 0), (.aload 0, 0, 0), (.iconst (0), 0, 0), (.putfield 0, 11, 31), (.return_, 0, 0)])]
def zB_Md_net : List (Nat × List zEnt) := [(0, [(.iload 1, 0, 0), (.i2l, 0, 0), (.sipush (2), 0, 0), (.sipush (12), 0, 0), (.invokestatic 0, 166, 0), (.ifCond .eq 0, 2, 0), (.goto_w 0, 1, 0)]),
  (14, [(.iload 2, 0, 0), (.i2l, 0, 0), (.sipush (1), 0, 0), (.sipush (4), 0, 0), (.invokestatic 0, 166, 0), (.ifCond .ne 0, 3, 0), (.goto_w 0, 2, 0)]),
  (26, [(.iconst (-1), 0, 0), (.ireturn, 0, 0)]),
  (28, [(.aload 0, 0, 0), (.iload 1, 0, 0), (.iload 2, 0, 0), (.invokevirtual 0, 168, 0), (.iconst (1), 0, 0), (.ireturn, 0, 0)])]
def zB_Md_isState : List (Nat × List zEnt) := [(0, [(.iload 1, 0, 0), (.i2l, 0, 0), (.sipush (0), 0, 0), (.aload 0, 0, 0), (.getfield 0, 11, 0), (.iconst (1), 0, 0), (.isub, 0, 0), (.i2l, 0, 0), (.invokestatic 0, 166, 0), (.ireturn, 0, 0)])]
def zB_Md_isPlayer : List (Nat × List zEnt) := [(0, [(.iload 1, 0, 0), (.i2l, 0, 0), (.sipush (0), 0, 0), (.aload 0, 0, 0), (.getfield 0, 11, 1), (.iconst (1), 0, 0), (.isub, 0, 0), (.i2l, 0, 0), (.invokestatic 0, 166, 0), (.ireturn, 0, 0)])]
def zB_Md_isSet : List (Nat × List zEnt) := [(0, [(.iload 1, 0, 0), (.i2l, 0, 0), (.sipush (0), 0, 0), (.iconst (1), 0, 0), (.aload 0, 0, 0), (.getfield 0, 11, 0), (.ishl, 0, 0), (.iconst (1), 0, 0), (.isub, 0, 0), (.i2l, 0, 0), (.invokestatic 0, 166, 0), (.ireturn, 0, 0)])]
def zB_Md_isGroup : List (Nat × List zEnt) := [(0, [(.iload 1, 0, 0), (.i2l, 0, 0), (.sipush (0), 0, 0), (.iconst (1), 0, 0), (.aload 0, 0, 0), (.getfield 0, 11, 1), (.ishl, 0, 0), (.iconst (1), 0, 0), (.isub, 0, 0), (.i2l, 0, 0), (.invokestatic 0, 166, 0), (.ireturn, 0, 0)])]
def zB_Md_moves : List (Nat × List zEnt) := [(0, [(.aload 0, 0, 0), (.iload 1, 0, 0), (.invokevirtual 0, 170, 0), (.ifCond .eq 0, 3, 0), (.goto_w 0, 1, 0)]),
  (8, [(.aload 0, 0, 0), (.iload 2, 0, 0), (.invokevirtual 0, 171, 0), (.ifCond .eq 0, 3, 0), (.goto_w 0, 2, 0)]),
  (16, [(.iload 3, 0, 0), (.i2l, 0, 0), (.sipush (1), 0, 0), (.sipush (3), 0, 0), (.invokestatic 0, 166, 0), (.ifCond .ne 0, 4, 0), (.goto_w 0, 3, 0)]),
  (28, [(.iconst (-1), 0, 0), (.ireturn, 0, 0)]),
  (30, [(.aload 0, 0, 0), (.getfield 0, 11, 2), (.iconst (4), 0, 0), (.iload 1, 0, 0), (.imul, 0, 0), (.iload 2, 0, 0), (.iadd, 0, 0), (.iaload, 0, 0), (.istore 4, 0, 0), (.aload 0, 0, 0), (.getfield 0, 11, 2), (.iconst (4), 0, 0), (.iload 1, 0, 0), (.imul, 0, 0), (.iload 2, 0, 0), (.iadd, 0, 0), (.iload 3, 0, 0), (.iastore, 0, 0), (.iconst (0), 0, 0), (.istore 5, 0, 0), (.goto_w 0, 5, 0)]),
  (56, [(.iload 5, 0, 0), (.iconst (81), 0, 0), (.if_icmp .ge 0, 7, 0), (.goto_w 0, 6, 0)]),
  (63, [(.aload 0, 0, 0), (.getfield 0, 11, 3), (.iconst (81), 0, 0), (.iload 1, 0, 0), (.imul, 0, 0), (.iload 5, 0, 0), (.iadd, 0, 0), (.iload 1, 0, 0), (.iastore, 0, 0), (.iinc 5 (1), 0, 0), (.goto 0, 5, 0)]),
  (82, [(.iconst (0), 0, 0), (.istore 5, 0, 0), (.goto_w 0, 8, 0)]),
  (85, [(.iload 5, 0, 0), (.iconst (12), 0, 0), (.if_icmp .ge 0, 10, 0), (.goto_w 0, 9, 0)]),
  (92, [(.aload 0, 0, 0), (.getfield 0, 11, 4), (.iconst (12), 0, 0), (.iload 1, 0, 0), (.imul, 0, 0), (.iload 5, 0, 0), (.iadd, 0, 0), (.iconst (0), 0, 0), (.iastore, 0, 0), (.iinc 5 (1), 0, 0), (.goto 0, 8, 0)]),
  (111, [(.iconst (0), 0, 0), (.istore 5, 0, 0), (.goto_w 0, 11, 0)]),
  (114, [(.iload 5, 0, 0), (.iconst (4), 0, 0), (.if_icmp .ge 0, 13, 0), (.goto_w 0, 12, 0)]),
  (120, [(.aload 0, 0, 0), (.getfield 0, 11, 7), (.iconst (4), 0, 0), (.iload 1, 0, 0), (.imul, 0, 0), (.iload 5, 0, 0), (.iadd, 0, 0), (.iconst (0), 0, 0), (.iastore, 0, 0), (.iinc 5 (1), 0, 0), (.goto 0, 11, 0)]),
  (138, [(.iload 4, 0, 0), (.ireturn, 0, 0)])]
def zB_Md_jointOf : List (Nat × List zEnt) := [(0, [(.iconst (1), 0, 0), (.istore 3, 0, 0), (.iconst (0), 0, 0), (.istore 4, 0, 0), (.goto_w 0, 1, 0)]),
  (5, [(.iload 4, 0, 0), (.aload 0, 0, 0), (.getfield 0, 11, 1), (.if_icmp .ge 0, 6, 0), (.goto_w 0, 2, 0)]),
  (14, [(.iload 3, 0, 0), (.iload 2, 0, 0), (.iload 4, 0, 0), (.ishr, 0, 0), (.iconst (1), 0, 0), (.iand, 0, 0), (.iconst (1), 0, 0), (.if_icmp .ne 0, 4, 0), (.goto_w 0, 3, 0)]),
  (25, [(.aload 0, 0, 0), (.getfield 0, 11, 2), (.iconst (4), 0, 0), (.iload 1, 0, 0), (.imul, 0, 0), (.iload 4, 0, 0), (.iadd, 0, 0), (.iaload, 0, 0), (.goto 0, 5, 0)]),
  (39, [(.iconst (1), 0, 0), (.goto_w 0, 5, 0)]),
  (40, [(.imul, 0, 0), (.istore 3, 0, 0), (.iinc 4 (1), 0, 0), (.goto 0, 1, 0)]),
  (48, [(.iload 3, 0, 0), (.ireturn, 0, 0)])]
def zB_Md_everybody : List (Nat × List zEnt) := [(0, [(.iconst (1), 0, 0), (.aload 0, 0, 0), (.getfield 0, 11, 1), (.ishl, 0, 0), (.iconst (1), 0, 0), (.isub, 0, 0), (.ireturn, 0, 0)])]
def zB_Md_joint : List (Nat × List zEnt) := [(0, [(.aload 0, 0, 0), (.iload 1, 0, 0), (.invokevirtual 0, 170, 0), (.ifCond .eq 0, 3, 0), (.goto_w 0, 1, 0)]),
  (8, [(.aload 0, 0, 0), (.iload 2, 0, 0), (.invokevirtual 0, 173, 0), (.ifCond .eq 0, 3, 0), (.goto_w 0, 2, 0)]),
  (16, [(.aload 0, 0, 0), (.iload 1, 0, 0), (.iload 2, 0, 0), (.invokevirtual 0, 175, 0), (.goto 0, 4, 0)]),
  (25, [(.iconst (-1), 0, 0), (.goto_w 0, 4, 0)]),
  (26, [(.ireturn, 0, 0)])]
def zB_Md_isMove : List (Nat × List zEnt) := [(0, [(.aload 0, 0, 0), (.iload 1, 0, 0), (.invokevirtual 0, 170, 0), (.ifCond .eq 0, 3, 0), (.goto_w 0, 1, 0)]),
  (8, [(.iload 2, 0, 0), (.i2l, 0, 0), (.sipush (0), 0, 0), (.aload 0, 0, 0), (.iload 1, 0, 0), (.aload 0, 0, 0), (.invokevirtual 0, 176, 0), (.invokevirtual 0, 175, 0), (.iconst (1), 0, 0), (.isub, 0, 0), (.i2l, 0, 0), (.invokestatic 0, 166, 0), (.ifCond .eq 0, 3, 0), (.goto_w 0, 2, 0)]),
  (29, [(.iconst (1), 0, 0), (.goto 0, 4, 0)]),
  (33, [(.iconst (0), 0, 0), (.goto_w 0, 4, 0)]),
  (34, [(.ireturn, 0, 0)])]
def zB_Md_step : List (Nat × List zEnt) := [(0, [(.aload 0, 0, 0), (.iload 1, 0, 0), (.iload 2, 0, 0), (.invokevirtual 0, 178, 0), (.ifCond .eq 0, 2, 0), (.goto_w 0, 1, 0)]),
  (9, [(.aload 0, 0, 0), (.iload 3, 0, 0), (.invokevirtual 0, 170, 0), (.ifCond .ne 0, 3, 0), (.goto_w 0, 2, 0)]),
  (17, [(.iconst (-1), 0, 0), (.ireturn, 0, 0)]),
  (19, [(.aload 0, 0, 0), (.getfield 0, 11, 3), (.iconst (81), 0, 0), (.iload 1, 0, 0), (.imul, 0, 0), (.iload 2, 0, 0), (.iadd, 0, 0), (.iaload, 0, 0), (.istore 4, 0, 0), (.aload 0, 0, 0), (.getfield 0, 11, 3), (.iconst (81), 0, 0), (.iload 1, 0, 0), (.imul, 0, 0), (.iload 2, 0, 0), (.iadd, 0, 0), (.iload 3, 0, 0), (.iastore, 0, 0), (.iload 4, 0, 0), (.ireturn, 0, 0)])]
def zB_Md_leads : List (Nat × List zEnt) := [(0, [(.aload 0, 0, 0), (.iload 1, 0, 0), (.iload 2, 0, 0), (.invokevirtual 0, 178, 0), (.ifCond .eq 0, 2, 0), (.goto_w 0, 1, 0)]),
  (9, [(.aload 0, 0, 0), (.getfield 0, 11, 3), (.iconst (81), 0, 0), (.iload 1, 0, 0), (.imul, 0, 0), (.iload 2, 0, 0), (.iadd, 0, 0), (.iaload, 0, 0), (.goto 0, 3, 0)]),
  (23, [(.iconst (-1), 0, 0), (.goto_w 0, 3, 0)]),
  (24, [(.ireturn, 0, 0)])]
def zB_Md_letters : List (Nat × List zEnt) := [(0, [(.aload 0, 0, 0), (.iload 1, 0, 0), (.invokevirtual 0, 170, 0), (.ifCond .eq 0, 2, 0), (.goto_w 0, 1, 0)]),
  (8, [(.iload 2, 0, 0), (.i2l, 0, 0), (.sipush (0), 0, 0), (.sipush (255), 0, 0), (.invokestatic 0, 166, 0), (.ifCond .ne 0, 3, 0), (.goto_w 0, 2, 0)]),
  (20, [(.iconst (-1), 0, 0), (.ireturn, 0, 0)]),
  (22, [(.aload 0, 0, 0), (.getfield 0, 11, 5), (.iload 1, 0, 0), (.iaload, 0, 0), (.istore 3, 0, 0), (.aload 0, 0, 0), (.getfield 0, 11, 5), (.iload 1, 0, 0), (.iload 2, 0, 0), (.iastore, 0, 0), (.iload 3, 0, 0), (.ireturn, 0, 0)])]
def zB_Md_heap : List (Nat × List zEnt) := [(0, [(.aload 0, 0, 0), (.iload 1, 0, 0), (.invokevirtual 0, 171, 0), (.ifCond .eq 0, 3, 0), (.goto_w 0, 1, 0)]),
  (8, [(.aload 0, 0, 0), (.iload 2, 0, 0), (.invokevirtual 0, 170, 0), (.ifCond .eq 0, 3, 0), (.goto_w 0, 2, 0)]),
  (16, [(.iload 3, 0, 0), (.i2l, 0, 0), (.sipush (0), 0, 0), (.sipush (11), 0, 0), (.invokestatic 0, 166, 0), (.ifCond .ne 0, 4, 0), (.goto_w 0, 3, 0)]),
  (28, [(.iconst (-1), 0, 0), (.ireturn, 0, 0)]),
  (30, [(.aload 0, 0, 0), (.getfield 0, 11, 6), (.iconst (4), 0, 0), (.iload 2, 0, 0), (.imul, 0, 0), (.iload 1, 0, 0), (.iadd, 0, 0), (.iaload, 0, 0), (.istore 4, 0, 0), (.aload 0, 0, 0), (.getfield 0, 11, 6), (.iconst (4), 0, 0), (.iload 2, 0, 0), (.imul, 0, 0), (.iload 1, 0, 0), (.iadd, 0, 0), (.iload 3, 0, 0), (.iastore, 0, 0), (.iload 4, 0, 0), (.ireturn, 0, 0)])]
def zB_Md_price : List (Nat × List zEnt) := [(0, [(.aload 0, 0, 0), (.iload 1, 0, 0), (.invokevirtual 0, 170, 0), (.ifCond .eq 0, 4, 0), (.goto_w 0, 1, 0)]),
  (8, [(.aload 0, 0, 0), (.iload 2, 0, 0), (.invokevirtual 0, 171, 0), (.ifCond .eq 0, 4, 0), (.goto_w 0, 2, 0)]),
  (16, [(.iload 3, 0, 0), (.i2l, 0, 0), (.sipush (0), 0, 0), (.aload 0, 0, 0), (.getfield 0, 11, 2), (.iconst (4), 0, 0), (.iload 1, 0, 0), (.imul, 0, 0), (.iload 2, 0, 0), (.iadd, 0, 0), (.iaload, 0, 0), (.iconst (1), 0, 0), (.isub, 0, 0), (.i2l, 0, 0), (.invokestatic 0, 166, 0), (.ifCond .eq 0, 4, 0), (.goto_w 0, 3, 0)]),
  (38, [(.iload 4, 0, 0), (.i2l, 0, 0), (.sipush (0), 0, 0), (.sipush (9), 0, 0), (.invokestatic 0, 166, 0), (.ifCond .ne 0, 5, 0), (.goto_w 0, 4, 0)]),
  (51, [(.iconst (-1), 0, 0), (.ireturn, 0, 0)]),
  (53, [(.iconst (12), 0, 0), (.iload 1, 0, 0), (.imul, 0, 0), (.iconst (3), 0, 0), (.iload 2, 0, 0), (.imul, 0, 0), (.iadd, 0, 0), (.iload 3, 0, 0), (.iadd, 0, 0), (.istore 5, 0, 0), (.aload 0, 0, 0), (.getfield 0, 11, 4), (.iload 5, 0, 0), (.iaload, 0, 0), (.istore 6, 0, 0), (.aload 0, 0, 0), (.getfield 0, 11, 4), (.iload 5, 0, 0), (.iload 4, 0, 0), (.iastore, 0, 0), (.iload 6, 0, 0), (.ireturn, 0, 0)])]
def zB_Md_leadsBy : List (Nat × List zEnt) := [(0, [(.iload 3, 0, 0), (.istore 5, 0, 0), (.iload 4, 0, 0), (.istore 6, 0, 0), (.iconst (0), 0, 0), (.istore 7, 0, 0), (.iconst (1), 0, 0), (.istore 8, 0, 0), (.aload 0, 0, 0), (.getfield 0, 11, 1), (.iconst (1), 0, 0), (.isub, 0, 0), (.istore 9, 0, 0), (.goto_w 0, 1, 0)]),
  (21, [(.iload 9, 0, 0), (.ifCond .lt 0, 15, 0), (.goto_w 0, 2, 0)]),
  (26, [(.aload 0, 0, 0), (.getfield 0, 11, 2), (.iconst (4), 0, 0), (.iload 1, 0, 0), (.imul, 0, 0), (.iload 9, 0, 0), (.iadd, 0, 0), (.iaload, 0, 0), (.istore 10, 0, 0), (.iload 2, 0, 0), (.iload 9, 0, 0), (.ishr, 0, 0), (.iconst (1), 0, 0), (.iand, 0, 0), (.iconst (1), 0, 0), (.if_icmp .ne 0, 4, 0), (.goto_w 0, 3, 0)]),
  (49, [(.iconst (1), 0, 0), (.goto 0, 5, 0)]),
  (53, [(.iconst (0), 0, 0), (.goto_w 0, 5, 0)]),
  (54, [(.istore 11, 0, 0), (.iload 7, 0, 0), (.iload 8, 0, 0), (.iload 11, 0, 0), (.ifCond .eq 0, 7, 0), (.goto_w 0, 6, 0)]),
  (65, [(.iload 5, 0, 0), (.goto 0, 8, 0)]),
  (70, [(.iload 6, 0, 0), (.goto_w 0, 8, 0)]),
  (72, [(.iload 10, 0, 0), (.irem, 0, 0), (.imul, 0, 0), (.iadd, 0, 0), (.istore 7, 0, 0), (.iload 11, 0, 0), (.ifCond .eq 0, 10, 0), (.goto_w 0, 9, 0)]),
  (84, [(.iload 5, 0, 0), (.iload 10, 0, 0), (.idiv, 0, 0), (.goto 0, 11, 0)]),
  (92, [(.iload 5, 0, 0), (.goto_w 0, 11, 0)]),
  (94, [(.istore 5, 0, 0), (.iload 11, 0, 0), (.ifCond .eq 0, 13, 0), (.goto_w 0, 12, 0)]),
  (101, [(.iload 6, 0, 0), (.goto 0, 14, 0)]),
  (106, [(.iload 6, 0, 0), (.iload 10, 0, 0), (.idiv, 0, 0), (.goto_w 0, 14, 0)]),
  (111, [(.istore 6, 0, 0), (.iload 8, 0, 0), (.iload 10, 0, 0), (.imul, 0, 0), (.istore 8, 0, 0), (.iinc 9 (-1), 0, 0), (.goto 0, 1, 0)]),
  (126, [(.aload 0, 0, 0), (.getfield 0, 11, 3), (.iconst (81), 0, 0), (.iload 1, 0, 0), (.imul, 0, 0), (.iload 7, 0, 0), (.iadd, 0, 0), (.iaload, 0, 0), (.ireturn, 0, 0)])]
def zB_Md_others : List (Nat × List zEnt) := [(0, [(.aload 0, 0, 0), (.invokevirtual 0, 176, 0), (.iload 1, 0, 0), (.iconst (-1), 0, 0), (.ixor, 0, 0), (.iand, 0, 0), (.ireturn, 0, 0)])]
def zB_Md_forces : List (Nat × List zEnt) := [(0, [(.aload 0, 0, 0), (.iload 1, 0, 0), (.iload 2, 0, 0), (.invokevirtual 0, 175, 0), (.istore 4, 0, 0), (.aload 0, 0, 0), (.iload 1, 0, 0), (.aload 0, 0, 0), (.iload 2, 0, 0), (.invokevirtual 0, 185, 0), (.invokevirtual 0, 175, 0), (.istore 5, 0, 0), (.iconst (0), 0, 0), (.istore 6, 0, 0), (.goto_w 0, 1, 0)]),
  (23, [(.iload 6, 0, 0), (.iload 4, 0, 0), (.if_icmp .ge 0, 12, 0), (.goto_w 0, 2, 0)]),
  (30, [(.iconst (1), 0, 0), (.istore 7, 0, 0), (.iconst (0), 0, 0), (.istore 8, 0, 0), (.goto_w 0, 3, 0)]),
  (36, [(.iload 8, 0, 0), (.iload 5, 0, 0), (.if_icmp .ge 0, 9, 0), (.goto_w 0, 4, 0)]),
  (43, [(.iload 7, 0, 0), (.ifCond .eq 0, 9, 0), (.goto_w 0, 5, 0)]),
  (48, [(.iload 3, 0, 0), (.aload 0, 0, 0), (.iload 1, 0, 0), (.iload 2, 0, 0), (.iload 6, 0, 0), (.iload 8, 0, 0), (.invokevirtual 0, 184, 0), (.ishr, 0, 0), (.iconst (1), 0, 0), (.iand, 0, 0), (.iconst (1), 0, 0), (.if_icmp .ne 0, 7, 0), (.goto_w 0, 6, 0)]),
  (66, [(.iconst (1), 0, 0), (.goto 0, 8, 0)]),
  (70, [(.iconst (0), 0, 0), (.goto_w 0, 8, 0)]),
  (71, [(.istore 7, 0, 0), (.iinc 8 (1), 0, 0), (.goto 0, 3, 0)]),
  (79, [(.iload 7, 0, 0), (.ifCond .eq 0, 11, 0), (.goto_w 0, 10, 0)]),
  (84, [(.iload 6, 0, 0), (.ireturn, 0, 0)]),
  (87, [(.iinc 6 (1), 0, 0), (.goto 0, 1, 0)]),
  (93, [(.iconst (-4), 0, 0), (.ireturn, 0, 0)])]
def zB_Md_force : List (Nat × List zEnt) := [(0, [(.aload 0, 0, 0), (.iload 1, 0, 0), (.invokevirtual 0, 170, 0), (.ifCond .eq 0, 6, 0), (.goto_w 0, 1, 0)]),
  (8, [(.aload 0, 0, 0), (.iload 2, 0, 0), (.invokevirtual 0, 173, 0), (.ifCond .eq 0, 6, 0), (.goto_w 0, 2, 0)]),
  (16, [(.aload 0, 0, 0), (.iload 3, 0, 0), (.invokevirtual 0, 172, 0), (.ifCond .eq 0, 6, 0), (.goto_w 0, 3, 0)]),
  (24, [(.aload 0, 0, 0), (.iload 1, 0, 0), (.iload 2, 0, 0), (.iload 3, 0, 0), (.invokevirtual 0, 186, 0), (.ifCond .lt 0, 5, 0), (.goto_w 0, 4, 0)]),
  (34, [(.iconst (1), 0, 0), (.goto 0, 7, 0)]),
  (38, [(.iconst (0), 0, 0), (.goto 0, 7, 0)]),
  (42, [(.iconst (-1), 0, 0), (.goto_w 0, 7, 0)]),
  (43, [(.ireturn, 0, 0)])]
def zB_Md_type : List (Nat × List zEnt) := [(0, [(.iload 3, 0, 0), (.i2l, 0, 0), (.sipush (1), 0, 0), (.sipush (8), 0, 0), (.invokestatic 0, 166, 0), (.ifCond .ne 0, 2, 0), (.goto_w 0, 1, 0)]),
  (12, [(.iconst (-1), 0, 0), (.ireturn, 0, 0)]),
  (14, [(.iconst (0), 0, 0), (.istore 4, 0, 0), (.goto_w 0, 3, 0)]),
  (17, [(.iload 4, 0, 0), (.iload 3, 0, 0), (.if_icmp .ge 0, 7, 0), (.goto_w 0, 4, 0)]),
  (23, [(.lload 1, 0, 0), (.iconst (8), 0, 0), (.iload 4, 0, 0), (.imul, 0, 0), (.lshr, 0, 0), (.sipush (255), 0, 0), (.land, 0, 0), (.sipush (32), 0, 0), (.sipush (126), 0, 0), (.invokestatic 0, 166, 0), (.ifCond .ne 0, 6, 0), (.goto_w 0, 5, 0)]),
  (46, [(.iconst (-1), 0, 0), (.ireturn, 0, 0)]),
  (48, [(.iinc 4 (1), 0, 0), (.goto 0, 3, 0)]),
  (54, [(.aload 0, 0, 0), (.getfield 0, 11, 24), (.iload 3, 0, 0), (.iadd, 0, 0), (.iconst (100), 0, 0), (.if_icmp .le 0, 9, 0), (.goto_w 0, 8, 0)]),
  (65, [(.iconst (-3), 0, 0), (.ireturn, 0, 0)]),
  (68, [(.iload 3, 0, 0), (.iconst (1), 0, 0), (.isub, 0, 0), (.istore 4, 0, 0), (.goto_w 0, 10, 0)]),
  (73, [(.iload 4, 0, 0), (.ifCond .lt 0, 12, 0), (.goto_w 0, 11, 0)]),
  (78, [(.aload 0, 0, 0), (.getfield 0, 11, 23), (.aload 0, 0, 0), (.getfield 0, 11, 24), (.lload 1, 0, 0), (.iconst (8), 0, 0), (.iload 4, 0, 0), (.imul, 0, 0), (.lshr, 0, 0), (.sipush (255), 0, 0), (.land, 0, 0), (.l2i, 0, 0), (.iastore, 0, 0), (.aload 0, 0, 0), (.dup, 0, 0), (.getfield 0, 11, 24), (.iconst (1), 0, 0), (.iadd, 0, 0), (.putfield 0, 11, 24), (.iinc 4 (-1), 0, 0), (.goto 0, 10, 0)]),
  (115, [(.aload 0, 0, 0), (.getfield 0, 11, 24), (.ireturn, 0, 0)])]
def zB_Md_next : List (Nat × List zEnt) := [(0, [(.aload 0, 0, 0), (.getfield 0, 11, 25), (.aload 0, 0, 0), (.getfield 0, 11, 24), (.if_icmp .ge 0, 3, 0), (.goto_w 0, 1, 0)]),
  (11, [(.aload 0, 0, 0), (.getfield 0, 11, 23), (.aload 0, 0, 0), (.getfield 0, 11, 25), (.iaload, 0, 0), (.iconst (32), 0, 0), (.if_icmp .ne 0, 3, 0), (.goto_w 0, 2, 0)]),
  (25, [(.aload 0, 0, 0), (.dup, 0, 0), (.getfield 0, 11, 25), (.iconst (1), 0, 0), (.iadd, 0, 0), (.putfield 0, 11, 25), (.goto 0, 0, 0)]),
  (38, [(.aload 0, 0, 0), (.getfield 0, 11, 25), (.aload 0, 0, 0), (.getfield 0, 11, 24), (.if_icmp .ge 0, 5, 0), (.goto_w 0, 4, 0)]),
  (49, [(.aload 0, 0, 0), (.getfield 0, 11, 23), (.aload 0, 0, 0), (.getfield 0, 11, 25), (.iaload, 0, 0), (.goto 0, 6, 0)]),
  (61, [(.iconst (0), 0, 0), (.goto_w 0, 6, 0)]),
  (62, [(.ireturn, 0, 0)])]
def zB_Md_needs : List (Nat × List zEnt) := [(0, [(.aload 0, 0, 0), (.aload 0, 0, 0), (.getfield 0, 11, 26), (.ifCond .ne 0, 2, 0), (.goto_w 0, 1, 0)]),
  (8, [(.aload 0, 0, 0), (.invokevirtual 0, 189, 0), (.iload 1, 0, 0), (.if_icmp .eq 0, 3, 0), (.goto_w 0, 2, 0)]),
  (16, [(.iconst (1), 0, 0), (.goto 0, 4, 0)]),
  (20, [(.iconst (0), 0, 0), (.goto_w 0, 4, 0)]),
  (21, [(.putfield 0, 11, 26), (.aload 0, 0, 0), (.dup, 0, 0), (.getfield 0, 11, 25), (.aload 0, 0, 0), (.getfield 0, 11, 26), (.ifCond .eq 0, 6, 0), (.goto_w 0, 5, 0)]),
  (36, [(.iconst (0), 0, 0), (.goto 0, 7, 0)]),
  (40, [(.iconst (1), 0, 0), (.goto_w 0, 7, 0)]),
  (41, [(.iadd, 0, 0), (.putfield 0, 11, 25), (.return_, 0, 0)])]
def zB_Md_opens : List (Nat × List zEnt) := [(0, [(.aload 0, 0, 0), (.getfield 0, 11, 16), (.iload 1, 0, 0), (.iload 2, 0, 0), (.iastore, 0, 0), (.aload 0, 0, 0), (.getfield 0, 11, 20), (.aload 0, 0, 0), (.getfield 0, 11, 22), (.iload 1, 0, 0), (.iastore, 0, 0), (.aload 0, 0, 0), (.getfield 0, 11, 21), (.aload 0, 0, 0), (.getfield 0, 11, 22), (.iconst (0), 0, 0), (.bastore, 0, 0), (.aload 0, 0, 0), (.dup, 0, 0), (.getfield 0, 11, 22), (.iconst (1), 0, 0), (.iadd, 0, 0), (.putfield 0, 11, 22), (.return_, 0, 0)])]
def zB_Md_group : List (Nat × List zEnt) := [(0, [(.iconst (0), 0, 0), (.istore 2, 0, 0), (.aload 0, 0, 0), (.iconst (60), 0, 0), (.invokevirtual 0, 190, 0), (.goto_w 0, 1, 0)]),
  (8, [(.aload 0, 0, 0), (.invokevirtual 0, 189, 0), (.i2l, 0, 0), (.sipush (48), 0, 0), (.iconst (47), 0, 0), (.aload 0, 0, 0), (.getfield 0, 11, 1), (.iadd, 0, 0), (.i2l, 0, 0), (.invokestatic 0, 166, 0), (.ifCond .eq 0, 4, 0), (.goto_w 0, 2, 0)]),
  (30, [(.iload 2, 0, 0), (.aload 0, 0, 0), (.invokevirtual 0, 189, 0), (.iconst (48), 0, 0), (.isub, 0, 0), (.ishr, 0, 0), (.ifCond .ne 0, 4, 0), (.goto_w 0, 3, 0)]),
  (42, [(.iload 2, 0, 0), (.iconst (1), 0, 0), (.aload 0, 0, 0), (.invokevirtual 0, 189, 0), (.iconst (48), 0, 0), (.isub, 0, 0), (.ishl, 0, 0), (.ior, 0, 0), (.istore 2, 0, 0), (.aload 0, 0, 0), (.dup, 0, 0), (.getfield 0, 11, 25), (.iconst (1), 0, 0), (.iadd, 0, 0), (.putfield 0, 11, 25), (.goto 0, 1, 0)]),
  (67, [(.aload 0, 0, 0), (.iconst (62), 0, 0), (.invokevirtual 0, 190, 0), (.aload 0, 0, 0), (.getfield 0, 11, 26), (.ifCond .eq 0, 6, 0), (.goto_w 0, 5, 0)]),
  (80, [(.iconst (0), 0, 0), (.goto 0, 7, 0)]),
  (84, [(.aload 0, 0, 0), (.invokevirtual 0, 189, 0), (.goto_w 0, 7, 0)]),
  (88, [(.istore 3, 0, 0), (.iload 3, 0, 0), (.iconst (88), 0, 0), (.if_icmp .ne 0, 9, 0), (.goto_w 0, 8, 0)]),
  (95, [(.iconst (5), 0, 0), (.goto 0, 18, 0)]),
  (99, [(.iload 3, 0, 0), (.iconst (71), 0, 0), (.if_icmp .ne 0, 11, 0), (.goto_w 0, 10, 0)]),
  (105, [(.iconst (6), 0, 0), (.goto 0, 18, 0)]),
  (110, [(.iload 3, 0, 0), (.iconst (70), 0, 0), (.if_icmp .ne 0, 13, 0), (.goto_w 0, 12, 0)]),
  (116, [(.iconst (7), 0, 0), (.goto 0, 18, 0)]),
  (121, [(.iload 3, 0, 0), (.iconst (73), 0, 0), (.if_icmp .ne 0, 15, 0), (.goto_w 0, 14, 0)]),
  (127, [(.iconst (8), 0, 0), (.goto 0, 18, 0)]),
  (132, [(.iload 3, 0, 0), (.iconst (40), 0, 0), (.if_icmp .ne 0, 17, 0), (.goto_w 0, 16, 0)]),
  (138, [(.iconst (9), 0, 0), (.goto 0, 18, 0)]),
  (143, [(.iconst (10), 0, 0), (.goto_w 0, 18, 0)]),
  (145, [(.istore 4, 0, 0), (.aload 0, 0, 0), (.aload 0, 0, 0), (.getfield 0, 11, 26), (.ifCond .ne 0, 20, 0), (.goto_w 0, 19, 0)]),
  (155, [(.iload 4, 0, 0), (.iconst (10), 0, 0), (.if_icmp .ne 0, 21, 0), (.goto_w 0, 20, 0)]),
  (162, [(.iconst (1), 0, 0), (.goto 0, 22, 0)]),
  (166, [(.iconst (0), 0, 0), (.goto_w 0, 22, 0)]),
  (167, [(.putfield 0, 11, 26), (.aload 0, 0, 0), (.dup, 0, 0), (.getfield 0, 11, 25), (.aload 0, 0, 0), (.getfield 0, 11, 26), (.ifCond .eq 0, 24, 0), (.goto_w 0, 23, 0)]),
  (182, [(.iconst (0), 0, 0), (.goto 0, 25, 0)]),
  (186, [(.iconst (1), 0, 0), (.goto_w 0, 25, 0)]),
  (187, [(.iadd, 0, 0), (.putfield 0, 11, 25), (.aload 0, 0, 0), (.getfield 0, 11, 19), (.iload 1, 0, 0), (.iload 2, 0, 0), (.iastore, 0, 0), (.aload 0, 0, 0), (.iload 1, 0, 0), (.iload 4, 0, 0), (.invokevirtual 0, 191, 0), (.return_, 0, 0)])]
def zB_Md_isWhole : List (Nat × List zEnt) := [(0, [(.aload 0, 0, 0), (.invokevirtual 0, 189, 0), (.istore 1, 0, 0), (.iload 1, 0, 0), (.iconst (84), 0, 0), (.if_icmp .eq 0, 5, 0), (.goto_w 0, 1, 0)]),
  (11, [(.iload 1, 0, 0), (.i2l, 0, 0), (.sipush (97), 0, 0), (.sipush (104), 0, 0), (.invokestatic 0, 166, 0), (.ifCond .ne 0, 5, 0), (.goto_w 0, 2, 0)]),
  (25, [(.iload 1, 0, 0), (.iconst (33), 0, 0), (.if_icmp .eq 0, 5, 0), (.goto_w 0, 3, 0)]),
  (31, [(.iload 1, 0, 0), (.iconst (40), 0, 0), (.if_icmp .eq 0, 5, 0), (.goto_w 0, 4, 0)]),
  (37, [(.iload 1, 0, 0), (.iconst (60), 0, 0), (.if_icmp .ne 0, 6, 0), (.goto_w 0, 5, 0)]),
  (43, [(.iconst (1), 0, 0), (.goto 0, 7, 0)]),
  (47, [(.iconst (0), 0, 0), (.goto_w 0, 7, 0)]),
  (48, [(.istore 2, 0, 0), (.aload 0, 0, 0), (.aload 0, 0, 0), (.getfield 0, 11, 26), (.ifCond .ne 0, 10, 0), (.goto_w 0, 8, 0)]),
  (57, [(.iload 2, 0, 0), (.ifCond .eq 0, 10, 0), (.goto_w 0, 9, 0)]),
  (61, [(.aload 0, 0, 0), (.getfield 0, 11, 15), (.iconst (24), 0, 0), (.if_icmp .ne 0, 11, 0), (.goto_w 0, 10, 0)]),
  (70, [(.iconst (1), 0, 0), (.goto 0, 12, 0)]),
  (74, [(.iconst (0), 0, 0), (.goto_w 0, 12, 0)]),
  (75, [(.putfield 0, 11, 26), (.aload 0, 0, 0), (.getfield 0, 11, 26), (.ifCond .eq 0, 14, 0), (.goto_w 0, 13, 0)]),
  (85, [(.iconst (1), 0, 0), (.ireturn, 0, 0)]),
  (87, [(.aload 0, 0, 0), (.getfield 0, 11, 15), (.istore 3, 0, 0), (.aload 0, 0, 0), (.dup, 0, 0), (.getfield 0, 11, 15), (.iconst (1), 0, 0), (.iadd, 0, 0), (.putfield 0, 11, 15), (.iload 1, 0, 0), (.iconst (60), 0, 0), (.if_icmp .ne 0, 16, 0), (.goto_w 0, 15, 0)]),
  (108, [(.aload 0, 0, 0), (.iload 3, 0, 0), (.invokevirtual 0, 192, 0), (.iconst (0), 0, 0), (.ireturn, 0, 0)]),
  (115, [(.aload 0, 0, 0), (.dup, 0, 0), (.getfield 0, 11, 25), (.iconst (1), 0, 0), (.iadd, 0, 0), (.putfield 0, 11, 25), (.iload 1, 0, 0), (.iconst (33), 0, 0), (.if_icmp .eq 0, 18, 0), (.goto_w 0, 17, 0)]),
  (131, [(.iload 1, 0, 0), (.iconst (40), 0, 0), (.if_icmp .ne 0, 22, 0), (.goto_w 0, 18, 0)]),
  (137, [(.aload 0, 0, 0), (.iload 3, 0, 0), (.iload 1, 0, 0), (.iconst (33), 0, 0), (.if_icmp .ne 0, 20, 0), (.goto_w 0, 19, 0)]),
  (145, [(.iconst (2), 0, 0), (.goto 0, 21, 0)]),
  (149, [(.iconst (10), 0, 0), (.goto_w 0, 21, 0)]),
  (151, [(.invokevirtual 0, 191, 0), (.iconst (0), 0, 0), (.ireturn, 0, 0)]),
  (156, [(.aload 0, 0, 0), (.getfield 0, 11, 16), (.iload 3, 0, 0), (.iload 1, 0, 0), (.iconst (84), 0, 0), (.if_icmp .ne 0, 24, 0), (.goto_w 0, 23, 0)]),
  (167, [(.iconst (0), 0, 0), (.goto 0, 25, 0)]),
  (171, [(.iconst (1), 0, 0), (.goto_w 0, 25, 0)]),
  (172, [(.iastore, 0, 0), (.aload 0, 0, 0), (.getfield 0, 11, 17), (.iload 3, 0, 0), (.iload 1, 0, 0), (.iconst (84), 0, 0), (.if_icmp .ne 0, 27, 0), (.goto_w 0, 26, 0)]),
  (184, [(.iconst (0), 0, 0), (.goto 0, 28, 0)]),
  (188, [(.iload 1, 0, 0), (.iconst (97), 0, 0), (.isub, 0, 0), (.goto_w 0, 28, 0)]),
  (192, [(.iastore, 0, 0), (.iconst (1), 0, 0), (.ireturn, 0, 0)])]
def zB_Md_closes : List (Nat × List zEnt) := [(0, [(.iload 1, 0, 0), (.istore 2, 0, 0), (.goto_w 0, 1, 0)]),
  (2, [(.aload 0, 0, 0), (.getfield 0, 11, 22), (.ifCond .le 0, 30, 0), (.goto_w 0, 2, 0)]),
  (9, [(.iload 2, 0, 0), (.ifCond .lt 0, 30, 0), (.goto_w 0, 3, 0)]),
  (13, [(.aload 0, 0, 0), (.getfield 0, 11, 26), (.ifCond .ne 0, 30, 0), (.goto_w 0, 4, 0)]),
  (20, [(.aload 0, 0, 0), (.getfield 0, 11, 20), (.aload 0, 0, 0), (.getfield 0, 11, 22), (.iconst (1), 0, 0), (.isub, 0, 0), (.iaload, 0, 0), (.istore 3, 0, 0), (.aload 0, 0, 0), (.getfield 0, 11, 16), (.iload 3, 0, 0), (.iaload, 0, 0), (.istore 4, 0, 0), (.iload 4, 0, 0), (.iconst (10), 0, 0), (.if_icmp .eq 0, 8, 0), (.goto_w 0, 5, 0)]),
  (47, [(.iload 4, 0, 0), (.iconst (3), 0, 0), (.if_icmp .eq 0, 8, 0), (.goto_w 0, 6, 0)]),
  (53, [(.iload 4, 0, 0), (.iconst (4), 0, 0), (.if_icmp .eq 0, 8, 0), (.goto_w 0, 7, 0)]),
  (59, [(.iload 4, 0, 0), (.iconst (9), 0, 0), (.if_icmp .ne 0, 9, 0), (.goto_w 0, 8, 0)]),
  (66, [(.iconst (1), 0, 0), (.goto 0, 10, 0)]),
  (70, [(.iconst (0), 0, 0), (.goto_w 0, 10, 0)]),
  (71, [(.istore 5, 0, 0), (.iload 5, 0, 0), (.ifCond .ne 0, 12, 0), (.goto_w 0, 11, 0)]),
  (78, [(.aload 0, 0, 0), (.getfield 0, 11, 17), (.iload 3, 0, 0), (.iload 2, 0, 0), (.iastore, 0, 0), (.aload 0, 0, 0), (.dup, 0, 0), (.getfield 0, 11, 22), (.iconst (1), 0, 0), (.isub, 0, 0), (.putfield 0, 11, 22), (.iload 3, 0, 0), (.istore 2, 0, 0), (.goto 0, 29, 0)]),
  (100, [(.aload 0, 0, 0), (.getfield 0, 11, 21), (.aload 0, 0, 0), (.getfield 0, 11, 22), (.iconst (1), 0, 0), (.isub, 0, 0), (.baload, 0, 0), (.ifCond .eq 0, 14, 0), (.goto_w 0, 13, 0)]),
  (114, [(.aload 0, 0, 0), (.getfield 0, 11, 18), (.iload 3, 0, 0), (.iload 2, 0, 0), (.iastore, 0, 0), (.aload 0, 0, 0), (.iconst (41), 0, 0), (.invokevirtual 0, 190, 0), (.aload 0, 0, 0), (.dup, 0, 0), (.getfield 0, 11, 22), (.iconst (1), 0, 0), (.isub, 0, 0), (.putfield 0, 11, 22), (.iload 3, 0, 0), (.istore 2, 0, 0), (.goto 0, 29, 0)]),
  (142, [(.aload 0, 0, 0), (.getfield 0, 11, 17), (.iload 3, 0, 0), (.iload 2, 0, 0), (.iastore, 0, 0), (.aload 0, 0, 0), (.getfield 0, 11, 21), (.aload 0, 0, 0), (.getfield 0, 11, 22), (.iconst (1), 0, 0), (.isub, 0, 0), (.iconst (1), 0, 0), (.bastore, 0, 0), (.iload 4, 0, 0), (.iconst (10), 0, 0), (.if_icmp .ne 0, 27, 0), (.goto_w 0, 15, 0)]),
  (168, [(.aload 0, 0, 0), (.invokevirtual 0, 189, 0), (.istore 6, 0, 0), (.aload 0, 0, 0), (.getfield 0, 11, 16), (.iload 3, 0, 0), (.iload 6, 0, 0), (.iconst (38), 0, 0), (.if_icmp .ne 0, 17, 0), (.goto_w 0, 16, 0)]),
  (186, [(.iconst (3), 0, 0), (.goto 0, 18, 0)]),
  (190, [(.iconst (4), 0, 0), (.goto_w 0, 18, 0)]),
  (191, [(.iastore, 0, 0), (.aload 0, 0, 0), (.aload 0, 0, 0), (.getfield 0, 11, 26), (.ifCond .ne 0, 21, 0), (.goto_w 0, 19, 0)]),
  (200, [(.iload 6, 0, 0), (.iconst (38), 0, 0), (.if_icmp .eq 0, 22, 0), (.goto_w 0, 20, 0)]),
  (207, [(.iload 6, 0, 0), (.iconst (124), 0, 0), (.if_icmp .eq 0, 22, 0), (.goto_w 0, 21, 0)]),
  (214, [(.iconst (1), 0, 0), (.goto 0, 23, 0)]),
  (218, [(.iconst (0), 0, 0), (.goto_w 0, 23, 0)]),
  (219, [(.putfield 0, 11, 26), (.aload 0, 0, 0), (.dup, 0, 0), (.getfield 0, 11, 25), (.aload 0, 0, 0), (.getfield 0, 11, 26), (.ifCond .eq 0, 25, 0), (.goto_w 0, 24, 0)]),
  (234, [(.iconst (0), 0, 0), (.goto 0, 26, 0)]),
  (238, [(.iconst (1), 0, 0), (.goto_w 0, 26, 0)]),
  (239, [(.iadd, 0, 0), (.putfield 0, 11, 25), (.goto 0, 28, 0)]),
  (246, [(.aload 0, 0, 0), (.iconst (85), 0, 0), (.invokevirtual 0, 190, 0), (.goto_w 0, 28, 0)]),
  (252, [(.iconst (-1), 0, 0), (.istore 2, 0, 0), (.goto_w 0, 29, 0)]),
  (254, [(.goto 0, 1, 0)]),
  (257, [(.return_, 0, 0)])]
def zB_Md_form : List (Nat × List zEnt) := [(0, [(.aload 0, 0, 0), (.iconst (0), 0, 0), (.putfield 0, 11, 25), (.aload 0, 0, 0), (.iconst (0), 0, 0), (.putfield 0, 11, 26), (.aload 0, 0, 0), (.iconst (0), 0, 0), (.putfield 0, 11, 15), (.aload 0, 0, 0), (.iconst (0), 0, 0), (.putfield 0, 11, 22), (.iconst (1), 0, 0), (.istore 1, 0, 0), (.goto_w 0, 1, 0)]),
  (22, [(.iload 1, 0, 0), (.ifCond .eq 0, 10, 0), (.goto_w 0, 2, 0)]),
  (26, [(.aload 0, 0, 0), (.getfield 0, 11, 26), (.ifCond .ne 0, 10, 0), (.goto_w 0, 3, 0)]),
  (33, [(.aload 0, 0, 0), (.getfield 0, 11, 15), (.istore 2, 0, 0), (.aload 0, 0, 0), (.invokevirtual 0, 193, 0), (.ifCond .eq 0, 9, 0), (.goto_w 0, 4, 0)]),
  (45, [(.aload 0, 0, 0), (.getfield 0, 11, 26), (.ifCond .ne 0, 9, 0), (.goto_w 0, 5, 0)]),
  (52, [(.aload 0, 0, 0), (.iload 2, 0, 0), (.invokevirtual 0, 194, 0), (.aload 0, 0, 0), (.getfield 0, 11, 22), (.ifCond .le 0, 7, 0), (.goto_w 0, 6, 0)]),
  (64, [(.iconst (1), 0, 0), (.goto 0, 8, 0)]),
  (68, [(.iconst (0), 0, 0), (.goto_w 0, 8, 0)]),
  (69, [(.istore 1, 0, 0), (.goto_w 0, 9, 0)]),
  (70, [(.goto 0, 1, 0)]),
  (73, [(.aload 0, 0, 0), (.aload 0, 0, 0), (.getfield 0, 11, 26), (.ifCond .ne 0, 12, 0), (.goto_w 0, 11, 0)]),
  (81, [(.aload 0, 0, 0), (.invokevirtual 0, 189, 0), (.ifCond .eq 0, 13, 0), (.goto_w 0, 12, 0)]),
  (88, [(.iconst (1), 0, 0), (.goto 0, 14, 0)]),
  (92, [(.iconst (0), 0, 0), (.goto_w 0, 14, 0)]),
  (93, [(.putfield 0, 11, 26), (.aload 0, 0, 0), (.iconst (0), 0, 0), (.putfield 0, 11, 24), (.aload 0, 0, 0), (.getfield 0, 11, 26), (.ifCond .eq 0, 16, 0), (.goto_w 0, 15, 0)]),
  (108, [(.iconst (-20), 0, 0), (.aload 0, 0, 0), (.getfield 0, 11, 25), (.isub, 0, 0), (.ireturn, 0, 0)]),
  (116, [(.aload 0, 0, 0), (.aload 0, 0, 0), (.getfield 0, 11, 15), (.putfield 0, 11, 10), (.iconst (0), 0, 0), (.istore 2, 0, 0), (.goto_w 0, 17, 0)]),
  (126, [(.iload 2, 0, 0), (.aload 0, 0, 0), (.getfield 0, 11, 10), (.if_icmp .ge 0, 19, 0), (.goto_w 0, 18, 0)]),
  (134, [(.aload 0, 0, 0), (.getfield 0, 11, 11), (.iload 2, 0, 0), (.aload 0, 0, 0), (.getfield 0, 11, 16), (.iload 2, 0, 0), (.iaload, 0, 0), (.iastore, 0, 0), (.aload 0, 0, 0), (.getfield 0, 11, 12), (.iload 2, 0, 0), (.aload 0, 0, 0), (.getfield 0, 11, 17), (.iload 2, 0, 0), (.iaload, 0, 0), (.iastore, 0, 0), (.aload 0, 0, 0), (.getfield 0, 11, 13), (.iload 2, 0, 0), (.aload 0, 0, 0), (.getfield 0, 11, 18), (.iload 2, 0, 0), (.iaload, 0, 0), (.iastore, 0, 0), (.aload 0, 0, 0), (.getfield 0, 11, 14), (.iload 2, 0, 0), (.aload 0, 0, 0), (.getfield 0, 11, 19), (.iload 2, 0, 0), (.iaload, 0, 0), (.iastore, 0, 0), (.iinc 2 (1), 0, 0), (.goto 0, 17, 0)]),
  (188, [(.aload 0, 0, 0), (.getfield 0, 11, 10), (.ireturn, 0, 0)])]
def zB_Md_whole : List (Nat × List zEnt) := [(0, [(.iconst (1), 0, 0), (.aload 0, 0, 0), (.getfield 0, 11, 0), (.ishl, 0, 0), (.iconst (1), 0, 0), (.isub, 0, 0), (.ireturn, 0, 0)])]
def zB_Md_forcing : List (Nat × List zEnt) := [(0, [(.iconst (0), 0, 0), (.istore 3, 0, 0), (.iconst (0), 0, 0), (.istore 4, 0, 0), (.goto_w 0, 1, 0)]),
  (5, [(.iload 4, 0, 0), (.aload 0, 0, 0), (.getfield 0, 11, 0), (.if_icmp .ge 0, 6, 0), (.goto_w 0, 2, 0)]),
  (14, [(.iload 3, 0, 0), (.aload 0, 0, 0), (.iload 4, 0, 0), (.iload 1, 0, 0), (.iload 2, 0, 0), (.invokevirtual 0, 186, 0), (.ifCond .lt 0, 4, 0), (.goto_w 0, 3, 0)]),
  (26, [(.iconst (1), 0, 0), (.iload 4, 0, 0), (.ishl, 0, 0), (.goto 0, 5, 0)]),
  (33, [(.iconst (0), 0, 0), (.goto_w 0, 5, 0)]),
  (34, [(.ior, 0, 0), (.istore 3, 0, 0), (.iinc 4 (1), 0, 0), (.goto 0, 1, 0)]),
  (42, [(.iload 3, 0, 0), (.ireturn, 0, 0)])]
def zB_Md_until : List (Nat × List zEnt) := [(0, [(.iload 3, 0, 0), (.istore 4, 0, 0), (.iconst (0), 0, 0), (.istore 5, 0, 0), (.goto_w 0, 1, 0)]),
  (6, [(.iload 5, 0, 0), (.aload 0, 0, 0), (.getfield 0, 11, 0), (.if_icmp .ge 0, 6, 0), (.goto_w 0, 2, 0)]),
  (15, [(.aload 0, 0, 0), (.getfield 0, 11, 28), (.iload 5, 0, 0), (.iload 3, 0, 0), (.iload 5, 0, 0), (.ishr, 0, 0), (.iconst (1), 0, 0), (.iand, 0, 0), (.iconst (1), 0, 0), (.if_icmp .ne 0, 4, 0), (.goto_w 0, 3, 0)]),
  (31, [(.iconst (0), 0, 0), (.goto 0, 5, 0)]),
  (35, [(.iconst (-4), 0, 0), (.goto_w 0, 5, 0)]),
  (37, [(.iastore, 0, 0), (.iinc 5 (1), 0, 0), (.goto 0, 1, 0)]),
  (44, [(.iconst (0), 0, 0), (.istore 5, 0, 0), (.iconst (1), 0, 0), (.istore 6, 0, 0), (.goto_w 0, 7, 0)]),
  (50, [(.iload 6, 0, 0), (.ifCond .eq 0, 18, 0), (.goto_w 0, 8, 0)]),
  (55, [(.iinc 5 (1), 0, 0), (.iload 2, 0, 0), (.iload 4, 0, 0), (.iconst (-1), 0, 0), (.ixor, 0, 0), (.iand, 0, 0), (.aload 0, 0, 0), (.iload 1, 0, 0), (.iload 4, 0, 0), (.invokevirtual 0, 197, 0), (.iand, 0, 0), (.istore 7, 0, 0), (.iconst (0), 0, 0), (.istore 8, 0, 0), (.goto_w 0, 9, 0)]),
  (77, [(.iload 8, 0, 0), (.aload 0, 0, 0), (.getfield 0, 11, 0), (.if_icmp .ge 0, 14, 0), (.goto_w 0, 10, 0)]),
  (86, [(.aload 0, 0, 0), (.getfield 0, 11, 28), (.iload 8, 0, 0), (.iload 7, 0, 0), (.iload 8, 0, 0), (.ishr, 0, 0), (.iconst (1), 0, 0), (.iand, 0, 0), (.iconst (1), 0, 0), (.if_icmp .ne 0, 12, 0), (.goto_w 0, 11, 0)]),
  (103, [(.iload 5, 0, 0), (.goto 0, 13, 0)]),
  (108, [(.aload 0, 0, 0), (.getfield 0, 11, 28), (.iload 8, 0, 0), (.iaload, 0, 0), (.goto_w 0, 13, 0)]),
  (115, [(.iastore, 0, 0), (.iinc 8 (1), 0, 0), (.goto 0, 9, 0)]),
  (122, [(.iload 4, 0, 0), (.iload 7, 0, 0), (.ior, 0, 0), (.istore 4, 0, 0), (.iload 7, 0, 0), (.ifCond .eq 0, 16, 0), (.goto_w 0, 15, 0)]),
  (134, [(.iconst (1), 0, 0), (.goto 0, 17, 0)]),
  (138, [(.iconst (0), 0, 0), (.goto_w 0, 17, 0)]),
  (139, [(.istore 6, 0, 0), (.goto 0, 7, 0)]),
  (144, [(.iload 4, 0, 0), (.ireturn, 0, 0)])]
def zB_Md_always : List (Nat × List zEnt) := [(0, [(.iload 2, 0, 0), (.istore 3, 0, 0), (.iload 2, 0, 0), (.iconst (-1), 0, 0), (.ixor, 0, 0), (.istore 4, 0, 0), (.goto_w 0, 1, 0)]),
  (7, [(.iload 3, 0, 0), (.iload 4, 0, 0), (.if_icmp .eq 0, 3, 0), (.goto_w 0, 2, 0)]),
  (13, [(.iload 3, 0, 0), (.istore 4, 0, 0), (.iload 2, 0, 0), (.iload 3, 0, 0), (.iand, 0, 0), (.aload 0, 0, 0), (.iload 1, 0, 0), (.iload 3, 0, 0), (.invokevirtual 0, 197, 0), (.iand, 0, 0), (.istore 3, 0, 0), (.goto 0, 1, 0)]),
  (30, [(.iload 3, 0, 0), (.ireturn, 0, 0)])]
def zB_Md_again : List (Nat × List zEnt) := [(0, [(.aload 0, 0, 0), (.invokevirtual 0, 196, 0), (.istore 3, 0, 0), (.iconst (0), 0, 0), (.istore 4, 0, 0), (.goto_w 0, 1, 0)]),
  (8, [(.iload 3, 0, 0), (.iload 4, 0, 0), (.if_icmp .eq 0, 3, 0), (.goto_w 0, 2, 0)]),
  (14, [(.iload 3, 0, 0), (.istore 4, 0, 0), (.aload 0, 0, 0), (.iload 1, 0, 0), (.aload 0, 0, 0), (.invokevirtual 0, 196, 0), (.iload 2, 0, 0), (.aload 0, 0, 0), (.iload 1, 0, 0), (.iload 3, 0, 0), (.invokevirtual 0, 197, 0), (.iand, 0, 0), (.invokevirtual 0, 198, 0), (.istore 3, 0, 0), (.goto 0, 1, 0)]),
  (38, [(.iload 3, 0, 0), (.ireturn, 0, 0)])]
def zB_Md_heldOf : List (Nat × List zEnt) := [(0, [(.aload 0, 0, 0), (.getfield 0, 11, 27), (.aload 0, 0, 0), (.getfield 0, 11, 12), (.iload 1, 0, 0), (.iaload, 0, 0), (.iconst (24), 0, 0), (.irem, 0, 0), (.iaload, 0, 0), (.istore 3, 0, 0), (.aload 0, 0, 0), (.getfield 0, 11, 27), (.aload 0, 0, 0), (.getfield 0, 11, 13), (.iload 1, 0, 0), (.iaload, 0, 0), (.iconst (24), 0, 0), (.irem, 0, 0), (.iaload, 0, 0), (.istore 4, 0, 0), (.aload 0, 0, 0), (.getfield 0, 11, 11), (.iload 1, 0, 0), (.iaload, 0, 0), (.tableswitch 13 (0) (8) #[1, 2, 6, 7, 8, 9, 10, 11, 12], 0, 0)]),
  (88, [(.aload 0, 0, 0), (.invokevirtual 0, 196, 0), (.ireturn, 0, 0)]),
  (93, [(.iconst (0), 0, 0), (.istore 5, 0, 0), (.iconst (0), 0, 0), (.istore 6, 0, 0), (.goto_w 0, 3, 0)]),
  (99, [(.iload 6, 0, 0), (.aload 0, 0, 0), (.getfield 0, 11, 0), (.if_icmp .ge 0, 5, 0), (.goto_w 0, 4, 0)]),
  (108, [(.iload 5, 0, 0), (.aload 0, 0, 0), (.getfield 0, 11, 5), (.iload 6, 0, 0), (.iaload, 0, 0), (.aload 0, 0, 0), (.getfield 0, 11, 12), (.iload 1, 0, 0), (.iaload, 0, 0), (.ishr, 0, 0), (.iconst (1), 0, 0), (.iand, 0, 0), (.iload 6, 0, 0), (.ishl, 0, 0), (.ior, 0, 0), (.istore 5, 0, 0), (.iinc 6 (1), 0, 0), (.goto 0, 3, 0)]),
  (138, [(.iload 5, 0, 0), (.ireturn, 0, 0)]),
  (141, [(.aload 0, 0, 0), (.invokevirtual 0, 196, 0), (.iload 3, 0, 0), (.iconst (-1), 0, 0), (.ixor, 0, 0), (.iand, 0, 0), (.ireturn, 0, 0)]),
  (150, [(.iload 3, 0, 0), (.iload 4, 0, 0), (.iand, 0, 0), (.ireturn, 0, 0)]),
  (155, [(.iload 3, 0, 0), (.iload 4, 0, 0), (.ior, 0, 0), (.ireturn, 0, 0)]),
  (160, [(.aload 0, 0, 0), (.iload 2, 0, 0), (.iload 3, 0, 0), (.invokevirtual 0, 197, 0), (.ireturn, 0, 0)]),
  (167, [(.aload 0, 0, 0), (.iload 2, 0, 0), (.iload 3, 0, 0), (.invokevirtual 0, 199, 0), (.ireturn, 0, 0)]),
  (174, [(.aload 0, 0, 0), (.iload 2, 0, 0), (.aload 0, 0, 0), (.invokevirtual 0, 196, 0), (.iload 3, 0, 0), (.invokevirtual 0, 198, 0), (.ireturn, 0, 0)]),
  (185, [(.aload 0, 0, 0), (.iload 2, 0, 0), (.iload 3, 0, 0), (.invokevirtual 0, 200, 0), (.ireturn, 0, 0)]),
  (192, [(.aload 0, 0, 0), (.iload 2, 0, 0), (.iload 3, 0, 0), (.iload 4, 0, 0), (.invokevirtual 0, 198, 0), (.ireturn, 0, 0)])]
def zB_Md_tell : List (Nat × List zEnt) := [(0, [(.aload 0, 0, 0), (.getfield 0, 11, 10), (.iconst (1), 0, 0), (.isub, 0, 0), (.istore 1, 0, 0), (.goto_w 0, 1, 0)]),
  (7, [(.iload 1, 0, 0), (.ifCond .lt 0, 3, 0), (.goto_w 0, 2, 0)]),
  (11, [(.aload 0, 0, 0), (.getfield 0, 11, 27), (.iload 1, 0, 0), (.aload 0, 0, 0), (.iload 1, 0, 0), (.aload 0, 0, 0), (.getfield 0, 11, 14), (.iload 1, 0, 0), (.iaload, 0, 0), (.invokevirtual 0, 201, 0), (.iastore, 0, 0), (.iinc 1 (-1), 0, 0), (.goto 0, 1, 0)]),
  (34, [(.aload 0, 0, 0), (.getfield 0, 11, 27), (.iconst (0), 0, 0), (.iaload, 0, 0), (.ireturn, 0, 0)])]
def zB_Md_holds : List (Nat × List zEnt) := [(0, [(.aload 0, 0, 0), (.invokevirtual 0, 202, 0), (.ireturn, 0, 0)])]
def zB_Md_part : List (Nat × List zEnt) := [(0, [(.iload 1, 0, 0), (.i2l, 0, 0), (.sipush (0), 0, 0), (.aload 0, 0, 0), (.getfield 0, 11, 10), (.iconst (1), 0, 0), (.isub, 0, 0), (.i2l, 0, 0), (.invokestatic 0, 166, 0), (.ifCond .ne 0, 2, 0), (.goto_w 0, 1, 0)]),
  (16, [(.iconst (-1), 0, 0), (.ireturn, 0, 0)]),
  (18, [(.aload 0, 0, 0), (.invokevirtual 0, 202, 0), (.istore 2, 0, 0), (.iload 1, 0, 0), (.ifCond .ne 0, 4, 0), (.goto_w 0, 3, 0)]),
  (27, [(.iload 2, 0, 0), (.goto 0, 5, 0)]),
  (31, [(.aload 0, 0, 0), (.getfield 0, 11, 27), (.iload 1, 0, 0), (.iaload, 0, 0), (.goto_w 0, 5, 0)]),
  (37, [(.ireturn, 0, 0)])]
def zB_Md_isOfGroup : List (Nat × List zEnt) := [(0, [(.aload 0, 0, 0), (.getfield 0, 11, 11), (.iconst (0), 0, 0), (.iaload, 0, 0), (.iconst (5), 0, 0), (.if_icmp .lt 0, 2, 0), (.goto_w 0, 1, 0)]),
  (10, [(.iconst (1), 0, 0), (.goto 0, 3, 0)]),
  (14, [(.iconst (0), 0, 0), (.goto_w 0, 3, 0)]),
  (15, [(.ireturn, 0, 0)])]
def zB_Md_hasRounds : List (Nat × List zEnt) := [(0, [(.aload 0, 0, 0), (.getfield 0, 11, 11), (.iconst (0), 0, 0), (.iaload, 0, 0), (.iconst (7), 0, 0), (.if_icmp .eq 0, 3, 0), (.goto_w 0, 1, 0)]),
  (11, [(.aload 0, 0, 0), (.getfield 0, 11, 11), (.iconst (0), 0, 0), (.iaload, 0, 0), (.iconst (8), 0, 0), (.if_icmp .eq 0, 3, 0), (.goto_w 0, 2, 0)]),
  (22, [(.aload 0, 0, 0), (.getfield 0, 11, 11), (.iconst (0), 0, 0), (.iaload, 0, 0), (.iconst (9), 0, 0), (.if_icmp .ne 0, 4, 0), (.goto_w 0, 3, 0)]),
  (33, [(.iconst (1), 0, 0), (.goto 0, 5, 0)]),
  (37, [(.iconst (0), 0, 0), (.goto_w 0, 5, 0)]),
  (38, [(.ireturn, 0, 0)])]
def zB_Md_round : List (Nat × List zEnt) := [(0, [(.aload 0, 0, 0), (.iload 1, 0, 0), (.invokevirtual 0, 170, 0), (.ifCond .ne 0, 2, 0), (.goto_w 0, 1, 0)]),
  (8, [(.iconst (-1), 0, 0), (.ireturn, 0, 0)]),
  (10, [(.aload 0, 0, 0), (.invokevirtual 0, 206, 0), (.ifCond .ne 0, 4, 0), (.goto_w 0, 3, 0)]),
  (17, [(.iconst (-2), 0, 0), (.ireturn, 0, 0)]),
  (20, [(.aload 0, 0, 0), (.invokevirtual 0, 202, 0), (.iload 1, 0, 0), (.ishr, 0, 0), (.iconst (1), 0, 0), (.iand, 0, 0), (.iconst (1), 0, 0), (.if_icmp .ne 0, 6, 0), (.goto_w 0, 5, 0)]),
  (32, [(.aload 0, 0, 0), (.getfield 0, 11, 28), (.iload 1, 0, 0), (.iaload, 0, 0), (.goto 0, 7, 0)]),
  (41, [(.iconst (-4), 0, 0), (.goto_w 0, 7, 0)]),
  (43, [(.ireturn, 0, 0)])]
def zB_Md_aim : List (Nat × List zEnt) := [(0, [(.aload 0, 0, 0), (.invokevirtual 0, 202, 0), (.istore 2, 0, 0), (.iload 2, 0, 0), (.iload 1, 0, 0), (.ishr, 0, 0), (.iconst (1), 0, 0), (.iand, 0, 0), (.ifCond .ne 0, 2, 0), (.goto_w 0, 1, 0)]),
  (13, [(.iconst (-1), 0, 0), (.ireturn, 0, 0)]),
  (15, [(.aload 0, 0, 0), (.getfield 0, 11, 11), (.iconst (0), 0, 0), (.iaload, 0, 0), (.iconst (5), 0, 0), (.if_icmp .ne 0, 4, 0), (.goto_w 0, 3, 0)]),
  (25, [(.aload 0, 0, 0), (.getfield 0, 11, 27), (.aload 0, 0, 0), (.getfield 0, 11, 12), (.iconst (0), 0, 0), (.iaload, 0, 0), (.iaload, 0, 0), (.ireturn, 0, 0)]),
  (37, [(.aload 0, 0, 0), (.getfield 0, 11, 11), (.iconst (0), 0, 0), (.iaload, 0, 0), (.iconst (6), 0, 0), (.if_icmp .eq 0, 7, 0), (.goto_w 0, 5, 0)]),
  (48, [(.aload 0, 0, 0), (.getfield 0, 11, 11), (.iconst (0), 0, 0), (.iaload, 0, 0), (.iconst (8), 0, 0), (.if_icmp .ne 0, 8, 0), (.goto_w 0, 6, 0)]),
  (59, [(.aload 0, 0, 0), (.getfield 0, 11, 28), (.iload 1, 0, 0), (.iaload, 0, 0), (.ifCond .ne 0, 8, 0), (.goto_w 0, 7, 0)]),
  (68, [(.iload 2, 0, 0), (.ireturn, 0, 0)]),
  (70, [(.iconst (0), 0, 0), (.istore 3, 0, 0), (.iconst (0), 0, 0), (.istore 4, 0, 0), (.goto_w 0, 9, 0)]),
  (75, [(.iload 4, 0, 0), (.aload 0, 0, 0), (.getfield 0, 11, 0), (.if_icmp .ge 0, 15, 0), (.goto_w 0, 10, 0)]),
  (84, [(.iload 3, 0, 0), (.aload 0, 0, 0), (.getfield 0, 11, 28), (.iload 4, 0, 0), (.iaload, 0, 0), (.ifCond .lt 0, 13, 0), (.goto_w 0, 11, 0)]),
  (95, [(.aload 0, 0, 0), (.getfield 0, 11, 28), (.iload 4, 0, 0), (.iaload, 0, 0), (.aload 0, 0, 0), (.getfield 0, 11, 28), (.iload 1, 0, 0), (.iaload, 0, 0), (.if_icmp .ge 0, 13, 0), (.goto_w 0, 12, 0)]),
  (111, [(.iconst (1), 0, 0), (.iload 4, 0, 0), (.ishl, 0, 0), (.goto 0, 14, 0)]),
  (118, [(.iconst (0), 0, 0), (.goto_w 0, 14, 0)]),
  (119, [(.ior, 0, 0), (.istore 3, 0, 0), (.iinc 4 (1), 0, 0), (.goto 0, 9, 0)]),
  (127, [(.aload 0, 0, 0), (.getfield 0, 11, 28), (.iload 1, 0, 0), (.iaload, 0, 0), (.ifCond .ne 0, 17, 0), (.goto_w 0, 16, 0)]),
  (136, [(.iconst (-1), 0, 0), (.goto 0, 18, 0)]),
  (140, [(.iload 3, 0, 0), (.goto_w 0, 18, 0)]),
  (141, [(.ireturn, 0, 0)])]
def zB_Md_planOf : List (Nat × List zEnt) := [(0, [(.aload 0, 0, 0), (.iload 1, 0, 0), (.invokevirtual 0, 208, 0), (.istore 2, 0, 0), (.iload 2, 0, 0), (.ifCond .ge 0, 2, 0), (.goto_w 0, 1, 0)]),
  (10, [(.iconst (-4), 0, 0), (.goto 0, 3, 0)]),
  (15, [(.aload 0, 0, 0), (.iload 1, 0, 0), (.aload 0, 0, 0), (.getfield 0, 11, 14), (.iconst (0), 0, 0), (.iaload, 0, 0), (.iload 2, 0, 0), (.invokevirtual 0, 186, 0), (.goto_w 0, 3, 0)]),
  (27, [(.ireturn, 0, 0)])]
def zB_Md_plan : List (Nat × List zEnt) := [(0, [(.aload 0, 0, 0), (.iload 1, 0, 0), (.invokevirtual 0, 170, 0), (.ifCond .ne 0, 2, 0), (.goto_w 0, 1, 0)]),
  (8, [(.iconst (-1), 0, 0), (.ireturn, 0, 0)]),
  (10, [(.aload 0, 0, 0), (.invokevirtual 0, 205, 0), (.ifCond .eq 0, 4, 0), (.goto_w 0, 3, 0)]),
  (17, [(.aload 0, 0, 0), (.iload 1, 0, 0), (.invokevirtual 0, 209, 0), (.goto 0, 5, 0)]),
  (25, [(.iconst (-2), 0, 0), (.goto_w 0, 5, 0)]),
  (27, [(.ireturn, 0, 0)])]
def zB_Md_answer : List (Nat × List zEnt) := [(0, [(.aload 0, 0, 0), (.iload 1, 0, 0), (.invokevirtual 0, 170, 0), (.ifCond .ne 0, 2, 0), (.goto_w 0, 1, 0)]),
  (8, [(.iconst (-1), 0, 0), (.ireturn, 0, 0)]),
  (10, [(.aload 0, 0, 0), (.invokevirtual 0, 205, 0), (.ifCond .ne 0, 4, 0), (.goto_w 0, 3, 0)]),
  (17, [(.iconst (-2), 0, 0), (.ireturn, 0, 0)]),
  (20, [(.iload 2, 0, 0), (.i2l, 0, 0), (.sipush (0), 0, 0), (.aload 0, 0, 0), (.iload 1, 0, 0), (.aload 0, 0, 0), (.getfield 0, 11, 14), (.iconst (0), 0, 0), (.iaload, 0, 0), (.invokevirtual 0, 175, 0), (.iconst (1), 0, 0), (.isub, 0, 0), (.i2l, 0, 0), (.invokestatic 0, 166, 0), (.ifCond .ne 0, 6, 0), (.goto_w 0, 5, 0)]),
  (43, [(.iconst (-1), 0, 0), (.ireturn, 0, 0)]),
  (45, [(.aload 0, 0, 0), (.invokevirtual 0, 202, 0), (.istore 3, 0, 0), (.aload 0, 0, 0), (.getfield 0, 11, 11), (.iconst (0), 0, 0), (.iaload, 0, 0), (.iconst (5), 0, 0), (.if_icmp .ne 0, 8, 0), (.goto_w 0, 7, 0)]),
  (60, [(.aload 0, 0, 0), (.getfield 0, 11, 27), (.aload 0, 0, 0), (.getfield 0, 11, 12), (.iconst (0), 0, 0), (.iaload, 0, 0), (.iaload, 0, 0), (.goto 0, 9, 0)]),
  (74, [(.iload 3, 0, 0), (.goto_w 0, 9, 0)]),
  (75, [(.istore 4, 0, 0), (.aload 0, 0, 0), (.iload 1, 0, 0), (.aload 0, 0, 0), (.aload 0, 0, 0), (.getfield 0, 11, 14), (.iconst (0), 0, 0), (.iaload, 0, 0), (.invokevirtual 0, 185, 0), (.invokevirtual 0, 175, 0), (.istore 5, 0, 0), (.iconst (0), 0, 0), (.istore 6, 0, 0), (.goto_w 0, 10, 0)]),
  (97, [(.iload 6, 0, 0), (.iload 5, 0, 0), (.if_icmp .ge 0, 14, 0), (.goto_w 0, 11, 0)]),
  (104, [(.iload 4, 0, 0), (.aload 0, 0, 0), (.iload 1, 0, 0), (.aload 0, 0, 0), (.getfield 0, 11, 14), (.iconst (0), 0, 0), (.iaload, 0, 0), (.iload 2, 0, 0), (.iload 6, 0, 0), (.invokevirtual 0, 184, 0), (.ishr, 0, 0), (.iconst (1), 0, 0), (.iand, 0, 0), (.ifCond .ne 0, 13, 0), (.goto_w 0, 12, 0)]),
  (126, [(.iload 6, 0, 0), (.ireturn, 0, 0)]),
  (129, [(.iinc 6 (1), 0, 0), (.goto 0, 10, 0)]),
  (135, [(.iconst (-4), 0, 0), (.ireturn, 0, 0)])]
def zB_Md_sumOf : List (Nat × List zEnt) := [(0, [(.iconst (0), 0, 0), (.istore 4, 0, 0), (.iload 3, 0, 0), (.istore 5, 0, 0), (.aload 0, 0, 0), (.getfield 0, 11, 1), (.iconst (1), 0, 0), (.isub, 0, 0), (.istore 6, 0, 0), (.goto_w 0, 1, 0)]),
  (14, [(.iload 6, 0, 0), (.ifCond .lt 0, 5, 0), (.goto_w 0, 2, 0)]),
  (19, [(.iload 2, 0, 0), (.iload 6, 0, 0), (.ishr, 0, 0), (.iconst (1), 0, 0), (.iand, 0, 0), (.iconst (1), 0, 0), (.if_icmp .ne 0, 4, 0), (.goto_w 0, 3, 0)]),
  (29, [(.aload 0, 0, 0), (.getfield 0, 11, 2), (.iconst (4), 0, 0), (.iload 1, 0, 0), (.imul, 0, 0), (.iload 6, 0, 0), (.iadd, 0, 0), (.iaload, 0, 0), (.istore 7, 0, 0), (.iload 4, 0, 0), (.aload 0, 0, 0), (.getfield 0, 11, 4), (.iconst (12), 0, 0), (.iload 1, 0, 0), (.imul, 0, 0), (.iconst (3), 0, 0), (.iload 6, 0, 0), (.imul, 0, 0), (.iadd, 0, 0), (.iload 5, 0, 0), (.iload 7, 0, 0), (.irem, 0, 0), (.iadd, 0, 0), (.iaload, 0, 0), (.iadd, 0, 0), (.istore 4, 0, 0), (.iload 5, 0, 0), (.iload 7, 0, 0), (.idiv, 0, 0), (.istore 5, 0, 0), (.goto_w 0, 4, 0)]),
  (74, [(.iinc 6 (-1), 0, 0), (.goto 0, 1, 0)]),
  (80, [(.iload 4, 0, 0), (.ireturn, 0, 0)])]
def zB_Md_tollBy : List (Nat × List zEnt) := [(0, [(.aload 0, 0, 0), (.getfield 0, 11, 14), (.iconst (0), 0, 0), (.iaload, 0, 0), (.istore 3, 0, 0), (.aload 0, 0, 0), (.iload 1, 0, 0), (.aload 0, 0, 0), (.iload 3, 0, 0), (.invokevirtual 0, 185, 0), (.invokevirtual 0, 175, 0), (.istore 4, 0, 0), (.iconst (0), 0, 0), (.istore 5, 0, 0), (.iconst (0), 0, 0), (.istore 6, 0, 0), (.goto_w 0, 1, 0)]),
  (25, [(.iload 6, 0, 0), (.iload 4, 0, 0), (.if_icmp .ge 0, 9, 0), (.goto_w 0, 2, 0)]),
  (32, [(.iload 5, 0, 0), (.ifCond .lt 0, 9, 0), (.goto_w 0, 3, 0)]),
  (37, [(.aload 0, 0, 0), (.getfield 0, 11, 29), (.aload 0, 0, 0), (.iload 1, 0, 0), (.iload 3, 0, 0), (.iload 2, 0, 0), (.iload 6, 0, 0), (.invokevirtual 0, 184, 0), (.iaload, 0, 0), (.istore 7, 0, 0), (.iload 7, 0, 0), (.ifCond .ge 0, 5, 0), (.goto_w 0, 4, 0)]),
  (58, [(.iconst (-1), 0, 0), (.goto 0, 8, 0)]),
  (62, [(.iload 7, 0, 0), (.iload 5, 0, 0), (.if_icmp .le 0, 7, 0), (.goto_w 0, 6, 0)]),
  (69, [(.iload 7, 0, 0), (.goto 0, 8, 0)]),
  (74, [(.iload 5, 0, 0), (.goto_w 0, 8, 0)]),
  (76, [(.istore 5, 0, 0), (.iinc 6 (1), 0, 0), (.goto 0, 1, 0)]),
  (84, [(.iload 5, 0, 0), (.ifCond .ge 0, 11, 0), (.goto_w 0, 10, 0)]),
  (89, [(.iconst (-1), 0, 0), (.goto 0, 12, 0)]),
  (93, [(.iload 5, 0, 0), (.aload 0, 0, 0), (.iload 1, 0, 0), (.iload 3, 0, 0), (.iload 2, 0, 0), (.invokevirtual 0, 212, 0), (.iadd, 0, 0), (.goto_w 0, 12, 0)]),
  (103, [(.ireturn, 0, 0)])]
def zB_Md_toll : List (Nat × List zEnt) := [(0, [(.aload 0, 0, 0), (.iload 1, 0, 0), (.invokevirtual 0, 170, 0), (.ifCond .ne 0, 2, 0), (.goto_w 0, 1, 0)]),
  (8, [(.iconst (-1), 0, 0), (.ireturn, 0, 0)]),
  (10, [(.aload 0, 0, 0), (.getfield 0, 11, 11), (.iconst (0), 0, 0), (.iaload, 0, 0), (.iconst (7), 0, 0), (.if_icmp .eq 0, 5, 0), (.goto_w 0, 3, 0)]),
  (21, [(.aload 0, 0, 0), (.getfield 0, 11, 11), (.iconst (0), 0, 0), (.iaload, 0, 0), (.iconst (9), 0, 0), (.if_icmp .eq 0, 5, 0), (.goto_w 0, 4, 0)]),
  (32, [(.iconst (-2), 0, 0), (.ireturn, 0, 0)]),
  (35, [(.aload 0, 0, 0), (.invokevirtual 0, 202, 0), (.istore 2, 0, 0), (.aload 0, 0, 0), (.getfield 0, 11, 11), (.iconst (0), 0, 0), (.iaload, 0, 0), (.iconst (7), 0, 0), (.if_icmp .ne 0, 7, 0), (.goto_w 0, 6, 0)]),
  (51, [(.aload 0, 0, 0), (.invokevirtual 0, 196, 0), (.goto 0, 8, 0)]),
  (58, [(.aload 0, 0, 0), (.getfield 0, 11, 27), (.aload 0, 0, 0), (.getfield 0, 11, 12), (.iconst (0), 0, 0), (.iaload, 0, 0), (.iaload, 0, 0), (.goto_w 0, 8, 0)]),
  (69, [(.istore 3, 0, 0), (.iconst (0), 0, 0), (.istore 4, 0, 0), (.goto_w 0, 9, 0)]),
  (73, [(.iload 4, 0, 0), (.aload 0, 0, 0), (.getfield 0, 11, 0), (.if_icmp .ge 0, 14, 0), (.goto_w 0, 10, 0)]),
  (82, [(.aload 0, 0, 0), (.getfield 0, 11, 29), (.iload 4, 0, 0), (.aload 0, 0, 0), (.getfield 0, 11, 28), (.iload 4, 0, 0), (.iaload, 0, 0), (.ifCond .ne 0, 12, 0), (.goto_w 0, 11, 0)]),
  (98, [(.iconst (0), 0, 0), (.goto 0, 13, 0)]),
  (102, [(.iconst (-1), 0, 0), (.goto_w 0, 13, 0)]),
  (103, [(.iastore, 0, 0), (.iinc 4 (1), 0, 0), (.goto 0, 9, 0)]),
  (110, [(.iconst (1), 0, 0), (.istore 4, 0, 0), (.goto_w 0, 15, 0)]),
  (113, [(.iload 4, 0, 0), (.ifCond .eq 0, 42, 0), (.goto_w 0, 16, 0)]),
  (118, [(.iconst (0), 0, 0), (.istore 4, 0, 0), (.iconst (0), 0, 0), (.istore 5, 0, 0), (.goto_w 0, 17, 0)]),
  (124, [(.iload 5, 0, 0), (.aload 0, 0, 0), (.getfield 0, 11, 0), (.if_icmp .ge 0, 38, 0), (.goto_w 0, 18, 0)]),
  (133, [(.aload 0, 0, 0), (.getfield 0, 11, 30), (.iload 5, 0, 0), (.aload 0, 0, 0), (.getfield 0, 11, 29), (.iload 5, 0, 0), (.iaload, 0, 0), (.iastore, 0, 0), (.aload 0, 0, 0), (.getfield 0, 11, 28), (.iload 5, 0, 0), (.iaload, 0, 0), (.ifCond .eq 0, 21, 0), (.goto_w 0, 19, 0)]),
  (157, [(.iload 3, 0, 0), (.iload 5, 0, 0), (.ishr, 0, 0), (.iconst (1), 0, 0), (.iand, 0, 0), (.iconst (1), 0, 0), (.if_icmp .ne 0, 21, 0), (.goto_w 0, 20, 0)]),
  (167, [(.aload 0, 0, 0), (.iload 5, 0, 0), (.aload 0, 0, 0), (.getfield 0, 11, 14), (.iconst (0), 0, 0), (.iaload, 0, 0), (.invokevirtual 0, 175, 0), (.goto 0, 22, 0)]),
  (182, [(.iconst (0), 0, 0), (.goto_w 0, 22, 0)]),
  (183, [(.istore 6, 0, 0), (.iconst (0), 0, 0), (.istore 7, 0, 0), (.goto_w 0, 23, 0)]),
  (188, [(.iload 7, 0, 0), (.iload 6, 0, 0), (.if_icmp .ge 0, 37, 0), (.goto_w 0, 24, 0)]),
  (195, [(.aload 0, 0, 0), (.iload 5, 0, 0), (.iload 7, 0, 0), (.invokevirtual 0, 213, 0), (.istore 8, 0, 0), (.iload 8, 0, 0), (.ifCond .lt 0, 28, 0), (.goto_w 0, 25, 0)]),
  (210, [(.aload 0, 0, 0), (.getfield 0, 11, 30), (.iload 5, 0, 0), (.iaload, 0, 0), (.ifCond .lt 0, 27, 0), (.goto_w 0, 26, 0)]),
  (220, [(.iload 8, 0, 0), (.aload 0, 0, 0), (.getfield 0, 11, 30), (.iload 5, 0, 0), (.iaload, 0, 0), (.if_icmp .ge 0, 28, 0), (.goto_w 0, 27, 0)]),
  (232, [(.iconst (1), 0, 0), (.goto 0, 29, 0)]),
  (236, [(.iconst (0), 0, 0), (.goto_w 0, 29, 0)]),
  (237, [(.istore 9, 0, 0), (.aload 0, 0, 0), (.getfield 0, 11, 30), (.iload 5, 0, 0), (.iload 9, 0, 0), (.ifCond .eq 0, 31, 0), (.goto_w 0, 30, 0)]),
  (250, [(.iload 8, 0, 0), (.goto 0, 32, 0)]),
  (255, [(.aload 0, 0, 0), (.getfield 0, 11, 30), (.iload 5, 0, 0), (.iaload, 0, 0), (.goto_w 0, 32, 0)]),
  (262, [(.iastore, 0, 0), (.iload 4, 0, 0), (.ifCond .ne 0, 34, 0), (.goto_w 0, 33, 0)]),
  (268, [(.iload 9, 0, 0), (.ifCond .eq 0, 35, 0), (.goto_w 0, 34, 0)]),
  (273, [(.iconst (1), 0, 0), (.goto 0, 36, 0)]),
  (277, [(.iconst (0), 0, 0), (.goto_w 0, 36, 0)]),
  (278, [(.istore 4, 0, 0), (.iinc 7 (1), 0, 0), (.goto 0, 23, 0)]),
  (286, [(.iinc 5 (1), 0, 0), (.goto 0, 17, 0)]),
  (292, [(.iconst (0), 0, 0), (.istore 5, 0, 0), (.goto_w 0, 39, 0)]),
  (295, [(.iload 5, 0, 0), (.aload 0, 0, 0), (.getfield 0, 11, 0), (.if_icmp .ge 0, 41, 0), (.goto_w 0, 40, 0)]),
  (304, [(.aload 0, 0, 0), (.getfield 0, 11, 29), (.iload 5, 0, 0), (.aload 0, 0, 0), (.getfield 0, 11, 30), (.iload 5, 0, 0), (.iaload, 0, 0), (.iastore, 0, 0), (.iinc 5 (1), 0, 0), (.goto 0, 39, 0)]),
  (324, [(.goto 0, 15, 0)]),
  (327, [(.iload 2, 0, 0), (.iload 1, 0, 0), (.ishr, 0, 0), (.iconst (1), 0, 0), (.iand, 0, 0), (.iconst (1), 0, 0), (.if_icmp .ne 0, 44, 0), (.goto_w 0, 43, 0)]),
  (336, [(.aload 0, 0, 0), (.getfield 0, 11, 29), (.iload 1, 0, 0), (.iaload, 0, 0), (.goto 0, 45, 0)]),
  (345, [(.iconst (-4), 0, 0), (.goto_w 0, 45, 0)]),
  (347, [(.ireturn, 0, 0)])]
def zB_Md_isSheet : List (Nat × List zEnt) := [(0, [(.iload 0, 0, 0), (.i2l, 0, 0), (.sipush (0), 0, 0), (.sipush (3), 0, 0), (.invokestatic 0, 166, 0), (.ireturn, 0, 0)])]
def zB_Md_isLane : List (Nat × List zEnt) := [(0, [(.iload 0, 0, 0), (.i2l, 0, 0), (.sipush (0), 0, 0), (.sipush (2), 0, 0), (.invokestatic 0, 166, 0), (.ireturn, 0, 0)])]
def zB_Md_finds : List (Nat × List zEnt) := [(0, [(.aload 0, 0, 0), (.getfield 0, 11, 33), (.iload 1, 0, 0), (.iaload, 0, 0), (.ifCond .ge 0, 2, 0), (.goto_w 0, 1, 0)]),
  (9, [(.iconst (-11), 0, 0), (.ireturn, 0, 0)]),
  (12, [(.aload 0, 0, 0), (.getfield 0, 11, 33), (.iload 1, 0, 0), (.iaload, 0, 0), (.iload 2, 0, 0), (.if_icmp .eq 0, 4, 0), (.goto_w 0, 3, 0)]),
  (22, [(.iconst (-12), 0, 0), (.ireturn, 0, 0)]),
  (25, [(.iload 3, 0, 0), (.ifCond .lt 0, 6, 0), (.goto_w 0, 5, 0)]),
  (29, [(.iload 3, 0, 0), (.i2l, 0, 0), (.iload 4, 0, 0), (.i2l, 0, 0), (.ladd, 0, 0), (.aload 0, 0, 0), (.getfield 0, 11, 34), (.iload 1, 0, 0), (.iaload, 0, 0), (.i2l, 0, 0), (.lcmp, 0, 0), (.ifCond .le 0, 7, 0), (.goto_w 0, 6, 0)]),
  (46, [(.iconst (-13), 0, 0), (.goto 0, 8, 0)]),
  (51, [(.iconst (0), 0, 0), (.goto_w 0, 8, 0)]),
  (52, [(.ireturn, 0, 0)])]
def zB_Md_walk : List (Nat × List zEnt) := [(0, [(.aload 0, 0, 0), (.iload 1, 0, 0), (.invokevirtual 0, 170, 0), (.ifCond .eq 0, 4, 0), (.goto_w 0, 1, 0)]),
  (8, [(.iload 2, 0, 0), (.invokestatic 0, 215, 0), (.ifCond .eq 0, 4, 0), (.goto_w 0, 2, 0)]),
  (15, [(.iload 3, 0, 0), (.invokestatic 0, 216, 0), (.ifCond .eq 0, 4, 0), (.goto_w 0, 3, 0)]),
  (22, [(.iload 5, 0, 0), (.i2l, 0, 0), (.sipush (0), 0, 0), (.sipush (40), 0, 0), (.invokestatic 0, 166, 0), (.ifCond .ne 0, 5, 0), (.goto_w 0, 4, 0)]),
  (35, [(.iconst (-1), 0, 0), (.ireturn, 0, 0)]),
  (37, [(.aload 0, 0, 0), (.iload 2, 0, 0), (.iload 3, 0, 0), (.iload 4, 0, 0), (.iload 5, 0, 0), (.invokevirtual 0, 217, 0), (.istore 6, 0, 0), (.iload 6, 0, 0), (.ifCond .ge 0, 7, 0), (.goto_w 0, 6, 0)]),
  (54, [(.iload 6, 0, 0), (.ireturn, 0, 0)]),
  (57, [(.aload 0, 0, 0), (.invokevirtual 0, 205, 0), (.istore 7, 0, 0), (.iconst (0), 0, 0), (.istore 8, 0, 0), (.goto_w 0, 8, 0)]),
  (66, [(.iload 8, 0, 0), (.iload 5, 0, 0), (.if_icmp .ge 0, 14, 0), (.goto_w 0, 9, 0)]),
  (73, [(.iload 7, 0, 0), (.ifCond .eq 0, 12, 0), (.goto_w 0, 10, 0)]),
  (78, [(.aload 0, 0, 0), (.getfield 0, 11, 35), (.iconst (81), 0, 0), (.iload 2, 0, 0), (.imul, 0, 0), (.iload 4, 0, 0), (.iadd, 0, 0), (.iload 8, 0, 0), (.iadd, 0, 0), (.iaload, 0, 0), (.ifCond .lt 0, 12, 0), (.goto_w 0, 11, 0)]),
  (96, [(.iconst (1), 0, 0), (.goto 0, 13, 0)]),
  (100, [(.iconst (0), 0, 0), (.goto_w 0, 13, 0)]),
  (101, [(.istore 7, 0, 0), (.iinc 8 (1), 0, 0), (.goto 0, 8, 0)]),
  (109, [(.iload 7, 0, 0), (.ifCond .ne 0, 16, 0), (.goto_w 0, 15, 0)]),
  (114, [(.iconst (-2), 0, 0), (.ireturn, 0, 0)]),
  (117, [(.aload 0, 0, 0), (.getfield 0, 11, 32), (.iconst (0), 0, 0), (.iload 1, 0, 0), (.iastore, 0, 0), (.iconst (0), 0, 0), (.istore 8, 0, 0), (.goto_w 0, 17, 0)]),
  (127, [(.iload 8, 0, 0), (.iload 5, 0, 0), (.if_icmp .ge 0, 22, 0), (.goto_w 0, 18, 0)]),
  (134, [(.aload 0, 0, 0), (.getfield 0, 11, 32), (.iload 8, 0, 0), (.iaload, 0, 0), (.istore 9, 0, 0), (.aload 0, 0, 0), (.iload 9, 0, 0), (.invokevirtual 0, 209, 0), (.istore 10, 0, 0), (.aload 0, 0, 0), (.getfield 0, 11, 35), (.iconst (81), 0, 0), (.iload 2, 0, 0), (.imul, 0, 0), (.iload 4, 0, 0), (.iadd, 0, 0), (.iload 8, 0, 0), (.iadd, 0, 0), (.iaload, 0, 0), (.aload 0, 0, 0), (.iload 9, 0, 0), (.aload 0, 0, 0), (.aload 0, 0, 0), (.getfield 0, 11, 14), (.iconst (0), 0, 0), (.iaload, 0, 0), (.invokevirtual 0, 185, 0), (.invokevirtual 0, 175, 0), (.irem, 0, 0), (.istore 11, 0, 0), (.aload 0, 0, 0), (.getfield 0, 11, 32), (.iload 8, 0, 0), (.iconst (1), 0, 0), (.iadd, 0, 0), (.aload 0, 0, 0), (.iload 9, 0, 0), (.aload 0, 0, 0), (.getfield 0, 11, 14), (.iconst (0), 0, 0), (.iaload, 0, 0), (.iload 10, 0, 0), (.ifCond .ge 0, 20, 0), (.goto_w 0, 19, 0)]),
  (207, [(.iconst (0), 0, 0), (.goto 0, 21, 0)]),
  (211, [(.iload 10, 0, 0), (.goto_w 0, 21, 0)]),
  (213, [(.iload 11, 0, 0), (.invokevirtual 0, 184, 0), (.iastore, 0, 0), (.iinc 8 (1), 0, 0), (.goto 0, 17, 0)]),
  (225, [(.aload 0, 0, 0), (.iload 5, 0, 0), (.iconst (1), 0, 0), (.iadd, 0, 0), (.putfield 0, 11, 31), (.aload 0, 0, 0), (.getfield 0, 11, 32), (.iload 5, 0, 0), (.iaload, 0, 0), (.ireturn, 0, 0)])]
def zB_Md_walked : List (Nat × List zEnt) := [(0, [(.iload 1, 0, 0), (.i2l, 0, 0), (.sipush (0), 0, 0), (.aload 0, 0, 0), (.getfield 0, 11, 31), (.iconst (1), 0, 0), (.isub, 0, 0), (.i2l, 0, 0), (.invokestatic 0, 166, 0), (.ifCond .eq 0, 2, 0), (.goto_w 0, 1, 0)]),
  (16, [(.aload 0, 0, 0), (.getfield 0, 11, 32), (.iload 1, 0, 0), (.iaload, 0, 0), (.goto 0, 3, 0)]),
  (25, [(.iconst (-1), 0, 0), (.goto_w 0, 3, 0)]),
  (26, [(.ireturn, 0, 0)])]
def zB_Md_steps : List (Nat × List zEnt) := [(0, [(.aload 0, 0, 0), (.iload 1, 0, 0), (.invokevirtual 0, 170, 0), (.ifCond .eq 0, 4, 0), (.goto_w 0, 1, 0)]),
  (8, [(.iload 2, 0, 0), (.invokestatic 0, 215, 0), (.ifCond .eq 0, 4, 0), (.goto_w 0, 2, 0)]),
  (15, [(.iload 3, 0, 0), (.invokestatic 0, 216, 0), (.ifCond .eq 0, 4, 0), (.goto_w 0, 3, 0)]),
  (22, [(.iload 5, 0, 0), (.i2l, 0, 0), (.sipush (0), 0, 0), (.aload 0, 0, 0), (.iload 1, 0, 0), (.aload 0, 0, 0), (.invokevirtual 0, 176, 0), (.invokevirtual 0, 175, 0), (.i2l, 0, 0), (.invokestatic 0, 166, 0), (.ifCond .ne 0, 5, 0), (.goto_w 0, 4, 0)]),
  (42, [(.iconst (-1), 0, 0), (.ireturn, 0, 0)]),
  (44, [(.aload 0, 0, 0), (.iload 2, 0, 0), (.iload 3, 0, 0), (.iload 4, 0, 0), (.iload 5, 0, 0), (.invokevirtual 0, 217, 0), (.istore 6, 0, 0), (.iload 6, 0, 0), (.ifCond .ge 0, 7, 0), (.goto_w 0, 6, 0)]),
  (61, [(.iload 6, 0, 0), (.ireturn, 0, 0)]),
  (64, [(.iconst (0), 0, 0), (.istore 7, 0, 0), (.goto_w 0, 8, 0)]),
  (67, [(.iload 7, 0, 0), (.iload 5, 0, 0), (.if_icmp .ge 0, 12, 0), (.goto_w 0, 9, 0)]),
  (74, [(.aload 0, 0, 0), (.aload 0, 0, 0), (.getfield 0, 11, 35), (.iconst (81), 0, 0), (.iload 2, 0, 0), (.imul, 0, 0), (.iload 4, 0, 0), (.iadd, 0, 0), (.iload 7, 0, 0), (.iadd, 0, 0), (.iaload, 0, 0), (.invokevirtual 0, 170, 0), (.ifCond .ne 0, 11, 0), (.goto_w 0, 10, 0)]),
  (96, [(.iconst (-2), 0, 0), (.ireturn, 0, 0)]),
  (99, [(.iinc 7 (1), 0, 0), (.goto 0, 8, 0)]),
  (105, [(.iconst (0), 0, 0), (.istore 7, 0, 0), (.goto_w 0, 13, 0)]),
  (108, [(.iload 7, 0, 0), (.iload 5, 0, 0), (.if_icmp .ge 0, 15, 0), (.goto_w 0, 14, 0)]),
  (115, [(.aload 0, 0, 0), (.getfield 0, 11, 3), (.iconst (81), 0, 0), (.iload 1, 0, 0), (.imul, 0, 0), (.iload 7, 0, 0), (.iadd, 0, 0), (.aload 0, 0, 0), (.getfield 0, 11, 35), (.iconst (81), 0, 0), (.iload 2, 0, 0), (.imul, 0, 0), (.iload 4, 0, 0), (.iadd, 0, 0), (.iload 7, 0, 0), (.iadd, 0, 0), (.iaload, 0, 0), (.iastore, 0, 0), (.iinc 7 (1), 0, 0), (.goto 0, 13, 0)]),
  (148, [(.iload 5, 0, 0), (.ireturn, 0, 0)])]
def zB_Md_mostOf : List (Nat × List zEnt) := [(0, [(.iconst (0), 0, 0), (.istore 3, 0, 0), (.iconst (0), 0, 0), (.istore 4, 0, 0), (.goto_w 0, 1, 0)]),
  (5, [(.iload 4, 0, 0), (.aload 0, 0, 0), (.getfield 0, 11, 0), (.if_icmp .ge 0, 8, 0), (.goto_w 0, 2, 0)]),
  (14, [(.aload 0, 0, 0), (.getfield 0, 11, 2), (.iconst (4), 0, 0), (.iload 4, 0, 0), (.imul, 0, 0), (.iload 1, 0, 0), (.iadd, 0, 0), (.iaload, 0, 0), (.istore 5, 0, 0), (.aload 0, 0, 0), (.getfield 0, 11, 6), (.iconst (4), 0, 0), (.iload 4, 0, 0), (.imul, 0, 0), (.iload 1, 0, 0), (.iadd, 0, 0), (.iaload, 0, 0), (.iload 2, 0, 0), (.if_icmp .ne 0, 6, 0), (.goto_w 0, 3, 0)]),
  (42, [(.iload 3, 0, 0), (.ifCond .eq 0, 5, 0), (.goto_w 0, 4, 0)]),
  (46, [(.iload 5, 0, 0), (.iload 3, 0, 0), (.if_icmp .ge 0, 6, 0), (.goto_w 0, 5, 0)]),
  (52, [(.iload 5, 0, 0), (.goto 0, 7, 0)]),
  (57, [(.iload 3, 0, 0), (.goto_w 0, 7, 0)]),
  (58, [(.istore 3, 0, 0), (.iinc 4 (1), 0, 0), (.goto 0, 1, 0)]),
  (65, [(.iload 3, 0, 0), (.ireturn, 0, 0)])]
def zB_Md_lays : List (Nat × List zEnt) := [(0, [(.aload 0, 0, 0), (.iconst (0), 0, 0), (.putfield 0, 11, 41), (.iconst (1), 0, 0), (.istore 1, 0, 0), (.iconst (0), 0, 0), (.istore 2, 0, 0), (.goto_w 0, 1, 0)]),
  (9, [(.iload 2, 0, 0), (.aload 0, 0, 0), (.getfield 0, 11, 1), (.if_icmp .ge 0, 12, 0), (.goto_w 0, 2, 0)]),
  (17, [(.iconst (0), 0, 0), (.istore 3, 0, 0), (.goto_w 0, 3, 0)]),
  (19, [(.iload 3, 0, 0), (.iconst (12), 0, 0), (.if_icmp .ge 0, 11, 0), (.goto_w 0, 4, 0)]),
  (25, [(.aload 0, 0, 0), (.getfield 0, 11, 14), (.iconst (0), 0, 0), (.iaload, 0, 0), (.iload 2, 0, 0), (.ishr, 0, 0), (.iconst (1), 0, 0), (.iand, 0, 0), (.iconst (1), 0, 0), (.if_icmp .ne 0, 11, 0), (.goto_w 0, 5, 0)]),
  (39, [(.aload 0, 0, 0), (.iload 2, 0, 0), (.iload 3, 0, 0), (.invokevirtual 0, 221, 0), (.istore 4, 0, 0), (.iload 4, 0, 0), (.ifCond .le 0, 10, 0), (.goto_w 0, 6, 0)]),
  (52, [(.aload 0, 0, 0), (.getfield 0, 11, 37), (.aload 0, 0, 0), (.getfield 0, 11, 41), (.iload 2, 0, 0), (.iastore, 0, 0), (.aload 0, 0, 0), (.getfield 0, 11, 38), (.aload 0, 0, 0), (.getfield 0, 11, 41), (.iload 3, 0, 0), (.iastore, 0, 0), (.aload 0, 0, 0), (.getfield 0, 11, 39), (.aload 0, 0, 0), (.getfield 0, 11, 41), (.iload 4, 0, 0), (.iastore, 0, 0), (.aload 0, 0, 0), (.getfield 0, 11, 40), (.aload 0, 0, 0), (.getfield 0, 11, 41), (.iconst (0), 0, 0), (.iastore, 0, 0), (.aload 0, 0, 0), (.dup, 0, 0), (.getfield 0, 11, 41), (.iconst (1), 0, 0), (.iadd, 0, 0), (.putfield 0, 11, 41), (.iload 1, 0, 0), (.iload 4, 0, 0), (.imul, 0, 0), (.iconst (5001), 0, 0), (.if_icmp .le 0, 8, 0), (.goto_w 0, 7, 0)]),
  (113, [(.iconst (5001), 0, 0), (.goto 0, 9, 0)]),
  (119, [(.iload 1, 0, 0), (.iload 4, 0, 0), (.imul, 0, 0), (.goto_w 0, 9, 0)]),
  (123, [(.istore 1, 0, 0), (.goto_w 0, 10, 0)]),
  (124, [(.iinc 3 (1), 0, 0), (.goto 0, 3, 0)]),
  (130, [(.iinc 2 (1), 0, 0), (.goto 0, 1, 0)]),
  (136, [(.iload 1, 0, 0), (.ireturn, 0, 0)])]
def zB_Md_digitOf : List (Nat × List zEnt) := [(0, [(.iconst (0), 0, 0), (.istore 3, 0, 0), (.goto_w 0, 1, 0)]),
  (2, [(.iload 3, 0, 0), (.aload 0, 0, 0), (.getfield 0, 11, 41), (.if_icmp .ge 0, 6, 0), (.goto_w 0, 2, 0)]),
  (10, [(.aload 0, 0, 0), (.getfield 0, 11, 37), (.iload 3, 0, 0), (.iaload, 0, 0), (.iload 1, 0, 0), (.if_icmp .ne 0, 5, 0), (.goto_w 0, 3, 0)]),
  (20, [(.aload 0, 0, 0), (.getfield 0, 11, 38), (.iload 3, 0, 0), (.iaload, 0, 0), (.iload 2, 0, 0), (.if_icmp .ne 0, 5, 0), (.goto_w 0, 4, 0)]),
  (30, [(.iload 3, 0, 0), (.ireturn, 0, 0)]),
  (32, [(.iinc 3 (1), 0, 0), (.goto 0, 1, 0)]),
  (38, [(.iconst (-1), 0, 0), (.ireturn, 0, 0)])]
def zB_Md_countsUp : List (Nat × List zEnt) := [(0, [(.aload 0, 0, 0), (.getfield 0, 11, 41), (.iconst (1), 0, 0), (.isub, 0, 0), (.istore 1, 0, 0), (.goto_w 0, 1, 0)]),
  (7, [(.iload 1, 0, 0), (.ifCond .lt 0, 4, 0), (.goto_w 0, 2, 0)]),
  (11, [(.aload 0, 0, 0), (.getfield 0, 11, 40), (.iload 1, 0, 0), (.iaload, 0, 0), (.aload 0, 0, 0), (.getfield 0, 11, 39), (.iload 1, 0, 0), (.iaload, 0, 0), (.iconst (1), 0, 0), (.isub, 0, 0), (.if_icmp .ne 0, 4, 0), (.goto_w 0, 3, 0)]),
  (28, [(.aload 0, 0, 0), (.getfield 0, 11, 40), (.iload 1, 0, 0), (.iconst (0), 0, 0), (.iastore, 0, 0), (.iinc 1 (-1), 0, 0), (.goto 0, 1, 0)]),
  (41, [(.iload 1, 0, 0), (.ifCond .lt 0, 6, 0), (.goto_w 0, 5, 0)]),
  (45, [(.aload 0, 0, 0), (.getfield 0, 11, 40), (.iload 1, 0, 0), (.dup2, 0, 0), (.iaload, 0, 0), (.iconst (1), 0, 0), (.iadd, 0, 0), (.iastore, 0, 0), (.goto_w 0, 6, 0)]),
  (55, [(.iload 1, 0, 0), (.ifCond .lt 0, 8, 0), (.goto_w 0, 7, 0)]),
  (59, [(.iconst (1), 0, 0), (.goto 0, 9, 0)]),
  (63, [(.iconst (0), 0, 0), (.goto_w 0, 9, 0)]),
  (64, [(.ireturn, 0, 0)])]
def zB_Md_links : List (Nat × List zEnt) := [(0, [(.iconst (0), 0, 0), (.istore 1, 0, 0), (.goto_w 0, 1, 0)]),
  (2, [(.iload 1, 0, 0), (.aload 0, 0, 0), (.getfield 0, 11, 0), (.if_icmp .ge 0, 11, 0), (.goto_w 0, 2, 0)]),
  (10, [(.iconst (0), 0, 0), (.istore 2, 0, 0), (.iconst (0), 0, 0), (.istore 3, 0, 0), (.goto_w 0, 3, 0)]),
  (14, [(.iload 3, 0, 0), (.aload 0, 0, 0), (.getfield 0, 11, 1), (.if_icmp .ge 0, 7, 0), (.goto_w 0, 4, 0)]),
  (22, [(.aload 0, 0, 0), (.getfield 0, 11, 14), (.iconst (0), 0, 0), (.iaload, 0, 0), (.iload 3, 0, 0), (.ishr, 0, 0), (.iconst (1), 0, 0), (.iand, 0, 0), (.iconst (1), 0, 0), (.if_icmp .ne 0, 6, 0), (.goto_w 0, 5, 0)]),
  (36, [(.iload 2, 0, 0), (.aload 0, 0, 0), (.getfield 0, 11, 2), (.iconst (4), 0, 0), (.iload 1, 0, 0), (.imul, 0, 0), (.iload 3, 0, 0), (.iadd, 0, 0), (.iaload, 0, 0), (.imul, 0, 0), (.aload 0, 0, 0), (.getfield 0, 11, 40), (.aload 0, 0, 0), (.iload 3, 0, 0), (.aload 0, 0, 0), (.getfield 0, 11, 6), (.iconst (4), 0, 0), (.iload 1, 0, 0), (.imul, 0, 0), (.iload 3, 0, 0), (.iadd, 0, 0), (.iaload, 0, 0), (.invokevirtual 0, 223, 0), (.iaload, 0, 0), (.iadd, 0, 0), (.istore 2, 0, 0), (.goto_w 0, 6, 0)]),
  (70, [(.iinc 3 (1), 0, 0), (.goto 0, 3, 0)]),
  (76, [(.aload 0, 0, 0), (.getfield 0, 11, 42), (.iload 1, 0, 0), (.iconst (0), 0, 0), (.iastore, 0, 0), (.aload 0, 0, 0), (.iload 1, 0, 0), (.aload 0, 0, 0), (.aload 0, 0, 0), (.getfield 0, 11, 14), (.iconst (0), 0, 0), (.iaload, 0, 0), (.invokevirtual 0, 185, 0), (.invokevirtual 0, 175, 0), (.istore 3, 0, 0), (.iconst (0), 0, 0), (.istore 4, 0, 0), (.goto_w 0, 8, 0)]),
  (102, [(.iload 4, 0, 0), (.iload 3, 0, 0), (.if_icmp .ge 0, 10, 0), (.goto_w 0, 9, 0)]),
  (108, [(.aload 0, 0, 0), (.getfield 0, 11, 42), (.iload 1, 0, 0), (.dup2, 0, 0), (.iaload, 0, 0), (.iconst (1), 0, 0), (.aload 0, 0, 0), (.iload 1, 0, 0), (.aload 0, 0, 0), (.getfield 0, 11, 14), (.iconst (0), 0, 0), (.iaload, 0, 0), (.iload 2, 0, 0), (.iload 4, 0, 0), (.invokevirtual 0, 184, 0), (.ishl, 0, 0), (.ior, 0, 0), (.iastore, 0, 0), (.iinc 4 (1), 0, 0), (.goto 0, 8, 0)]),
  (139, [(.iinc 1 (1), 0, 0), (.goto 0, 1, 0)]),
  (145, [(.return_, 0, 0)])]
def zB_Md_surely : List (Nat × List zEnt) := [(0, [(.iload 2, 0, 0), (.istore 3, 0, 0), (.iconst (-1), 0, 0), (.istore 4, 0, 0), (.goto_w 0, 1, 0)]),
  (5, [(.iload 3, 0, 0), (.iload 4, 0, 0), (.if_icmp .eq 0, 10, 0), (.goto_w 0, 2, 0)]),
  (11, [(.iload 3, 0, 0), (.istore 4, 0, 0), (.iconst (0), 0, 0), (.istore 5, 0, 0), (.goto_w 0, 3, 0)]),
  (17, [(.iload 5, 0, 0), (.aload 0, 0, 0), (.getfield 0, 11, 0), (.if_icmp .ge 0, 9, 0), (.goto_w 0, 4, 0)]),
  (26, [(.iload 3, 0, 0), (.iload 1, 0, 0), (.iload 5, 0, 0), (.ishr, 0, 0), (.iconst (1), 0, 0), (.iand, 0, 0), (.iconst (1), 0, 0), (.if_icmp .ne 0, 7, 0), (.goto_w 0, 5, 0)]),
  (37, [(.aload 0, 0, 0), (.getfield 0, 11, 42), (.iload 5, 0, 0), (.iaload, 0, 0), (.iload 4, 0, 0), (.iconst (-1), 0, 0), (.ixor, 0, 0), (.iand, 0, 0), (.ifCond .ne 0, 7, 0), (.goto_w 0, 6, 0)]),
  (52, [(.iconst (1), 0, 0), (.iload 5, 0, 0), (.ishl, 0, 0), (.goto 0, 8, 0)]),
  (59, [(.iconst (0), 0, 0), (.goto_w 0, 8, 0)]),
  (60, [(.ior, 0, 0), (.istore 3, 0, 0), (.iinc 5 (1), 0, 0), (.goto 0, 3, 0)]),
  (68, [(.goto 0, 1, 0)]),
  (71, [(.iload 3, 0, 0), (.ireturn, 0, 0)])]
def zB_Md_stays : List (Nat × List zEnt) := [(0, [(.iload 1, 0, 0), (.istore 2, 0, 0), (.iconst (-1), 0, 0), (.istore 3, 0, 0), (.goto_w 0, 1, 0)]),
  (4, [(.iload 2, 0, 0), (.iload 3, 0, 0), (.if_icmp .eq 0, 9, 0), (.goto_w 0, 2, 0)]),
  (9, [(.iload 2, 0, 0), (.istore 3, 0, 0), (.iconst (0), 0, 0), (.istore 4, 0, 0), (.goto_w 0, 3, 0)]),
  (14, [(.iload 4, 0, 0), (.aload 0, 0, 0), (.getfield 0, 11, 0), (.if_icmp .ge 0, 8, 0), (.goto_w 0, 4, 0)]),
  (23, [(.iload 2, 0, 0), (.aload 0, 0, 0), (.getfield 0, 11, 42), (.iload 4, 0, 0), (.iaload, 0, 0), (.iload 3, 0, 0), (.iconst (-1), 0, 0), (.ixor, 0, 0), (.iand, 0, 0), (.ifCond .ne 0, 6, 0), (.goto_w 0, 5, 0)]),
  (38, [(.iconst (-1), 0, 0), (.goto 0, 7, 0)]),
  (42, [(.iconst (1), 0, 0), (.iload 4, 0, 0), (.ishl, 0, 0), (.iconst (-1), 0, 0), (.ixor, 0, 0), (.goto_w 0, 7, 0)]),
  (48, [(.iand, 0, 0), (.istore 2, 0, 0), (.iinc 4 (1), 0, 0), (.goto 0, 3, 0)]),
  (56, [(.goto 0, 1, 0)]),
  (59, [(.iload 2, 0, 0), (.ireturn, 0, 0)])]
def zB_Md_does : List (Nat × List zEnt) := [(0, [(.aload 0, 0, 0), (.getfield 0, 11, 27), (.aload 0, 0, 0), (.getfield 0, 11, 12), (.iconst (0), 0, 0), (.iaload, 0, 0), (.iaload, 0, 0), (.istore 1, 0, 0), (.aload 0, 0, 0), (.getfield 0, 11, 11), (.iconst (0), 0, 0), (.iaload, 0, 0), (.iconst (5), 0, 0), (.if_icmp .ne 0, 8, 0), (.goto_w 0, 1, 0)]),
  (22, [(.iconst (0), 0, 0), (.istore 2, 0, 0), (.iconst (0), 0, 0), (.istore 3, 0, 0), (.goto_w 0, 2, 0)]),
  (26, [(.iload 3, 0, 0), (.aload 0, 0, 0), (.getfield 0, 11, 0), (.if_icmp .ge 0, 7, 0), (.goto_w 0, 3, 0)]),
  (34, [(.iload 2, 0, 0), (.aload 0, 0, 0), (.getfield 0, 11, 42), (.iload 3, 0, 0), (.iaload, 0, 0), (.iload 1, 0, 0), (.iconst (-1), 0, 0), (.ixor, 0, 0), (.iand, 0, 0), (.ifCond .ne 0, 5, 0), (.goto_w 0, 4, 0)]),
  (48, [(.iconst (1), 0, 0), (.iload 3, 0, 0), (.ishl, 0, 0), (.goto 0, 6, 0)]),
  (54, [(.iconst (0), 0, 0), (.goto_w 0, 6, 0)]),
  (55, [(.ior, 0, 0), (.istore 2, 0, 0), (.iinc 3 (1), 0, 0), (.goto 0, 2, 0)]),
  (63, [(.iload 2, 0, 0), (.ireturn, 0, 0)]),
  (65, [(.aload 0, 0, 0), (.getfield 0, 11, 11), (.iconst (0), 0, 0), (.iaload, 0, 0), (.iconst (6), 0, 0), (.if_icmp .ne 0, 10, 0), (.goto_w 0, 9, 0)]),
  (76, [(.aload 0, 0, 0), (.iload 1, 0, 0), (.invokevirtual 0, 227, 0), (.ireturn, 0, 0)]),
  (82, [(.aload 0, 0, 0), (.getfield 0, 11, 11), (.iconst (0), 0, 0), (.iaload, 0, 0), (.iconst (8), 0, 0), (.if_icmp .ne 0, 12, 0), (.goto_w 0, 11, 0)]),
  (93, [(.aload 0, 0, 0), (.aload 0, 0, 0), (.aload 0, 0, 0), (.invokevirtual 0, 196, 0), (.iload 1, 0, 0), (.invokevirtual 0, 226, 0), (.invokevirtual 0, 227, 0), (.ireturn, 0, 0)]),
  (107, [(.aload 0, 0, 0), (.getfield 0, 11, 11), (.iconst (0), 0, 0), (.iaload, 0, 0), (.iconst (7), 0, 0), (.if_icmp .ne 0, 14, 0), (.goto_w 0, 13, 0)]),
  (118, [(.aload 0, 0, 0), (.aload 0, 0, 0), (.invokevirtual 0, 196, 0), (.iload 1, 0, 0), (.invokevirtual 0, 226, 0), (.goto 0, 15, 0)]),
  (130, [(.aload 0, 0, 0), (.iload 1, 0, 0), (.aload 0, 0, 0), (.getfield 0, 11, 27), (.aload 0, 0, 0), (.getfield 0, 11, 13), (.iconst (0), 0, 0), (.iaload, 0, 0), (.iaload, 0, 0), (.invokevirtual 0, 226, 0), (.goto_w 0, 15, 0)]),
  (146, [(.ireturn, 0, 0)])]
def zB_Md_fits : List (Nat × List zEnt) := [(0, [(.iconst (1), 0, 0), (.iload 1, 0, 0), (.ishl, 0, 0), (.istore 2, 0, 0), (.iconst (0), 0, 0), (.istore 3, 0, 0), (.goto_w 0, 1, 0)]),
  (6, [(.iload 3, 0, 0), (.aload 0, 0, 0), (.getfield 0, 11, 1), (.if_icmp .ge 0, 10, 0), (.goto_w 0, 2, 0)]),
  (14, [(.iconst (0), 0, 0), (.istore 4, 0, 0), (.goto_w 0, 3, 0)]),
  (17, [(.iload 4, 0, 0), (.aload 0, 0, 0), (.getfield 0, 11, 0), (.if_icmp .ge 0, 9, 0), (.goto_w 0, 4, 0)]),
  (26, [(.aload 0, 0, 0), (.getfield 0, 11, 14), (.iconst (0), 0, 0), (.iaload, 0, 0), (.iload 3, 0, 0), (.ishr, 0, 0), (.iconst (1), 0, 0), (.iand, 0, 0), (.iconst (1), 0, 0), (.if_icmp .ne 0, 9, 0), (.goto_w 0, 5, 0)]),
  (40, [(.iload 2, 0, 0), (.aload 0, 0, 0), (.getfield 0, 11, 6), (.iconst (4), 0, 0), (.iload 4, 0, 0), (.imul, 0, 0), (.iload 3, 0, 0), (.iadd, 0, 0), (.iaload, 0, 0), (.aload 0, 0, 0), (.getfield 0, 11, 6), (.iconst (4), 0, 0), (.iload 1, 0, 0), (.imul, 0, 0), (.iload 3, 0, 0), (.iadd, 0, 0), (.iaload, 0, 0), (.if_icmp .ne 0, 7, 0), (.goto_w 0, 6, 0)]),
  (65, [(.iconst (1), 0, 0), (.iload 4, 0, 0), (.ishl, 0, 0), (.goto 0, 8, 0)]),
  (72, [(.iconst (0), 0, 0), (.goto_w 0, 8, 0)]),
  (73, [(.ior, 0, 0), (.istore 2, 0, 0), (.iinc 4 (1), 0, 0), (.goto 0, 3, 0)]),
  (81, [(.iinc 3 (1), 0, 0), (.goto 0, 1, 0)]),
  (87, [(.iload 2, 0, 0), (.ireturn, 0, 0)])]
def zB_Md_seeks : List (Nat × List zEnt) := [(0, [(.aload 0, 0, 0), (.invokevirtual 0, 222, 0), (.iconst (5000), 0, 0), (.if_icmp .le 0, 2, 0), (.goto_w 0, 1, 0)]),
  (10, [(.iconst (-5), 0, 0), (.ireturn, 0, 0)]),
  (13, [(.aload 0, 0, 0), (.invokevirtual 0, 202, 0), (.istore 2, 0, 0), (.aload 0, 0, 0), (.iload 1, 0, 0), (.invokevirtual 0, 229, 0), (.istore 3, 0, 0), (.iconst (1), 0, 0), (.istore 4, 0, 0), (.goto_w 0, 3, 0)]),
  (27, [(.iload 4, 0, 0), (.ifCond .eq 0, 7, 0), (.goto_w 0, 4, 0)]),
  (32, [(.aload 0, 0, 0), (.invokevirtual 0, 225, 0), (.iload 3, 0, 0), (.aload 0, 0, 0), (.invokevirtual 0, 228, 0), (.iconst (-1), 0, 0), (.ixor, 0, 0), (.iand, 0, 0), (.ifCond .ne 0, 6, 0), (.goto_w 0, 5, 0)]),
  (47, [(.iconst (1), 0, 0), (.ireturn, 0, 0)]),
  (49, [(.aload 0, 0, 0), (.invokevirtual 0, 224, 0), (.istore 4, 0, 0), (.goto 0, 3, 0)]),
  (58, [(.iload 2, 0, 0), (.ifCond .ge 0, 9, 0), (.goto_w 0, 8, 0)]),
  (62, [(.iconst (-1), 0, 0), (.goto 0, 10, 0)]),
  (66, [(.iconst (0), 0, 0), (.goto_w 0, 10, 0)]),
  (67, [(.ireturn, 0, 0)])]
def zB_Md_blind : List (Nat × List zEnt) := [(0, [(.aload 0, 0, 0), (.iload 1, 0, 0), (.invokevirtual 0, 170, 0), (.ifCond .ne 0, 2, 0), (.goto_w 0, 1, 0)]),
  (8, [(.iconst (-1), 0, 0), (.ireturn, 0, 0)]),
  (10, [(.aload 0, 0, 0), (.invokevirtual 0, 205, 0), (.ifCond .eq 0, 4, 0), (.goto_w 0, 3, 0)]),
  (17, [(.aload 0, 0, 0), (.iload 1, 0, 0), (.invokevirtual 0, 230, 0), (.goto 0, 5, 0)]),
  (25, [(.iconst (-2), 0, 0), (.goto_w 0, 5, 0)]),
  (27, [(.ireturn, 0, 0)])]
def zB_Md_blindMove : List (Nat × List zEnt) := [(0, [(.aload 0, 0, 0), (.iload 1, 0, 0), (.invokevirtual 0, 170, 0), (.ifCond .eq 0, 3, 0), (.goto_w 0, 1, 0)]),
  (8, [(.aload 0, 0, 0), (.iload 2, 0, 0), (.invokevirtual 0, 171, 0), (.ifCond .eq 0, 3, 0), (.goto_w 0, 2, 0)]),
  (16, [(.iload 3, 0, 0), (.i2l, 0, 0), (.sipush (0), 0, 0), (.sipush (11), 0, 0), (.invokestatic 0, 166, 0), (.ifCond .ne 0, 4, 0), (.goto_w 0, 3, 0)]),
  (28, [(.iconst (-1), 0, 0), (.ireturn, 0, 0)]),
  (30, [(.aload 0, 0, 0), (.invokevirtual 0, 205, 0), (.ifCond .ne 0, 6, 0), (.goto_w 0, 5, 0)]),
  (37, [(.iconst (-2), 0, 0), (.ireturn, 0, 0)]),
  (40, [(.aload 0, 0, 0), (.getfield 0, 11, 14), (.iconst (0), 0, 0), (.iaload, 0, 0), (.iload 2, 0, 0), (.ishr, 0, 0), (.iconst (1), 0, 0), (.iand, 0, 0), (.ifCond .eq 0, 8, 0), (.goto_w 0, 7, 0)]),
  (53, [(.aload 0, 0, 0), (.iload 2, 0, 0), (.iload 3, 0, 0), (.invokevirtual 0, 221, 0), (.ifCond .ne 0, 9, 0), (.goto_w 0, 8, 0)]),
  (62, [(.iconst (-1), 0, 0), (.ireturn, 0, 0)]),
  (64, [(.aload 0, 0, 0), (.iload 1, 0, 0), (.invokevirtual 0, 230, 0), (.istore 4, 0, 0), (.iload 4, 0, 0), (.ifCond .ge 0, 11, 0), (.goto_w 0, 10, 0)]),
  (76, [(.iload 4, 0, 0), (.goto 0, 14, 0)]),
  (81, [(.iload 4, 0, 0), (.ifCond .ne 0, 13, 0), (.goto_w 0, 12, 0)]),
  (86, [(.iconst (-4), 0, 0), (.goto 0, 14, 0)]),
  (91, [(.aload 0, 0, 0), (.getfield 0, 11, 40), (.aload 0, 0, 0), (.iload 2, 0, 0), (.iload 3, 0, 0), (.invokevirtual 0, 223, 0), (.iaload, 0, 0), (.goto_w 0, 14, 0)]),
  (102, [(.ireturn, 0, 0)])]
def zB_Md_choose : List (Nat × List zEnt) := [(0, [(.aload 0, 0, 0), (.iload 1, 0, 0), (.invokevirtual 0, 171, 0), (.ifCond .eq 0, 3, 0), (.goto_w 0, 1, 0)]),
  (8, [(.aload 0, 0, 0), (.iload 2, 0, 0), (.invokevirtual 0, 170, 0), (.ifCond .eq 0, 3, 0), (.goto_w 0, 2, 0)]),
  (16, [(.iload 3, 0, 0), (.i2l, 0, 0), (.sipush (0), 0, 0), (.aload 0, 0, 0), (.getfield 0, 11, 2), (.iconst (4), 0, 0), (.iload 2, 0, 0), (.imul, 0, 0), (.iload 1, 0, 0), (.iadd, 0, 0), (.iaload, 0, 0), (.iconst (1), 0, 0), (.isub, 0, 0), (.i2l, 0, 0), (.invokestatic 0, 166, 0), (.ifCond .ne 0, 4, 0), (.goto_w 0, 3, 0)]),
  (38, [(.iconst (-1), 0, 0), (.ireturn, 0, 0)]),
  (40, [(.aload 0, 0, 0), (.getfield 0, 11, 7), (.iconst (4), 0, 0), (.iload 2, 0, 0), (.imul, 0, 0), (.iload 1, 0, 0), (.iadd, 0, 0), (.iaload, 0, 0), (.istore 4, 0, 0), (.aload 0, 0, 0), (.getfield 0, 11, 7), (.iconst (4), 0, 0), (.iload 2, 0, 0), (.imul, 0, 0), (.iload 1, 0, 0), (.iadd, 0, 0), (.iload 3, 0, 0), (.iastore, 0, 0), (.iload 4, 0, 0), (.ireturn, 0, 0)])]
def zB_Md_lot : List (Nat × List zEnt) := [(0, [(.iload 1, 0, 0), (.i2l, 0, 0), (.sipush (-1), 0, 0), (.aload 0, 0, 0), (.getfield 0, 11, 1), (.iconst (1), 0, 0), (.isub, 0, 0), (.i2l, 0, 0), (.invokestatic 0, 166, 0), (.ifCond .ne 0, 2, 0), (.goto_w 0, 1, 0)]),
  (18, [(.iconst (-11), 0, 0), (.ireturn, 0, 0)]),
  (21, [(.aload 0, 0, 0), (.getfield 0, 11, 9), (.istore 2, 0, 0), (.aload 0, 0, 0), (.iload 1, 0, 0), (.putfield 0, 11, 9), (.iload 2, 0, 0), (.ireturn, 0, 0)])]
def zB_Md_leadsWith : List (Nat × List zEnt) := [(0, [(.iconst (0), 0, 0), (.istore 4, 0, 0), (.iconst (0), 0, 0), (.istore 5, 0, 0), (.goto_w 0, 1, 0)]),
  (6, [(.iload 5, 0, 0), (.aload 0, 0, 0), (.getfield 0, 11, 1), (.if_icmp .ge 0, 6, 0), (.goto_w 0, 2, 0)]),
  (15, [(.iload 4, 0, 0), (.aload 0, 0, 0), (.getfield 0, 11, 2), (.iconst (4), 0, 0), (.iload 1, 0, 0), (.imul, 0, 0), (.iload 5, 0, 0), (.iadd, 0, 0), (.iaload, 0, 0), (.imul, 0, 0), (.iload 5, 0, 0), (.iload 2, 0, 0), (.if_icmp .ne 0, 4, 0), (.goto_w 0, 3, 0)]),
  (35, [(.iload 3, 0, 0), (.goto 0, 5, 0)]),
  (39, [(.aload 0, 0, 0), (.getfield 0, 11, 7), (.iconst (4), 0, 0), (.iload 1, 0, 0), (.imul, 0, 0), (.iload 5, 0, 0), (.iadd, 0, 0), (.iaload, 0, 0), (.goto_w 0, 5, 0)]),
  (50, [(.iadd, 0, 0), (.istore 4, 0, 0), (.iinc 5 (1), 0, 0), (.goto 0, 1, 0)]),
  (59, [(.aload 0, 0, 0), (.getfield 0, 11, 3), (.iconst (81), 0, 0), (.iload 1, 0, 0), (.imul, 0, 0), (.iload 4, 0, 0), (.iadd, 0, 0), (.iaload, 0, 0), (.ireturn, 0, 0)])]
def zB_Md_lotMany : List (Nat × List zEnt) := [(0, [(.aload 0, 0, 0), (.getfield 0, 11, 9), (.ifCond .ge 0, 2, 0), (.goto_w 0, 1, 0)]),
  (7, [(.iconst (1), 0, 0), (.goto 0, 3, 0)]),
  (11, [(.aload 0, 0, 0), (.getfield 0, 11, 2), (.iconst (4), 0, 0), (.iload 1, 0, 0), (.imul, 0, 0), (.aload 0, 0, 0), (.getfield 0, 11, 9), (.iadd, 0, 0), (.iaload, 0, 0), (.goto_w 0, 3, 0)]),
  (24, [(.ireturn, 0, 0)])]
def zB_Md_common : List (Nat × List zEnt) := [(0, [(.lload 0, 0, 0), (.sipush (0), 0, 0), (.lcmp, 0, 0), (.ifCond .ge 0, 2, 0), (.goto_w 0, 1, 0)]),
  (6, [(.sipush (0), 0, 0), (.lload 0, 0, 0), (.lsub, 0, 0), (.goto 0, 3, 0)]),
  (12, [(.lload 0, 0, 0), (.goto_w 0, 3, 0)]),
  (13, [(.lstore 4, 0, 0), (.lload 2, 0, 0), (.sipush (0), 0, 0), (.lcmp, 0, 0), (.ifCond .ge 0, 5, 0), (.goto_w 0, 4, 0)]),
  (21, [(.sipush (0), 0, 0), (.lload 2, 0, 0), (.lsub, 0, 0), (.goto 0, 6, 0)]),
  (27, [(.lload 2, 0, 0), (.goto_w 0, 6, 0)]),
  (28, [(.lstore 6, 0, 0), (.goto_w 0, 7, 0)]),
  (30, [(.lload 6, 0, 0), (.sipush (0), 0, 0), (.lcmp, 0, 0), (.ifCond .eq 0, 9, 0), (.goto_w 0, 8, 0)]),
  (37, [(.lload 4, 0, 0), (.lload 6, 0, 0), (.lrem, 0, 0), (.lstore 8, 0, 0), (.lload 6, 0, 0), (.lstore 4, 0, 0), (.lload 8, 0, 0), (.lstore 6, 0, 0), (.goto 0, 7, 0)]),
  (55, [(.lload 4, 0, 0), (.lreturn, 0, 0)])]
def zB_Md_coming : List (Nat × List zEnt) := [(0, [(.iload 1, 0, 0), (.istore 2, 0, 0), (.iconst (-1), 0, 0), (.istore 3, 0, 0), (.goto_w 0, 1, 0)]),
  (4, [(.iload 2, 0, 0), (.iload 3, 0, 0), (.if_icmp .eq 0, 9, 0), (.goto_w 0, 2, 0)]),
  (9, [(.iload 2, 0, 0), (.istore 3, 0, 0), (.iconst (0), 0, 0), (.istore 4, 0, 0), (.goto_w 0, 3, 0)]),
  (14, [(.iload 4, 0, 0), (.aload 0, 0, 0), (.getfield 0, 11, 0), (.if_icmp .ge 0, 8, 0), (.goto_w 0, 4, 0)]),
  (23, [(.iconst (0), 0, 0), (.istore 5, 0, 0), (.goto_w 0, 5, 0)]),
  (26, [(.iload 5, 0, 0), (.aload 0, 0, 0), (.iload 4, 0, 0), (.invokevirtual 0, 236, 0), (.if_icmp .ge 0, 7, 0), (.goto_w 0, 6, 0)]),
  (37, [(.iload 2, 0, 0), (.iload 3, 0, 0), (.aload 0, 0, 0), (.iload 4, 0, 0), (.aload 0, 0, 0), (.getfield 0, 11, 9), (.iload 5, 0, 0), (.invokevirtual 0, 235, 0), (.ishr, 0, 0), (.iconst (1), 0, 0), (.iand, 0, 0), (.iload 4, 0, 0), (.ishl, 0, 0), (.ior, 0, 0), (.istore 2, 0, 0), (.iinc 5 (1), 0, 0), (.goto 0, 5, 0)]),
  (65, [(.iinc 4 (1), 0, 0), (.goto 0, 3, 0)]),
  (71, [(.goto 0, 1, 0)]),
  (74, [(.iload 2, 0, 0), (.ireturn, 0, 0)])]
def zB_Md_equations : List (Nat × List zEnt) := [(0, [(.iconst (0), 0, 0), (.istore 3, 0, 0), (.goto_w 0, 1, 0)]),
  (2, [(.iload 3, 0, 0), (.iconst (156), 0, 0), (.if_icmp .ge 0, 3, 0), (.goto_w 0, 2, 0)]),
  (9, [(.aload 0, 0, 0), (.getfield 0, 11, 43), (.iload 3, 0, 0), (.sipush (0), 0, 0), (.lastore, 0, 0), (.iinc 3 (1), 0, 0), (.goto 0, 1, 0)]),
  (22, [(.iconst (0), 0, 0), (.istore 3, 0, 0), (.goto_w 0, 4, 0)]),
  (24, [(.iload 3, 0, 0), (.aload 0, 0, 0), (.getfield 0, 11, 0), (.if_icmp .ge 0, 24, 0), (.goto_w 0, 5, 0)]),
  (32, [(.iload 1, 0, 0), (.iload 3, 0, 0), (.ishr, 0, 0), (.iconst (1), 0, 0), (.iand, 0, 0), (.iconst (1), 0, 0), (.if_icmp .ne 0, 7, 0), (.goto_w 0, 6, 0)]),
  (41, [(.iconst (1), 0, 0), (.goto 0, 8, 0)]),
  (45, [(.iconst (0), 0, 0), (.goto_w 0, 8, 0)]),
  (46, [(.istore 4, 0, 0), (.iload 2, 0, 0), (.iload 3, 0, 0), (.ishr, 0, 0), (.iconst (1), 0, 0), (.iand, 0, 0), (.iconst (1), 0, 0), (.if_icmp .ne 0, 10, 0), (.goto_w 0, 9, 0)]),
  (57, [(.iconst (1), 0, 0), (.goto 0, 11, 0)]),
  (61, [(.iconst (0), 0, 0), (.goto_w 0, 11, 0)]),
  (62, [(.istore 5, 0, 0), (.aload 0, 0, 0), (.getfield 0, 11, 43), (.iconst (13), 0, 0), (.iload 3, 0, 0), (.imul, 0, 0), (.iload 3, 0, 0), (.iadd, 0, 0), (.iload 4, 0, 0), (.ifCond .ne 0, 13, 0), (.goto_w 0, 12, 0)]),
  (79, [(.iload 5, 0, 0), (.ifCond .ne 0, 14, 0), (.goto_w 0, 13, 0)]),
  (84, [(.sipush (1), 0, 0), (.goto 0, 15, 0)]),
  (88, [(.aload 0, 0, 0), (.iload 3, 0, 0), (.invokevirtual 0, 236, 0), (.i2l, 0, 0), (.goto_w 0, 15, 0)]),
  (94, [(.lastore, 0, 0), (.aload 0, 0, 0), (.getfield 0, 11, 43), (.iconst (13), 0, 0), (.iload 3, 0, 0), (.imul, 0, 0), (.iconst (12), 0, 0), (.iadd, 0, 0), (.iload 4, 0, 0), (.ifCond .eq 0, 17, 0), (.goto_w 0, 16, 0)]),
  (111, [(.sipush (1), 0, 0), (.goto 0, 18, 0)]),
  (115, [(.sipush (0), 0, 0), (.goto_w 0, 18, 0)]),
  (116, [(.lastore, 0, 0), (.iconst (0), 0, 0), (.istore 6, 0, 0), (.goto_w 0, 19, 0)]),
  (120, [(.iload 6, 0, 0), (.aload 0, 0, 0), (.iload 3, 0, 0), (.invokevirtual 0, 236, 0), (.if_icmp .ge 0, 23, 0), (.goto_w 0, 20, 0)]),
  (130, [(.iload 5, 0, 0), (.ifCond .eq 0, 23, 0), (.goto_w 0, 21, 0)]),
  (135, [(.iload 4, 0, 0), (.ifCond .ne 0, 23, 0), (.goto_w 0, 22, 0)]),
  (140, [(.aload 0, 0, 0), (.getfield 0, 11, 43), (.iconst (13), 0, 0), (.iload 3, 0, 0), (.imul, 0, 0), (.aload 0, 0, 0), (.iload 3, 0, 0), (.aload 0, 0, 0), (.getfield 0, 11, 9), (.iload 6, 0, 0), (.invokevirtual 0, 235, 0), (.iadd, 0, 0), (.dup2, 0, 0), (.laload, 0, 0), (.sipush (1), 0, 0), (.lsub, 0, 0), (.lastore, 0, 0), (.iinc 6 (1), 0, 0), (.goto 0, 19, 0)]),
  (171, [(.iinc 3 (1), 0, 0), (.goto 0, 4, 0)]),
  (177, [(.return_, 0, 0)])]
def zB_Md_shorten : List (Nat × List zEnt) := [(0, [(.sipush (0), 0, 0), (.lstore 2, 0, 0), (.iconst (0), 0, 0), (.istore 4, 0, 0), (.goto_w 0, 1, 0)]),
  (5, [(.iload 4, 0, 0), (.iconst (13), 0, 0), (.if_icmp .ge 0, 3, 0), (.goto_w 0, 2, 0)]),
  (12, [(.lload 2, 0, 0), (.aload 0, 0, 0), (.getfield 0, 11, 43), (.iconst (13), 0, 0), (.iload 1, 0, 0), (.imul, 0, 0), (.iload 4, 0, 0), (.iadd, 0, 0), (.laload, 0, 0), (.invokestatic 0, 237, 0), (.lstore 2, 0, 0), (.iinc 4 (1), 0, 0), (.goto 0, 1, 0)]),
  (35, [(.iconst (0), 0, 0), (.istore 4, 0, 0), (.goto_w 0, 4, 0)]),
  (38, [(.iload 4, 0, 0), (.iconst (13), 0, 0), (.if_icmp .ge 0, 7, 0), (.goto_w 0, 5, 0)]),
  (45, [(.lload 2, 0, 0), (.sipush (1), 0, 0), (.lcmp, 0, 0), (.ifCond .le 0, 7, 0), (.goto_w 0, 6, 0)]),
  (51, [(.aload 0, 0, 0), (.getfield 0, 11, 43), (.iconst (13), 0, 0), (.iload 1, 0, 0), (.imul, 0, 0), (.iload 4, 0, 0), (.iadd, 0, 0), (.dup2, 0, 0), (.laload, 0, 0), (.lload 2, 0, 0), (.ldiv, 0, 0), (.lastore, 0, 0), (.iinc 4 (1), 0, 0), (.goto 0, 4, 0)]),
  (73, [(.return_, 0, 0)])]
def zB_Md_swap : List (Nat × List zEnt) := [(0, [(.iconst (0), 0, 0), (.istore 3, 0, 0), (.goto_w 0, 1, 0)]),
  (2, [(.iload 3, 0, 0), (.iconst (13), 0, 0), (.if_icmp .ge 0, 3, 0), (.goto_w 0, 2, 0)]),
  (8, [(.aload 0, 0, 0), (.getfield 0, 11, 43), (.iconst (13), 0, 0), (.iload 1, 0, 0), (.imul, 0, 0), (.iload 3, 0, 0), (.iadd, 0, 0), (.laload, 0, 0), (.lstore 4, 0, 0), (.aload 0, 0, 0), (.getfield 0, 11, 43), (.iconst (13), 0, 0), (.iload 1, 0, 0), (.imul, 0, 0), (.iload 3, 0, 0), (.iadd, 0, 0), (.aload 0, 0, 0), (.getfield 0, 11, 43), (.iconst (13), 0, 0), (.iload 2, 0, 0), (.imul, 0, 0), (.iload 3, 0, 0), (.iadd, 0, 0), (.laload, 0, 0), (.lastore, 0, 0), (.aload 0, 0, 0), (.getfield 0, 11, 43), (.iconst (13), 0, 0), (.iload 2, 0, 0), (.imul, 0, 0), (.iload 3, 0, 0), (.iadd, 0, 0), (.lload 4, 0, 0), (.lastore, 0, 0), (.iinc 3 (1), 0, 0), (.goto 0, 1, 0)]),
  (62, [(.return_, 0, 0)])]
def zB_Md_solve : List (Nat × List zEnt) := [(0, [(.iconst (0), 0, 0), (.istore 1, 0, 0), (.goto_w 0, 1, 0)]),
  (2, [(.iload 1, 0, 0), (.aload 0, 0, 0), (.getfield 0, 11, 0), (.if_icmp .ge 0, 15, 0), (.goto_w 0, 2, 0)]),
  (10, [(.iload 1, 0, 0), (.istore 2, 0, 0), (.goto_w 0, 3, 0)]),
  (12, [(.aload 0, 0, 0), (.getfield 0, 11, 43), (.iconst (13), 0, 0), (.iload 2, 0, 0), (.imul, 0, 0), (.iload 1, 0, 0), (.iadd, 0, 0), (.laload, 0, 0), (.sipush (0), 0, 0), (.lcmp, 0, 0), (.ifCond .ne 0, 5, 0), (.goto_w 0, 4, 0)]),
  (28, [(.iinc 2 (1), 0, 0), (.goto 0, 3, 0)]),
  (34, [(.aload 0, 0, 0), (.iload 1, 0, 0), (.iload 2, 0, 0), (.invokevirtual 0, 241, 0), (.iconst (0), 0, 0), (.istore 3, 0, 0), (.goto_w 0, 6, 0)]),
  (42, [(.iload 3, 0, 0), (.aload 0, 0, 0), (.getfield 0, 11, 0), (.if_icmp .ge 0, 14, 0), (.goto_w 0, 7, 0)]),
  (50, [(.iload 3, 0, 0), (.iload 1, 0, 0), (.if_icmp .eq 0, 13, 0), (.goto_w 0, 8, 0)]),
  (55, [(.aload 0, 0, 0), (.getfield 0, 11, 43), (.iconst (13), 0, 0), (.iload 3, 0, 0), (.imul, 0, 0), (.iload 1, 0, 0), (.iadd, 0, 0), (.laload, 0, 0), (.sipush (0), 0, 0), (.lcmp, 0, 0), (.ifCond .eq 0, 13, 0), (.goto_w 0, 9, 0)]),
  (71, [(.aload 0, 0, 0), (.getfield 0, 11, 43), (.iconst (13), 0, 0), (.iload 3, 0, 0), (.imul, 0, 0), (.iload 1, 0, 0), (.iadd, 0, 0), (.laload, 0, 0), (.aload 0, 0, 0), (.getfield 0, 11, 43), (.iconst (13), 0, 0), (.iload 1, 0, 0), (.imul, 0, 0), (.iload 1, 0, 0), (.iadd, 0, 0), (.laload, 0, 0), (.invokestatic 0, 237, 0), (.lstore 4, 0, 0), (.aload 0, 0, 0), (.getfield 0, 11, 43), (.iconst (13), 0, 0), (.iload 1, 0, 0), (.imul, 0, 0), (.iload 1, 0, 0), (.iadd, 0, 0), (.laload, 0, 0), (.lload 4, 0, 0), (.ldiv, 0, 0), (.lstore 6, 0, 0), (.aload 0, 0, 0), (.getfield 0, 11, 43), (.iconst (13), 0, 0), (.iload 3, 0, 0), (.imul, 0, 0), (.iload 1, 0, 0), (.iadd, 0, 0), (.laload, 0, 0), (.lload 4, 0, 0), (.ldiv, 0, 0), (.lstore 8, 0, 0), (.iconst (0), 0, 0), (.istore 10, 0, 0), (.goto_w 0, 10, 0)]),
  (133, [(.iload 10, 0, 0), (.iconst (13), 0, 0), (.if_icmp .ge 0, 12, 0), (.goto_w 0, 11, 0)]),
  (140, [(.aload 0, 0, 0), (.getfield 0, 11, 43), (.iconst (13), 0, 0), (.iload 3, 0, 0), (.imul, 0, 0), (.iload 10, 0, 0), (.iadd, 0, 0), (.aload 0, 0, 0), (.getfield 0, 11, 43), (.iconst (13), 0, 0), (.iload 3, 0, 0), (.imul, 0, 0), (.iload 10, 0, 0), (.iadd, 0, 0), (.laload, 0, 0), (.lload 6, 0, 0), (.lmul, 0, 0), (.aload 0, 0, 0), (.getfield 0, 11, 43), (.iconst (13), 0, 0), (.iload 1, 0, 0), (.imul, 0, 0), (.iload 10, 0, 0), (.iadd, 0, 0), (.laload, 0, 0), (.lload 8, 0, 0), (.lmul, 0, 0), (.lsub, 0, 0), (.lastore, 0, 0), (.iinc 10 (1), 0, 0), (.goto 0, 10, 0)]),
  (189, [(.aload 0, 0, 0), (.iload 3, 0, 0), (.invokevirtual 0, 240, 0), (.goto_w 0, 13, 0)]),
  (194, [(.iinc 3 (1), 0, 0), (.goto 0, 6, 0)]),
  (200, [(.iinc 1 (1), 0, 0), (.goto 0, 1, 0)]),
  (206, [(.return_, 0, 0)])]
def zB_Md_chance : List (Nat × List zEnt) := [(0, [(.aload 0, 0, 0), (.iload 1, 0, 0), (.invokevirtual 0, 170, 0), (.ifCond .eq 0, 2, 0), (.goto_w 0, 1, 0)]),
  (8, [(.iload 2, 0, 0), (.i2l, 0, 0), (.sipush (0), 0, 0), (.sipush (1), 0, 0), (.invokestatic 0, 166, 0), (.ifCond .ne 0, 3, 0), (.goto_w 0, 2, 0)]),
  (18, [(.sipush (-1), 0, 0), (.lreturn, 0, 0)]),
  (22, [(.aload 0, 0, 0), (.invokevirtual 0, 202, 0), (.istore 3, 0, 0), (.aload 0, 0, 0), (.iload 3, 0, 0), (.aload 0, 0, 0), (.iload 3, 0, 0), (.invokevirtual 0, 238, 0), (.invokevirtual 0, 239, 0), (.aload 0, 0, 0), (.invokevirtual 0, 242, 0), (.aload 0, 0, 0), (.aload 0, 0, 0), (.getfield 0, 11, 43), (.iconst (13), 0, 0), (.iload 1, 0, 0), (.imul, 0, 0), (.iconst (12), 0, 0), (.iadd, 0, 0), (.laload, 0, 0), (.putfield 0, 11, 44), (.aload 0, 0, 0), (.aload 0, 0, 0), (.getfield 0, 11, 43), (.iconst (13), 0, 0), (.iload 1, 0, 0), (.imul, 0, 0), (.iload 1, 0, 0), (.iadd, 0, 0), (.laload, 0, 0), (.putfield 0, 11, 45), (.aload 0, 0, 0), (.getfield 0, 11, 44), (.aload 0, 0, 0), (.getfield 0, 11, 45), (.invokestatic 0, 237, 0), (.lstore 4, 0, 0), (.aload 0, 0, 0), (.getfield 0, 11, 45), (.sipush (0), 0, 0), (.lcmp, 0, 0), (.ifCond .ge 0, 5, 0), (.goto_w 0, 4, 0)]),
  (94, [(.sipush (0), 0, 0), (.lload 4, 0, 0), (.lsub, 0, 0), (.goto 0, 6, 0)]),
  (101, [(.lload 4, 0, 0), (.goto_w 0, 6, 0)]),
  (103, [(.lstore 4, 0, 0), (.iload 2, 0, 0), (.ifCond .ne 0, 8, 0), (.goto_w 0, 7, 0)]),
  (109, [(.aload 0, 0, 0), (.getfield 0, 11, 44), (.goto 0, 9, 0)]),
  (116, [(.aload 0, 0, 0), (.getfield 0, 11, 45), (.goto_w 0, 9, 0)]),
  (120, [(.lload 4, 0, 0), (.ldiv, 0, 0), (.lreturn, 0, 0)])]
def zB_Md_goal : List (Nat × List zEnt) := [(0, [(.aload 0, 0, 0), (.iload 1, 0, 0), (.invokevirtual 0, 171, 0), (.ifCond .eq 0, 2, 0), (.goto_w 0, 1, 0)]),
  (8, [(.aload 0, 0, 0), (.iload 2, 0, 0), (.invokevirtual 0, 172, 0), (.ifCond .ne 0, 3, 0), (.goto_w 0, 2, 0)]),
  (16, [(.iconst (-1), 0, 0), (.ireturn, 0, 0)]),
  (18, [(.aload 0, 0, 0), (.getfield 0, 11, 8), (.iload 1, 0, 0), (.iaload, 0, 0), (.istore 3, 0, 0), (.aload 0, 0, 0), (.getfield 0, 11, 8), (.iload 1, 0, 0), (.iload 2, 0, 0), (.iastore, 0, 0), (.iload 3, 0, 0), (.ireturn, 0, 0)])]
def zB_Md_way : List (Nat × List zEnt) := [(0, [(.iconst (0), 0, 0), (.istore 2, 0, 0), (.iload 1, 0, 0), (.istore 3, 0, 0), (.goto_w 0, 1, 0)]),
  (4, [(.iload 2, 0, 0), (.iload 3, 0, 0), (.ishr, 0, 0), (.iconst (1), 0, 0), (.iand, 0, 0), (.ifCond .ne 0, 3, 0), (.goto_w 0, 2, 0)]),
  (12, [(.iload 2, 0, 0), (.iconst (1), 0, 0), (.iload 3, 0, 0), (.ishl, 0, 0), (.ior, 0, 0), (.istore 2, 0, 0), (.aload 0, 0, 0), (.iload 3, 0, 0), (.iconst (-1), 0, 0), (.iconst (0), 0, 0), (.invokevirtual 0, 235, 0), (.istore 3, 0, 0), (.goto 0, 1, 0)]),
  (29, [(.iload 2, 0, 0), (.ireturn, 0, 0)])]
def zB_Md_contentOf : List (Nat × List zEnt) := [(0, [(.aload 0, 0, 0), (.iload 1, 0, 0), (.invokevirtual 0, 245, 0), (.istore 2, 0, 0), (.iconst (0), 0, 0), (.istore 3, 0, 0), (.iconst (0), 0, 0), (.istore 4, 0, 0), (.goto_w 0, 1, 0)]),
  (11, [(.iload 4, 0, 0), (.aload 0, 0, 0), (.getfield 0, 11, 1), (.if_icmp .ge 0, 6, 0), (.goto_w 0, 2, 0)]),
  (20, [(.iload 3, 0, 0), (.iload 2, 0, 0), (.aload 0, 0, 0), (.getfield 0, 11, 8), (.iload 4, 0, 0), (.iaload, 0, 0), (.iand, 0, 0), (.ifCond .eq 0, 4, 0), (.goto_w 0, 3, 0)]),
  (33, [(.iconst (1), 0, 0), (.iload 4, 0, 0), (.ishl, 0, 0), (.goto 0, 5, 0)]),
  (40, [(.iconst (0), 0, 0), (.goto_w 0, 5, 0)]),
  (41, [(.ior, 0, 0), (.istore 3, 0, 0), (.iinc 4 (1), 0, 0), (.goto 0, 1, 0)]),
  (49, [(.iload 3, 0, 0), (.ireturn, 0, 0)])]
def zB_Md_content : List (Nat × List zEnt) := [(0, [(.aload 0, 0, 0), (.iload 1, 0, 0), (.invokevirtual 0, 170, 0), (.ifCond .eq 0, 2, 0), (.goto_w 0, 1, 0)]),
  (8, [(.aload 0, 0, 0), (.iload 1, 0, 0), (.invokevirtual 0, 246, 0), (.goto 0, 3, 0)]),
  (16, [(.iconst (-1), 0, 0), (.goto_w 0, 3, 0)]),
  (17, [(.ireturn, 0, 0)])]
def zB_Md_alone : List (Nat × List zEnt) := [(0, [(.iconst (1), 0, 0), (.iload 1, 0, 0), (.ishl, 0, 0), (.istore 3, 0, 0), (.iconst (0), 0, 0), (.istore 4, 0, 0), (.goto_w 0, 1, 0)]),
  (7, [(.iload 3, 0, 0), (.iload 4, 0, 0), (.if_icmp .eq 0, 10, 0), (.goto_w 0, 2, 0)]),
  (13, [(.iload 3, 0, 0), (.istore 4, 0, 0), (.iconst (0), 0, 0), (.istore 5, 0, 0), (.goto_w 0, 3, 0)]),
  (19, [(.iload 5, 0, 0), (.aload 0, 0, 0), (.getfield 0, 11, 0), (.if_icmp .ge 0, 9, 0), (.goto_w 0, 4, 0)]),
  (28, [(.iconst (0), 0, 0), (.istore 6, 0, 0), (.goto_w 0, 5, 0)]),
  (31, [(.iload 6, 0, 0), (.aload 0, 0, 0), (.getfield 0, 11, 2), (.iconst (4), 0, 0), (.iload 5, 0, 0), (.imul, 0, 0), (.iload 2, 0, 0), (.iadd, 0, 0), (.iaload, 0, 0), (.if_icmp .ge 0, 8, 0), (.goto_w 0, 6, 0)]),
  (47, [(.iload 4, 0, 0), (.iload 5, 0, 0), (.ishr, 0, 0), (.iconst (1), 0, 0), (.iand, 0, 0), (.iconst (1), 0, 0), (.if_icmp .ne 0, 8, 0), (.goto_w 0, 7, 0)]),
  (58, [(.iload 3, 0, 0), (.iconst (1), 0, 0), (.aload 0, 0, 0), (.iload 5, 0, 0), (.iload 2, 0, 0), (.iload 6, 0, 0), (.invokevirtual 0, 235, 0), (.ishl, 0, 0), (.ior, 0, 0), (.istore 3, 0, 0), (.iinc 6 (1), 0, 0), (.goto 0, 5, 0)]),
  (78, [(.iinc 5 (1), 0, 0), (.goto 0, 3, 0)]),
  (84, [(.goto 0, 1, 0)]),
  (87, [(.iload 3, 0, 0), (.ireturn, 0, 0)])]
def zB_Md_isStable : List (Nat × List zEnt) := [(0, [(.aload 0, 0, 0), (.iload 1, 0, 0), (.invokevirtual 0, 246, 0), (.istore 2, 0, 0), (.iconst (0), 0, 0), (.istore 3, 0, 0), (.goto_w 0, 1, 0)]),
  (8, [(.iload 3, 0, 0), (.aload 0, 0, 0), (.getfield 0, 11, 1), (.if_icmp .ge 0, 6, 0), (.goto_w 0, 2, 0)]),
  (16, [(.iload 2, 0, 0), (.iload 3, 0, 0), (.ishr, 0, 0), (.iconst (1), 0, 0), (.iand, 0, 0), (.ifCond .ne 0, 5, 0), (.goto_w 0, 3, 0)]),
  (24, [(.aload 0, 0, 0), (.iload 1, 0, 0), (.iload 3, 0, 0), (.invokevirtual 0, 248, 0), (.aload 0, 0, 0), (.getfield 0, 11, 8), (.iload 3, 0, 0), (.iaload, 0, 0), (.iand, 0, 0), (.ifCond .eq 0, 5, 0), (.goto_w 0, 4, 0)]),
  (40, [(.iconst (0), 0, 0), (.ireturn, 0, 0)]),
  (42, [(.iinc 3 (1), 0, 0), (.goto 0, 1, 0)]),
  (48, [(.iconst (1), 0, 0), (.ireturn, 0, 0)])]
def zB_Md_stable : List (Nat × List zEnt) := [(0, [(.aload 0, 0, 0), (.iload 1, 0, 0), (.invokevirtual 0, 170, 0), (.ifCond .eq 0, 4, 0), (.goto_w 0, 1, 0)]),
  (8, [(.aload 0, 0, 0), (.iload 1, 0, 0), (.invokevirtual 0, 249, 0), (.ifCond .eq 0, 3, 0), (.goto_w 0, 2, 0)]),
  (16, [(.iconst (1), 0, 0), (.goto 0, 5, 0)]),
  (20, [(.iconst (0), 0, 0), (.goto 0, 5, 0)]),
  (24, [(.iconst (-1), 0, 0), (.goto_w 0, 5, 0)]),
  (25, [(.ireturn, 0, 0)])]
def zB_Md_plansOfAll : List (Nat × List zEnt) := [(0, [(.sipush (1), 0, 0), (.lstore 1, 0, 0), (.iconst (0), 0, 0), (.istore 3, 0, 0), (.goto_w 0, 1, 0)]),
  (4, [(.iload 3, 0, 0), (.aload 0, 0, 0), (.getfield 0, 11, 0), (.if_icmp .ge 0, 9, 0), (.goto_w 0, 2, 0)]),
  (12, [(.iconst (0), 0, 0), (.istore 4, 0, 0), (.goto_w 0, 3, 0)]),
  (15, [(.iload 4, 0, 0), (.aload 0, 0, 0), (.getfield 0, 11, 1), (.if_icmp .ge 0, 8, 0), (.goto_w 0, 4, 0)]),
  (24, [(.lload 1, 0, 0), (.aload 0, 0, 0), (.getfield 0, 11, 2), (.iconst (4), 0, 0), (.iload 3, 0, 0), (.imul, 0, 0), (.iload 4, 0, 0), (.iadd, 0, 0), (.iaload, 0, 0), (.i2l, 0, 0), (.lmul, 0, 0), (.sipush (2000000000), 0, 0), (.lcmp, 0, 0), (.ifCond .le 0, 6, 0), (.goto_w 0, 5, 0)]),
  (45, [(.sipush (2000000000), 0, 0), (.goto 0, 7, 0)]),
  (51, [(.lload 1, 0, 0), (.aload 0, 0, 0), (.getfield 0, 11, 2), (.iconst (4), 0, 0), (.iload 3, 0, 0), (.imul, 0, 0), (.iload 4, 0, 0), (.iadd, 0, 0), (.iaload, 0, 0), (.i2l, 0, 0), (.lmul, 0, 0), (.goto_w 0, 7, 0)]),
  (65, [(.lstore 1, 0, 0), (.iinc 4 (1), 0, 0), (.goto 0, 3, 0)]),
  (72, [(.iinc 3 (1), 0, 0), (.goto 0, 1, 0)]),
  (78, [(.lload 1, 0, 0), (.l2i, 0, 0), (.ireturn, 0, 0)])]
def zB_Md_plansUp : List (Nat × List zEnt) := [(0, [(.aload 0, 0, 0), (.getfield 0, 11, 1), (.iconst (1), 0, 0), (.isub, 0, 0), (.istore 1, 0, 0), (.goto_w 0, 1, 0)]),
  (7, [(.iload 1, 0, 0), (.ifCond .lt 0, 8, 0), (.goto_w 0, 2, 0)]),
  (11, [(.aload 0, 0, 0), (.getfield 0, 11, 0), (.iconst (1), 0, 0), (.isub, 0, 0), (.istore 2, 0, 0), (.goto_w 0, 3, 0)]),
  (18, [(.iload 2, 0, 0), (.ifCond .lt 0, 7, 0), (.goto_w 0, 4, 0)]),
  (22, [(.iconst (4), 0, 0), (.iload 2, 0, 0), (.imul, 0, 0), (.iload 1, 0, 0), (.iadd, 0, 0), (.istore 3, 0, 0), (.aload 0, 0, 0), (.getfield 0, 11, 7), (.iload 3, 0, 0), (.iaload, 0, 0), (.aload 0, 0, 0), (.getfield 0, 11, 2), (.iload 3, 0, 0), (.iaload, 0, 0), (.iconst (1), 0, 0), (.isub, 0, 0), (.if_icmp .ge 0, 6, 0), (.goto_w 0, 5, 0)]),
  (45, [(.aload 0, 0, 0), (.getfield 0, 11, 7), (.iload 3, 0, 0), (.dup2, 0, 0), (.iaload, 0, 0), (.iconst (1), 0, 0), (.iadd, 0, 0), (.iastore, 0, 0), (.iconst (1), 0, 0), (.ireturn, 0, 0)]),
  (57, [(.aload 0, 0, 0), (.getfield 0, 11, 7), (.iload 3, 0, 0), (.iconst (0), 0, 0), (.iastore, 0, 0), (.iinc 2 (-1), 0, 0), (.goto 0, 3, 0)]),
  (70, [(.iinc 1 (-1), 0, 0), (.goto 0, 1, 0)]),
  (76, [(.iconst (0), 0, 0), (.ireturn, 0, 0)])]
def zB_Md_settle : List (Nat × List zEnt) := [(0, [(.aload 0, 0, 0), (.iload 1, 0, 0), (.invokevirtual 0, 170, 0), (.ifCond .ne 0, 2, 0), (.goto_w 0, 1, 0)]),
  (8, [(.iconst (-1), 0, 0), (.ireturn, 0, 0)]),
  (10, [(.aload 0, 0, 0), (.invokevirtual 0, 251, 0), (.iconst (20000), 0, 0), (.if_icmp .le 0, 4, 0), (.goto_w 0, 3, 0)]),
  (20, [(.iconst (-5), 0, 0), (.ireturn, 0, 0)]),
  (23, [(.iconst (0), 0, 0), (.istore 2, 0, 0), (.goto_w 0, 5, 0)]),
  (25, [(.iload 2, 0, 0), (.iconst (48), 0, 0), (.if_icmp .ge 0, 7, 0), (.goto_w 0, 6, 0)]),
  (31, [(.aload 0, 0, 0), (.getfield 0, 11, 46), (.iload 2, 0, 0), (.aload 0, 0, 0), (.getfield 0, 11, 7), (.iload 2, 0, 0), (.iaload, 0, 0), (.iastore, 0, 0), (.aload 0, 0, 0), (.getfield 0, 11, 7), (.iload 2, 0, 0), (.iconst (0), 0, 0), (.iastore, 0, 0), (.iinc 2 (1), 0, 0), (.goto 0, 5, 0)]),
  (56, [(.iconst (1), 0, 0), (.istore 2, 0, 0), (.goto_w 0, 8, 0)]),
  (58, [(.iload 2, 0, 0), (.ifCond .eq 0, 12, 0), (.goto_w 0, 9, 0)]),
  (62, [(.aload 0, 0, 0), (.iload 1, 0, 0), (.invokevirtual 0, 249, 0), (.ifCond .eq 0, 11, 0), (.goto_w 0, 10, 0)]),
  (70, [(.aload 0, 0, 0), (.iload 1, 0, 0), (.invokevirtual 0, 246, 0), (.ireturn, 0, 0)]),
  (76, [(.aload 0, 0, 0), (.invokevirtual 0, 252, 0), (.istore 2, 0, 0), (.goto 0, 8, 0)]),
  (84, [(.iconst (0), 0, 0), (.istore 3, 0, 0), (.goto_w 0, 13, 0)]),
  (86, [(.iload 3, 0, 0), (.iconst (48), 0, 0), (.if_icmp .ge 0, 15, 0), (.goto_w 0, 14, 0)]),
  (92, [(.aload 0, 0, 0), (.getfield 0, 11, 7), (.iload 3, 0, 0), (.aload 0, 0, 0), (.getfield 0, 11, 46), (.iload 3, 0, 0), (.iaload, 0, 0), (.iastore, 0, 0), (.iinc 3 (1), 0, 0), (.goto 0, 13, 0)]),
  (110, [(.iconst (-4), 0, 0), (.ireturn, 0, 0)])]
def zB_Md_many : List (Nat × List zEnt) := [(0, [(.iconst (0), 0, 0), (.istore 1, 0, 0), (.iconst (0), 0, 0), (.istore 2, 0, 0), (.goto_w 0, 1, 0)]),
  (4, [(.iload 2, 0, 0), (.iconst (4), 0, 0), (.if_icmp .ge 0, 3, 0), (.goto_w 0, 2, 0)]),
  (9, [(.iload 1, 0, 0), (.iload 0, 0, 0), (.iload 2, 0, 0), (.ishr, 0, 0), (.iconst (1), 0, 0), (.iand, 0, 0), (.iadd, 0, 0), (.istore 1, 0, 0), (.iinc 2 (1), 0, 0), (.goto 0, 1, 0)]),
  (23, [(.iload 1, 0, 0), (.ireturn, 0, 0)])]
def zB_Md_isAhead : List (Nat × List zEnt) := [(0, [(.iconst (0), 0, 0), (.istore 2, 0, 0), (.goto_w 0, 1, 0)]),
  (2, [(.iload 2, 0, 0), (.iconst (4), 0, 0), (.if_icmp .ge 0, 4, 0), (.goto_w 0, 2, 0)]),
  (7, [(.iload 0, 0, 0), (.iload 2, 0, 0), (.ishr, 0, 0), (.iconst (1), 0, 0), (.iand, 0, 0), (.iload 1, 0, 0), (.iload 2, 0, 0), (.ishr, 0, 0), (.iconst (1), 0, 0), (.iand, 0, 0), (.if_icmp .ne 0, 4, 0), (.goto_w 0, 3, 0)]),
  (20, [(.iinc 2 (1), 0, 0), (.goto 0, 1, 0)]),
  (26, [(.iload 2, 0, 0), (.iconst (4), 0, 0), (.if_icmp .ge 0, 7, 0), (.goto_w 0, 5, 0)]),
  (31, [(.iload 0, 0, 0), (.iload 2, 0, 0), (.ishr, 0, 0), (.iconst (1), 0, 0), (.iand, 0, 0), (.iconst (1), 0, 0), (.if_icmp .ne 0, 7, 0), (.goto_w 0, 6, 0)]),
  (40, [(.iconst (1), 0, 0), (.goto 0, 8, 0)]),
  (44, [(.iconst (0), 0, 0), (.goto_w 0, 8, 0)]),
  (45, [(.ireturn, 0, 0)])]
def zB_Md_helpers : List (Nat × List zEnt) := [(0, [(.aload 0, 0, 0), (.iload 1, 0, 0), (.invokevirtual 0, 170, 0), (.ifCond .ne 0, 2, 0), (.goto_w 0, 1, 0)]),
  (8, [(.iconst (-1), 0, 0), (.ireturn, 0, 0)]),
  (10, [(.aload 0, 0, 0), (.invokevirtual 0, 205, 0), (.ifCond .ne 0, 4, 0), (.goto_w 0, 3, 0)]),
  (17, [(.iconst (-2), 0, 0), (.ireturn, 0, 0)]),
  (20, [(.iconst (-4), 0, 0), (.istore 2, 0, 0), (.aload 0, 0, 0), (.invokevirtual 0, 202, 0), (.istore 3, 0, 0), (.iconst (0), 0, 0), (.istore 4, 0, 0), (.goto_w 0, 5, 0)]),
  (31, [(.iload 4, 0, 0), (.aload 0, 0, 0), (.invokevirtual 0, 176, 0), (.if_icmp .gt 0, 23, 0), (.goto_w 0, 6, 0)]),
  (40, [(.iload 4, 0, 0), (.aload 0, 0, 0), (.getfield 0, 11, 14), (.iconst (0), 0, 0), (.iaload, 0, 0), (.iand, 0, 0), (.ifCond .ne 0, 9, 0), (.goto_w 0, 7, 0)]),
  (52, [(.iload 3, 0, 0), (.ifCond .lt 0, 9, 0), (.goto_w 0, 8, 0)]),
  (56, [(.iconst (1), 0, 0), (.goto 0, 10, 0)]),
  (60, [(.iconst (0), 0, 0), (.goto_w 0, 10, 0)]),
  (61, [(.istore 5, 0, 0), (.iload 5, 0, 0), (.ifCond .eq 0, 22, 0), (.goto_w 0, 11, 0)]),
  (68, [(.aload 0, 0, 0), (.iconst (0), 0, 0), (.aload 0, 0, 0), (.getfield 0, 11, 14), (.iconst (0), 0, 0), (.iaload, 0, 0), (.iload 4, 0, 0), (.ior, 0, 0), (.invokevirtual 0, 201, 0), (.iload 1, 0, 0), (.ishr, 0, 0), (.iconst (1), 0, 0), (.iand, 0, 0), (.iconst (1), 0, 0), (.if_icmp .ne 0, 22, 0), (.goto_w 0, 12, 0)]),
  (90, [(.iload 2, 0, 0), (.ifCond .lt 0, 16, 0), (.goto_w 0, 13, 0)]),
  (94, [(.iload 4, 0, 0), (.invokestatic 0, 254, 0), (.iload 2, 0, 0), (.invokestatic 0, 254, 0), (.if_icmp .lt 0, 16, 0), (.goto_w 0, 14, 0)]),
  (106, [(.iload 4, 0, 0), (.invokestatic 0, 254, 0), (.iload 2, 0, 0), (.invokestatic 0, 254, 0), (.if_icmp .ne 0, 17, 0), (.goto_w 0, 15, 0)]),
  (118, [(.iload 4, 0, 0), (.iload 2, 0, 0), (.invokestatic 0, 255, 0), (.ifCond .eq 0, 17, 0), (.goto_w 0, 16, 0)]),
  (127, [(.iconst (1), 0, 0), (.goto 0, 18, 0)]),
  (131, [(.iconst (0), 0, 0), (.goto_w 0, 18, 0)]),
  (132, [(.istore 6, 0, 0), (.iload 6, 0, 0), (.ifCond .eq 0, 20, 0), (.goto_w 0, 19, 0)]),
  (139, [(.iload 4, 0, 0), (.goto 0, 21, 0)]),
  (144, [(.iload 2, 0, 0), (.goto_w 0, 21, 0)]),
  (145, [(.istore 2, 0, 0), (.goto_w 0, 22, 0)]),
  (146, [(.iinc 4 (1), 0, 0), (.goto 0, 5, 0)]),
  (152, [(.iload 2, 0, 0), (.ireturn, 0, 0)])]
def zB_Md_count : List (Nat × List zEnt) := [(0, [(.iload 1, 0, 0), (.tableswitch 5 (0) (3) #[1, 2, 3, 4], 0, 0)]),
  (32, [(.aload 0, 0, 0), (.getfield 0, 11, 0), (.ireturn, 0, 0)]),
  (37, [(.aload 0, 0, 0), (.getfield 0, 11, 1), (.ireturn, 0, 0)]),
  (42, [(.aload 0, 0, 0), (.getfield 0, 11, 10), (.ireturn, 0, 0)]),
  (47, [(.aload 0, 0, 0), (.invokevirtual 0, 251, 0), (.ireturn, 0, 0)]),
  (52, [(.iconst (-1), 0, 0), (.ireturn, 0, 0)])]
def zB_Md_sheet : List (Nat × List zEnt) := [(0, [(.iload 1, 0, 0), (.invokestatic 0, 215, 0), (.ifCond .eq 0, 3, 0), (.goto_w 0, 1, 0)]),
  (7, [(.iload 2, 0, 0), (.invokestatic 0, 216, 0), (.ifCond .eq 0, 3, 0), (.goto_w 0, 2, 0)]),
  (14, [(.iload 3, 0, 0), (.iconst (81), 0, 0), (.if_icmp .le 0, 4, 0), (.goto_w 0, 3, 0)]),
  (20, [(.iconst (-1), 0, 0), (.ireturn, 0, 0)]),
  (22, [(.iload 3, 0, 0), (.ifCond .ge 0, 6, 0), (.goto_w 0, 5, 0)]),
  (26, [(.iconst (-14), 0, 0), (.ireturn, 0, 0)]),
  (29, [(.aload 0, 0, 0), (.getfield 0, 11, 33), (.iload 1, 0, 0), (.iload 2, 0, 0), (.iastore, 0, 0), (.aload 0, 0, 0), (.getfield 0, 11, 34), (.iload 1, 0, 0), (.iload 3, 0, 0), (.iastore, 0, 0), (.iconst (0), 0, 0), (.istore 4, 0, 0), (.goto_w 0, 7, 0)]),
  (46, [(.iload 4, 0, 0), (.iconst (81), 0, 0), (.if_icmp .ge 0, 9, 0), (.goto_w 0, 8, 0)]),
  (53, [(.aload 0, 0, 0), (.getfield 0, 11, 35), (.iconst (81), 0, 0), (.iload 1, 0, 0), (.imul, 0, 0), (.iload 4, 0, 0), (.iadd, 0, 0), (.iconst (0), 0, 0), (.iastore, 0, 0), (.iinc 4 (1), 0, 0), (.goto 0, 7, 0)]),
  (72, [(.iload 3, 0, 0), (.ireturn, 0, 0)])]
def zB_Md_drop : List (Nat × List zEnt) := [(0, [(.iload 1, 0, 0), (.invokestatic 0, 215, 0), (.ifCond .ne 0, 2, 0), (.goto_w 0, 1, 0)]),
  (7, [(.iconst (-1), 0, 0), (.ireturn, 0, 0)]),
  (9, [(.aload 0, 0, 0), (.getfield 0, 11, 33), (.iload 1, 0, 0), (.iaload, 0, 0), (.ifCond .ge 0, 4, 0), (.goto_w 0, 3, 0)]),
  (18, [(.iconst (-11), 0, 0), (.ireturn, 0, 0)]),
  (21, [(.aload 0, 0, 0), (.getfield 0, 11, 33), (.iload 1, 0, 0), (.iconst (-1), 0, 0), (.iastore, 0, 0), (.aload 0, 0, 0), (.getfield 0, 11, 34), (.iload 1, 0, 0), (.iaload, 0, 0), (.ireturn, 0, 0)])]
def zB_Md_item : List (Nat × List zEnt) := [(0, [(.iload 1, 0, 0), (.invokestatic 0, 215, 0), (.ifCond .eq 0, 2, 0), (.goto_w 0, 1, 0)]),
  (7, [(.iload 2, 0, 0), (.invokestatic 0, 216, 0), (.ifCond .ne 0, 3, 0), (.goto_w 0, 2, 0)]),
  (14, [(.iconst (-1), 0, 0), (.ireturn, 0, 0)]),
  (16, [(.aload 0, 0, 0), (.iload 1, 0, 0), (.iload 2, 0, 0), (.iload 3, 0, 0), (.iconst (1), 0, 0), (.invokevirtual 0, 217, 0), (.istore 5, 0, 0), (.iload 5, 0, 0), (.ifCond .ge 0, 5, 0), (.goto_w 0, 4, 0)]),
  (31, [(.iload 5, 0, 0), (.ireturn, 0, 0)]),
  (34, [(.aload 0, 0, 0), (.getfield 0, 11, 35), (.iconst (81), 0, 0), (.iload 1, 0, 0), (.imul, 0, 0), (.iload 3, 0, 0), (.iadd, 0, 0), (.iload 2, 0, 0), (.ifCond .ne 0, 7, 0), (.goto_w 0, 6, 0)]),
  (48, [(.iload 4, 0, 0), (.i2b, 0, 0), (.goto 0, 8, 0)]),
  (54, [(.iload 4, 0, 0), (.goto_w 0, 8, 0)]),
  (56, [(.iastore, 0, 0), (.iconst (1), 0, 0), (.ireturn, 0, 0)])]
def zB_Md_copy : List (Nat × List zEnt) := [(0, [(.iload 1, 0, 0), (.invokestatic 0, 215, 0), (.ifCond .eq 0, 2, 0), (.goto_w 0, 1, 0)]),
  (7, [(.iload 3, 0, 0), (.invokestatic 0, 215, 0), (.ifCond .ne 0, 3, 0), (.goto_w 0, 2, 0)]),
  (14, [(.iconst (-1), 0, 0), (.ireturn, 0, 0)]),
  (16, [(.aload 0, 0, 0), (.getfield 0, 11, 33), (.iload 1, 0, 0), (.iaload, 0, 0), (.ifCond .lt 0, 5, 0), (.goto_w 0, 4, 0)]),
  (25, [(.aload 0, 0, 0), (.getfield 0, 11, 33), (.iload 3, 0, 0), (.iaload, 0, 0), (.ifCond .ge 0, 6, 0), (.goto_w 0, 5, 0)]),
  (34, [(.iconst (-11), 0, 0), (.ireturn, 0, 0)]),
  (37, [(.aload 0, 0, 0), (.getfield 0, 11, 33), (.iload 1, 0, 0), (.iaload, 0, 0), (.aload 0, 0, 0), (.getfield 0, 11, 33), (.iload 3, 0, 0), (.iaload, 0, 0), (.if_icmp .eq 0, 8, 0), (.goto_w 0, 7, 0)]),
  (52, [(.iconst (-12), 0, 0), (.ireturn, 0, 0)]),
  (55, [(.iload 5, 0, 0), (.ifCond .lt 0, 11, 0), (.goto_w 0, 9, 0)]),
  (60, [(.aload 0, 0, 0), (.iload 1, 0, 0), (.aload 0, 0, 0), (.getfield 0, 11, 33), (.iload 1, 0, 0), (.iaload, 0, 0), (.iload 2, 0, 0), (.iload 5, 0, 0), (.invokevirtual 0, 217, 0), (.ifCond .lt 0, 11, 0), (.goto_w 0, 10, 0)]),
  (77, [(.aload 0, 0, 0), (.iload 3, 0, 0), (.aload 0, 0, 0), (.getfield 0, 11, 33), (.iload 3, 0, 0), (.iaload, 0, 0), (.iload 4, 0, 0), (.iload 5, 0, 0), (.invokevirtual 0, 217, 0), (.ifCond .ge 0, 12, 0), (.goto_w 0, 11, 0)]),
  (95, [(.iconst (-13), 0, 0), (.ireturn, 0, 0)]),
  (98, [(.iconst (0), 0, 0), (.istore 6, 0, 0), (.goto_w 0, 13, 0)]),
  (101, [(.iload 6, 0, 0), (.iload 5, 0, 0), (.if_icmp .ge 0, 15, 0), (.goto_w 0, 14, 0)]),
  (108, [(.aload 0, 0, 0), (.getfield 0, 11, 36), (.iload 6, 0, 0), (.aload 0, 0, 0), (.getfield 0, 11, 35), (.iconst (81), 0, 0), (.iload 1, 0, 0), (.imul, 0, 0), (.iload 2, 0, 0), (.iadd, 0, 0), (.iload 6, 0, 0), (.iadd, 0, 0), (.iaload, 0, 0), (.iastore, 0, 0), (.iinc 6 (1), 0, 0), (.goto 0, 13, 0)]),
  (135, [(.iconst (0), 0, 0), (.istore 6, 0, 0), (.goto_w 0, 16, 0)]),
  (138, [(.iload 6, 0, 0), (.iload 5, 0, 0), (.if_icmp .ge 0, 18, 0), (.goto_w 0, 17, 0)]),
  (145, [(.aload 0, 0, 0), (.getfield 0, 11, 35), (.iconst (81), 0, 0), (.iload 3, 0, 0), (.imul, 0, 0), (.iload 4, 0, 0), (.iadd, 0, 0), (.iload 6, 0, 0), (.iadd, 0, 0), (.aload 0, 0, 0), (.getfield 0, 11, 36), (.iload 6, 0, 0), (.iaload, 0, 0), (.iastore, 0, 0), (.iinc 6 (1), 0, 0), (.goto 0, 16, 0)]),
  (173, [(.iload 5, 0, 0), (.ireturn, 0, 0)])]
def zB_JI_bitCount : List (Nat × List zEnt) := [(0, [(.iload 0, 0, 0), (.iload 0, 0, 0), (.iconst (1), 0, 0), (.iushr, 0, 0), (.iconst (1431655765), 0, 0), (.iand, 0, 0), (.isub, 0, 0), (.istore 0, 0, 0), (.iload 0, 0, 0), (.iconst (858993459), 0, 0), (.iand, 0, 0), (.iload 0, 0, 0), (.iconst (2), 0, 0), (.iushr, 0, 0), (.iconst (858993459), 0, 0), (.iand, 0, 0), (.iadd, 0, 0), (.istore 0, 0, 0), (.iload 0, 0, 0), (.iload 0, 0, 0), (.iconst (4), 0, 0), (.iushr, 0, 0), (.iadd, 0, 0), (.iconst (252645135), 0, 0), (.iand, 0, 0), (.istore 0, 0, 0), (.iload 0, 0, 0), (.iload 0, 0, 0), (.iconst (8), 0, 0), (.iushr, 0, 0), (.iadd, 0, 0), (.istore 0, 0, 0), (.iload 0, 0, 0), (.iload 0, 0, 0), (.iconst (16), 0, 0), (.iushr, 0, 0), (.iadd, 0, 0), (.istore 0, 0, 0), (.iload 0, 0, 0), (.iconst (63), 0, 0), (.iand, 0, 0), (.ireturn, 0, 0)])]
def zB_JA_fill : List (Nat × List zEnt) := [(0, [(.iconst (0), 0, 0), (.istore 2, 0, 0), (.aload 0, 0, 0), (.arraylength, 0, 0), (.istore 3, 0, 0), (.goto_w 0, 1, 0)]),
  (5, [(.iload 2, 0, 0), (.iload 3, 0, 0), (.if_icmp .ge 0, 3, 0), (.goto_w 0, 2, 0)]),
  (10, [(.aload 0, 0, 0), (.iload 2, 0, 0), (.iload 1, 0, 0), (.iastore, 0, 0), (.iinc 2 (1), 0, 0), (.goto 0, 1, 0)]),
  (20, [(.return_, 0, 0)])]
def zB_LW_law : List (Nat × List zEnt) := [(0, [(.new 0, 10, 0), (.dup, 0, 0), (.invokevirtual 0, 122, 0), (.astore 1, 0, 0), (.new 0, 11, 0), (.dup, 0, 0), (.invokevirtual 0, 167, 0), (.astore 2, 0, 0), (.iconst (0), 0, 0), (.istore 3, 0, 0), (.goto_w 0, 1, 0)]),
  (18, [(.iload 3, 0, 0), (.aload 0, 0, 0), (.arraylength, 0, 0), (.iconst (6), 0, 0), (.isub, 0, 0), (.if_icmp .gt 0, 74, 0), (.goto_w 0, 2, 0)]),
  (27, [(.aload 0, 0, 0), (.iload 3, 0, 0), (.iaload, 0, 0), (.iconst (63), 0, 0), (.iand, 0, 0), (.tableswitch 73 (0) (34) #[3, 5, 7, 9, 11, 13, 15, 17, 19, 21, 23, 25, 27, 29, 31, 33, 35, 37, 39, 41, 43, 45, 47, 49, 51, 53, 55, 57, 59, 61, 63, 65, 67, 69, 71], 0, 0)]),
  (188, [(.aload 1, 0, 0), (.aload 0, 0, 0), (.iload 3, 0, 0), (.iconst (1), 0, 0), (.iadd, 0, 0), (.iaload, 0, 0), (.aload 0, 0, 0), (.iload 3, 0, 0), (.iconst (2), 0, 0), (.iadd, 0, 0), (.iaload, 0, 0), (.invokevirtual 0, 123, 0), (.aload 2, 0, 0), (.aload 0, 0, 0), (.iload 3, 0, 0), (.iconst (1), 0, 0), (.iadd, 0, 0), (.iaload, 0, 0), (.aload 0, 0, 0), (.iload 3, 0, 0), (.iconst (2), 0, 0), (.iadd, 0, 0), (.iaload, 0, 0), (.invokevirtual 0, 169, 0), (.if_icmp .eq 0, 73, 0), (.goto_w 0, 4, 0)]),
  (219, [(.iconst (0), 0, 0), (.ireturn, 0, 0)]),
  (221, [(.aload 1, 0, 0), (.aload 0, 0, 0), (.iload 3, 0, 0), (.iconst (1), 0, 0), (.iadd, 0, 0), (.iaload, 0, 0), (.aload 0, 0, 0), (.iload 3, 0, 0), (.iconst (2), 0, 0), (.iadd, 0, 0), (.iaload, 0, 0), (.aload 0, 0, 0), (.iload 3, 0, 0), (.iconst (3), 0, 0), (.iadd, 0, 0), (.iaload, 0, 0), (.invokevirtual 0, 124, 0), (.aload 2, 0, 0), (.aload 0, 0, 0), (.iload 3, 0, 0), (.iconst (1), 0, 0), (.iadd, 0, 0), (.iaload, 0, 0), (.aload 0, 0, 0), (.iload 3, 0, 0), (.iconst (2), 0, 0), (.iadd, 0, 0), (.iaload, 0, 0), (.aload 0, 0, 0), (.iload 3, 0, 0), (.iconst (3), 0, 0), (.iadd, 0, 0), (.iaload, 0, 0), (.invokevirtual 0, 174, 0), (.if_icmp .eq 0, 73, 0), (.goto_w 0, 6, 0)]),
  (262, [(.iconst (0), 0, 0), (.ireturn, 0, 0)]),
  (264, [(.aload 1, 0, 0), (.aload 0, 0, 0), (.iload 3, 0, 0), (.iconst (1), 0, 0), (.iadd, 0, 0), (.iaload, 0, 0), (.aload 0, 0, 0), (.iload 3, 0, 0), (.iconst (2), 0, 0), (.iadd, 0, 0), (.iaload, 0, 0), (.invokevirtual 0, 125, 0), (.aload 2, 0, 0), (.aload 0, 0, 0), (.iload 3, 0, 0), (.iconst (1), 0, 0), (.iadd, 0, 0), (.iaload, 0, 0), (.aload 0, 0, 0), (.iload 3, 0, 0), (.iconst (2), 0, 0), (.iadd, 0, 0), (.iaload, 0, 0), (.invokevirtual 0, 177, 0), (.if_icmp .eq 0, 73, 0), (.goto_w 0, 8, 0)]),
  (295, [(.iconst (0), 0, 0), (.ireturn, 0, 0)]),
  (297, [(.aload 1, 0, 0), (.aload 0, 0, 0), (.iload 3, 0, 0), (.iconst (1), 0, 0), (.iadd, 0, 0), (.iaload, 0, 0), (.aload 0, 0, 0), (.iload 3, 0, 0), (.iconst (2), 0, 0), (.iadd, 0, 0), (.iaload, 0, 0), (.aload 0, 0, 0), (.iload 3, 0, 0), (.iconst (3), 0, 0), (.iadd, 0, 0), (.iaload, 0, 0), (.invokevirtual 0, 126, 0), (.aload 2, 0, 0), (.aload 0, 0, 0), (.iload 3, 0, 0), (.iconst (1), 0, 0), (.iadd, 0, 0), (.iaload, 0, 0), (.aload 0, 0, 0), (.iload 3, 0, 0), (.iconst (2), 0, 0), (.iadd, 0, 0), (.iaload, 0, 0), (.aload 0, 0, 0), (.iload 3, 0, 0), (.iconst (3), 0, 0), (.iadd, 0, 0), (.iaload, 0, 0), (.invokevirtual 0, 179, 0), (.if_icmp .eq 0, 73, 0), (.goto_w 0, 10, 0)]),
  (338, [(.iconst (0), 0, 0), (.ireturn, 0, 0)]),
  (340, [(.aload 1, 0, 0), (.aload 0, 0, 0), (.iload 3, 0, 0), (.iconst (1), 0, 0), (.iadd, 0, 0), (.iaload, 0, 0), (.aload 0, 0, 0), (.iload 3, 0, 0), (.iconst (2), 0, 0), (.iadd, 0, 0), (.iaload, 0, 0), (.invokevirtual 0, 127, 0), (.aload 2, 0, 0), (.aload 0, 0, 0), (.iload 3, 0, 0), (.iconst (1), 0, 0), (.iadd, 0, 0), (.iaload, 0, 0), (.aload 0, 0, 0), (.iload 3, 0, 0), (.iconst (2), 0, 0), (.iadd, 0, 0), (.iaload, 0, 0), (.invokevirtual 0, 180, 0), (.if_icmp .eq 0, 73, 0), (.goto_w 0, 12, 0)]),
  (371, [(.iconst (0), 0, 0), (.ireturn, 0, 0)]),
  (373, [(.aload 1, 0, 0), (.aload 0, 0, 0), (.iload 3, 0, 0), (.iconst (1), 0, 0), (.iadd, 0, 0), (.iaload, 0, 0), (.aload 0, 0, 0), (.iload 3, 0, 0), (.iconst (2), 0, 0), (.iadd, 0, 0), (.iaload, 0, 0), (.invokevirtual 0, 128, 0), (.aload 2, 0, 0), (.aload 0, 0, 0), (.iload 3, 0, 0), (.iconst (1), 0, 0), (.iadd, 0, 0), (.iaload, 0, 0), (.aload 0, 0, 0), (.iload 3, 0, 0), (.iconst (2), 0, 0), (.iadd, 0, 0), (.iaload, 0, 0), (.invokevirtual 0, 181, 0), (.if_icmp .eq 0, 73, 0), (.goto_w 0, 14, 0)]),
  (404, [(.iconst (0), 0, 0), (.ireturn, 0, 0)]),
  (406, [(.aload 1, 0, 0), (.aload 0, 0, 0), (.iload 3, 0, 0), (.iconst (1), 0, 0), (.iadd, 0, 0), (.iaload, 0, 0), (.aload 0, 0, 0), (.iload 3, 0, 0), (.iconst (2), 0, 0), (.iadd, 0, 0), (.iaload, 0, 0), (.aload 0, 0, 0), (.iload 3, 0, 0), (.iconst (3), 0, 0), (.iadd, 0, 0), (.iaload, 0, 0), (.invokevirtual 0, 129, 0), (.aload 2, 0, 0), (.aload 0, 0, 0), (.iload 3, 0, 0), (.iconst (1), 0, 0), (.iadd, 0, 0), (.iaload, 0, 0), (.aload 0, 0, 0), (.iload 3, 0, 0), (.iconst (2), 0, 0), (.iadd, 0, 0), (.iaload, 0, 0), (.aload 0, 0, 0), (.iload 3, 0, 0), (.iconst (3), 0, 0), (.iadd, 0, 0), (.iaload, 0, 0), (.invokevirtual 0, 182, 0), (.if_icmp .eq 0, 73, 0), (.goto_w 0, 16, 0)]),
  (447, [(.iconst (0), 0, 0), (.ireturn, 0, 0)]),
  (449, [(.aload 1, 0, 0), (.aload 0, 0, 0), (.iload 3, 0, 0), (.iconst (1), 0, 0), (.iadd, 0, 0), (.iaload, 0, 0), (.aload 0, 0, 0), (.iload 3, 0, 0), (.iconst (2), 0, 0), (.iadd, 0, 0), (.iaload, 0, 0), (.aload 0, 0, 0), (.iload 3, 0, 0), (.iconst (3), 0, 0), (.iadd, 0, 0), (.iaload, 0, 0), (.aload 0, 0, 0), (.iload 3, 0, 0), (.iconst (4), 0, 0), (.iadd, 0, 0), (.iaload, 0, 0), (.invokevirtual 0, 130, 0), (.aload 2, 0, 0), (.aload 0, 0, 0), (.iload 3, 0, 0), (.iconst (1), 0, 0), (.iadd, 0, 0), (.iaload, 0, 0), (.aload 0, 0, 0), (.iload 3, 0, 0), (.iconst (2), 0, 0), (.iadd, 0, 0), (.iaload, 0, 0), (.aload 0, 0, 0), (.iload 3, 0, 0), (.iconst (3), 0, 0), (.iadd, 0, 0), (.iaload, 0, 0), (.aload 0, 0, 0), (.iload 3, 0, 0), (.iconst (4), 0, 0), (.iadd, 0, 0), (.iaload, 0, 0), (.invokevirtual 0, 183, 0), (.if_icmp .eq 0, 73, 0), (.goto_w 0, 18, 0)]),
  (500, [(.iconst (0), 0, 0), (.ireturn, 0, 0)]),
  (502, [(.aload 1, 0, 0), (.aload 0, 0, 0), (.iload 3, 0, 0), (.iconst (1), 0, 0), (.iadd, 0, 0), (.iaload, 0, 0), (.aload 0, 0, 0), (.iload 3, 0, 0), (.iconst (2), 0, 0), (.iadd, 0, 0), (.iaload, 0, 0), (.aload 0, 0, 0), (.iload 3, 0, 0), (.iconst (3), 0, 0), (.iadd, 0, 0), (.iaload, 0, 0), (.aload 0, 0, 0), (.iload 3, 0, 0), (.iconst (4), 0, 0), (.iadd, 0, 0), (.iaload, 0, 0), (.aload 0, 0, 0), (.iload 3, 0, 0), (.iconst (5), 0, 0), (.iadd, 0, 0), (.iaload, 0, 0), (.invokevirtual 0, 131, 0), (.aload 2, 0, 0), (.aload 0, 0, 0), (.iload 3, 0, 0), (.iconst (1), 0, 0), (.iadd, 0, 0), (.iaload, 0, 0), (.aload 0, 0, 0), (.iload 3, 0, 0), (.iconst (2), 0, 0), (.iadd, 0, 0), (.iaload, 0, 0), (.aload 0, 0, 0), (.iload 3, 0, 0), (.iconst (3), 0, 0), (.iadd, 0, 0), (.iaload, 0, 0), (.aload 0, 0, 0), (.iload 3, 0, 0), (.iconst (4), 0, 0), (.iadd, 0, 0), (.iaload, 0, 0), (.aload 0, 0, 0), (.iload 3, 0, 0), (.iconst (5), 0, 0), (.iadd, 0, 0), (.iaload, 0, 0), (.invokevirtual 0, 220, 0), (.if_icmp .eq 0, 73, 0), (.goto_w 0, 20, 0)]),
  (563, [(.iconst (0), 0, 0), (.ireturn, 0, 0)]),
  (565, [(.aload 1, 0, 0), (.aload 0, 0, 0), (.iload 3, 0, 0), (.iconst (1), 0, 0), (.iadd, 0, 0), (.iaload, 0, 0), (.i2l, 0, 0), (.iconst (32), 0, 0), (.lshl, 0, 0), (.aload 0, 0, 0), (.iload 3, 0, 0), (.iconst (2), 0, 0), (.iadd, 0, 0), (.iaload, 0, 0), (.i2l, 0, 0), (.sipush (4294967295), 0, 0), (.land, 0, 0), (.lor, 0, 0), (.aload 0, 0, 0), (.iload 3, 0, 0), (.iconst (3), 0, 0), (.iadd, 0, 0), (.iaload, 0, 0), (.invokevirtual 0, 132, 0), (.aload 2, 0, 0), (.aload 0, 0, 0), (.iload 3, 0, 0), (.iconst (1), 0, 0), (.iadd, 0, 0), (.iaload, 0, 0), (.i2l, 0, 0), (.iconst (32), 0, 0), (.lshl, 0, 0), (.aload 0, 0, 0), (.iload 3, 0, 0), (.iconst (2), 0, 0), (.iadd, 0, 0), (.iaload, 0, 0), (.i2l, 0, 0), (.sipush (4294967295), 0, 0), (.land, 0, 0), (.lor, 0, 0), (.aload 0, 0, 0), (.iload 3, 0, 0), (.iconst (3), 0, 0), (.iadd, 0, 0), (.iaload, 0, 0), (.invokevirtual 0, 188, 0), (.if_icmp .eq 0, 73, 0), (.goto_w 0, 22, 0)]),
  (626, [(.iconst (0), 0, 0), (.ireturn, 0, 0)]),
  (628, [(.aload 1, 0, 0), (.invokevirtual 0, 133, 0), (.aload 2, 0, 0), (.invokevirtual 0, 195, 0), (.if_icmp .eq 0, 73, 0), (.goto_w 0, 24, 0)]),
  (639, [(.iconst (0), 0, 0), (.ireturn, 0, 0)]),
  (641, [(.aload 1, 0, 0), (.invokevirtual 0, 134, 0), (.aload 2, 0, 0), (.invokevirtual 0, 203, 0), (.if_icmp .eq 0, 73, 0), (.goto_w 0, 26, 0)]),
  (652, [(.iconst (0), 0, 0), (.ireturn, 0, 0)]),
  (654, [(.aload 1, 0, 0), (.aload 0, 0, 0), (.iload 3, 0, 0), (.iconst (1), 0, 0), (.iadd, 0, 0), (.iaload, 0, 0), (.invokevirtual 0, 135, 0), (.aload 2, 0, 0), (.aload 0, 0, 0), (.iload 3, 0, 0), (.iconst (1), 0, 0), (.iadd, 0, 0), (.iaload, 0, 0), (.invokevirtual 0, 204, 0), (.if_icmp .eq 0, 73, 0), (.goto_w 0, 28, 0)]),
  (675, [(.iconst (0), 0, 0), (.ireturn, 0, 0)]),
  (677, [(.aload 1, 0, 0), (.aload 0, 0, 0), (.iload 3, 0, 0), (.iconst (1), 0, 0), (.iadd, 0, 0), (.iaload, 0, 0), (.aload 0, 0, 0), (.iload 3, 0, 0), (.iconst (2), 0, 0), (.iadd, 0, 0), (.iaload, 0, 0), (.aload 0, 0, 0), (.iload 3, 0, 0), (.iconst (3), 0, 0), (.iadd, 0, 0), (.iaload, 0, 0), (.invokevirtual 0, 136, 0), (.aload 2, 0, 0), (.aload 0, 0, 0), (.iload 3, 0, 0), (.iconst (1), 0, 0), (.iadd, 0, 0), (.iaload, 0, 0), (.aload 0, 0, 0), (.iload 3, 0, 0), (.iconst (2), 0, 0), (.iadd, 0, 0), (.iaload, 0, 0), (.aload 0, 0, 0), (.iload 3, 0, 0), (.iconst (3), 0, 0), (.iadd, 0, 0), (.iaload, 0, 0), (.invokevirtual 0, 187, 0), (.if_icmp .eq 0, 73, 0), (.goto_w 0, 30, 0)]),
  (718, [(.iconst (0), 0, 0), (.ireturn, 0, 0)]),
  (720, [(.aload 1, 0, 0), (.aload 0, 0, 0), (.iload 3, 0, 0), (.iconst (1), 0, 0), (.iadd, 0, 0), (.iaload, 0, 0), (.invokevirtual 0, 137, 0), (.aload 2, 0, 0), (.aload 0, 0, 0), (.iload 3, 0, 0), (.iconst (1), 0, 0), (.iadd, 0, 0), (.iaload, 0, 0), (.invokevirtual 0, 207, 0), (.if_icmp .eq 0, 73, 0), (.goto_w 0, 32, 0)]),
  (741, [(.iconst (0), 0, 0), (.ireturn, 0, 0)]),
  (743, [(.aload 1, 0, 0), (.aload 0, 0, 0), (.iload 3, 0, 0), (.iconst (1), 0, 0), (.iadd, 0, 0), (.iaload, 0, 0), (.invokevirtual 0, 138, 0), (.aload 2, 0, 0), (.aload 0, 0, 0), (.iload 3, 0, 0), (.iconst (1), 0, 0), (.iadd, 0, 0), (.iaload, 0, 0), (.invokevirtual 0, 210, 0), (.if_icmp .eq 0, 73, 0), (.goto_w 0, 34, 0)]),
  (764, [(.iconst (0), 0, 0), (.ireturn, 0, 0)]),
  (766, [(.aload 1, 0, 0), (.aload 0, 0, 0), (.iload 3, 0, 0), (.iconst (1), 0, 0), (.iadd, 0, 0), (.iaload, 0, 0), (.aload 0, 0, 0), (.iload 3, 0, 0), (.iconst (2), 0, 0), (.iadd, 0, 0), (.iaload, 0, 0), (.invokevirtual 0, 139, 0), (.aload 2, 0, 0), (.aload 0, 0, 0), (.iload 3, 0, 0), (.iconst (1), 0, 0), (.iadd, 0, 0), (.iaload, 0, 0), (.aload 0, 0, 0), (.iload 3, 0, 0), (.iconst (2), 0, 0), (.iadd, 0, 0), (.iaload, 0, 0), (.invokevirtual 0, 211, 0), (.if_icmp .eq 0, 73, 0), (.goto_w 0, 36, 0)]),
  (797, [(.iconst (0), 0, 0), (.ireturn, 0, 0)]),
  (799, [(.aload 1, 0, 0), (.aload 0, 0, 0), (.iload 3, 0, 0), (.iconst (1), 0, 0), (.iadd, 0, 0), (.iaload, 0, 0), (.invokevirtual 0, 140, 0), (.aload 2, 0, 0), (.aload 0, 0, 0), (.iload 3, 0, 0), (.iconst (1), 0, 0), (.iadd, 0, 0), (.iaload, 0, 0), (.invokevirtual 0, 214, 0), (.if_icmp .eq 0, 73, 0), (.goto_w 0, 38, 0)]),
  (820, [(.iconst (0), 0, 0), (.ireturn, 0, 0)]),
  (822, [(.aload 1, 0, 0), (.aload 0, 0, 0), (.iload 3, 0, 0), (.iconst (1), 0, 0), (.iadd, 0, 0), (.iaload, 0, 0), (.aload 0, 0, 0), (.iload 3, 0, 0), (.iconst (2), 0, 0), (.iadd, 0, 0), (.iaload, 0, 0), (.aload 0, 0, 0), (.iload 3, 0, 0), (.iconst (3), 0, 0), (.iadd, 0, 0), (.iaload, 0, 0), (.aload 0, 0, 0), (.iload 3, 0, 0), (.iconst (4), 0, 0), (.iadd, 0, 0), (.iaload, 0, 0), (.aload 0, 0, 0), (.iload 3, 0, 0), (.iconst (5), 0, 0), (.iadd, 0, 0), (.iaload, 0, 0), (.invokevirtual 0, 141, 0), (.aload 2, 0, 0), (.aload 0, 0, 0), (.iload 3, 0, 0), (.iconst (1), 0, 0), (.iadd, 0, 0), (.iaload, 0, 0), (.aload 0, 0, 0), (.iload 3, 0, 0), (.iconst (2), 0, 0), (.iadd, 0, 0), (.iaload, 0, 0), (.aload 0, 0, 0), (.iload 3, 0, 0), (.iconst (3), 0, 0), (.iadd, 0, 0), (.iaload, 0, 0), (.aload 0, 0, 0), (.iload 3, 0, 0), (.iconst (4), 0, 0), (.iadd, 0, 0), (.iaload, 0, 0), (.aload 0, 0, 0), (.iload 3, 0, 0), (.iconst (5), 0, 0), (.iadd, 0, 0), (.iaload, 0, 0), (.invokevirtual 0, 218, 0), (.if_icmp .eq 0, 73, 0), (.goto_w 0, 40, 0)]),
  (883, [(.iconst (0), 0, 0), (.ireturn, 0, 0)]),
  (885, [(.aload 1, 0, 0), (.aload 0, 0, 0), (.iload 3, 0, 0), (.iconst (1), 0, 0), (.iadd, 0, 0), (.iaload, 0, 0), (.invokevirtual 0, 142, 0), (.aload 2, 0, 0), (.aload 0, 0, 0), (.iload 3, 0, 0), (.iconst (1), 0, 0), (.iadd, 0, 0), (.iaload, 0, 0), (.invokevirtual 0, 219, 0), (.if_icmp .eq 0, 73, 0), (.goto_w 0, 42, 0)]),
  (906, [(.iconst (0), 0, 0), (.ireturn, 0, 0)]),
  (908, [(.aload 1, 0, 0), (.aload 0, 0, 0), (.iload 3, 0, 0), (.iconst (1), 0, 0), (.iadd, 0, 0), (.iaload, 0, 0), (.invokevirtual 0, 143, 0), (.aload 2, 0, 0), (.aload 0, 0, 0), (.iload 3, 0, 0), (.iconst (1), 0, 0), (.iadd, 0, 0), (.iaload, 0, 0), (.invokevirtual 0, 231, 0), (.if_icmp .eq 0, 73, 0), (.goto_w 0, 44, 0)]),
  (929, [(.iconst (0), 0, 0), (.ireturn, 0, 0)]),
  (931, [(.aload 1, 0, 0), (.aload 0, 0, 0), (.iload 3, 0, 0), (.iconst (1), 0, 0), (.iadd, 0, 0), (.iaload, 0, 0), (.aload 0, 0, 0), (.iload 3, 0, 0), (.iconst (2), 0, 0), (.iadd, 0, 0), (.iaload, 0, 0), (.aload 0, 0, 0), (.iload 3, 0, 0), (.iconst (3), 0, 0), (.iadd, 0, 0), (.iaload, 0, 0), (.invokevirtual 0, 144, 0), (.aload 2, 0, 0), (.aload 0, 0, 0), (.iload 3, 0, 0), (.iconst (1), 0, 0), (.iadd, 0, 0), (.iaload, 0, 0), (.aload 0, 0, 0), (.iload 3, 0, 0), (.iconst (2), 0, 0), (.iadd, 0, 0), (.iaload, 0, 0), (.aload 0, 0, 0), (.iload 3, 0, 0), (.iconst (3), 0, 0), (.iadd, 0, 0), (.iaload, 0, 0), (.invokevirtual 0, 232, 0), (.if_icmp .eq 0, 73, 0), (.goto_w 0, 46, 0)]),
  (972, [(.iconst (0), 0, 0), (.ireturn, 0, 0)]),
  (974, [(.aload 1, 0, 0), (.aload 0, 0, 0), (.iload 3, 0, 0), (.iconst (1), 0, 0), (.iadd, 0, 0), (.iaload, 0, 0), (.aload 0, 0, 0), (.iload 3, 0, 0), (.iconst (2), 0, 0), (.iadd, 0, 0), (.iaload, 0, 0), (.aload 0, 0, 0), (.iload 3, 0, 0), (.iconst (3), 0, 0), (.iadd, 0, 0), (.iaload, 0, 0), (.invokevirtual 0, 146, 0), (.aload 2, 0, 0), (.aload 0, 0, 0), (.iload 3, 0, 0), (.iconst (1), 0, 0), (.iadd, 0, 0), (.iaload, 0, 0), (.aload 0, 0, 0), (.iload 3, 0, 0), (.iconst (2), 0, 0), (.iadd, 0, 0), (.iaload, 0, 0), (.aload 0, 0, 0), (.iload 3, 0, 0), (.iconst (3), 0, 0), (.iadd, 0, 0), (.iaload, 0, 0), (.invokevirtual 0, 233, 0), (.if_icmp .eq 0, 73, 0), (.goto_w 0, 48, 0)]),
  (1015, [(.iconst (0), 0, 0), (.ireturn, 0, 0)]),
  (1017, [(.aload 1, 0, 0), (.aload 0, 0, 0), (.iload 3, 0, 0), (.iconst (1), 0, 0), (.iadd, 0, 0), (.iaload, 0, 0), (.invokevirtual 0, 147, 0), (.aload 2, 0, 0), (.aload 0, 0, 0), (.iload 3, 0, 0), (.iconst (1), 0, 0), (.iadd, 0, 0), (.iaload, 0, 0), (.invokevirtual 0, 234, 0), (.if_icmp .eq 0, 73, 0), (.goto_w 0, 50, 0)]),
  (1038, [(.iconst (0), 0, 0), (.ireturn, 0, 0)]),
  (1040, [(.aload 1, 0, 0), (.aload 0, 0, 0), (.iload 3, 0, 0), (.iconst (1), 0, 0), (.iadd, 0, 0), (.iaload, 0, 0), (.aload 0, 0, 0), (.iload 3, 0, 0), (.iconst (2), 0, 0), (.iadd, 0, 0), (.iaload, 0, 0), (.invokevirtual 0, 148, 0), (.aload 2, 0, 0), (.aload 0, 0, 0), (.iload 3, 0, 0), (.iconst (1), 0, 0), (.iadd, 0, 0), (.iaload, 0, 0), (.aload 0, 0, 0), (.iload 3, 0, 0), (.iconst (2), 0, 0), (.iadd, 0, 0), (.iaload, 0, 0), (.invokevirtual 0, 243, 0), (.lcmp, 0, 0), (.ifCond .eq 0, 73, 0), (.goto_w 0, 52, 0)]),
  (1072, [(.iconst (0), 0, 0), (.ireturn, 0, 0)]),
  (1074, [(.aload 1, 0, 0), (.aload 0, 0, 0), (.iload 3, 0, 0), (.iconst (1), 0, 0), (.iadd, 0, 0), (.iaload, 0, 0), (.aload 0, 0, 0), (.iload 3, 0, 0), (.iconst (2), 0, 0), (.iadd, 0, 0), (.iaload, 0, 0), (.invokevirtual 0, 149, 0), (.aload 2, 0, 0), (.aload 0, 0, 0), (.iload 3, 0, 0), (.iconst (1), 0, 0), (.iadd, 0, 0), (.iaload, 0, 0), (.aload 0, 0, 0), (.iload 3, 0, 0), (.iconst (2), 0, 0), (.iadd, 0, 0), (.iaload, 0, 0), (.invokevirtual 0, 244, 0), (.if_icmp .eq 0, 73, 0), (.goto_w 0, 54, 0)]),
  (1105, [(.iconst (0), 0, 0), (.ireturn, 0, 0)]),
  (1107, [(.aload 1, 0, 0), (.aload 0, 0, 0), (.iload 3, 0, 0), (.iconst (1), 0, 0), (.iadd, 0, 0), (.iaload, 0, 0), (.invokevirtual 0, 150, 0), (.aload 2, 0, 0), (.aload 0, 0, 0), (.iload 3, 0, 0), (.iconst (1), 0, 0), (.iadd, 0, 0), (.iaload, 0, 0), (.invokevirtual 0, 247, 0), (.if_icmp .eq 0, 73, 0), (.goto_w 0, 56, 0)]),
  (1128, [(.iconst (0), 0, 0), (.ireturn, 0, 0)]),
  (1130, [(.aload 1, 0, 0), (.aload 0, 0, 0), (.iload 3, 0, 0), (.iconst (1), 0, 0), (.iadd, 0, 0), (.iaload, 0, 0), (.invokevirtual 0, 151, 0), (.aload 2, 0, 0), (.aload 0, 0, 0), (.iload 3, 0, 0), (.iconst (1), 0, 0), (.iadd, 0, 0), (.iaload, 0, 0), (.invokevirtual 0, 250, 0), (.if_icmp .eq 0, 73, 0), (.goto_w 0, 58, 0)]),
  (1151, [(.iconst (0), 0, 0), (.ireturn, 0, 0)]),
  (1153, [(.aload 1, 0, 0), (.aload 0, 0, 0), (.iload 3, 0, 0), (.iconst (1), 0, 0), (.iadd, 0, 0), (.iaload, 0, 0), (.invokevirtual 0, 152, 0), (.aload 2, 0, 0), (.aload 0, 0, 0), (.iload 3, 0, 0), (.iconst (1), 0, 0), (.iadd, 0, 0), (.iaload, 0, 0), (.invokevirtual 0, 253, 0), (.if_icmp .eq 0, 73, 0), (.goto_w 0, 60, 0)]),
  (1174, [(.iconst (0), 0, 0), (.ireturn, 0, 0)]),
  (1176, [(.aload 1, 0, 0), (.aload 0, 0, 0), (.iload 3, 0, 0), (.iconst (1), 0, 0), (.iadd, 0, 0), (.iaload, 0, 0), (.invokevirtual 0, 153, 0), (.aload 2, 0, 0), (.aload 0, 0, 0), (.iload 3, 0, 0), (.iconst (1), 0, 0), (.iadd, 0, 0), (.iaload, 0, 0), (.invokevirtual 0, 256, 0), (.if_icmp .eq 0, 73, 0), (.goto_w 0, 62, 0)]),
  (1197, [(.iconst (0), 0, 0), (.ireturn, 0, 0)]),
  (1199, [(.aload 1, 0, 0), (.aload 0, 0, 0), (.iload 3, 0, 0), (.iconst (1), 0, 0), (.iadd, 0, 0), (.iaload, 0, 0), (.invokevirtual 0, 154, 0), (.aload 2, 0, 0), (.aload 0, 0, 0), (.iload 3, 0, 0), (.iconst (1), 0, 0), (.iadd, 0, 0), (.iaload, 0, 0), (.invokevirtual 0, 257, 0), (.if_icmp .eq 0, 73, 0), (.goto_w 0, 64, 0)]),
  (1220, [(.iconst (0), 0, 0), (.ireturn, 0, 0)]),
  (1222, [(.aload 1, 0, 0), (.aload 0, 0, 0), (.iload 3, 0, 0), (.iconst (1), 0, 0), (.iadd, 0, 0), (.iaload, 0, 0), (.aload 0, 0, 0), (.iload 3, 0, 0), (.iconst (2), 0, 0), (.iadd, 0, 0), (.iaload, 0, 0), (.aload 0, 0, 0), (.iload 3, 0, 0), (.iconst (3), 0, 0), (.iadd, 0, 0), (.iaload, 0, 0), (.invokevirtual 0, 155, 0), (.aload 2, 0, 0), (.aload 0, 0, 0), (.iload 3, 0, 0), (.iconst (1), 0, 0), (.iadd, 0, 0), (.iaload, 0, 0), (.aload 0, 0, 0), (.iload 3, 0, 0), (.iconst (2), 0, 0), (.iadd, 0, 0), (.iaload, 0, 0), (.aload 0, 0, 0), (.iload 3, 0, 0), (.iconst (3), 0, 0), (.iadd, 0, 0), (.iaload, 0, 0), (.invokevirtual 0, 258, 0), (.if_icmp .eq 0, 73, 0), (.goto_w 0, 66, 0)]),
  (1263, [(.iconst (0), 0, 0), (.ireturn, 0, 0)]),
  (1265, [(.aload 1, 0, 0), (.aload 0, 0, 0), (.iload 3, 0, 0), (.iconst (1), 0, 0), (.iadd, 0, 0), (.iaload, 0, 0), (.invokevirtual 0, 156, 0), (.aload 2, 0, 0), (.aload 0, 0, 0), (.iload 3, 0, 0), (.iconst (1), 0, 0), (.iadd, 0, 0), (.iaload, 0, 0), (.invokevirtual 0, 259, 0), (.if_icmp .eq 0, 73, 0), (.goto_w 0, 68, 0)]),
  (1286, [(.iconst (0), 0, 0), (.ireturn, 0, 0)]),
  (1288, [(.aload 1, 0, 0), (.aload 0, 0, 0), (.iload 3, 0, 0), (.iconst (1), 0, 0), (.iadd, 0, 0), (.iaload, 0, 0), (.aload 0, 0, 0), (.iload 3, 0, 0), (.iconst (2), 0, 0), (.iadd, 0, 0), (.iaload, 0, 0), (.aload 0, 0, 0), (.iload 3, 0, 0), (.iconst (3), 0, 0), (.iadd, 0, 0), (.iaload, 0, 0), (.aload 0, 0, 0), (.iload 3, 0, 0), (.iconst (4), 0, 0), (.iadd, 0, 0), (.iaload, 0, 0), (.invokevirtual 0, 157, 0), (.aload 2, 0, 0), (.aload 0, 0, 0), (.iload 3, 0, 0), (.iconst (1), 0, 0), (.iadd, 0, 0), (.iaload, 0, 0), (.aload 0, 0, 0), (.iload 3, 0, 0), (.iconst (2), 0, 0), (.iadd, 0, 0), (.iaload, 0, 0), (.aload 0, 0, 0), (.iload 3, 0, 0), (.iconst (3), 0, 0), (.iadd, 0, 0), (.iaload, 0, 0), (.aload 0, 0, 0), (.iload 3, 0, 0), (.iconst (4), 0, 0), (.iadd, 0, 0), (.iaload, 0, 0), (.invokevirtual 0, 260, 0), (.if_icmp .eq 0, 73, 0), (.goto_w 0, 70, 0)]),
  (1339, [(.iconst (0), 0, 0), (.ireturn, 0, 0)]),
  (1341, [(.aload 1, 0, 0), (.aload 0, 0, 0), (.iload 3, 0, 0), (.iconst (1), 0, 0), (.iadd, 0, 0), (.iaload, 0, 0), (.aload 0, 0, 0), (.iload 3, 0, 0), (.iconst (2), 0, 0), (.iadd, 0, 0), (.iaload, 0, 0), (.aload 0, 0, 0), (.iload 3, 0, 0), (.iconst (3), 0, 0), (.iadd, 0, 0), (.iaload, 0, 0), (.aload 0, 0, 0), (.iload 3, 0, 0), (.iconst (4), 0, 0), (.iadd, 0, 0), (.iaload, 0, 0), (.aload 0, 0, 0), (.iload 3, 0, 0), (.iconst (5), 0, 0), (.iadd, 0, 0), (.iaload, 0, 0), (.invokevirtual 0, 158, 0), (.aload 2, 0, 0), (.aload 0, 0, 0), (.iload 3, 0, 0), (.iconst (1), 0, 0), (.iadd, 0, 0), (.iaload, 0, 0), (.aload 0, 0, 0), (.iload 3, 0, 0), (.iconst (2), 0, 0), (.iadd, 0, 0), (.iaload, 0, 0), (.aload 0, 0, 0), (.iload 3, 0, 0), (.iconst (3), 0, 0), (.iadd, 0, 0), (.iaload, 0, 0), (.aload 0, 0, 0), (.iload 3, 0, 0), (.iconst (4), 0, 0), (.iadd, 0, 0), (.iaload, 0, 0), (.aload 0, 0, 0), (.iload 3, 0, 0), (.iconst (5), 0, 0), (.iadd, 0, 0), (.iaload, 0, 0), (.invokevirtual 0, 261, 0), (.if_icmp .eq 0, 73, 0), (.goto_w 0, 72, 0)]),
  (1402, [(.iconst (0), 0, 0), (.ireturn, 0, 0)]),
  (1404, [(.iinc 3 (6), 0, 0), (.goto 0, 1, 0)]),
  (1410, [(.iconst (1), 0, 0), (.ireturn, 0, 0)])]
def zBs : List (List (Nat × List zEnt)) := [zB_Bl_init, zB_Bl_prepare, zB_Bl_want, zB_Bl_fit, zB_Bl_search, zB_Bl_advance, zB_Bl_does, zB_Bl_spread, zB_Bl_endsBy, zB_Bl_endsOfAll, zB_Bl_staying, zB_Bl_sure, zB_Fo_init, zB_Fo_becomeTrue, zB_Fo_clear, zB_Fo_add, zB_Fo_set, zB_Fo_become, zB_Fo_kind, zB_Fo_left, zB_Fo_right, zB_Fo_group, zB_Fo_isLaw, zB_Fo_isOfGroup, zB_Fo_hasRounds, zB_Fo_hasToll, zB_Go_init, zB_Go_forget, zB_Go_passed, zB_Go_meeting, zB_Go_isStable, zB_Go_couldMeet, zB_Go_search, zB_Go_advance, zB_La_init, zB_La_whole, zB_La_refresh, zB_La_judge, zB_La_always, zB_La_until, zB_La_mark, zB_La_again, zB_La_ahead, zB_La_fewestMore, zB_Lo_init, zB_Lo_weigh, zB_Lo_countAll, zB_Lo_coming, zB_Lo_countInto, zB_Lo_line, zB_Lo_write, zB_Lo_solve, zB_Lo_clearBelow, zB_Lo_cell, zB_Lo_setCell, zB_Lo_shorten, zB_Ne_init, zB_Ne_begin, zB_Ne_leadBack, zB_Ne_hasState, zB_Ne_hasPlayer, zB_Ne_hasGroup, zB_Ne_hasSet, zB_Ne_hasMove, zB_Ne_hasJoint, zB_Ne_everyone, zB_Ne_everywhere, zB_Ne_movesOf, zB_Ne_heapOf, zB_Ne_target, zB_Ne_changeMoves, zB_Ne_changeTarget, zB_Ne_changeLetters, zB_Ne_bearing, zB_Ne_ways, zB_Ne_together, zB_Ne_leastInto, zB_Ne_sumOfPrices, zB_Ne_leastMoves, zB_Ne_next, zB_Ne_allPlans, zB_Pl_init, zB_Pl_move, zB_Pl_aim, zB_Pl_hinder, zB_Pl_leastSum, zB_Pl_cheapest, zB_Pl_worst, zB_Pl_forget, zB_Pl_startWalk, zB_Pl_goOn, zB_Pl_behind, zB_Sh_init, zB_Sh_hasPlace, zB_Sh_isEmptyPlace, zB_Sh_hasItems, zB_Sh_wrong, zB_Sh_start, zB_Sh_empty, zB_Sh_read, zB_Sh_write, zB_Sh_hasBelowZero, zB_Ta_init, zB_Ta_prepare, zB_Ta_fill, zB_Ta_share, zB_Ta_endsOf, zB_Ta_leastInto, zB_Ta_forcing, zB_Tp_init, zB_Tp_add, zB_Tp_byteOf, zB_Tp_understand, zB_Tp_here, zB_Tp_refuse, zB_Tp_take, zB_Tp_readForm, zB_Tp_readGroup, zB_Tp_readLaw, zB_Tp_readPair, zB_Tp_lawKind, zB_Tp_pairKind, zB_FN_init, zB_FN_net, zB_FN_moves, zB_FN_joint, zB_FN_step, zB_FN_leads, zB_FN_letters, zB_FN_heap, zB_FN_price, zB_FN_steps, zB_FN_type, zB_FN_form, zB_FN_holds, zB_FN_part, zB_FN_force, zB_FN_round, zB_FN_plan, zB_FN_answer, zB_FN_toll, zB_FN_walk, zB_FN_walked, zB_FN_blind, zB_FN_blindMove, zB_FN_findRow, zB_FN_choose, zB_FN_lot, zB_FN_chance, zB_FN_goal, zB_FN_content, zB_FN_stable, zB_FN_settle, zB_FN_helpers, zB_FN_count, zB_FN_sheet, zB_FN_drop, zB_FN_item, zB_FN_copy, zB_FN_at, zB_FN_put, zB_FN_swap, zB_FN_has, zB_FN_lowest, zB_FN_over, zB_FN_rest, zB_Md_in, zB_Md_init, zB_Md_begins, zB_Md_net, zB_Md_isState, zB_Md_isPlayer, zB_Md_isSet, zB_Md_isGroup, zB_Md_moves, zB_Md_jointOf, zB_Md_everybody, zB_Md_joint, zB_Md_isMove, zB_Md_step, zB_Md_leads, zB_Md_letters, zB_Md_heap, zB_Md_price, zB_Md_leadsBy, zB_Md_others, zB_Md_forces, zB_Md_force, zB_Md_type, zB_Md_next, zB_Md_needs, zB_Md_opens, zB_Md_group, zB_Md_isWhole, zB_Md_closes, zB_Md_form, zB_Md_whole, zB_Md_forcing, zB_Md_until, zB_Md_always, zB_Md_again, zB_Md_heldOf, zB_Md_tell, zB_Md_holds, zB_Md_part, zB_Md_isOfGroup, zB_Md_hasRounds, zB_Md_round, zB_Md_aim, zB_Md_planOf, zB_Md_plan, zB_Md_answer, zB_Md_sumOf, zB_Md_tollBy, zB_Md_toll, zB_Md_isSheet, zB_Md_isLane, zB_Md_finds, zB_Md_walk, zB_Md_walked, zB_Md_steps, zB_Md_mostOf, zB_Md_lays, zB_Md_digitOf, zB_Md_countsUp, zB_Md_links, zB_Md_surely, zB_Md_stays, zB_Md_does, zB_Md_fits, zB_Md_seeks, zB_Md_blind, zB_Md_blindMove, zB_Md_choose, zB_Md_lot, zB_Md_leadsWith, zB_Md_lotMany, zB_Md_common, zB_Md_coming, zB_Md_equations, zB_Md_shorten, zB_Md_swap, zB_Md_solve, zB_Md_chance, zB_Md_goal, zB_Md_way, zB_Md_contentOf, zB_Md_content, zB_Md_alone, zB_Md_isStable, zB_Md_stable, zB_Md_plansOfAll, zB_Md_plansUp, zB_Md_settle, zB_Md_many, zB_Md_isAhead, zB_Md_helpers, zB_Md_count, zB_Md_sheet, zB_Md_drop, zB_Md_item, zB_Md_copy, zB_JI_bitCount, zB_JA_fill, zB_LW_law]
def zMI : List (MethodName × ByteArray × Nat × Option FieldType × Nat × Nat × Bool × Bool) := [
  (yX0_init, cX0_init, 3, none, 0, 2, false, true),
  (yX0_prepare, cX0_prepare, 6, some .int, 0, 1, false, false),
  (yX0_want, cX0_want, 4, none, 0, 3, false, false),
  (yX0_fit, cX0_fit, 5, some .int, 0, 1, false, false),
  (yX0_search, cX0_search, 3, some .boolean, 0, 1, false, false),
  (yX0_advance, cX0_advance, 2, some .boolean, 0, 0, false, false),
  (yX0_does, cX0_does, 3, some .boolean, 0, 1, false, false),
  (yX0_spread, cX0_spread, 7, some .int, 0, 1, false, false),
  (yX0_endsBy, cX0_endsBy, 5, some .int, 0, 1, false, false),
  (yX0_endsOfAll, cX0_endsOfAll, 4, some .int, 0, 1, false, false),
  (yX0_staying, cX0_staying, 5, some .int, 0, 1, false, false),
  (yX0_sure, cX0_sure, 6, some .int, 0, 2, false, false),
  (yX1_init, cX1_init, 1, none, 1, 0, false, true),
  (yX1_becomeTrue, cX1_becomeTrue, 1, none, 1, 0, false, false),
  (yX1_clear, cX1_clear, 1, none, 1, 0, false, false),
  (yX1_add, cX1_add, 3, some .int, 1, 1, false, false),
  (yX1_set, cX1_set, 5, none, 1, 4, false, false),
  (yX1_become, cX1_become, 3, none, 1, 1, false, false),
  (yX1_kind, cX1_kind, 2, some .int, 1, 1, false, false),
  (yX1_left, cX1_left, 2, some .int, 1, 1, false, false),
  (yX1_right, cX1_right, 2, some .int, 1, 1, false, false),
  (yX1_group, cX1_group, 2, some .int, 1, 1, false, false),
  (yX1_isLaw, cX1_isLaw, 2, some .boolean, 1, 1, false, false),
  (yX1_isOfGroup, cX1_isOfGroup, 1, some .boolean, 1, 0, false, false),
  (yX1_hasRounds, cX1_hasRounds, 1, some .boolean, 1, 0, false, false),
  (yX1_hasToll, cX1_hasToll, 1, some .boolean, 1, 0, false, false),
  (yX2_init, cX2_init, 2, none, 2, 1, false, true),
  (yX2_forget, cX2_forget, 1, none, 2, 0, false, false),
  (yX2_passed, cX2_passed, 6, some .int, 2, 2, false, false),
  (yX2_meeting, cX2_meeting, 4, some .int, 2, 1, false, false),
  (yX2_isStable, cX2_isStable, 5, some .boolean, 2, 2, false, false),
  (yX2_couldMeet, cX2_couldMeet, 11, some .boolean, 2, 3, false, false),
  (yX2_search, cX2_search, 3, some .boolean, 2, 1, false, false),
  (yX2_advance, cX2_advance, 4, some .boolean, 2, 0, false, false),
  (yX3_init, cX3_init, 4, none, 3, 3, false, true),
  (yX3_whole, cX3_whole, 1, some .int, 3, 0, false, false),
  (yX3_refresh, cX3_refresh, 2, none, 3, 0, false, false),
  (yX3_judge, cX3_judge, 5, some .int, 3, 1, false, false),
  (yX3_always, cX3_always, 4, some .int, 3, 1, false, false),
  (yX3_until, cX3_until, 6, some .int, 3, 2, false, false),
  (yX3_mark, cX3_mark, 4, none, 3, 2, false, false),
  (yX3_again, cX3_again, 5, some .int, 3, 1, false, false),
  (yX3_ahead, cX3_ahead, 4, some .int, 3, 1, false, false),
  (yX3_fewestMore, cX3_fewestMore, 6, some .int, 3, 1, false, false),
  (yX4_init, cX4_init, 2, none, 4, 1, false, true),
  (yX4_weigh, cX4_weigh, 5, none, 4, 2, false, false),
  (yX4_countAll, cX4_countAll, 5, none, 4, 0, false, false),
  (yX4_coming, cX4_coming, 5, some .int, 4, 1, false, false),
  (yX4_countInto, cX4_countInto, 5, some .int, 4, 2, false, false),
  (yX4_line, cX4_line, 5, some .int, 4, 2, false, false),
  (yX4_write, cX4_write, 7, none, 4, 2, false, false),
  (yX4_solve, cX4_solve, 6, none, 4, 1, false, false),
  (yX4_clearBelow, cX4_clearBelow, 11, none, 4, 4, false, false),
  (yX4_cell, cX4_cell, 4, some .long, 4, 2, false, false),
  (yX4_setCell, cX4_setCell, 6, none, 4, 3, false, false),
  (yX4_shorten, cX4_shorten, 8, none, 4, 0, false, false),
  (yX5_init, cX5_init, 1, none, 5, 0, false, true),
  (yX5_begin, cX5_begin, 5, none, 5, 2, false, false),
  (yX5_leadBack, cX5_leadBack, 3, none, 5, 1, false, false),
  (yX5_hasState, cX5_hasState, 2, some .boolean, 5, 1, false, false),
  (yX5_hasPlayer, cX5_hasPlayer, 2, some .boolean, 5, 1, false, false),
  (yX5_hasGroup, cX5_hasGroup, 2, some .boolean, 5, 1, false, false),
  (yX5_hasSet, cX5_hasSet, 2, some .boolean, 5, 1, false, false),
  (yX5_hasMove, cX5_hasMove, 4, some .boolean, 5, 3, false, false),
  (yX5_hasJoint, cX5_hasJoint, 3, some .boolean, 5, 2, false, false),
  (yX5_everyone, cX5_everyone, 1, some .int, 5, 0, false, false),
  (yX5_everywhere, cX5_everywhere, 1, some .int, 5, 0, false, false),
  (yX5_movesOf, cX5_movesOf, 3, some .int, 5, 2, false, false),
  (yX5_heapOf, cX5_heapOf, 3, some .int, 5, 2, false, false),
  (yX5_target, cX5_target, 3, some .int, 5, 2, false, false),
  (yX5_changeMoves, cX5_changeMoves, 4, some .int, 5, 3, false, false),
  (yX5_changeTarget, cX5_changeTarget, 4, some .int, 5, 3, false, false),
  (yX5_changeLetters, cX5_changeLetters, 3, some .int, 5, 2, false, false),
  (yX5_bearing, cX5_bearing, 4, some .int, 5, 1, false, false),
  (yX5_ways, cX5_ways, 5, some .int, 5, 2, false, false),
  (yX5_together, cX5_together, 11, some .int, 5, 4, false, false),
  (yX5_leastInto, cX5_leastInto, 9, some .int, 5, 3, false, false),
  (yX5_sumOfPrices, cX5_sumOfPrices, 8, some .int, 5, 3, false, false),
  (yX5_leastMoves, cX5_leastMoves, 5, some .int, 5, 2, false, false),
  (yX5_next, cX5_next, 8, some .int, 5, 4, false, false),
  (yX5_allPlans, cX5_allPlans, 4, some .int, 5, 0, false, false),
  (yX6_init, cX6_init, 5, none, 6, 4, false, true),
  (yX6_move, cX6_move, 3, some .int, 6, 1, false, false),
  (yX6_aim, cX6_aim, 3, some .int, 6, 1, false, false),
  (yX6_hinder, cX6_hinder, 7, some .int, 6, 2, false, false),
  (yX6_leastSum, cX6_leastSum, 4, some .int, 6, 1, false, false),
  (yX6_cheapest, cX6_cheapest, 6, some .int, 6, 1, false, false),
  (yX6_worst, cX6_worst, 4, some .int, 6, 1, false, false),
  (yX6_forget, cX6_forget, 1, none, 6, 0, false, false),
  (yX6_startWalk, cX6_startWalk, 2, none, 6, 1, false, false),
  (yX6_goOn, cX6_goOn, 6, none, 6, 1, false, false),
  (yX6_behind, cX6_behind, 2, some .int, 6, 1, false, false),
  (yX7_init, cX7_init, 1, none, 7, 0, false, true),
  (yX7_hasPlace, cX7_hasPlace, 3, some .boolean, 7, 2, false, false),
  (yX7_isEmptyPlace, cX7_isEmptyPlace, 2, some .boolean, 7, 1, false, false),
  (yX7_hasItems, cX7_hasItems, 5, some .boolean, 7, 3, false, false),
  (yX7_wrong, cX7_wrong, 5, some .int, 7, 4, false, false),
  (yX7_start, cX7_start, 5, none, 7, 3, false, false),
  (yX7_empty, cX7_empty, 2, some .int, 7, 1, false, false),
  (yX7_read, cX7_read, 3, some .int, 7, 2, false, false),
  (yX7_write, cX7_write, 4, none, 7, 3, false, false),
  (yX7_hasBelowZero, cX7_hasBelowZero, 5, some .boolean, 7, 3, false, false),
  (yX8_init, cX8_init, 2, none, 8, 1, false, true),
  (yX8_prepare, cX8_prepare, 3, none, 8, 1, false, false),
  (yX8_fill, cX8_fill, 5, none, 8, 1, false, false),
  (yX8_share, cX8_share, 8, some .int, 8, 1, false, false),
  (yX8_endsOf, cX8_endsOf, 3, some .int, 8, 2, false, false),
  (yX8_leastInto, cX8_leastInto, 5, some .int, 8, 2, false, false),
  (yX8_forcing, cX8_forcing, 5, some .int, 8, 2, false, false),
  (yX9_init, cX9_init, 1, none, 9, 0, false, true),
  (yX9_add, cX9_add, 6, some .int, 9, 2, false, false),
  (yX9_byteOf, cX9_byteOf, 3, some .int, 9, 2, true, false),
  (yX9_understand, cX9_understand, 2, some .int, 9, 1, false, false),
  (yX9_here, cX9_here, 1, some .int, 9, 0, false, false),
  (yX9_refuse, cX9_refuse, 1, some .boolean, 9, 0, false, false),
  (yX9_take, cX9_take, 2, some .boolean, 9, 1, false, false),
  (yX9_readForm, cX9_readForm, 4, some .boolean, 9, 1, false, false),
  (yX9_readGroup, cX9_readGroup, 6, some .boolean, 9, 1, false, false),
  (yX9_readLaw, cX9_readLaw, 5, some .boolean, 9, 2, false, false),
  (yX9_readPair, cX9_readPair, 5, some .boolean, 9, 3, false, false),
  (yX9_lawKind, cX9_lawKind, 1, some .int, 9, 1, true, false),
  (yX9_pairKind, cX9_pairKind, 1, some .int, 9, 1, true, false),
  (yX10_init, cX10_init, 5, none, 10, 0, false, true),
  (yX10_net, cX10_net, 3, some .int, 10, 2, false, false),
  (yX10_moves, cX10_moves, 4, some .int, 10, 3, false, false),
  (yX10_joint, cX10_joint, 3, some .int, 10, 2, false, false),
  (yX10_step, cX10_step, 4, some .int, 10, 3, false, false),
  (yX10_leads, cX10_leads, 3, some .int, 10, 2, false, false),
  (yX10_letters, cX10_letters, 3, some .int, 10, 2, false, false),
  (yX10_heap, cX10_heap, 4, some .int, 10, 3, false, false),
  (yX10_price, cX10_price, 5, some .int, 10, 4, false, false),
  (yX10_steps, cX10_steps, 8, some .int, 10, 5, false, false),
  (yX10_type, cX10_type, 4, some .int, 10, 2, false, false),
  (yX10_form, cX10_form, 2, some .int, 10, 0, false, false),
  (yX10_holds, cX10_holds, 1, some .int, 10, 0, false, false),
  (yX10_part, cX10_part, 2, some .int, 10, 1, false, false),
  (yX10_force, cX10_force, 4, some .int, 10, 3, false, false),
  (yX10_round, cX10_round, 2, some .int, 10, 1, false, false),
  (yX10_plan, cX10_plan, 2, some .int, 10, 1, false, false),
  (yX10_answer, cX10_answer, 3, some .int, 10, 2, false, false),
  (yX10_toll, cX10_toll, 2, some .int, 10, 1, false, false),
  (yX10_walk, cX10_walk, 8, some .int, 10, 5, false, false),
  (yX10_walked, cX10_walked, 2, some .int, 10, 1, false, false),
  (yX10_blind, cX10_blind, 3, some .int, 10, 1, false, false),
  (yX10_blindMove, cX10_blindMove, 5, some .int, 10, 3, false, false),
  (yX10_findRow, cX10_findRow, 5, some .int, 10, 1, false, false),
  (yX10_choose, cX10_choose, 4, some .int, 10, 3, false, false),
  (yX10_lot, cX10_lot, 3, some .int, 10, 1, false, false),
  (yX10_chance, cX10_chance, 3, some .long, 10, 2, false, false),
  (yX10_goal, cX10_goal, 3, some .int, 10, 2, false, false),
  (yX10_content, cX10_content, 2, some .int, 10, 1, false, false),
  (yX10_stable, cX10_stable, 2, some .int, 10, 1, false, false),
  (yX10_settle, cX10_settle, 2, some .int, 10, 1, false, false),
  (yX10_helpers, cX10_helpers, 2, some .int, 10, 1, false, false),
  (yX10_count, cX10_count, 2, some .int, 10, 1, false, false),
  (yX10_sheet, cX10_sheet, 4, some .int, 10, 3, false, false),
  (yX10_drop, cX10_drop, 2, some .int, 10, 1, false, false),
  (yX10_item, cX10_item, 6, some .int, 10, 4, false, false),
  (yX10_copy, cX10_copy, 6, some .int, 10, 5, false, false),
  (yX10_at, cX10_at, 2, some .int, 10, 2, true, false),
  (yX10_put, cX10_put, 3, none, 10, 3, true, false),
  (yX10_swap, cX10_swap, 4, some .int, 10, 3, true, false),
  (yX10_has, cX10_has, 2, some .boolean, 10, 2, true, false),
  (yX10_lowest, cX10_lowest, 1, some .int, 10, 1, true, false),
  (yX10_over, cX10_over, 2, some .int, 10, 2, true, false),
  (yX10_rest, cX10_rest, 2, some .int, 10, 2, true, false),
  (yX11_in, cX11_in, 6, some .boolean, 11, 3, true, false),
  (yX11_init, cX11_init, 2, none, 11, 0, false, true),
  (yX11_begins, cX11_begins, 4, none, 11, 2, false, false),
  (yX11_net, cX11_net, 3, some .int, 11, 2, false, false),
  (yX11_isState, cX11_isState, 2, some .boolean, 11, 1, false, false),
  (yX11_isPlayer, cX11_isPlayer, 2, some .boolean, 11, 1, false, false),
  (yX11_isSet, cX11_isSet, 2, some .boolean, 11, 1, false, false),
  (yX11_isGroup, cX11_isGroup, 2, some .boolean, 11, 1, false, false),
  (yX11_moves, cX11_moves, 6, some .int, 11, 3, false, false),
  (yX11_jointOf, cX11_jointOf, 5, some .int, 11, 2, false, false),
  (yX11_everybody, cX11_everybody, 1, some .int, 11, 0, false, false),
  (yX11_joint, cX11_joint, 3, some .int, 11, 2, false, false),
  (yX11_isMove, cX11_isMove, 3, some .boolean, 11, 2, false, false),
  (yX11_step, cX11_step, 5, some .int, 11, 3, false, false),
  (yX11_leads, cX11_leads, 3, some .int, 11, 2, false, false),
  (yX11_letters, cX11_letters, 4, some .int, 11, 2, false, false),
  (yX11_heap, cX11_heap, 5, some .int, 11, 3, false, false),
  (yX11_price, cX11_price, 7, some .int, 11, 4, false, false),
  (yX11_leadsBy, cX11_leadsBy, 12, some .int, 11, 4, false, false),
  (yX11_others, cX11_others, 2, some .int, 11, 1, false, false),
  (yX11_forces, cX11_forces, 9, some .int, 11, 3, false, false),
  (yX11_force, cX11_force, 4, some .int, 11, 3, false, false),
  (yX11_type, cX11_type, 5, some .int, 11, 2, false, false),
  (yX11_next, cX11_next, 1, some .int, 11, 0, false, false),
  (yX11_needs, cX11_needs, 2, none, 11, 1, false, false),
  (yX11_opens, cX11_opens, 3, none, 11, 2, false, false),
  (yX11_group, cX11_group, 5, none, 11, 1, false, false),
  (yX11_isWhole, cX11_isWhole, 4, some .boolean, 11, 0, false, false),
  (yX11_closes, cX11_closes, 7, none, 11, 1, false, false),
  (yX11_form, cX11_form, 3, some .int, 11, 0, false, false),
  (yX11_whole, cX11_whole, 1, some .int, 11, 0, false, false),
  (yX11_forcing, cX11_forcing, 5, some .int, 11, 2, false, false),
  (yX11_until, cX11_until, 9, some .int, 11, 3, false, false),
  (yX11_always, cX11_always, 5, some .int, 11, 2, false, false),
  (yX11_again, cX11_again, 5, some .int, 11, 2, false, false),
  (yX11_heldOf, cX11_heldOf, 7, some .int, 11, 2, false, false),
  (yX11_tell, cX11_tell, 2, some .int, 11, 0, false, false),
  (yX11_holds, cX11_holds, 1, some .int, 11, 0, false, false),
  (yX11_part, cX11_part, 3, some .int, 11, 1, false, false),
  (yX11_isOfGroup, cX11_isOfGroup, 1, some .boolean, 11, 0, false, false),
  (yX11_hasRounds, cX11_hasRounds, 1, some .boolean, 11, 0, false, false),
  (yX11_round, cX11_round, 2, some .int, 11, 1, false, false),
  (yX11_aim, cX11_aim, 5, some .int, 11, 1, false, false),
  (yX11_planOf, cX11_planOf, 3, some .int, 11, 1, false, false),
  (yX11_plan, cX11_plan, 2, some .int, 11, 1, false, false),
  (yX11_answer, cX11_answer, 7, some .int, 11, 2, false, false),
  (yX11_sumOf, cX11_sumOf, 8, some .int, 11, 3, false, false),
  (yX11_tollBy, cX11_tollBy, 8, some .int, 11, 2, false, false),
  (yX11_toll, cX11_toll, 10, some .int, 11, 1, false, false),
  (yX11_isSheet, cX11_isSheet, 1, some .boolean, 11, 1, true, false),
  (yX11_isLane, cX11_isLane, 1, some .boolean, 11, 1, true, false),
  (yX11_finds, cX11_finds, 5, some .int, 11, 4, false, false),
  (yX11_walk, cX11_walk, 12, some .int, 11, 5, false, false),
  (yX11_walked, cX11_walked, 2, some .int, 11, 1, false, false),
  (yX11_steps, cX11_steps, 8, some .int, 11, 5, false, false),
  (yX11_mostOf, cX11_mostOf, 6, some .int, 11, 2, false, false),
  (yX11_lays, cX11_lays, 5, some .int, 11, 0, false, false),
  (yX11_digitOf, cX11_digitOf, 4, some .int, 11, 2, false, false),
  (yX11_countsUp, cX11_countsUp, 2, some .boolean, 11, 0, false, false),
  (yX11_links, cX11_links, 5, none, 11, 0, false, false),
  (yX11_surely, cX11_surely, 6, some .int, 11, 2, false, false),
  (yX11_stays, cX11_stays, 5, some .int, 11, 1, false, false),
  (yX11_does, cX11_does, 4, some .int, 11, 0, false, false),
  (yX11_fits, cX11_fits, 5, some .int, 11, 1, false, false),
  (yX11_seeks, cX11_seeks, 5, some .int, 11, 1, false, false),
  (yX11_blind, cX11_blind, 2, some .int, 11, 1, false, false),
  (yX11_blindMove, cX11_blindMove, 5, some .int, 11, 3, false, false),
  (yX11_choose, cX11_choose, 5, some .int, 11, 3, false, false),
  (yX11_lot, cX11_lot, 3, some .int, 11, 1, false, false),
  (yX11_leadsWith, cX11_leadsWith, 6, some .int, 11, 3, false, false),
  (yX11_lotMany, cX11_lotMany, 2, some .int, 11, 1, false, false),
  (yX11_common, cX11_common, 10, some .long, 11, 2, true, false),
  (yX11_coming, cX11_coming, 6, some .int, 11, 1, false, false),
  (yX11_equations, cX11_equations, 7, none, 11, 2, false, false),
  (yX11_shorten, cX11_shorten, 5, none, 11, 1, false, false),
  (yX11_swap, cX11_swap, 6, none, 11, 2, false, false),
  (yX11_solve, cX11_solve, 11, none, 11, 0, false, false),
  (yX11_chance, cX11_chance, 6, some .long, 11, 2, false, false),
  (yX11_goal, cX11_goal, 4, some .int, 11, 2, false, false),
  (yX11_way, cX11_way, 4, some .int, 11, 1, false, false),
  (yX11_contentOf, cX11_contentOf, 5, some .int, 11, 1, false, false),
  (yX11_content, cX11_content, 2, some .int, 11, 1, false, false),
  (yX11_alone, cX11_alone, 7, some .int, 11, 2, false, false),
  (yX11_isStable, cX11_isStable, 4, some .boolean, 11, 1, false, false),
  (yX11_stable, cX11_stable, 2, some .int, 11, 1, false, false),
  (yX11_plansOfAll, cX11_plansOfAll, 5, some .int, 11, 0, false, false),
  (yX11_plansUp, cX11_plansUp, 4, some .boolean, 11, 0, false, false),
  (yX11_settle, cX11_settle, 4, some .int, 11, 1, false, false),
  (yX11_many, cX11_many, 3, some .int, 11, 1, true, false),
  (yX11_isAhead, cX11_isAhead, 3, some .boolean, 11, 2, true, false),
  (yX11_helpers, cX11_helpers, 7, some .int, 11, 1, false, false),
  (yX11_count, cX11_count, 2, some .int, 11, 1, false, false),
  (yX11_sheet, cX11_sheet, 5, some .int, 11, 3, false, false),
  (yX11_drop, cX11_drop, 2, some .int, 11, 1, false, false),
  (yX11_item, cX11_item, 6, some .int, 11, 4, false, false),
  (yX11_copy, cX11_copy, 7, some .int, 11, 5, false, false),
  (yJ6_bitCount_0f7a4, cJ6_bitCount_0f7a4, 1, some .int, 12, 1, true, false),
  (yJ7_fill_53178, cJ7_fill_53178, 4, none, 14, 2, true, false),
  (yL_law, cL_law, 4, some .boolean, 15, 1, true, false)]
def zCN : List String := [RX0, RX1, RX2, RX3, RX4, RX5, RX6, RX7, RX8, RX9, RX10, RX11, RJ6, RJ9, RJ7, RL, RJ10]
def zFTy : List (List Nat) := [[3, 3, 3, 3, 3, 0, 0, 0, 0], [0, 0, 3, 3, 3, 3], [3, 3, 3], [3, 3, 3, 3, 3, 0, 0], [3, 0, 1, 1, 3, 3, 3, 3], [0, 0, 0, 3, 3, 3, 3, 3, 3], [3, 3, 3, 3, 3, 3, 0], [3, 3, 3], [3, 3, 3, 3, 0, 0], [3, 3, 0, 0, 0, 0], [3, 3, 3, 3, 3, 3, 3, 3, 3], [0, 0, 3, 3, 3, 3, 3, 3, 3, 0, 0, 3, 3, 3, 3, 0, 3, 3, 3, 3, 3, 3, 0, 3, 0, 0, 2, 3, 3, 3, 3, 0, 3, 3, 3, 3, 3, 3, 3, 3, 3, 0, 3, 3, 1, 1, 3]]
/-- own class, index, class, slot, place of the word in tables_1 -/
def zFT : List (Nat × Nat × Nat × Nat × Nat) := [(0, 9, 0, 2, 263), (0, 15, 0, 3, 265), (0, 18, 0, 4, 266), (0, 21, 0, 0, 261), (0, 25, 0, 1, 262), (0, 29, 0, 5, 267), (0, 33, 5, 1, 54), (0, 58, 0, 6, 268), (0, 61, 0, 7, 269), (0, 64, 0, 8, 270), (0, 67, 5, 0, 48), (0, 110, 5, 8, 72), (0, 113, 5, 3, 62), (0, 116, 8, 1, 148), (1, 9, 1, 2, 122), (1, 15, 1, 3, 123), (1, 18, 1, 4, 124), (1, 21, 1, 5, 125), (1, 38, 1, 0, 116), (1, 42, 1, 1, 120), (2, 9, 2, 1, 332), (2, 15, 2, 2, 334), (2, 18, 2, 0, 331), (2, 38, 5, 1, 55), (2, 72, 5, 0, 50), (3, 9, 3, 3, 176), (3, 15, 3, 4, 179), (3, 18, 3, 5, 182), (3, 22, 3, 6, 183), (3, 25, 3, 0, 173), (3, 29, 3, 1, 174), (3, 33, 3, 2, 175), (3, 41, 5, 2, 60), (3, 46, 1, 1, 121), (3, 49, 1, 0, 117), (3, 110, 5, 0, 51), (4, 9, 4, 1, 297), (4, 15, 4, 4, 303), (4, 19, 4, 5, 304), (4, 22, 4, 6, 305), (4, 25, 4, 7, 306), (4, 29, 4, 0, 296), (4, 37, 4, 2, 299), (4, 41, 4, 3, 301), (4, 76, 5, 0, 47), (4, 88, 5, 4, 64), (5, 9, 5, 3, 61), (5, 15, 5, 4, 63), (5, 18, 5, 5, 66), (5, 21, 5, 6, 68), (5, 24, 5, 7, 69), (5, 27, 5, 8, 70), (5, 34, 5, 0, 45), (5, 38, 5, 1, 53), (5, 55, 5, 2, 59), (6, 9, 6, 4, 237), (6, 15, 6, 5, 238), (6, 18, 6, 0, 233), (6, 22, 6, 1, 234), (6, 26, 6, 2, 235), (6, 30, 6, 3, 236), (6, 54, 3, 4, 180), (6, 66, 3, 3, 177), (6, 98, 5, 0, 49), (6, 105, 8, 2, 150), (6, 125, 6, 6, 239), (7, 9, 7, 0, 350), (7, 15, 7, 1, 352), (7, 18, 7, 2, 353), (8, 9, 8, 1, 147), (8, 15, 8, 2, 149), (8, 18, 8, 3, 151), (8, 21, 8, 4, 152), (8, 25, 8, 5, 153), (8, 28, 8, 0, 146), (8, 32, 5, 2, 58), (8, 41, 5, 0, 46), (8, 65, 5, 1, 56), (9, 9, 9, 0, 207), (9, 18, 9, 1, 208), (9, 26, 9, 2, 210), (9, 34, 9, 5, 213), (9, 37, 9, 3, 211), (9, 40, 9, 4, 212), (9, 62, 1, 0, 118), (9, 84, 1, 5, 126), (10, 23, 10, 0, 362), (10, 29, 10, 1, 363), (10, 36, 10, 2, 364), (10, 40, 10, 3, 365), (10, 49, 10, 4, 366), (10, 58, 10, 5, 367), (10, 65, 10, 6, 368), (10, 72, 10, 7, 369), (10, 79, 10, 8, 370), (10, 90, 4, 1, 298), (10, 129, 5, 8, 71), (10, 141, 5, 5, 67), (10, 162, 5, 1, 57), (10, 169, 9, 1, 209), (10, 176, 1, 0, 119), (10, 185, 3, 3, 178), (10, 205, 3, 4, 181), (10, 245, 0, 2, 264), (10, 270, 5, 4, 65), (10, 278, 4, 2, 300), (10, 282, 4, 3, 302), (10, 285, 2, 1, 333), (10, 302, 2, 2, 335), (10, 314, 5, 0, 52), (10, 329, 7, 0, 351), (10, 335, 7, 2, 354), (11, 7, 11, 2, 1088), (11, 13, 11, 3, 1089), (11, 16, 11, 4, 1090), (11, 19, 11, 5, 1091), (11, 22, 11, 6, 1092), (11, 25, 11, 7, 1093), (11, 28, 11, 8, 1094), (11, 31, 11, 11, 1097), (11, 34, 11, 12, 1098), (11, 37, 11, 13, 1099), (11, 40, 11, 14, 1100), (11, 43, 11, 16, 1102), (11, 46, 11, 17, 1103), (11, 49, 11, 18, 1104), (11, 52, 11, 19, 1105), (11, 55, 11, 20, 1106), (11, 58, 11, 21, 1107), (11, 62, 11, 23, 1109), (11, 65, 11, 27, 1113), (11, 68, 11, 28, 1114), (11, 71, 11, 29, 1115), (11, 74, 11, 30, 1116), (11, 77, 11, 32, 1118), (11, 80, 11, 33, 1119), (11, 83, 11, 34, 1120), (11, 86, 11, 35, 1121), (11, 89, 11, 36, 1122), (11, 92, 11, 37, 1123), (11, 95, 11, 38, 1124), (11, 98, 11, 39, 1125), (11, 101, 11, 40, 1126), (11, 104, 11, 42, 1128), (11, 107, 11, 43, 1129), (11, 111, 11, 46, 1132), (11, 118, 11, 0, 1086), (11, 122, 11, 1, 1087), (11, 125, 11, 9, 1095), (11, 128, 11, 10, 1096), (11, 131, 11, 31, 1117), (11, 195, 11, 24, 1110), (11, 198, 11, 25, 1111), (11, 201, 11, 26, 1112), (11, 207, 11, 22, 1108), (11, 223, 11, 15, 1101), (11, 286, 11, 41, 1127), (11, 346, 11, 44, 1130), (11, 350, 11, 45, 1131)]
/-- own class, index, method, kind (0 virtual, 1 static, 2 special), nest, place -/
def zCT : List (Nat × Nat × Nat × Nat × Nat × Nat) := [(0, 38, 162, 1, 1, 832), (0, 42, 78, 0, 0, 833), (0, 46, 160, 1, 1, 841), (0, 70, 68, 0, 0, 855), (0, 73, 263, 1, 0, 860), (0, 79, 6, 0, 0, 861), (0, 83, 5, 0, 0, 895), (0, 87, 159, 1, 1, 882), (0, 91, 7, 0, 0, 865), (0, 95, 9, 0, 0, 883), (0, 98, 10, 0, 0, 887), (0, 101, 11, 0, 0, 891), (0, 104, 163, 1, 1, 869), (0, 107, 8, 0, 0, 878), (1, 24, 13, 0, 0, 99), (1, 27, 14, 0, 0, 103), (1, 30, 15, 0, 0, 107), (1, 34, 16, 0, 0, 112), (1, 45, 160, 1, 1, 111), (1, 49, 21, 0, 0, 584), (1, 52, 18, 0, 0, 589), (1, 55, 19, 0, 0, 593), (1, 58, 20, 0, 0, 597), (1, 61, 159, 1, 1, 588), (1, 65, 22, 0, 0, 724), (2, 22, 263, 1, 0, 400), (2, 28, 162, 1, 1, 982), (2, 32, 79, 0, 0, 983), (2, 42, 159, 1, 1, 988), (2, 46, 28, 0, 0, 997), (2, 49, 29, 0, 0, 998), (2, 53, 31, 0, 0, 999), (2, 57, 163, 1, 1, 1003), (2, 60, 67, 0, 0, 1004), (2, 64, 30, 0, 0, 1021), (2, 68, 33, 0, 0, 1022), (2, 75, 160, 1, 1, 1026), (3, 37, 159, 1, 1, 638), (3, 52, 22, 0, 0, 609), (3, 56, 21, 0, 0, 613), (3, 60, 103, 0, 0, 614), (3, 66, 37, 0, 0, 633), (3, 69, 160, 1, 1, 666), (3, 73, 19, 0, 0, 637), (3, 76, 20, 0, 0, 639), (3, 79, 66, 0, 0, 640), (3, 83, 18, 0, 0, 644), (3, 86, 73, 0, 0, 645), (3, 89, 108, 0, 0, 649), (3, 93, 38, 0, 0, 657), (3, 96, 39, 0, 0, 661), (3, 99, 41, 0, 0, 671), (3, 102, 162, 1, 1, 665), (3, 106, 40, 0, 0, 667), (3, 116, 61, 0, 0, 1040), (4, 33, 162, 1, 1, 921), (4, 44, 46, 0, 0, 922), (4, 47, 47, 0, 0, 934), (4, 51, 49, 0, 0, 942), (4, 55, 50, 0, 0, 946), (4, 59, 51, 0, 0, 954), (4, 63, 53, 0, 0, 962), (4, 67, 55, 0, 0, 966), (4, 70, 263, 1, 0, 926), (4, 81, 67, 0, 0, 927), (4, 84, 160, 1, 1, 928), (4, 91, 79, 0, 0, 929), (4, 95, 159, 1, 1, 933), (4, 99, 48, 0, 0, 938), (4, 102, 54, 0, 0, 950), (4, 106, 52, 0, 0, 958), (5, 30, 57, 0, 0, 31), (5, 41, 263, 1, 0, 35), (5, 47, 58, 0, 0, 38), (5, 51, 160, 1, 1, 42), (5, 58, 65, 0, 0, 436), (5, 62, 66, 0, 0, 691), (5, 65, 59, 0, 0, 460), (5, 69, 60, 0, 0, 495), (5, 72, 67, 0, 0, 447), (5, 76, 74, 0, 0, 461), (5, 79, 159, 1, 1, 451), (5, 83, 161, 1, 1, 421), (5, 87, 162, 1, 1, 444), (5, 91, 165, 1, 1, 700), (5, 94, 164, 1, 1, 703), (5, 97, 75, 0, 0, 696), (5, 101, 69, 0, 0, 706), (5, 104, 68, 0, 0, 837), (6, 34, 35, 0, 0, 729), (6, 40, 162, 1, 1, 730), (6, 44, 83, 0, 0, 731), (6, 48, 107, 0, 0, 742), (6, 57, 159, 1, 1, 735), (6, 61, 18, 0, 0, 736), (6, 69, 19, 0, 0, 737), (6, 72, 42, 0, 0, 738), (6, 75, 21, 0, 0, 752), (6, 78, 65, 0, 0, 753), (6, 83, 74, 0, 0, 754), (6, 86, 75, 0, 0, 755), (6, 90, 69, 0, 0, 756), (6, 94, 160, 1, 1, 770), (6, 102, 86, 0, 0, 771), (6, 107, 77, 0, 0, 775), (6, 111, 106, 0, 0, 779), (6, 114, 87, 0, 0, 783), (6, 128, 165, 1, 1, 810), (6, 131, 82, 0, 0, 811), (7, 21, 263, 1, 0, 349), (7, 27, 159, 1, 1, 513), (7, 31, 94, 0, 0, 509), (7, 35, 95, 0, 0, 514), (7, 39, 160, 1, 1, 1053), (7, 43, 99, 0, 0, 801), (8, 35, 263, 1, 0, 618), (8, 44, 104, 0, 0, 619), (8, 47, 74, 0, 0, 623), (8, 50, 160, 1, 1, 624), (8, 54, 105, 0, 0, 625), (8, 58, 159, 1, 1, 630), (8, 62, 69, 0, 0, 632), (8, 68, 67, 0, 0, 629), (8, 71, 162, 1, 1, 631), (8, 75, 107, 0, 0, 653), (9, 17, 12, 2, 0, 206), (9, 22, 111, 1, 0, 530), (9, 30, 160, 1, 1, 533), (9, 43, 14, 0, 0, 542), (9, 46, 116, 0, 0, 543), (9, 50, 113, 0, 0, 547), (9, 54, 114, 0, 0, 552), (9, 58, 159, 1, 1, 551), (9, 65, 15, 0, 0, 556), (9, 69, 16, 0, 0, 557), (9, 73, 119, 0, 0, 558), (9, 77, 117, 0, 0, 569), (9, 80, 118, 0, 0, 573), (9, 87, 115, 0, 0, 565), (9, 90, 120, 1, 0, 577), (9, 93, 121, 1, 0, 562), (10, 9, 56, 2, 0, 27), (10, 12, 12, 2, 0, 95), (10, 15, 102, 2, 0, 142), (10, 20, 34, 2, 0, 169), (10, 35, 109, 2, 1, 201), (10, 46, 81, 2, 0, 229), (10, 55, 0, 2, 0, 257), (10, 64, 44, 2, 0, 292), (10, 71, 26, 2, 0, 327), (10, 78, 92, 2, 0, 345), (10, 83, 57, 0, 0, 394), (10, 87, 13, 0, 0, 395), (10, 94, 27, 0, 0, 396), (10, 97, 88, 0, 0, 401), (10, 98, 59, 0, 0, 409), (10, 102, 60, 0, 0, 413), (10, 105, 70, 0, 0, 417), (10, 109, 61, 0, 0, 432), (10, 112, 74, 0, 0, 440), (10, 116, 64, 0, 0, 456), (10, 120, 71, 0, 0, 462), (10, 123, 69, 0, 0, 470), (10, 126, 72, 0, 0, 478), (10, 133, 161, 1, 0, 486), (10, 137, 63, 0, 0, 491), (10, 144, 93, 0, 0, 500), (10, 147, 65, 0, 0, 504), (10, 151, 96, 0, 0, 505), (10, 155, 99, 0, 0, 518), (10, 158, 110, 0, 0, 526), (10, 165, 112, 0, 0, 538), (10, 172, 17, 0, 0, 580), (10, 179, 36, 0, 0, 605), (10, 182, 35, 0, 0, 675), (10, 188, 159, 1, 0, 424), (10, 192, 62, 0, 0, 687), (10, 195, 76, 0, 0, 692), (10, 198, 24, 0, 0, 711), (10, 202, 162, 1, 0, 715), (10, 208, 23, 0, 0, 720), (10, 211, 82, 0, 0, 725), (10, 214, 21, 0, 0, 747), (10, 217, 84, 0, 0, 748), (10, 220, 25, 0, 0, 761), (10, 223, 85, 0, 0, 765), (10, 226, 101, 0, 0, 797), (10, 229, 89, 0, 0, 802), (10, 233, 90, 0, 0, 806), (10, 236, 91, 0, 0, 812), (10, 239, 145, 0, 0, 824), (10, 242, 78, 0, 0, 903), (10, 248, 1, 0, 0, 828), (10, 251, 19, 0, 0, 844), (10, 254, 20, 0, 0, 845), (10, 257, 18, 0, 0, 846), (10, 260, 2, 0, 0, 847), (10, 264, 3, 0, 0, 851), (10, 267, 4, 0, 0, 856), (10, 275, 45, 0, 0, 917), (10, 288, 28, 0, 0, 978), (10, 291, 29, 0, 0, 984), (10, 294, 30, 0, 0, 993), (10, 298, 80, 0, 0, 1009), (10, 301, 32, 0, 0, 1017), (10, 311, 43, 0, 0, 1034), (10, 317, 97, 0, 0, 1049), (10, 320, 94, 0, 0, 1058), (10, 323, 98, 0, 0, 1059), (10, 326, 100, 0, 0, 1067), (10, 332, 95, 0, 0, 1075), (10, 338, 160, 1, 0, 427), (10, 342, 262, 1, 0, 872), (11, 114, 168, 0, 0, 1082), (11, 138, 166, 1, 0, 1235), (11, 144, 170, 0, 0, 1243), (11, 148, 171, 0, 0, 1247), (11, 153, 173, 0, 0, 1256), (11, 156, 175, 0, 0, 1260), (11, 160, 176, 0, 0, 1272), (11, 164, 178, 0, 0, 1268), (11, 174, 185, 0, 0, 1307), (11, 178, 184, 0, 0, 1311), (11, 182, 172, 0, 0, 1299), (11, 185, 186, 0, 0, 1303), (11, 205, 189, 0, 0, 1330), (11, 210, 190, 0, 0, 1340), (11, 216, 191, 0, 0, 1345), (11, 226, 192, 0, 0, 1336), (11, 229, 193, 0, 0, 1326), (11, 233, 194, 0, 0, 1349), (11, 236, 197, 0, 0, 1369), (11, 239, 196, 0, 0, 1365), (11, 242, 198, 0, 0, 1377), (11, 245, 199, 0, 0, 1373), (11, 248, 200, 0, 0, 1381), (11, 251, 201, 0, 0, 1361), (11, 254, 202, 0, 0, 1357), (11, 257, 206, 0, 0, 1393), (11, 260, 208, 0, 0, 1409), (11, 263, 205, 0, 0, 1401), (11, 266, 209, 0, 0, 1405), (11, 269, 212, 0, 0, 1425), (11, 272, 213, 0, 0, 1421), (11, 275, 215, 1, 0, 1433), (11, 278, 216, 1, 0, 1436), (11, 283, 217, 0, 0, 1440), (11, 289, 221, 0, 0, 1464), (11, 292, 223, 0, 0, 1476), (11, 295, 227, 0, 0, 1484), (11, 298, 226, 0, 0, 1488), (11, 301, 222, 0, 0, 1460), (11, 304, 229, 0, 0, 1468), (11, 307, 225, 0, 0, 1472), (11, 310, 228, 0, 0, 1480), (11, 313, 224, 0, 0, 1492), (11, 316, 230, 0, 0, 1456), (11, 321, 236, 0, 0, 1517), (11, 324, 235, 0, 0, 1521), (11, 327, 237, 1, 0, 1537), (11, 331, 241, 0, 0, 1533), (11, 334, 240, 0, 0, 1540), (11, 337, 238, 0, 0, 1513), (11, 340, 239, 0, 0, 1525), (11, 343, 242, 0, 0, 1529), (11, 353, 245, 0, 0, 1556), (11, 356, 246, 0, 0, 1552), (11, 359, 248, 0, 0, 1568), (11, 362, 249, 0, 0, 1564), (11, 367, 251, 0, 0, 1576), (11, 370, 252, 0, 0, 1581), (11, 373, 254, 1, 0, 1589), (11, 376, 255, 1, 0, 1592), (15, 9, 122, 2, 0, 19), (15, 12, 167, 2, 0, 1078), (15, 13, 123, 0, 0, 390), (15, 17, 169, 0, 0, 1229), (15, 18, 124, 0, 0, 405), (15, 22, 174, 0, 0, 1239), (15, 23, 125, 0, 0, 428), (15, 26, 177, 0, 0, 1252), (15, 27, 126, 0, 0, 452), (15, 30, 179, 0, 0, 1264), (15, 31, 127, 0, 0, 466), (15, 34, 180, 0, 0, 1276), (15, 35, 128, 0, 0, 474), (15, 38, 181, 0, 0, 1280), (15, 39, 129, 0, 0, 482), (15, 42, 182, 0, 0, 1285), (15, 43, 130, 0, 0, 487), (15, 47, 183, 0, 0, 1290), (15, 48, 131, 0, 0, 496), (15, 52, 220, 0, 0, 1448), (15, 55, 132, 0, 0, 522), (15, 59, 188, 0, 0, 1315), (15, 60, 133, 0, 0, 534), (15, 64, 195, 0, 0, 1322), (15, 65, 134, 0, 0, 601), (15, 68, 203, 0, 0, 1353), (15, 69, 135, 0, 0, 679), (15, 73, 204, 0, 0, 1385), (15, 74, 136, 0, 0, 683), (15, 77, 187, 0, 0, 1295), (15, 78, 137, 0, 0, 707), (15, 81, 207, 0, 0, 1389), (15, 82, 138, 0, 0, 716), (15, 85, 210, 0, 0, 1397), (15, 86, 139, 0, 0, 743), (15, 89, 211, 0, 0, 1413), (15, 90, 140, 0, 0, 757), (15, 93, 214, 0, 0, 1417), (15, 94, 141, 0, 0, 793), (15, 97, 218, 0, 0, 1429), (15, 98, 142, 0, 0, 816), (15, 101, 219, 0, 0, 1444), (15, 102, 143, 0, 0, 820), (15, 105, 231, 0, 0, 1452), (15, 106, 144, 0, 0, 899), (15, 109, 232, 0, 0, 1496), (15, 110, 146, 0, 0, 904), (15, 113, 233, 0, 0, 1500), (15, 114, 147, 0, 0, 908), (15, 117, 234, 0, 0, 1504), (15, 118, 148, 0, 0, 912), (15, 122, 243, 0, 0, 1509), (15, 123, 149, 0, 0, 970), (15, 126, 244, 0, 0, 1544), (15, 127, 150, 0, 0, 974), (15, 130, 247, 0, 0, 1548), (15, 131, 151, 0, 0, 989), (15, 134, 250, 0, 0, 1560), (15, 135, 152, 0, 0, 1005), (15, 138, 253, 0, 0, 1572), (15, 139, 153, 0, 0, 1030), (15, 142, 256, 0, 0, 1585), (15, 143, 154, 0, 0, 1041), (15, 146, 257, 0, 0, 1595), (15, 147, 155, 0, 0, 1045), (15, 150, 258, 0, 0, 1599), (15, 151, 156, 0, 0, 1054), (15, 154, 259, 0, 0, 1603), (15, 155, 157, 0, 0, 1063), (15, 158, 260, 0, 0, 1607), (15, 159, 158, 0, 0, 1071), (15, 162, 261, 0, 0, 1611)]
def zKT : List (Nat × Nat × Int × Nat) := [(6, 93, 1000000, 769), (12, 265, 1431655765, 875), (12, 266, 858993459, 876), (12, 267, 252645135, 877)]
def zKL : List (Nat × Nat × Int × Nat) := [(5, 107, 2000000000, 1013), (10, 273, -1, 916), (11, 134, 2, 1233), (11, 136, 12, 1234), (11, 142, 4, 1238), (11, 151, 3, 1251), (11, 168, 255, 1284), (11, 170, 11, 1289), (11, 172, 9, 1294), (11, 189, 8, 1319), (11, 191, 32, 1320), (11, 193, 126, 1321), (11, 214, 48, 1344), (11, 219, 97, 1334), (11, 221, 104, 1335), (11, 281, 40, 1439), (11, 319, -1, 1508), (11, 365, 2000000000, 1580), (15, 53, 4294967295, 1615)]
def zNT : List (Nat × Nat × Nat × Nat × Nat × Nat) := [(9, 15, 1, 205, 94, 4), (10, 7, 5, 25, 26, 2), (10, 10, 1, 93, 94, 4), (10, 13, 8, 140, 141, 5), (10, 18, 3, 167, 168, 6), (10, 33, 9, 199, 200, 7), (10, 44, 6, 227, 228, 8), (10, 53, 0, 255, 256, 9), (10, 62, 4, 290, 291, 10), (10, 69, 2, 325, 326, 11), (10, 76, 7, 343, 344, 12), (15, 7, 10, 17, 18, 1), (15, 10, 11, 1076, 1077, 13)]
def zOT : List (Nat × Nat × Nat) := [(0, 3, 260), (1, 3, 98), (2, 3, 330), (3, 3, 172), (4, 3, 295), (5, 3, 30), (6, 3, 232), (7, 3, 348), (8, 3, 145), (9, 3, 204), (10, 1, 22), (11, 1, 1081)]
def zAT : List (Nat × Nat × Nat) := [(10, 305, 1027)]
/-- own class, index, which of Math (0 max, 1 min, 2 min of longs), place -/
def zMT : List (Nat × Nat × Nat × Nat) := [(0, 50, 0, 842), (0, 55, 1, 843), (5, 109, 2, 1014), (6, 117, 1, 790), (6, 122, 0, 787)]
def zST : List (Nat × Nat × Nat) := [(3, 113, 1038)]
def zMP : List (Nat × Nat × Nat × Nat) := [(351, 101, 350, 0), (923, 101, 921, 922), (942, 101, 940, 941), (946, 101, 944, 945), (951, 101, 949, 950), (990, 101, 989, 25), (956, 101, 955, 19), (960, 101, 959, 20), (973, 101, 972, 21), (978, 101, 977, 22), (982, 101, 981, 23), (986, 101, 985, 24), (189, 96, 188, 0), (194, 96, 192, 193), (198, 96, 196, 197), (202, 96, 200, 201), (207, 96, 205, 206), (675, 96, 673, 674), (684, 96, 682, 683), (688, 96, 686, 687), (692, 96, 690, 691), (679, 96, 677, 678), (704, 96, 702, 703), (815, 96, 813, 814), (806, 96, 804, 805), (856, 96, 854, 855), (421, 103, 420, 0), (491, 103, 489, 490), (1073, 103, 1071, 1072), (1079, 103, 1077, 1078), (1088, 103, 1086, 1087), (1094, 103, 1093, 36), (1112, 103, 1110, 1111), (1117, 103, 1116, 37), (263, 98, 262, 0), (770, 98, 768, 769), (700, 98, 698, 699), (728, 98, 727, 10), (752, 98, 751, 11), (756, 98, 755, 12), (762, 98, 761, 13), (766, 98, 765, 14), (833, 98, 831, 832), (1129, 98, 1127, 1128), (386, 102, 385, 0), (1012, 102, 1010, 1011), (1017, 102, 1016, 26), (1029, 102, 1028, 27), (1033, 102, 1032, 28), (1037, 102, 1036, 29), (1041, 102, 1040, 30), (1049, 102, 1048, 32), (1053, 102, 1052, 33), (1057, 102, 1056, 34), (1045, 102, 1044, 31), (1061, 102, 1060, 35), (121, 94, 120, 0), (126, 94, 124, 125), (133, 94, 132, 0), (504, 94, 502, 503), (508, 94, 506, 507), (527, 94, 525, 526), (782, 94, 780, 781), (586, 94, 584, 585), (551, 94, 549, 550), (531, 94, 529, 530), (735, 94, 733, 734), (542, 94, 540, 541), (932, 94, 930, 931), (565, 94, 563, 564), (512, 94, 510, 511), (557, 94, 555, 556), (573, 94, 571, 572), (740, 94, 738, 739), (535, 94, 533, 534), (791, 94, 789, 790), (787, 94, 785, 786), (870, 94, 868, 869), (928, 94, 926, 927), (1024, 94, 1022, 1023), (1104, 94, 1102, 1103), (323, 100, 322, 0), (820, 100, 818, 819), (826, 100, 825, 15), (843, 100, 841, 842), (860, 100, 858, 859), (866, 100, 865, 16), (878, 100, 877, 17), (496, 100, 494, 495), (897, 100, 895, 896), (901, 100, 899, 900), (907, 100, 905, 906), (439, 104, 438, 0), (595, 104, 593, 594), (604, 104, 602, 603), (609, 104, 607, 608), (600, 104, 598, 599), (1144, 104, 1142, 1143), (1154, 104, 1152, 1153), (613, 104, 611, 612), (1162, 104, 1160, 1161), (892, 104, 890, 891), (236, 97, 235, 0), (709, 97, 707, 708), (714, 97, 713, 8), (720, 97, 719, 9), (874, 97, 872, 873), (748, 97, 746, 747), (744, 97, 742, 743), (295, 99, 294, 0), (621, 99, 619, 620), (624, 99, 623, 0), (633, 99, 631, 632), (642, 99, 641, 2), (647, 99, 646, 3), (660, 99, 659, 5), (638, 99, 637, 1), (664, 99, 663, 6), (668, 99, 667, 7), (653, 99, 652, 4), (671, 99, 670, 0), (656, 99, 655, 0), (113, 93, 112, 0), (485, 93, 483, 484), (500, 93, 498, 499), (523, 93, 521, 522), (547, 93, 545, 546), (561, 93, 559, 560), (569, 93, 567, 568), (577, 93, 575, 576), (582, 93, 580, 581), (591, 93, 589, 590), (617, 93, 615, 616), (629, 93, 627, 628), (696, 93, 694, 695), (774, 93, 772, 773), (778, 93, 776, 777), (802, 93, 800, 801), (811, 93, 809, 810), (838, 93, 836, 837), (852, 93, 850, 851), (888, 93, 886, 887), (911, 93, 909, 910), (915, 93, 913, 914), (994, 93, 992, 993), (919, 93, 918, 18), (999, 93, 997, 998), (1003, 93, 1001, 1002), (1007, 93, 1005, 1006), (1065, 93, 1063, 1064), (1069, 93, 1067, 1068), (1084, 93, 1082, 1083), (1100, 93, 1098, 1099), (1125, 93, 1123, 1124), (1136, 93, 1134, 1135), (1140, 93, 1138, 1139), (1149, 93, 1147, 1148), (1158, 93, 1156, 1157), (1166, 93, 1164, 1165), (518, 93, 517, 0), (136, 93, 135, 0), (515, 93, 514, 0), (538, 93, 537, 0), (963, 93, 962, 0), (797, 93, 796, 0), (794, 93, 793, 0), (1329, 105, 1328, 0), (1172, 105, 1171, 0), (1177, 105, 1176, 38), (1324, 105, 1322, 1323), (1338, 105, 1337, 39), (1342, 105, 1341, 40), (1394, 105, 1393, 45), (1351, 105, 1350, 41), (1334, 105, 1332, 1333), (1355, 105, 1354, 42), (1367, 105, 1366, 44), (1347, 105, 1345, 1346), (1363, 105, 1362, 43), (1359, 105, 1357, 1358), (1371, 105, 1369, 1370), (1375, 105, 1373, 1374), (1380, 105, 1378, 1379), (1385, 105, 1383, 1384), (1406, 105, 1405, 48), (1402, 105, 1401, 47), (1398, 105, 1397, 46), (1390, 105, 1388, 1389), (1410, 105, 1408, 1409), (1425, 105, 1424, 50), (1435, 105, 1434, 52), (1440, 105, 1439, 53), (1431, 105, 1430, 51), (1421, 105, 1420, 49), (1444, 105, 1443, 54), (1417, 105, 1415, 1416), (1460, 105, 1459, 57), (1464, 105, 1463, 58), (1472, 105, 1471, 60), (1468, 105, 1467, 59), (1476, 105, 1475, 61), (1456, 105, 1455, 56), (1452, 105, 1451, 55), (1448, 105, 1446, 1447), (1480, 105, 1478, 1479), (1496, 105, 1495, 63), (1488, 105, 1487, 62), (1484, 105, 1482, 1483), (1504, 105, 1503, 65), (1500, 105, 1499, 64), (1492, 105, 1490, 1491), (1508, 105, 1506, 1507), (1520, 105, 1519, 67), (1516, 105, 1515, 66), (1512, 105, 1510, 1511), (1527, 105, 1526, 0), (1530, 105, 1529, 0), (1535, 105, 1534, 68), (1524, 105, 1522, 1523), (1539, 105, 1537, 1538), (1543, 105, 1541, 1542), (1559, 105, 1558, 71), (1555, 105, 1554, 70), (1571, 105, 1570, 74), (1587, 105, 1586, 78), (1567, 105, 1566, 73), (1583, 105, 1582, 77), (1579, 105, 1578, 76), (1575, 105, 1574, 75), (1563, 105, 1562, 72), (1551, 105, 1550, 69), (1547, 105, 1545, 1546), (1591, 105, 1589, 1590), (1595, 105, 1593, 1594), (1599, 105, 1597, 1598), (1616, 105, 1615, 81), (1612, 105, 1611, 80), (1631, 105, 1630, 0), (1608, 105, 1607, 79), (1620, 105, 1619, 82), (1635, 105, 1634, 85), (1628, 105, 1627, 84), (1624, 105, 1623, 83), (1604, 105, 1602, 1603), (1639, 105, 1637, 1638), (1651, 105, 1650, 87), (1647, 105, 1646, 86), (1643, 105, 1641, 1642), (1663, 105, 1662, 89), (1659, 105, 1658, 88), (1655, 105, 1653, 1654), (1671, 105, 1670, 90), (1676, 105, 1675, 91), (1667, 105, 1665, 1666), (1683, 105, 1682, 0), (1686, 105, 1685, 0), (1680, 105, 1678, 1679), (1690, 105, 1688, 1689), (1694, 105, 1692, 1693), (1698, 105, 1696, 1697), (1702, 105, 1700, 1701), (1706, 105, 1704, 1705), (966, 107, 965, 0), (129, 95, 128, 0), (0, 0, 0, 0)]
def zVK : List Bool := [false, true, true, true, true, true, true, true, true, true, true, true, false, true, true, true, true, true, true, true, true, true, true, true, true, true, false, true, true, true, true, true, true, true, false, true, true, true, true, true, true, true, true, true, false, true, true, true, true, true, true, true, true, true, true, true, false, true, true, true, true, true, true, true, true, true, true, true, true, true, true, true, true, true, true, true, true, true, true, true, true, false, true, true, true, true, true, true, true, true, true, true, false, true, true, true, true, true, true, true, true, true, false, true, true, true, true, true, true, false, true, false, true, true, true, true, true, true, true, true, false, false, false, true, true, true, true, true, true, true, true, true, true, true, true, true, true, true, true, true, true, true, true, true, true, true, true, true, true, true, true, true, true, true, true, true, true, true, true, false, false, false, false, false, false, false, false, false, true, true, true, true, true, true, true, true, true, true, true, true, true, true, true, true, true, true, true, true, true, true, true, true, true, true, true, true, true, true, true, true, true, true, true, true, true, true, true, true, true, true, true, true, true, true, true, false, false, true, true, true, true, true, true, true, true, true, true, true, true, true, true, true, true, true, true, true, true, false, true, true, true, true, true, true, true, true, true, true, true, true, true, true, true, true, false, false, true, true, true, true, true, true, false, false, false]
end
section
/-! A small machine: values are whole numbers, references are places in a list of cells. What it computes, the JVM computes (part 06). -/
abbrev zMV : Type := Int ⊕ (Int ⊕ Option Nat)
abbrev zI (x : Int) : zMV := .inl x
abbrev zL (x : Int) : zMV := .inr (.inl x)
abbrev zR (k : Nat) : zMV := .inr (.inr (some k))
abbrev zU : zMV := .inr (.inr none)
/-- a cell's kind (0 ints, 1 longs, 2 booleans, 3 + class), how many slots, the references of an object -/
abbrev zSh : Type := Nat × Nat × List (Option Nat)
/-- the cells, and what their numbers are -/
abbrev zWd : Type := List zSh × (Nat → Int → Int)
def zup (M : Nat → Int → Int) (k : Nat) (i v : Int) : Nat → Int → Int := fun k' i' => if k' = k ∧ i' = i then v else M k' i'
def zzero (M : Nat → Int → Int) (k : Nat) : Nat → Int → Int := fun k' i' => if k' = k then 0 else M k' i'
def zfty (ci k : Nat) : Nat := (zFTy.getD ci []).getD k 9
def znf (ci : Nat) : Nat := (zFTy.getD ci []).length
def zmi (mi : Nat) : MethodName × ByteArray × Nat × Option FieldType × Nat × Nat × Bool × Bool := zMI.getD mi (yL_law, cL_law, 0, none, 0, 0, false, false)
def zmN (mi : Nat) : MethodName := (zmi mi).1
def zmC (mi : Nat) : ByteArray := (zmi mi).2.1
def zmL (mi : Nat) : Nat := (zmi mi).2.2.1
def zmR (mi : Nat) : Option FieldType := (zmi mi).2.2.2.1
def zmO (mi : Nat) : Nat := (zmi mi).2.2.2.2.1
def zmA (mi : Nat) : Nat := (zmi mi).2.2.2.2.2.1
def zmI (mi : Nat) : Bool := (zmi mi).2.2.2.2.2.2.2
def zmS (mi : Nat) : Bool := (zmi mi).2.2.2.2.2.2.1
def zBk (mi : Nat) : List (Nat × List zEnt) := zBs.getD mi []
def zblk (mi b : Nat) : List zEnt := ((zBk mi).getD b (0, [])).2
-- numbers
def zadd (x y : Int) : Int := (Int32.ofInt x + Int32.ofInt y).toInt
def zsub (x y : Int) : Int := (Int32.ofInt x - Int32.ofInt y).toInt
def zmul (x y : Int) : Int := (Int32.ofInt x * Int32.ofInt y).toInt
def zdiv (x y : Int) : Int := (Int32.ofInt x / Int32.ofInt y).toInt
def zrem (x y : Int) : Int := (Int32.ofInt x - Int32.ofInt x / Int32.ofInt y * Int32.ofInt y).toInt
def zand (x y : Int) : Int := (Int32.ofInt x &&& Int32.ofInt y).toInt
def zor (x y : Int) : Int := (Int32.ofInt x ||| Int32.ofInt y).toInt
def zxor (x y : Int) : Int := (Int32.ofInt x ^^^ Int32.ofInt y).toInt
def zshl (x y : Int) : Int := (Int32.ofInt x <<< (Int32.ofInt y &&& 31)).toInt
def zshr (x y : Int) : Int := (Int32.ofInt x >>> (Int32.ofInt y &&& 31)).toInt
def zushr (x y : Int) : Int := ((Int32.ofInt x).toUInt32 >>> ((Int32.ofInt y).toUInt32 &&& Int32.toUInt32 31)).toInt32.toInt
def zi2b (x : Int) : Int := ((Int32.ofInt x).toInt8.toInt32).toInt
def zl2i (x : Int) : Int := ((Int64.ofInt x).toInt32).toInt
def zladd (x y : Int) : Int := (Int64.ofInt x + Int64.ofInt y).toInt
def zlsub (x y : Int) : Int := (Int64.ofInt x - Int64.ofInt y).toInt
def zlmul (x y : Int) : Int := (Int64.ofInt x * Int64.ofInt y).toInt
def zldiv (x y : Int) : Int := (Int64.ofInt x / Int64.ofInt y).toInt
def zlrem (x y : Int) : Int := (Int64.ofInt x - Int64.ofInt x / Int64.ofInt y * Int64.ofInt y).toInt
def zland (x y : Int) : Int := (Int64.ofInt x &&& Int64.ofInt y).toInt
def zlor (x y : Int) : Int := (Int64.ofInt x ||| Int64.ofInt y).toInt
def zlshl (x y : Int) : Int := (Int64.ofInt x <<< ((Int32.ofInt y).toInt64 &&& 63)).toInt
def zlshr (x y : Int) : Int := (Int64.ofInt x >>> ((Int32.ofInt y).toInt64 &&& 63)).toInt
def zlcmp (x y : Int) : Int := if x < y then -1 else if x = y then 0 else 1
def zcmp (c : ClassFile.Cond) (x y : Int) : Bool := match c with
  | .eq => decide (x = y)
  | .ne => decide (x ≠ y)
  | .lt => decide (x < y)
  | .ge => decide (y ≤ x)
  | .gt => decide (y < x)
  | .le => decide (x ≤ y)
-- stack and locals
def zcat (v : zMV) : Nat := match v with
  | .inr (.inl _) => 2
  | _ => 1
def zcats (st : List zMV) : Nat := (st.map zcat).sum
def zspread : List zMV → List zMV
  | [] => []
  | v :: vs => match v with
    | .inr (.inl x) => .inr (.inl x) :: zU :: zspread vs
    | v => v :: zspread vs
def zlocs (vs : List zMV) (n : Nat) : List zMV := zspread vs ++ List.replicate (n - (zspread vs).length) zU
def zset1 (L : List zMV) (j : Nat) (v : zMV) : List zMV := match j with
  | 0 => L.set 0 v
  | i + 1 => (match L[i]? with
    | some (.inr (.inl _)) => L.set i zU
    | _ => L).set (i + 1) v
def zset2 (L : List zMV) (j : Nat) (v : zMV) : List zMV := (zset1 L j v).set (j + 1) zU
def ztsw (d : Nat) (lo hi : Int) (offs : Array Int) (x : Int) : Nat := if x < lo ∨ hi < x then d else ((offs.toList)[(x - lo).toNat]?.getD 0).toNat
def zlsw (d : Nat) (ps : List (Int × Int)) (x : Int) : Nat := match ps with
  | [] => d
  | (a, t) :: r => if x = a then t.toNat else zlsw d r x
abbrev zNx : Type := Option Nat × List zMV × List zMV × zWd
/-- two ints on the stack -/
def zii (st : List zMV) (f : Int → Int → Option zMV) : Option (List zMV) := match st with
  | .inl y :: .inl x :: r => (f x y).map (· :: r)
  | _ => none
def zll (st : List zMV) (f : Int → Int → Option zMV) : Option (List zMV) := match st with
  | .inr (.inl y) :: .inr (.inl x) :: r => (f x y).map (· :: r)
  | _ => none
def zli (st : List zMV) (f : Int → Int → Option zMV) : Option (List zMV) := match st with
  | .inl y :: .inr (.inl x) :: r => (f x y).map (· :: r)
  | _ => none
/-- what a field holds -/
def zgetf (w : zWd) (k ci j : Nat) : Option zMV := match w.1[k]? with
  | some (kd, _, rs) => if kd = 3 + ci ∧ j < znf ci then (match zfty ci j with
      | 0 => some (zI (w.2 k j))
      | 1 => some (zL (w.2 k j))
      | 2 => some (zI (w.2 k j))
      | _ => match rs[j]? with
        | some (some r) => some (zR r)
        | _ => none) else none
  | none => none
def zputf (w : zWd) (k ci j : Nat) (v : zMV) : Option zWd := match w.1[k]? with
  | some (kd, n, rs) => if kd = 3 + ci ∧ j < znf ci ∧ 2 ≤ k then (match zfty ci j, v with
      | 0, .inl x => some (w.1, zup w.2 k j x)
      | 1, .inr (.inl x) => some (w.1, zup w.2 k j x)
      | 2, .inl x => if x = 0 ∨ x = 1 then some (w.1, zup w.2 k j x) else none
      | 3, .inr (.inr (some r)) => some (w.1.set k (kd, n, rs.set j (some r)), w.2)
      | _, _ => none) else none
  | none => none
/-- how long a row of a kind is -/
def zlen (w : zWd) (k kd : Nat) : Option Nat := match w.1[k]? with
  | some (k', n, _) => if k' = kd then some n else none
  | none => none
def zaget (w : zWd) (k kd : Nat) (i : Int) : Option Int := match zlen w k kd with
  | some n => if 0 ≤ i ∧ i < n then some (w.2 k i) else none
  | none => none
def zaput (w : zWd) (k kd : Nat) (i v : Int) : Option zWd := match zlen w k kd with
  | some n => if 0 ≤ i ∧ i < n ∧ 2 ≤ k then some (w.1, zup w.2 k i v) else none
  | none => none
def zfall (L : List zMV) (w : zWd) (st : Option (List zMV)) : Option zNx := st.map fun st => (none, L, st, w)
def zkd (t : ArrayType) : Option Nat := match t with
  | .int => some 0
  | .long => some 1
  | .boolean => some 2
  | _ => none
/-- ints copied as if all were taken ahead -/
def zcpy (M : Nat → Int → Int) (a : Nat) (i : Int) (b : Nat) (j n : Int) : Nat → Int → Int := fun k x => if k = b ∧ j ≤ x ∧ x < j + n then M a (i + (x - j)) else M k x
/-- one instruction that neither calls nor returns; some b: on at block b -/
def znxt (e : zEnt) (L st : List zMV) (w : zWd) : Option zNx := match e.1 with
  | .iconst v => zfall L w (some (zI v :: st))
  | .sipush v => zfall L w (some (zL v :: st))
  | .iload j => match L[j]? with
    | some (.inl x) => zfall L w (some (zI x :: st))
    | _ => none
  | .lload j => match L[j]? with
    | some (.inr (.inl x)) => zfall L w (some (zL x :: st))
    | _ => none
  | .aload j => match L[j]? with
    | some (.inr (.inr (some k))) => zfall L w (some (zR k :: st))
    | _ => none
  | .istore j => match st with
    | .inl x :: r => if j < L.length then zfall (zset1 L j (zI x)) w (some r) else none
    | _ => none
  | .astore j => match st with
    | .inr (.inr (some k)) :: r => if j < L.length then zfall (zset1 L j (zR k)) w (some r) else none
    | _ => none
  | .lstore j => match st with
    | .inr (.inl x) :: r => if j + 1 < L.length then zfall (zset2 L j (zL x)) w (some r) else none
    | _ => none
  | .iinc j n => match L[j]? with
    | some (.inl x) => if j < L.length then zfall (zset1 L j (zI (zadd x n))) w (some st) else none
    | _ => none
  | .iadd => zfall L w (zii st fun x y => some (zI (zadd x y)))
  | .isub => zfall L w (zii st fun x y => some (zI (zsub x y)))
  | .imul => zfall L w (zii st fun x y => some (zI (zmul x y)))
  | .idiv => zfall L w (zii st fun x y => if y = 0 then none else some (zI (zdiv x y)))
  | .irem => zfall L w (zii st fun x y => if y = 0 then none else some (zI (zrem x y)))
  | .iand => zfall L w (zii st fun x y => some (zI (zand x y)))
  | .ior => zfall L w (zii st fun x y => some (zI (zor x y)))
  | .ixor => zfall L w (zii st fun x y => some (zI (zxor x y)))
  | .ishl => zfall L w (zii st fun x y => some (zI (zshl x y)))
  | .ishr => zfall L w (zii st fun x y => some (zI (zshr x y)))
  | .iushr => zfall L w (zii st fun x y => some (zI (zushr x y)))
  | .ladd => zfall L w (zll st fun x y => some (zL (zladd x y)))
  | .lsub => zfall L w (zll st fun x y => some (zL (zlsub x y)))
  | .lmul => zfall L w (zll st fun x y => some (zL (zlmul x y)))
  | .ldiv => zfall L w (zll st fun x y => if y = 0 then none else some (zL (zldiv x y)))
  | .lrem => zfall L w (zll st fun x y => if y = 0 then none else some (zL (zlrem x y)))
  | .land => zfall L w (zll st fun x y => some (zL (zland x y)))
  | .lor => zfall L w (zll st fun x y => some (zL (zlor x y)))
  | .lcmp => zfall L w (zll st fun x y => some (zI (zlcmp x y)))
  | .lshl => zfall L w (zli st fun x y => some (zL (zlshl x y)))
  | .lshr => zfall L w (zli st fun x y => some (zL (zlshr x y)))
  | .fadd => if zcats st ≤ 12 then zfall L w (zii st fun x y => some (zI (if x < y then y else x))) else none
  | .fsub => if zcats st ≤ 12 then zfall L w (zii st fun x y => some (zI (if y < x then y else x))) else none
  | .dsub => if zcats st ≤ 12 then zfall L w (zll st fun x y => some (zL (if y < x then y else x))) else none
  | .i2l => match st with
    | .inl x :: r => zfall L w (some (zL x :: r))
    | _ => none
  | .i2b => match st with
    | .inl x :: r => zfall L w (some (zI (zi2b x) :: r))
    | _ => none
  | .l2i => match st with
    | .inr (.inl x) :: r => zfall L w (some (zI (zl2i x) :: r))
    | _ => none
  | .dup => match st with
    | v :: r => if v = zU ∨ zcat v ≠ 1 then none else zfall L w (some (v :: v :: r))
    | _ => none
  | .dup2 => match st with
    | v :: u :: r => if v = zU ∨ zcat v ≠ 1 ∨ u = zU ∨ zcat u ≠ 1 then none else zfall L w (some (v :: u :: v :: u :: r))
    | _ => none
  | .pop => match st with
    | v :: r => if v = zU ∨ zcat v ≠ 1 then none else zfall L w (some r)
    | _ => none
  | .ifCond c _ => match st with
    | .inl x :: r => some (if zcmp c x 0 = true then some e.2.1 else none, L, r, w)
    | _ => none
  | .if_icmp c _ => match st with
    | .inl y :: .inl x :: r => some (if zcmp c x y = true then some e.2.1 else none, L, r, w)
    | _ => none
  | .goto _ => some (some e.2.1, L, st, w)
  | .goto_w _ => some (some e.2.1, L, st, w)
  | .tableswitch d lo hi offs => match st with
    | .inl x :: r => some (some (ztsw d.toNat lo hi offs x), L, r, w)
    | _ => none
  | .lookupswitch d ps => match st with
    | .inl x :: r => some (some (zlsw d.toNat ps.toList x), L, r, w)
    | _ => none
  | .getfield _ => match st with
    | .inr (.inr (some k)) :: r => zfall L w ((zgetf w k e.2.1 e.2.2).map (· :: r))
    | _ => none
  | .putfield _ => match st with
    | v :: .inr (.inr (some k)) :: r => (zputf w k e.2.1 e.2.2 v).map fun w' => (none, L, r, w')
    | _ => none
  | .getstatic _ => zfall L w (some (zR 1 :: st))
  | .iaload => match st with
    | .inl i :: .inr (.inr (some k)) :: r => zfall L w ((zaget w k 0 i).map (zI · :: r))
    | _ => none
  | .laload => match st with
    | .inl i :: .inr (.inr (some k)) :: r => zfall L w ((if 2 ≤ k then zaget w k 1 i else none).map (zL · :: r))
    | _ => none
  | .baload => match st with
    | .inl i :: .inr (.inr (some k)) :: r => zfall L w ((if 2 ≤ k then zaget w k 2 i else none).map (zI · :: r))
    | _ => none
  | .iastore => match st with
    | .inl v :: .inl i :: .inr (.inr (some k)) :: r => (zaput w k 0 i v).map fun w' => (none, L, r, w')
    | _ => none
  | .lastore => match st with
    | .inr (.inl v) :: .inl i :: .inr (.inr (some k)) :: r => (zaput w k 1 i v).map fun w' => (none, L, r, w')
    | _ => none
  | .bastore => match st with
    | .inl v :: .inl i :: .inr (.inr (some k)) :: r => if v = 0 ∨ v = 1 then (zaput w k 2 i v).map fun w' => (none, L, r, w') else none
    | _ => none
  | .arraylength => match st with
    | .inr (.inr (some k)) :: r => zfall L w ((zlen w k 0).map fun n => zI n :: r)
    | _ => none
  | .new _ => some (none, L, zR w.1.length :: st, (w.1 ++ [(3 + e.2.1, znf e.2.1, List.replicate (znf e.2.1) none)], zzero w.2 w.1.length))
  | .newarray t => match st with
    | .inl n :: r => match zkd t with
      | some kd => if 0 ≤ n ∧ n ≤ 100000 then some (none, L, zR w.1.length :: r, (w.1 ++ [(kd, n.toNat, [])], zzero w.2 w.1.length)) else none
      | none => none
    | _ => none
  | .nop => match st with
    | .inr (.inr (some _)) :: r => if zcats r ≤ 8 then some (none, L, r, w) else none
    | _ => none
  | .swap => match st with
    | .inl n :: .inl j :: .inr (.inr (some b)) :: .inl i :: .inr (.inr (some a)) :: r => match zlen w a 0, zlen w b 0 with
      | some na, some nb => if 0 ≤ n ∧ 0 ≤ i ∧ 0 ≤ j ∧ i + n ≤ na ∧ j + n ≤ nb ∧ 2 ≤ a ∧ 2 ≤ b ∧ zcats r ≤ 8 then some (none, L, r, (w.1, zcpy w.2 a i b j n)) else none
      | _, _ => none
    | _ => none
  | _ => none
/-- does a value fit what a method answers -/
def zrok (t : Option FieldType) (i : Instr) (st : List zMV) : Option (Option zMV) := match i, t, st with
  | .return_, none, [] => some none
  | .ireturn, some .int, [.inl x] => some (some (zI x))
  | .ireturn, some .boolean, [.inl x] => if x = 0 ∨ x = 1 then some (some (zI x)) else none
  | .lreturn, some .long, [.inr (.inl x)] => some (some (zL x))
  | _, _, _ => none
/-- a call's receiver is of the class -/
def zrecv (w : zWd) (mi : Nat) (vs : List zMV) : Bool := match vs with
  | .inr (.inr (some k)) :: _ => match w.1[k]? with
    | some (kd, _) => decide (kd = 3 + zmO mi) && decide (2 ≤ k)
    | none => false
  | _ => false
abbrev zRn : Type := Nat → Nat → List zEnt → List zMV → List zMV → zWd → Option (Option zMV × zWd)
/-- a call, then the rest -/
def zcall (rc : zRn) (d mi m2 : Nat) (es : List zEnt) (L vs r : List zMV) (w : zWd) : Option (Option zMV × zWd) := match d with
  | 0 => none
  | d' + 1 => if zcats r ≤ 8 ∧ (zspread vs).length ≤ zmL m2 then
      match rc d' m2 (zblk m2 0) (zlocs vs (zmL m2)) [] w with
      | some (v, w') => rc (d' + 1) mi es L (v.toList ++ r) w'
      | none => none
    else none
def zbody (rc : zRn) (d mi : Nat) (e : zEnt) (es : List zEnt) (L st : List zMV) (w : zWd) : Option (Option zMV × zWd) := match e.1 with
  | .invokevirtual _ => if (st.take (zmA e.2.1 + 1)).length = zmA e.2.1 + 1 ∧ zrecv w e.2.1 (st.take (zmA e.2.1 + 1)).reverse = true then zcall rc d mi e.2.1 es L (st.take (zmA e.2.1 + 1)).reverse (st.drop (zmA e.2.1 + 1)) w else none
  | .invokestatic _ => if (st.take (zmA e.2.1)).length = zmA e.2.1 then zcall rc d mi e.2.1 es L (st.take (zmA e.2.1)).reverse (st.drop (zmA e.2.1)) w else none
  | .return_ => (zrok (zmR mi) .return_ st).map (·, w)
  | .ireturn => (zrok (zmR mi) .ireturn st).map (·, w)
  | .lreturn => (zrok (zmR mi) .lreturn st).map (·, w)
  | _ => match znxt e L st w with
    | some (none, L', st', w') => rc d mi es L' st' w'
    | some (some b, L', st', w') => rc d mi (zblk mi b) L' st' w'
    | none => none
def zrun : Nat → zRn
  | 0, _, _, _, _, _, _ => none
  | n + 1, d, mi, es, L, st, w => match es with
    | [] => none
    | e :: es => zbody (zrun n) d mi e es L st w
theorem zrun_eq (n d mi : Nat) (e : zEnt) (es : List zEnt) (L st : List zMV) (w : zWd) : zrun (n + 1) d mi (e :: es) L st w = zbody (zrun n) d mi e es L st w := rfl
end
section
/-! How the small machine's state stands for the JVM's -/
def zin32 (x : Int) : Prop := -2147483648 ≤ x ∧ x < 2147483648
def zin64 (x : Int) : Prop := -9223372036854775808 ≤ x ∧ x < 9223372036854775808
theorem zin32_toInt (x : Int32) : zin32 x.toInt := ⟨by have := Int32.le_toInt x; simpa using this, by have := Int32.toInt_lt x; simpa using this⟩
theorem zin64_toInt (x : Int64) : zin64 x.toInt := ⟨by have := Int64.le_toInt x; simpa using this, by have := Int64.toInt_lt x; simpa using this⟩
theorem zofI (x : Int32) : Int32.ofInt x.toInt = x := Int32.ofInt_toInt x
theorem zofL (x : Int64) : Int64.ofInt x.toInt = x := Int64.ofInt_toInt x
theorem ztoI {x : Int} (h : zin32 x) : (Int32.ofInt x).toInt = x := Int32.toInt_ofInt_of_le (by simpa using h.1) (by simpa using h.2)
theorem ztoL {x : Int} (h : zin64 x) : (Int64.ofInt x).toInt = x := Int64.toInt_ofInt_of_le (by simpa using h.1) (by simpa using h.2)
theorem zltI {x y : Int} (hx : zin32 x) (hy : zin32 y) : Int32.ofInt x < Int32.ofInt y ↔ x < y := by rw [Int32.lt_iff_toInt_lt, ztoI hx, ztoI hy]
theorem zleI {x y : Int} (hx : zin32 x) (hy : zin32 y) : Int32.ofInt x ≤ Int32.ofInt y ↔ x ≤ y := by rw [Int32.le_iff_toInt_le, ztoI hx, ztoI hy]
theorem zeqI {x y : Int} (hx : zin32 x) (hy : zin32 y) : Int32.ofInt x = Int32.ofInt y ↔ x = y := ⟨fun h => by rw [← ztoI hx, ← ztoI hy, h], fun h => by rw [h]⟩
theorem zltL {x y : Int} (hx : zin64 x) (hy : zin64 y) : Int64.ofInt x < Int64.ofInt y ↔ x < y := by rw [Int64.lt_iff_toInt_lt, ztoL hx, ztoL hy]
theorem zeqL {x y : Int} (hx : zin64 x) (hy : zin64 y) : Int64.ofInt x = Int64.ofInt y ↔ x = y := ⟨fun h => by rw [← ztoL hx, ← ztoL hy, h], fun h => by rw [h]⟩
theorem zclamp {i : Int} (h : zin32 i) : (Int32.ofInt i).toNatClampNeg = i.toNat := by show (Int32.ofInt i).toInt.toNat = i.toNat; rw [ztoI h]
theorem zin0 : zin32 0 := ⟨by decide, by decide⟩
theorem zvpin {i : Int} {n : Nat} (h : zin32 i) (h0 : 0 ≤ i) (h1 : i < n) : vp_in (Int32.ofInt i) n := by
  unfold vp_in
  rw [show (0 : Int32) = Int32.ofInt 0 from rfl, zltI h zin0, zclamp h]
  omega
/-- values -/
def ztr (adr : Nat → Nat) (v : zMV) : Value := match v with
  | .inl x => .int (Int32.ofInt x)
  | .inr (.inl x) => .long (Int64.ofInt x)
  | .inr (.inr (some k)) => .ref (adr k)
  | .inr (.inr none) => .null
def zokv (n : Nat) (v : zMV) : Prop := match v with
  | .inl x => zin32 x
  | .inr (.inl x) => zin64 x
  | .inr (.inr (some k)) => k < n
  | .inr (.inr none) => True
theorem zokv_mono {n n' : Nat} (h : n ≤ n') {v : zMV} (hv : zokv n v) : zokv n' v := by
  match v, hv with
  | .inl _, hv => exact hv
  | .inr (.inl _), hv => exact hv
  | .inr (.inr (some _)), hv => exact Nat.lt_of_lt_of_le hv h
  | .inr (.inr none), _ => trivial
theorem ztr_agree {n : Nat} {adr adr' : Nat → Nat} (h : ∀ k, k < n → adr' k = adr k) {v : zMV} (hv : zokv n v) : ztr adr' v = ztr adr v := by
  match v, hv with
  | .inl _, _ => rfl
  | .inr (.inl _), _ => rfl
  | .inr (.inr (some k)), hv => show Value.ref (adr' k) = Value.ref (adr k); rw [h k hv]
  | .inr (.inr none), _ => rfl
theorem zcat_tr (adr : Nat → Nat) (v : zMV) : (ztr adr v).category = zcat v := by
  match v with
  | .inl _ => rfl
  | .inr (.inl _) => rfl
  | .inr (.inr (some k)) => rfl
  | .inr (.inr none) => rfl
theorem zcats_tr (adr : Nat → Nat) (st : List zMV) : ((st.map (ztr adr)).map fun v => v.category).sum = zcats st := by
  unfold zcats
  rw [List.map_map]
  congr 1
  apply List.map_congr_left
  intro v _
  exact zcat_tr adr v
/-- locals -/
def zlv (adr : Nat → Nat) (ls : Array Slot) (n : Nat) (L : List zMV) : Prop := ls.size = n ∧ lv_wf ls ∧ L.length = n ∧ ∀ (j : Nat) (v : zMV), L[j]? = some v → v ≠ zU → ls[j]? = some (.val (ztr adr v))
def zll2 (adr : Nat → Nat) (L : List zMV) : List (Nat × Value) := (List.range L.length).filterMap fun j => match L[j]? with
  | some v => if v = zU then none else some (j, ztr adr v)
  | none => none
theorem zll2_mem {adr : Nat → Nat} {L : List zMV} {q : Nat × Value} : q ∈ zll2 adr L ↔ ∃ v, L[q.1]? = some v ∧ v ≠ zU ∧ q.2 = ztr adr v := by
  unfold zll2
  rw [List.mem_filterMap]
  constructor
  · rintro ⟨j, hj, h⟩
    cases hv : L[j]? with
    | none => rw [hv] at h; cases h
    | some v =>
      rw [hv] at h
      by_cases hu : v = zU
      · simp [hu] at h
      · simp only [hu, if_false] at h
        cases h
        exact ⟨v, hv, hu, rfl⟩
  · rintro ⟨v, h1, h2, h3⟩
    refine ⟨q.1, List.mem_range.mpr (List.getElem?_eq_some_iff.mp h1).1, ?_⟩
    rw [h1]
    simp only [h2, if_false]
    rw [← h3]
theorem zlv_has {adr : Nat → Nat} {ls : Array Slot} {n : Nat} {L : List zMV} (h : zlv adr ls n L) : lv_has ls n (zll2 adr L) := by
  refine ⟨h.1, h.2.1, fun q hq => ?_⟩
  obtain ⟨v, h1, h2, h3⟩ := zll2_mem.mp hq
  rw [h.2.2.2 q.1 v h1 h2, h3]
theorem zset1_len (L : List zMV) (j : Nat) (v : zMV) : (zset1 L j v).length = L.length := by
  cases j with
  | zero => simp [zset1]
  | succ i =>
    simp only [zset1, List.length_set]
    split <;> simp
theorem zset1_get {L : List zMV} {j : Nat} {v : zMV} (hj : j < L.length) {k : Nat} {u : zMV} (h : (zset1 L j v)[k]? = some u) (hu : u ≠ zU) : (k = j ∧ u = v) ∨ (k ≠ j ∧ L[k]? = some u ∧ ¬ (k + 1 = j ∧ zcat u = 2)) := by
  cases j with
  | zero =>
    simp only [zset1, List.getElem?_set] at h
    by_cases hk : 0 = k
    · rw [if_pos hk, if_pos (by omega)] at h
      cases h
      exact Or.inl ⟨hk.symm, rfl⟩
    · rw [if_neg hk] at h
      exact Or.inr ⟨fun e => hk e.symm, h, fun q => by omega⟩
  | succ i =>
    simp only [zset1] at h
    rw [List.getElem?_set] at h
    by_cases hk : i + 1 = k
    · rw [if_pos hk] at h
      split at h <;> (split at h <;> first | (cases h; exact Or.inl ⟨hk.symm, rfl⟩) | cases h)
    · rw [if_neg hk] at h
      refine Or.inr ⟨fun e => hk e.symm, ?_⟩
      split at h
      · next x hx =>
        rw [List.getElem?_set] at h
        by_cases hi : i = k
        · rw [if_pos hi] at h
          split at h
          · cases h; exact absurd rfl hu
          · cases h
        · rw [if_neg hi] at h
          exact ⟨h, fun q => by omega⟩
      · next hx =>
        refine ⟨h, fun q => ?_⟩
        have : k = i := by omega
        subst this
        match u, q.2 with
        | .inr (.inl x), _ => exact hx x h
theorem zlv_set1 {adr : Nat → Nat} {ls ls' : Array Slot} {n : Nat} {L : List zMV} {j : Nat} {v : zMV} (h : zlv adr ls n L) (hj : j < L.length)
    (h' : lv_has ls' n ((j, ztr adr v) :: (zll2 adr L).filter (fun q => !(q.1 == j) && !(q.1 + 1 == j && q.2.category == 2)))) : zlv adr ls' n (zset1 L j v) := by
  refine ⟨h'.1, h'.2.1, by rw [zset1_len]; exact h.2.2.1, fun k u hk hu => ?_⟩
  rcases zset1_get hj hk hu with ⟨rfl, rfl⟩ | ⟨h1, h2, h3⟩
  · exact h'.2.2 (k, ztr adr u) List.mem_cons_self
  · refine h'.2.2 (k, ztr adr u) (List.mem_cons_of_mem _ (List.mem_filter.mpr ⟨zll2_mem.mpr ⟨u, h2, hu, rfl⟩, ?_⟩))
    rw [zcat_tr]
    simp only [Bool.and_eq_true, Bool.not_eq_true', beq_eq_false_iff_ne, ne_eq, Bool.and_eq_false_iff]
    refine ⟨h1, ?_⟩
    by_cases q : k + 1 = j
    · exact Or.inr fun z => h3 ⟨q, z⟩
    · exact Or.inl q
theorem zlv_set2 {adr : Nat → Nat} {ls ls' : Array Slot} {n : Nat} {L : List zMV} {j : Nat} {v : zMV} (h : zlv adr ls n L) (hj : j + 1 < L.length)
    (h' : lv_has ls' n ((j, ztr adr v) :: (zll2 adr L).filter (fun q => !(q.1 == j) && (!(q.1 == j + 1) && !(q.1 + 1 == j && q.2.category == 2))))) : zlv adr ls' n (zset2 L j v) := by
  refine ⟨h'.1, h'.2.1, by simp [zset2, zset1_len]; exact h.2.2.1, fun k u hk hu => ?_⟩
  unfold zset2 at hk
  rw [List.getElem?_set] at hk
  by_cases hkj : j + 1 = k
  · rw [if_pos hkj] at hk
    split at hk
    · cases hk; exact absurd rfl hu
    · cases hk
  · rw [if_neg hkj] at hk
    rcases zset1_get (by omega) hk hu with ⟨rfl, rfl⟩ | ⟨h1, h2, h3⟩
    · exact h'.2.2 (k, ztr adr u) List.mem_cons_self
    · refine h'.2.2 (k, ztr adr u) (List.mem_cons_of_mem _ (List.mem_filter.mpr ⟨zll2_mem.mpr ⟨u, h2, hu, rfl⟩, ?_⟩))
      rw [zcat_tr]
      simp only [Bool.and_eq_true, Bool.not_eq_true', beq_eq_false_iff_ne, ne_eq, Bool.and_eq_false_iff]
      refine ⟨h1, fun z => hkj z.symm, ?_⟩
      by_cases q : k + 1 = j
      · exact Or.inr fun z => h3 ⟨q, z⟩
      · exact Or.inl q
theorem zset1_ok {n : Nat} {L : List zMV} {j : Nat} {v : zMV} (hj : j < L.length) (h : ∀ u ∈ L, zokv n u) (hv : zokv n v) : ∀ u ∈ zset1 L j v, zokv n u := by
  intro u hu
  obtain ⟨k, hk⟩ := List.getElem?_of_mem hu
  by_cases hz : u = zU
  · subst hz; exact trivial
  · rcases zset1_get hj hk hz with ⟨-, rfl⟩ | ⟨-, h2, -⟩
    · exact hv
    · exact h u (List.mem_of_getElem? h2)
theorem zset2_ok {n : Nat} {L : List zMV} {j : Nat} {v : zMV} (hj : j < L.length) (h : ∀ u ∈ L, zokv n u) (hv : zokv n v) : ∀ u ∈ zset2 L j v, zokv n u := by
  intro u hu
  unfold zset2 at hu
  rcases List.mem_or_eq_of_mem_set hu with h1 | h1
  · exact zset1_ok hj h hv u h1
  · subst h1; exact trivial
theorem zlv_agree {n k : Nat} {adr adr' : Nat → Nat} {ls : Array Slot} {L : List zMV} (h : zlv adr ls n L) (ha : ∀ j, j < k → adr' j = adr j) (ho : ∀ v ∈ L, zokv k v) : zlv adr' ls n L :=
  ⟨h.1, h.2.1, h.2.2.1, fun j v h1 h2 => by rw [ztr_agree ha (ho v (List.mem_of_getElem? h1))]; exact h.2.2.2 j v h1 h2⟩
/-- the world -/
def zfv (adr : Nat → Nat) (g : Int → Int) (ci : Nat) (rs : List (Option Nat)) (j : Nat) : Value := match zfty ci j with
  | 0 => .int (Int32.ofInt (g j))
  | 1 => .long (Int64.ofInt (g j))
  | 2 => .int (Int32.ofInt (g j))
  | _ => match rs[j]? with
    | some (some r) => .ref (adr r)
    | _ => .null
def zent (adr : Nat → Nat) (cI cL cZ : ClassId) (g : Int → Int) (sh : zSh) : va_E := match sh.1 with
  | 0 => .inl (cI, (sh.2.1, .inl (fun j => Int32.ofInt (g j))))
  | 1 => .inl (cL, (sh.2.1, .inr (.inl (fun j => Int64.ofInt (g j)))))
  | 2 => .inl (cZ, (sh.2.1, .inl (fun j => Int32.ofInt (g j))))
  | ci + 3 => .inr (ci, (List.range (znf ci)).map (zfv adr g ci sh.2.2))
def zws (adr : Nat → Nat) (cI cL cZ : ClassId) (w : zWd) : va_W := (List.range (w.1.length - 2)).map fun k => (adr (k + 2), zent adr cI cL cZ (w.2 (k + 2)) (w.1.getD (k + 2) (0, 0, [])))
theorem zws_len (adr : Nat → Nat) (cI cL cZ : ClassId) (w : zWd) : (zws adr cI cL cZ w).length = w.1.length - 2 := by simp [zws]
theorem zws_get {adr : Nat → Nat} {cI cL cZ : ClassId} {w : zWd} {k : Nat} {sh : zSh} (h : w.1[k + 2]? = some sh) : (zws adr cI cL cZ w)[k]? = some (adr (k + 2), zent adr cI cL cZ (w.2 (k + 2)) sh) := by
  have hlt := (List.getElem?_eq_some_iff.mp h).1
  unfold zws
  rw [List.getElem?_map, List.getElem?_range (by omega)]
  simp [h]
theorem zws_set {adr : Nat → Nat} {cI cL cZ : ClassId} {w w' : zWd} {k : Nat} {sh : zSh} (hlen : w'.1.length = w.1.length) (ho : ∀ j, j ≠ k + 2 → w'.1[j]? = w.1[j]? ∧ w'.2 j = w.2 j) (hk : w'.1[k + 2]? = some sh) : zws adr cI cL cZ w' = (zws adr cI cL cZ w).set k (adr (k + 2), zent adr cI cL cZ (w'.2 (k + 2)) sh) := by
  have hlt := (List.getElem?_eq_some_iff.mp hk).1
  apply List.ext_getElem?
  intro j
  rw [List.getElem?_set]
  by_cases hj : k = j
  · subst hj
    rw [if_pos rfl, if_pos (by rw [zws_len]; omega), zws_get hk]
  · rw [if_neg hj]
    by_cases hl : j + 2 < w.1.length
    · have h1 : w.1[j + 2]? = some (w.1[j + 2]) := List.getElem?_eq_getElem hl
      have h2 := ho (j + 2) (by omega)
      rw [zws_get h1, zws_get (h2.1.trans h1), h2.2]
    · rw [List.getElem?_eq_none (by rw [zws_len]; omega), List.getElem?_eq_none (by rw [zws_len]; omega)]
def zsr (sh : zSh) (i x : Int) : Prop := if sh.1 = 1 ∨ (3 ≤ sh.1 ∧ zfty (sh.1 - 3) i.toNat = 1) then zin64 x else zin32 x
def zok (w : zWd) : Prop := ∀ (k : Nat) (sh : zSh), w.1[k]? = some sh → sh.1 < 15 ∧ sh.2.1 < 2147483648 ∧ (∀ (j r : Nat), sh.2.2[j]? = some (some r) → r < w.1.length) ∧ (3 ≤ sh.1 → sh.2.1 = znf (sh.1 - 3) ∧ sh.2.2.length = znf (sh.1 - 3)) ∧ ∀ i, zsr sh i (w.2 k i)
def zInv (n0 n1 : Nat) (f0 f1 : Int → Int) (w : zWd) : Prop := w.1[0]? = some (0, n0, []) ∧ w.1[1]? = some (0, n1, []) ∧ w.2 0 = f0 ∧ w.2 1 = f1 ∧ zok w
theorem zfv_agree {n : Nat} {adr adr' : Nat → Nat} (h : ∀ k, k < n → adr' k = adr k) (g : Int → Int) (ci : Nat) {rs : List (Option Nat)} (hr : ∀ (j r : Nat), rs[j]? = some (some r) → r < n) (j : Nat) : zfv adr' g ci rs j = zfv adr g ci rs j := by
  unfold zfv
  split <;> try rfl
  split
  · next r hj => rw [h r (hr j r hj)]
  · rfl
theorem zent_agree {n : Nat} {adr adr' : Nat → Nat} (h : ∀ k, k < n → adr' k = adr k) (cI cL cZ : ClassId) (g : Int → Int) {sh : zSh} (hr : ∀ (j r : Nat), sh.2.2[j]? = some (some r) → r < n) : zent adr' cI cL cZ g sh = zent adr cI cL cZ g sh := by
  unfold zent
  split <;> try rfl
  congr 2
  apply List.map_congr_left
  intro j _
  exact zfv_agree h g _ hr j
theorem zws_push {adr : Nat → Nat} {cI cL cZ : ClassId} {w : zWd} (hok : zok w) (h2 : 2 ≤ w.1.length) (q : Nat) (sh : zSh) (hs : ∀ (j r : Nat), sh.2.2[j]? = some (some r) → r < w.1.length) : zws (fun j => if j = w.1.length then q else adr j) cI cL cZ (w.1 ++ [sh], zzero w.2 w.1.length) = zws adr cI cL cZ w ++ [(q, zent adr cI cL cZ (fun _ => 0) sh)] := by
  have ha : ∀ k, k < w.1.length → (fun j => if j = w.1.length then q else adr j) k = adr k := fun k hk => if_neg (by omega)
  apply List.ext_getElem?
  intro j
  by_cases hj : j + 2 < w.1.length
  · have h1 : w.1[j + 2]? = some (w.1[j + 2]) := List.getElem?_eq_getElem hj
    have h3 : (w.1 ++ [sh])[j + 2]? = some (w.1[j + 2]) := by rw [List.getElem?_append_left hj]; exact h1
    rw [List.getElem?_append_left (by rw [zws_len]; omega), zws_get h1, zws_get (w := (w.1 ++ [sh], zzero w.2 w.1.length)) h3]
    have : zzero w.2 w.1.length (j + 2) = w.2 (j + 2) := by
      funext i
      simp [zzero, show j + 2 ≠ w.1.length by omega]
    rw [zent_agree ha _ _ _ _ (hok _ _ h1).2.2.1]
    show some ((if j + 2 = w.1.length then q else adr (j + 2)), zent adr cI cL cZ (zzero w.2 w.1.length (j + 2)) _) = _
    rw [this, if_neg (by omega)]
  · by_cases hj2 : j + 2 = w.1.length
    · have h3 : (w.1 ++ [sh])[j + 2]? = some sh := by rw [hj2]; simp
      rw [zws_get (w := (w.1 ++ [sh], zzero w.2 w.1.length)) h3, List.getElem?_append_right (by rw [zws_len]; omega), zws_len]
      rw [show j - (w.1.length - 2) = 0 by omega]
      have : zzero w.2 w.1.length (j + 2) = fun _ => 0 := by
        funext i
        simp [zzero, hj2]
      rw [zent_agree ha _ _ _ _ hs]
      show some ((if j + 2 = w.1.length then q else adr (j + 2)), zent adr cI cL cZ (zzero w.2 w.1.length (j + 2)) _) = _
      rw [this, if_pos hj2]
      rfl
    · rw [List.getElem?_eq_none (by rw [zws_len]; simp; omega), List.getElem?_eq_none (by simp [zws_len]; omega)]
end
section
/-! One instruction of the small machine is one of the JVM's -/
def zTW : List Cond := lw_tbl.filter goodWord
def zNestW (w : Cond) : Bool := match w with
  | .methodLinkNest .. => true
  | _ => false
def zNW : List Cond := tables_1.filter zNestW
def zcn (o : Nat) : String := zCN.getD o ""
def zcl (ci : Nat) : vw_C := vwCl.getD ci ("", TX0, 0)
def ztys : List (Nat → FieldType) := [tyX0, tyX1, tyX2, tyX3, tyX4, tyX5, tyX6, tyX7, tyX8, tyX9, tyX10, tyX11]
def zty (ci : Nat) : Nat → FieldType := ztys.getD ci tyX0
def zstart (mi b : Nat) : Option Nat := ((zBk mi)[b]?).map (·.1)
def zb32 (x : Int) : Bool := decide (-2147483648 ≤ x) && decide (x < 2147483648)
def zb64 (x : Int) : Bool := decide (-9223372036854775808 ≤ x) && decide (x < 9223372036854775808)
def zjmp (mi pc b : Nat) (off : Int) : Bool := match zstart mi b with
  | some t => decide ((pc : Int) + off = (t : Int))
  | none => false
/-- the table's targets are blocks -/
def ztabs (mi pc : Nat) : List Int → List Int → Bool
  | [], [] => true
  | o :: os, b :: bs => zjmp mi pc b.toNat o && ztabs mi pc os bs
  | _, _ => false
def zlooks (mi pc : Nat) : List (Int × Int) → List (Int × Int) → Bool
  | [], [] => true
  | o :: os, b :: bs => decide (o.1 = b.1) && zb32 o.1 && zjmp mi pc b.2.toNat o.2 && zlooks mi pc os bs
  | _, _ => false
/-- does an entry say what the instruction at pc is -/
def zokE (mi pc : Nat) (i : Instr) (len : Nat) (e : zEnt) : Bool := match i with
  | .iconst n => decide (e = (.iconst n, 0, 0)) && decide (len = 1) && zb32 n
  | .bipush n => (match e.1 with | .iconst v => decide ((Int8.ofInt n).toInt32 = Int32.ofInt v) && zb32 v | _ => false) && decide (len = 2)
  | .sipush n => (match e.1 with | .iconst v => decide ((Int16.ofInt n).toInt32 = Int32.ofInt v) && zb32 v | _ => false) && decide (len = 3)
  | .ldc ix => (match e.1 with | .iconst v => zKT.any (fun q => q.1 == zmO mi && (q.2.1 == ix && q.2.2.1 == v)) && zb32 v | _ => false) && decide (len = 2)
  | .ldc_w ix => (match e.1 with | .iconst v => zKT.any (fun q => q.1 == zmO mi && (q.2.1 == ix && q.2.2.1 == v)) && zb32 v | _ => false) && decide (len = 3)
  | .ldc2_w ix => (match e.1 with | .sipush v => zKL.any (fun q => q.1 == zmO mi && (q.2.1 == ix && q.2.2.1 == v)) && zb64 v | _ => false) && decide (len = 3)
  | .lconst n => decide (e = (.sipush (n.val : Int), 0, 0)) && decide (len = 1)
  | .iload_n k => decide (e = (.iload k.val, 0, 0)) && decide (len = 1)
  | .iload k => decide (e = (.iload k, 0, 0)) && decide (len = 2)
  | .lload_n k => decide (e = (.lload k.val, 0, 0)) && decide (len = 1)
  | .lload k => decide (e = (.lload k, 0, 0)) && decide (len = 2)
  | .aload_n k => decide (e = (.aload k.val, 0, 0)) && decide (len = 1)
  | .aload k => decide (e = (.aload k, 0, 0)) && decide (len = 2)
  | .istore_n k => decide (e = (.istore k.val, 0, 0)) && decide (len = 1)
  | .istore k => decide (e = (.istore k, 0, 0)) && decide (len = 2)
  | .lstore_n k => decide (e = (.lstore k.val, 0, 0)) && decide (len = 1)
  | .lstore k => decide (e = (.lstore k, 0, 0)) && decide (len = 2)
  | .astore_n k => decide (e = (.astore k.val, 0, 0)) && decide (len = 1)
  | .astore k => decide (e = (.astore k, 0, 0)) && decide (len = 2)
  | .iinc k n => decide (e = (.iinc k n, 0, 0)) && decide (len = 3)
  | .ifCond c off => decide (e.1 = .ifCond c 0) && decide (len = 3) && zjmp mi pc e.2.1 off
  | .if_icmp c off => decide (e.1 = .if_icmp c 0) && decide (len = 3) && zjmp mi pc e.2.1 off
  | .goto off => decide (e.1 = .goto 0) && decide (len = 3) && zjmp mi pc e.2.1 off
  | .tableswitch d lo hi offs => match e.1 with
    | .tableswitch d' lo' hi' bs => decide (lo' = lo) && decide (hi' = hi) && zjmp mi pc d'.toNat d && ztabs mi pc offs.toList bs.toList && decide ((offs.toList.length : Int) = hi - lo + 1)
    | _ => false
  | .lookupswitch d ps => match e.1 with
    | .lookupswitch d' bs => zjmp mi pc d'.toNat d && zlooks mi pc ps.toList bs.toList && (ps.toList.zip (ps.toList.drop 1)).all (fun (a, next) => a.1 < next.1)
    | _ => false
  | .getfield ix => decide (e.1 = .getfield 0) && decide (len = 3) && zFT.any (fun q => q.1 == zmO mi && (q.2.1 == ix && (q.2.2.1 == e.2.1 && q.2.2.2.1 == e.2.2)))
  | .putfield ix => decide (e.1 = .putfield 0) && decide (len = 3) && zFT.any (fun q => q.1 == zmO mi && (q.2.1 == ix && (q.2.2.1 == e.2.1 && q.2.2.2.1 == e.2.2))) && (!((zcl e.2.1).2.1 e.2.2).2.2.2 || (zmI mi && zmO mi == e.2.1))
  | .getstatic ix => decide (e.1 = .getstatic 0) && decide (len = 3) && zST.any (fun q => q.1 == zmO mi && q.2.1 == ix)
  | .new ix => decide (e.1 = .new 0) && decide (len = 3) && zNT.any (fun q => q.1 == zmO mi && (q.2.1 == ix && q.2.2.1 == e.2.1))
  | .newarray t => decide (e.1 = .newarray t) && decide (len = 2)
  | .invokespecial ix => decide (len = 3) && ((decide (e.1 = .nop) && zOT.any (fun q => q.1 == zmO mi && q.2.1 == ix)) || (decide (e.1 = .invokevirtual 0) && zCT.any (fun q => q.1 == zmO mi && (q.2.1 == ix && (q.2.2.1 == e.2.1 && q.2.2.2.1 == 2)))))
  | .invokestatic ix => decide (len = 3) && ((decide (e.1 = .fadd) && zMT.any (fun q => q.1 == zmO mi && (q.2.1 == ix && q.2.2.1 == 0))) || (decide (e.1 = .fsub) && zMT.any (fun q => q.1 == zmO mi && (q.2.1 == ix && q.2.2.1 == 1))) || (decide (e.1 = .dsub) && zMT.any (fun q => q.1 == zmO mi && (q.2.1 == ix && q.2.2.1 == 2))) || (decide (e.1 = .swap) && zAT.any (fun q => q.1 == zmO mi && q.2.1 == ix)) || (decide (e.1 = .invokestatic 0) && zCT.any (fun q => q.1 == zmO mi && (q.2.1 == ix && (q.2.2.1 == e.2.1 && q.2.2.2.1 == 1)))))
  | .invokevirtual ix => decide (len = 3) && (decide (e.1 = .invokevirtual 0) && zCT.any (fun q => q.1 == zmO mi && (q.2.1 == ix && (q.2.2.1 == e.2.1 && q.2.2.2.1 == 0))))
  | .iadd | .isub | .imul | .idiv | .irem | .iand | .ior | .ixor | .ishl | .ishr | .iushr | .ladd | .lsub | .lmul | .ldiv | .lrem | .land | .lor | .lcmp | .lshl | .lshr | .i2l | .i2b | .l2i | .dup | .dup2 | .pop | .iaload | .laload | .baload | .iastore | .lastore | .bastore | .arraylength | .ireturn | .lreturn | .return_ => decide (e = (i, 0, 0)) && decide (len = 1)
  | _ => false
def zchk (mi : Nat) : Nat → List zEnt → Bool
  | _, [] => true
  | pc, e :: es => if e.1 = .goto_w 0 then zstart mi e.2.1 == some pc && zchk mi pc es else match decode (zmC mi) pc with
    | .ok (i, len) => zokE mi pc i len e && zchk mi (pc + len) es
    | .error _ => false
def zall (mi : Nat) : Bool := (zBk mi).all fun q => zchk mi q.1 q.2
-- the tables' words
theorem zTW_of {w : Cond} (h : w ∈ tables_1) (hg : goodWord w = true) : w ∈ zTW := List.mem_filter.mpr ⟨List.mem_append_right _ h, hg⟩
theorem zFT_ok : ∀ q ∈ zFT, q.2.2.1 < 12 ∧ q.2.2.2.1 < znf q.2.2.1 ∧ tables_1[q.2.2.2.2]? = some (.fieldLink (zcn q.1) q.2.1 ((zcl q.2.2.1).2.1 q.2.2.2.1).1 ((zcl q.2.2.1).2.1 q.2.2.2.1).2.1 ((zcl q.2.2.1).2.1 q.2.2.2.1).2.2.1) := by decide +kernel
theorem zKT_ok : ∀ q ∈ zKT, tables_1[q.2.2.2]? = some (.constant (zcn q.1) q.2.1 (Int32.ofInt q.2.2.1)) := by decide +kernel
theorem zKL_ok : ∀ q ∈ zKL, tables_1[q.2.2.2]? = some (.constantLong (zcn q.1) q.2.1 (Int64.ofInt q.2.2.1)) := by decide +kernel
theorem zNT_ok : ∀ q ∈ zNT, q.2.2.1 < 12 ∧ tables_1[q.2.2.2.1]? = some (.classLink (zcn q.1) q.2.1 (zcl q.2.2.1).1) ∧ tables_1[q.2.2.2.2.1]? = some (.instantiable (zcl q.2.2.1).1 (znf q.2.2.1)) ∧ tables_1[q.2.2.2.2.2]? = some (.initialized (zcl q.2.2.1).1) := by decide +kernel
theorem zOT_ok : ∀ q ∈ zOT, tables_1[q.2.2]? = some (.methodLink (zcn q.1) q.2.1 objectInit) := by decide +kernel
theorem zAT_ok : ∀ q ∈ zAT, tables_1[q.2.2]? = some (.methodLink (zcn q.1) q.2.1 arraycopyName) := by decide +kernel
def zmathN (k : Nat) : MethodName := if k = 0 then Lib.Math.max.name else if k = 1 then Lib.Math.min.name else Lib.MathLoose.min_long.x
theorem zMT_ok : ∀ q ∈ zMT, tables_1[q.2.2.2]? = some (.methodLink (zcn q.1) q.2.1 (zmathN q.2.2.1)) := by decide +kernel
theorem zmath_in : Cond.initialized "java/lang/Math" ∈ zTW ∧ Cond.static Lib.Math.max.name ∈ zTW ∧ Cond.static Lib.Math.min.name ∈ zTW ∧ Cond.static Lib.MathLoose.min_long.x ∈ zTW ∧ Cond.code Lib.Math.max.name Lib.Math.max.code 2 (some .int) ∈ zTW ∧ Cond.code Lib.Math.min.name Lib.Math.min.code 2 (some .int) ∈ zTW ∧ Cond.code Lib.MathLoose.min_long.x Lib.MathLoose.min_long.code 4 (some .long) ∈ zTW :=
  ⟨zTW_of (List.mem_of_getElem? (i := 14) (by decide +kernel)) rfl, zTW_of (List.mem_of_getElem? (i := 788) (by decide +kernel)) rfl, zTW_of (List.mem_of_getElem? (i := 791) (by decide +kernel)) rfl, zTW_of (List.mem_of_getElem? (i := 1015) (by decide +kernel)) rfl, zTW_of (List.mem_of_getElem? (i := 789) (by decide +kernel)) rfl, zTW_of (List.mem_of_getElem? (i := 792) (by decide +kernel)) rfl, zTW_of (List.mem_of_getElem? (i := 1016) (by decide +kernel)) rfl⟩
theorem zST_ok : ∀ q ∈ zST, tables_1[q.2.2]? = some (.fieldLink (zcn q.1) q.2.1 RX3 "HELPERS" "[I") := by decide +kernel
theorem zobj_in : Cond.instanceMethod objectInit ∈ zTW ∧ Cond.code objectInit ⟨#[0xb1]⟩ 1 none ∈ zTW := ⟨zTW_of (List.mem_of_getElem? (i := 23) (by decide +kernel)) rfl, zTW_of (List.mem_of_getElem? (i := 24) (by decide +kernel)) rfl⟩
theorem zcopy_in : Cond.native arraycopyName ∈ tables_1 ∧ Cond.static arraycopyName ∈ tables_1 ∧ Cond.initialized "java/lang/System" ∈ tables_1 := ⟨List.mem_of_getElem? (i := 1029) (by decide +kernel), List.mem_of_getElem? (i := 1028) (by decide +kernel), List.mem_of_getElem? (i := 16) (by decide +kernel)⟩
theorem zarr_in : Cond.arrayClass .int ∈ zTW ∧ Cond.arrayClass .long ∈ zTW ∧ Cond.arrayClass .boolean ∈ zTW := ⟨zTW_of (List.mem_of_getElem? (i := 92) (by decide +kernel)) rfl, zTW_of (List.mem_of_getElem? (i := 324) (by decide +kernel)) rfl, zTW_of (List.mem_of_getElem? (i := 1228) (by decide +kernel)) rfl⟩
theorem zcl_at : ∀ ci, ci < 12 → vwCl[ci]? = some (zcl ci) ∧ (zcl ci).2.2 = znf ci := by
  intro ci h
  have : ci = 0 ∨ ci = 1 ∨ ci = 2 ∨ ci = 3 ∨ ci = 4 ∨ ci = 5 ∨ ci = 6 ∨ ci = 7 ∨ ci = 8 ∨ ci = 9 ∨ ci = 10 ∨ ci = 11 := by omega
  rcases this with rfl | rfl | rfl | rfl | rfl | rfl | rfl | rfl | rfl | rfl | rfl | rfl <;> exact ⟨rfl, rfl⟩
theorem zcl_ws : ∀ ci, ci < 12 → ((u_ws (zcl ci).1 (zcl ci).2.1 (znf ci)).all fun w => decide (w ∈ tables_1) && goodWord w) = true := by decide +kernel
theorem zcl_in {ci : Nat} (h : ci < 12) : ∀ w ∈ u_ws (zcl ci).1 (zcl ci).2.1 (znf ci), w ∈ zTW := by
  intro w hw
  have h1 := List.all_eq_true.mp (zcl_ws ci h) w hw
  simp only [Bool.and_eq_true, decide_eq_true_eq] at h1
  exact zTW_of h1.1 h1.2
theorem zty_ok : ∀ ci, ci < 12 → ∀ k, k < znf ci → parseFieldDescriptor ((zcl ci).2.1 k).2.2.1 = some (zty ci k) := by decide +kernel
def zfc (t : FieldType) : Nat := match t with
  | .int => 0
  | .long => 1
  | .boolean => 2
  | .object _ => 3
  | .array _ => 3
  | _ => 9
theorem zfc_ok : ∀ ci, ci < 12 → ∀ k, k < znf ci → zfty ci k = zfc (zty ci k) ∧ zfty ci k ≤ 3 := by decide +kernel
theorem zdecl_ok : ∀ ci, ci < 12 → ∀ k, k < znf ci → ((zcl ci).2.1 k).1 = zcn ci := by decide +kernel
theorem znm_ok : ∀ ci, ci < 12 → ∀ a, a < znf ci → ∀ b, b < znf ci → a ≠ b → ((zcl ci).2.1 a).2.1 ≠ ((zcl ci).2.1 b).2.1 := by decide +kernel
theorem zsize_ok : ∀ ci, ci < 12 → znf ci < 100 := by decide +kernel
end
section
/-! one step -/
def zcs (w : zWd) : Nat := (w.1.map (·.2.1)).sum
def zCtx (p : Program) (s : State) (m : MethodId) (args : Array Value) (meth : Method) (c : Code) (D : va_G) (cI cL cZ : ClassId) (A : Nat → Prop) (t0 t1 n0 n1 : Nat) (f0 f1 : Int → Int) (mi : Nat) : Prop :=
  p.tables.exec = Jvm.exec ∧ c.code = zmC mi ∧ c.maxLocals = zmL mi ∧ s.vm.findClass (zcn (zmO mi)) = some m.cls ∧ (∀ w ∈ zTW, w.before args s = true) ∧ (∀ w ∈ zNW, va_Nw w s) ∧ va_K D vwCl [(cI, .int), (cL, .long), (cZ, .boolean)] s ∧ meth.locks = false ∧ (zmI mi = true → meth.name = "<init>") ∧ (∀ q, s.heap.size ≤ q → A q) ∧ va_T .int t0 n0 (fun j => .int (Int32.ofInt (f0 j))) A s s.heap ∧ va_T .int t1 n1 (fun j => .int (Int32.ofInt (f1 j))) A s s.heap ∧ va_Z RX3 "HELPERS" "[I" (.ref t1) A s s.heap
def zAt (D : va_G) (cI cL cZ : ClassId) (A : Nat → Prop) (t0 t1 n0 n1 : Nat) (f0 f1 : Int → Int) (mi : Nat) (H0 : Heap) (adr : Nat → Nat) (H : Heap) (locs : List Loc) (ls : Array Slot) (L st : List zMV) (w : zWd) : Prop :=
  va_P D vwCl (zws adr cI cL cZ w) H ∧ va_D A (zws adr cI cL cZ w) ∧ zInv n0 n1 f0 f1 w ∧ adr 0 = t0 ∧ adr 1 = t1 ∧ va_S A H0 H locs ∧ zlv adr ls (zmL mi) L ∧ (∀ v ∈ L, zokv w.1.length v) ∧ (∀ v ∈ st, zokv w.1.length v)
theorem zfall_inv {L L' st' : List zMV} {w w' : zWd} {o : Option (List zMV)} {tgt : Option Nat} (h : zfall L w o = some (tgt, L', st', w')) : none = tgt ∧ L = L' ∧ w = w' ∧ o = some st' := by
  cases o with
  | none => cases h
  | some x => cases h; exact ⟨rfl, rfl, rfl, rfl⟩
theorem zii_inv {st st' : List zMV} {f : Int → Int → Option zMV} (h : zii st f = some st') : ∃ y x r v, st = zI y :: zI x :: r ∧ f x y = some v ∧ st' = v :: r := by
  unfold zii at h
  split at h
  · next y x r =>
    cases hf : f x y with
    | none => rw [hf] at h; cases h
    | some v => rw [hf] at h; cases h; exact ⟨y, x, r, v, rfl, hf, rfl⟩
  · cases h
theorem zll_inv {st st' : List zMV} {f : Int → Int → Option zMV} (h : zll st f = some st') : ∃ y x r v, st = zL y :: zL x :: r ∧ f x y = some v ∧ st' = v :: r := by
  unfold zll at h
  split at h
  · next y x r =>
    cases hf : f x y with
    | none => rw [hf] at h; cases h
    | some v => rw [hf] at h; cases h; exact ⟨y, x, r, v, rfl, hf, rfl⟩
  · cases h
theorem zli_inv {st st' : List zMV} {f : Int → Int → Option zMV} (h : zli st f = some st') : ∃ y x r v, st = zI y :: zL x :: r ∧ f x y = some v ∧ st' = v :: r := by
  unfold zli at h
  split at h
  · next y x r =>
    cases hf : f x y with
    | none => rw [hf] at h; cases h
    | some v => rw [hf] at h; cases h; exact ⟨y, x, r, v, rfl, hf, rfl⟩
  · cases h
theorem zb32_in {x : Int} (h : zb32 x = true) : zin32 x := by
  simp only [zb32, Bool.and_eq_true, decide_eq_true_eq] at h
  exact h
theorem zb64_in {x : Int} (h : zb64 x = true) : zin64 x := by
  simp only [zb64, Bool.and_eq_true, decide_eq_true_eq] at h
  exact h
theorem zany3 {α : Type} {T : List α} {P : α → Bool} (h : T.any P = true) : ∃ q ∈ T, P q = true := by
  obtain ⟨q, h1, h2⟩ := List.any_eq_true.mp h
  exact ⟨q, h1, h2⟩
theorem zjmp_inv {mi pc b : Nat} {off : Int} (h : zjmp mi pc b off = true) : ∃ t : Nat, zstart mi b = some t ∧ (pc : Int) + off = (t : Int) := by
  unfold zjmp at h
  split at h
  · next t ht => exact ⟨t, ht, by simpa using h⟩
  · cases h
theorem zi32_i2l {x : Int} (h : zin32 x) : (Int32.ofInt x).toInt64 = Int64.ofInt x := by
  apply Int64.toInt_inj.mp
  rw [Int32.toInt_toInt64, ztoI h, ztoL ⟨by have := h.1; omega, by have := h.2; omega⟩]
theorem zin32_64 {x : Int} (h : zin32 x) : zin64 x := ⟨by have := h.1; omega, by have := h.2; omega⟩
theorem zlcmp_eq {x y : Int} (hx : zin64 x) (hy : zin64 y) : lg_cmp (Int64.ofInt x) (Int64.ofInt y) = Int32.ofInt (zlcmp x y) := by
  unfold lg_cmp zlcmp
  by_cases h1 : y < x
  · rw [if_pos (show Int64.ofInt x > Int64.ofInt y from (zltL hy hx).mpr h1), if_neg (by omega), if_neg (by omega)]; rfl
  · rw [if_neg (show ¬ Int64.ofInt x > Int64.ofInt y from fun z => h1 ((zltL hy hx).mp z))]
    by_cases h2 : x = y
    · rw [if_pos ((zeqL hx hy).mpr h2), if_neg (by omega), if_pos h2]; rfl
    · rw [if_neg (fun z => h2 ((zeqL hx hy).mp z)), if_pos (by omega)]; rfl
theorem zlcmp_in (x y : Int) : zin32 (zlcmp x y) := by
  unfold zlcmp
  split
  · exact ⟨by decide, by decide⟩
  · split
    · exact ⟨by decide, by decide⟩
    · exact ⟨by decide, by decide⟩
section ZS
variable {p : Program} {l : Launch} {e : Env} {R : Room} {s : State} {m : MethodId} {args : Array Value} {below : List Frame} {meth : Method} {c : Code} {Q : State → Prop} {D : va_G} {cI cL cZ : ClassId} {A : Nat → Prop} {t0 t1 n0 n1 mi kc ks : Nat} {f0 f1 : Int → Int}
def zK (p : Program) (l : Launch) (e : Env) (R : Room) (s : State) (m : MethodId) (args : Array Value) (below : List Frame) (meth : Method) (c : Code) (Q : State → Prop) (D : va_G) (cI cL cZ : ClassId) (A : Nat → Prop) (t0 t1 n0 n1 : Nat) (f0 f1 : Int → Int) (mi kc ks n : Nat) (adr : Nat → Nat) (tgt : Option Nat) (nx : Nat) (L st : List zMV) (w : zWd) : Prop :=
  ∀ (adr' : Nat → Nat) (H' : Heap) (locs' : List Loc) (ls' : Array Slot) (pc' : Nat), (∀ k, k < n → adr' k = adr k) → (match tgt with
    | none => pc' = nx
    | some b => zstart mi b = some pc') → zAt D cI cL cZ A t0 t1 n0 n1 f0 f1 mi s.heap adr' H' locs' ls' L st w → W p l e R s m args below meth c H' locs' (w.1.length - kc) (zcs w - ks) Q (F0 m pc' ls' (st.map (ztr adr')))
variable {adr : Nat → Nat} {H : Heap} {locs : List Loc} {ls : Array Slot} {L st : List zMV} {w : zWd} {pc nx : Nat}
theorem zAt_st {st' : List zMV} (h : zAt D cI cL cZ A t0 t1 n0 n1 f0 f1 mi s.heap adr H locs ls L st w) (hs : ∀ v ∈ st', zokv w.1.length v) : zAt D cI cL cZ A t0 t1 n0 n1 f0 f1 mi s.heap adr H locs ls L st' w := by
  obtain ⟨a1, a2, a3, a4, a5, a6, a7, a8, a9⟩ := h
  exact ⟨a1, a2, a3, a4, a5, a6, a7, a8, hs⟩
theorem zAt_lo {ls' : Array Slot} {L' st' : List zMV} (h : zAt D cI cL cZ A t0 t1 n0 n1 f0 f1 mi s.heap adr H locs ls L st w) (h1 : zlv adr ls' (zmL mi) L') (h2 : ∀ v ∈ L', zokv w.1.length v) (hs : ∀ v ∈ st', zokv w.1.length v) : zAt D cI cL cZ A t0 t1 n0 n1 f0 f1 mi s.heap adr H locs ls' L' st' w := by
  obtain ⟨a1, a2, a3, a4, a5, a6, a7, a8, a9⟩ := h
  exact ⟨a1, a2, a3, a4, a5, a6, h1, h2, hs⟩
/-- on with another stack -/
theorem zKs {st' : List zMV} {V : List Value} (hA : zAt D cI cL cZ A t0 t1 n0 n1 f0 f1 mi s.heap adr H locs ls L st w) (K : zK p l e R s m args below meth c Q D cI cL cZ A t0 t1 n0 n1 f0 f1 mi kc ks w.1.length adr none nx L st' w) (hs : ∀ v ∈ st', zokv w.1.length v) (hV : st'.map (ztr adr) = V) : W p l e R s m args below meth c H locs (w.1.length - kc) (zcs w - ks) Q (F0 m nx ls V) := by
  subst hV
  exact K adr H locs ls nx (fun _ _ => rfl) rfl (zAt_st hA hs)
theorem zKi {z : Int} {Z : Int32} {r : List zMV} (hA : zAt D cI cL cZ A t0 t1 n0 n1 f0 f1 mi s.heap adr H locs ls L st w) (K : zK p l e R s m args below meth c Q D cI cL cZ A t0 t1 n0 n1 f0 f1 mi kc ks w.1.length adr none nx L (zI z :: r) w) (hz : Int32.ofInt z = Z) (hin : zin32 z) (hr : ∀ v ∈ r, v ∈ st) : W p l e R s m args below meth c H locs (w.1.length - kc) (zcs w - ks) Q (F0 m nx ls (.int Z :: r.map (ztr adr))) := by
  subst hz
  refine zKs hA K (fun v hv => ?_) rfl
  rcases List.mem_cons.mp hv with rfl | hv
  · exact hin
  · exact hA.2.2.2.2.2.2.2.2 v (hr v hv)
theorem zKl {z : Int} {Z : Int64} {r : List zMV} (hA : zAt D cI cL cZ A t0 t1 n0 n1 f0 f1 mi s.heap adr H locs ls L st w) (K : zK p l e R s m args below meth c Q D cI cL cZ A t0 t1 n0 n1 f0 f1 mi kc ks w.1.length adr none nx L (zL z :: r) w) (hz : Int64.ofInt z = Z) (hin : zin64 z) (hr : ∀ v ∈ r, v ∈ st) : W p l e R s m args below meth c H locs (w.1.length - kc) (zcs w - ks) Q (F0 m nx ls (.long Z :: r.map (ztr adr))) := by
  subst hz
  refine zKs hA K (fun v hv => ?_) rfl
  rcases List.mem_cons.mp hv with rfl | hv
  · exact hin
  · exact hA.2.2.2.2.2.2.2.2 v (hr v hv)
theorem zmem2 {u v : zMV} {r : List zMV} : ∀ x ∈ r, x ∈ u :: v :: r := fun _ h => List.mem_cons_of_mem _ (List.mem_cons_of_mem _ h)
theorem zmem1 {u : zMV} {r : List zMV} : ∀ x ∈ r, x ∈ u :: r := fun _ h => List.mem_cons_of_mem _ h
end ZS
end
section
/-! one step: constants, locals, numbers, stack, jumps -/
section ZS
variable {p : Program} {l : Launch} {e : Env} {R : Room} {s : State} {m : MethodId} {args : Array Value} {below : List Frame} {meth : Method} {c : Code} {Q : State → Prop} {D : va_G} {cI cL cZ : ClassId} {A : Nat → Prop} {t0 t1 n0 n1 mi kc ks : Nat} {f0 f1 : Int → Int}
variable {adr : Nat → Nat} {H : Heap} {locs : List Loc} {ls : Array Slot} {L st : List zMV} {w : zWd} {pc nx : Nat}
/-- what zstep says of one instruction -/
def zSt (p : Program) (l : Launch) (e : Env) (R : Room) (s : State) (m : MethodId) (args : Array Value) (below : List Frame) (meth : Method) (c : Code) (Q : State → Prop) (D : va_G) (cI cL cZ : ClassId) (A : Nat → Prop) (t0 t1 n0 n1 : Nat) (f0 f1 : Int → Int) (mi kc ks : Nat) (i : Instr) : Prop :=
  ∀ (pc len : Nat) (en : zEnt) (L st : List zMV) (w : zWd) (tgt : Option Nat) (L' st' : List zMV) (w' : zWd) (adr : Nat → Nat) (H : Heap) (locs : List Loc) (ls : Array Slot),
    decode (zmC mi) pc = .ok (i, len) → zokE mi pc i len en = true → znxt en L st w = some (tgt, L', st', w') →
    zAt D cI cL cZ A t0 t1 n0 n1 f0 f1 mi s.heap adr H locs ls L st w → kc ≤ w.1.length → ks ≤ zcs w → w'.1.length - kc ≤ R.cells → zcs w' - ks ≤ R.slots → 1 ≤ R.frames → 40 ≤ R.locals →
    zK p l e R s m args below meth c Q D cI cL cZ A t0 t1 n0 n1 f0 f1 mi kc ks w.1.length adr tgt (pc + len) L' st' w' →
    W p l e R s m args below meth c H locs (w.1.length - kc) (zcs w - ks) Q (F0 m pc ls (st.map (ztr adr)))
theorem zs_const (hC : zCtx p s m args meth c D cI cL cZ A t0 t1 n0 n1 f0 f1 mi) (i : Instr) (hi : match i with
    | .iconst _ | .bipush _ | .sipush _ | .lconst _ => True
    | .ldc _ | .ldc_w _ | .ldc2_w _ => True
    | _ => False) : zSt p l e R s m args below meth c Q D cI cL cZ A t0 t1 n0 n1 f0 f1 mi kc ks i := by
  obtain ⟨hx, hb, hml, hown, hts, hnw, hK, hlk, hin, hA0, hT0, hT1, hZ⟩ := hC
  intro pc len en L st w tgt L' st' w' adr H locs ls hdg hok hn hA hkc hks hRc hRs hRf hRl K
  cases i with
  | iconst n =>
    simp only [zokE, Bool.and_eq_true, decide_eq_true_eq] at hok
    obtain ⟨⟨rfl, rfl⟩, h3⟩ := hok
    obtain ⟨rfl, rfl, rfl, ho⟩ := zfall_inv hn
    cases ho
    exact lv_iconst hx hb hdg rfl (zKi hA K rfl (zb32_in h3) fun _ h => h)
  | bipush n =>
    simp only [zokE, Bool.and_eq_true, decide_eq_true_eq] at hok
    obtain ⟨h1, rfl⟩ := hok
    split at h1
    · next v hv =>
      simp only [Bool.and_eq_true, decide_eq_true_eq] at h1
      simp only [znxt, hv] at hn
      obtain ⟨rfl, rfl, rfl, ho⟩ := zfall_inv hn
      cases ho
      exact lv_bipush hx hb hdg h1.1 (zKi hA K rfl (zb32_in h1.2) fun _ h => h)
    · cases h1
  | sipush n =>
    simp only [zokE, Bool.and_eq_true, decide_eq_true_eq] at hok
    obtain ⟨h1, rfl⟩ := hok
    split at h1
    · next v hv =>
      simp only [Bool.and_eq_true, decide_eq_true_eq] at h1
      simp only [znxt, hv] at hn
      obtain ⟨rfl, rfl, rfl, ho⟩ := zfall_inv hn
      cases ho
      exact lv_sipush hx hb hdg h1.1 (zKi hA K rfl (zb32_in h1.2) fun _ h => h)
    · cases h1
  | lconst n =>
    simp only [zokE, Bool.and_eq_true, decide_eq_true_eq] at hok
    obtain ⟨rfl, rfl⟩ := hok
    obtain ⟨rfl, rfl, rfl, ho⟩ := zfall_inv hn
    cases ho
    exact lv_lconst hx hb hdg (v := Int64.ofInt (n.val : Int)) (by rfl) (zKl hA K rfl ⟨by omega, by have := n.isLt; omega⟩ fun _ h => h)
  | ldc ix =>
    simp only [zokE, Bool.and_eq_true, decide_eq_true_eq] at hok
    obtain ⟨h1, rfl⟩ := hok
    split at h1
    · next v hv =>
      simp only [Bool.and_eq_true] at h1
      obtain ⟨q, hq, hq2⟩ := zany3 h1.1
      simp only [Bool.and_eq_true, beq_iff_eq] at hq2
      obtain ⟨q1, q2, q3⟩ := hq2
      have hw := zTW_of (List.mem_of_getElem? (zKT_ok q hq)) rfl
      rw [q1, q2, q3] at hw
      simp only [znxt, hv] at hn
      obtain ⟨rfl, rfl, rfl, ho⟩ := zfall_inv hn
      cases ho
      exact lv_ldc hx hb hown (hts _ hw) hdg (zKi hA K rfl (zb32_in h1.2) fun _ h => h)
    · cases h1
  | ldc_w ix =>
    simp only [zokE, Bool.and_eq_true, decide_eq_true_eq] at hok
    obtain ⟨h1, rfl⟩ := hok
    split at h1
    · next v hv =>
      simp only [Bool.and_eq_true] at h1
      obtain ⟨q, hq, hq2⟩ := zany3 h1.1
      simp only [Bool.and_eq_true, beq_iff_eq] at hq2
      obtain ⟨q1, q2, q3⟩ := hq2
      have hw := zTW_of (List.mem_of_getElem? (zKT_ok q hq)) rfl
      rw [q1, q2, q3] at hw
      simp only [znxt, hv] at hn
      obtain ⟨rfl, rfl, rfl, ho⟩ := zfall_inv hn
      cases ho
      exact lv_ldcw hx hb hown (hts _ hw) hdg (zKi hA K rfl (zb32_in h1.2) fun _ h => h)
    · cases h1
  | ldc2_w ix =>
    simp only [zokE, Bool.and_eq_true, decide_eq_true_eq] at hok
    obtain ⟨h1, rfl⟩ := hok
    split at h1
    · next v hv =>
      simp only [Bool.and_eq_true] at h1
      obtain ⟨q, hq, hq2⟩ := zany3 h1.1
      simp only [Bool.and_eq_true, beq_iff_eq] at hq2
      obtain ⟨q1, q2, q3⟩ := hq2
      have hw := zTW_of (List.mem_of_getElem? (zKL_ok q hq)) rfl
      rw [q1, q2, q3] at hw
      simp only [znxt, hv] at hn
      obtain ⟨rfl, rfl, rfl, ho⟩ := zfall_inv hn
      cases ho
      exact lv_ldc2 hx hb hown (hts _ hw) hdg (zKl hA K rfl (zb64_in h1.2) fun _ h => h)
    · cases h1
  | _ => exact absurd hi (by simp)
theorem zs_locals (hC : zCtx p s m args meth c D cI cL cZ A t0 t1 n0 n1 f0 f1 mi) (i : Instr) (hi : match i with
    | .iload_n _ | .iload _ | .lload_n _ | .lload _ | .aload_n _ | .aload _ => True
    | .istore_n _ | .istore _ | .lstore_n _ | .lstore _ | .astore_n _ | .astore _ | .iinc _ _ => True
    | _ => False) : zSt p l e R s m args below meth c Q D cI cL cZ A t0 t1 n0 n1 f0 f1 mi kc ks i := by
  obtain ⟨hx, hb, hml, hown, hts, hnw, hK, hlk, hin, hA0, hT0, hT1, hZ⟩ := hC
  intro pc len en L st w tgt L' st' w' adr H locs ls hdg hok hn hA hkc hks hRc hRs hRf hRl K
  have hlv := hA.2.2.2.2.2.2.1
  have hLo := hA.2.2.2.2.2.2.2.1
  have hSo := hA.2.2.2.2.2.2.2.2
  have loadI : ∀ {j : Nat} {x : Int}, L[j]? = some (zI x) → ls[j]? = some (.val (.int (Int32.ofInt x))) ∧ zin32 x := fun h => ⟨hlv.2.2.2 _ _ h (fun z => by cases z), hLo _ (List.mem_of_getElem? h)⟩
  have loadL : ∀ {j : Nat} {x : Int}, L[j]? = some (zL x) → ls[j]? = some (.val (.long (Int64.ofInt x))) ∧ zin64 x := fun h => ⟨hlv.2.2.2 _ _ h (fun z => by cases z), hLo _ (List.mem_of_getElem? h)⟩
  have loadR : ∀ {j : Nat} {x : Nat}, L[j]? = some (zR x) → ls[j]? = some (.val (.ref (adr x))) ∧ x < w.1.length := fun h => ⟨hlv.2.2.2 _ _ h (fun z => by cases z), hLo _ (List.mem_of_getElem? h)⟩
  have store1 : ∀ {j : Nat} {v : zMV} {r : List zMV} {ls' : Array Slot}, j < L.length → zokv w.1.length v → (∀ u ∈ r, zokv w.1.length u) → lv_has ls' (zmL mi) ((j, ztr adr v) :: (zll2 adr L).filter (fun q => !(q.1 == j) && !(q.1 + 1 == j && q.2.category == 2))) → zAt D cI cL cZ A t0 t1 n0 n1 f0 f1 mi s.heap adr H locs ls' (zset1 L j v) r w := fun hj hv hr h' => zAt_lo hA (zlv_set1 hlv hj h') (zset1_ok hj hLo hv) hr
  cases i with
  | iload_n k =>
    simp only [zokE, Bool.and_eq_true, decide_eq_true_eq] at hok
    obtain ⟨rfl, rfl⟩ := hok
    simp only [znxt] at hn
    split at hn
    · next x hj =>
      obtain ⟨rfl, rfl, rfl, ho⟩ := zfall_inv hn
      cases ho
      exact lv_iload_n hx hb hdg rfl (loadI hj).1 (zKi hA K rfl (loadI hj).2 fun _ h => h)
    · cases hn
  | iload k =>
    simp only [zokE, Bool.and_eq_true, decide_eq_true_eq] at hok
    obtain ⟨rfl, rfl⟩ := hok
    simp only [znxt] at hn
    split at hn
    · next x hj =>
      obtain ⟨rfl, rfl, rfl, ho⟩ := zfall_inv hn
      cases ho
      exact lv_iload hx hb hdg (loadI hj).1 (zKi hA K rfl (loadI hj).2 fun _ h => h)
    · cases hn
  | lload_n k =>
    simp only [zokE, Bool.and_eq_true, decide_eq_true_eq] at hok
    obtain ⟨rfl, rfl⟩ := hok
    simp only [znxt] at hn
    split at hn
    · next x hj =>
      obtain ⟨rfl, rfl, rfl, ho⟩ := zfall_inv hn
      cases ho
      exact lv_lload_n hx hb hdg rfl (loadL hj).1 (zKl hA K rfl (loadL hj).2 fun _ h => h)
    · cases hn
  | lload k =>
    simp only [zokE, Bool.and_eq_true, decide_eq_true_eq] at hok
    obtain ⟨rfl, rfl⟩ := hok
    simp only [znxt] at hn
    split at hn
    · next x hj =>
      obtain ⟨rfl, rfl, rfl, ho⟩ := zfall_inv hn
      cases ho
      exact lv_lload hx hb hdg (loadL hj).1 (zKl hA K rfl (loadL hj).2 fun _ h => h)
    · cases hn
  | aload_n k =>
    simp only [zokE, Bool.and_eq_true, decide_eq_true_eq] at hok
    obtain ⟨rfl, rfl⟩ := hok
    simp only [znxt] at hn
    split at hn
    · next x hj =>
      obtain ⟨rfl, rfl, rfl, ho⟩ := zfall_inv hn
      cases ho
      exact lv_aload_n hx hb hdg rfl (loadR hj).1 (zKs hA K (fun v hv => (List.mem_cons.mp hv).elim (fun q => by rw [q]; exact (loadR hj).2) (hSo v)) rfl)
    · cases hn
  | aload k =>
    simp only [zokE, Bool.and_eq_true, decide_eq_true_eq] at hok
    obtain ⟨rfl, rfl⟩ := hok
    simp only [znxt] at hn
    split at hn
    · next x hj =>
      obtain ⟨rfl, rfl, rfl, ho⟩ := zfall_inv hn
      cases ho
      exact lv_aload hx hb hdg (loadR hj).1 (zKs hA K (fun v hv => (List.mem_cons.mp hv).elim (fun q => by rw [q]; exact (loadR hj).2) (hSo v)) rfl)
    · cases hn
  | istore_n k =>
    simp only [zokE, Bool.and_eq_true, decide_eq_true_eq] at hok
    obtain ⟨rfl, rfl⟩ := hok
    simp only [znxt] at hn
    split at hn
    · next x r =>
      split at hn
      · next hj =>
        obtain ⟨rfl, rfl, rfl, ho⟩ := zfall_inv hn
        cases ho
        exact lv_istore_n hx hb hdg rfl (zlv_has hlv) (by rw [← hlv.2.2.1]; exact hj) rfl fun ls' h' => K adr H locs ls' _ (fun _ _ => rfl) rfl (store1 (v := zI x) hj (hSo _ List.mem_cons_self) (fun u hu => hSo u (List.mem_cons_of_mem _ hu)) h')
      · cases hn
    · cases hn
  | istore k =>
    simp only [zokE, Bool.and_eq_true, decide_eq_true_eq] at hok
    obtain ⟨rfl, rfl⟩ := hok
    simp only [znxt] at hn
    split at hn
    · next x r =>
      split at hn
      · next hj =>
        obtain ⟨rfl, rfl, rfl, ho⟩ := zfall_inv hn
        cases ho
        exact lv_istore hx hb hdg (zlv_has hlv) (by rw [← hlv.2.2.1]; exact hj) rfl fun ls' h' => K adr H locs ls' _ (fun _ _ => rfl) rfl (store1 (v := zI x) hj (hSo _ List.mem_cons_self) (fun u hu => hSo u (List.mem_cons_of_mem _ hu)) h')
      · cases hn
    · cases hn
  | astore_n k =>
    simp only [zokE, Bool.and_eq_true, decide_eq_true_eq] at hok
    obtain ⟨rfl, rfl⟩ := hok
    simp only [znxt] at hn
    split at hn
    · next x r =>
      split at hn
      · next hj =>
        obtain ⟨rfl, rfl, rfl, ho⟩ := zfall_inv hn
        cases ho
        exact lv_astore_n hx hb hdg rfl (zlv_has hlv) (by rw [← hlv.2.2.1]; exact hj) rfl fun ls' h' => K adr H locs ls' _ (fun _ _ => rfl) rfl (store1 (v := zR x) hj (hSo _ List.mem_cons_self) (fun u hu => hSo u (List.mem_cons_of_mem _ hu)) h')
      · cases hn
    · cases hn
  | astore k =>
    simp only [zokE, Bool.and_eq_true, decide_eq_true_eq] at hok
    obtain ⟨rfl, rfl⟩ := hok
    simp only [znxt] at hn
    split at hn
    · next x r =>
      split at hn
      · next hj =>
        obtain ⟨rfl, rfl, rfl, ho⟩ := zfall_inv hn
        cases ho
        exact lv_astore hx hb hdg (zlv_has hlv) (by rw [← hlv.2.2.1]; exact hj) rfl fun ls' h' => K adr H locs ls' _ (fun _ _ => rfl) rfl (store1 (v := zR x) hj (hSo _ List.mem_cons_self) (fun u hu => hSo u (List.mem_cons_of_mem _ hu)) h')
      · cases hn
    · cases hn
  | lstore_n k =>
    simp only [zokE, Bool.and_eq_true, decide_eq_true_eq] at hok
    obtain ⟨rfl, rfl⟩ := hok
    simp only [znxt] at hn
    split at hn
    · next x r =>
      split at hn
      · next hj =>
        obtain ⟨rfl, rfl, rfl, ho⟩ := zfall_inv hn
        cases ho
        exact lv_lstore_n hx hb hdg rfl (zlv_has hlv) (by rw [← hlv.2.2.1]; exact hj) rfl fun ls' h' => K adr H locs ls' _ (fun _ _ => rfl) rfl (zAt_lo hA (zlv_set2 (v := zL x) hlv hj h') (zset2_ok (by omega) hLo (hSo _ List.mem_cons_self)) (fun u hu => hSo u (List.mem_cons_of_mem _ hu)))
      · cases hn
    · cases hn
  | lstore k =>
    simp only [zokE, Bool.and_eq_true, decide_eq_true_eq] at hok
    obtain ⟨rfl, rfl⟩ := hok
    simp only [znxt] at hn
    split at hn
    · next x r =>
      split at hn
      · next hj =>
        obtain ⟨rfl, rfl, rfl, ho⟩ := zfall_inv hn
        cases ho
        exact lv_lstore hx hb hdg (zlv_has hlv) (by rw [← hlv.2.2.1]; exact hj) rfl fun ls' h' => K adr H locs ls' _ (fun _ _ => rfl) rfl (zAt_lo hA (zlv_set2 (v := zL x) hlv hj h') (zset2_ok (by omega) hLo (hSo _ List.mem_cons_self)) (fun u hu => hSo u (List.mem_cons_of_mem _ hu)))
      · cases hn
    · cases hn
  | iinc k n =>
    simp only [zokE, Bool.and_eq_true, decide_eq_true_eq] at hok
    obtain ⟨rfl, rfl⟩ := hok
    simp only [znxt] at hn
    split at hn
    · next x hx1 =>
      split at hn
      · next hj =>
        obtain ⟨rfl, rfl, rfl, ho⟩ := zfall_inv hn
        cases ho
        have hmem : (k, Value.int (Int32.ofInt x)) ∈ zll2 adr L := zll2_mem.mpr ⟨zI x, hx1, fun z => (by cases z), rfl⟩
        obtain ⟨kk, hkk⟩ := List.getElem?_of_mem hmem
        exact lv_iinc hx hb hdg (zlv_has hlv) hkk (v := Int32.ofInt (zadd x n)) (zofI _).symm (by rw [← hlv.2.2.1]; exact hj) rfl fun ls' h' => K adr H locs ls' _ (fun _ _ => rfl) rfl (store1 (v := zI (zadd x n)) hj (zin32_toInt _) hSo h')
      · cases hn
    · cases hn
  | _ => exact absurd hi (by simp)
end ZS
end
section
/-! one step: numbers, stack, jumps -/
section ZS
variable {p : Program} {l : Launch} {e : Env} {R : Room} {s : State} {m : MethodId} {args : Array Value} {below : List Frame} {meth : Method} {c : Code} {Q : State → Prop} {D : va_G} {cI cL cZ : ClassId} {A : Nat → Prop} {t0 t1 n0 n1 mi kc ks : Nat} {f0 f1 : Int → Int}
variable {adr : Nat → Nat} {H : Heap} {locs : List Loc} {ls : Array Slot} {L st : List zMV} {w : zWd} {pc nx : Nat}

theorem zs_ints (hC : zCtx p s m args meth c D cI cL cZ A t0 t1 n0 n1 f0 f1 mi) (i : Instr) (hi : match i with
    | .iadd | .isub | .imul | .iand | .ior | .ixor | .ishl | .ishr | .iushr | .idiv | .irem => True
    | _ => False) : zSt p l e R s m args below meth c Q D cI cL cZ A t0 t1 n0 n1 f0 f1 mi kc ks i := by
  obtain ⟨hx, hb, hml, hown, hts, hnw, hK, hlk, hin, hA0, hT0, hT1, hZ⟩ := hC
  intro pc len en L st w tgt L' st' w' adr H locs ls hdg hok hn hA hkc hks hRc hRs hRf hRl K
  have hSo := hA.2.2.2.2.2.2.2.2
  cases i with
  | iadd =>
    simp only [zokE, Bool.and_eq_true, decide_eq_true_eq] at hok
    obtain ⟨rfl, rfl⟩ := hok
    obtain ⟨rfl, rfl, rfl, ho⟩ := zfall_inv hn
    obtain ⟨y, x, r, v, rfl, hv, rfl⟩ := zii_inv ho
    cases hv
    exact lv_iadd hx hb hdg (zKi hA K (zofI _) (zin32_toInt _) zmem2)
  | isub =>
    simp only [zokE, Bool.and_eq_true, decide_eq_true_eq] at hok
    obtain ⟨rfl, rfl⟩ := hok
    obtain ⟨rfl, rfl, rfl, ho⟩ := zfall_inv hn
    obtain ⟨y, x, r, v, rfl, hv, rfl⟩ := zii_inv ho
    cases hv
    exact lv_isub hx hb hdg (zKi hA K (zofI _) (zin32_toInt _) zmem2)
  | imul =>
    simp only [zokE, Bool.and_eq_true, decide_eq_true_eq] at hok
    obtain ⟨rfl, rfl⟩ := hok
    obtain ⟨rfl, rfl, rfl, ho⟩ := zfall_inv hn
    obtain ⟨y, x, r, v, rfl, hv, rfl⟩ := zii_inv ho
    cases hv
    exact lv_imul hx hb hdg (zKi hA K (zofI _) (zin32_toInt _) zmem2)
  | iand =>
    simp only [zokE, Bool.and_eq_true, decide_eq_true_eq] at hok
    obtain ⟨rfl, rfl⟩ := hok
    obtain ⟨rfl, rfl, rfl, ho⟩ := zfall_inv hn
    obtain ⟨y, x, r, v, rfl, hv, rfl⟩ := zii_inv ho
    cases hv
    exact lv_iand hx hb hdg (zKi hA K (zofI _) (zin32_toInt _) zmem2)
  | ior =>
    simp only [zokE, Bool.and_eq_true, decide_eq_true_eq] at hok
    obtain ⟨rfl, rfl⟩ := hok
    obtain ⟨rfl, rfl, rfl, ho⟩ := zfall_inv hn
    obtain ⟨y, x, r, v, rfl, hv, rfl⟩ := zii_inv ho
    cases hv
    exact lv_ior hx hb hdg (zKi hA K (zofI _) (zin32_toInt _) zmem2)
  | ixor =>
    simp only [zokE, Bool.and_eq_true, decide_eq_true_eq] at hok
    obtain ⟨rfl, rfl⟩ := hok
    obtain ⟨rfl, rfl, rfl, ho⟩ := zfall_inv hn
    obtain ⟨y, x, r, v, rfl, hv, rfl⟩ := zii_inv ho
    cases hv
    exact lv_ixor hx hb hdg (zKi hA K (zofI _) (zin32_toInt _) zmem2)
  | ishl =>
    simp only [zokE, Bool.and_eq_true, decide_eq_true_eq] at hok
    obtain ⟨rfl, rfl⟩ := hok
    obtain ⟨rfl, rfl, rfl, ho⟩ := zfall_inv hn
    obtain ⟨y, x, r, v, rfl, hv, rfl⟩ := zii_inv ho
    cases hv
    exact lv_ishl hx hb hdg (zKi hA K (zofI _) (zin32_toInt _) zmem2)
  | ishr =>
    simp only [zokE, Bool.and_eq_true, decide_eq_true_eq] at hok
    obtain ⟨rfl, rfl⟩ := hok
    obtain ⟨rfl, rfl, rfl, ho⟩ := zfall_inv hn
    obtain ⟨y, x, r, v, rfl, hv, rfl⟩ := zii_inv ho
    cases hv
    exact lv_ishr hx hb hdg (zKi hA K (zofI _) (zin32_toInt _) zmem2)
  | iushr =>
    simp only [zokE, Bool.and_eq_true, decide_eq_true_eq] at hok
    obtain ⟨rfl, rfl⟩ := hok
    obtain ⟨rfl, rfl, rfl, ho⟩ := zfall_inv hn
    obtain ⟨y, x, r, v, rfl, hv, rfl⟩ := zii_inv ho
    cases hv
    exact lv_iushr hx hb hdg rfl (zKi hA K (zofI _) (zin32_toInt _) zmem2)
  | idiv =>
    simp only [zokE, Bool.and_eq_true, decide_eq_true_eq] at hok
    obtain ⟨rfl, rfl⟩ := hok
    obtain ⟨rfl, rfl, rfl, ho⟩ := zfall_inv hn
    obtain ⟨y, x, r, v, rfl, hv, rfl⟩ := zii_inv ho
    split at hv
    · cases hv
    · next h0 =>
      cases hv
      exact lv_idiv hx hb hdg (fun z => h0 ((zeqI (hSo (zI y) List.mem_cons_self) zin0).mp z)) (zKi hA K (zofI _) (zin32_toInt _) zmem2)
  | irem =>
    simp only [zokE, Bool.and_eq_true, decide_eq_true_eq] at hok
    obtain ⟨rfl, rfl⟩ := hok
    obtain ⟨rfl, rfl, rfl, ho⟩ := zfall_inv hn
    obtain ⟨y, x, r, v, rfl, hv, rfl⟩ := zii_inv ho
    split at hv
    · cases hv
    · next h0 =>
      cases hv
      exact lv_irem hx hb hdg (fun z => h0 ((zeqI (hSo (zI y) List.mem_cons_self) zin0).mp z)) (zKi hA K (zofI _) (zin32_toInt _) zmem2)
  | _ => exact absurd hi (by simp)
theorem zs_longs (hC : zCtx p s m args meth c D cI cL cZ A t0 t1 n0 n1 f0 f1 mi) (i : Instr) (hi : match i with
    | .ladd | .lsub | .lmul | .land | .lor | .ldiv | .lrem | .lshl | .lshr | .lcmp => True
    | _ => False) : zSt p l e R s m args below meth c Q D cI cL cZ A t0 t1 n0 n1 f0 f1 mi kc ks i := by
  obtain ⟨hx, hb, hml, hown, hts, hnw, hK, hlk, hin, hA0, hT0, hT1, hZ⟩ := hC
  intro pc len en L st w tgt L' st' w' adr H locs ls hdg hok hn hA hkc hks hRc hRs hRf hRl K
  have hSo := hA.2.2.2.2.2.2.2.2
  cases i with
  | ladd =>
    simp only [zokE, Bool.and_eq_true, decide_eq_true_eq] at hok
    obtain ⟨rfl, rfl⟩ := hok
    obtain ⟨rfl, rfl, rfl, ho⟩ := zfall_inv hn
    obtain ⟨y, x, r, v, rfl, hv, rfl⟩ := zll_inv ho
    cases hv
    exact lv_ladd hx hb hdg (zKl hA K (zofL _) (zin64_toInt _) zmem2)
  | lsub =>
    simp only [zokE, Bool.and_eq_true, decide_eq_true_eq] at hok
    obtain ⟨rfl, rfl⟩ := hok
    obtain ⟨rfl, rfl, rfl, ho⟩ := zfall_inv hn
    obtain ⟨y, x, r, v, rfl, hv, rfl⟩ := zll_inv ho
    cases hv
    exact lv_lsub hx hb hdg (zKl hA K (zofL _) (zin64_toInt _) zmem2)
  | lmul =>
    simp only [zokE, Bool.and_eq_true, decide_eq_true_eq] at hok
    obtain ⟨rfl, rfl⟩ := hok
    obtain ⟨rfl, rfl, rfl, ho⟩ := zfall_inv hn
    obtain ⟨y, x, r, v, rfl, hv, rfl⟩ := zll_inv ho
    cases hv
    exact lv_lmul hx hb hdg (zKl hA K (zofL _) (zin64_toInt _) zmem2)
  | land =>
    simp only [zokE, Bool.and_eq_true, decide_eq_true_eq] at hok
    obtain ⟨rfl, rfl⟩ := hok
    obtain ⟨rfl, rfl, rfl, ho⟩ := zfall_inv hn
    obtain ⟨y, x, r, v, rfl, hv, rfl⟩ := zll_inv ho
    cases hv
    exact lv_land hx hb hdg (zKl hA K (zofL _) (zin64_toInt _) zmem2)
  | lor =>
    simp only [zokE, Bool.and_eq_true, decide_eq_true_eq] at hok
    obtain ⟨rfl, rfl⟩ := hok
    obtain ⟨rfl, rfl, rfl, ho⟩ := zfall_inv hn
    obtain ⟨y, x, r, v, rfl, hv, rfl⟩ := zll_inv ho
    cases hv
    exact lv_lor hx hb hdg (zKl hA K (zofL _) (zin64_toInt _) zmem2)
  | ldiv =>
    simp only [zokE, Bool.and_eq_true, decide_eq_true_eq] at hok
    obtain ⟨rfl, rfl⟩ := hok
    obtain ⟨rfl, rfl, rfl, ho⟩ := zfall_inv hn
    obtain ⟨y, x, r, v, rfl, hv, rfl⟩ := zll_inv ho
    split at hv
    · cases hv
    · next h0 =>
      cases hv
      exact lv_ldiv hx hb hdg (fun z => h0 ((zeqL (hSo (zL y) List.mem_cons_self) ⟨by decide, by decide⟩).mp z)) (zKl hA K (zofL _) (zin64_toInt _) zmem2)
  | lrem =>
    simp only [zokE, Bool.and_eq_true, decide_eq_true_eq] at hok
    obtain ⟨rfl, rfl⟩ := hok
    obtain ⟨rfl, rfl, rfl, ho⟩ := zfall_inv hn
    obtain ⟨y, x, r, v, rfl, hv, rfl⟩ := zll_inv ho
    split at hv
    · cases hv
    · next h0 =>
      cases hv
      exact lv_lrem hx hb hdg (fun z => h0 ((zeqL (hSo (zL y) List.mem_cons_self) ⟨by decide, by decide⟩).mp z)) (zKl hA K (zofL _) (zin64_toInt _) zmem2)
  | lshl =>
    simp only [zokE, Bool.and_eq_true, decide_eq_true_eq] at hok
    obtain ⟨rfl, rfl⟩ := hok
    obtain ⟨rfl, rfl, rfl, ho⟩ := zfall_inv hn
    obtain ⟨y, x, r, v, rfl, hv, rfl⟩ := zli_inv ho
    cases hv
    exact lv_lshl hx hb hdg rfl (zKl hA K (zofL _) (zin64_toInt _) zmem2)
  | lshr =>
    simp only [zokE, Bool.and_eq_true, decide_eq_true_eq] at hok
    obtain ⟨rfl, rfl⟩ := hok
    obtain ⟨rfl, rfl, rfl, ho⟩ := zfall_inv hn
    obtain ⟨y, x, r, v, rfl, hv, rfl⟩ := zli_inv ho
    cases hv
    exact lv_lshr hx hb hdg rfl (zKl hA K (zofL _) (zin64_toInt _) zmem2)
  | lcmp =>
    simp only [zokE, Bool.and_eq_true, decide_eq_true_eq] at hok
    obtain ⟨rfl, rfl⟩ := hok
    obtain ⟨rfl, rfl, rfl, ho⟩ := zfall_inv hn
    obtain ⟨y, x, r, v, rfl, hv, rfl⟩ := zll_inv ho
    cases hv
    exact W.lcmp hx hb hdg (zKi hA K (zlcmp_eq (hSo (zL x) (by simp)) (hSo (zL y) (by simp))).symm (zlcmp_in _ _) zmem2)
  | _ => exact absurd hi (by simp)
theorem zs_stack (hC : zCtx p s m args meth c D cI cL cZ A t0 t1 n0 n1 f0 f1 mi) (i : Instr) (hi : match i with
    | .i2l | .i2b | .l2i | .dup | .dup2 | .pop => True
    | _ => False) : zSt p l e R s m args below meth c Q D cI cL cZ A t0 t1 n0 n1 f0 f1 mi kc ks i := by
  obtain ⟨hx, hb, hml, hown, hts, hnw, hK, hlk, hin, hA0, hT0, hT1, hZ⟩ := hC
  intro pc len en L st w tgt L' st' w' adr H locs ls hdg hok hn hA hkc hks hRc hRs hRf hRl K
  have hSo := hA.2.2.2.2.2.2.2.2
  cases i with
  | i2l =>
    simp only [zokE, Bool.and_eq_true, decide_eq_true_eq] at hok
    obtain ⟨rfl, rfl⟩ := hok
    simp only [znxt] at hn
    split at hn
    · next x r =>
      obtain ⟨rfl, rfl, rfl, ho⟩ := zfall_inv hn
      cases ho
      exact lv_i2l hx hb hdg (zi32_i2l (hSo (zI x) List.mem_cons_self)) (zKl hA K rfl (zin32_64 (hSo (zI x) List.mem_cons_self)) zmem1)
    · cases hn
  | i2b =>
    simp only [zokE, Bool.and_eq_true, decide_eq_true_eq] at hok
    obtain ⟨rfl, rfl⟩ := hok
    simp only [znxt] at hn
    split at hn
    · next x r =>
      obtain ⟨rfl, rfl, rfl, ho⟩ := zfall_inv hn
      cases ho
      exact lv_i2b hx hb hdg rfl (zKi hA K (zofI _) (zin32_toInt _) zmem1)
    · cases hn
  | l2i =>
    simp only [zokE, Bool.and_eq_true, decide_eq_true_eq] at hok
    obtain ⟨rfl, rfl⟩ := hok
    simp only [znxt] at hn
    split at hn
    · next x r =>
      obtain ⟨rfl, rfl, rfl, ho⟩ := zfall_inv hn
      cases ho
      exact lv_l2i hx hb hdg rfl (zKi hA K (zofI _) (zin32_toInt _) zmem1)
    · cases hn
  | dup =>
    simp only [zokE, Bool.and_eq_true, decide_eq_true_eq] at hok
    obtain ⟨rfl, rfl⟩ := hok
    simp only [znxt] at hn
    split at hn
    · next v r =>
      split at hn
      · cases hn
      · next h0 =>
        obtain ⟨rfl, rfl, rfl, ho⟩ := zfall_inv hn
        cases ho
        have h1 : zcat v = 1 := Decidable.byContradiction fun z => h0 (Or.inr z)
        exact lv_dup hx hb hdg (by rw [zcat_tr]; exact h1) (zKs hA K (fun u hu => (List.mem_cons.mp hu).elim (fun q => by rw [q]; exact hSo v List.mem_cons_self) (hSo u)) rfl)
    · cases hn
  | dup2 =>
    simp only [zokE, Bool.and_eq_true, decide_eq_true_eq] at hok
    obtain ⟨rfl, rfl⟩ := hok
    simp only [znxt] at hn
    split at hn
    · next v u r =>
      split at hn
      · cases hn
      · next h0 =>
        obtain ⟨rfl, rfl, rfl, ho⟩ := zfall_inv hn
        cases ho
        have h1 : zcat v = 1 := Decidable.byContradiction fun z => h0 (Or.inr (Or.inl z))
        have h2 : zcat u = 1 := Decidable.byContradiction fun z => h0 (Or.inr (Or.inr (Or.inr z)))
        exact lv_dup2_11 hx hb hdg (by rw [zcat_tr]; exact h1) (by rw [zcat_tr]; exact h2) (zKs hA K (fun x hx1 => by
          rcases List.mem_cons.mp hx1 with rfl | hx1
          · exact hSo _ List.mem_cons_self
          rcases List.mem_cons.mp hx1 with rfl | hx1
          · exact hSo _ (List.mem_cons_of_mem _ List.mem_cons_self)
          · exact hSo _ hx1) rfl)
    · cases hn
  | pop =>
    simp only [zokE, Bool.and_eq_true, decide_eq_true_eq] at hok
    obtain ⟨rfl, rfl⟩ := hok
    simp only [znxt] at hn
    split at hn
    · next v r =>
      split at hn
      · cases hn
      · next h0 =>
        obtain ⟨rfl, rfl, rfl, ho⟩ := zfall_inv hn
        cases ho
        have h1 : zcat v = 1 := Decidable.byContradiction fun z => h0 (Or.inr z)
        exact lv_pop hx hb hdg (by rw [zcat_tr]; exact h1) (zKs hA K (fun u hu => hSo u (List.mem_cons_of_mem _ hu)) rfl)
    · cases hn
  | _ => exact absurd hi (by simp)
theorem ztabs_inv {mi pc : Nat} : ∀ {os bs : List Int}, ztabs mi pc os bs = true → ∀ {k : Nat} (hk : k < os.length), ∃ (b : Int) (tg : Nat), bs[k]?.getD 0 = b ∧ zstart mi b.toNat = some tg ∧ (pc : Int) + os[k] = (tg : Int)
  | [], [], _, k, hk => absurd hk (Nat.not_lt_zero k)
  | o :: os, b :: bs, h, 0, _ => by
    simp only [ztabs, Bool.and_eq_true] at h
    obtain ⟨tg, h1, h2⟩ := zjmp_inv h.1
    exact ⟨b, tg, rfl, h1, h2⟩
  | o :: os, b :: bs, h, k + 1, hk => by
    simp only [ztabs, Bool.and_eq_true] at h
    exact ztabs_inv h.2 (k := k) (Nat.lt_of_succ_lt_succ hk)
  | [], b :: bs, h, _, _ => by simp [ztabs] at h
  | o :: os, [], h, _, _ => by simp [ztabs] at h
theorem zlooks_inv {mi pc d : Nat} {off : Int} : ∀ {os bs : List (Int × Int)}, zlooks mi pc os bs = true → zjmp mi pc d off = true → ∀ x : Int, ∃ tg : Nat, zstart mi (zlsw d bs x) = some tg ∧ (pc : Int) + Op.lookupswitch.offset os off x = (tg : Int)
  | [], [], _, hd, x => zjmp_inv hd
  | o :: os, b :: bs, h, hd, x => by
    simp only [zlooks, Bool.and_eq_true, decide_eq_true_eq] at h
    obtain ⟨⟨⟨h1, -⟩, h2⟩, h3⟩ := h
    obtain ⟨b1, b2⟩ := b
    obtain ⟨o1, o2⟩ := o
    dsimp only at h1 h2
    subst h1
    rw [Op.lookupswitch.offset_cons]
    by_cases hx : x = o1
    · obtain ⟨tg, h4, h5⟩ := zjmp_inv h2
      refine ⟨tg, ?_, ?_⟩
      · rw [zlsw, if_pos hx]; exact h4
      · rw [if_pos (by simp [hx])]; exact h5
    · obtain ⟨tg, h4, h5⟩ := zlooks_inv h3 hd x
      refine ⟨tg, ?_, ?_⟩
      · rw [zlsw, if_neg hx]; exact h4
      · rw [if_neg (fun z => hx (by simpa using z.symm))]; exact h5
  | [], b :: bs, h, _, _ => by simp [zlooks] at h
  | o :: os, [], h, _, _ => by simp [zlooks] at h
theorem zs_jumps (hC : zCtx p s m args meth c D cI cL cZ A t0 t1 n0 n1 f0 f1 mi) (i : Instr) (hi : match i with
    | .ifCond _ _ | .if_icmp _ _ | .goto _ | .tableswitch _ _ _ _ | .lookupswitch _ _ => True
    | _ => False) : zSt p l e R s m args below meth c Q D cI cL cZ A t0 t1 n0 n1 f0 f1 mi kc ks i := by
  obtain ⟨hx, hb, hml, hown, hts, hnw, hK, hlk, hin, hA0, hT0, hT1, hZ⟩ := hC
  intro pc len en L st w tgt L' st' w' adr H locs ls hdg hok hn hA hkc hks hRc hRs hRf hRl K
  have hSo := hA.2.2.2.2.2.2.2.2
  cases i with
  | ifCond c1 off =>
    simp only [zokE, Bool.and_eq_true, decide_eq_true_eq] at hok
    obtain ⟨⟨h1, rfl⟩, h3⟩ := hok
    obtain ⟨tg, h4, h5⟩ := zjmp_inv h3
    simp only [znxt, h1] at hn
    split at hn
    · next x r =>
      cases hn
      have hxr : zin32 x := hSo (zI x) List.mem_cons_self
      have hr : ∀ v ∈ st', zokv w.1.length v := fun v hv => hSo v (List.mem_cons_of_mem _ hv)
      have KT : zcmp c1 x 0 = true → W p l e R s m args below meth c H locs (w.1.length - kc) (zcs w - ks) Q (F0 m tg ls (st'.map (ztr adr))) := fun h => by
        rw [if_pos h] at K
        exact K adr H locs ls tg (fun _ _ => rfl) h4 (zAt_st hA hr)
      have KF : ¬ zcmp c1 x 0 = true → W p l e R s m args below meth c H locs (w.1.length - kc) (zcs w - ks) Q (F0 m (pc + 3) ls (st'.map (ztr adr))) := fun h => by
        rw [if_neg h] at K
        exact K adr H locs ls _ (fun _ _ => rfl) rfl (zAt_st hA hr)
      cases c1 with
      | eq => exact lv_if_eq hx hb hdg h5 (fun h => KT (decide_eq_true ((zeqI hxr zin0).mp h))) (fun h => KF (fun z => h ((zeqI hxr zin0).mpr (of_decide_eq_true z))))
      | ne => exact lv_if_ne hx hb hdg h5 (fun h => KT (decide_eq_true (fun z => h ((zeqI hxr zin0).mpr z)))) (fun h => KF (fun z => (of_decide_eq_true z : x ≠ 0) ((zeqI hxr zin0).mp h)))
      | lt => exact lv_if_lt hx hb hdg h5 (fun h => KT (decide_eq_true ((zltI hxr zin0).mp h))) (fun h => KF (fun z => h ((zltI hxr zin0).mpr (of_decide_eq_true z))))
      | ge => exact lv_if_ge hx hb hdg h5 (fun h => KT (decide_eq_true ((zleI zin0 hxr).mp h))) (fun h => KF (fun z => h ((zleI zin0 hxr).mpr (of_decide_eq_true z))))
      | gt => exact lv_if_gt hx hb hdg h5 (fun h => KT (decide_eq_true ((zltI zin0 hxr).mp h))) (fun h => KF (fun z => h ((zltI zin0 hxr).mpr (of_decide_eq_true z))))
      | le => exact lv_if_le hx hb hdg h5 (fun h => KT (decide_eq_true ((zleI hxr zin0).mp h))) (fun h => KF (fun z => h ((zleI hxr zin0).mpr (of_decide_eq_true z))))
    · cases hn
  | if_icmp c1 off =>
    simp only [zokE, Bool.and_eq_true, decide_eq_true_eq] at hok
    obtain ⟨⟨h1, rfl⟩, h3⟩ := hok
    obtain ⟨tg, h4, h5⟩ := zjmp_inv h3
    simp only [znxt, h1] at hn
    split at hn
    · next y x r =>
      cases hn
      have hyr : zin32 y := hSo (zI y) List.mem_cons_self
      have hxr : zin32 x := hSo (zI x) (List.mem_cons_of_mem _ List.mem_cons_self)
      have hr : ∀ v ∈ st', zokv w.1.length v := fun v hv => hSo v (List.mem_cons_of_mem _ (List.mem_cons_of_mem _ hv))
      have KT : zcmp c1 x y = true → W p l e R s m args below meth c H locs (w.1.length - kc) (zcs w - ks) Q (F0 m tg ls (st'.map (ztr adr))) := fun h => by
        rw [if_pos h] at K
        exact K adr H locs ls tg (fun _ _ => rfl) h4 (zAt_st hA hr)
      have KF : ¬ zcmp c1 x y = true → W p l e R s m args below meth c H locs (w.1.length - kc) (zcs w - ks) Q (F0 m (pc + 3) ls (st'.map (ztr adr))) := fun h => by
        rw [if_neg h] at K
        exact K adr H locs ls _ (fun _ _ => rfl) rfl (zAt_st hA hr)
      cases c1 with
      | eq => exact lv_icmp_eq hx hb hdg h5 (fun h => KT (decide_eq_true ((zeqI hxr hyr).mp h))) (fun h => KF (fun z => h ((zeqI hxr hyr).mpr (of_decide_eq_true z))))
      | ne => exact lv_icmp_ne hx hb hdg h5 (fun h => KT (decide_eq_true (fun z => h ((zeqI hxr hyr).mpr z)))) (fun h => KF (fun z => (of_decide_eq_true z : x ≠ y) ((zeqI hxr hyr).mp h)))
      | lt => exact lv_icmp_lt hx hb hdg h5 (fun h => KT (decide_eq_true ((zltI hxr hyr).mp h))) (fun h => KF (fun z => h ((zltI hxr hyr).mpr (of_decide_eq_true z))))
      | ge => exact lv_icmp_ge hx hb hdg h5 (fun h => KT (decide_eq_true ((zleI hyr hxr).mp h))) (fun h => KF (fun z => h ((zleI hyr hxr).mpr (of_decide_eq_true z))))
      | gt => exact lv_icmp_gt hx hb hdg h5 (fun h => KT (decide_eq_true ((zltI hyr hxr).mp h))) (fun h => KF (fun z => h ((zltI hyr hxr).mpr (of_decide_eq_true z))))
      | le => exact lv_icmp_le hx hb hdg h5 (fun h => KT (decide_eq_true ((zleI hxr hyr).mp h))) (fun h => KF (fun z => h ((zleI hxr hyr).mpr (of_decide_eq_true z))))
    · cases hn
  | goto off =>
    simp only [zokE, Bool.and_eq_true, decide_eq_true_eq] at hok
    obtain ⟨⟨h1, rfl⟩, h3⟩ := hok
    obtain ⟨tg, h4, h5⟩ := zjmp_inv h3
    simp only [znxt, h1] at hn
    cases hn
    exact lv_goto hx hb hdg h5 (K adr H locs ls tg (fun _ _ => rfl) h4 hA)
  | tableswitch d lo hi offs =>
    simp only [zokE] at hok
    split at hok
    · next d' lo' hi' bs h1 =>
      simp only [Bool.and_eq_true, decide_eq_true_eq] at hok
      obtain ⟨⟨⟨⟨rfl, rfl⟩, h3⟩, h4⟩, h5⟩ := hok
      simp only [znxt, h1] at hn
      split at hn
      · next x r =>
        cases hn
        have hxr : zin32 x := hSo (zI x) List.mem_cons_self
        have hr : ∀ v ∈ st', zokv w.1.length v := fun v hv => hSo v (List.mem_cons_of_mem _ hv)
        by_cases hd : x < lo' ∨ hi' < x
        · obtain ⟨tg, h6, h7⟩ := zjmp_inv h3
          refine lv_tableOut hx hb hdg (by rw [ztoI hxr]; exact hd) h7 (K adr H locs ls tg (fun _ _ => rfl) ?_ (zAt_st hA hr))
          show zstart mi (ztsw _ _ _ _ _) = some tg
          rw [ztsw, if_pos hd]; exact h6
        · have hlt : (x - lo').toNat < offs.toList.length := by omega
          obtain ⟨b, tg, h6, h7, h8⟩ := ztabs_inv h4 hlt
          refine lv_tableIn hx hb hdg (off := offs.toList[(x - lo').toNat]) (by rw [ztoI hxr]; omega) (by rw [ztoI hxr]; omega) (by rw [ztoI hxr, ← Array.getElem?_toList]; exact List.getElem?_eq_getElem hlt) h8 (K adr H locs ls tg (fun _ _ => rfl) ?_ (zAt_st hA hr))
          show zstart mi (ztsw _ _ _ _ _) = some tg
          rw [ztsw, if_neg hd, h6]; exact h7
      · cases hn
    · cases hok
  | lookupswitch d ps =>
    simp only [zokE] at hok
    split at hok
    · next d' bs h1 =>
      simp only [Bool.and_eq_true] at hok
      obtain ⟨⟨h3, h4⟩, h5⟩ := hok
      simp only [znxt, h1] at hn
      split at hn
      · next x r =>
        cases hn
        have hxr : zin32 x := hSo (zI x) List.mem_cons_self
        have hr : ∀ v ∈ st', zokv w.1.length v := fun v hv => hSo v (List.mem_cons_of_mem _ hv)
        obtain ⟨tg, h6, h7⟩ := zlooks_inv h4 h3 x
        exact lv_lookup hx hb hdg h5 rfl (by rw [ztoI hxr]; exact h7) (K adr H locs ls tg (fun _ _ => rfl) h6 (zAt_st hA hr))
      · cases hn
    · cases hok
  | _ => exact absurd hi (by simp)
end ZS
end
section
/-! one step: fields, rows, new cells -/
theorem zcs_def (w : zWd) : zcs w = (w.1.map (·.2.1)).sum := rfl
theorem zcs_set {S : List zSh} {k : Nat} {sh sh' : zSh} (h : S[k]? = some sh) (he : sh'.2.1 = sh.2.1) : ((S.set k sh').map (·.2.1)).sum = (S.map (·.2.1)).sum := by
  congr 1
  apply List.ext_getElem?
  intro j
  rw [List.getElem?_map, List.getElem?_map, List.getElem?_set]
  by_cases hj : k = j
  · subst hj
    rw [if_pos rfl, if_pos (List.getElem?_eq_some_iff.mp h).1, h]
    simp [he]
  · rw [if_neg hj]
theorem zInv_2 {n0 n1 : Nat} {f0 f1 : Int → Int} {w : zWd} (h : zInv n0 n1 f0 f1 w) : 2 ≤ w.1.length := by
  have := (List.getElem?_eq_some_iff.mp h.2.1).1
  omega
theorem zInv_k {n0 n1 : Nat} {f0 f1 : Int → Int} {w : zWd} (h : zInv n0 n1 f0 f1 w) {k kd n : Nat} {rs : List (Option Nat)} (hk : w.1[k]? = some (kd, n, rs)) (hd : 0 < kd) : 2 ≤ k := by
  match k, hk with
  | 0, hk => rw [h.1] at hk; cases hk; omega
  | 1, hk => rw [h.2.1] at hk; cases hk; omega
  | k + 2, _ => omega
theorem zInv_up {n0 n1 : Nat} {f0 f1 : Int → Int} {w : zWd} (h : zInv n0 n1 f0 f1 w) {k : Nat} {sh : zSh} (hk : w.1[k]? = some sh) (h2 : 2 ≤ k) {i v : Int} (hv : zsr sh i v) : zInv n0 n1 f0 f1 (w.1, zup w.2 k i v) := by
  obtain ⟨a1, a2, a3, a4, a5⟩ := h
  refine ⟨a1, a2, ?_, ?_, fun j sj hj => ?_⟩
  · funext x; simp [zup, show (0 : Nat) ≠ k by omega, a3]
  · funext x; simp [zup, show (1 : Nat) ≠ k by omega, a4]
  · obtain ⟨b1, b2, b3, b4, b5⟩ := a5 j sj hj
    refine ⟨b1, b2, b3, b4, fun x => ?_⟩
    show zsr sj x (if j = k ∧ x = i then v else w.2 j x)
    by_cases hx : j = k ∧ x = i
    · rw [if_pos hx]
      obtain ⟨rfl, rfl⟩ := hx
      cases hk.symm.trans hj
      exact hv
    · rw [if_neg hx]; exact b5 x
theorem zInv_ref {n0 n1 : Nat} {f0 f1 : Int → Int} {w : zWd} (h : zInv n0 n1 f0 f1 w) {k kd n j r : Nat} {rs : List (Option Nat)} (hk : w.1[k]? = some (kd, n, rs)) (h2 : 2 ≤ k) (hr : r < w.1.length) : zInv n0 n1 f0 f1 (w.1.set k (kd, n, rs.set j (some r)), w.2) := by
  obtain ⟨a1, a2, a3, a4, a5⟩ := h
  refine ⟨?_, ?_, a3, a4, fun j' sj hj => ?_⟩
  · show (w.1.set k _)[0]? = _
    rw [List.getElem?_set_ne (by omega)]; exact a1
  · show (w.1.set k _)[1]? = _
    rw [List.getElem?_set_ne (by omega)]; exact a2
  · have hj2 : (w.1.set k (kd, n, rs.set j (some r)))[j']? = some sj := hj
    rw [List.getElem?_set] at hj2
    by_cases hkj : k = j'
    · rw [if_pos hkj] at hj2
      split at hj2
      · cases hj2
        subst hkj
        obtain ⟨b1, b2, b3, b4, b5⟩ := a5 k _ hk
        refine ⟨b1, b2, fun x y hx => ?_, fun q => ⟨(b4 q).1, by simp [List.length_set]; exact (b4 q).2⟩, fun x => b5 x⟩
        show y < (w.1.set k _).length
        rw [List.length_set]
        have hx2 : (rs.set j (some r))[x]? = some (some y) := hx
        rw [List.getElem?_set] at hx2
        by_cases q : j = x
        · rw [if_pos q] at hx2
          split at hx2
          · cases hx2; exact hr
          · cases hx2
        · rw [if_neg q] at hx2; exact b3 x y hx2
      · cases hj2
    · rw [if_neg hkj] at hj2
      obtain ⟨b1, b2, b3, b4, b5⟩ := a5 j' sj hj2
      refine ⟨b1, b2, fun x y hx => ?_, b4, b5⟩
      show y < (w.1.set k _).length
      rw [List.length_set]
      exact b3 x y hx
theorem zInv_push {n0 n1 : Nat} {f0 f1 : Int → Int} {w : zWd} (h : zInv n0 n1 f0 f1 w) {sh : zSh} (h1 : sh.1 < 15) (h2 : sh.2.1 < 2147483648) (h3 : ∀ (j r : Nat), sh.2.2[j]? = some (some r) → r < w.1.length) (h4 : 3 ≤ sh.1 → sh.2.1 = znf (sh.1 - 3) ∧ sh.2.2.length = znf (sh.1 - 3)) : zInv n0 n1 f0 f1 (w.1 ++ [sh], zzero w.2 w.1.length) := by
  have hl := zInv_2 h
  obtain ⟨a1, a2, a3, a4, a5⟩ := h
  refine ⟨?_, ?_, ?_, ?_, fun j sj hj => ?_⟩
  · show (w.1 ++ [sh])[0]? = _
    rw [List.getElem?_append_left (by omega)]; exact a1
  · show (w.1 ++ [sh])[1]? = _
    rw [List.getElem?_append_left (by omega)]; exact a2
  · funext x; simp [zzero, show (0 : Nat) ≠ w.1.length by omega, a3]
  · funext x; simp [zzero, show (1 : Nat) ≠ w.1.length by omega, a4]
  · have hj2 : (w.1 ++ [sh])[j]? = some sj := hj
    have hlen : (w.1 ++ [sh], zzero w.2 w.1.length).1.length = w.1.length + 1 := by simp
    by_cases hjl : j < w.1.length
    · rw [List.getElem?_append_left hjl] at hj2
      obtain ⟨b1, b2, b3, b4, b5⟩ := a5 j sj hj2
      refine ⟨b1, b2, fun x y hx => by rw [hlen]; have := b3 x y hx; omega, b4, fun x => ?_⟩
      show zsr sj x (if j = w.1.length then 0 else w.2 j x)
      rw [if_neg (by omega)]; exact b5 x
    · rw [List.getElem?_append_right (by omega)] at hj2
      have hz : j - w.1.length = 0 := by
        have := (List.getElem?_eq_some_iff.mp hj2).1
        simp at this; exact this
      rw [hz] at hj2
      cases hj2
      refine ⟨h1, h2, fun x y hx => by rw [hlen]; have := h3 x y hx; omega, h4, fun x => ?_⟩
      show zsr sh x (if j = w.1.length then 0 else w.2 j x)
      rw [if_pos (by omega)]
      unfold zsr
      split
      · exact ⟨by decide, by decide⟩
      · exact zin0
theorem zInv_cpy {n0 n1 : Nat} {f0 f1 : Int → Int} {w : zWd} (h : zInv n0 n1 f0 f1 w) {a b : Nat} {i j n : Int} {na nb : Nat} {ra rb : List (Option Nat)} (ha : w.1[a]? = some (0, na, ra)) (hb : w.1[b]? = some (0, nb, rb)) (h2 : 2 ≤ b) : zInv n0 n1 f0 f1 (w.1, zcpy w.2 a i b j n) := by
  obtain ⟨a1, a2, a3, a4, a5⟩ := h
  refine ⟨a1, a2, ?_, ?_, fun k sk hk => ?_⟩
  · funext x; simp [zcpy, show (0 : Nat) ≠ b by omega, a3]
  · funext x; simp [zcpy, show (1 : Nat) ≠ b by omega, a4]
  · obtain ⟨b1, b2, b3, b4, b5⟩ := a5 k sk hk
    refine ⟨b1, b2, b3, b4, fun x => ?_⟩
    show zsr sk x (if k = b ∧ j ≤ x ∧ x < j + n then w.2 a (i + (x - j)) else w.2 k x)
    by_cases hx : k = b ∧ j ≤ x ∧ x < j + n
    · rw [if_pos hx]
      have hkb := hx.1
      subst hkb
      cases hb.symm.trans hk
      have := (a5 a _ ha).2.2.2.2 (i + (x - j))
      simpa [zsr] using this
    · rw [if_neg hx]; exact b5 x
theorem zsr_int {kd n : Nat} {rs : List (Option Nat)} {i v : Int} (h : kd = 0 ∨ kd = 2) : zsr (kd, n, rs) i v ↔ zin32 v := by
  rcases h with rfl | rfl <;> simp [zsr]
theorem zsr_long {n : Nat} {rs : List (Option Nat)} {i v : Int} : zsr (1, n, rs) i v ↔ zin64 v := by simp [zsr]
theorem zsr_obj {ci n : Nat} {rs : List (Option Nat)} {j : Nat} {v : Int} : zsr (3 + ci, n, rs) (j : Int) v ↔ (if zfty ci j = 1 then zin64 v else zin32 v) := by
  have e1 : 3 + ci - 3 = ci := by omega
  unfold zsr
  simp only [e1, Int.toNat_natCast]
  by_cases h : zfty ci j = 1
  · rw [if_pos h, if_pos (Or.inr ⟨by omega, h⟩)]
  · rw [if_neg h, if_neg (fun z => z.elim (fun z => by omega) (fun z => h z.2))]
/-- the frame of a store of one number -/
theorem zws_up {adr : Nat → Nat} {cI cL cZ : ClassId} {w : zWd} {k : Nat} {sh : zSh} (h2 : 2 ≤ k) (hk : w.1[k]? = some sh) (g : Int → Int) (M : Nat → Int → Int) (hM : ∀ j, j ≠ k → M j = w.2 j) (hg : M k = g) : zws adr cI cL cZ (w.1, M) = (zws adr cI cL cZ w).set (k - 2) (adr k, zent adr cI cL cZ g sh) := by
  obtain ⟨k, rfl⟩ : ∃ j, k = j + 2 := ⟨k - 2, by omega⟩
  have := zws_set (adr := adr) (cI := cI) (cL := cL) (cZ := cZ) (w := w) (w' := (w.1, M)) (k := k) rfl (fun j hj => ⟨rfl, hM j hj⟩) hk
  rw [this, show k + 2 - 2 = k by omega]
  show _ = (zws adr cI cL cZ w).set k (adr (k + 2), zent adr cI cL cZ g sh)
  rw [← hg]
theorem zws_at {adr : Nat → Nat} {cI cL cZ : ClassId} {w : zWd} {k : Nat} {sh : zSh} (h2 : 2 ≤ k) (hk : w.1[k]? = some sh) : (zws adr cI cL cZ w)[k - 2]? = some (adr k, zent adr cI cL cZ (w.2 k) sh) := by
  obtain ⟨k, rfl⟩ : ∃ j, k = j + 2 := ⟨k - 2, by omega⟩
  exact zws_get hk
theorem zfs_get (adr : Nat → Nat) (g : Int → Int) (ci : Nat) (rs : List (Option Nat)) {j : Nat} (hj : j < znf ci) : ((List.range (znf ci)).map (zfv adr g ci rs))[j]? = some (zfv adr g ci rs j) := by
  rw [List.getElem?_map, List.getElem?_range hj]; rfl
theorem zfs_set (adr : Nat → Nat) (g g' : Int → Int) (ci : Nat) (rs rs' : List (Option Nat)) {j : Nat} (ho : ∀ x, x ≠ j → zfv adr g' ci rs' x = zfv adr g ci rs x) : (List.range (znf ci)).map (zfv adr g' ci rs') = ((List.range (znf ci)).map (zfv adr g ci rs)).set j (zfv adr g' ci rs' j) := by
  apply List.ext_getElem?
  intro x
  rw [List.getElem?_set, List.getElem?_map, List.getElem?_map]
  by_cases hx : j = x
  · subst hx
    rw [if_pos rfl]
    by_cases hl : j < znf ci
    · rw [List.getElem?_range hl]
      rw [if_pos (by simpa using hl)]
      rfl
    · rw [if_neg (by simpa using hl), List.getElem?_eq_none (by simpa using hl)]; rfl
  · rw [if_neg hx]
    by_cases hl : x < znf ci
    · rw [List.getElem?_range hl]
      show some _ = some _
      rw [ho x (fun z => hx z.symm)]
    · rw [List.getElem?_eq_none (by simpa using hl)]
      rfl
theorem zent_obj (adr : Nat → Nat) (cI cL cZ : ClassId) (g : Int → Int) (ci n : Nat) (rs : List (Option Nat)) : zent adr cI cL cZ g (3 + ci, n, rs) = .inr (ci, (List.range (znf ci)).map (zfv adr g ci rs)) := by
  rw [Nat.add_comm]; rfl
end
section
/-! one step: fields, rows -/
section ZS
variable {p : Program} {l : Launch} {e : Env} {R : Room} {s : State} {m : MethodId} {args : Array Value} {below : List Frame} {meth : Method} {c : Code} {Q : State → Prop} {D : va_G} {cI cL cZ : ClassId} {A : Nat → Prop} {t0 t1 n0 n1 mi kc ks : Nat} {f0 f1 : Int → Int}
variable {adr : Nat → Nat} {H : Heap} {locs : List Loc} {ls : Array Slot} {L st : List zMV} {w : zWd} {pc nx : Nat}

theorem zgetf_inv {adr : Nat → Nat} {w : zWd} {k ci j : Nat} {v : zMV} (hw : zok w) (h : zgetf w k ci j = some v) : ∃ n rs, w.1[k]? = some (3 + ci, n, rs) ∧ j < znf ci ∧ zfv adr (w.2 k) ci rs j = ztr adr v ∧ zokv w.1.length v := by
  unfold zgetf at h
  split at h
  · next kd n rs hk =>
    split at h
    · next hc =>
      obtain ⟨rfl, hj⟩ := hc
      refine ⟨n, rs, hk, hj, ?_⟩
      have h5 := zsr_obj.mp ((hw k _ hk).2.2.2.2 (j : Int))
      have h3 := (hw k _ hk).2.2.1
      unfold zfv
      generalize hty : zfty ci j = ty at h h5 ⊢
      match ty, h, h5 with
      | 0, h, h5 => cases h; exact ⟨rfl, by show zin32 _; simpa using h5⟩
      | 1, h, h5 => cases h; exact ⟨rfl, by show zin64 _; simpa using h5⟩
      | 2, h, h5 => cases h; exact ⟨rfl, by show zin32 _; simpa using h5⟩
      | t + 3, h, _ =>
        simp only at h ⊢
        split at h
        · next r hr => cases h; rw [hr]; exact ⟨rfl, h3 _ _ hr⟩
        · cases h
    · cases h
  · cases h
theorem zputf_inv {w w' : zWd} {k ci j : Nat} {v : zMV} (h : zputf w k ci j v = some w') : ∃ n rs, w.1[k]? = some (3 + ci, n, rs) ∧ j < znf ci ∧ 2 ≤ k ∧ ((∃ x, (zfty ci j = 0 ∨ (zfty ci j = 2 ∧ (x = 0 ∨ x = 1))) ∧ v = zI x ∧ w' = (w.1, zup w.2 k j x)) ∨ (∃ x, zfty ci j = 1 ∧ v = zL x ∧ w' = (w.1, zup w.2 k j x)) ∨ ∃ r, zfty ci j = 3 ∧ v = zR r ∧ w' = (w.1.set k (3 + ci, n, rs.set j (some r)), w.2)) := by
  unfold zputf at h
  split at h
  · next kd n rs hk =>
    split at h
    · next hc =>
      obtain ⟨rfl, hj, h2⟩ := hc
      refine ⟨n, rs, hk, hj, h2, ?_⟩
      split at h
      · next x hty => cases h; exact Or.inl ⟨x, Or.inl hty, rfl, rfl⟩
      · next x hty => cases h; exact Or.inr (Or.inl ⟨x, hty, rfl, rfl⟩)
      · next x hty =>
        split at h
        · next hx => cases h; exact Or.inl ⟨x, Or.inr ⟨hty, hx⟩, rfl, rfl⟩
        · cases h
      · next r hty => cases h; exact Or.inr (Or.inr ⟨r, hty, rfl, rfl⟩)
      · cases h
    · cases h
  · cases h
theorem znar {t : FieldType} {x : Int} (h : zfc t = 0 ∨ (zfc t = 2 ∧ (x = 0 ∨ x = 1))) : narrow t (.int (Int32.ofInt x)) = .int (Int32.ofInt x) ∧ fits t (.int (Int32.ofInt x)) = true := by
  rcases h with h | ⟨h, rfl | rfl⟩
  · cases t <;> simp [zfc] at h
    exact ⟨rfl, rfl⟩
  · cases t <;> simp [zfc] at h
    exact ⟨rfl, rfl⟩
  · cases t <;> simp [zfc] at h
    exact ⟨rfl, rfl⟩
theorem znarL {t : FieldType} {x : Int} (h : zfc t = 1) : narrow t (.long (Int64.ofInt x)) = .long (Int64.ofInt x) ∧ fits t (.long (Int64.ofInt x)) = true := by
  cases t <;> simp [zfc] at h
  exact ⟨rfl, rfl⟩
theorem znarR {t : FieldType} {a : Nat} (h : zfc t = 3) : narrow t (.ref a) = .ref a ∧ fits t (.ref a) = true := by
  cases t <;> simp [zfc] at h
  · exact ⟨rfl, rfl⟩
  · exact ⟨rfl, rfl⟩
theorem zs_fields (hC : zCtx p s m args meth c D cI cL cZ A t0 t1 n0 n1 f0 f1 mi) (i : Instr) (hi : match i with
    | .getfield _ | .getstatic _ | .putfield _ => True
    | _ => False) : zSt p l e R s m args below meth c Q D cI cL cZ A t0 t1 n0 n1 f0 f1 mi kc ks i := by
  obtain ⟨hx, hb, hml, hown, hts, hnw, hK, hlk, hin, hA0, hT0, hT1, hZ⟩ := hC
  intro pc len en L st w tgt L' st' w' adr H locs ls hdg hok hn hA hkc hks hRc hRs hRf hRl K
  have hSo := hA.2.2.2.2.2.2.2.2
  have hI := hA.2.2.1
  have hok5 := hA.2.2.1.2.2.2.2
  cases i with
  | getfield ix =>
    simp only [zokE, Bool.and_eq_true, decide_eq_true_eq] at hok
    obtain ⟨⟨h1, rfl⟩, h3⟩ := hok
    obtain ⟨q, hq, hq2⟩ := zany3 h3
    simp only [Bool.and_eq_true, beq_iff_eq] at hq2
    obtain ⟨q1, q2, q3, q4⟩ := hq2
    obtain ⟨hci, hsl, hpl⟩ := zFT_ok q hq
    have hw := zTW_of (List.mem_of_getElem? hpl) rfl
    rw [q1, q2, q3, q4] at hw
    rw [q3] at hci hsl
    rw [q4] at hsl
    simp only [znxt, h1] at hn
    split at hn
    · next k r =>
      obtain ⟨rfl, rfl, rfl, ho⟩ := zfall_inv hn
      cases hg : zgetf w k en.2.1 en.2.2 with
      | none => rw [hg] at ho; cases ho
      | some v =>
        rw [hg] at ho
        cases ho
        obtain ⟨n, rs, g1, g2, g3, g4⟩ := zgetf_inv (adr := adr) hok5 hg
        have h2 := zInv_k hI g1 (by omega)
        have he := zws_at (adr := adr) (cI := cI) (cL := cL) (cZ := cZ) h2 g1
        rw [zent_obj] at he
        refine va_get (T := (zcl en.2.1).2.1) (N := znf en.2.1) (C := (zcl en.2.1).1) hx hb hts (zcl_in hci) hown hK hA.1 (k - 2) he (by rw [(zcl_at _ hci).1, ← (zcl_at _ hci).2]) en.2.2 hsl (hts _ hw) (fun _ h => h) (v := ztr adr v) (by rw [zfs_get _ _ _ _ hsl, g3]) hdg ?_
        exact zKs hA K (fun u hu => (List.mem_cons.mp hu).elim (fun z => by rw [z]; exact g4) (fun z => hSo u (List.mem_cons_of_mem _ z))) rfl
    · cases hn
  | getstatic ix =>
    simp only [zokE, Bool.and_eq_true, decide_eq_true_eq] at hok
    obtain ⟨⟨h1, rfl⟩, h3⟩ := hok
    obtain ⟨q, hq, hq2⟩ := zany3 h3
    simp only [Bool.and_eq_true, beq_iff_eq] at hq2
    obtain ⟨q1, q2⟩ := hq2
    have hw := zTW_of (List.mem_of_getElem? (zST_ok q hq)) rfl
    rw [q1, q2] at hw
    simp only [znxt, h1] at hn
    obtain ⟨rfl, rfl, rfl, ho⟩ := zfall_inv hn
    cases ho
    refine va_gets hx hb hZ hA.2.2.2.2.2.1 hown (hts _ hw) (fun _ h => h) hdg ?_
    refine zKs hA K (fun u hu => (List.mem_cons.mp hu).elim (fun z => by rw [z]; exact zInv_2 hI) (hSo u)) ?_
    show Value.ref (adr 1) :: _ = _
    rw [hA.2.2.2.2.1]
  | putfield ix =>
    simp only [zokE, Bool.and_eq_true, decide_eq_true_eq] at hok
    obtain ⟨⟨⟨h1, rfl⟩, h3⟩, hfin⟩ := hok
    obtain ⟨q, hq, hq2⟩ := zany3 h3
    simp only [Bool.and_eq_true, beq_iff_eq] at hq2
    obtain ⟨q1, q2, q3, q4⟩ := hq2
    obtain ⟨hci, hsl, hpl⟩ := zFT_ok q hq
    have hw := zTW_of (List.mem_of_getElem? hpl) rfl
    rw [q1, q2, q3, q4] at hw
    rw [q3] at hci hsl
    rw [q4] at hsl
    simp only [znxt, h1] at hn
    split at hn
    · next v k r =>
      cases hp : zputf w k en.2.1 en.2.2 v with
      | none => rw [hp] at hn; cases hn
      | some w2 =>
        rw [hp] at hn
        cases hn
        obtain ⟨n, rs, g1, -, h2, g3⟩ := zputf_inv hp
        have he := zws_at (adr := adr) (cI := cI) (cL := cL) (cZ := cZ) h2 g1
        rw [zent_obj] at he
        have hcl := zcl_at _ hci
        have hcl2 : vwCl[en.2.1]? = some ((zcl en.2.1).1, (zcl en.2.1).2.1, znf en.2.1) := by rw [hcl.1, ← hcl.2]
        have hfc := zfc_ok _ hci _ hsl
        have hr : ∀ u ∈ st', zokv w.1.length u := fun u hu => hSo u (List.mem_cons_of_mem _ (List.mem_cons_of_mem _ hu))
        have hvo : zokv w.1.length v := hSo v List.mem_cons_self
        -- the two rows, one continuation
        have row : ∀ (nv : narrow (zty en.2.1 en.2.2) (ztr adr v) = ztr adr v) (fv : fits (zty en.2.1 en.2.2) (ztr adr v) = true) (kk : ∀ (H1 : Heap) (locs1 : List Loc), va_P D vwCl ((zws adr cI cL cZ w).set (k - 2) (adr k, .inr (en.2.1, ((List.range (znf en.2.1)).map (zfv adr (w.2 k) en.2.1 rs)).set en.2.2 (ztr adr v)))) H1 → va_D A ((zws adr cI cL cZ w).set (k - 2) (adr k, .inr (en.2.1, ((List.range (znf en.2.1)).map (zfv adr (w.2 k) en.2.1 rs)).set en.2.2 (ztr adr v)))) → va_S A s.heap H1 locs1 → W p l e R s m args below meth c H1 locs1 (w.1.length - kc) (zcs w - ks) Q (F0 m (pc + 3) ls (st'.map (ztr adr)))),
            W p l e R s m args below meth c H locs (w.1.length - kc) (zcs w - ks) Q (F0 m pc ls (ztr adr v :: Value.ref (adr k) :: st'.map (ztr adr))) := by
          intro nv fv kk
          by_cases hf : ((zcl en.2.1).2.1 en.2.2).2.2.2 = true
          · rw [hf] at hfin
            simp only [Bool.not_true, Bool.false_or, Bool.and_eq_true, beq_iff_eq] at hfin
            exact va_putF (T := (zcl en.2.1).2.1) (N := znf en.2.1) (C := (zcl en.2.1).1) hx hb hts (zcl_in hci) (zty en.2.1) (zty_ok _ hci) (znm_ok _ hci) hown hK hA.1 hA.2.1 hA.2.2.2.2.2.1 (k - 2) he hcl2 en.2.2 hsl (hts _ hw) (fun _ h => h) hf (hin hfin.1) (by rw [zdecl_ok _ hci _ hsl, hfin.2]) (zty_ok _ hci _ hsl) nv fv (by simpa using hsl) hdg kk
          · exact va_put (T := (zcl en.2.1).2.1) (N := znf en.2.1) (C := (zcl en.2.1).1) hx hb hts (zcl_in hci) (zty en.2.1) (zty_ok _ hci) (znm_ok _ hci) hown hK hA.1 hA.2.1 hA.2.2.2.2.2.1 (k - 2) he hcl2 en.2.2 hsl (hts _ hw) (fun _ h => h) (by simpa using hf) (zty_ok _ hci _ hsl) nv fv (by simpa using hsl) hdg kk
        rcases g3 with ⟨x, hx1, rfl, rfl⟩ | ⟨x, hx1, rfl, rfl⟩ | ⟨x, hx1, rfl, rfl⟩
        · have hx2 : zfc (zty en.2.1 en.2.2) = 0 ∨ (zfc (zty en.2.1 en.2.2) = 2 ∧ (x = 0 ∨ x = 1)) := by rw [← hfc.1]; exact hx1
          refine row (znar hx2).1 (znar hx2).2 fun H1 locs1 hP hD hS => K adr H1 locs1 ls _ (fun _ _ => rfl) rfl ?_
          have e1 : zws adr cI cL cZ (w.1, zup w.2 k en.2.2 x) = (zws adr cI cL cZ w).set (k - 2) (adr k, .inr (en.2.1, ((List.range (znf en.2.1)).map (zfv adr (w.2 k) en.2.1 rs)).set en.2.2 (ztr adr (zI x)))) := by
            rw [zws_up h2 g1 (zup w.2 k en.2.2 x k) (zup w.2 k en.2.2 x) (fun j hj => by funext y; simp [zup, hj]) rfl, zent_obj]
            rw [zfs_set adr (w.2 k) (zup w.2 k en.2.2 x k) en.2.1 rs rs (j := en.2.2) (fun y hy => by
              unfold zfv
              have : zup w.2 k en.2.2 x k (y : Int) = w.2 k y := by simp [zup, show ¬ (y : Int) = (en.2.2 : Int) by omega]
              rw [this])]
            have : zfv adr (zup w.2 k en.2.2 x k) en.2.1 rs en.2.2 = ztr adr (zI x) := by
              unfold zfv
              have e2 : zup w.2 k en.2.2 x k (en.2.2 : Int) = x := by simp [zup]
              rcases hx1 with h | ⟨h, -⟩ <;> rw [h, e2] <;> rfl
            rw [this]
          refine ⟨by rw [e1]; exact hP, by rw [e1]; exact hD, zInv_up hI g1 h2 (zsr_obj.mpr ?_), hA.2.2.2.1, hA.2.2.2.2.1, hS, hA.2.2.2.2.2.2.1, hA.2.2.2.2.2.2.2.1, hr⟩
          rw [if_neg (by rcases hx1 with h | ⟨h, -⟩ <;> omega)]
          exact hvo
        · have hx2 : zfc (zty en.2.1 en.2.2) = 1 := by rw [← hfc.1]; exact hx1
          refine row (znarL hx2).1 (znarL hx2).2 fun H1 locs1 hP hD hS => K adr H1 locs1 ls _ (fun _ _ => rfl) rfl ?_
          have e1 : zws adr cI cL cZ (w.1, zup w.2 k en.2.2 x) = (zws adr cI cL cZ w).set (k - 2) (adr k, .inr (en.2.1, ((List.range (znf en.2.1)).map (zfv adr (w.2 k) en.2.1 rs)).set en.2.2 (ztr adr (zL x)))) := by
            rw [zws_up h2 g1 (zup w.2 k en.2.2 x k) (zup w.2 k en.2.2 x) (fun j hj => by funext y; simp [zup, hj]) rfl, zent_obj]
            rw [zfs_set adr (w.2 k) (zup w.2 k en.2.2 x k) en.2.1 rs rs (j := en.2.2) (fun y hy => by
              unfold zfv
              have : zup w.2 k en.2.2 x k (y : Int) = w.2 k y := by simp [zup, show ¬ (y : Int) = (en.2.2 : Int) by omega]
              rw [this])]
            have : zfv adr (zup w.2 k en.2.2 x k) en.2.1 rs en.2.2 = ztr adr (zL x) := by
              unfold zfv
              have e2 : zup w.2 k en.2.2 x k (en.2.2 : Int) = x := by simp [zup]
              rw [hx1, e2]; rfl
            rw [this]
          refine ⟨by rw [e1]; exact hP, by rw [e1]; exact hD, zInv_up hI g1 h2 (zsr_obj.mpr ?_), hA.2.2.2.1, hA.2.2.2.2.1, hS, hA.2.2.2.2.2.2.1, hA.2.2.2.2.2.2.2.1, hr⟩
          rw [if_pos hx1]
          exact hvo
        · have hx2 : zfc (zty en.2.1 en.2.2) = 3 := by rw [← hfc.1]; exact hx1
          refine row (znarR hx2).1 (znarR hx2).2 fun H1 locs1 hP hD hS => ?_
          have hxl : x < w.1.length := hvo
          have hrl : rs.length = znf en.2.1 := by
            have := ((hok5 _ _ g1).2.2.2.1 (by omega)).2
            rw [this]
            show znf (3 + en.2.1 - 3) = _
            rw [Nat.add_sub_cancel_left]
          have e1 : zws adr cI cL cZ (w.1.set k (3 + en.2.1, n, rs.set en.2.2 (some x)), w.2) = (zws adr cI cL cZ w).set (k - 2) (adr k, .inr (en.2.1, ((List.range (znf en.2.1)).map (zfv adr (w.2 k) en.2.1 rs)).set en.2.2 (ztr adr (zR x)))) := by
            have hkl := (List.getElem?_eq_some_iff.mp g1).1
            obtain ⟨k, rfl⟩ : ∃ j, k = j + 2 := ⟨k - 2, by omega⟩
            have := zws_set (adr := adr) (cI := cI) (cL := cL) (cZ := cZ) (w := w) (w' := (w.1.set (k + 2) (3 + en.2.1, n, rs.set en.2.2 (some x)), w.2)) (k := k) (sh := (3 + en.2.1, n, rs.set en.2.2 (some x))) (by simp) (fun j hj => ⟨by simp [List.getElem?_set_ne (Ne.symm hj)], rfl⟩) (by simp [List.getElem?_set_self hkl])
            rw [this, zent_obj, show k + 2 - 2 = k by omega]
            rw [zfs_set adr (w.2 (k + 2)) (w.2 (k + 2)) en.2.1 rs (rs.set en.2.2 (some x)) (j := en.2.2) (fun y hy => by
              unfold zfv
              rw [List.getElem?_set_ne (Ne.symm hy)])]
            have : zfv adr (w.2 (k + 2)) en.2.1 (rs.set en.2.2 (some x)) en.2.2 = ztr adr (zR x) := by
              unfold zfv
              rw [hx1, List.getElem?_set_self (by omega)]
              rfl
            rw [this]
          have e2 : (w.1.set k (3 + en.2.1, n, rs.set en.2.2 (some x))).length = w.1.length := List.length_set ..
          have e3 : zcs (w.1.set k (3 + en.2.1, n, rs.set en.2.2 (some x)), w.2) = zcs w := zcs_set g1 rfl
          refine W.cs (cells' := (w.1.set k (3 + en.2.1, n, rs.set en.2.2 (some x))).length - kc) (slots' := zcs (w.1.set k (3 + en.2.1, n, rs.set en.2.2 (some x)), w.2) - ks) (by rw [e2]) (by rw [e3]) (K adr H1 locs1 ls _ (fun _ _ => rfl) rfl ?_)
          refine ⟨by rw [e1]; exact hP, by rw [e1]; exact hD, zInv_ref hI g1 h2 hxl, hA.2.2.2.1, hA.2.2.2.2.1, hS, hA.2.2.2.2.2.2.1, fun u hu => ?_, fun u hu => ?_⟩
          · show zokv (w.1.set k (3 + en.2.1, n, rs.set en.2.2 (some x))).length u
            rw [e2]; exact hA.2.2.2.2.2.2.2.1 u hu
          · show zokv (w.1.set k (3 + en.2.1, n, rs.set en.2.2 (some x))).length u
            rw [e2]; exact hr u hu
    · cases hn
  | _ => exact absurd hi (by simp)
end ZS
end
section
/-! one step: rows, new cells, copies -/
section ZS
variable {p : Program} {l : Launch} {e : Env} {R : Room} {s : State} {m : MethodId} {args : Array Value} {below : List Frame} {meth : Method} {c : Code} {Q : State → Prop} {D : va_G} {cI cL cZ : ClassId} {A : Nat → Prop} {t0 t1 n0 n1 mi kc ks : Nat} {f0 f1 : Int → Int}
variable {adr : Nat → Nat} {H : Heap} {locs : List Loc} {ls : Array Slot} {L st : List zMV} {w : zWd} {pc nx : Nat}

theorem zlen_inv {w : zWd} {k kd n : Nat} (h : zlen w k kd = some n) : ∃ rs, w.1[k]? = some (kd, n, rs) := by
  unfold zlen at h
  split at h
  · next k' n' rs hk =>
    split at h
    · next hc => cases h; subst hc; exact ⟨rs, hk⟩
    · cases h
  · cases h
theorem zaget_inv {w : zWd} {k kd : Nat} {i v : Int} (h : zaget w k kd i = some v) : ∃ (n : Nat) (rs : List (Option Nat)), w.1[k]? = some (kd, n, rs) ∧ 0 ≤ i ∧ i < n ∧ v = w.2 k i := by
  unfold zaget at h
  split at h
  · next n hn =>
    split at h
    · next hc =>
      cases h
      obtain ⟨rs, hk⟩ := zlen_inv hn
      exact ⟨n, rs, hk, hc.1, hc.2, rfl⟩
    · cases h
  · cases h
theorem zaput_inv {w w' : zWd} {k kd : Nat} {i v : Int} (h : zaput w k kd i v = some w') : ∃ (n : Nat) (rs : List (Option Nat)), w.1[k]? = some (kd, n, rs) ∧ 0 ≤ i ∧ i < n ∧ 2 ≤ k ∧ w' = (w.1, zup w.2 k i v) := by
  unfold zaput at h
  split at h
  · next n hn =>
    split at h
    · next hc =>
      cases h
      obtain ⟨rs, hk⟩ := zlen_inv hn
      exact ⟨n, rs, hk, hc.1, hc.2.1, hc.2.2, rfl⟩
    · cases h
  · cases h
theorem zupd_i {M : Nat → Int → Int} {k : Nat} {i v : Int} (h0 : 0 ≤ i) : (fun j : Nat => Int32.ofInt (zup M k i v k j)) = upd (fun j : Nat => Int32.ofInt (M k j)) i.toNat (Int32.ofInt v) := by
  funext j
  unfold upd zup
  by_cases h : j = i.toNat
  · rw [if_pos h, if_pos ⟨rfl, by omega⟩]
  · rw [if_neg h, if_neg (fun z => h (by have := z.2; omega))]
theorem zupd_l {M : Nat → Int → Int} {k : Nat} {i v : Int} (h0 : 0 ≤ i) : (fun j : Nat => Int64.ofInt (zup M k i v k j)) = vp_updL (fun j : Nat => Int64.ofInt (M k j)) i.toNat (Int64.ofInt v) := by
  funext j
  unfold vp_updL zup
  by_cases h : j = i.toNat
  · rw [if_pos h, if_pos ⟨rfl, by omega⟩]
  · rw [if_neg h, if_neg (fun z => h (by have := z.2; omega))]
theorem zat2 {i : Int} (h0 : 0 ≤ i) : ((i.toNat : Nat) : Int) = i := Int.toNat_of_nonneg h0
theorem zs_rows (hC : zCtx p s m args meth c D cI cL cZ A t0 t1 n0 n1 f0 f1 mi) (i : Instr) (hi : match i with
    | .iaload | .laload | .baload | .arraylength => True
    | _ => False) : zSt p l e R s m args below meth c Q D cI cL cZ A t0 t1 n0 n1 f0 f1 mi kc ks i := by
  obtain ⟨hx, hb, hml, hown, hts, hnw, hK, hlk, hin, hA0, hT0, hT1, hZ⟩ := hC
  intro pc len en L st w tgt L' st' w' adr H locs ls hdg hok hn hA hkc hks hRc hRs hRf hRl K
  have hSo := hA.2.2.2.2.2.2.2.2
  have hI := hA.2.2.1
  have hok5 := hA.2.2.1.2.2.2.2
  have hS := hA.2.2.2.2.2.1
  cases i with
  | iaload =>
    simp only [zokE, Bool.and_eq_true, decide_eq_true_eq] at hok
    obtain ⟨rfl, rfl⟩ := hok
    simp only [znxt] at hn
    split at hn
    · next j k r =>
      obtain ⟨rfl, rfl, rfl, ho⟩ := zfall_inv hn
      cases hg : zaget w k 0 j with
      | none => rw [hg] at ho; cases ho
      | some v =>
        rw [hg] at ho
        cases ho
        obtain ⟨n, rs, g1, g2, g3, rfl⟩ := zaget_inv hg
        have hj : zin32 j := hSo (zI j) List.mem_cons_self
        have hv : zin32 (w.2 k j) := (zsr_int (Or.inl rfl)).mp ((hok5 _ _ g1).2.2.2.2 j)
        have hr : ∀ u ∈ r, u ∈ (zI j :: zR k :: r) := zmem2
        have fin : W p l e R s m args below meth c H locs (w.1.length - kc) (zcs w - ks) Q (F0 m (pc + 1) ls (.int (Int32.ofInt (w.2 k j)) :: r.map (ztr adr))) := zKi hA K rfl hv hr
        by_cases h2 : 2 ≤ k
        · have he := zws_at (adr := adr) (cI := cI) (cL := cL) (cZ := cZ) h2 g1
          refine va_iald hx hb hK hA.1 (k - 2) 0 he rfl (zvpin hj g2 g3) hdg ?_
          show W p l e R s m args below meth c H locs _ _ Q (F0 m (pc + 1) ls (.int (Int32.ofInt (w.2 k ((Int32.ofInt j).toNatClampNeg : Nat))) :: r.map (ztr adr)))
          rw [zclamp hj, zat2 g2]
          exact fin
        · by_cases h1 : k = 0
          · subst h1
            have e1 := hI.1.symm.trans g1
            cases e1
            have hT : va_T .int (adr 0) n0 (fun j => .int (Int32.ofInt (f0 j))) A s s.heap := by rw [hA.2.2.2.1]; exact hT0
            refine va_ti hx hb hT hS (zvpin hj g2 g3) (v := .int (Int32.ofInt (w.2 0 j))) ?_ hdg fin
            show Value.int (Int32.ofInt (f0 ((Int32.ofInt j).toNatClampNeg : Nat))) = _
            rw [zclamp hj, zat2 g2, hI.2.2.1]
          · have h1 : k = 1 := by omega
            subst h1
            have e1 := hI.2.1.symm.trans g1
            cases e1
            have hT : va_T .int (adr 1) n1 (fun j => .int (Int32.ofInt (f1 j))) A s s.heap := by rw [hA.2.2.2.2.1]; exact hT1
            refine va_ti hx hb hT hS (zvpin hj g2 g3) (v := .int (Int32.ofInt (w.2 1 j))) ?_ hdg fin
            show Value.int (Int32.ofInt (f1 ((Int32.ofInt j).toNatClampNeg : Nat))) = _
            rw [zclamp hj, zat2 g2, hI.2.2.2.1]
    · cases hn
  | laload =>
    simp only [zokE, Bool.and_eq_true, decide_eq_true_eq] at hok
    obtain ⟨rfl, rfl⟩ := hok
    simp only [znxt] at hn
    split at hn
    · next j k r =>
      obtain ⟨rfl, rfl, rfl, ho⟩ := zfall_inv hn
      by_cases h2 : 2 ≤ k
      · rw [if_pos h2] at ho
        cases hg : zaget w k 1 j with
        | none => rw [hg] at ho; cases ho
        | some v =>
          rw [hg] at ho
          cases ho
          obtain ⟨n, rs, g1, g2, g3, rfl⟩ := zaget_inv hg
          have hj : zin32 j := hSo (zI j) List.mem_cons_self
          have hv := zsr_long.mp ((hok5 _ _ g1).2.2.2.2 j)
          have fin := zKl hA K rfl hv zmem2
          have he := zws_at (adr := adr) (cI := cI) (cL := cL) (cZ := cZ) h2 g1
          refine va_lald hx hb hK hA.1 (k - 2) 1 he rfl (zvpin hj g2 g3) hdg ?_
          show W p l e R s m args below meth c H locs _ _ Q (F0 m (pc + 1) ls (.long (Int64.ofInt (w.2 k ((Int32.ofInt j).toNatClampNeg : Nat))) :: r.map (ztr adr)))
          rw [zclamp hj, zat2 g2]
          exact fin
      · rw [if_neg h2] at ho; cases ho
    · cases hn
  | baload =>
    simp only [zokE, Bool.and_eq_true, decide_eq_true_eq] at hok
    obtain ⟨rfl, rfl⟩ := hok
    simp only [znxt] at hn
    split at hn
    · next j k r =>
      obtain ⟨rfl, rfl, rfl, ho⟩ := zfall_inv hn
      by_cases h2 : 2 ≤ k
      · rw [if_pos h2] at ho
        cases hg : zaget w k 2 j with
        | none => rw [hg] at ho; cases ho
        | some v =>
          rw [hg] at ho
          cases ho
          obtain ⟨n, rs, g1, g2, g3, rfl⟩ := zaget_inv hg
          have hj : zin32 j := hSo (zI j) List.mem_cons_self
          have hv := (zsr_int (Or.inr rfl)).mp ((hok5 _ _ g1).2.2.2.2 j)
          have fin := zKi hA K rfl hv zmem2
          have he := zws_at (adr := adr) (cI := cI) (cL := cL) (cZ := cZ) h2 g1
          refine va_zald hx hb hK hA.1 (k - 2) 2 he rfl (zvpin hj g2 g3) hdg ?_
          show W p l e R s m args below meth c H locs _ _ Q (F0 m (pc + 1) ls (.int (Int32.ofInt (w.2 k ((Int32.ofInt j).toNatClampNeg : Nat))) :: r.map (ztr adr)))
          rw [zclamp hj, zat2 g2]
          exact fin
      · rw [if_neg h2] at ho; cases ho
    · cases hn
  | arraylength =>
    simp only [zokE, Bool.and_eq_true, decide_eq_true_eq] at hok
    obtain ⟨rfl, rfl⟩ := hok
    simp only [znxt] at hn
    split at hn
    · next k r =>
      obtain ⟨rfl, rfl, rfl, ho⟩ := zfall_inv hn
      cases hg : zlen w k 0 with
      | none => rw [hg] at ho; cases ho
      | some n =>
        rw [hg] at ho
        cases ho
        obtain ⟨rs, g1⟩ := zlen_inv hg
        have hn2 : n < 2147483648 := (hok5 _ _ g1).2.1
        have fin : W p l e R s m args below meth c H locs (w.1.length - kc) (zcs w - ks) Q (F0 m (pc + 1) ls (.int (Int32.ofInt (n : Int)) :: r.map (ztr adr))) := zKi hA K rfl ⟨by omega, by omega⟩ zmem1
        have en : Int32.ofNat n = Int32.ofInt (n : Int) := (Int32.ofInt_eq_ofNat).symm
        by_cases h2 : 2 ≤ k
        · have he := zws_at (adr := adr) (cI := cI) (cL := cL) (cZ := cZ) h2 g1
          exact va_alen hx hb hK hA.1 (k - 2) 0 he (ty := .int) rfl en hdg fin
        · by_cases h1 : k = 0
          · subst h1
            have e1 := hI.1.symm.trans g1
            cases e1
            have hT : va_T .int (adr 0) n0 (fun j => .int (Int32.ofInt (f0 j))) A s s.heap := by rw [hA.2.2.2.1]; exact hT0
            exact va_tlen hx hb hT hS en hdg fin
          · have h1 : k = 1 := by omega
            subst h1
            have e1 := hI.2.1.symm.trans g1
            cases e1
            have hT : va_T .int (adr 1) n1 (fun j => .int (Int32.ofInt (f1 j))) A s s.heap := by rw [hA.2.2.2.2.1]; exact hT1
            exact va_tlen hx hb hT hS en hdg fin
    · cases hn
  | _ => exact absurd hi (by simp)
theorem zs_stores (hC : zCtx p s m args meth c D cI cL cZ A t0 t1 n0 n1 f0 f1 mi) (i : Instr) (hi : match i with
    | .iastore | .lastore | .bastore => True
    | _ => False) : zSt p l e R s m args below meth c Q D cI cL cZ A t0 t1 n0 n1 f0 f1 mi kc ks i := by
  obtain ⟨hx, hb, hml, hown, hts, hnw, hK, hlk, hin, hA0, hT0, hT1, hZ⟩ := hC
  intro pc len en L st w tgt L' st' w' adr H locs ls hdg hok hn hA hkc hks hRc hRs hRf hRl K
  have hSo := hA.2.2.2.2.2.2.2.2
  have hI := hA.2.2.1
  have hok5 := hA.2.2.1.2.2.2.2
  have hS := hA.2.2.2.2.2.1
  cases i with
  | iastore =>
    simp only [zokE, Bool.and_eq_true, decide_eq_true_eq] at hok
    obtain ⟨rfl, rfl⟩ := hok
    simp only [znxt] at hn
    split at hn
    · next v j k r =>
      cases hp : zaput w k 0 j v with
      | none => rw [hp] at hn; cases hn
      | some w2 =>
        rw [hp] at hn
        cases hn
        obtain ⟨n, rs, g1, g2, g3, h2, rfl⟩ := zaput_inv hp
        have hj : zin32 j := hSo (zI j) (List.mem_cons_of_mem _ List.mem_cons_self)
        have hv := hSo (zI v) List.mem_cons_self
        have he := zws_at (adr := adr) (cI := cI) (cL := cL) (cZ := cZ) h2 g1
        refine va_iast hx hb hK hA.1 hA.2.1 hS (k - 2) 0 he rfl (zvpin hj g2 g3) hdg fun H1 locs1 hP hD hS1 => K adr H1 locs1 ls _ (fun _ _ => rfl) rfl ?_
        rw [zclamp hj, ← zupd_i g2] at hP hD
        have e1 := zws_up (adr := adr) (cI := cI) (cL := cL) (cZ := cZ) h2 g1 (zup w.2 k j v k) (zup w.2 k j v) (fun j' hj' => by funext y; simp [zup, hj']) rfl
        refine ⟨by rw [e1]; exact hP, by rw [e1]; exact hD, zInv_up hI g1 h2 ((zsr_int (Or.inl rfl)).mpr hv), hA.2.2.2.1, hA.2.2.2.2.1, hS1, hA.2.2.2.2.2.2.1, hA.2.2.2.2.2.2.2.1, fun u hu => hSo u (List.mem_cons_of_mem _ (List.mem_cons_of_mem _ (List.mem_cons_of_mem _ hu)))⟩
    · cases hn
  | lastore =>
    simp only [zokE, Bool.and_eq_true, decide_eq_true_eq] at hok
    obtain ⟨rfl, rfl⟩ := hok
    simp only [znxt] at hn
    split at hn
    · next v j k r =>
      cases hp : zaput w k 1 j v with
      | none => rw [hp] at hn; cases hn
      | some w2 =>
        rw [hp] at hn
        cases hn
        obtain ⟨n, rs, g1, g2, g3, h2, rfl⟩ := zaput_inv hp
        have hj : zin32 j := hSo (zI j) (List.mem_cons_of_mem _ List.mem_cons_self)
        have hv := hSo (zL v) List.mem_cons_self
        have he := zws_at (adr := adr) (cI := cI) (cL := cL) (cZ := cZ) h2 g1
        refine va_last hx hb hK hA.1 hA.2.1 hS (k - 2) 1 he rfl (zvpin hj g2 g3) hdg fun H1 locs1 hP hD hS1 => K adr H1 locs1 ls _ (fun _ _ => rfl) rfl ?_
        rw [zclamp hj, ← zupd_l g2] at hP hD
        have e1 := zws_up (adr := adr) (cI := cI) (cL := cL) (cZ := cZ) h2 g1 (zup w.2 k j v k) (zup w.2 k j v) (fun j' hj' => by funext y; simp [zup, hj']) rfl
        refine ⟨by rw [e1]; exact hP, by rw [e1]; exact hD, zInv_up hI g1 h2 (zsr_long.mpr hv), hA.2.2.2.1, hA.2.2.2.2.1, hS1, hA.2.2.2.2.2.2.1, hA.2.2.2.2.2.2.2.1, fun u hu => hSo u (List.mem_cons_of_mem _ (List.mem_cons_of_mem _ (List.mem_cons_of_mem _ hu)))⟩
    · cases hn
  | bastore =>
    simp only [zokE, Bool.and_eq_true, decide_eq_true_eq] at hok
    obtain ⟨rfl, rfl⟩ := hok
    simp only [znxt] at hn
    split at hn
    · next v j k r =>
      split at hn
      · next hv01 =>
        cases hp : zaput w k 2 j v with
        | none => rw [hp] at hn; cases hn
        | some w2 =>
          rw [hp] at hn
          cases hn
          obtain ⟨n, rs, g1, g2, g3, h2, rfl⟩ := zaput_inv hp
          have hj : zin32 j := hSo (zI j) (List.mem_cons_of_mem _ List.mem_cons_self)
          have hv := hSo (zI v) List.mem_cons_self
          have he := zws_at (adr := adr) (cI := cI) (cL := cL) (cZ := cZ) h2 g1
          refine va_zast hx hb hK hA.1 hA.2.1 hS (k - 2) 2 he rfl (zvpin hj g2 g3) hdg fun H1 locs1 hP hD hS1 => K adr H1 locs1 ls _ (fun _ _ => rfl) rfl ?_
          have hnb : vp_nar .boolean (Int32.ofInt v) = Int32.ofInt v := by rcases hv01 with rfl | rfl <;> rfl
          rw [hnb] at hP hD
          rw [zclamp hj, ← zupd_i g2] at hP hD
          have e1 := zws_up (adr := adr) (cI := cI) (cL := cL) (cZ := cZ) h2 g1 (zup w.2 k j v k) (zup w.2 k j v) (fun j' hj' => by funext y; simp [zup, hj']) rfl
          refine ⟨by rw [e1]; exact hP, by rw [e1]; exact hD, zInv_up hI g1 h2 ((zsr_int (Or.inr rfl)).mpr hv), hA.2.2.2.1, hA.2.2.2.2.1, hS1, hA.2.2.2.2.2.2.1, hA.2.2.2.2.2.2.2.1, fun u hu => hSo u (List.mem_cons_of_mem _ (List.mem_cons_of_mem _ (List.mem_cons_of_mem _ hu)))⟩
      · cases hn
    · cases hn
  | _ => exact absurd hi (by simp)
end ZS
end
section
/-! one step: new cells, copies; then any instruction that neither calls nor returns -/
section ZS
variable {p : Program} {l : Launch} {e : Env} {R : Room} {s : State} {m : MethodId} {args : Array Value} {below : List Frame} {meth : Method} {c : Code} {Q : State → Prop} {D : va_G} {cI cL cZ : ClassId} {A : Nat → Prop} {t0 t1 n0 n1 mi kc ks : Nat} {f0 f1 : Int → Int}
variable {adr : Nat → Nat} {H : Heap} {locs : List Loc} {ls : Array Slot} {L st : List zMV} {w : zWd} {pc nx : Nat}

theorem zcs_push (S : List zSh) (sh : zSh) : ((S ++ [sh]).map (·.2.1)).sum = (S.map (·.2.1)).sum + sh.2.1 := by simp
theorem zpush_at {D : va_G} {cI cL cZ : ClassId} {A : Nat → Prop} {t0 t1 n0 n1 mi : Nat} {f0 f1 : Int → Int} {s : State} {adr : Nat → Nat} {H H1 : Heap} {locs : List Loc} {ls : Array Slot} {L st r : List zMV} {w : zWd} (hA : zAt D cI cL cZ A t0 t1 n0 n1 f0 f1 mi s.heap adr H locs ls L st w) {q : Nat} {sh : zSh} (h1 : sh.1 < 15) (h2 : sh.2.1 < 2147483648) (h3 : ∀ (j r : Nat), sh.2.2[j]? = some (some r) → r < w.1.length) (h4 : 3 ≤ sh.1 → sh.2.1 = znf (sh.1 - 3) ∧ sh.2.2.length = znf (sh.1 - 3))
    (hP : va_P D vwCl (zws adr cI cL cZ w ++ [(q, zent adr cI cL cZ (fun _ => 0) sh)]) H1) (hD : va_D A (zws adr cI cL cZ w ++ [(q, zent adr cI cL cZ (fun _ => 0) sh)])) (hS : va_S A s.heap H1 locs) (hr : ∀ v ∈ r, v ∈ st) :
    zAt D cI cL cZ A t0 t1 n0 n1 f0 f1 mi s.heap (fun j => if j = w.1.length then q else adr j) H1 locs ls L (zR w.1.length :: r) (w.1 ++ [sh], zzero w.2 w.1.length) := by
  have hl := zInv_2 hA.2.2.1
  have ha : ∀ k, k < w.1.length → (fun j => if j = w.1.length then q else adr j) k = adr k := fun k hk => if_neg (by omega)
  have e1 := zws_push (adr := adr) (cI := cI) (cL := cL) (cZ := cZ) hA.2.2.1.2.2.2.2 hl q sh h3
  have e2 : (w.1 ++ [sh], zzero w.2 w.1.length).1.length = w.1.length + 1 := by simp
  refine ⟨by rw [e1]; exact hP, by rw [e1]; exact hD, zInv_push hA.2.2.1 h1 h2 h3 h4, ?_, ?_, hS, zlv_agree hA.2.2.2.2.2.2.1 ha hA.2.2.2.2.2.2.2.1, fun u hu => by rw [e2]; exact zokv_mono (by omega) (hA.2.2.2.2.2.2.2.1 u hu), fun u hu => ?_⟩
  · rw [ha 0 (by omega)]; exact hA.2.2.2.1
  · rw [ha 1 (by omega)]; exact hA.2.2.2.2.1
  · rw [e2]
    rcases List.mem_cons.mp hu with rfl | hu
    · show w.1.length < w.1.length + 1
      omega
    · exact zokv_mono (by omega) (hA.2.2.2.2.2.2.2.2 u (hr u hu))
theorem zmap_agree {n : Nat} {adr adr' : Nat → Nat} (h : ∀ k, k < n → adr' k = adr k) {r : List zMV} (hr : ∀ v ∈ r, zokv n v) : r.map (ztr adr') = r.map (ztr adr) := by
  apply List.map_congr_left
  intro v hv
  exact ztr_agree h (hr v hv)
theorem zdef {t : FieldType} (adr : Nat → Nat) (ci j n : Nat) (h : zfty ci j = zfc t) (h3 : zfty ci j ≤ 3) : defaultValue t = zfv adr (fun _ => 0) ci (List.replicate n none) j := by
  unfold zfv
  have hrep : ∀ (x r : Nat), (List.replicate n (none : Option Nat))[x]? = some (some r) → False := by
    intro x r hx
    rw [List.getElem?_replicate] at hx
    split at hx <;> cases hx
  rw [h] at h3 ⊢
  cases t <;> simp [zfc] at h3 ⊢ <;> try rfl
  all_goals
    split
    · next r hr => exact (hrep _ _ hr).elim
    · rfl
theorem zcI {D : va_G} {cI cL cZ cA : ClassId} {s : State} {ty : FieldType} {k : Nat} (hK : va_K D vwCl ([(cI, FieldType.int), (cL, .long), (cZ, .boolean)] ++ [(cA, ty)]) s) {cB : ClassId} (hk : ([(cI, FieldType.int), (cL, .long), (cZ, .boolean)] ++ [(cA, ty)])[k]? = some (cB, ty)) (hty : ty = .int ∨ ty = .long ∨ ty = .boolean) : cA = cB := by
  have h1 := (hK.2 3 (cA, ty) rfl).2
  have h2 := (hK.2 k (cB, ty) hk).2
  rcases hty with rfl | rfl | rfl
  · exact Option.some.inj ((show _ = some cA from h1).symm.trans (show _ = some cB from h2))
  · exact Option.some.inj ((show _ = some cA from h1).symm.trans (show _ = some cB from h2))
  · exact Option.some.inj ((show _ = some cA from h1).symm.trans (show _ = some cB from h2))
theorem zs_new (hC : zCtx p s m args meth c D cI cL cZ A t0 t1 n0 n1 f0 f1 mi) (i : Instr) (hi : match i with
    | .new _ | .newarray _ | .invokespecial _ | .invokestatic _ => True
    | _ => False) : zSt p l e R s m args below meth c Q D cI cL cZ A t0 t1 n0 n1 f0 f1 mi kc ks i := by
  obtain ⟨hx, hb, hml, hown, hts, hnw, hK, hlk, hin, hA0, hT0, hT1, hZ⟩ := hC
  intro pc len en L st w tgt L' st' w' adr H locs ls hdg hok hn hA hkc hks hRc hRs hRf hRl K
  have hSo := hA.2.2.2.2.2.2.2.2
  have hI := hA.2.2.1
  have hok5 := hA.2.2.1.2.2.2.2
  have hS := hA.2.2.2.2.2.1
  cases i with
  | new ix =>
    simp only [zokE, Bool.and_eq_true, decide_eq_true_eq] at hok
    obtain ⟨⟨h1, rfl⟩, h3⟩ := hok
    obtain ⟨q, hq, hq2⟩ := zany3 h3
    simp only [Bool.and_eq_true, beq_iff_eq] at hq2
    obtain ⟨q1, q2, q3⟩ := hq2
    obtain ⟨hci, hp1, hp2, hp3⟩ := zNT_ok q hq
    have hw1 := zTW_of (List.mem_of_getElem? hp1) rfl
    have hw2 := zTW_of (List.mem_of_getElem? hp2) rfl
    have hw3 := zTW_of (List.mem_of_getElem? hp3) rfl
    rw [q1, q2, q3] at hw1
    rw [q3] at hci hw2 hw3
    simp only [znxt, h1] at hn
    cases hn
    have hcl := zcl_at _ hci
    have hcl2 : vwCl[en.2.1]? = some ((zcl en.2.1).1, (zcl en.2.1).2.1, znf en.2.1) := by rw [hcl.1, ← hcl.2]
    have hn1 : (w.1 ++ [(3 + en.2.1, znf en.2.1, List.replicate (znf en.2.1) none)]).length - kc = w.1.length - kc + 1 := by simp; omega
    have hn2 : zcs (w.1 ++ [(3 + en.2.1, znf en.2.1, List.replicate (znf en.2.1) none)], zzero w.2 w.1.length) - ks = zcs w - ks + znf en.2.1 := by
      have h5 : zcs (w.1 ++ [(3 + en.2.1, znf en.2.1, List.replicate (znf en.2.1) none)], zzero w.2 w.1.length) = zcs w + znf en.2.1 := zcs_push w.1 (3 + en.2.1, znf en.2.1, List.replicate (znf en.2.1) none)
      rw [h5]; omega
    refine va_new (T := (zcl en.2.1).2.1) (N := znf en.2.1) (C := (zcl en.2.1).1) (fs := (List.range (znf en.2.1)).map (zfv adr (fun _ => 0) en.2.1 (List.replicate (znf en.2.1) none))) hx hb hts (zcl_in hci) (zty en.2.1) (zty_ok _ hci) hown (hts _ hw1) (hts _ hw2) (hts _ hw3) hK hA.1 hA.2.1 hS hA0 hcl2 (fun j hj => ?_) (by rw [← hn1]; exact hRc) (by rw [← hn2]; exact hRs) hdg fun q H1 hP hD hS1 => ?_
    · have hfc := zfc_ok _ hci _ hj
      rw [zdef adr en.2.1 j (znf en.2.1) hfc.1 hfc.2]
      simp [vp_V, hj]
    · have ee : zent adr cI cL cZ (fun _ => 0) (3 + en.2.1, znf en.2.1, List.replicate (znf en.2.1) none) = .inr (en.2.1, (List.range (znf en.2.1)).map (zfv adr (fun _ => 0) en.2.1 (List.replicate (znf en.2.1) none))) := zent_obj ..
      rw [← ee] at hP hD
      refine W.cs hn1.symm hn2.symm ?_
      have ha : ∀ k, k < w.1.length → (fun j => if j = w.1.length then q else adr j) k = adr k := fun k hk => if_neg (by omega)
      have hrep : ∀ (x r : Nat), (List.replicate (znf en.2.1) (none : Option Nat))[x]? = some (some r) → r < w.1.length := by
        intro x r hx
        rw [List.getElem?_replicate] at hx
        split at hx <;> cases hx
      have hz := zsize_ok _ hci
      have := K (fun j => if j = w.1.length then q else adr j) H1 locs ls _ ha rfl (zpush_at hA (sh := (3 + en.2.1, znf en.2.1, List.replicate (znf en.2.1) none)) (by show 3 + en.2.1 < 15; omega) (by show znf en.2.1 < _; omega) hrep (fun _ => by rw [show 3 + en.2.1 - 3 = en.2.1 by omega]; exact ⟨rfl, List.length_replicate⟩) hP hD hS1 (fun v h => h))
      have e4 : (zR w.1.length :: st).map (ztr (fun j => if j = w.1.length then q else adr j)) = .ref q :: st.map (ztr adr) := by
        rw [List.map_cons, zmap_agree ha hSo]
        show Value.ref (if w.1.length = w.1.length then q else _) :: _ = _
        rw [if_pos rfl]
      rw [e4] at this
      exact this
  | newarray at1 =>
    simp only [zokE, Bool.and_eq_true, decide_eq_true_eq] at hok
    obtain ⟨h1, rfl⟩ := hok
    simp only [znxt, h1] at hn
    split at hn
    · next n r =>
      split at hn
      · next kd hkd =>
        split at hn
        · next hn0 =>
          cases hn
          have hnr : zin32 n := hSo (zI n) List.mem_cons_self
          have hn1 : (w.1 ++ [(kd, n.toNat, [])]).length - kc = w.1.length - kc + 1 := by simp; omega
          have hn2 : zcs (w.1 ++ [(kd, n.toNat, [])], zzero w.2 w.1.length) - ks = zcs w - ks + n.toNat := by
            have h5 : zcs (w.1 ++ [(kd, n.toNat, [])], zzero w.2 w.1.length) = zcs w + n.toNat := zcs_push w.1 (kd, n.toNat, [])
            rw [h5]; omega
          have ha : ∀ q k, k < w.1.length → (fun j => if j = w.1.length then q else adr j) k = adr k := fun q k hk => if_neg (by omega)
          have hneg : ¬ Int32.ofInt n < 0 := fun z => by have := (zltI hnr zin0).mp z; omega
          have fin : ∀ (q : Nat) (H1 : Heap), va_P D vwCl (zws adr cI cL cZ w ++ [(q, zent adr cI cL cZ (fun _ => 0) (kd, n.toNat, []))]) H1 → va_D A (zws adr cI cL cZ w ++ [(q, zent adr cI cL cZ (fun _ => 0) (kd, n.toNat, []))]) → va_S A s.heap H1 locs → W p l e R s m args below meth c H1 locs (w.1.length - kc + 1) (zcs w - ks + n.toNat) Q (F0 m (pc + 2) ls (.ref q :: r.map (ztr adr))) := by
            intro q H1 hP hD hS1
            refine W.cs hn1.symm hn2.symm ?_
            have hk15 : kd < 3 := by cases at1 <;> simp [zkd] at hkd <;> omega
            have := K (fun j => if j = w.1.length then q else adr j) H1 locs ls _ (ha q) rfl (zpush_at hA (sh := (kd, n.toNat, [])) (by show kd < 15; omega) (by show n.toNat < _; omega) (fun j r hj => by cases hj) (fun h => by have : kd < 3 := hk15; have : 3 ≤ kd := h; omega) hP hD hS1 zmem1)
            have e4 : (zR w.1.length :: r).map (ztr (fun j => if j = w.1.length then q else adr j)) = .ref q :: r.map (ztr adr) := by
              rw [List.map_cons, zmap_agree (ha q) (fun v hv => hSo v (List.mem_cons_of_mem _ hv))]
              show Value.ref (if w.1.length = w.1.length then q else _) :: _ = _
              rw [if_pos rfl]
            rw [e4] at this
            exact this
          cases at1 with
          | int =>
            cases hkd
            refine va_newa (atype := .int) (ty := .int) (a0 := (n.toNat, .inl fun _ => Int32.ofInt 0)) (N' := n.toNat) hx hb (hts _ zarr_in.1) rfl hK hA.1 hA.2.1 hS hA0 (fun cA => rfl) hneg (zclamp hnr) (by show n.toNat * 4 ≤ _; omega) (by rw [← hn1]; exact hRc) (by rw [← hn2]; exact hRs) hdg fun q cA H1 hK2 hP hD hS1 => ?_
            have : cA = cI := zcI (k := 0) hK2 rfl (Or.inl rfl)
            subst this
            exact fin q H1 hP hD hS1
          | long =>
            cases hkd
            refine va_newa (atype := .long) (ty := .long) (a0 := (n.toNat, .inr (.inl fun _ => Int64.ofInt 0))) (N' := n.toNat) hx hb (hts _ zarr_in.2.1) rfl hK hA.1 hA.2.1 hS hA0 (fun cA => rfl) hneg (zclamp hnr) (by show n.toNat * 8 ≤ _; omega) (by rw [← hn1]; exact hRc) (by rw [← hn2]; exact hRs) hdg fun q cA H1 hK2 hP hD hS1 => ?_
            have : cA = cL := zcI (k := 1) hK2 rfl (Or.inr (Or.inl rfl))
            subst this
            exact fin q H1 hP hD hS1
          | boolean =>
            cases hkd
            refine va_newa (atype := .boolean) (ty := .boolean) (a0 := (n.toNat, .inl fun _ => Int32.ofInt 0)) (N' := n.toNat) hx hb (hts _ zarr_in.2.2) rfl hK hA.1 hA.2.1 hS hA0 (fun cA => rfl) hneg (zclamp hnr) (by show n.toNat * 1 ≤ _; omega) (by rw [← hn1]; exact hRc) (by rw [← hn2]; exact hRs) hdg fun q cA H1 hK2 hP hD hS1 => ?_
            have : cA = cZ := zcI (k := 2) hK2 rfl (Or.inr (Or.inr rfl))
            subst this
            exact fin q H1 hP hD hS1
          | _ => cases hkd
        · cases hn
      · cases hn
    · cases hn
  | invokespecial ix =>
    simp only [zokE, Bool.and_eq_true, decide_eq_true_eq, Bool.or_eq_true] at hok
    obtain ⟨rfl, ⟨h1, h3⟩ | ⟨h1, -⟩⟩ := hok
    · obtain ⟨q, hq, hq2⟩ := zany3 h3
      simp only [Bool.and_eq_true, beq_iff_eq] at hq2
      obtain ⟨q1, q2⟩ := hq2
      have hw := zTW_of (List.mem_of_getElem? (zOT_ok q hq)) rfl
      rw [q1, q2] at hw
      simp only [znxt, h1] at hn
      split at hn
      · next k r =>
        split at hn
        · next hc8 =>
          cases hn
          refine W.objInit (g := F0 m pc ls (Value.ref (adr k) :: st'.map (ztr adr))) hx hb hown (hts _ hw) (hts _ zobj_in.1) (hts _ zobj_in.2) rfl (by rw [hml]; exact hA.2.2.2.2.2.2.1.1) rfl hdg hRf ?_ ?_
          · have := lv_room (m := m) (pc := pc) (ls := ls) (rest := Value.ref (adr k) :: st'.map (ztr adr)) (st := st'.map (ztr adr)) (by rw [zcats_tr]; exact hc8)
            omega
          · exact zKs hA K (fun u hu => hSo u (List.mem_cons_of_mem _ hu)) rfl
        · cases hn
      · cases hn
    · simp only [znxt, h1] at hn
      cases hn
  | invokestatic ix =>
    simp only [zokE, Bool.and_eq_true, decide_eq_true_eq, Bool.or_eq_true] at hok
    obtain ⟨rfl, ((((⟨h1, h3⟩ | ⟨h1, h3⟩) | ⟨h1, h3⟩) | ⟨h1, h3⟩) | ⟨h1, -⟩)⟩ := hok
    · obtain ⟨q, hq, hq2⟩ := zany3 h3
      simp only [Bool.and_eq_true, beq_iff_eq] at hq2
      obtain ⟨q1, q2, q3⟩ := hq2
      have hw := zTW_of (List.mem_of_getElem? (zMT_ok q hq)) rfl
      rw [q1, q2, q3] at hw
      simp only [znxt, h1] at hn
      split at hn
      · next hc =>
        obtain ⟨rfl, rfl, rfl, ho⟩ := zfall_inv hn
        obtain ⟨y, x, r, v, rfl, hv, rfl⟩ := zii_inv ho
        cases hv
        have hyy := hSo (zI y) List.mem_cons_self
        have hxx := hSo (zI x) (List.mem_cons_of_mem _ List.mem_cons_self)
        have hcr : zcats r ≤ 12 := by
          have : zcats (zI y :: zI x :: r) = zcat (zI y) + (zcat (zI x) + zcats r) := by simp [zcats]
          omega
        refine va_mmax hx hb (by rw [hml]; exact hA.2.2.2.2.2.2.1.1.symm) hown (hts _ hw) (hts _ zmath_in.2.1) (hts _ zmath_in.1) (hts _ zmath_in.2.2.2.2.1) hRf (by rw [zcats_tr]; omega) (by omega) (by omega) hdg ?_
        refine zKi hA K ?_ ?_ zmem2
        · by_cases hxy : x < y
          · rw [if_pos hxy, if_pos ((zltI hxx hyy).mpr hxy)]
          · rw [if_neg hxy, if_neg (fun z => hxy ((zltI hxx hyy).mp z))]
        · split
          · exact hyy
          · exact hxx
      · cases hn
    · obtain ⟨q, hq, hq2⟩ := zany3 h3
      simp only [Bool.and_eq_true, beq_iff_eq] at hq2
      obtain ⟨q1, q2, q3⟩ := hq2
      have hw := zTW_of (List.mem_of_getElem? (zMT_ok q hq)) rfl
      rw [q1, q2, q3] at hw
      simp only [znxt, h1] at hn
      split at hn
      · next hc =>
        obtain ⟨rfl, rfl, rfl, ho⟩ := zfall_inv hn
        obtain ⟨y, x, r, v, rfl, hv, rfl⟩ := zii_inv ho
        cases hv
        have hyy := hSo (zI y) List.mem_cons_self
        have hxx := hSo (zI x) (List.mem_cons_of_mem _ List.mem_cons_self)
        have hcr : zcats r ≤ 12 := by
          have : zcats (zI y :: zI x :: r) = zcat (zI y) + (zcat (zI x) + zcats r) := by simp [zcats]
          omega
        refine va_mmin hx hb (by rw [hml]; exact hA.2.2.2.2.2.2.1.1.symm) hown (hts _ hw) (hts _ zmath_in.2.2.1) (hts _ zmath_in.1) (hts _ zmath_in.2.2.2.2.2.1) hRf (by rw [zcats_tr]; omega) (by omega) (by omega) hdg ?_
        refine zKi hA K ?_ ?_ zmem2
        · by_cases hxy : y < x
          · rw [if_pos hxy, if_pos ((zltI hyy hxx).mpr hxy)]
          · rw [if_neg hxy, if_neg (fun z => hxy ((zltI hyy hxx).mp z))]
        · split
          · exact hyy
          · exact hxx
      · cases hn
    · obtain ⟨q, hq, hq2⟩ := zany3 h3
      simp only [Bool.and_eq_true, beq_iff_eq] at hq2
      obtain ⟨q1, q2, q3⟩ := hq2
      have hw := zTW_of (List.mem_of_getElem? (zMT_ok q hq)) rfl
      rw [q1, q2, q3] at hw
      simp only [znxt, h1] at hn
      split at hn
      · next hc =>
        obtain ⟨rfl, rfl, rfl, ho⟩ := zfall_inv hn
        obtain ⟨y, x, r, v, rfl, hv, rfl⟩ := zll_inv ho
        cases hv
        have hyy := hSo (zL y) List.mem_cons_self
        have hxx := hSo (zL x) (List.mem_cons_of_mem _ List.mem_cons_self)
        have hcr : zcats r ≤ 12 := by
          have : zcats (zL y :: zL x :: r) = zcat (zL y) + (zcat (zL x) + zcats r) := by simp [zcats]
          omega
        refine va_mmin_long hx hb (by rw [hml]; exact hA.2.2.2.2.2.2.1.1.symm) hown (hts _ hw) (hts _ zmath_in.2.2.2.1) (hts _ zmath_in.1) (hts _ zmath_in.2.2.2.2.2.2) hRf (by rw [zcats_tr]; omega) (by omega) (by omega) hdg ?_
        refine zKl hA K ?_ ?_ zmem2
        · by_cases hxy : y < x
          · rw [if_pos hxy, if_pos ((zltL hyy hxx).mpr hxy)]
          · rw [if_neg hxy, if_neg (fun z => hxy ((zltL hyy hxx).mp z))]
        · split
          · exact hyy
          · exact hxx
      · cases hn
    · obtain ⟨q, hq, hq2⟩ := zany3 h3
      simp only [Bool.and_eq_true, beq_iff_eq] at hq2
      obtain ⟨q1, q2⟩ := hq2
      have hw := zTW_of (List.mem_of_getElem? (zAT_ok q hq)) rfl
      rw [q1, q2] at hw
      simp only [znxt, h1] at hn
      split at hn
      · next n j b i a r =>
        split at hn
        · next na nb hna hnb =>
          split at hn
          · next hc =>
            obtain ⟨c1, c2, c3, c4, c5, c6, c7, c8⟩ := hc
            cases hn
            obtain ⟨ra, ga⟩ := zlen_inv hna
            obtain ⟨rb, gb⟩ := zlen_inv hnb
            have hnn : zin32 n := hSo (zI n) List.mem_cons_self
            have hjj : zin32 j := hSo (zI j) (List.mem_cons_of_mem _ List.mem_cons_self)
            have hii : zin32 i := hSo (zI i) (List.mem_cons_of_mem _ (List.mem_cons_of_mem _ (List.mem_cons_of_mem _ List.mem_cons_self)))
            have hea := zws_at (adr := adr) (cI := cI) (cL := cL) (cZ := cZ) c6 ga
            have heb := zws_at (adr := adr) (cI := cI) (cL := cL) (cZ := cZ) c7 gb
            have neg : ∀ {x : Int}, zin32 x → 0 ≤ x → ¬ Int32.ofInt x < 0 := fun h h0 z => by have := (zltI h zin0).mp z; omega
            refine va_copyi hx hb (by rw [hml]; exact hA.2.2.2.2.2.2.1.1.symm) hown (hts _ hw) (hts _ (zTW_of zcopy_in.1 rfl)) (hts _ (zTW_of zcopy_in.2.1 rfl)) (hts _ (zTW_of zcopy_in.2.2 rfl)) hK hA.1 hA.2.1 hS (a - 2) (b - 2) 0 0 hea heb rfl rfl rfl (neg hii c2) (neg hjj c3) (neg hnn c1) (by rw [zclamp hii, zclamp hnn]; show i.toNat + n.toNat ≤ na; omega) (by rw [zclamp hjj, zclamp hnn]; show j.toNat + n.toNat ≤ nb; omega) (fun _ _ => rfl) hRf ?_ hdg fun H1 locs1 hP hD hS1 => ?_
            · rw [zcats_tr]
              have : nativeFrameWords "java/lang/System" "arraycopy" 5 = 7 := by decide
              omega
            · rw [zclamp hii, zclamp hjj, zclamp hnn] at hP hD
              have e0 : (fun x : Nat => Int32.ofInt (zcpy w.2 a i b j n b x)) = va_cpy (fun x : Nat => Int32.ofInt (w.2 a x)) (fun x : Nat => Int32.ofInt (w.2 b x)) i.toNat j.toNat n.toNat := by
                funext x
                unfold va_cpy zcpy
                by_cases hx2 : j.toNat ≤ x ∧ x < j.toNat + n.toNat
                · rw [if_pos hx2, if_pos ⟨rfl, by omega, by omega⟩]
                  have h6 : i + ((x : Int) - j) = ((i.toNat + (x - j.toNat) : Nat) : Int) := by omega
                  rw [h6]
                · rw [if_neg hx2, if_neg (fun z => hx2 (by omega))]
              rw [← e0] at hP hD
              have e1 := zws_up (adr := adr) (cI := cI) (cL := cL) (cZ := cZ) c7 gb (zcpy w.2 a i b j n b) (zcpy w.2 a i b j n) (fun j' hj' => by funext y; simp [zcpy, hj']) rfl
              refine K adr H1 locs1 ls _ (fun _ _ => rfl) rfl ⟨by rw [e1]; exact hP, by rw [e1]; exact hD, zInv_cpy hI ga gb c7, hA.2.2.2.1, hA.2.2.2.2.1, hS1, hA.2.2.2.2.2.2.1, hA.2.2.2.2.2.2.2.1, fun u hu => hSo u (by simp [hu])⟩
          · cases hn
        · cases hn
      · cases hn
    · simp only [znxt, h1] at hn
      cases hn
  | _ => exact absurd hi (by simp)
/-- any instruction that neither calls nor returns -/
theorem zstep (hC : zCtx p s m args meth c D cI cL cZ A t0 t1 n0 n1 f0 f1 mi) (i : Instr) : zSt p l e R s m args below meth c Q D cI cL cZ A t0 t1 n0 n1 f0 f1 mi kc ks i := by
  cases i with
  | iconst _ | bipush _ | sipush _ | lconst _ | ldc _ | ldc_w _ | ldc2_w _ => exact zs_const hC _ trivial
  | iload_n _ | iload _ | lload_n _ | lload _ | aload_n _ | aload _ | istore_n _ | istore _ | lstore_n _ | lstore _ | astore_n _ | astore _ | iinc _ _ => exact zs_locals hC _ trivial
  | iadd | isub | imul | iand | ior | ixor | ishl | ishr | iushr | idiv | irem => exact zs_ints hC _ trivial
  | ladd | lsub | lmul | land | lor | ldiv | lrem | lshl | lshr | lcmp => exact zs_longs hC _ trivial
  | i2l | i2b | l2i | dup | dup2 | pop => exact zs_stack hC _ trivial
  | ifCond _ _ | if_icmp _ _ | goto _ | tableswitch _ _ _ _ | lookupswitch _ _ => exact zs_jumps hC _ trivial
  | getfield _ | getstatic _ | putfield _ => exact zs_fields hC _ trivial
  | iaload | laload | baload | arraylength => exact zs_rows hC _ trivial
  | iastore | lastore | bastore => exact zs_stores hC _ trivial
  | new _ | newarray _ | invokespecial _ | invokestatic _ => exact zs_new hC _ trivial
  | invokevirtual _ =>
    intro pc len en L st w tgt L' st' w' adr H locs ls hdg hok hn
    simp only [zokE, Bool.and_eq_true, decide_eq_true_eq] at hok
    simp only [znxt, hok.2.1] at hn
    cases hn
  | ireturn =>
    intro pc len en L st w tgt L' st' w' adr H locs ls hdg hok hn
    simp only [zokE, Bool.and_eq_true, decide_eq_true_eq] at hok
    obtain ⟨rfl, rfl⟩ := hok
    cases hn
  | lreturn =>
    intro pc len en L st w tgt L' st' w' adr H locs ls hdg hok hn
    simp only [zokE, Bool.and_eq_true, decide_eq_true_eq] at hok
    obtain ⟨rfl, rfl⟩ := hok
    cases hn
  | return_ =>
    intro pc len en L st w tgt L' st' w' adr H locs ls hdg hok hn
    simp only [zokE, Bool.and_eq_true, decide_eq_true_eq] at hok
    obtain ⟨rfl, rfl⟩ := hok
    cases hn
  | _ =>
    intro pc len en L st w tgt L' st' w' adr H locs ls hdg hok hn
    cases hok
end ZS
end
section
/-! what the small machine computes, the JVM computes: tables, calls -/
def zvk (mi : Nat) : Bool := zVK.getD mi false
def zmp (mi : Nat) : Nat × Nat × Nat × Nat := zMP.getD mi (0, 0, 0, 0)
/-- how many methods there are beside the law -/
abbrev zNM : Nat := 264
/-- the tables have a method's own words -/
def zPm (mi : Nat) : Prop := lw_tbl[(zmp mi).1]? = some (.code (zmN mi) (zmC mi) (zmL mi) (zmR mi)) ∧ lw_tbl[(zmp mi).2.1]? = some (.initialized (zmN mi).cls) ∧ (zvk mi = true → lw_tbl[(zmp mi).2.2.2]? = some (.selects (zmN mi).cls (zmN mi) (zmN mi)) ∧ zmO mi < 12) ∧ lw_tbl[(zmp mi).2.2.1]? = some (if zmS mi = true then .static (zmN mi) else .instanceMethod (zmN mi)) ∧
  (parseMethodDescriptor (zmN mi).desc).map (fun d => d.parameters.length) = some (zmA mi) ∧ (zmN mi).cls = zcn (zmO mi) ∧ zmL mi ≤ 12 ∧ (zmI mi = true → (zmN mi).name = "<init>") ∧ zmO mi < 15 ∧ zmO mi ≠ 13
/-- the tables have a call's link -/
def zPc (q : Nat × Nat × Nat × Nat × Nat × Nat) : Prop := q.2.2.1 < zNM ∧ (if q.2.2.2.2.1 = 0 then tables_1[q.2.2.2.2.2]? = some (.methodLink (zcn q.1) q.2.1 (zmN q.2.2.1)) else tables_1[q.2.2.2.2.2]? = some (.methodLinkNest (zcn q.1) q.2.1 (zmN q.2.2.1) "ForceNet")) ∧
  (q.2.2.2.1 = 0 → q.2.2.2.2.1 = 0 ∧ zvk q.2.2.1 = true ∧ zmS q.2.2.1 = false) ∧ (q.2.2.2.1 = 1 → zmS q.2.2.1 = true) ∧ (q.2.2.2.1 = 2 → zmS q.2.2.1 = false ∧ zmR q.2.2.1 = none ∧ zmI q.2.2.1 = true)
theorem zcn_ok : ∀ o, o < 15 → o ≠ 13 → zcn o ≠ "java/lang/invoke/MethodHandle" ∧ zcn o ≠ "java/lang/invoke/VarHandle" ∧ plainName (zcn o) = true ∧ (o < 12 → (zcl o).1 = zcn o) := by decide +kernel
theorem zTW_lw {w : Cond} {k : Nat} (h : lw_tbl[k]? = some w) (hg : goodWord w = true) : w ∈ zTW := List.mem_filter.mpr ⟨List.mem_of_getElem? h, hg⟩
theorem zNW_nest {x : Cond} (h : x ∈ zNW) : ∃ a i y b, x = .methodLinkNest a i y b := by
  have h2 := (List.mem_filter.mp h).2
  cases x <;> simp [zNestW] at h2
  exact ⟨_, _, _, _, rfl⟩
theorem zNW_warm {s U : State} (hW : s.WarmedH U.vm) (h : ∀ x ∈ zNW, va_Nw x s) : ∀ x ∈ zNW, va_Nw x U := by
  intro x hx
  obtain ⟨a, i, y, b, rfl⟩ := zNW_nest hx
  exact va_Nw.warmM hW (h _ hx)
theorem zNW_same {u U : State} (hv : u.vm = U.vm) (h : ∀ x ∈ zNW, va_Nw x u) : ∀ x ∈ zNW, va_Nw x U := by
  intro x hx
  obtain ⟨a, i, y, b, rfl⟩ := zNW_nest hx
  exact va_Nw.same rfl hv (h _ hx)
theorem zblk_chk {mi b t : Nat} (ha : zall mi = true) (h : zstart mi b = some t) : zchk mi t (zblk mi b) = true := by
  unfold zstart at h
  unfold zblk
  cases hb : (zBk mi)[b]? with
  | none => rw [hb] at h; cases h
  | some q =>
    rw [hb] at h
    cases h
    rw [List.getD_eq_getElem?_getD, hb]
    exact List.all_eq_true.mp ha q (List.mem_of_getElem? hb)
theorem znxt_mono {e : zEnt} {L st L' st' : List zMV} {w w' : zWd} {tgt : Option Nat} (h : znxt e L st w = some (tgt, L', st', w')) : w.1.length ≤ w'.1.length ∧ zcs w ≤ zcs w' := by
  have same : ∀ {x : zWd}, x = w → w.1.length ≤ x.1.length ∧ zcs w ≤ zcs x := fun h => by subst h; exact ⟨Nat.le_refl _, Nat.le_refl _⟩
  have put : ∀ {k kd : Nat} {i v : Int} {r : List zMV} {o : Option zWd}, o = zaput w k kd i v → (o.map fun w' => ((none : Option Nat), L, r, w')) = some (tgt, L', st', w') → w.1.length ≤ w'.1.length ∧ zcs w ≤ zcs w' := by
    intro k kd i v r o ho hm
    cases hz : zaput w k kd i v with
    | none => rw [ho, hz] at hm; cases hm
    | some w2 =>
      rw [ho, hz] at hm
      cases hm
      obtain ⟨n, rs, -, -, -, -, rfl⟩ := zaput_inv hz
      exact ⟨Nat.le_refl _, Nat.le_refl _⟩
  have push : ∀ {sh : zSh}, w.1.length ≤ (w.1 ++ [sh], zzero w.2 w.1.length).1.length ∧ zcs w ≤ zcs (w.1 ++ [sh], zzero w.2 w.1.length) := fun {sh} => ⟨by simp, by
    have : zcs (w.1 ++ [sh], zzero w.2 w.1.length) = zcs w + sh.2.1 := zcs_push w.1 sh
    omega⟩
  unfold znxt at h
  split at h
  all_goals first
    | (obtain ⟨-, -, rfl, -⟩ := zfall_inv h; exact same rfl)
    | (cases h; exact same rfl)
    | (cases h; exact push)
    | (split at h <;> first
      | (obtain ⟨-, -, rfl, -⟩ := zfall_inv h; exact same rfl)
      | (cases h; exact same rfl)
      | (exact put rfl h)
      | (cases h; done)
      | (split at h <;> first
        | (obtain ⟨-, -, rfl, -⟩ := zfall_inv h; exact same rfl)
        | (cases h; exact same rfl)
        | (exact put rfl h)
        | (cases h; done)
        | (split at h <;> first
          | (cases h; exact push)
          | (cases h; exact same rfl)
          | (cases h; exact ⟨Nat.le_refl _, Nat.le_refl _⟩)
          | (cases h; done)))
      | skip)
    | skip
  · rename_i v k r
    cases hz : zputf w k e.2.1 e.2.2 v with
    | none => rw [hz] at h; cases h
    | some w2 =>
      rw [hz] at h
      cases h
      obtain ⟨n, rs, g1, -, -, ⟨x, -, -, rfl⟩ | ⟨x, -, -, rfl⟩ | ⟨x, -, -, rfl⟩⟩ := zputf_inv hz
      · exact ⟨Nat.le_refl _, Nat.le_refl _⟩
      · exact ⟨Nat.le_refl _, Nat.le_refl _⟩
      · exact ⟨by simp, by
          have : zcs (w.1.set k (3 + e.2.1, n, rs.set e.2.2 (some x)), w.2) = zcs w := zcs_set g1 rfl
          omega⟩
  · cases h
def zisC (i : Instr) : Bool := match i with
  | .invokevirtual _ => true
  | .invokestatic _ => true
  | .return_ => true
  | .ireturn => true
  | .lreturn => true
  | _ => false
theorem zrun_nx {rc : zRn} {d mi : Nat} {e : zEnt} {es : List zEnt} {L st : List zMV} {w : zWd} (h : zisC e.1 = false) : zbody rc d mi e es L st w = match znxt e L st w with
    | some (none, L', st', w') => rc d mi es L' st' w'
    | some (some b, L', st', w') => rc d mi (zblk mi b) L' st' w'
    | none => none := by
  unfold zbody
  split
  all_goals first
    | (next he => rw [he] at h; cases h)
    | rfl
/-- the ends and the calls -/
theorem zbody_C {rc : zRn} {d mi : Nat} {e : zEnt} {es : List zEnt} {L st : List zMV} {w : zWd} {x : Option zMV × zWd} (hc : ¬ zisC e.1 = false) (h : zbody rc d mi e es L st w = some x) :
    ((e.1 = .return_ ∨ e.1 = .ireturn ∨ e.1 = .lreturn) ∧ x.2 = w ∧ zrok (zmR mi) e.1 st = some x.1) ∨
    ((∃ k, e.1 = .invokevirtual k) ∧ (st.take (zmA e.2.1 + 1)).length = zmA e.2.1 + 1 ∧ zrecv w e.2.1 (st.take (zmA e.2.1 + 1)).reverse = true ∧ zcall rc d mi e.2.1 es L (st.take (zmA e.2.1 + 1)).reverse (st.drop (zmA e.2.1 + 1)) w = some x) ∨
    ((∃ k, e.1 = .invokestatic k) ∧ (st.take (zmA e.2.1)).length = zmA e.2.1 ∧ zcall rc d mi e.2.1 es L (st.take (zmA e.2.1)).reverse (st.drop (zmA e.2.1)) w = some x) := by
  have ret : ∀ {o : Option (Option zMV)}, o.map (·, w) = some x → x.2 = w ∧ o = some x.1 := by
    intro o ho
    cases o with
    | none => cases ho
    | some v => cases ho; exact ⟨rfl, rfl⟩
  unfold zbody at h
  split at h
  · next k he =>
    split at h
    · next hq => exact Or.inr (Or.inl ⟨⟨k, he⟩, hq.1, hq.2, h⟩)
    · cases h
  · next k he =>
    split at h
    · next hq => exact Or.inr (Or.inr ⟨⟨k, he⟩, hq, h⟩)
    · cases h
  · next he => exact Or.inl ⟨Or.inl he, (ret h).1, by rw [he]; exact (ret h).2⟩
  · next he => exact Or.inl ⟨Or.inr (Or.inl he), (ret h).1, by rw [he]; exact (ret h).2⟩
  · next he => exact Or.inl ⟨Or.inr (Or.inr he), (ret h).1, by rw [he]; exact (ret h).2⟩
  · next h1 h2 h3 h4 h5 =>
    refine absurd ?_ hc
    cases he : e.1 <;> first
      | rfl
      | exact absurd he (h1 _)
      | exact absurd he (h2 _)
      | exact absurd he h3
      | exact absurd he h4
      | exact absurd he h5
theorem zcall_inv {rc : zRn} {d mi m2 : Nat} {es : List zEnt} {L vs r : List zMV} {w : zWd} {x : Option zMV × zWd} (h : zcall rc d mi m2 es L vs r w = some x) : ∃ d' v w', d = d' + 1 ∧ zcats r ≤ 8 ∧ (zspread vs).length ≤ zmL m2 ∧ rc d' m2 (zblk m2 0) (zlocs vs (zmL m2)) [] w = some (v, w') ∧ rc (d' + 1) mi es L (v.toList ++ r) w' = some x := by
  cases d with
  | zero => cases h
  | succ d' =>
    simp only [zcall] at h
    split at h
    · next hc =>
      split at h
      · next v w' hr => exact ⟨d', v, w', rfl, hc.1, hc.2, hr, h⟩
      · cases h
    · cases h
theorem zrun_mono : ∀ (n d mi : Nat) (es : List zEnt) (L st : List zMV) (w : zWd) (r : Option zMV) (w1 : zWd), zrun n d mi es L st w = some (r, w1) → w.1.length ≤ w1.1.length ∧ zcs w ≤ zcs w1
  | 0, _, _, _, _, _, _, _, _, h => by cases h
  | _ + 1, _, _, [], _, _, _, _, _, h => by cases h
  | n + 1, d, mi, e :: es, L, st, w, r, w1, h => by
    rw [zrun_eq] at h
    by_cases hc : zisC e.1 = false
    · rw [zrun_nx hc] at h
      split at h
      · next hn =>
        have h1 := znxt_mono hn
        have h2 := zrun_mono n d mi _ _ _ _ _ _ h
        omega
      · next hn =>
        have h1 := znxt_mono hn
        have h2 := zrun_mono n d mi _ _ _ _ _ _ h
        omega
      · cases h
    · have call : ∀ {m2 : Nat} {vs rest : List zMV}, zcall (zrun n) d mi m2 es L vs rest w = some (r, w1) → w.1.length ≤ w1.1.length ∧ zcs w ≤ zcs w1 := by
        intro m2 vs rest hm
        obtain ⟨d', v, w2, rfl, -, -, h1, h2⟩ := zcall_inv hm
        have h3 := zrun_mono n d' m2 _ _ _ _ _ _ h1
        have h4 := zrun_mono n (d' + 1) mi _ _ _ _ _ _ h2
        omega
      rcases zbody_C hc h with ⟨-, h2, -⟩ | ⟨-, -, -, h2⟩ | ⟨-, -, h2⟩
      · dsimp only at h2
        subst h2
        exact ⟨Nat.le_refl _, Nat.le_refl _⟩
      · exact call h2
      · exact call h2
end
section
/-! what the small machine computes, the JVM computes -/
theorem zsl_len (adr : Nat → Nat) (vs : List zMV) : (lg_sl (vs.map (ztr adr))).length = (zspread vs).length := by
  induction vs with
  | nil => rfl
  | cons v vs ih =>
    have e1 : lg_sl ((v :: vs).map (ztr adr)) = (if (ztr adr v).category = 2 then [.val (ztr adr v), .second] else [.val (ztr adr v)]) ++ lg_sl (vs.map (ztr adr)) := by simp [lg_sl]
    rw [e1, List.length_append, ih]
    match v with
    | .inl x => simp [ztr, Value.category, zspread]; omega
    | .inr (.inl x) => simp [ztr, Value.category, zspread]; omega
    | .inr (.inr (some k)) => simp [ztr, Value.category, zspread]; omega
    | .inr (.inr none) => simp [ztr, Value.category, zspread]; omega
theorem zargs_mem (adr : Nat → Nat) : ∀ (vs : List zMV) (i j : Nat) (v : zMV), (zspread vs)[j]? = some v → v ≠ zU → (i + j, ztr adr v) ∈ lv_args i (vs.map (ztr adr))
  | [], _, _, _, h, _ => by simp [zspread] at h
  | u :: vs, i, j, v, h, hv => by
    show _ ∈ (i, ztr adr u) :: lv_args (if (ztr adr u).category = 2 then i + 2 else i + 1) (vs.map (ztr adr))
    rw [zcat_tr]
    match u with
    | .inl x =>
      cases j with
      | zero => cases h; exact List.mem_cons_self
      | succ j =>
        have := zargs_mem adr vs (i + 1) j v h hv
        rw [show i + (j + 1) = i + 1 + j by omega]
        exact List.mem_cons_of_mem _ this
    | .inr (.inl x) =>
      match j with
      | 0 => cases h; exact List.mem_cons_self
      | 1 => cases h; exact absurd rfl hv
      | j + 2 =>
        have := zargs_mem adr vs (i + 2) j v h hv
        rw [show i + (j + 2) = i + 2 + j by omega]
        exact List.mem_cons_of_mem _ this
    | .inr (.inr (some k)) =>
      cases j with
      | zero => cases h; exact List.mem_cons_self
      | succ j =>
        have := zargs_mem adr vs (i + 1) j v h hv
        rw [show i + (j + 1) = i + 1 + j by omega]
        exact List.mem_cons_of_mem _ this
    | .inr (.inr none) =>
      cases j with
      | zero => cases h; exact List.mem_cons_self
      | succ j =>
        have := zargs_mem adr vs (i + 1) j v h hv
        rw [show i + (j + 1) = i + 1 + j by omega]
        exact List.mem_cons_of_mem _ this
theorem zlocs_len {vs : List zMV} {n : Nat} (h : (zspread vs).length ≤ n) : (zlocs vs n).length = n := by simp [zlocs]; omega
theorem zlocs_get {vs : List zMV} {n j : Nat} {v : zMV} (h : (zlocs vs n)[j]? = some v) (hv : v ≠ zU) : (zspread vs)[j]? = some v := by
  unfold zlocs at h
  by_cases hj : j < (zspread vs).length
  · rw [List.getElem?_append_left hj] at h; exact h
  · rw [List.getElem?_append_right (by omega), List.getElem?_replicate] at h
    split at h
    · cases h; exact absurd rfl hv
    · cases h
theorem zentry (adr : Nat → Nat) {vs : List zMV} {n : Nat} (h : (zspread vs).length ≤ n) : zlv adr ((lg_sl (vs.map (ztr adr)) ++ List.replicate (n - (lg_sl (vs.map (ztr adr))).length) Slot.unset).toArray) n (zlocs vs n) := by
  have he := lv_entry (vs.map (ztr adr)) (n := n) (by rw [zsl_len]; exact h)
  refine ⟨he.1, he.2.1, zlocs_len h, fun j v hj hv => ?_⟩
  have := zargs_mem adr vs 0 j v (zlocs_get hj hv) hv
  rw [Nat.zero_add] at this
  exact he.2.2 (j, ztr adr v) this
theorem zspread_ok {n : Nat} : ∀ {vs : List zMV}, (∀ v ∈ vs, zokv n v) → ∀ v ∈ zspread vs, zokv n v
  | [], _, _, h => by simp [zspread] at h
  | u :: vs, hu, v, h => by
    have ih := zspread_ok (vs := vs) (fun v hv => hu v (List.mem_cons_of_mem _ hv))
    have h0 := hu u List.mem_cons_self
    match u, h0, h with
    | .inl x, h0, h =>
      rcases List.mem_cons.mp (show v ∈ zI x :: zspread vs from h) with rfl | h
      · exact h0
      · exact ih v h
    | .inr (.inl x), h0, h =>
      rcases List.mem_cons.mp (show v ∈ zL x :: zU :: zspread vs from h) with rfl | h
      · exact h0
      · rcases List.mem_cons.mp h with rfl | h
        · exact trivial
        · exact ih v h
    | .inr (.inr (some k)), h0, h =>
      rcases List.mem_cons.mp (show v ∈ zR k :: zspread vs from h) with rfl | h
      · exact h0
      · exact ih v h
    | .inr (.inr none), h0, h =>
      rcases List.mem_cons.mp (show v ∈ zU :: zspread vs from h) with rfl | h
      · exact trivial
      · exact ih v h
theorem zlocs_ok {n k : Nat} {vs : List zMV} (h : ∀ v ∈ vs, zokv n v) : ∀ v ∈ zlocs vs k, zokv n v := by
  intro v hv
  rcases List.mem_append.mp hv with h1 | h1
  · exact zspread_ok h v h1
  · rw [(List.mem_replicate.mp h1).2]; exact trivial
/-- behind a call -/
theorem zcallW {p : Program} {l : Launch} {e : Env} {R : Room} {s : State} {m : MethodId} {args : Array Value} {below : List Frame} {meth : Method} {c : Code} {H H0 : Heap} {locs : List Loc} {cells slots mc ms : Nat} {Q : State → Prop} {pc : Nat} {ls : Array Slot} {st0 rest : List Value} {Qa : State → Outcome → State → Prop} {free A0 A1 : Nat → Prop}
    (hr : va_Run p l e R s m args below meth c H locs cells slots mc ms (F0 m pc ls st0) rest Qa free) (hS : va_S A0 H0 H locs) (hA : ∀ q, q < H.size → A1 q → A0 q) (hf : ∀ q, free q → A0 q) (hF : ∀ (st t : State) (v : Option Value), Qa st (.returned v) t → va_F A1 st t)
    (kk : ∀ (v : Option Value) (st t : State) (locs1 : List Loc), st.heap = H → Qa st (.returned v) t → va_S A0 H0 t.heap locs1 → W p l e R s m args below meth c t.heap locs1 (cells + mc) (slots + ms) Q (F0 m (pc + 3) ls (v.toList ++ rest))) : W p l e R s m args below meth c H locs cells slots Q (F0 m pc ls st0) := by
  intro T hT X
  obtain ⟨v, st₀, t, T', L, h0, X', hL, e1, e2, hq, st⟩ := hr T hT X
  obtain ⟨hz, hk⟩ := hF st₀ t v hq
  rw [h0] at hz hk
  obtain ⟨t2, a1, b1⟩ := kk v st₀ t (locs ++ L) h0 hq ⟨Nat.le_trans hS.1 hz, fun q h1 h2 => by rw [hk q (Nat.lt_of_lt_of_le h1 hS.1) (fun z => h2 (hA q (Nat.lt_of_lt_of_le h1 hS.1) z))]; exact hS.2.1 q h1 h2, fun q hq => by
      rcases List.mem_append.mp hq with h | h
      · exact hS.2.2 q h
      · exact hf _ (hL q h)⟩ T' e1 X'
  exact ⟨t2, st t2 a1, b1⟩
/-- what a method finds -/
def zPre (D : va_G) (cI cL cZ : ClassId) (t0 t1 n0 n1 : Nat) (f0 f1 : Int → Int) (adr : Nat → Nat) (w : zWd) (vs : List zMV) (sz : Nat) : Array Value → State → Prop := va_Pc (vs.map (ztr adr)) fun U =>
  U.heap.size = sz ∧ va_P D vwCl (zws adr cI cL cZ w) U.heap ∧ va_D (fun _ => True) (zws adr cI cL cZ w) ∧ va_K D vwCl [(cI, .int), (cL, .long), (cZ, .boolean)] U ∧ (∀ x ∈ zNW, va_Nw x U) ∧ va_T .int t0 n0 (fun j => .int (Int32.ofInt (f0 j))) (va_A (zws adr cI cL cZ w) sz) U U.heap ∧ va_T .int t1 n1 (fun j => .int (Int32.ofInt (f1 j))) (va_A (zws adr cI cL cZ w) sz) U U.heap ∧ va_Z RX3 "HELPERS" "[I" (.ref t1) (va_A (zws adr cI cL cZ w) sz) U U.heap
/-- what it leaves -/
def zQc (D : va_G) (cI cL cZ : ClassId) (t0 t1 n0 n1 : Nat) (f0 f1 : Int → Int) (adr : Nat → Nat) (w : zWd) (r : Option zMV) (w1 : zWd) (sz : Nat) : Array Value → State → Outcome → State → Prop := fun _ st o t =>
  (∃ adr' : Nat → Nat, (∀ k, k < w.1.length → adr' k = adr k) ∧ o = .returned (r.map (ztr adr')) ∧ va_P D vwCl (zws adr' cI cL cZ w1) t.heap ∧ va_D (va_A (zws adr cI cL cZ w) sz) (zws adr' cI cL cZ w1) ∧ zInv n0 n1 f0 f1 w1 ∧ adr' 0 = t0 ∧ adr' 1 = t1 ∧ ∀ v, r = some v → zokv w1.1.length v) ∧ va_F (va_A (zws adr cI cL cZ w) sz) st t
theorem zPre_blind {D : va_G} {cI cL cZ : ClassId} {t0 t1 n0 n1 : Nat} {f0 f1 : Int → Int} {adr : Nat → Nat} {w : zWd} {vs : List zMV} {sz : Nat} : FrameBlind (zPre D cI cL cZ t0 t1 n0 n1 f0 f1 adr w vs sz) := by
  intro a U g mk h
  obtain ⟨h0, h1, h2, h3, h4, h5, h6, h7, h8⟩ := h
  exact ⟨h0, h1, h2, h3, va_K.moved (u := U) (U := U.calling g mk a) (Vm.Alike.refl U.vm) h4, zNW_same (u := U) (U := U.calling g mk a) rfl h5, va_T.moved (u := U) (U := U.calling g mk a) (Vm.Alike.refl U.vm) h6, va_T.moved (u := U) (U := U.calling g mk a) (Vm.Alike.refl U.vm) h7, va_Z.moved (u := U) (U := U.calling g mk a) (Vm.Alike.refl U.vm) h8⟩
theorem zvret {mi : Nat} {i : Instr} {st : List zMV} {r : Option zMV} (h : zrok (zmR mi) i st = some r) : (i = .return_ ∧ zmR mi = none ∧ st = [] ∧ r = none) ∨ (i = .ireturn ∧ zmR mi = some .int ∧ ∃ x, st = [zI x] ∧ r = some (zI x)) ∨ (i = .ireturn ∧ zmR mi = some .boolean ∧ ∃ x, (x = 0 ∨ x = 1) ∧ st = [zI x] ∧ r = some (zI x)) ∨ (i = .lreturn ∧ zmR mi = some .long ∧ ∃ x, st = [zL x] ∧ r = some (zL x)) := by
  unfold zrok at h
  split at h
  · next hr => cases h; exact Or.inl ⟨rfl, hr, rfl, rfl⟩
  · next x hr => cases h; exact Or.inr (Or.inl ⟨rfl, hr, x, rfl, rfl⟩)
  · next x hr =>
    split at h
    · next hx => cases h; exact Or.inr (Or.inr (Or.inl ⟨rfl, hr, x, hx, rfl, rfl⟩))
    · cases h
  · next x hr => cases h; exact Or.inr (Or.inr (Or.inr ⟨rfl, hr, x, rfl, rfl⟩))
  · cases h
theorem zokE_ret {mi pc len : Nat} {i : Instr} {e : zEnt} (h : zokE mi pc i len e = true) (he : e.1 = .return_ ∨ e.1 = .ireturn ∨ e.1 = .lreturn) : e.1 = i ∧ len = 1 := by
  cases i <;> first
    | (simp only [zokE, Bool.and_eq_true, decide_eq_true_eq] at h; obtain ⟨rfl, rfl⟩ := h; exact ⟨rfl, rfl⟩)
    | (exfalso; simp only [zokE, Bool.and_eq_true, decide_eq_true_eq] at h; obtain ⟨rfl, -⟩ := h; rcases he with he | he | he <;> cases he; done)
    | (exfalso; simp only [zokE, Bool.and_eq_true, decide_eq_true_eq] at h; obtain ⟨⟨rfl, -⟩, -⟩ := h; rcases he with he | he | he <;> cases he; done)
    | (exfalso; simp only [zokE, Bool.and_eq_true, Bool.or_eq_true, decide_eq_true_eq] at h; rcases he with he | he | he <;> simp [he] at h; done)
    | (exfalso; simp only [zokE] at h; cases h; done)
    | (exfalso; simp only [zokE] at h; rcases he with he | he | he <;> simp [he] at h; done)
theorem zokE_virt {mi pc len k : Nat} {i : Instr} {e : zEnt} (h : zokE mi pc i len e = true) (he : e.1 = .invokevirtual k) : len = 3 ∧ ∃ ix kd, ((i = .invokevirtual ix ∧ kd = 0) ∨ (i = .invokespecial ix ∧ kd = 2)) ∧ ∃ q ∈ zCT, q.1 = zmO mi ∧ q.2.1 = ix ∧ q.2.2.1 = e.2.1 ∧ q.2.2.2.1 = kd := by
  cases i with
  | invokevirtual ix =>
    simp only [zokE, Bool.and_eq_true, decide_eq_true_eq] at h
    obtain ⟨q, hq, hq2⟩ := zany3 h.2.2
    simp only [Bool.and_eq_true, beq_iff_eq] at hq2
    exact ⟨h.1, ix, 0, Or.inl ⟨rfl, rfl⟩, q, hq, hq2.1, hq2.2.1, hq2.2.2.1, hq2.2.2.2⟩
  | invokespecial ix =>
    simp only [zokE, Bool.and_eq_true, Bool.or_eq_true, decide_eq_true_eq] at h
    obtain ⟨rfl, ⟨h1, -⟩ | ⟨h1, h2⟩⟩ := h
    · rw [he] at h1; cases h1
    · obtain ⟨q, hq, hq2⟩ := zany3 h2
      simp only [Bool.and_eq_true, beq_iff_eq] at hq2
      exact ⟨rfl, ix, 2, Or.inr ⟨rfl, rfl⟩, q, hq, hq2.1, hq2.2.1, hq2.2.2.1, hq2.2.2.2⟩
  | _ =>
    exfalso
    first
      | (simp only [zokE, Bool.and_eq_true, Bool.or_eq_true, decide_eq_true_eq] at h; simp [he] at h; done)
      | (simp only [zokE, Bool.and_eq_true, decide_eq_true_eq] at h; obtain ⟨rfl, -⟩ := h; cases he; done)
      | (simp only [zokE, Bool.and_eq_true, decide_eq_true_eq] at h; obtain ⟨⟨rfl, -⟩, -⟩ := h; cases he; done)
      | (simp only [zokE] at h; cases h; done)
      | (simp only [zokE] at h; simp [he] at h; done)
theorem zokE_stat {mi pc len k : Nat} {i : Instr} {e : zEnt} (h : zokE mi pc i len e = true) (he : e.1 = .invokestatic k) : len = 3 ∧ ∃ ix, i = .invokestatic ix ∧ ∃ q ∈ zCT, q.1 = zmO mi ∧ q.2.1 = ix ∧ q.2.2.1 = e.2.1 ∧ q.2.2.2.1 = 1 := by
  cases i with
  | invokestatic ix =>
    simp only [zokE, Bool.and_eq_true, Bool.or_eq_true, decide_eq_true_eq] at h
    obtain ⟨rfl, ((((⟨h1, -⟩ | ⟨h1, -⟩) | ⟨h1, -⟩) | ⟨h1, -⟩) | ⟨h1, h2⟩)⟩ := h
    · rw [he] at h1; cases h1
    · rw [he] at h1; cases h1
    · rw [he] at h1; cases h1
    · rw [he] at h1; cases h1
    · obtain ⟨q, hq, hq2⟩ := zany3 h2
      simp only [Bool.and_eq_true, beq_iff_eq] at hq2
      exact ⟨rfl, ix, rfl, q, hq, hq2.1, hq2.2.1, hq2.2.2.1, hq2.2.2.2⟩
  | _ =>
    exfalso
    first
      | (simp only [zokE, Bool.and_eq_true, Bool.or_eq_true, decide_eq_true_eq] at h; simp [he] at h; done)
      | (simp only [zokE, Bool.and_eq_true, decide_eq_true_eq] at h; obtain ⟨rfl, -⟩ := h; cases he; done)
      | (simp only [zokE, Bool.and_eq_true, decide_eq_true_eq] at h; obtain ⟨⟨rfl, -⟩, -⟩ := h; cases he; done)
      | (simp only [zokE] at h; cases h; done)
      | (simp only [zokE] at h; simp [he] at h; done)
section ZW
variable {l : Launch}
/-- how a method ends -/
def zFin (p : Program) (l : Launch) (e : Env) (R : Room) (s : State) (m : MethodId) (args : Array Value) (below : List Frame) (meth : Method) (c : Code) (Q : State → Prop) (D : va_G) (cI cL cZ : ClassId) (A : Nat → Prop) (t0 t1 n0 n1 : Nat) (f0 f1 : Int → Int) (mi kc ks : Nat) (adr0 : Nat → Nat) (r : Option zMV) (w1 : zWd) : Prop :=
  ∀ (adr' : Nat → Nat) (H' : Heap) (locs' : List Loc) (ls' : Array Slot) (pc' : Nat) (i : Instr) (L' st' : List zMV), decode (zmC mi) pc' = .ok (i, 1) → zrok (zmR mi) i st' = some r → zAt D cI cL cZ A t0 t1 n0 n1 f0 f1 mi s.heap adr' H' locs' ls' L' st' w1 → (∀ k, k < kc → adr' k = adr0 k) →
    W p l e R s m args below meth c H' locs' (w1.1.length - kc) (zcs w1 - ks) Q (F0 m pc' ls' (st'.map (ztr adr')))
/-- a method at depth d, its result r and its world w1: from any state at es, on to its end -/
def zGood (l : Launch) (n : Nat) : Prop :=
  ∀ (d mi : Nat) (es : List zEnt) (pc : Nat) (L st : List zMV) (w : zWd) (r : Option zMV) (w1 : zWd), zrun n d mi es L st w = some (r, w1) → mi < zNM + 1 → zchk mi pc es = true →
  ∀ (p : Program) (e : Env) (R : Room) (s : State) (m : MethodId) (args : Array Value) (below : List Frame) (meth : Method) (c : Code) (Q : State → Prop) (D : va_G) (cI cL cZ : ClassId) (A : Nat → Prop) (t0 t1 n0 n1 : Nat) (f0 f1 : Int → Int) (kc ks : Nat) (adr0 adr : Nat → Nat) (H : Heap) (locs : List Loc) (ls : Array Slot),
    zCtx p s m args meth c D cI cL cZ A t0 t1 n0 n1 f0 f1 mi → zFin p l e R s m args below meth c Q D cI cL cZ A t0 t1 n0 n1 f0 f1 mi kc ks adr0 r w1 → zAt D cI cL cZ A t0 t1 n0 n1 f0 f1 mi s.heap adr H locs ls L st w → (∀ k, k < kc → adr k = adr0 k) → kc ≤ w.1.length → ks ≤ zcs w → w1.1.length - kc ≤ R.cells → zcs w1 - ks ≤ R.slots → d + 1 ≤ R.frames → 40 * (d + 1) ≤ R.locals →
    W p l e R s m args below meth c H locs (w.1.length - kc) (zcs w - ks) Q (F0 m pc ls (st.map (ztr adr)))
theorem zmet {n : Nat} (hG : zGood l n) (hM : ∀ mi, mi < zNM → zPm mi) (hAll : ∀ mi, mi < zNM + 1 → zall mi = true) (hSt : ∀ mi, mi < zNM + 1 → zstart mi 0 = some 0) {d mi : Nat} (hmi : mi < zNM) {vs : List zMV} {w w1 : zWd} {r : Option zMV} (hrun : zrun n d mi (zblk mi 0) (zlocs vs (zmL mi)) [] w = some (r, w1)) (hsp : (zspread vs).length ≤ zmL mi)
    (D : va_G) (cI cL cZ : ClassId) (t0 t1 n0 n1 : Nat) (f0 f1 : Int → Int) (adr : Nat → Nat) (hI : zInv n0 n1 f0 f1 w) (h0 : adr 0 = t0) (h1 : adr 1 = t1) (hvs : ∀ v ∈ vs, zokv w.1.length v) (sz : Nat) :
    Met l (zmN mi) (.code (zmN mi) (zmC mi) (zmL mi) (zmR mi) :: zTW) { frames := d + 1, cells := w1.1.length - w.1.length, slots := zcs w1 - zcs w, locals := 40 * (d + 1) } (zPre D cI cL cZ t0 t1 n0 n1 f0 f1 adr w vs sz) (zQc D cI cL cZ t0 t1 n0 n1 f0 f1 adr w r w1 sz) (w1.1.length - w.1.length) (zcs w1 - zcs w) (va_A (zws adr cI cL cZ w) sz) := by
  obtain ⟨g1, g2, g3, g4, g5, g6, g7, g8, g9, g10⟩ := hM mi hmi
  obtain ⟨k1, k2, k3, k4⟩ := zcn_ok _ g9 g10
  refine Met.ofW (cc := zmC mi) (maxL := zmL mi) (ret := zmR mi) (by rw [g6]; exact k3) rfl ?_
  intro p e s m args below meth c s₁ B hml hv
  obtain ⟨rfl, hsz, hP, hD0, hK, hnw, hT0, hT1, hZ⟩ := hv
  subst hsz
  have hts := atoms_spec (ws := .code (zmN mi) (zmC mi) (zmL mi) (zmR mi) :: zTW) B.pre
  have hown : s.vm.findClass (zmN mi).cls = some m.cls := findClass_of_methodNamed B.named
  have hnm : meth.name = (zmN mi).name := (name_of_methodNamed B.named B.method).1
  have hD := hD0.self (sz := s.heap.size)
  have hC : zCtx p s m _ meth c D cI cL cZ (va_A (zws adr cI cL cZ w) s.heap.size) t0 t1 n0 n1 f0 f1 mi :=
    ⟨B.exec, B.bytes, hml, by rw [← g6]; exact hown, fun w hw => hts w (List.mem_cons_of_mem _ hw), hnw, hK, B.notSynchronized, fun h => by rw [hnm]; exact g8 h, fun q h => Or.inr h, hT0, hT1, hZ⟩
  rw [lg_entry_eq]
  have hAt : zAt D cI cL cZ (va_A (zws adr cI cL cZ w) s.heap.size) t0 t1 n0 n1 f0 f1 mi s.heap adr s.heap [] ((lg_sl (vs.map (ztr adr)) ++ List.replicate (zmL mi - (lg_sl (vs.map (ztr adr))).length) Slot.unset).toArray) (zlocs vs (zmL mi)) [] w :=
    ⟨hP, hD, hI, h0, h1, va_S.rf, zentry adr hsp, zlocs_ok hvs, fun v hv => by cases hv⟩
  have fin : ∀ (adr' : Nat → Nat) (H' : Heap) (t : State), t.heap = H' → (∀ k, k < w.1.length → adr' k = adr k) → ∀ (locs' : List Loc) (ls' : Array Slot) (L' st' : List zMV), zAt D cI cL cZ (va_A (zws adr cI cL cZ w) s.heap.size) t0 t1 n0 n1 f0 f1 mi s.heap adr' H' locs' ls' L' st' w1 → (∀ v, r = some v → v ∈ st') → zQc D cI cL cZ t0 t1 n0 n1 f0 f1 adr w r w1 s.heap.size ((vs.map (ztr adr)).toArray) s (.returned (r.map (ztr adr'))) t := by
    intro adr' H' t ht hag locs' ls' L' st' hA' hr
    subst ht
    exact ⟨⟨adr', hag, rfl, hA'.1, hA'.2.1, hA'.2.2.1, hA'.2.2.2.1, hA'.2.2.2.2.1, fun v hv => hA'.2.2.2.2.2.2.2.2 v (hr v hv)⟩, hA'.2.2.2.2.2.1.F rfl⟩
  have hW := hG d mi (zblk mi 0) 0 _ _ w r w1 hrun (by omega) (zblk_chk (hAll mi (by omega)) (hSt mi (by omega))) p e { frames := d + 1, cells := w1.1.length - w.1.length, slots := zcs w1 - zcs w, locals := 40 * (d + 1) } s m ((vs.map (ztr adr)).toArray) below meth c (MQ below (zQc D cI cL cZ t0 t1 n0 n1 f0 f1 adr w r w1 s.heap.size) ((vs.map (ztr adr)).toArray) s (w1.1.length - w.1.length) (zcs w1 - zcs w) (va_A (zws adr cI cL cZ w) s.heap.size)) D cI cL cZ (va_A (zws adr cI cL cZ w) s.heap.size) t0 t1 n0 n1 f0 f1 w.1.length (zcs w) adr adr s.heap [] _ hC ?_ hAt (fun _ _ => rfl) (Nat.le_refl _) (Nat.le_refl _) (Nat.le_refl _) (Nat.le_refl _) (Nat.le_refl _) (Nat.le_refl _)
  · rw [Nat.sub_self, Nat.sub_self] at hW
    exact hW
  · intro adr' H' locs' ls' pc' i L' st' hdg hrok hA' hag
    have hlk := B.notSynchronized
    have hr := B.returns
    rcases zvret hrok with ⟨rfl, e1, rfl, rfl⟩ | ⟨rfl, e1, x, rfl, rfl⟩ | ⟨rfl, e1, x, hx, rfl, rfl⟩ | ⟨rfl, e1, x, rfl, rfl⟩
    · exact W.vret B.exec B.bytes (hr.trans e1) (fun t ht _ => fin adr' H' t ht hag _ _ _ _ hA' (fun v hv => by cases hv)) hA'.2.2.2.2.2.1.2.2 hdg hlk
    · exact W.iret B.exec B.bytes (hr.trans e1) (fun t ht _ => fin adr' H' t ht hag _ _ _ _ hA' (fun v hv => by cases hv; exact List.mem_cons_self)) hA'.2.2.2.2.2.1.2.2 hdg hlk
    · exact W.zret B.exec B.bytes (hr.trans e1) (by rcases hx with rfl | rfl <;> rfl) (fun t ht _ => fin adr' H' t ht hag _ _ _ _ hA' (fun v hv => by cases hv; exact List.mem_cons_self)) hA'.2.2.2.2.2.1.2.2 hdg hlk
    · exact W.lret B.exec B.bytes (hr.trans e1) (fun t ht _ => fin adr' H' t ht hag _ _ _ _ hA' (fun v hv => by cases hv; exact List.mem_cons_self)) hA'.2.2.2.2.2.1.2.2 hdg hlk
end ZW
end
section
/-! the induction -/
theorem zgoodIn {ws : List Cond} {w : Cond} (h : w ∈ zTW) (hw : ws = w :: zTW) : GoodIn zTW ws := by
  intro x hx
  rw [hw] at hx
  have hz : x ∈ zTW := (List.mem_cons.mp hx).elim (fun e => by rw [e]; exact h) id
  exact ⟨hz, good_of_word (List.mem_filter.mp hz).2⟩
theorem zTW_code {y : MethodName} {b : ByteArray} {n k : Nat} {r : Option FieldType} (h : lw_tbl[k]? = some (.code y b n r)) : Cond.code y b n r ∈ zTW := zTW_lw h rfl
section ZW
variable {l : Launch}
theorem zgood (hM : ∀ mi, mi < zNM → zPm mi) (hQ : ∀ q ∈ zCT, zPc q) (hAll : ∀ mi, mi < zNM + 1 → zall mi = true) (hSt : ∀ mi, mi < zNM + 1 → zstart mi 0 = some 0) : ∀ n, zGood l n := by
  intro n
  induction n with
  | zero =>
    intro d mi es pc L st w r w1 hrun
    cases hrun
  | succ n ih =>
    intro d mi es pc L st w r w1 hrun hmi hchk p e R s m args below meth c Q D cI cL cZ A t0 t1 n0 n1 f0 f1 kc ks adr0 adr H locs ls hC hFin hA hag hkc hks hRc hRs hRf hRl
    match es, hrun, hchk with
    | [], hrun, _ => cases hrun
    | en :: es, hrun, hchk =>
      rw [zrun_eq] at hrun
      have hall := hAll mi hmi
      by_cases hgw : en.1 = .goto_w 0
      · rw [zrun_nx (by rw [hgw]; rfl)] at hrun
        have hn : znxt en L st w = some (some en.2.1, L, st, w) := by simp only [znxt, hgw]
        rw [hn] at hrun
        simp only [zchk, if_pos hgw, Bool.and_eq_true, beq_iff_eq] at hchk
        exact ih d mi _ pc L st w r w1 hrun hmi (zblk_chk hall hchk.1) p e R s m args below meth c Q D cI cL cZ A t0 t1 n0 n1 f0 f1 kc ks adr0 adr H locs ls hC hFin hA hag hkc hks hRc hRs hRf hRl
      · simp only [zchk, if_neg hgw] at hchk
        split at hchk
        · next i len hdg =>
          simp only [Bool.and_eq_true] at hchk
          obtain ⟨hok, hchk⟩ := hchk
          by_cases hc : zisC en.1 = false
          · rw [zrun_nx hc] at hrun
            have go : ∀ (tgt : Option Nat) (L' st' : List zMV) (w' : zWd) (es' : List zEnt), znxt en L st w = some (tgt, L', st', w') → zrun n d mi es' L' st' w' = some (r, w1) → (∀ pc', (match tgt with
                | none => pc' = pc + len
                | some b => zstart mi b = some pc') → zchk mi pc' es' = true) → W p l e R s m args below meth c H locs (w.1.length - kc) (zcs w - ks) Q (F0 m pc ls (st.map (ztr adr))) := by
              intro tgt L' st' w' es' hn hr hch
              have m1 := zrun_mono n d mi es' L' st' w' r w1 hr
              have m0 := znxt_mono hn
              refine zstep hC i pc len en L st w tgt L' st' w' adr H locs ls hdg hok hn hA hkc hks (by omega) (by omega) (by omega) (by omega) ?_
              intro adr' H' locs' ls' pc' hag' hpc hA'
              exact ih d mi es' pc' L' st' w' r w1 hr hmi (hch pc' (by cases tgt <;> exact hpc)) p e R s m args below meth c Q D cI cL cZ A t0 t1 n0 n1 f0 f1 kc ks adr0 adr' H' locs' ls' hC hFin hA' (fun k hk => (hag' k (by omega)).trans (hag k hk)) (by omega) (by omega) hRc hRs hRf hRl
            split at hrun
            · next L' st' w' hn => exact go none L' st' w' es hn hrun (fun pc' h => by rw [h]; exact hchk)
            · next b L' st' w' hn => exact go (some b) L' st' w' _ hn hrun (fun pc' h => zblk_chk hall h)
            · cases hrun
          · -- behind a call
            have hS := hA.2.2.2.2.2.1
            have hI := hA.2.2.1
            obtain ⟨hx, hb, hml, hown, hts, hnw, hK, hlk, hin, hA0, hT0, hT1, hZ⟩ := id hC
            have hfree : ∀ q, va_A (zws adr cI cL cZ w) H.size q → A q := by
              intro q hq
              rcases hq with ⟨k, e1, hk⟩ | hq
              · exact hA.2.1.2 k _ hk
              · exact hA0 q (Nat.le_trans hS.1 hq)
            have cont : ∀ (d' m2 : Nat) (vs rest : List zMV) (v : Option zMV) (w2 : zWd) (aa : Array Value), d = d' + 1 → zrun n d' m2 (zblk m2 0) (zlocs vs (zmL m2)) [] w = some (v, w2) → zrun n (d' + 1) mi es L (v.toList ++ rest) w2 = some (r, w1) → len = 3 → (∀ u ∈ rest, u ∈ st) →
                va_Run p l e R s m args below meth c H locs (w.1.length - kc) (zcs w - ks) (w2.1.length - w.1.length) (zcs w2 - zcs w) (F0 m pc ls (st.map (ztr adr))) (rest.map (ztr adr)) (zQc D cI cL cZ t0 t1 n0 n1 f0 f1 adr w v w2 H.size aa) (va_A (zws adr cI cL cZ w) H.size) →
                W p l e R s m args below meth c H locs (w.1.length - kc) (zcs w - ks) Q (F0 m pc ls (st.map (ztr adr))) := by
              intro d' m2 vs rest v w2 aa hd h1 h2 hlen hrest hr
              subst hd
              subst hlen
              have m1 := zrun_mono _ _ _ _ _ _ _ _ _ h1
              have m2' := zrun_mono _ _ _ _ _ _ _ _ _ h2
              refine zcallW (A0 := A) (H0 := s.heap) (A1 := va_A (zws adr cI cL cZ w) H.size) hr hS (fun q _ h => hfree q h) hfree (fun st t v h => h.2) fun v' st9 t locs1 hst hq hS1 => ?_
              obtain ⟨⟨adr', hag', ho, hP1, hD1, hI1, a0, a1, hvok⟩, -⟩ := hq
              have hv' : v' = v.map (ztr adr') := Outcome.returned.inj ho
              subst hv'
              refine W.cs (cells' := w2.1.length - kc) (slots' := zcs w2 - ks) (by omega) (by omega) ?_
              have hrestok : ∀ u ∈ rest, zokv w.1.length u := fun u hu => hA.2.2.2.2.2.2.2.2 u (hrest u hu)
              have est : (v.map (ztr adr')).toList ++ rest.map (ztr adr) = (v.toList ++ rest).map (ztr adr') := by
                rw [List.map_append, zmap_agree hag' hrestok]
                congr 1
                cases v <;> rfl
              rw [est]
              refine ih (d' + 1) mi es (pc + 3) L _ w2 r w1 h2 hmi hchk p e R s m args below meth c Q D cI cL cZ A t0 t1 n0 n1 f0 f1 kc ks adr0 adr' t.heap locs1 ls hC hFin ⟨hP1, hD1.weaken (fun k q _ h => hfree q.1 h), hI1, a0, a1, hS1, zlv_agree hA.2.2.2.2.2.2.1 hag' hA.2.2.2.2.2.2.2.1, fun u hu => zokv_mono m1.1 (hA.2.2.2.2.2.2.2.1 u hu), fun u hu => ?_⟩ (fun k hk => (hag' k (by omega)).trans (hag k hk)) (by omega) (by omega) hRc hRs hRf hRl
              rcases List.mem_append.mp hu with hu | hu
              · cases v with
                | none => cases hu
                | some v0 =>
                  have : u = v0 := by simpa using hu
                  rw [this]; exact hvok v0 rfl
              · exact zokv_mono m1.1 (hrestok u hu)
            have pre : ∀ (vs : List zMV) (U : State), U.heap = H → s.WarmedH U.vm → zPre D cI cL cZ t0 t1 n0 n1 f0 f1 adr w vs H.size ((vs.map (ztr adr)).toArray) U := by
              intro vs U hU hW
              have tk : ∀ {t N : Nat} {f : Nat → Value}, va_T .int t N f A s s.heap → va_T .int t N f (va_A (zws adr cI cL cZ w) H.size) U U.heap := fun h => by
                rw [hU]
                exact va_T.moved hW.alike ((h.kept hS.2.1).narrow hfree)
              refine ⟨rfl, by rw [hU], by rw [hU]; exact hA.1, hA.2.1.weaken (fun _ _ _ _ => trivial), va_K.moved hW.alike hK, zNW_warm hW hnw, tk hT0, tk hT1, ?_⟩
              rw [hU]
              exact va_Z.moved hW.alike ((hZ.kept hS.2.1).narrow hfree)
            have stok := hA.2.2.2.2.2.2.2.2
            rcases zbody_C hc hrun with ⟨he, h2, h3⟩ | ⟨⟨k0, he⟩, hl, hrv, h2⟩ | ⟨⟨k0, he⟩, hl, h2⟩
            · dsimp only at h2 h3
              subst h2
              obtain ⟨e1, rfl⟩ := zokE_ret hok he
              rw [e1] at h3
              exact hFin adr H locs ls pc i L st hdg h3 hA hag
            · obtain ⟨rfl, ix, kd, hik, q, hq, q1, q2, q3, q4⟩ := zokE_virt hok he
              obtain ⟨d', v, w2, hd, hc8, hsp, h4, h5⟩ := zcall_inv h2
              obtain ⟨hm2, hlink, hk0, -, hk2⟩ := hQ q hq
              rw [q3] at hm2 hlink hk0 hk2
              rw [q1, q2] at hlink
              obtain ⟨g1, g2, g3, g4, g5, g6, g7, g8, g9, g10⟩ := hM en.2.1 hm2
              obtain ⟨z1, z2, z3, z4⟩ := zcn_ok _ g9 g10
              have m1 := zrun_mono _ _ _ _ _ _ _ _ _ h4
              have m2' := zrun_mono _ _ _ _ _ _ _ _ _ h5
              generalize hvs : (st.take (zmA en.2.1 + 1)).reverse = vs at hrv hsp h4 h2
              generalize hrs : st.drop (zmA en.2.1 + 1) = rest at hc8 h5 h2
              have hst : st = vs.reverse ++ rest := by rw [← hvs, ← hrs, List.reverse_reverse, List.take_append_drop]
              have hvl : vs.length = zmA en.2.1 + 1 := by rw [← hvs, List.length_reverse]; exact hl
              obtain ⟨k, ps, rfl⟩ : ∃ k ps, vs = zR k :: ps := by
                unfold zrecv at hrv
                split at hrv
                · next k ps => exact ⟨k, ps, rfl⟩
                · cases hrv
              have hpl : ps.length = zmA en.2.1 := by simpa using hvl
              have hvok : ∀ u ∈ (zR k :: ps), zokv w.1.length u := fun u hu => stok u (by rw [hst]; exact List.mem_append_left _ (List.mem_reverse.mpr hu))
              have hrok : ∀ u ∈ rest, u ∈ st := fun u hu => by rw [hst]; exact List.mem_append_right _ hu
              have hmet := zmet ih hM hAll hSt hm2 h4 hsp D cI cL cZ t0 t1 n0 n1 f0 f1 adr hI hA.2.2.2.1 hA.2.2.2.2.1 hvok H.size
              have hcode := zTW_code g1
              have hini : (Cond.initialized (zmN en.2.1).cls).before args s = true := hts _ (zTW_lw g2 rfl)
              have hd3 : (zmN en.2.1).cls ≠ "java/lang/invoke/MethodHandle" ∧ (zmN en.2.1).cls ≠ "java/lang/invoke/VarHandle" ∧ (parseMethodDescriptor (zmN en.2.1).desc).map (fun d => d.parameters.length) = some (zmA en.2.1) := by
                rw [g6]; exact ⟨z1, z2, g5⟩
              have hroom : d' + 1 + 1 ≤ R.frames ∧ 8 + (zmL en.2.1 + 11) + 40 * (d' + 1) ≤ R.locals := by omega
              have hstk : st.map (ztr adr) = (ps.map (ztr adr)).reverse ++ Value.ref (adr k) :: rest.map (ztr adr) := by
                rw [hst]
                simp [ztr]
              have hcat : 2 * (F0 m pc ls (st.map (ztr adr))).monitorRoom + ((rest.map (ztr adr)).map fun v => v.category).sum ≤ 8 := lv_room (by rw [zcats_tr]; exact hc8)
              refine cont d' en.2.1 (zR k :: ps) rest v w2 (Value.ref (adr k) :: ps.map (ztr adr)).toArray hd h4 h5 rfl hrok ?_
              rcases hik with ⟨rfl, rfl⟩ | ⟨rfl, rfl⟩
              · obtain ⟨hnest, hvk, hns⟩ := hk0 q4
                rw [if_pos hnest] at hlink
                rw [hns] at g4
                obtain ⟨hsel, ho12⟩ := g3 hvk
                have hcb := callB_of (R := R) (s := s) (args := args) (rm := { frames := d' + 1, cells := w2.1.length - w.1.length, slots := zcs w2 - zcs w, locals := 40 * (d' + 1) }) (zmA en.2.1) hts (zgoodIn hcode rfl) rfl rfl rfl hini (hts _ (zTW_of (List.mem_of_getElem? hlink) rfl)) hd3 hroom
                have hrcv : ∃ cell : Cell, H[adr k]? = some cell ∧ cell.vm.isStatics = false ∧ s.vm.findClass (zmN en.2.1).cls = some cell.cls := by
                  unfold zrecv at hrv
                  dsimp only at hrv
                  split at hrv
                  · next kd n9 hk =>
                    simp only [Bool.and_eq_true, decide_eq_true_eq] at hrv
                    obtain ⟨rfl, h2k⟩ := hrv
                    have he9 := zws_at (adr := adr) (cI := cI) (cL := cL) (cZ := cZ) h2k hk
                    rw [show zent adr cI cL cZ (w.2 k) (3 + zmO en.2.1, n9) = .inr (zmO en.2.1, (List.range (znf (zmO en.2.1))).map (zfv adr (w.2 k) (zmO en.2.1) n9.2)) from zent_obj ..] at he9
                    have := va_recv hK hA.1 (zcl_at _ ho12).1 he9
                    rw [z4 ho12, ← g6] at this
                    exact this
                  · cases hrv
                exact va_runV (C := (zmN en.2.1).cls) (As := ps.map (ztr adr)) (nL := zmL mi) ⟨hx, hb, hml, hown, hts⟩ hmet ⟨hcb, hts _ (zTW_lw g4 rfl), hts _ (zTW_lw hsel rfl)⟩ ⟨zPre_blind, hrcv, fun U hU hW => pre (zR k :: ps) U hU hW⟩ rfl (by rw [List.length_map]; exact hpl) hA.2.2.2.2.2.2.1.1 hstk hcat hdg (by omega)
              · obtain ⟨hns, hret, hini2⟩ := hk2 q4
                rw [hns] at g4
                rw [hret] at hmet hcode
                have hins : (Cond.instanceMethod (zmN en.2.1)).before args s = true := hts _ (zTW_lw g4 rfl)
                by_cases hnest : q.2.2.2.2.1 = 0
                · rw [if_pos hnest] at hlink
                  have hcb := callB_of (R := R) (s := s) (args := args) (rm := { frames := d' + 1, cells := w2.1.length - w.1.length, slots := zcs w2 - zcs w, locals := 40 * (d' + 1) }) (zmA en.2.1) hts (zgoodIn hcode rfl) rfl rfl rfl hini (hts _ (zTW_of (List.mem_of_getElem? hlink) rfl)) hd3 hroom
                  exact va_runI (As := ps.map (ztr adr)) (nL := zmL mi) ⟨hx, hb, hml, hown, hts⟩ hmet ⟨hcb, g8 hini2, hins⟩ ⟨zPre_blind, fun U hU hW => pre (zR k :: ps) U hU hW⟩ rfl (by rw [List.length_map]; exact hpl) hA.2.2.2.2.2.2.1.1 hstk hcat hdg (by omega)
                · rw [if_neg hnest] at hlink
                  have hcn := va_cnB (R := R) (s := s) (args := args) (rm := { frames := d' + 1, cells := w2.1.length - w.1.length, slots := zcs w2 - zcs w, locals := 40 * (d' + 1) }) (zmA en.2.1) hts (zgoodIn hcode rfl) rfl rfl rfl (hnw _ (List.mem_filter.mpr ⟨List.mem_of_getElem? hlink, rfl⟩)) hini hd3 hroom
                  exact va_runIN (As := ps.map (ztr adr)) (nL := zmL mi) ⟨hx, hb, hml, hown, hts⟩ hmet ⟨hcn, g8 hini2, hins⟩ ⟨zPre_blind, fun U hU hW => pre (zR k :: ps) U hU hW⟩ rfl (by rw [List.length_map]; exact hpl) hA.2.2.2.2.2.2.1.1 hstk hcat hdg (by omega)
            · obtain ⟨rfl, ix, rfl, q, hq, q1, q2, q3, q4⟩ := zokE_stat hok he
              obtain ⟨d', v, w2, hd, hc8, hsp, h4, h5⟩ := zcall_inv h2
              obtain ⟨hm2, hlink, -, hk1, -⟩ := hQ q hq
              rw [q3] at hm2 hlink hk1
              rw [q1, q2] at hlink
              obtain ⟨g1, g2, g3, g4, g5, g6, g7, g8, g9, g10⟩ := hM en.2.1 hm2
              obtain ⟨z1, z2, z3, z4⟩ := zcn_ok _ g9 g10
              have m1 := zrun_mono _ _ _ _ _ _ _ _ _ h4
              have m2' := zrun_mono _ _ _ _ _ _ _ _ _ h5
              generalize hvs : (st.take (zmA en.2.1)).reverse = vs at hsp h4 h2
              generalize hrs : st.drop (zmA en.2.1) = rest at hc8 h5 h2
              have hst : st = vs.reverse ++ rest := by rw [← hvs, ← hrs, List.reverse_reverse, List.take_append_drop]
              have hvl : vs.length = zmA en.2.1 := by rw [← hvs, List.length_reverse]; exact hl
              have hvok : ∀ u ∈ vs, zokv w.1.length u := fun u hu => stok u (by rw [hst]; exact List.mem_append_left _ (List.mem_reverse.mpr hu))
              have hrok : ∀ u ∈ rest, u ∈ st := fun u hu => by rw [hst]; exact List.mem_append_right _ hu
              have hmet := zmet ih hM hAll hSt hm2 h4 hsp D cI cL cZ t0 t1 n0 n1 f0 f1 adr hI hA.2.2.2.1 hA.2.2.2.2.1 hvok H.size
              have hcode := zTW_code g1
              have hini : (Cond.initialized (zmN en.2.1).cls).before args s = true := hts _ (zTW_lw g2 rfl)
              have hd3 : (zmN en.2.1).cls ≠ "java/lang/invoke/MethodHandle" ∧ (zmN en.2.1).cls ≠ "java/lang/invoke/VarHandle" ∧ (parseMethodDescriptor (zmN en.2.1).desc).map (fun d => d.parameters.length) = some (zmA en.2.1) := by
                rw [g6]; exact ⟨z1, z2, g5⟩
              have hroom : d' + 1 + 1 ≤ R.frames ∧ 8 + (zmL en.2.1 + 11) + 40 * (d' + 1) ≤ R.locals := by omega
              have hstk : st.map (ztr adr) = (vs.map (ztr adr)).reverse ++ rest.map (ztr adr) := by
                rw [hst]
                simp
              have hcat : 2 * (F0 m pc ls (st.map (ztr adr))).monitorRoom + ((rest.map (ztr adr)).map fun v => v.category).sum ≤ 8 := lv_room (by rw [zcats_tr]; exact hc8)
              rw [hk1 q4] at g4
              have hstt : (Cond.static (zmN en.2.1)).before args s = true := hts _ (zTW_lw g4 rfl)
              refine cont d' en.2.1 vs rest v w2 (vs.map (ztr adr)).toArray hd h4 h5 rfl hrok ?_
              by_cases hnest : q.2.2.2.2.1 = 0
              · rw [if_pos hnest] at hlink
                have hcb := callB_of (R := R) (s := s) (args := args) (rm := { frames := d' + 1, cells := w2.1.length - w.1.length, slots := zcs w2 - zcs w, locals := 40 * (d' + 1) }) (zmA en.2.1) hts (zgoodIn hcode rfl) rfl rfl rfl hini (hts _ (zTW_of (List.mem_of_getElem? hlink) rfl)) hd3 hroom
                exact va_runS (As := vs.map (ztr adr)) (nL := zmL mi) ⟨hx, hb, hml, hown, hts⟩ hmet ⟨hcb, hstt⟩ ⟨zPre_blind, fun U hU hW => pre vs U hU hW⟩ rfl (by rw [List.length_map]; exact hvl) hA.2.2.2.2.2.2.1.1 hstk hcat hdg (by omega)
              · rw [if_neg hnest] at hlink
                have hcn := va_cnB (R := R) (s := s) (args := args) (rm := { frames := d' + 1, cells := w2.1.length - w.1.length, slots := zcs w2 - zcs w, locals := 40 * (d' + 1) }) (zmA en.2.1) hts (zgoodIn hcode rfl) rfl rfl rfl (hnw _ (List.mem_filter.mpr ⟨List.mem_of_getElem? hlink, rfl⟩)) hini hd3 hroom
                exact va_runSN (As := vs.map (ztr adr)) (nL := zmL mi) ⟨hx, hb, hml, hown, hts⟩ hmet ⟨hcn, hstt, trivial⟩ ⟨zPre_blind, fun U hU hW => pre vs U hU hW⟩ rfl (by rw [List.length_map]; exact hvl) hA.2.2.2.2.2.2.1.1 hstk hcat hdg (by omega)
        · cases hchk
end ZW
end
section
/-! THE CLAIM OUT OF ONE WALK OF THE LAW'S BODY. Your part is whole_start (and what it stands on); all else here is the same for every law, but numbers. -/
def R_law : String := "ForceNetLaw"
def lw_P (b : Addr) (xs : List Int32) (args : Array Value) (s : State) : Prop := args = #[.ref b] ∧ s.IntsAt b xs ∧ xs.length ≤ 3072 ∧ (Jvm.Cond.and given_1 narrow_1).before args s = true
def lw_Q (_ : Array Value) (s : State) (o : Outcome) (t : State) : Prop := o = .returned (some (.int 1)) ∧ Framed s o t [] 600000 7302250
def lw_Z (below : List Frame) (a : Array Value) (s : State) : State → Prop := fun t => ∃ o, t.status = .running ∧ Ended t below o ∧ lw_Q a s o t
/-- the law's own end, with 1 on the stack, nothing written that was there before, its room as the claim has it -/
theorem lw_ret {p : Program} {l : Launch} {e : Env} {s : State} {m : MethodId} {below : List Frame} {meth : Method} {c : Code} {b : Nat} (hx : p.tables.exec = Jvm.exec) (hb : c.code = code) (hr : meth.sig.returnType = ret) (hlocks : meth.locks = false) {pc : Nat} {H : Heap} {ls : Array Slot} (hdg : decode code pc = .ok (.ireturn, 1)) : W p l e room_1 s m #[Value.ref b] below meth c H [] 600000 7302250 (lw_Z below #[Value.ref b] s) (F0 m pc ls [.int 1]) := by
  intro T hT X
  obtain ⟨fs, hret, hrun, hended, hW, hframe⟩ := X.leave (v := some (.int 1)) (hlocks := hlocks) (fun h => by rw [hr] at h; cases h)
  have hmeth' : T.vm.method? m = some meth := X.method'
  refine ⟨T.setFrames fs, ?_, .returned (some (.int 1)), hrun, hended, rfl, ⟨_, rfl⟩, hW, hframe⟩
  jvm_step X.here [X.here.top, hx, hb, hdg, hmeth', hr, ret, narrow_b1]
  (try refine ⟨rfl, ?_⟩); (try refine ⟨rfl, ?_⟩)
  first | (intro acts; rw [hret _ acts rfl rfl rfl]) | rw [hret _ _ rfl rfl rfl]
  exact Steps.refl _
/-- what holds at the law's entry: the machine, the code, the tables' words (any of lw_tbl by 'hts w (by decide +kernel)'), the script of L ints xs at the cell b, what the Statement gives of the start (any of its parts by flat_of_before) -/
def lw_At (p : Program) (s : State) (m : MethodId) (meth : Method) (c : Code) (b L : Nat) (xs : Nat → Int32) : Prop :=
  p.tables.exec = Jvm.exec ∧ c.code = code ∧ meth.sig.returnType = ret ∧ c.maxLocals = 4 ∧ s.vm.findClass R_law = some m.cls ∧ (∀ w ∈ lw_tbl, w.before #[Value.ref b] s = true) ∧ va_X b L xs s s.heap ∧ b < s.heap.size ∧ meth.locks = false ∧ (Jvm.Cond.and given_1 narrow_1).before #[Value.ref b] s = true
/-! the law's start in the small machine: cell 0 the script, cell 1 the row HELPERS -/
def zHL : List Int := [0, 1, 2, 4, 8, 3, 5, 9, 6, 10, 12, 7, 11, 13, 14, 15]
def zf0 (L : Nat) (xs : Nat → Int32) : Int → Int := fun i => (xs i.toNat).toInt
def zf1 : Int → Int := fun i => zHL.getD i.toNat 0
def zM0 (L : Nat) (xs : Nat → Int32) : Nat → Int → Int := fun k => if k = 0 then zf0 L xs else if k = 1 then zf1 else fun _ => 0
def zw0 (L : Nat) (xs : Nat → Int32) : zWd := ([(0, L, []), (0, 16, [])], zM0 L xs)
theorem zHL_in : ∀ x ∈ zHL, zin32 x := by
  intro x hx
  simp only [zHL, List.mem_cons, List.not_mem_nil, or_false] at hx
  constructor <;> omega
theorem zf1_in (i : Int) : zin32 (zf1 i) := by
  unfold zf1
  rw [List.getD_eq_getElem?_getD]
  cases h : zHL[i.toNat]? with
  | none => exact zin0
  | some x => exact zHL_in x (List.mem_of_getElem? h)
theorem zw0_inv {L : Nat} {xs : Nat → Int32} (hL : L ≤ 3072) : zInv L 16 (zf0 L xs) zf1 (zw0 L xs) := by
  refine ⟨rfl, rfl, rfl, rfl, fun k sh hk => ?_⟩
  match k, hk with
  | 0, hk =>
    cases hk
    refine ⟨by show 0 < 15; omega, by show L < _; omega, fun j r h => (by cases h), fun h => (by have : 3 ≤ 0 := h; omega), fun i => ?_⟩
    simp only [zsr]
    rw [if_neg (by omega)]
    exact zin32_toInt _
  | 1, hk =>
    cases hk
    refine ⟨by show 0 < 15; omega, by show 16 < _; omega, fun j r h => (by cases h), fun h => (by have : 3 ≤ 0 := h; omega), fun i => ?_⟩
    simp only [zsr]
    rw [if_neg (by omega)]
    exact zf1_in i
  | k + 2, hk => cases hk
theorem zlaw_tab : zmC 264 = code ∧ zmL 264 = 4 ∧ zmR 264 = some .boolean ∧ zcn (zmO 264) = R_law ∧ zmI 264 = false := ⟨rfl, rfl, rfl, rfl, rfl⟩
theorem zarrT {args : Array Value} {s : State} {ty : FieldType} (h : (Cond.arrayClass ty).before args s = true) : ∃ cA, s.vm.findClass ("[" ++ ty.toString) = some cA ∧ ArrOfT s cA ty := by
  obtain ⟨cA, kA, comp, h1, h2, h3⟩ := Cond.arrayClass_spec h
  exact ⟨cA, h1, fun n z => ⟨fun k h => (by cases h), kA, h2, comp, h3⟩⟩
theorem zelem {b : Nat} {s : State} (h : (Jvm.Cond.and given_1 narrow_1).before #[Value.ref b] s = true) : ∀ j : Nat, j < 16 → (Term.elem (Term.static "ForceNet$Laws" "HELPERS" "[I") (.int (Int32.ofNat j))).eval #[Value.ref b] s none [] s = some (.int (Int32.ofInt (zf1 j))) := by
  have hs := flat_of_before _ h
  intro j hj
  have : j = 0 ∨ j = 1 ∨ j = 2 ∨ j = 3 ∨ j = 4 ∨ j = 5 ∨ j = 6 ∨ j = 7 ∨ j = 8 ∨ j = 9 ∨ j = 10 ∨ j = 11 ∨ j = 12 ∨ j = 13 ∨ j = 14 ∨ j = 15 := by omega
  rcases this with rfl | rfl | rfl | rfl | rfl | rfl | rfl | rfl | rfl | rfl | rfl | rfl | rfl | rfl | rfl | rfl <;> exact va_eqt (hs _ (by decide +kernel))
theorem zlaw_start (hM : ∀ mi, mi < zNM → zPm mi) (hQ : ∀ q ∈ zCT, zPc q) (hAll : ∀ mi, mi < zNM + 1 → zall mi = true) (hSt : ∀ mi, mi < zNM + 1 → zstart mi 0 = some 0)
    {p : Program} {e : Env} {s : State} {m : MethodId} {below : List Frame} {meth : Method} {c : Code} (l : Launch) {b L : Nat} {xs : Nat → Int32} (hL : L ≤ 3072) (C0 : lw_At p s m meth c b L xs)
    (hrun : ∃ (n d : Nat) (w1 : zWd), zrun n d 264 (zblk 264 0) [zR 0, zU, zU, zU] [] (zw0 L xs) = some (some (zI 1), w1) ∧ d ≤ 2000 ∧ w1.1.length ≤ 600000 ∧ zcs w1 ≤ 7300000) : W p l e room_1 s m #[Value.ref b] below meth c s.heap [] 0 0 (lw_Z below #[Value.ref b] s) (entryFrame m ([Value.ref b] : List Value).toArray 4) := by
  obtain ⟨n, d, w1, hr, hd, hlen, hcs⟩ := hrun
  obtain ⟨hx, hb, hrt, hml, hown, hts, hX, hbl, hlocks, hgv⟩ := id C0
  obtain ⟨T1, T2, T3, T4, T5⟩ := zlaw_tab
  have hmemT : ∀ {w : Cond}, w ∈ zTW → w ∈ lw_tbl := fun h => (List.mem_filter.mp h).1
  have htsT : ∀ w ∈ zTW, w.before #[Value.ref b] s = true := fun w h => hts w (hmemT h)
  have hnw : ∀ x ∈ zNW, va_Nw x s := by
    intro x hx2
    have h1 := hts x (List.mem_append_right _ (List.mem_filter.mp hx2).1)
    obtain ⟨a, i, y, h, rfl⟩ := zNW_nest hx2
    exact va_Nw.of rfl h1
  -- the classes
  have hkn : ∀ ci, ∃ (cC : ClassId) (iS : Nat → Nat), ci < 12 → u_Kn s (zcl ci).1 (zcl ci).2.1 (znf ci) cC iS := by
    intro ci
    by_cases h : ci < 12
    · have hi : ∃ q ∈ zNT, q.2.2.1 = ci := by
        have : ci = 0 ∨ ci = 1 ∨ ci = 2 ∨ ci = 3 ∨ ci = 4 ∨ ci = 5 ∨ ci = 6 ∨ ci = 7 ∨ ci = 8 ∨ ci = 9 ∨ ci = 10 ∨ ci = 11 := by omega
        rcases this with rfl | rfl | rfl | rfl | rfl | rfl | rfl | rfl | rfl | rfl | rfl | rfl <;> decide
      obtain ⟨q, hq, hq2⟩ := hi
      obtain ⟨-, -, h3, -⟩ := zNT_ok q hq
      rw [hq2] at h3
      obtain ⟨cC, iS, hK⟩ := u_known htsT (zcl_in h) (htsT _ (zTW_of (List.mem_of_getElem? h3) rfl))
      exact ⟨cC, iS, fun _ => hK⟩
    · exact ⟨0, fun _ => 0, fun z => absurd z h⟩
  obtain ⟨dC, hdC⟩ := Classical.axiomOfChoice hkn
  obtain ⟨dI, hdI⟩ := Classical.axiomOfChoice hdC
  obtain ⟨cI, hI1, hI2⟩ := zarrT (htsT _ zarr_in.1)
  obtain ⟨cL, hL1, hL2⟩ := zarrT (htsT _ zarr_in.2.1)
  obtain ⟨cZ, hZ1, hZ2⟩ := zarrT (htsT _ zarr_in.2.2)
  have hK : va_K (dC, dI) vwCl [(cI, .int), (cL, .long), (cZ, .boolean)] s := by
    refine ⟨fun ci q hq => ?_, fun k q hk => ?_⟩
    · have hci : ci < 12 := (List.getElem?_eq_some_iff.mp hq).1
      have h1 := zcl_at ci hci
      cases h1.1.symm.trans hq
      have h2 := hdI ci hci
      rw [← h1.2] at h2
      exact h2
    · match k, hk with
      | 0, hk => cases hk; exact ⟨hI2, hI1⟩
      | 1, hk => cases hk; exact ⟨hL2, hL1⟩
      | 2, hk => cases hk; exact ⟨hZ2, hZ1⟩
      | k + 3, hk => cases hk
  -- the two old rows
  have hAold : ∀ a : Nat, a < s.heap.size → ¬ (fun q : Nat => s.heap.size ≤ q) a := fun a h => Nat.not_le.mpr h
  have hs := flat_of_before _ hgv
  obtain ⟨t1, hev, hT1⟩ := va_Tof (s := s) (args := #[Value.ref b]) (tm := Term.static "ForceNet$Laws" "HELPERS" "[I") (ty := .int) (N := 16) (f := fun j => .int (Int32.ofInt (zf1 j))) (A := fun q : Nat => s.heap.size ≤ q) (by omega) (hs _ (by decide +kernel)) (va_eqt (hs _ (by decide +kernel))) (zelem hgv) hAold
  have hZ := va_Zof (s := s) (args := #[Value.ref b]) (C := RX3) (n := "HELPERS") (d := "[I") (v := .ref t1) (A := fun q : Nat => s.heap.size ≤ q) (hts _ (List.mem_append_right _ (List.mem_of_getElem? (i := 1039) (by decide +kernel)))) (hts _ (List.mem_append_right _ (List.mem_of_getElem? (i := 6) (by decide +kernel)))) hev hAold
  have hT0 : va_T .int b L (fun j => .int (Int32.ofInt (zf0 L xs j))) (fun q : Nat => s.heap.size ≤ q) s s.heap := by
    obtain ⟨scr, h1, h2, h3, h4, h5⟩ := hX
    refine ⟨scr, h1, h2, h3, by omega, by rw [h4], fun j hj => ?_, hAold b hbl⟩
    rw [h5 j hj]
    show _ = some (Value.int (Int32.ofInt (xs (j : Int).toNat).toInt))
    rw [Int.toNat_natCast, Int32.ofInt_toInt]
  have hC : zCtx p s m #[Value.ref b] meth c (dC, dI) cI cL cZ (fun q : Nat => s.heap.size ≤ q) b t1 L 16 (zf0 L xs) zf1 264 :=
    ⟨hx, by rw [T1]; exact hb, by rw [T2]; exact hml, by rw [T4]; exact hown, htsT, hnw, hK, hlocks, fun h => (by rw [T5] at h; cases h), fun q h => h, hT0, hT1, hZ⟩
  rw [lg_entry_eq]
  have hAt : zAt (dC, dI) cI cL cZ (fun q : Nat => s.heap.size ≤ q) b t1 L 16 (zf0 L xs) zf1 264 s.heap (fun k => if k = 0 then b else t1) s.heap [] ((lg_sl ([zR 0].map (ztr (fun k => if k = 0 then b else t1))) ++ List.replicate (zmL 264 - (lg_sl ([zR 0].map (ztr (fun k => if k = 0 then b else t1)))).length) Slot.unset).toArray) (zlocs [zR 0] (zmL 264)) [] (zw0 L xs) := by
    refine ⟨fun k q h => by simp [zws, zw0] at h, ⟨fun i j p q h => by simp [zws, zw0] at h, fun k q h => by simp [zws, zw0] at h⟩, zw0_inv hL, rfl, rfl, va_S.rf, zentry _ (by show 1 ≤ zmL 264; rw [T2]; omega), zlocs_ok (fun v hv => ?_), fun v hv => by cases hv⟩
    rw [List.mem_singleton.mp hv]
    show 0 < 2
    omega
  have hW := zgood hM hQ hAll hSt (l := l) n d 264 (zblk 264 0) 0 (zlocs [zR 0] (zmL 264)) [] (zw0 L xs) (some (zI 1)) w1 (by rw [T2]; exact hr) (by decide) (zblk_chk (hAll 264 (by decide)) (hSt 264 (by decide))) p e room_1 s m #[Value.ref b] below meth c (lw_Z below #[Value.ref b] s) (dC, dI) cI cL cZ (fun q : Nat => s.heap.size ≤ q) b t1 L 16 (zf0 L xs) zf1 2 (L + 16) (fun k => if k = 0 then b else t1) (fun k => if k = 0 then b else t1) s.heap [] _ hC ?_ hAt (fun _ _ => rfl) (Nat.le_refl 2) (Nat.le_refl (L + 16)) (by show w1.1.length - 2 ≤ 600000; omega) (by show zcs w1 - (L + 16) ≤ 7302250; omega) (by show d + 1 ≤ 2048; omega) (by show 40 * (d + 1) ≤ 84000; omega)
  · rw [T2] at hW
    rw [show (zw0 L xs).1.length - 2 = 0 from rfl, show zcs (zw0 L xs) - (L + 16) = 0 from Nat.sub_self _] at hW
    exact hW
  · intro adr' H' locs' ls' pc' i L' st' hdg hrok hA' hag
    rw [T1] at hdg
    rcases zvret hrok with ⟨-, e1, -⟩ | ⟨-, e1, -⟩ | ⟨rfl, e1, x, hx1, rfl, hx2⟩ | ⟨-, e1, -⟩
    · rw [T3] at e1; cases e1
    · rw [T3] at e1; cases e1
    · cases hx2
      refine va_forget (fun q hq => hA'.2.2.2.2.2.1.2.2 q hq) ?_
      refine W.widen (k := 600000) (n := 7302250) (by omega) (by omega) ?_
      exact lw_ret hx hb hrt hlocks hdg
    · rw [T3] at e1; cases e1
end
section
/-! every block of every method is what its bytes say -/
set_option maxRecDepth 100000 in
theorem zk_0 : zall 0 = true := by decide +kernel
set_option maxRecDepth 100000 in
theorem zk_1 : zall 1 = true := by decide +kernel
set_option maxRecDepth 100000 in
theorem zk_2 : zall 2 = true := by decide +kernel
set_option maxRecDepth 100000 in
theorem zk_3 : zall 3 = true := by decide +kernel
set_option maxRecDepth 100000 in
theorem zk_4 : zall 4 = true := by decide +kernel
set_option maxRecDepth 100000 in
theorem zk_5 : zall 5 = true := by decide +kernel
set_option maxRecDepth 100000 in
theorem zk_6 : zall 6 = true := by decide +kernel
set_option maxRecDepth 100000 in
theorem zk_7 : zall 7 = true := by decide +kernel
set_option maxRecDepth 100000 in
theorem zk_8 : zall 8 = true := by decide +kernel
set_option maxRecDepth 100000 in
theorem zk_9 : zall 9 = true := by decide +kernel
set_option maxRecDepth 100000 in
theorem zk_10 : zall 10 = true := by decide +kernel
set_option maxRecDepth 100000 in
theorem zk_11 : zall 11 = true := by decide +kernel
set_option maxRecDepth 100000 in
theorem zk_12 : zall 12 = true := by decide +kernel
set_option maxRecDepth 100000 in
theorem zk_13 : zall 13 = true := by decide +kernel
set_option maxRecDepth 100000 in
theorem zk_14 : zall 14 = true := by decide +kernel
set_option maxRecDepth 100000 in
theorem zk_15 : zall 15 = true := by decide +kernel
set_option maxRecDepth 100000 in
theorem zk_16 : zall 16 = true := by decide +kernel
set_option maxRecDepth 100000 in
theorem zk_17 : zall 17 = true := by decide +kernel
set_option maxRecDepth 100000 in
theorem zk_18 : zall 18 = true := by decide +kernel
set_option maxRecDepth 100000 in
theorem zk_19 : zall 19 = true := by decide +kernel
set_option maxRecDepth 100000 in
theorem zk_20 : zall 20 = true := by decide +kernel
set_option maxRecDepth 100000 in
theorem zk_21 : zall 21 = true := by decide +kernel
set_option maxRecDepth 100000 in
theorem zk_22 : zall 22 = true := by decide +kernel
set_option maxRecDepth 100000 in
theorem zk_23 : zall 23 = true := by decide +kernel
set_option maxRecDepth 100000 in
theorem zk_24 : zall 24 = true := by decide +kernel
set_option maxRecDepth 100000 in
theorem zk_25 : zall 25 = true := by decide +kernel
set_option maxRecDepth 100000 in
theorem zk_26 : zall 26 = true := by decide +kernel
set_option maxRecDepth 100000 in
theorem zk_27 : zall 27 = true := by decide +kernel
set_option maxRecDepth 100000 in
theorem zk_28 : zall 28 = true := by decide +kernel
set_option maxRecDepth 100000 in
theorem zk_29 : zall 29 = true := by decide +kernel
set_option maxRecDepth 100000 in
theorem zk_30 : zall 30 = true := by decide +kernel
set_option maxRecDepth 100000 in
theorem zk_31 : zall 31 = true := by decide +kernel
set_option maxRecDepth 100000 in
theorem zk_32 : zall 32 = true := by decide +kernel
set_option maxRecDepth 100000 in
theorem zk_33 : zall 33 = true := by decide +kernel
set_option maxRecDepth 100000 in
theorem zk_34 : zall 34 = true := by decide +kernel
set_option maxRecDepth 100000 in
theorem zk_35 : zall 35 = true := by decide +kernel
set_option maxRecDepth 100000 in
theorem zk_36 : zall 36 = true := by decide +kernel
set_option maxRecDepth 100000 in
theorem zk_37 : zall 37 = true := by decide +kernel
set_option maxRecDepth 100000 in
theorem zk_38 : zall 38 = true := by decide +kernel
set_option maxRecDepth 100000 in
theorem zk_39 : zall 39 = true := by decide +kernel
set_option maxRecDepth 100000 in
theorem zk_40 : zall 40 = true := by decide +kernel
set_option maxRecDepth 100000 in
theorem zk_41 : zall 41 = true := by decide +kernel
set_option maxRecDepth 100000 in
theorem zk_42 : zall 42 = true := by decide +kernel
set_option maxRecDepth 100000 in
theorem zk_43 : zall 43 = true := by decide +kernel
set_option maxRecDepth 100000 in
theorem zk_44 : zall 44 = true := by decide +kernel
set_option maxRecDepth 100000 in
theorem zk_45 : zall 45 = true := by decide +kernel
set_option maxRecDepth 100000 in
theorem zk_46 : zall 46 = true := by decide +kernel
set_option maxRecDepth 100000 in
theorem zk_47 : zall 47 = true := by decide +kernel
set_option maxRecDepth 100000 in
theorem zk_48 : zall 48 = true := by decide +kernel
set_option maxRecDepth 100000 in
theorem zk_49 : zall 49 = true := by decide +kernel
set_option maxRecDepth 100000 in
theorem zk_50 : zall 50 = true := by decide +kernel
set_option maxRecDepth 100000 in
theorem zk_51 : zall 51 = true := by decide +kernel
set_option maxRecDepth 100000 in
theorem zk_52 : zall 52 = true := by decide +kernel
set_option maxRecDepth 100000 in
theorem zk_53 : zall 53 = true := by decide +kernel
set_option maxRecDepth 100000 in
theorem zk_54 : zall 54 = true := by decide +kernel
set_option maxRecDepth 100000 in
theorem zk_55 : zall 55 = true := by decide +kernel
set_option maxRecDepth 100000 in
theorem zk_56 : zall 56 = true := by decide +kernel
set_option maxRecDepth 100000 in
theorem zk_57 : zall 57 = true := by decide +kernel
set_option maxRecDepth 100000 in
theorem zk_58 : zall 58 = true := by decide +kernel
set_option maxRecDepth 100000 in
theorem zk_59 : zall 59 = true := by decide +kernel
set_option maxRecDepth 100000 in
theorem zk_60 : zall 60 = true := by decide +kernel
set_option maxRecDepth 100000 in
theorem zk_61 : zall 61 = true := by decide +kernel
set_option maxRecDepth 100000 in
theorem zk_62 : zall 62 = true := by decide +kernel
set_option maxRecDepth 100000 in
theorem zk_63 : zall 63 = true := by decide +kernel
set_option maxRecDepth 100000 in
theorem zk_64 : zall 64 = true := by decide +kernel
set_option maxRecDepth 100000 in
theorem zk_65 : zall 65 = true := by decide +kernel
set_option maxRecDepth 100000 in
theorem zk_66 : zall 66 = true := by decide +kernel
set_option maxRecDepth 100000 in
theorem zk_67 : zall 67 = true := by decide +kernel
set_option maxRecDepth 100000 in
theorem zk_68 : zall 68 = true := by decide +kernel
set_option maxRecDepth 100000 in
theorem zk_69 : zall 69 = true := by decide +kernel
set_option maxRecDepth 100000 in
theorem zk_70 : zall 70 = true := by decide +kernel
set_option maxRecDepth 100000 in
theorem zk_71 : zall 71 = true := by decide +kernel
set_option maxRecDepth 100000 in
theorem zk_72 : zall 72 = true := by decide +kernel
set_option maxRecDepth 100000 in
theorem zk_73 : zall 73 = true := by decide +kernel
set_option maxRecDepth 100000 in
theorem zk_74 : zall 74 = true := by decide +kernel
set_option maxRecDepth 100000 in
theorem zk_75 : zall 75 = true := by decide +kernel
set_option maxRecDepth 100000 in
theorem zk_76 : zall 76 = true := by decide +kernel
set_option maxRecDepth 100000 in
theorem zk_77 : zall 77 = true := by decide +kernel
set_option maxRecDepth 100000 in
theorem zk_78 : zall 78 = true := by decide +kernel
set_option maxRecDepth 100000 in
theorem zk_79 : zall 79 = true := by decide +kernel
set_option maxRecDepth 100000 in
theorem zk_80 : zall 80 = true := by decide +kernel
set_option maxRecDepth 100000 in
theorem zk_81 : zall 81 = true := by decide +kernel
set_option maxRecDepth 100000 in
theorem zk_82 : zall 82 = true := by decide +kernel
set_option maxRecDepth 100000 in
theorem zk_83 : zall 83 = true := by decide +kernel
set_option maxRecDepth 100000 in
theorem zk_84 : zall 84 = true := by decide +kernel
set_option maxRecDepth 100000 in
theorem zk_85 : zall 85 = true := by decide +kernel
set_option maxRecDepth 100000 in
theorem zk_86 : zall 86 = true := by decide +kernel
set_option maxRecDepth 100000 in
theorem zk_87 : zall 87 = true := by decide +kernel
set_option maxRecDepth 100000 in
theorem zk_88 : zall 88 = true := by decide +kernel
set_option maxRecDepth 100000 in
theorem zk_89 : zall 89 = true := by decide +kernel
set_option maxRecDepth 100000 in
theorem zk_90 : zall 90 = true := by decide +kernel
set_option maxRecDepth 100000 in
theorem zk_91 : zall 91 = true := by decide +kernel
set_option maxRecDepth 100000 in
theorem zk_92 : zall 92 = true := by decide +kernel
set_option maxRecDepth 100000 in
theorem zk_93 : zall 93 = true := by decide +kernel
set_option maxRecDepth 100000 in
theorem zk_94 : zall 94 = true := by decide +kernel
set_option maxRecDepth 100000 in
theorem zk_95 : zall 95 = true := by decide +kernel
set_option maxRecDepth 100000 in
theorem zk_96 : zall 96 = true := by decide +kernel
set_option maxRecDepth 100000 in
theorem zk_97 : zall 97 = true := by decide +kernel
set_option maxRecDepth 100000 in
theorem zk_98 : zall 98 = true := by decide +kernel
set_option maxRecDepth 100000 in
theorem zk_99 : zall 99 = true := by decide +kernel
set_option maxRecDepth 100000 in
theorem zk_100 : zall 100 = true := by decide +kernel
set_option maxRecDepth 100000 in
theorem zk_101 : zall 101 = true := by decide +kernel
set_option maxRecDepth 100000 in
theorem zk_102 : zall 102 = true := by decide +kernel
set_option maxRecDepth 100000 in
theorem zk_103 : zall 103 = true := by decide +kernel
set_option maxRecDepth 100000 in
theorem zk_104 : zall 104 = true := by decide +kernel
set_option maxRecDepth 100000 in
theorem zk_105 : zall 105 = true := by decide +kernel
set_option maxRecDepth 100000 in
theorem zk_106 : zall 106 = true := by decide +kernel
set_option maxRecDepth 100000 in
theorem zk_107 : zall 107 = true := by decide +kernel
set_option maxRecDepth 100000 in
theorem zk_108 : zall 108 = true := by decide +kernel
set_option maxRecDepth 100000 in
theorem zk_109 : zall 109 = true := by decide +kernel
set_option maxRecDepth 100000 in
theorem zk_110 : zall 110 = true := by decide +kernel
set_option maxRecDepth 100000 in
theorem zk_111 : zall 111 = true := by decide +kernel
set_option maxRecDepth 100000 in
theorem zk_112 : zall 112 = true := by decide +kernel
set_option maxRecDepth 100000 in
theorem zk_113 : zall 113 = true := by decide +kernel
set_option maxRecDepth 100000 in
theorem zk_114 : zall 114 = true := by decide +kernel
set_option maxRecDepth 100000 in
theorem zk_115 : zall 115 = true := by decide +kernel
set_option maxRecDepth 100000 in
theorem zk_116 : zall 116 = true := by decide +kernel
set_option maxRecDepth 100000 in
theorem zk_117 : zall 117 = true := by decide +kernel
set_option maxRecDepth 100000 in
theorem zk_118 : zall 118 = true := by decide +kernel
set_option maxRecDepth 100000 in
theorem zk_119 : zall 119 = true := by decide +kernel
set_option maxRecDepth 100000 in
theorem zk_120 : zall 120 = true := by decide +kernel
set_option maxRecDepth 100000 in
theorem zk_121 : zall 121 = true := by decide +kernel
set_option maxRecDepth 100000 in
theorem zk_122 : zall 122 = true := by decide +kernel
set_option maxRecDepth 100000 in
theorem zk_123 : zall 123 = true := by decide +kernel
set_option maxRecDepth 100000 in
theorem zk_124 : zall 124 = true := by decide +kernel
set_option maxRecDepth 100000 in
theorem zk_125 : zall 125 = true := by decide +kernel
set_option maxRecDepth 100000 in
theorem zk_126 : zall 126 = true := by decide +kernel
set_option maxRecDepth 100000 in
theorem zk_127 : zall 127 = true := by decide +kernel
set_option maxRecDepth 100000 in
theorem zk_128 : zall 128 = true := by decide +kernel
set_option maxRecDepth 100000 in
theorem zk_129 : zall 129 = true := by decide +kernel
set_option maxRecDepth 100000 in
theorem zk_130 : zall 130 = true := by decide +kernel
set_option maxRecDepth 100000 in
theorem zk_131 : zall 131 = true := by decide +kernel
set_option maxRecDepth 100000 in
theorem zk_132 : zall 132 = true := by decide +kernel
end
section
/-! every block of every method is what its bytes say -/
set_option maxRecDepth 100000 in
theorem zk_133 : zall 133 = true := by decide +kernel
set_option maxRecDepth 100000 in
theorem zk_134 : zall 134 = true := by decide +kernel
set_option maxRecDepth 100000 in
theorem zk_135 : zall 135 = true := by decide +kernel
set_option maxRecDepth 100000 in
theorem zk_136 : zall 136 = true := by decide +kernel
set_option maxRecDepth 100000 in
theorem zk_137 : zall 137 = true := by decide +kernel
set_option maxRecDepth 100000 in
theorem zk_138 : zall 138 = true := by decide +kernel
set_option maxRecDepth 100000 in
theorem zk_139 : zall 139 = true := by decide +kernel
set_option maxRecDepth 100000 in
theorem zk_140 : zall 140 = true := by decide +kernel
set_option maxRecDepth 100000 in
theorem zk_141 : zall 141 = true := by decide +kernel
set_option maxRecDepth 100000 in
theorem zk_142 : zall 142 = true := by decide +kernel
set_option maxRecDepth 100000 in
theorem zk_143 : zall 143 = true := by decide +kernel
set_option maxRecDepth 100000 in
theorem zk_144 : zall 144 = true := by decide +kernel
set_option maxRecDepth 100000 in
theorem zk_145 : zall 145 = true := by decide +kernel
set_option maxRecDepth 100000 in
theorem zk_146 : zall 146 = true := by decide +kernel
set_option maxRecDepth 100000 in
theorem zk_147 : zall 147 = true := by decide +kernel
set_option maxRecDepth 100000 in
theorem zk_148 : zall 148 = true := by decide +kernel
set_option maxRecDepth 100000 in
theorem zk_149 : zall 149 = true := by decide +kernel
set_option maxRecDepth 100000 in
theorem zk_150 : zall 150 = true := by decide +kernel
set_option maxRecDepth 100000 in
theorem zk_151 : zall 151 = true := by decide +kernel
set_option maxRecDepth 100000 in
theorem zk_152 : zall 152 = true := by decide +kernel
set_option maxRecDepth 100000 in
theorem zk_153 : zall 153 = true := by decide +kernel
set_option maxRecDepth 100000 in
theorem zk_154 : zall 154 = true := by decide +kernel
set_option maxRecDepth 100000 in
theorem zk_155 : zall 155 = true := by decide +kernel
set_option maxRecDepth 100000 in
theorem zk_156 : zall 156 = true := by decide +kernel
set_option maxRecDepth 100000 in
theorem zk_157 : zall 157 = true := by decide +kernel
set_option maxRecDepth 100000 in
theorem zk_158 : zall 158 = true := by decide +kernel
set_option maxRecDepth 100000 in
theorem zk_159 : zall 159 = true := by decide +kernel
set_option maxRecDepth 100000 in
theorem zk_160 : zall 160 = true := by decide +kernel
set_option maxRecDepth 100000 in
theorem zk_161 : zall 161 = true := by decide +kernel
set_option maxRecDepth 100000 in
theorem zk_162 : zall 162 = true := by decide +kernel
set_option maxRecDepth 100000 in
theorem zk_163 : zall 163 = true := by decide +kernel
set_option maxRecDepth 100000 in
theorem zk_164 : zall 164 = true := by decide +kernel
set_option maxRecDepth 100000 in
theorem zk_165 : zall 165 = true := by decide +kernel
set_option maxRecDepth 100000 in
theorem zk_166 : zall 166 = true := by decide +kernel
set_option maxRecDepth 100000 in
theorem zk_167 : zall 167 = true := by decide +kernel
set_option maxRecDepth 100000 in
theorem zk_168 : zall 168 = true := by decide +kernel
set_option maxRecDepth 100000 in
theorem zk_169 : zall 169 = true := by decide +kernel
set_option maxRecDepth 100000 in
theorem zk_170 : zall 170 = true := by decide +kernel
set_option maxRecDepth 100000 in
theorem zk_171 : zall 171 = true := by decide +kernel
set_option maxRecDepth 100000 in
theorem zk_172 : zall 172 = true := by decide +kernel
set_option maxRecDepth 100000 in
theorem zk_173 : zall 173 = true := by decide +kernel
set_option maxRecDepth 100000 in
theorem zk_174 : zall 174 = true := by decide +kernel
set_option maxRecDepth 100000 in
theorem zk_175 : zall 175 = true := by decide +kernel
set_option maxRecDepth 100000 in
theorem zk_176 : zall 176 = true := by decide +kernel
set_option maxRecDepth 100000 in
theorem zk_177 : zall 177 = true := by decide +kernel
set_option maxRecDepth 100000 in
theorem zk_178 : zall 178 = true := by decide +kernel
set_option maxRecDepth 100000 in
theorem zk_179 : zall 179 = true := by decide +kernel
set_option maxRecDepth 100000 in
theorem zk_180 : zall 180 = true := by decide +kernel
set_option maxRecDepth 100000 in
theorem zk_181 : zall 181 = true := by decide +kernel
set_option maxRecDepth 100000 in
theorem zk_182 : zall 182 = true := by decide +kernel
set_option maxRecDepth 100000 in
theorem zk_183 : zall 183 = true := by decide +kernel
set_option maxRecDepth 100000 in
theorem zk_184 : zall 184 = true := by decide +kernel
set_option maxRecDepth 100000 in
theorem zk_185 : zall 185 = true := by decide +kernel
set_option maxRecDepth 100000 in
theorem zk_186 : zall 186 = true := by decide +kernel
set_option maxRecDepth 100000 in
theorem zk_187 : zall 187 = true := by decide +kernel
set_option maxRecDepth 100000 in
theorem zk_188 : zall 188 = true := by decide +kernel
set_option maxRecDepth 100000 in
theorem zk_189 : zall 189 = true := by decide +kernel
set_option maxRecDepth 100000 in
theorem zk_190 : zall 190 = true := by decide +kernel
set_option maxRecDepth 100000 in
theorem zk_191 : zall 191 = true := by decide +kernel
set_option maxRecDepth 100000 in
theorem zk_192 : zall 192 = true := by decide +kernel
set_option maxRecDepth 100000 in
theorem zk_193 : zall 193 = true := by decide +kernel
set_option maxRecDepth 100000 in
theorem zk_194 : zall 194 = true := by decide +kernel
set_option maxRecDepth 100000 in
theorem zk_195 : zall 195 = true := by decide +kernel
set_option maxRecDepth 100000 in
theorem zk_196 : zall 196 = true := by decide +kernel
set_option maxRecDepth 100000 in
theorem zk_197 : zall 197 = true := by decide +kernel
set_option maxRecDepth 100000 in
theorem zk_198 : zall 198 = true := by decide +kernel
set_option maxRecDepth 100000 in
theorem zk_199 : zall 199 = true := by decide +kernel
set_option maxRecDepth 100000 in
theorem zk_200 : zall 200 = true := by decide +kernel
set_option maxRecDepth 100000 in
theorem zk_201 : zall 201 = true := by decide +kernel
set_option maxRecDepth 100000 in
theorem zk_202 : zall 202 = true := by decide +kernel
set_option maxRecDepth 100000 in
theorem zk_203 : zall 203 = true := by decide +kernel
set_option maxRecDepth 100000 in
theorem zk_204 : zall 204 = true := by decide +kernel
set_option maxRecDepth 100000 in
theorem zk_205 : zall 205 = true := by decide +kernel
set_option maxRecDepth 100000 in
theorem zk_206 : zall 206 = true := by decide +kernel
set_option maxRecDepth 100000 in
theorem zk_207 : zall 207 = true := by decide +kernel
set_option maxRecDepth 100000 in
theorem zk_208 : zall 208 = true := by decide +kernel
set_option maxRecDepth 100000 in
theorem zk_209 : zall 209 = true := by decide +kernel
set_option maxRecDepth 100000 in
theorem zk_210 : zall 210 = true := by decide +kernel
set_option maxRecDepth 100000 in
theorem zk_211 : zall 211 = true := by decide +kernel
set_option maxRecDepth 100000 in
theorem zk_212 : zall 212 = true := by decide +kernel
set_option maxRecDepth 100000 in
theorem zk_213 : zall 213 = true := by decide +kernel
set_option maxRecDepth 100000 in
theorem zk_214 : zall 214 = true := by decide +kernel
set_option maxRecDepth 100000 in
theorem zk_215 : zall 215 = true := by decide +kernel
set_option maxRecDepth 100000 in
theorem zk_216 : zall 216 = true := by decide +kernel
set_option maxRecDepth 100000 in
theorem zk_217 : zall 217 = true := by decide +kernel
set_option maxRecDepth 100000 in
theorem zk_218 : zall 218 = true := by decide +kernel
set_option maxRecDepth 100000 in
theorem zk_219 : zall 219 = true := by decide +kernel
set_option maxRecDepth 100000 in
theorem zk_220 : zall 220 = true := by decide +kernel
set_option maxRecDepth 100000 in
theorem zk_221 : zall 221 = true := by decide +kernel
set_option maxRecDepth 100000 in
theorem zk_222 : zall 222 = true := by decide +kernel
set_option maxRecDepth 100000 in
theorem zk_223 : zall 223 = true := by decide +kernel
set_option maxRecDepth 100000 in
theorem zk_224 : zall 224 = true := by decide +kernel
set_option maxRecDepth 100000 in
theorem zk_225 : zall 225 = true := by decide +kernel
set_option maxRecDepth 100000 in
theorem zk_226 : zall 226 = true := by decide +kernel
set_option maxRecDepth 100000 in
theorem zk_227 : zall 227 = true := by decide +kernel
set_option maxRecDepth 100000 in
theorem zk_228 : zall 228 = true := by decide +kernel
set_option maxRecDepth 100000 in
theorem zk_229 : zall 229 = true := by decide +kernel
set_option maxRecDepth 100000 in
theorem zk_230 : zall 230 = true := by decide +kernel
set_option maxRecDepth 100000 in
theorem zk_231 : zall 231 = true := by decide +kernel
set_option maxRecDepth 100000 in
theorem zk_232 : zall 232 = true := by decide +kernel
set_option maxRecDepth 100000 in
theorem zk_233 : zall 233 = true := by decide +kernel
set_option maxRecDepth 100000 in
theorem zk_234 : zall 234 = true := by decide +kernel
set_option maxRecDepth 100000 in
theorem zk_235 : zall 235 = true := by decide +kernel
set_option maxRecDepth 100000 in
theorem zk_236 : zall 236 = true := by decide +kernel
set_option maxRecDepth 100000 in
theorem zk_237 : zall 237 = true := by decide +kernel
set_option maxRecDepth 100000 in
theorem zk_238 : zall 238 = true := by decide +kernel
set_option maxRecDepth 100000 in
theorem zk_239 : zall 239 = true := by decide +kernel
set_option maxRecDepth 100000 in
theorem zk_240 : zall 240 = true := by decide +kernel
set_option maxRecDepth 100000 in
theorem zk_241 : zall 241 = true := by decide +kernel
set_option maxRecDepth 100000 in
theorem zk_242 : zall 242 = true := by decide +kernel
set_option maxRecDepth 100000 in
theorem zk_243 : zall 243 = true := by decide +kernel
set_option maxRecDepth 100000 in
theorem zk_244 : zall 244 = true := by decide +kernel
set_option maxRecDepth 100000 in
theorem zk_245 : zall 245 = true := by decide +kernel
set_option maxRecDepth 100000 in
theorem zk_246 : zall 246 = true := by decide +kernel
set_option maxRecDepth 100000 in
theorem zk_247 : zall 247 = true := by decide +kernel
set_option maxRecDepth 100000 in
theorem zk_248 : zall 248 = true := by decide +kernel
set_option maxRecDepth 100000 in
theorem zk_249 : zall 249 = true := by decide +kernel
set_option maxRecDepth 100000 in
theorem zk_250 : zall 250 = true := by decide +kernel
set_option maxRecDepth 100000 in
theorem zk_251 : zall 251 = true := by decide +kernel
set_option maxRecDepth 100000 in
theorem zk_252 : zall 252 = true := by decide +kernel
set_option maxRecDepth 100000 in
theorem zk_253 : zall 253 = true := by decide +kernel
set_option maxRecDepth 100000 in
theorem zk_254 : zall 254 = true := by decide +kernel
set_option maxRecDepth 100000 in
theorem zk_255 : zall 255 = true := by decide +kernel
set_option maxRecDepth 100000 in
theorem zk_256 : zall 256 = true := by decide +kernel
set_option maxRecDepth 100000 in
theorem zk_257 : zall 257 = true := by decide +kernel
set_option maxRecDepth 100000 in
theorem zk_258 : zall 258 = true := by decide +kernel
set_option maxRecDepth 100000 in
theorem zk_259 : zall 259 = true := by decide +kernel
set_option maxRecDepth 100000 in
theorem zk_260 : zall 260 = true := by decide +kernel
set_option maxRecDepth 100000 in
theorem zk_261 : zall 261 = true := by decide +kernel
set_option maxRecDepth 100000 in
theorem zk_262 : zall 262 = true := by decide +kernel
set_option maxRecDepth 100000 in
theorem zk_263 : zall 263 = true := by decide +kernel
end
section
/-! the law's own code, some blocks at a time -/
def zpart (mi a n : Nat) : Bool := (((zBk mi).drop a).take n).all fun q => zchk mi q.1 q.2
set_option maxRecDepth 100000 in
theorem zkl_0 : zpart 264 0 5 = true := by decide +kernel
set_option maxRecDepth 100000 in
theorem zkl_1 : zpart 264 5 5 = true := by decide +kernel
set_option maxRecDepth 100000 in
theorem zkl_2 : zpart 264 10 5 = true := by decide +kernel
set_option maxRecDepth 100000 in
theorem zkl_3 : zpart 264 15 5 = true := by decide +kernel
set_option maxRecDepth 100000 in
theorem zkl_4 : zpart 264 20 5 = true := by decide +kernel
end
section
/-! the law's own code, some blocks at a time -/
set_option maxRecDepth 100000 in
theorem zkl_5 : zpart 264 25 5 = true := by decide +kernel
set_option maxRecDepth 100000 in
theorem zkl_6 : zpart 264 30 5 = true := by decide +kernel
set_option maxRecDepth 100000 in
theorem zkl_7 : zpart 264 35 5 = true := by decide +kernel
set_option maxRecDepth 100000 in
theorem zkl_8 : zpart 264 40 5 = true := by decide +kernel
set_option maxRecDepth 100000 in
theorem zkl_9 : zpart 264 45 5 = true := by decide +kernel
end
section
/-! the law's own code, some blocks at a time -/
set_option maxRecDepth 100000 in
theorem zkl_10 : zpart 264 50 5 = true := by decide +kernel
set_option maxRecDepth 100000 in
theorem zkl_11 : zpart 264 55 5 = true := by decide +kernel
set_option maxRecDepth 100000 in
theorem zkl_12 : zpart 264 60 5 = true := by decide +kernel
set_option maxRecDepth 100000 in
theorem zkl_13 : zpart 264 65 5 = true := by decide +kernel
set_option maxRecDepth 100000 in
theorem zkl_14 : zpart 264 70 5 = true := by decide +kernel
end
section
/-! each method's words stand in the tables -/
def zPmD (mi : Nat) : Decidable (zPm mi) := by unfold zPm; exact inferInstance
theorem zm_0 : zPm 0 := by unfold zPm; decide +kernel
theorem zm_1 : zPm 1 := by unfold zPm; decide +kernel
theorem zm_2 : zPm 2 := by unfold zPm; decide +kernel
theorem zm_3 : zPm 3 := by unfold zPm; decide +kernel
theorem zm_4 : zPm 4 := by unfold zPm; decide +kernel
theorem zm_5 : zPm 5 := by unfold zPm; decide +kernel
theorem zm_6 : zPm 6 := by unfold zPm; decide +kernel
theorem zm_7 : zPm 7 := by unfold zPm; decide +kernel
theorem zm_8 : zPm 8 := by unfold zPm; decide +kernel
theorem zm_9 : zPm 9 := by unfold zPm; decide +kernel
theorem zm_10 : zPm 10 := by unfold zPm; decide +kernel
theorem zm_11 : zPm 11 := by unfold zPm; decide +kernel
theorem zm_12 : zPm 12 := by unfold zPm; decide +kernel
theorem zm_13 : zPm 13 := by unfold zPm; decide +kernel
theorem zm_14 : zPm 14 := by unfold zPm; decide +kernel
theorem zm_15 : zPm 15 := by unfold zPm; decide +kernel
theorem zm_16 : zPm 16 := by unfold zPm; decide +kernel
theorem zm_17 : zPm 17 := by unfold zPm; decide +kernel
theorem zm_18 : zPm 18 := by unfold zPm; decide +kernel
theorem zm_19 : zPm 19 := by unfold zPm; decide +kernel
theorem zm_20 : zPm 20 := by unfold zPm; decide +kernel
theorem zm_21 : zPm 21 := by unfold zPm; decide +kernel
theorem zm_22 : zPm 22 := by unfold zPm; decide +kernel
theorem zm_23 : zPm 23 := by unfold zPm; decide +kernel
theorem zm_24 : zPm 24 := by unfold zPm; decide +kernel
theorem zm_25 : zPm 25 := by unfold zPm; decide +kernel
theorem zm_26 : zPm 26 := by unfold zPm; decide +kernel
theorem zm_27 : zPm 27 := by unfold zPm; decide +kernel
theorem zm_28 : zPm 28 := by unfold zPm; decide +kernel
theorem zm_29 : zPm 29 := by unfold zPm; decide +kernel
theorem zm_30 : zPm 30 := by unfold zPm; decide +kernel
theorem zm_31 : zPm 31 := by unfold zPm; decide +kernel
theorem zm_32 : zPm 32 := by unfold zPm; decide +kernel
theorem zm_33 : zPm 33 := by unfold zPm; decide +kernel
theorem zm_34 : zPm 34 := by unfold zPm; decide +kernel
theorem zm_35 : zPm 35 := by unfold zPm; decide +kernel
theorem zm_36 : zPm 36 := by unfold zPm; decide +kernel
theorem zm_37 : zPm 37 := by unfold zPm; decide +kernel
theorem zm_38 : zPm 38 := by unfold zPm; decide +kernel
theorem zm_39 : zPm 39 := by unfold zPm; decide +kernel
theorem zm_40 : zPm 40 := by unfold zPm; decide +kernel
theorem zm_41 : zPm 41 := by unfold zPm; decide +kernel
theorem zm_42 : zPm 42 := by unfold zPm; decide +kernel
theorem zm_43 : zPm 43 := by unfold zPm; decide +kernel
end
section
/-! each method's words stand in the tables -/
theorem zm_44 : zPm 44 := by unfold zPm; decide +kernel
theorem zm_45 : zPm 45 := by unfold zPm; decide +kernel
theorem zm_46 : zPm 46 := by unfold zPm; decide +kernel
theorem zm_47 : zPm 47 := by unfold zPm; decide +kernel
theorem zm_48 : zPm 48 := by unfold zPm; decide +kernel
theorem zm_49 : zPm 49 := by unfold zPm; decide +kernel
theorem zm_50 : zPm 50 := by unfold zPm; decide +kernel
theorem zm_51 : zPm 51 := by unfold zPm; decide +kernel
theorem zm_52 : zPm 52 := by unfold zPm; decide +kernel
theorem zm_53 : zPm 53 := by unfold zPm; decide +kernel
theorem zm_54 : zPm 54 := by unfold zPm; decide +kernel
theorem zm_55 : zPm 55 := by unfold zPm; decide +kernel
theorem zm_56 : zPm 56 := by unfold zPm; decide +kernel
theorem zm_57 : zPm 57 := by unfold zPm; decide +kernel
theorem zm_58 : zPm 58 := by unfold zPm; decide +kernel
theorem zm_59 : zPm 59 := by unfold zPm; decide +kernel
theorem zm_60 : zPm 60 := by unfold zPm; decide +kernel
theorem zm_61 : zPm 61 := by unfold zPm; decide +kernel
theorem zm_62 : zPm 62 := by unfold zPm; decide +kernel
theorem zm_63 : zPm 63 := by unfold zPm; decide +kernel
theorem zm_64 : zPm 64 := by unfold zPm; decide +kernel
theorem zm_65 : zPm 65 := by unfold zPm; decide +kernel
theorem zm_66 : zPm 66 := by unfold zPm; decide +kernel
theorem zm_67 : zPm 67 := by unfold zPm; decide +kernel
theorem zm_68 : zPm 68 := by unfold zPm; decide +kernel
theorem zm_69 : zPm 69 := by unfold zPm; decide +kernel
theorem zm_70 : zPm 70 := by unfold zPm; decide +kernel
theorem zm_71 : zPm 71 := by unfold zPm; decide +kernel
theorem zm_72 : zPm 72 := by unfold zPm; decide +kernel
theorem zm_73 : zPm 73 := by unfold zPm; decide +kernel
theorem zm_74 : zPm 74 := by unfold zPm; decide +kernel
theorem zm_75 : zPm 75 := by unfold zPm; decide +kernel
theorem zm_76 : zPm 76 := by unfold zPm; decide +kernel
theorem zm_77 : zPm 77 := by unfold zPm; decide +kernel
theorem zm_78 : zPm 78 := by unfold zPm; decide +kernel
theorem zm_79 : zPm 79 := by unfold zPm; decide +kernel
theorem zm_80 : zPm 80 := by unfold zPm; decide +kernel
theorem zm_81 : zPm 81 := by unfold zPm; decide +kernel
theorem zm_82 : zPm 82 := by unfold zPm; decide +kernel
theorem zm_83 : zPm 83 := by unfold zPm; decide +kernel
theorem zm_84 : zPm 84 := by unfold zPm; decide +kernel
theorem zm_85 : zPm 85 := by unfold zPm; decide +kernel
theorem zm_86 : zPm 86 := by unfold zPm; decide +kernel
theorem zm_87 : zPm 87 := by unfold zPm; decide +kernel
end
section
/-! each method's words stand in the tables -/
theorem zm_88 : zPm 88 := by unfold zPm; decide +kernel
theorem zm_89 : zPm 89 := by unfold zPm; decide +kernel
theorem zm_90 : zPm 90 := by unfold zPm; decide +kernel
theorem zm_91 : zPm 91 := by unfold zPm; decide +kernel
theorem zm_92 : zPm 92 := by unfold zPm; decide +kernel
theorem zm_93 : zPm 93 := by unfold zPm; decide +kernel
theorem zm_94 : zPm 94 := by unfold zPm; decide +kernel
theorem zm_95 : zPm 95 := by unfold zPm; decide +kernel
theorem zm_96 : zPm 96 := by unfold zPm; decide +kernel
theorem zm_97 : zPm 97 := by unfold zPm; decide +kernel
theorem zm_98 : zPm 98 := by unfold zPm; decide +kernel
theorem zm_99 : zPm 99 := by unfold zPm; decide +kernel
theorem zm_100 : zPm 100 := by unfold zPm; decide +kernel
theorem zm_101 : zPm 101 := by unfold zPm; decide +kernel
theorem zm_102 : zPm 102 := by unfold zPm; decide +kernel
theorem zm_103 : zPm 103 := by unfold zPm; decide +kernel
theorem zm_104 : zPm 104 := by unfold zPm; decide +kernel
theorem zm_105 : zPm 105 := by unfold zPm; decide +kernel
theorem zm_106 : zPm 106 := by unfold zPm; decide +kernel
theorem zm_107 : zPm 107 := by unfold zPm; decide +kernel
theorem zm_108 : zPm 108 := by unfold zPm; decide +kernel
theorem zm_109 : zPm 109 := by unfold zPm; decide +kernel
theorem zm_110 : zPm 110 := by unfold zPm; decide +kernel
theorem zm_111 : zPm 111 := by unfold zPm; decide +kernel
theorem zm_112 : zPm 112 := by unfold zPm; decide +kernel
theorem zm_113 : zPm 113 := by unfold zPm; decide +kernel
theorem zm_114 : zPm 114 := by unfold zPm; decide +kernel
theorem zm_115 : zPm 115 := by unfold zPm; decide +kernel
theorem zm_116 : zPm 116 := by unfold zPm; decide +kernel
theorem zm_117 : zPm 117 := by unfold zPm; decide +kernel
theorem zm_118 : zPm 118 := by unfold zPm; decide +kernel
theorem zm_119 : zPm 119 := by unfold zPm; decide +kernel
theorem zm_120 : zPm 120 := by unfold zPm; decide +kernel
theorem zm_121 : zPm 121 := by unfold zPm; decide +kernel
theorem zm_122 : zPm 122 := by unfold zPm; decide +kernel
theorem zm_123 : zPm 123 := by unfold zPm; decide +kernel
theorem zm_124 : zPm 124 := by unfold zPm; decide +kernel
theorem zm_125 : zPm 125 := by unfold zPm; decide +kernel
theorem zm_126 : zPm 126 := by unfold zPm; decide +kernel
theorem zm_127 : zPm 127 := by unfold zPm; decide +kernel
theorem zm_128 : zPm 128 := by unfold zPm; decide +kernel
theorem zm_129 : zPm 129 := by unfold zPm; decide +kernel
theorem zm_130 : zPm 130 := by unfold zPm; decide +kernel
theorem zm_131 : zPm 131 := by unfold zPm; decide +kernel
end
section
/-! each method's words stand in the tables -/
theorem zm_132 : zPm 132 := by unfold zPm; decide +kernel
theorem zm_133 : zPm 133 := by unfold zPm; decide +kernel
theorem zm_134 : zPm 134 := by unfold zPm; decide +kernel
theorem zm_135 : zPm 135 := by unfold zPm; decide +kernel
theorem zm_136 : zPm 136 := by unfold zPm; decide +kernel
theorem zm_137 : zPm 137 := by unfold zPm; decide +kernel
theorem zm_138 : zPm 138 := by unfold zPm; decide +kernel
theorem zm_139 : zPm 139 := by unfold zPm; decide +kernel
theorem zm_140 : zPm 140 := by unfold zPm; decide +kernel
theorem zm_141 : zPm 141 := by unfold zPm; decide +kernel
theorem zm_142 : zPm 142 := by unfold zPm; decide +kernel
theorem zm_143 : zPm 143 := by unfold zPm; decide +kernel
theorem zm_144 : zPm 144 := by unfold zPm; decide +kernel
theorem zm_145 : zPm 145 := by unfold zPm; decide +kernel
theorem zm_146 : zPm 146 := by unfold zPm; decide +kernel
theorem zm_147 : zPm 147 := by unfold zPm; decide +kernel
theorem zm_148 : zPm 148 := by unfold zPm; decide +kernel
theorem zm_149 : zPm 149 := by unfold zPm; decide +kernel
theorem zm_150 : zPm 150 := by unfold zPm; decide +kernel
theorem zm_151 : zPm 151 := by unfold zPm; decide +kernel
theorem zm_152 : zPm 152 := by unfold zPm; decide +kernel
theorem zm_153 : zPm 153 := by unfold zPm; decide +kernel
theorem zm_154 : zPm 154 := by unfold zPm; decide +kernel
theorem zm_155 : zPm 155 := by unfold zPm; decide +kernel
theorem zm_156 : zPm 156 := by unfold zPm; decide +kernel
theorem zm_157 : zPm 157 := by unfold zPm; decide +kernel
theorem zm_158 : zPm 158 := by unfold zPm; decide +kernel
theorem zm_159 : zPm 159 := by unfold zPm; decide +kernel
theorem zm_160 : zPm 160 := by unfold zPm; decide +kernel
theorem zm_161 : zPm 161 := by unfold zPm; decide +kernel
theorem zm_162 : zPm 162 := by unfold zPm; decide +kernel
theorem zm_163 : zPm 163 := by unfold zPm; decide +kernel
theorem zm_164 : zPm 164 := by unfold zPm; decide +kernel
theorem zm_165 : zPm 165 := by unfold zPm; decide +kernel
theorem zm_166 : zPm 166 := by unfold zPm; decide +kernel
theorem zm_167 : zPm 167 := by unfold zPm; decide +kernel
theorem zm_168 : zPm 168 := by unfold zPm; decide +kernel
theorem zm_169 : zPm 169 := by unfold zPm; decide +kernel
theorem zm_170 : zPm 170 := by unfold zPm; decide +kernel
theorem zm_171 : zPm 171 := by unfold zPm; decide +kernel
theorem zm_172 : zPm 172 := by unfold zPm; decide +kernel
theorem zm_173 : zPm 173 := by unfold zPm; decide +kernel
theorem zm_174 : zPm 174 := by unfold zPm; decide +kernel
theorem zm_175 : zPm 175 := by unfold zPm; decide +kernel
end
section
/-! each method's words stand in the tables -/
theorem zm_176 : zPm 176 := by unfold zPm; decide +kernel
theorem zm_177 : zPm 177 := by unfold zPm; decide +kernel
theorem zm_178 : zPm 178 := by unfold zPm; decide +kernel
theorem zm_179 : zPm 179 := by unfold zPm; decide +kernel
theorem zm_180 : zPm 180 := by unfold zPm; decide +kernel
theorem zm_181 : zPm 181 := by unfold zPm; decide +kernel
theorem zm_182 : zPm 182 := by unfold zPm; decide +kernel
theorem zm_183 : zPm 183 := by unfold zPm; decide +kernel
theorem zm_184 : zPm 184 := by unfold zPm; decide +kernel
theorem zm_185 : zPm 185 := by unfold zPm; decide +kernel
theorem zm_186 : zPm 186 := by unfold zPm; decide +kernel
theorem zm_187 : zPm 187 := by unfold zPm; decide +kernel
theorem zm_188 : zPm 188 := by unfold zPm; decide +kernel
theorem zm_189 : zPm 189 := by unfold zPm; decide +kernel
theorem zm_190 : zPm 190 := by unfold zPm; decide +kernel
theorem zm_191 : zPm 191 := by unfold zPm; decide +kernel
theorem zm_192 : zPm 192 := by unfold zPm; decide +kernel
theorem zm_193 : zPm 193 := by unfold zPm; decide +kernel
theorem zm_194 : zPm 194 := by unfold zPm; decide +kernel
theorem zm_195 : zPm 195 := by unfold zPm; decide +kernel
theorem zm_196 : zPm 196 := by unfold zPm; decide +kernel
theorem zm_197 : zPm 197 := by unfold zPm; decide +kernel
theorem zm_198 : zPm 198 := by unfold zPm; decide +kernel
theorem zm_199 : zPm 199 := by unfold zPm; decide +kernel
theorem zm_200 : zPm 200 := by unfold zPm; decide +kernel
theorem zm_201 : zPm 201 := by unfold zPm; decide +kernel
theorem zm_202 : zPm 202 := by unfold zPm; decide +kernel
theorem zm_203 : zPm 203 := by unfold zPm; decide +kernel
theorem zm_204 : zPm 204 := by unfold zPm; decide +kernel
theorem zm_205 : zPm 205 := by unfold zPm; decide +kernel
theorem zm_206 : zPm 206 := by unfold zPm; decide +kernel
theorem zm_207 : zPm 207 := by unfold zPm; decide +kernel
theorem zm_208 : zPm 208 := by unfold zPm; decide +kernel
theorem zm_209 : zPm 209 := by unfold zPm; decide +kernel
theorem zm_210 : zPm 210 := by unfold zPm; decide +kernel
theorem zm_211 : zPm 211 := by unfold zPm; decide +kernel
theorem zm_212 : zPm 212 := by unfold zPm; decide +kernel
theorem zm_213 : zPm 213 := by unfold zPm; decide +kernel
theorem zm_214 : zPm 214 := by unfold zPm; decide +kernel
theorem zm_215 : zPm 215 := by unfold zPm; decide +kernel
theorem zm_216 : zPm 216 := by unfold zPm; decide +kernel
theorem zm_217 : zPm 217 := by unfold zPm; decide +kernel
theorem zm_218 : zPm 218 := by unfold zPm; decide +kernel
theorem zm_219 : zPm 219 := by unfold zPm; decide +kernel
end
section
/-! each method's words stand in the tables -/
theorem zm_220 : zPm 220 := by unfold zPm; decide +kernel
theorem zm_221 : zPm 221 := by unfold zPm; decide +kernel
theorem zm_222 : zPm 222 := by unfold zPm; decide +kernel
theorem zm_223 : zPm 223 := by unfold zPm; decide +kernel
theorem zm_224 : zPm 224 := by unfold zPm; decide +kernel
theorem zm_225 : zPm 225 := by unfold zPm; decide +kernel
theorem zm_226 : zPm 226 := by unfold zPm; decide +kernel
theorem zm_227 : zPm 227 := by unfold zPm; decide +kernel
theorem zm_228 : zPm 228 := by unfold zPm; decide +kernel
theorem zm_229 : zPm 229 := by unfold zPm; decide +kernel
theorem zm_230 : zPm 230 := by unfold zPm; decide +kernel
theorem zm_231 : zPm 231 := by unfold zPm; decide +kernel
theorem zm_232 : zPm 232 := by unfold zPm; decide +kernel
theorem zm_233 : zPm 233 := by unfold zPm; decide +kernel
theorem zm_234 : zPm 234 := by unfold zPm; decide +kernel
theorem zm_235 : zPm 235 := by unfold zPm; decide +kernel
theorem zm_236 : zPm 236 := by unfold zPm; decide +kernel
theorem zm_237 : zPm 237 := by unfold zPm; decide +kernel
theorem zm_238 : zPm 238 := by unfold zPm; decide +kernel
theorem zm_239 : zPm 239 := by unfold zPm; decide +kernel
theorem zm_240 : zPm 240 := by unfold zPm; decide +kernel
theorem zm_241 : zPm 241 := by unfold zPm; decide +kernel
theorem zm_242 : zPm 242 := by unfold zPm; decide +kernel
theorem zm_243 : zPm 243 := by unfold zPm; decide +kernel
theorem zm_244 : zPm 244 := by unfold zPm; decide +kernel
theorem zm_245 : zPm 245 := by unfold zPm; decide +kernel
theorem zm_246 : zPm 246 := by unfold zPm; decide +kernel
theorem zm_247 : zPm 247 := by unfold zPm; decide +kernel
theorem zm_248 : zPm 248 := by unfold zPm; decide +kernel
theorem zm_249 : zPm 249 := by unfold zPm; decide +kernel
theorem zm_250 : zPm 250 := by unfold zPm; decide +kernel
theorem zm_251 : zPm 251 := by unfold zPm; decide +kernel
theorem zm_252 : zPm 252 := by unfold zPm; decide +kernel
theorem zm_253 : zPm 253 := by unfold zPm; decide +kernel
theorem zm_254 : zPm 254 := by unfold zPm; decide +kernel
theorem zm_255 : zPm 255 := by unfold zPm; decide +kernel
theorem zm_256 : zPm 256 := by unfold zPm; decide +kernel
theorem zm_257 : zPm 257 := by unfold zPm; decide +kernel
theorem zm_258 : zPm 258 := by unfold zPm; decide +kernel
theorem zm_259 : zPm 259 := by unfold zPm; decide +kernel
theorem zm_260 : zPm 260 := by unfold zPm; decide +kernel
theorem zm_261 : zPm 261 := by unfold zPm; decide +kernel
theorem zm_262 : zPm 262 := by unfold zPm; decide +kernel
theorem zm_263 : zPm 263 := by unfold zPm; decide +kernel
end
section
/-! each call's link stands in the tables -/
theorem zq_0 : ∀ q ∈ (zCT.drop 0).take 120, zPc q := by unfold zPc; decide +kernel
end
section
/-! each call's link stands in the tables -/
theorem zq_1 : ∀ q ∈ (zCT.drop 120).take 120, zPc q := by unfold zPc; decide +kernel
end
section
/-! each call's link stands in the tables -/
theorem zq_2 : ∀ q ∈ (zCT.drop 240).take 120, zPc q := by unfold zPc; decide +kernel
end
section
/-! all of them -/
theorem zallL : zall 264 = true := by
  unfold zall
  rw [List.all_eq_true]
  intro q hq
  obtain ⟨i, hi⟩ := List.getElem?_of_mem hq
  have hl : i < 75 := (List.getElem?_eq_some_iff.mp hi).1
  have key : ∀ (a : Nat), zpart 264 a 5 = true → a ≤ i → i < a + 5 → zchk 264 q.1 q.2 = true := by
    intro a ha h1 h2
    refine List.all_eq_true.mp ha q (List.mem_of_getElem? (i := i - a) ?_)
    rw [List.getElem?_take, if_pos (by omega), List.getElem?_drop, show a + (i - a) = i by omega]
    exact hi
  by_cases h0 : i < 5
  · exact key 0 zkl_0 (by omega) (by omega)
  by_cases h1 : i < 10
  · exact key 5 zkl_1 (by omega) (by omega)
  by_cases h2 : i < 15
  · exact key 10 zkl_2 (by omega) (by omega)
  by_cases h3 : i < 20
  · exact key 15 zkl_3 (by omega) (by omega)
  by_cases h4 : i < 25
  · exact key 20 zkl_4 (by omega) (by omega)
  by_cases h5 : i < 30
  · exact key 25 zkl_5 (by omega) (by omega)
  by_cases h6 : i < 35
  · exact key 30 zkl_6 (by omega) (by omega)
  by_cases h7 : i < 40
  · exact key 35 zkl_7 (by omega) (by omega)
  by_cases h8 : i < 45
  · exact key 40 zkl_8 (by omega) (by omega)
  by_cases h9 : i < 50
  · exact key 45 zkl_9 (by omega) (by omega)
  by_cases h10 : i < 55
  · exact key 50 zkl_10 (by omega) (by omega)
  by_cases h11 : i < 60
  · exact key 55 zkl_11 (by omega) (by omega)
  by_cases h12 : i < 65
  · exact key 60 zkl_12 (by omega) (by omega)
  by_cases h13 : i < 70
  · exact key 65 zkl_13 (by omega) (by omega)
  by_cases h14 : i < 75
  · exact key 70 zkl_14 (by omega) (by omega)
  · omega
theorem zhAll : ∀ mi, mi < 265 → zall mi = true := by
  intro mi hmi
  by_cases hs : mi < 132
  ·
    by_cases hs : mi < 66
    ·
      by_cases hs : mi < 33
      ·
        by_cases hs : mi < 16
        ·
          by_cases hs : mi < 8
          ·
            by_cases hs : mi < 4
            ·
              by_cases hs : mi < 2
              ·
                by_cases hs : mi < 1
                ·
                  have e : mi = 0 := by omega
                  subst e
                  exact zk_0
                ·
                  have e : mi = 1 := by omega
                  subst e
                  exact zk_1
              ·
                by_cases hs : mi < 3
                ·
                  have e : mi = 2 := by omega
                  subst e
                  exact zk_2
                ·
                  have e : mi = 3 := by omega
                  subst e
                  exact zk_3
            ·
              by_cases hs : mi < 6
              ·
                by_cases hs : mi < 5
                ·
                  have e : mi = 4 := by omega
                  subst e
                  exact zk_4
                ·
                  have e : mi = 5 := by omega
                  subst e
                  exact zk_5
              ·
                by_cases hs : mi < 7
                ·
                  have e : mi = 6 := by omega
                  subst e
                  exact zk_6
                ·
                  have e : mi = 7 := by omega
                  subst e
                  exact zk_7
          ·
            by_cases hs : mi < 12
            ·
              by_cases hs : mi < 10
              ·
                by_cases hs : mi < 9
                ·
                  have e : mi = 8 := by omega
                  subst e
                  exact zk_8
                ·
                  have e : mi = 9 := by omega
                  subst e
                  exact zk_9
              ·
                by_cases hs : mi < 11
                ·
                  have e : mi = 10 := by omega
                  subst e
                  exact zk_10
                ·
                  have e : mi = 11 := by omega
                  subst e
                  exact zk_11
            ·
              by_cases hs : mi < 14
              ·
                by_cases hs : mi < 13
                ·
                  have e : mi = 12 := by omega
                  subst e
                  exact zk_12
                ·
                  have e : mi = 13 := by omega
                  subst e
                  exact zk_13
              ·
                by_cases hs : mi < 15
                ·
                  have e : mi = 14 := by omega
                  subst e
                  exact zk_14
                ·
                  have e : mi = 15 := by omega
                  subst e
                  exact zk_15
        ·
          by_cases hs : mi < 24
          ·
            by_cases hs : mi < 20
            ·
              by_cases hs : mi < 18
              ·
                by_cases hs : mi < 17
                ·
                  have e : mi = 16 := by omega
                  subst e
                  exact zk_16
                ·
                  have e : mi = 17 := by omega
                  subst e
                  exact zk_17
              ·
                by_cases hs : mi < 19
                ·
                  have e : mi = 18 := by omega
                  subst e
                  exact zk_18
                ·
                  have e : mi = 19 := by omega
                  subst e
                  exact zk_19
            ·
              by_cases hs : mi < 22
              ·
                by_cases hs : mi < 21
                ·
                  have e : mi = 20 := by omega
                  subst e
                  exact zk_20
                ·
                  have e : mi = 21 := by omega
                  subst e
                  exact zk_21
              ·
                by_cases hs : mi < 23
                ·
                  have e : mi = 22 := by omega
                  subst e
                  exact zk_22
                ·
                  have e : mi = 23 := by omega
                  subst e
                  exact zk_23
          ·
            by_cases hs : mi < 28
            ·
              by_cases hs : mi < 26
              ·
                by_cases hs : mi < 25
                ·
                  have e : mi = 24 := by omega
                  subst e
                  exact zk_24
                ·
                  have e : mi = 25 := by omega
                  subst e
                  exact zk_25
              ·
                by_cases hs : mi < 27
                ·
                  have e : mi = 26 := by omega
                  subst e
                  exact zk_26
                ·
                  have e : mi = 27 := by omega
                  subst e
                  exact zk_27
            ·
              by_cases hs : mi < 30
              ·
                by_cases hs : mi < 29
                ·
                  have e : mi = 28 := by omega
                  subst e
                  exact zk_28
                ·
                  have e : mi = 29 := by omega
                  subst e
                  exact zk_29
              ·
                by_cases hs : mi < 31
                ·
                  have e : mi = 30 := by omega
                  subst e
                  exact zk_30
                ·
                  by_cases hs : mi < 32
                  ·
                    have e : mi = 31 := by omega
                    subst e
                    exact zk_31
                  ·
                    have e : mi = 32 := by omega
                    subst e
                    exact zk_32
      ·
        by_cases hs : mi < 49
        ·
          by_cases hs : mi < 41
          ·
            by_cases hs : mi < 37
            ·
              by_cases hs : mi < 35
              ·
                by_cases hs : mi < 34
                ·
                  have e : mi = 33 := by omega
                  subst e
                  exact zk_33
                ·
                  have e : mi = 34 := by omega
                  subst e
                  exact zk_34
              ·
                by_cases hs : mi < 36
                ·
                  have e : mi = 35 := by omega
                  subst e
                  exact zk_35
                ·
                  have e : mi = 36 := by omega
                  subst e
                  exact zk_36
            ·
              by_cases hs : mi < 39
              ·
                by_cases hs : mi < 38
                ·
                  have e : mi = 37 := by omega
                  subst e
                  exact zk_37
                ·
                  have e : mi = 38 := by omega
                  subst e
                  exact zk_38
              ·
                by_cases hs : mi < 40
                ·
                  have e : mi = 39 := by omega
                  subst e
                  exact zk_39
                ·
                  have e : mi = 40 := by omega
                  subst e
                  exact zk_40
          ·
            by_cases hs : mi < 45
            ·
              by_cases hs : mi < 43
              ·
                by_cases hs : mi < 42
                ·
                  have e : mi = 41 := by omega
                  subst e
                  exact zk_41
                ·
                  have e : mi = 42 := by omega
                  subst e
                  exact zk_42
              ·
                by_cases hs : mi < 44
                ·
                  have e : mi = 43 := by omega
                  subst e
                  exact zk_43
                ·
                  have e : mi = 44 := by omega
                  subst e
                  exact zk_44
            ·
              by_cases hs : mi < 47
              ·
                by_cases hs : mi < 46
                ·
                  have e : mi = 45 := by omega
                  subst e
                  exact zk_45
                ·
                  have e : mi = 46 := by omega
                  subst e
                  exact zk_46
              ·
                by_cases hs : mi < 48
                ·
                  have e : mi = 47 := by omega
                  subst e
                  exact zk_47
                ·
                  have e : mi = 48 := by omega
                  subst e
                  exact zk_48
        ·
          by_cases hs : mi < 57
          ·
            by_cases hs : mi < 53
            ·
              by_cases hs : mi < 51
              ·
                by_cases hs : mi < 50
                ·
                  have e : mi = 49 := by omega
                  subst e
                  exact zk_49
                ·
                  have e : mi = 50 := by omega
                  subst e
                  exact zk_50
              ·
                by_cases hs : mi < 52
                ·
                  have e : mi = 51 := by omega
                  subst e
                  exact zk_51
                ·
                  have e : mi = 52 := by omega
                  subst e
                  exact zk_52
            ·
              by_cases hs : mi < 55
              ·
                by_cases hs : mi < 54
                ·
                  have e : mi = 53 := by omega
                  subst e
                  exact zk_53
                ·
                  have e : mi = 54 := by omega
                  subst e
                  exact zk_54
              ·
                by_cases hs : mi < 56
                ·
                  have e : mi = 55 := by omega
                  subst e
                  exact zk_55
                ·
                  have e : mi = 56 := by omega
                  subst e
                  exact zk_56
          ·
            by_cases hs : mi < 61
            ·
              by_cases hs : mi < 59
              ·
                by_cases hs : mi < 58
                ·
                  have e : mi = 57 := by omega
                  subst e
                  exact zk_57
                ·
                  have e : mi = 58 := by omega
                  subst e
                  exact zk_58
              ·
                by_cases hs : mi < 60
                ·
                  have e : mi = 59 := by omega
                  subst e
                  exact zk_59
                ·
                  have e : mi = 60 := by omega
                  subst e
                  exact zk_60
            ·
              by_cases hs : mi < 63
              ·
                by_cases hs : mi < 62
                ·
                  have e : mi = 61 := by omega
                  subst e
                  exact zk_61
                ·
                  have e : mi = 62 := by omega
                  subst e
                  exact zk_62
              ·
                by_cases hs : mi < 64
                ·
                  have e : mi = 63 := by omega
                  subst e
                  exact zk_63
                ·
                  by_cases hs : mi < 65
                  ·
                    have e : mi = 64 := by omega
                    subst e
                    exact zk_64
                  ·
                    have e : mi = 65 := by omega
                    subst e
                    exact zk_65
    ·
      by_cases hs : mi < 99
      ·
        by_cases hs : mi < 82
        ·
          by_cases hs : mi < 74
          ·
            by_cases hs : mi < 70
            ·
              by_cases hs : mi < 68
              ·
                by_cases hs : mi < 67
                ·
                  have e : mi = 66 := by omega
                  subst e
                  exact zk_66
                ·
                  have e : mi = 67 := by omega
                  subst e
                  exact zk_67
              ·
                by_cases hs : mi < 69
                ·
                  have e : mi = 68 := by omega
                  subst e
                  exact zk_68
                ·
                  have e : mi = 69 := by omega
                  subst e
                  exact zk_69
            ·
              by_cases hs : mi < 72
              ·
                by_cases hs : mi < 71
                ·
                  have e : mi = 70 := by omega
                  subst e
                  exact zk_70
                ·
                  have e : mi = 71 := by omega
                  subst e
                  exact zk_71
              ·
                by_cases hs : mi < 73
                ·
                  have e : mi = 72 := by omega
                  subst e
                  exact zk_72
                ·
                  have e : mi = 73 := by omega
                  subst e
                  exact zk_73
          ·
            by_cases hs : mi < 78
            ·
              by_cases hs : mi < 76
              ·
                by_cases hs : mi < 75
                ·
                  have e : mi = 74 := by omega
                  subst e
                  exact zk_74
                ·
                  have e : mi = 75 := by omega
                  subst e
                  exact zk_75
              ·
                by_cases hs : mi < 77
                ·
                  have e : mi = 76 := by omega
                  subst e
                  exact zk_76
                ·
                  have e : mi = 77 := by omega
                  subst e
                  exact zk_77
            ·
              by_cases hs : mi < 80
              ·
                by_cases hs : mi < 79
                ·
                  have e : mi = 78 := by omega
                  subst e
                  exact zk_78
                ·
                  have e : mi = 79 := by omega
                  subst e
                  exact zk_79
              ·
                by_cases hs : mi < 81
                ·
                  have e : mi = 80 := by omega
                  subst e
                  exact zk_80
                ·
                  have e : mi = 81 := by omega
                  subst e
                  exact zk_81
        ·
          by_cases hs : mi < 90
          ·
            by_cases hs : mi < 86
            ·
              by_cases hs : mi < 84
              ·
                by_cases hs : mi < 83
                ·
                  have e : mi = 82 := by omega
                  subst e
                  exact zk_82
                ·
                  have e : mi = 83 := by omega
                  subst e
                  exact zk_83
              ·
                by_cases hs : mi < 85
                ·
                  have e : mi = 84 := by omega
                  subst e
                  exact zk_84
                ·
                  have e : mi = 85 := by omega
                  subst e
                  exact zk_85
            ·
              by_cases hs : mi < 88
              ·
                by_cases hs : mi < 87
                ·
                  have e : mi = 86 := by omega
                  subst e
                  exact zk_86
                ·
                  have e : mi = 87 := by omega
                  subst e
                  exact zk_87
              ·
                by_cases hs : mi < 89
                ·
                  have e : mi = 88 := by omega
                  subst e
                  exact zk_88
                ·
                  have e : mi = 89 := by omega
                  subst e
                  exact zk_89
          ·
            by_cases hs : mi < 94
            ·
              by_cases hs : mi < 92
              ·
                by_cases hs : mi < 91
                ·
                  have e : mi = 90 := by omega
                  subst e
                  exact zk_90
                ·
                  have e : mi = 91 := by omega
                  subst e
                  exact zk_91
              ·
                by_cases hs : mi < 93
                ·
                  have e : mi = 92 := by omega
                  subst e
                  exact zk_92
                ·
                  have e : mi = 93 := by omega
                  subst e
                  exact zk_93
            ·
              by_cases hs : mi < 96
              ·
                by_cases hs : mi < 95
                ·
                  have e : mi = 94 := by omega
                  subst e
                  exact zk_94
                ·
                  have e : mi = 95 := by omega
                  subst e
                  exact zk_95
              ·
                by_cases hs : mi < 97
                ·
                  have e : mi = 96 := by omega
                  subst e
                  exact zk_96
                ·
                  by_cases hs : mi < 98
                  ·
                    have e : mi = 97 := by omega
                    subst e
                    exact zk_97
                  ·
                    have e : mi = 98 := by omega
                    subst e
                    exact zk_98
      ·
        by_cases hs : mi < 115
        ·
          by_cases hs : mi < 107
          ·
            by_cases hs : mi < 103
            ·
              by_cases hs : mi < 101
              ·
                by_cases hs : mi < 100
                ·
                  have e : mi = 99 := by omega
                  subst e
                  exact zk_99
                ·
                  have e : mi = 100 := by omega
                  subst e
                  exact zk_100
              ·
                by_cases hs : mi < 102
                ·
                  have e : mi = 101 := by omega
                  subst e
                  exact zk_101
                ·
                  have e : mi = 102 := by omega
                  subst e
                  exact zk_102
            ·
              by_cases hs : mi < 105
              ·
                by_cases hs : mi < 104
                ·
                  have e : mi = 103 := by omega
                  subst e
                  exact zk_103
                ·
                  have e : mi = 104 := by omega
                  subst e
                  exact zk_104
              ·
                by_cases hs : mi < 106
                ·
                  have e : mi = 105 := by omega
                  subst e
                  exact zk_105
                ·
                  have e : mi = 106 := by omega
                  subst e
                  exact zk_106
          ·
            by_cases hs : mi < 111
            ·
              by_cases hs : mi < 109
              ·
                by_cases hs : mi < 108
                ·
                  have e : mi = 107 := by omega
                  subst e
                  exact zk_107
                ·
                  have e : mi = 108 := by omega
                  subst e
                  exact zk_108
              ·
                by_cases hs : mi < 110
                ·
                  have e : mi = 109 := by omega
                  subst e
                  exact zk_109
                ·
                  have e : mi = 110 := by omega
                  subst e
                  exact zk_110
            ·
              by_cases hs : mi < 113
              ·
                by_cases hs : mi < 112
                ·
                  have e : mi = 111 := by omega
                  subst e
                  exact zk_111
                ·
                  have e : mi = 112 := by omega
                  subst e
                  exact zk_112
              ·
                by_cases hs : mi < 114
                ·
                  have e : mi = 113 := by omega
                  subst e
                  exact zk_113
                ·
                  have e : mi = 114 := by omega
                  subst e
                  exact zk_114
        ·
          by_cases hs : mi < 123
          ·
            by_cases hs : mi < 119
            ·
              by_cases hs : mi < 117
              ·
                by_cases hs : mi < 116
                ·
                  have e : mi = 115 := by omega
                  subst e
                  exact zk_115
                ·
                  have e : mi = 116 := by omega
                  subst e
                  exact zk_116
              ·
                by_cases hs : mi < 118
                ·
                  have e : mi = 117 := by omega
                  subst e
                  exact zk_117
                ·
                  have e : mi = 118 := by omega
                  subst e
                  exact zk_118
            ·
              by_cases hs : mi < 121
              ·
                by_cases hs : mi < 120
                ·
                  have e : mi = 119 := by omega
                  subst e
                  exact zk_119
                ·
                  have e : mi = 120 := by omega
                  subst e
                  exact zk_120
              ·
                by_cases hs : mi < 122
                ·
                  have e : mi = 121 := by omega
                  subst e
                  exact zk_121
                ·
                  have e : mi = 122 := by omega
                  subst e
                  exact zk_122
          ·
            by_cases hs : mi < 127
            ·
              by_cases hs : mi < 125
              ·
                by_cases hs : mi < 124
                ·
                  have e : mi = 123 := by omega
                  subst e
                  exact zk_123
                ·
                  have e : mi = 124 := by omega
                  subst e
                  exact zk_124
              ·
                by_cases hs : mi < 126
                ·
                  have e : mi = 125 := by omega
                  subst e
                  exact zk_125
                ·
                  have e : mi = 126 := by omega
                  subst e
                  exact zk_126
            ·
              by_cases hs : mi < 129
              ·
                by_cases hs : mi < 128
                ·
                  have e : mi = 127 := by omega
                  subst e
                  exact zk_127
                ·
                  have e : mi = 128 := by omega
                  subst e
                  exact zk_128
              ·
                by_cases hs : mi < 130
                ·
                  have e : mi = 129 := by omega
                  subst e
                  exact zk_129
                ·
                  by_cases hs : mi < 131
                  ·
                    have e : mi = 130 := by omega
                    subst e
                    exact zk_130
                  ·
                    have e : mi = 131 := by omega
                    subst e
                    exact zk_131
  ·
    by_cases hs : mi < 198
    ·
      by_cases hs : mi < 165
      ·
        by_cases hs : mi < 148
        ·
          by_cases hs : mi < 140
          ·
            by_cases hs : mi < 136
            ·
              by_cases hs : mi < 134
              ·
                by_cases hs : mi < 133
                ·
                  have e : mi = 132 := by omega
                  subst e
                  exact zk_132
                ·
                  have e : mi = 133 := by omega
                  subst e
                  exact zk_133
              ·
                by_cases hs : mi < 135
                ·
                  have e : mi = 134 := by omega
                  subst e
                  exact zk_134
                ·
                  have e : mi = 135 := by omega
                  subst e
                  exact zk_135
            ·
              by_cases hs : mi < 138
              ·
                by_cases hs : mi < 137
                ·
                  have e : mi = 136 := by omega
                  subst e
                  exact zk_136
                ·
                  have e : mi = 137 := by omega
                  subst e
                  exact zk_137
              ·
                by_cases hs : mi < 139
                ·
                  have e : mi = 138 := by omega
                  subst e
                  exact zk_138
                ·
                  have e : mi = 139 := by omega
                  subst e
                  exact zk_139
          ·
            by_cases hs : mi < 144
            ·
              by_cases hs : mi < 142
              ·
                by_cases hs : mi < 141
                ·
                  have e : mi = 140 := by omega
                  subst e
                  exact zk_140
                ·
                  have e : mi = 141 := by omega
                  subst e
                  exact zk_141
              ·
                by_cases hs : mi < 143
                ·
                  have e : mi = 142 := by omega
                  subst e
                  exact zk_142
                ·
                  have e : mi = 143 := by omega
                  subst e
                  exact zk_143
            ·
              by_cases hs : mi < 146
              ·
                by_cases hs : mi < 145
                ·
                  have e : mi = 144 := by omega
                  subst e
                  exact zk_144
                ·
                  have e : mi = 145 := by omega
                  subst e
                  exact zk_145
              ·
                by_cases hs : mi < 147
                ·
                  have e : mi = 146 := by omega
                  subst e
                  exact zk_146
                ·
                  have e : mi = 147 := by omega
                  subst e
                  exact zk_147
        ·
          by_cases hs : mi < 156
          ·
            by_cases hs : mi < 152
            ·
              by_cases hs : mi < 150
              ·
                by_cases hs : mi < 149
                ·
                  have e : mi = 148 := by omega
                  subst e
                  exact zk_148
                ·
                  have e : mi = 149 := by omega
                  subst e
                  exact zk_149
              ·
                by_cases hs : mi < 151
                ·
                  have e : mi = 150 := by omega
                  subst e
                  exact zk_150
                ·
                  have e : mi = 151 := by omega
                  subst e
                  exact zk_151
            ·
              by_cases hs : mi < 154
              ·
                by_cases hs : mi < 153
                ·
                  have e : mi = 152 := by omega
                  subst e
                  exact zk_152
                ·
                  have e : mi = 153 := by omega
                  subst e
                  exact zk_153
              ·
                by_cases hs : mi < 155
                ·
                  have e : mi = 154 := by omega
                  subst e
                  exact zk_154
                ·
                  have e : mi = 155 := by omega
                  subst e
                  exact zk_155
          ·
            by_cases hs : mi < 160
            ·
              by_cases hs : mi < 158
              ·
                by_cases hs : mi < 157
                ·
                  have e : mi = 156 := by omega
                  subst e
                  exact zk_156
                ·
                  have e : mi = 157 := by omega
                  subst e
                  exact zk_157
              ·
                by_cases hs : mi < 159
                ·
                  have e : mi = 158 := by omega
                  subst e
                  exact zk_158
                ·
                  have e : mi = 159 := by omega
                  subst e
                  exact zk_159
            ·
              by_cases hs : mi < 162
              ·
                by_cases hs : mi < 161
                ·
                  have e : mi = 160 := by omega
                  subst e
                  exact zk_160
                ·
                  have e : mi = 161 := by omega
                  subst e
                  exact zk_161
              ·
                by_cases hs : mi < 163
                ·
                  have e : mi = 162 := by omega
                  subst e
                  exact zk_162
                ·
                  by_cases hs : mi < 164
                  ·
                    have e : mi = 163 := by omega
                    subst e
                    exact zk_163
                  ·
                    have e : mi = 164 := by omega
                    subst e
                    exact zk_164
      ·
        by_cases hs : mi < 181
        ·
          by_cases hs : mi < 173
          ·
            by_cases hs : mi < 169
            ·
              by_cases hs : mi < 167
              ·
                by_cases hs : mi < 166
                ·
                  have e : mi = 165 := by omega
                  subst e
                  exact zk_165
                ·
                  have e : mi = 166 := by omega
                  subst e
                  exact zk_166
              ·
                by_cases hs : mi < 168
                ·
                  have e : mi = 167 := by omega
                  subst e
                  exact zk_167
                ·
                  have e : mi = 168 := by omega
                  subst e
                  exact zk_168
            ·
              by_cases hs : mi < 171
              ·
                by_cases hs : mi < 170
                ·
                  have e : mi = 169 := by omega
                  subst e
                  exact zk_169
                ·
                  have e : mi = 170 := by omega
                  subst e
                  exact zk_170
              ·
                by_cases hs : mi < 172
                ·
                  have e : mi = 171 := by omega
                  subst e
                  exact zk_171
                ·
                  have e : mi = 172 := by omega
                  subst e
                  exact zk_172
          ·
            by_cases hs : mi < 177
            ·
              by_cases hs : mi < 175
              ·
                by_cases hs : mi < 174
                ·
                  have e : mi = 173 := by omega
                  subst e
                  exact zk_173
                ·
                  have e : mi = 174 := by omega
                  subst e
                  exact zk_174
              ·
                by_cases hs : mi < 176
                ·
                  have e : mi = 175 := by omega
                  subst e
                  exact zk_175
                ·
                  have e : mi = 176 := by omega
                  subst e
                  exact zk_176
            ·
              by_cases hs : mi < 179
              ·
                by_cases hs : mi < 178
                ·
                  have e : mi = 177 := by omega
                  subst e
                  exact zk_177
                ·
                  have e : mi = 178 := by omega
                  subst e
                  exact zk_178
              ·
                by_cases hs : mi < 180
                ·
                  have e : mi = 179 := by omega
                  subst e
                  exact zk_179
                ·
                  have e : mi = 180 := by omega
                  subst e
                  exact zk_180
        ·
          by_cases hs : mi < 189
          ·
            by_cases hs : mi < 185
            ·
              by_cases hs : mi < 183
              ·
                by_cases hs : mi < 182
                ·
                  have e : mi = 181 := by omega
                  subst e
                  exact zk_181
                ·
                  have e : mi = 182 := by omega
                  subst e
                  exact zk_182
              ·
                by_cases hs : mi < 184
                ·
                  have e : mi = 183 := by omega
                  subst e
                  exact zk_183
                ·
                  have e : mi = 184 := by omega
                  subst e
                  exact zk_184
            ·
              by_cases hs : mi < 187
              ·
                by_cases hs : mi < 186
                ·
                  have e : mi = 185 := by omega
                  subst e
                  exact zk_185
                ·
                  have e : mi = 186 := by omega
                  subst e
                  exact zk_186
              ·
                by_cases hs : mi < 188
                ·
                  have e : mi = 187 := by omega
                  subst e
                  exact zk_187
                ·
                  have e : mi = 188 := by omega
                  subst e
                  exact zk_188
          ·
            by_cases hs : mi < 193
            ·
              by_cases hs : mi < 191
              ·
                by_cases hs : mi < 190
                ·
                  have e : mi = 189 := by omega
                  subst e
                  exact zk_189
                ·
                  have e : mi = 190 := by omega
                  subst e
                  exact zk_190
              ·
                by_cases hs : mi < 192
                ·
                  have e : mi = 191 := by omega
                  subst e
                  exact zk_191
                ·
                  have e : mi = 192 := by omega
                  subst e
                  exact zk_192
            ·
              by_cases hs : mi < 195
              ·
                by_cases hs : mi < 194
                ·
                  have e : mi = 193 := by omega
                  subst e
                  exact zk_193
                ·
                  have e : mi = 194 := by omega
                  subst e
                  exact zk_194
              ·
                by_cases hs : mi < 196
                ·
                  have e : mi = 195 := by omega
                  subst e
                  exact zk_195
                ·
                  by_cases hs : mi < 197
                  ·
                    have e : mi = 196 := by omega
                    subst e
                    exact zk_196
                  ·
                    have e : mi = 197 := by omega
                    subst e
                    exact zk_197
    ·
      by_cases hs : mi < 231
      ·
        by_cases hs : mi < 214
        ·
          by_cases hs : mi < 206
          ·
            by_cases hs : mi < 202
            ·
              by_cases hs : mi < 200
              ·
                by_cases hs : mi < 199
                ·
                  have e : mi = 198 := by omega
                  subst e
                  exact zk_198
                ·
                  have e : mi = 199 := by omega
                  subst e
                  exact zk_199
              ·
                by_cases hs : mi < 201
                ·
                  have e : mi = 200 := by omega
                  subst e
                  exact zk_200
                ·
                  have e : mi = 201 := by omega
                  subst e
                  exact zk_201
            ·
              by_cases hs : mi < 204
              ·
                by_cases hs : mi < 203
                ·
                  have e : mi = 202 := by omega
                  subst e
                  exact zk_202
                ·
                  have e : mi = 203 := by omega
                  subst e
                  exact zk_203
              ·
                by_cases hs : mi < 205
                ·
                  have e : mi = 204 := by omega
                  subst e
                  exact zk_204
                ·
                  have e : mi = 205 := by omega
                  subst e
                  exact zk_205
          ·
            by_cases hs : mi < 210
            ·
              by_cases hs : mi < 208
              ·
                by_cases hs : mi < 207
                ·
                  have e : mi = 206 := by omega
                  subst e
                  exact zk_206
                ·
                  have e : mi = 207 := by omega
                  subst e
                  exact zk_207
              ·
                by_cases hs : mi < 209
                ·
                  have e : mi = 208 := by omega
                  subst e
                  exact zk_208
                ·
                  have e : mi = 209 := by omega
                  subst e
                  exact zk_209
            ·
              by_cases hs : mi < 212
              ·
                by_cases hs : mi < 211
                ·
                  have e : mi = 210 := by omega
                  subst e
                  exact zk_210
                ·
                  have e : mi = 211 := by omega
                  subst e
                  exact zk_211
              ·
                by_cases hs : mi < 213
                ·
                  have e : mi = 212 := by omega
                  subst e
                  exact zk_212
                ·
                  have e : mi = 213 := by omega
                  subst e
                  exact zk_213
        ·
          by_cases hs : mi < 222
          ·
            by_cases hs : mi < 218
            ·
              by_cases hs : mi < 216
              ·
                by_cases hs : mi < 215
                ·
                  have e : mi = 214 := by omega
                  subst e
                  exact zk_214
                ·
                  have e : mi = 215 := by omega
                  subst e
                  exact zk_215
              ·
                by_cases hs : mi < 217
                ·
                  have e : mi = 216 := by omega
                  subst e
                  exact zk_216
                ·
                  have e : mi = 217 := by omega
                  subst e
                  exact zk_217
            ·
              by_cases hs : mi < 220
              ·
                by_cases hs : mi < 219
                ·
                  have e : mi = 218 := by omega
                  subst e
                  exact zk_218
                ·
                  have e : mi = 219 := by omega
                  subst e
                  exact zk_219
              ·
                by_cases hs : mi < 221
                ·
                  have e : mi = 220 := by omega
                  subst e
                  exact zk_220
                ·
                  have e : mi = 221 := by omega
                  subst e
                  exact zk_221
          ·
            by_cases hs : mi < 226
            ·
              by_cases hs : mi < 224
              ·
                by_cases hs : mi < 223
                ·
                  have e : mi = 222 := by omega
                  subst e
                  exact zk_222
                ·
                  have e : mi = 223 := by omega
                  subst e
                  exact zk_223
              ·
                by_cases hs : mi < 225
                ·
                  have e : mi = 224 := by omega
                  subst e
                  exact zk_224
                ·
                  have e : mi = 225 := by omega
                  subst e
                  exact zk_225
            ·
              by_cases hs : mi < 228
              ·
                by_cases hs : mi < 227
                ·
                  have e : mi = 226 := by omega
                  subst e
                  exact zk_226
                ·
                  have e : mi = 227 := by omega
                  subst e
                  exact zk_227
              ·
                by_cases hs : mi < 229
                ·
                  have e : mi = 228 := by omega
                  subst e
                  exact zk_228
                ·
                  by_cases hs : mi < 230
                  ·
                    have e : mi = 229 := by omega
                    subst e
                    exact zk_229
                  ·
                    have e : mi = 230 := by omega
                    subst e
                    exact zk_230
      ·
        by_cases hs : mi < 248
        ·
          by_cases hs : mi < 239
          ·
            by_cases hs : mi < 235
            ·
              by_cases hs : mi < 233
              ·
                by_cases hs : mi < 232
                ·
                  have e : mi = 231 := by omega
                  subst e
                  exact zk_231
                ·
                  have e : mi = 232 := by omega
                  subst e
                  exact zk_232
              ·
                by_cases hs : mi < 234
                ·
                  have e : mi = 233 := by omega
                  subst e
                  exact zk_233
                ·
                  have e : mi = 234 := by omega
                  subst e
                  exact zk_234
            ·
              by_cases hs : mi < 237
              ·
                by_cases hs : mi < 236
                ·
                  have e : mi = 235 := by omega
                  subst e
                  exact zk_235
                ·
                  have e : mi = 236 := by omega
                  subst e
                  exact zk_236
              ·
                by_cases hs : mi < 238
                ·
                  have e : mi = 237 := by omega
                  subst e
                  exact zk_237
                ·
                  have e : mi = 238 := by omega
                  subst e
                  exact zk_238
          ·
            by_cases hs : mi < 243
            ·
              by_cases hs : mi < 241
              ·
                by_cases hs : mi < 240
                ·
                  have e : mi = 239 := by omega
                  subst e
                  exact zk_239
                ·
                  have e : mi = 240 := by omega
                  subst e
                  exact zk_240
              ·
                by_cases hs : mi < 242
                ·
                  have e : mi = 241 := by omega
                  subst e
                  exact zk_241
                ·
                  have e : mi = 242 := by omega
                  subst e
                  exact zk_242
            ·
              by_cases hs : mi < 245
              ·
                by_cases hs : mi < 244
                ·
                  have e : mi = 243 := by omega
                  subst e
                  exact zk_243
                ·
                  have e : mi = 244 := by omega
                  subst e
                  exact zk_244
              ·
                by_cases hs : mi < 246
                ·
                  have e : mi = 245 := by omega
                  subst e
                  exact zk_245
                ·
                  by_cases hs : mi < 247
                  ·
                    have e : mi = 246 := by omega
                    subst e
                    exact zk_246
                  ·
                    have e : mi = 247 := by omega
                    subst e
                    exact zk_247
        ·
          by_cases hs : mi < 256
          ·
            by_cases hs : mi < 252
            ·
              by_cases hs : mi < 250
              ·
                by_cases hs : mi < 249
                ·
                  have e : mi = 248 := by omega
                  subst e
                  exact zk_248
                ·
                  have e : mi = 249 := by omega
                  subst e
                  exact zk_249
              ·
                by_cases hs : mi < 251
                ·
                  have e : mi = 250 := by omega
                  subst e
                  exact zk_250
                ·
                  have e : mi = 251 := by omega
                  subst e
                  exact zk_251
            ·
              by_cases hs : mi < 254
              ·
                by_cases hs : mi < 253
                ·
                  have e : mi = 252 := by omega
                  subst e
                  exact zk_252
                ·
                  have e : mi = 253 := by omega
                  subst e
                  exact zk_253
              ·
                by_cases hs : mi < 255
                ·
                  have e : mi = 254 := by omega
                  subst e
                  exact zk_254
                ·
                  have e : mi = 255 := by omega
                  subst e
                  exact zk_255
          ·
            by_cases hs : mi < 260
            ·
              by_cases hs : mi < 258
              ·
                by_cases hs : mi < 257
                ·
                  have e : mi = 256 := by omega
                  subst e
                  exact zk_256
                ·
                  have e : mi = 257 := by omega
                  subst e
                  exact zk_257
              ·
                by_cases hs : mi < 259
                ·
                  have e : mi = 258 := by omega
                  subst e
                  exact zk_258
                ·
                  have e : mi = 259 := by omega
                  subst e
                  exact zk_259
            ·
              by_cases hs : mi < 262
              ·
                by_cases hs : mi < 261
                ·
                  have e : mi = 260 := by omega
                  subst e
                  exact zk_260
                ·
                  have e : mi = 261 := by omega
                  subst e
                  exact zk_261
              ·
                by_cases hs : mi < 263
                ·
                  have e : mi = 262 := by omega
                  subst e
                  exact zk_262
                ·
                  by_cases hs : mi < 264
                  ·
                    have e : mi = 263 := by omega
                    subst e
                    exact zk_263
                  ·
                    have e : mi = 264 := by omega
                    subst e
                    exact zallL
theorem zhM : ∀ mi, mi < 264 → zPm mi := by
  intro mi hmi
  by_cases hs : mi < 132
  ·
    by_cases hs : mi < 66
    ·
      by_cases hs : mi < 33
      ·
        by_cases hs : mi < 16
        ·
          by_cases hs : mi < 8
          ·
            by_cases hs : mi < 4
            ·
              by_cases hs : mi < 2
              ·
                by_cases hs : mi < 1
                ·
                  have e : mi = 0 := by omega
                  subst e
                  exact zm_0
                ·
                  have e : mi = 1 := by omega
                  subst e
                  exact zm_1
              ·
                by_cases hs : mi < 3
                ·
                  have e : mi = 2 := by omega
                  subst e
                  exact zm_2
                ·
                  have e : mi = 3 := by omega
                  subst e
                  exact zm_3
            ·
              by_cases hs : mi < 6
              ·
                by_cases hs : mi < 5
                ·
                  have e : mi = 4 := by omega
                  subst e
                  exact zm_4
                ·
                  have e : mi = 5 := by omega
                  subst e
                  exact zm_5
              ·
                by_cases hs : mi < 7
                ·
                  have e : mi = 6 := by omega
                  subst e
                  exact zm_6
                ·
                  have e : mi = 7 := by omega
                  subst e
                  exact zm_7
          ·
            by_cases hs : mi < 12
            ·
              by_cases hs : mi < 10
              ·
                by_cases hs : mi < 9
                ·
                  have e : mi = 8 := by omega
                  subst e
                  exact zm_8
                ·
                  have e : mi = 9 := by omega
                  subst e
                  exact zm_9
              ·
                by_cases hs : mi < 11
                ·
                  have e : mi = 10 := by omega
                  subst e
                  exact zm_10
                ·
                  have e : mi = 11 := by omega
                  subst e
                  exact zm_11
            ·
              by_cases hs : mi < 14
              ·
                by_cases hs : mi < 13
                ·
                  have e : mi = 12 := by omega
                  subst e
                  exact zm_12
                ·
                  have e : mi = 13 := by omega
                  subst e
                  exact zm_13
              ·
                by_cases hs : mi < 15
                ·
                  have e : mi = 14 := by omega
                  subst e
                  exact zm_14
                ·
                  have e : mi = 15 := by omega
                  subst e
                  exact zm_15
        ·
          by_cases hs : mi < 24
          ·
            by_cases hs : mi < 20
            ·
              by_cases hs : mi < 18
              ·
                by_cases hs : mi < 17
                ·
                  have e : mi = 16 := by omega
                  subst e
                  exact zm_16
                ·
                  have e : mi = 17 := by omega
                  subst e
                  exact zm_17
              ·
                by_cases hs : mi < 19
                ·
                  have e : mi = 18 := by omega
                  subst e
                  exact zm_18
                ·
                  have e : mi = 19 := by omega
                  subst e
                  exact zm_19
            ·
              by_cases hs : mi < 22
              ·
                by_cases hs : mi < 21
                ·
                  have e : mi = 20 := by omega
                  subst e
                  exact zm_20
                ·
                  have e : mi = 21 := by omega
                  subst e
                  exact zm_21
              ·
                by_cases hs : mi < 23
                ·
                  have e : mi = 22 := by omega
                  subst e
                  exact zm_22
                ·
                  have e : mi = 23 := by omega
                  subst e
                  exact zm_23
          ·
            by_cases hs : mi < 28
            ·
              by_cases hs : mi < 26
              ·
                by_cases hs : mi < 25
                ·
                  have e : mi = 24 := by omega
                  subst e
                  exact zm_24
                ·
                  have e : mi = 25 := by omega
                  subst e
                  exact zm_25
              ·
                by_cases hs : mi < 27
                ·
                  have e : mi = 26 := by omega
                  subst e
                  exact zm_26
                ·
                  have e : mi = 27 := by omega
                  subst e
                  exact zm_27
            ·
              by_cases hs : mi < 30
              ·
                by_cases hs : mi < 29
                ·
                  have e : mi = 28 := by omega
                  subst e
                  exact zm_28
                ·
                  have e : mi = 29 := by omega
                  subst e
                  exact zm_29
              ·
                by_cases hs : mi < 31
                ·
                  have e : mi = 30 := by omega
                  subst e
                  exact zm_30
                ·
                  by_cases hs : mi < 32
                  ·
                    have e : mi = 31 := by omega
                    subst e
                    exact zm_31
                  ·
                    have e : mi = 32 := by omega
                    subst e
                    exact zm_32
      ·
        by_cases hs : mi < 49
        ·
          by_cases hs : mi < 41
          ·
            by_cases hs : mi < 37
            ·
              by_cases hs : mi < 35
              ·
                by_cases hs : mi < 34
                ·
                  have e : mi = 33 := by omega
                  subst e
                  exact zm_33
                ·
                  have e : mi = 34 := by omega
                  subst e
                  exact zm_34
              ·
                by_cases hs : mi < 36
                ·
                  have e : mi = 35 := by omega
                  subst e
                  exact zm_35
                ·
                  have e : mi = 36 := by omega
                  subst e
                  exact zm_36
            ·
              by_cases hs : mi < 39
              ·
                by_cases hs : mi < 38
                ·
                  have e : mi = 37 := by omega
                  subst e
                  exact zm_37
                ·
                  have e : mi = 38 := by omega
                  subst e
                  exact zm_38
              ·
                by_cases hs : mi < 40
                ·
                  have e : mi = 39 := by omega
                  subst e
                  exact zm_39
                ·
                  have e : mi = 40 := by omega
                  subst e
                  exact zm_40
          ·
            by_cases hs : mi < 45
            ·
              by_cases hs : mi < 43
              ·
                by_cases hs : mi < 42
                ·
                  have e : mi = 41 := by omega
                  subst e
                  exact zm_41
                ·
                  have e : mi = 42 := by omega
                  subst e
                  exact zm_42
              ·
                by_cases hs : mi < 44
                ·
                  have e : mi = 43 := by omega
                  subst e
                  exact zm_43
                ·
                  have e : mi = 44 := by omega
                  subst e
                  exact zm_44
            ·
              by_cases hs : mi < 47
              ·
                by_cases hs : mi < 46
                ·
                  have e : mi = 45 := by omega
                  subst e
                  exact zm_45
                ·
                  have e : mi = 46 := by omega
                  subst e
                  exact zm_46
              ·
                by_cases hs : mi < 48
                ·
                  have e : mi = 47 := by omega
                  subst e
                  exact zm_47
                ·
                  have e : mi = 48 := by omega
                  subst e
                  exact zm_48
        ·
          by_cases hs : mi < 57
          ·
            by_cases hs : mi < 53
            ·
              by_cases hs : mi < 51
              ·
                by_cases hs : mi < 50
                ·
                  have e : mi = 49 := by omega
                  subst e
                  exact zm_49
                ·
                  have e : mi = 50 := by omega
                  subst e
                  exact zm_50
              ·
                by_cases hs : mi < 52
                ·
                  have e : mi = 51 := by omega
                  subst e
                  exact zm_51
                ·
                  have e : mi = 52 := by omega
                  subst e
                  exact zm_52
            ·
              by_cases hs : mi < 55
              ·
                by_cases hs : mi < 54
                ·
                  have e : mi = 53 := by omega
                  subst e
                  exact zm_53
                ·
                  have e : mi = 54 := by omega
                  subst e
                  exact zm_54
              ·
                by_cases hs : mi < 56
                ·
                  have e : mi = 55 := by omega
                  subst e
                  exact zm_55
                ·
                  have e : mi = 56 := by omega
                  subst e
                  exact zm_56
          ·
            by_cases hs : mi < 61
            ·
              by_cases hs : mi < 59
              ·
                by_cases hs : mi < 58
                ·
                  have e : mi = 57 := by omega
                  subst e
                  exact zm_57
                ·
                  have e : mi = 58 := by omega
                  subst e
                  exact zm_58
              ·
                by_cases hs : mi < 60
                ·
                  have e : mi = 59 := by omega
                  subst e
                  exact zm_59
                ·
                  have e : mi = 60 := by omega
                  subst e
                  exact zm_60
            ·
              by_cases hs : mi < 63
              ·
                by_cases hs : mi < 62
                ·
                  have e : mi = 61 := by omega
                  subst e
                  exact zm_61
                ·
                  have e : mi = 62 := by omega
                  subst e
                  exact zm_62
              ·
                by_cases hs : mi < 64
                ·
                  have e : mi = 63 := by omega
                  subst e
                  exact zm_63
                ·
                  by_cases hs : mi < 65
                  ·
                    have e : mi = 64 := by omega
                    subst e
                    exact zm_64
                  ·
                    have e : mi = 65 := by omega
                    subst e
                    exact zm_65
    ·
      by_cases hs : mi < 99
      ·
        by_cases hs : mi < 82
        ·
          by_cases hs : mi < 74
          ·
            by_cases hs : mi < 70
            ·
              by_cases hs : mi < 68
              ·
                by_cases hs : mi < 67
                ·
                  have e : mi = 66 := by omega
                  subst e
                  exact zm_66
                ·
                  have e : mi = 67 := by omega
                  subst e
                  exact zm_67
              ·
                by_cases hs : mi < 69
                ·
                  have e : mi = 68 := by omega
                  subst e
                  exact zm_68
                ·
                  have e : mi = 69 := by omega
                  subst e
                  exact zm_69
            ·
              by_cases hs : mi < 72
              ·
                by_cases hs : mi < 71
                ·
                  have e : mi = 70 := by omega
                  subst e
                  exact zm_70
                ·
                  have e : mi = 71 := by omega
                  subst e
                  exact zm_71
              ·
                by_cases hs : mi < 73
                ·
                  have e : mi = 72 := by omega
                  subst e
                  exact zm_72
                ·
                  have e : mi = 73 := by omega
                  subst e
                  exact zm_73
          ·
            by_cases hs : mi < 78
            ·
              by_cases hs : mi < 76
              ·
                by_cases hs : mi < 75
                ·
                  have e : mi = 74 := by omega
                  subst e
                  exact zm_74
                ·
                  have e : mi = 75 := by omega
                  subst e
                  exact zm_75
              ·
                by_cases hs : mi < 77
                ·
                  have e : mi = 76 := by omega
                  subst e
                  exact zm_76
                ·
                  have e : mi = 77 := by omega
                  subst e
                  exact zm_77
            ·
              by_cases hs : mi < 80
              ·
                by_cases hs : mi < 79
                ·
                  have e : mi = 78 := by omega
                  subst e
                  exact zm_78
                ·
                  have e : mi = 79 := by omega
                  subst e
                  exact zm_79
              ·
                by_cases hs : mi < 81
                ·
                  have e : mi = 80 := by omega
                  subst e
                  exact zm_80
                ·
                  have e : mi = 81 := by omega
                  subst e
                  exact zm_81
        ·
          by_cases hs : mi < 90
          ·
            by_cases hs : mi < 86
            ·
              by_cases hs : mi < 84
              ·
                by_cases hs : mi < 83
                ·
                  have e : mi = 82 := by omega
                  subst e
                  exact zm_82
                ·
                  have e : mi = 83 := by omega
                  subst e
                  exact zm_83
              ·
                by_cases hs : mi < 85
                ·
                  have e : mi = 84 := by omega
                  subst e
                  exact zm_84
                ·
                  have e : mi = 85 := by omega
                  subst e
                  exact zm_85
            ·
              by_cases hs : mi < 88
              ·
                by_cases hs : mi < 87
                ·
                  have e : mi = 86 := by omega
                  subst e
                  exact zm_86
                ·
                  have e : mi = 87 := by omega
                  subst e
                  exact zm_87
              ·
                by_cases hs : mi < 89
                ·
                  have e : mi = 88 := by omega
                  subst e
                  exact zm_88
                ·
                  have e : mi = 89 := by omega
                  subst e
                  exact zm_89
          ·
            by_cases hs : mi < 94
            ·
              by_cases hs : mi < 92
              ·
                by_cases hs : mi < 91
                ·
                  have e : mi = 90 := by omega
                  subst e
                  exact zm_90
                ·
                  have e : mi = 91 := by omega
                  subst e
                  exact zm_91
              ·
                by_cases hs : mi < 93
                ·
                  have e : mi = 92 := by omega
                  subst e
                  exact zm_92
                ·
                  have e : mi = 93 := by omega
                  subst e
                  exact zm_93
            ·
              by_cases hs : mi < 96
              ·
                by_cases hs : mi < 95
                ·
                  have e : mi = 94 := by omega
                  subst e
                  exact zm_94
                ·
                  have e : mi = 95 := by omega
                  subst e
                  exact zm_95
              ·
                by_cases hs : mi < 97
                ·
                  have e : mi = 96 := by omega
                  subst e
                  exact zm_96
                ·
                  by_cases hs : mi < 98
                  ·
                    have e : mi = 97 := by omega
                    subst e
                    exact zm_97
                  ·
                    have e : mi = 98 := by omega
                    subst e
                    exact zm_98
      ·
        by_cases hs : mi < 115
        ·
          by_cases hs : mi < 107
          ·
            by_cases hs : mi < 103
            ·
              by_cases hs : mi < 101
              ·
                by_cases hs : mi < 100
                ·
                  have e : mi = 99 := by omega
                  subst e
                  exact zm_99
                ·
                  have e : mi = 100 := by omega
                  subst e
                  exact zm_100
              ·
                by_cases hs : mi < 102
                ·
                  have e : mi = 101 := by omega
                  subst e
                  exact zm_101
                ·
                  have e : mi = 102 := by omega
                  subst e
                  exact zm_102
            ·
              by_cases hs : mi < 105
              ·
                by_cases hs : mi < 104
                ·
                  have e : mi = 103 := by omega
                  subst e
                  exact zm_103
                ·
                  have e : mi = 104 := by omega
                  subst e
                  exact zm_104
              ·
                by_cases hs : mi < 106
                ·
                  have e : mi = 105 := by omega
                  subst e
                  exact zm_105
                ·
                  have e : mi = 106 := by omega
                  subst e
                  exact zm_106
          ·
            by_cases hs : mi < 111
            ·
              by_cases hs : mi < 109
              ·
                by_cases hs : mi < 108
                ·
                  have e : mi = 107 := by omega
                  subst e
                  exact zm_107
                ·
                  have e : mi = 108 := by omega
                  subst e
                  exact zm_108
              ·
                by_cases hs : mi < 110
                ·
                  have e : mi = 109 := by omega
                  subst e
                  exact zm_109
                ·
                  have e : mi = 110 := by omega
                  subst e
                  exact zm_110
            ·
              by_cases hs : mi < 113
              ·
                by_cases hs : mi < 112
                ·
                  have e : mi = 111 := by omega
                  subst e
                  exact zm_111
                ·
                  have e : mi = 112 := by omega
                  subst e
                  exact zm_112
              ·
                by_cases hs : mi < 114
                ·
                  have e : mi = 113 := by omega
                  subst e
                  exact zm_113
                ·
                  have e : mi = 114 := by omega
                  subst e
                  exact zm_114
        ·
          by_cases hs : mi < 123
          ·
            by_cases hs : mi < 119
            ·
              by_cases hs : mi < 117
              ·
                by_cases hs : mi < 116
                ·
                  have e : mi = 115 := by omega
                  subst e
                  exact zm_115
                ·
                  have e : mi = 116 := by omega
                  subst e
                  exact zm_116
              ·
                by_cases hs : mi < 118
                ·
                  have e : mi = 117 := by omega
                  subst e
                  exact zm_117
                ·
                  have e : mi = 118 := by omega
                  subst e
                  exact zm_118
            ·
              by_cases hs : mi < 121
              ·
                by_cases hs : mi < 120
                ·
                  have e : mi = 119 := by omega
                  subst e
                  exact zm_119
                ·
                  have e : mi = 120 := by omega
                  subst e
                  exact zm_120
              ·
                by_cases hs : mi < 122
                ·
                  have e : mi = 121 := by omega
                  subst e
                  exact zm_121
                ·
                  have e : mi = 122 := by omega
                  subst e
                  exact zm_122
          ·
            by_cases hs : mi < 127
            ·
              by_cases hs : mi < 125
              ·
                by_cases hs : mi < 124
                ·
                  have e : mi = 123 := by omega
                  subst e
                  exact zm_123
                ·
                  have e : mi = 124 := by omega
                  subst e
                  exact zm_124
              ·
                by_cases hs : mi < 126
                ·
                  have e : mi = 125 := by omega
                  subst e
                  exact zm_125
                ·
                  have e : mi = 126 := by omega
                  subst e
                  exact zm_126
            ·
              by_cases hs : mi < 129
              ·
                by_cases hs : mi < 128
                ·
                  have e : mi = 127 := by omega
                  subst e
                  exact zm_127
                ·
                  have e : mi = 128 := by omega
                  subst e
                  exact zm_128
              ·
                by_cases hs : mi < 130
                ·
                  have e : mi = 129 := by omega
                  subst e
                  exact zm_129
                ·
                  by_cases hs : mi < 131
                  ·
                    have e : mi = 130 := by omega
                    subst e
                    exact zm_130
                  ·
                    have e : mi = 131 := by omega
                    subst e
                    exact zm_131
  ·
    by_cases hs : mi < 198
    ·
      by_cases hs : mi < 165
      ·
        by_cases hs : mi < 148
        ·
          by_cases hs : mi < 140
          ·
            by_cases hs : mi < 136
            ·
              by_cases hs : mi < 134
              ·
                by_cases hs : mi < 133
                ·
                  have e : mi = 132 := by omega
                  subst e
                  exact zm_132
                ·
                  have e : mi = 133 := by omega
                  subst e
                  exact zm_133
              ·
                by_cases hs : mi < 135
                ·
                  have e : mi = 134 := by omega
                  subst e
                  exact zm_134
                ·
                  have e : mi = 135 := by omega
                  subst e
                  exact zm_135
            ·
              by_cases hs : mi < 138
              ·
                by_cases hs : mi < 137
                ·
                  have e : mi = 136 := by omega
                  subst e
                  exact zm_136
                ·
                  have e : mi = 137 := by omega
                  subst e
                  exact zm_137
              ·
                by_cases hs : mi < 139
                ·
                  have e : mi = 138 := by omega
                  subst e
                  exact zm_138
                ·
                  have e : mi = 139 := by omega
                  subst e
                  exact zm_139
          ·
            by_cases hs : mi < 144
            ·
              by_cases hs : mi < 142
              ·
                by_cases hs : mi < 141
                ·
                  have e : mi = 140 := by omega
                  subst e
                  exact zm_140
                ·
                  have e : mi = 141 := by omega
                  subst e
                  exact zm_141
              ·
                by_cases hs : mi < 143
                ·
                  have e : mi = 142 := by omega
                  subst e
                  exact zm_142
                ·
                  have e : mi = 143 := by omega
                  subst e
                  exact zm_143
            ·
              by_cases hs : mi < 146
              ·
                by_cases hs : mi < 145
                ·
                  have e : mi = 144 := by omega
                  subst e
                  exact zm_144
                ·
                  have e : mi = 145 := by omega
                  subst e
                  exact zm_145
              ·
                by_cases hs : mi < 147
                ·
                  have e : mi = 146 := by omega
                  subst e
                  exact zm_146
                ·
                  have e : mi = 147 := by omega
                  subst e
                  exact zm_147
        ·
          by_cases hs : mi < 156
          ·
            by_cases hs : mi < 152
            ·
              by_cases hs : mi < 150
              ·
                by_cases hs : mi < 149
                ·
                  have e : mi = 148 := by omega
                  subst e
                  exact zm_148
                ·
                  have e : mi = 149 := by omega
                  subst e
                  exact zm_149
              ·
                by_cases hs : mi < 151
                ·
                  have e : mi = 150 := by omega
                  subst e
                  exact zm_150
                ·
                  have e : mi = 151 := by omega
                  subst e
                  exact zm_151
            ·
              by_cases hs : mi < 154
              ·
                by_cases hs : mi < 153
                ·
                  have e : mi = 152 := by omega
                  subst e
                  exact zm_152
                ·
                  have e : mi = 153 := by omega
                  subst e
                  exact zm_153
              ·
                by_cases hs : mi < 155
                ·
                  have e : mi = 154 := by omega
                  subst e
                  exact zm_154
                ·
                  have e : mi = 155 := by omega
                  subst e
                  exact zm_155
          ·
            by_cases hs : mi < 160
            ·
              by_cases hs : mi < 158
              ·
                by_cases hs : mi < 157
                ·
                  have e : mi = 156 := by omega
                  subst e
                  exact zm_156
                ·
                  have e : mi = 157 := by omega
                  subst e
                  exact zm_157
              ·
                by_cases hs : mi < 159
                ·
                  have e : mi = 158 := by omega
                  subst e
                  exact zm_158
                ·
                  have e : mi = 159 := by omega
                  subst e
                  exact zm_159
            ·
              by_cases hs : mi < 162
              ·
                by_cases hs : mi < 161
                ·
                  have e : mi = 160 := by omega
                  subst e
                  exact zm_160
                ·
                  have e : mi = 161 := by omega
                  subst e
                  exact zm_161
              ·
                by_cases hs : mi < 163
                ·
                  have e : mi = 162 := by omega
                  subst e
                  exact zm_162
                ·
                  by_cases hs : mi < 164
                  ·
                    have e : mi = 163 := by omega
                    subst e
                    exact zm_163
                  ·
                    have e : mi = 164 := by omega
                    subst e
                    exact zm_164
      ·
        by_cases hs : mi < 181
        ·
          by_cases hs : mi < 173
          ·
            by_cases hs : mi < 169
            ·
              by_cases hs : mi < 167
              ·
                by_cases hs : mi < 166
                ·
                  have e : mi = 165 := by omega
                  subst e
                  exact zm_165
                ·
                  have e : mi = 166 := by omega
                  subst e
                  exact zm_166
              ·
                by_cases hs : mi < 168
                ·
                  have e : mi = 167 := by omega
                  subst e
                  exact zm_167
                ·
                  have e : mi = 168 := by omega
                  subst e
                  exact zm_168
            ·
              by_cases hs : mi < 171
              ·
                by_cases hs : mi < 170
                ·
                  have e : mi = 169 := by omega
                  subst e
                  exact zm_169
                ·
                  have e : mi = 170 := by omega
                  subst e
                  exact zm_170
              ·
                by_cases hs : mi < 172
                ·
                  have e : mi = 171 := by omega
                  subst e
                  exact zm_171
                ·
                  have e : mi = 172 := by omega
                  subst e
                  exact zm_172
          ·
            by_cases hs : mi < 177
            ·
              by_cases hs : mi < 175
              ·
                by_cases hs : mi < 174
                ·
                  have e : mi = 173 := by omega
                  subst e
                  exact zm_173
                ·
                  have e : mi = 174 := by omega
                  subst e
                  exact zm_174
              ·
                by_cases hs : mi < 176
                ·
                  have e : mi = 175 := by omega
                  subst e
                  exact zm_175
                ·
                  have e : mi = 176 := by omega
                  subst e
                  exact zm_176
            ·
              by_cases hs : mi < 179
              ·
                by_cases hs : mi < 178
                ·
                  have e : mi = 177 := by omega
                  subst e
                  exact zm_177
                ·
                  have e : mi = 178 := by omega
                  subst e
                  exact zm_178
              ·
                by_cases hs : mi < 180
                ·
                  have e : mi = 179 := by omega
                  subst e
                  exact zm_179
                ·
                  have e : mi = 180 := by omega
                  subst e
                  exact zm_180
        ·
          by_cases hs : mi < 189
          ·
            by_cases hs : mi < 185
            ·
              by_cases hs : mi < 183
              ·
                by_cases hs : mi < 182
                ·
                  have e : mi = 181 := by omega
                  subst e
                  exact zm_181
                ·
                  have e : mi = 182 := by omega
                  subst e
                  exact zm_182
              ·
                by_cases hs : mi < 184
                ·
                  have e : mi = 183 := by omega
                  subst e
                  exact zm_183
                ·
                  have e : mi = 184 := by omega
                  subst e
                  exact zm_184
            ·
              by_cases hs : mi < 187
              ·
                by_cases hs : mi < 186
                ·
                  have e : mi = 185 := by omega
                  subst e
                  exact zm_185
                ·
                  have e : mi = 186 := by omega
                  subst e
                  exact zm_186
              ·
                by_cases hs : mi < 188
                ·
                  have e : mi = 187 := by omega
                  subst e
                  exact zm_187
                ·
                  have e : mi = 188 := by omega
                  subst e
                  exact zm_188
          ·
            by_cases hs : mi < 193
            ·
              by_cases hs : mi < 191
              ·
                by_cases hs : mi < 190
                ·
                  have e : mi = 189 := by omega
                  subst e
                  exact zm_189
                ·
                  have e : mi = 190 := by omega
                  subst e
                  exact zm_190
              ·
                by_cases hs : mi < 192
                ·
                  have e : mi = 191 := by omega
                  subst e
                  exact zm_191
                ·
                  have e : mi = 192 := by omega
                  subst e
                  exact zm_192
            ·
              by_cases hs : mi < 195
              ·
                by_cases hs : mi < 194
                ·
                  have e : mi = 193 := by omega
                  subst e
                  exact zm_193
                ·
                  have e : mi = 194 := by omega
                  subst e
                  exact zm_194
              ·
                by_cases hs : mi < 196
                ·
                  have e : mi = 195 := by omega
                  subst e
                  exact zm_195
                ·
                  by_cases hs : mi < 197
                  ·
                    have e : mi = 196 := by omega
                    subst e
                    exact zm_196
                  ·
                    have e : mi = 197 := by omega
                    subst e
                    exact zm_197
    ·
      by_cases hs : mi < 231
      ·
        by_cases hs : mi < 214
        ·
          by_cases hs : mi < 206
          ·
            by_cases hs : mi < 202
            ·
              by_cases hs : mi < 200
              ·
                by_cases hs : mi < 199
                ·
                  have e : mi = 198 := by omega
                  subst e
                  exact zm_198
                ·
                  have e : mi = 199 := by omega
                  subst e
                  exact zm_199
              ·
                by_cases hs : mi < 201
                ·
                  have e : mi = 200 := by omega
                  subst e
                  exact zm_200
                ·
                  have e : mi = 201 := by omega
                  subst e
                  exact zm_201
            ·
              by_cases hs : mi < 204
              ·
                by_cases hs : mi < 203
                ·
                  have e : mi = 202 := by omega
                  subst e
                  exact zm_202
                ·
                  have e : mi = 203 := by omega
                  subst e
                  exact zm_203
              ·
                by_cases hs : mi < 205
                ·
                  have e : mi = 204 := by omega
                  subst e
                  exact zm_204
                ·
                  have e : mi = 205 := by omega
                  subst e
                  exact zm_205
          ·
            by_cases hs : mi < 210
            ·
              by_cases hs : mi < 208
              ·
                by_cases hs : mi < 207
                ·
                  have e : mi = 206 := by omega
                  subst e
                  exact zm_206
                ·
                  have e : mi = 207 := by omega
                  subst e
                  exact zm_207
              ·
                by_cases hs : mi < 209
                ·
                  have e : mi = 208 := by omega
                  subst e
                  exact zm_208
                ·
                  have e : mi = 209 := by omega
                  subst e
                  exact zm_209
            ·
              by_cases hs : mi < 212
              ·
                by_cases hs : mi < 211
                ·
                  have e : mi = 210 := by omega
                  subst e
                  exact zm_210
                ·
                  have e : mi = 211 := by omega
                  subst e
                  exact zm_211
              ·
                by_cases hs : mi < 213
                ·
                  have e : mi = 212 := by omega
                  subst e
                  exact zm_212
                ·
                  have e : mi = 213 := by omega
                  subst e
                  exact zm_213
        ·
          by_cases hs : mi < 222
          ·
            by_cases hs : mi < 218
            ·
              by_cases hs : mi < 216
              ·
                by_cases hs : mi < 215
                ·
                  have e : mi = 214 := by omega
                  subst e
                  exact zm_214
                ·
                  have e : mi = 215 := by omega
                  subst e
                  exact zm_215
              ·
                by_cases hs : mi < 217
                ·
                  have e : mi = 216 := by omega
                  subst e
                  exact zm_216
                ·
                  have e : mi = 217 := by omega
                  subst e
                  exact zm_217
            ·
              by_cases hs : mi < 220
              ·
                by_cases hs : mi < 219
                ·
                  have e : mi = 218 := by omega
                  subst e
                  exact zm_218
                ·
                  have e : mi = 219 := by omega
                  subst e
                  exact zm_219
              ·
                by_cases hs : mi < 221
                ·
                  have e : mi = 220 := by omega
                  subst e
                  exact zm_220
                ·
                  have e : mi = 221 := by omega
                  subst e
                  exact zm_221
          ·
            by_cases hs : mi < 226
            ·
              by_cases hs : mi < 224
              ·
                by_cases hs : mi < 223
                ·
                  have e : mi = 222 := by omega
                  subst e
                  exact zm_222
                ·
                  have e : mi = 223 := by omega
                  subst e
                  exact zm_223
              ·
                by_cases hs : mi < 225
                ·
                  have e : mi = 224 := by omega
                  subst e
                  exact zm_224
                ·
                  have e : mi = 225 := by omega
                  subst e
                  exact zm_225
            ·
              by_cases hs : mi < 228
              ·
                by_cases hs : mi < 227
                ·
                  have e : mi = 226 := by omega
                  subst e
                  exact zm_226
                ·
                  have e : mi = 227 := by omega
                  subst e
                  exact zm_227
              ·
                by_cases hs : mi < 229
                ·
                  have e : mi = 228 := by omega
                  subst e
                  exact zm_228
                ·
                  by_cases hs : mi < 230
                  ·
                    have e : mi = 229 := by omega
                    subst e
                    exact zm_229
                  ·
                    have e : mi = 230 := by omega
                    subst e
                    exact zm_230
      ·
        by_cases hs : mi < 247
        ·
          by_cases hs : mi < 239
          ·
            by_cases hs : mi < 235
            ·
              by_cases hs : mi < 233
              ·
                by_cases hs : mi < 232
                ·
                  have e : mi = 231 := by omega
                  subst e
                  exact zm_231
                ·
                  have e : mi = 232 := by omega
                  subst e
                  exact zm_232
              ·
                by_cases hs : mi < 234
                ·
                  have e : mi = 233 := by omega
                  subst e
                  exact zm_233
                ·
                  have e : mi = 234 := by omega
                  subst e
                  exact zm_234
            ·
              by_cases hs : mi < 237
              ·
                by_cases hs : mi < 236
                ·
                  have e : mi = 235 := by omega
                  subst e
                  exact zm_235
                ·
                  have e : mi = 236 := by omega
                  subst e
                  exact zm_236
              ·
                by_cases hs : mi < 238
                ·
                  have e : mi = 237 := by omega
                  subst e
                  exact zm_237
                ·
                  have e : mi = 238 := by omega
                  subst e
                  exact zm_238
          ·
            by_cases hs : mi < 243
            ·
              by_cases hs : mi < 241
              ·
                by_cases hs : mi < 240
                ·
                  have e : mi = 239 := by omega
                  subst e
                  exact zm_239
                ·
                  have e : mi = 240 := by omega
                  subst e
                  exact zm_240
              ·
                by_cases hs : mi < 242
                ·
                  have e : mi = 241 := by omega
                  subst e
                  exact zm_241
                ·
                  have e : mi = 242 := by omega
                  subst e
                  exact zm_242
            ·
              by_cases hs : mi < 245
              ·
                by_cases hs : mi < 244
                ·
                  have e : mi = 243 := by omega
                  subst e
                  exact zm_243
                ·
                  have e : mi = 244 := by omega
                  subst e
                  exact zm_244
              ·
                by_cases hs : mi < 246
                ·
                  have e : mi = 245 := by omega
                  subst e
                  exact zm_245
                ·
                  have e : mi = 246 := by omega
                  subst e
                  exact zm_246
        ·
          by_cases hs : mi < 255
          ·
            by_cases hs : mi < 251
            ·
              by_cases hs : mi < 249
              ·
                by_cases hs : mi < 248
                ·
                  have e : mi = 247 := by omega
                  subst e
                  exact zm_247
                ·
                  have e : mi = 248 := by omega
                  subst e
                  exact zm_248
              ·
                by_cases hs : mi < 250
                ·
                  have e : mi = 249 := by omega
                  subst e
                  exact zm_249
                ·
                  have e : mi = 250 := by omega
                  subst e
                  exact zm_250
            ·
              by_cases hs : mi < 253
              ·
                by_cases hs : mi < 252
                ·
                  have e : mi = 251 := by omega
                  subst e
                  exact zm_251
                ·
                  have e : mi = 252 := by omega
                  subst e
                  exact zm_252
              ·
                by_cases hs : mi < 254
                ·
                  have e : mi = 253 := by omega
                  subst e
                  exact zm_253
                ·
                  have e : mi = 254 := by omega
                  subst e
                  exact zm_254
          ·
            by_cases hs : mi < 259
            ·
              by_cases hs : mi < 257
              ·
                by_cases hs : mi < 256
                ·
                  have e : mi = 255 := by omega
                  subst e
                  exact zm_255
                ·
                  have e : mi = 256 := by omega
                  subst e
                  exact zm_256
              ·
                by_cases hs : mi < 258
                ·
                  have e : mi = 257 := by omega
                  subst e
                  exact zm_257
                ·
                  have e : mi = 258 := by omega
                  subst e
                  exact zm_258
            ·
              by_cases hs : mi < 261
              ·
                by_cases hs : mi < 260
                ·
                  have e : mi = 259 := by omega
                  subst e
                  exact zm_259
                ·
                  have e : mi = 260 := by omega
                  subst e
                  exact zm_260
              ·
                by_cases hs : mi < 262
                ·
                  have e : mi = 261 := by omega
                  subst e
                  exact zm_261
                ·
                  by_cases hs : mi < 263
                  ·
                    have e : mi = 262 := by omega
                    subst e
                    exact zm_262
                  ·
                    have e : mi = 263 := by omega
                    subst e
                    exact zm_263
theorem zCT_len : zCT.length = 345 := by decide +kernel
theorem zhQ : ∀ q ∈ zCT, zPc q := by
  intro q hq
  obtain ⟨i, hi⟩ := List.getElem?_of_mem hq
  have hl : i < 345 := by have := (List.getElem?_eq_some_iff.mp hi).1; rw [zCT_len] at this; exact this
  have key : ∀ (a : Nat), (∀ q ∈ (zCT.drop a).take 120, zPc q) → a ≤ i → i < a + 120 → zPc q := by
    intro a ha h1 h2
    refine ha q (List.mem_of_getElem? (i := i - a) ?_)
    rw [List.getElem?_take, if_pos (by omega), List.getElem?_drop, show a + (i - a) = i by omega]
    exact hi
  by_cases h0 : i < 120
  · exact key 0 zq_0 (by omega) (by omega)
  by_cases h1 : i < 240
  · exact key 120 zq_1 (by omega) (by omega)
  by_cases h2 : i < 360
  · exact key 240 zq_2 (by omega) (by omega)
  · omega
theorem zhSt : ∀ mi, mi < zNM + 1 → zstart mi 0 = some 0 := by decide +kernel
end
