section
-- ===== PART A: goes FIRST, ahead of the names: the tables' words, and 'selects' of the private methods out of them =====
/-- a private method of a class that the tables say can be made, by its rows of tables_1 -/
def lw_okq (q : MethodName × Nat) : Prop := (q.1.cls ≠ "java/lang/invoke/MethodHandle" ∧ q.1.cls ≠ "java/lang/invoke/VarHandle") ∧ Cond.instantiable q.1.cls q.2 ∈ tables_1 ∧ Cond.privateMethod q.1 ∈ tables_1 ∧ Cond.instanceMethod q.1 ∈ tables_1
theorem lw_p0 : lw_okq (⟨"CrownTwo", "bad", "()I"⟩, 15) := ⟨⟨by decide +kernel, by decide +kernel⟩, List.mem_of_getElem? (i := 22) (by decide +kernel), List.mem_of_getElem? (i := 289) (by decide +kernel), List.mem_of_getElem? (i := 290) (by decide +kernel)⟩
theorem lw_p1 : lw_okq (⟨"CrownTwo", "full", "()I"⟩, 15) := ⟨⟨by decide +kernel, by decide +kernel⟩, List.mem_of_getElem? (i := 22) (by decide +kernel), List.mem_of_getElem? (i := 305) (by decide +kernel), List.mem_of_getElem? (i := 306) (by decide +kernel)⟩
theorem lw_p2 : lw_okq (⟨"CrownTwo$CourtText", "advance", "()V"⟩, 6) := ⟨⟨by decide +kernel, by decide +kernel⟩, List.mem_of_getElem? (i := 30) (by decide +kernel), List.mem_of_getElem? (i := 338) (by decide +kernel), List.mem_of_getElem? (i := 339) (by decide +kernel)⟩
theorem lw_p3 : lw_okq (⟨"CrownTwo$CourtText", "sortAt", "(I)I"⟩, 6) := ⟨⟨by decide +kernel, by decide +kernel⟩, List.mem_of_getElem? (i := 30) (by decide +kernel), List.mem_of_getElem? (i := 342) (by decide +kernel), List.mem_of_getElem? (i := 343) (by decide +kernel)⟩
theorem lw_p4 : lw_okq (⟨"CrownTwo$CourtText", "courtItem", "(LCrownTwo$Court;)Z"⟩, 6) := ⟨⟨by decide +kernel, by decide +kernel⟩, List.mem_of_getElem? (i := 30) (by decide +kernel), List.mem_of_getElem? (i := 346) (by decide +kernel), List.mem_of_getElem? (i := 347) (by decide +kernel)⟩
theorem lw_p5 : lw_okq (⟨"CrownTwo$CourtText", "isWord", "(Ljava/lang/String;)Z"⟩, 6) := ⟨⟨by decide +kernel, by decide +kernel⟩, List.mem_of_getElem? (i := 30) (by decide +kernel), List.mem_of_getElem? (i := 351) (by decide +kernel), List.mem_of_getElem? (i := 352) (by decide +kernel)⟩
theorem lw_p6 : lw_okq (⟨"CrownTwo$CourtText", "takeNumber", "(II)I"⟩, 6) := ⟨⟨by decide +kernel, by decide +kernel⟩, List.mem_of_getElem? (i := 30) (by decide +kernel), List.mem_of_getElem? (i := 403) (by decide +kernel), List.mem_of_getElem? (i := 404) (by decide +kernel)⟩
theorem lw_p7 : lw_okq (⟨"CrownTwo$CourtText", "takeEnding", "()Z"⟩, 6) := ⟨⟨by decide +kernel, by decide +kernel⟩, List.mem_of_getElem? (i := 30) (by decide +kernel), List.mem_of_getElem? (i := 407) (by decide +kernel), List.mem_of_getElem? (i := 408) (by decide +kernel)⟩
theorem lw_p8 : lw_okq (⟨"CrownTwo$CourtText", "laterItem", "(LCrownTwo$Court;)Z"⟩, 6) := ⟨⟨by decide +kernel, by decide +kernel⟩, List.mem_of_getElem? (i := 30) (by decide +kernel), List.mem_of_getElem? (i := 411) (by decide +kernel), List.mem_of_getElem? (i := 412) (by decide +kernel)⟩
theorem lw_p9 : lw_okq (⟨"CrownTwo$CourtText", "heirItem", "(LCrownTwo$Court;)Z"⟩, 6) := ⟨⟨by decide +kernel, by decide +kernel⟩, List.mem_of_getElem? (i := 30) (by decide +kernel), List.mem_of_getElem? (i := 416) (by decide +kernel), List.mem_of_getElem? (i := 417) (by decide +kernel)⟩
theorem lw_p10 : lw_okq (⟨"CrownTwo$CourtText", "heartItem", "(LCrownTwo$Court;Z)Z"⟩, 6) := ⟨⟨by decide +kernel, by decide +kernel⟩, List.mem_of_getElem? (i := 30) (by decide +kernel), List.mem_of_getElem? (i := 422) (by decide +kernel), List.mem_of_getElem? (i := 423) (by decide +kernel)⟩
theorem lw_p11 : lw_okq (⟨"CrownTwo$CourtText", "pairItem", "(LCrownTwo$Court;)Z"⟩, 6) := ⟨⟨by decide +kernel, by decide +kernel⟩, List.mem_of_getElem? (i := 30) (by decide +kernel), List.mem_of_getElem? (i := 432) (by decide +kernel), List.mem_of_getElem? (i := 433) (by decide +kernel)⟩
theorem lw_p12 : lw_okq (⟨"CrownTwo$Court", "forgetOldest", "()V"⟩, 8) := ⟨⟨by decide +kernel, by decide +kernel⟩, List.mem_of_getElem? (i := 137) (by decide +kernel), List.mem_of_getElem? (i := 474) (by decide +kernel), List.mem_of_getElem? (i := 475) (by decide +kernel)⟩
theorem lw_p13 : lw_okq (⟨"CrownTwo", "no", "()I"⟩, 15) := ⟨⟨by decide +kernel, by decide +kernel⟩, List.mem_of_getElem? (i := 22) (by decide +kernel), List.mem_of_getElem? (i := 490) (by decide +kernel), List.mem_of_getElem? (i := 491) (by decide +kernel)⟩
theorem lw_p14 : lw_okq (⟨"CrownTwo", "daysToFriends", "(I)I"⟩, 15) := ⟨⟨by decide +kernel, by decide +kernel⟩, List.mem_of_getElem? (i := 22) (by decide +kernel), List.mem_of_getElem? (i := 636) (by decide +kernel), List.mem_of_getElem? (i := 637) (by decide +kernel)⟩
theorem lw_p15 : lw_okq (⟨"CrownTwo", "tryFrom", "(III)V"⟩, 15) := ⟨⟨by decide +kernel, by decide +kernel⟩, List.mem_of_getElem? (i := 22) (by decide +kernel), List.mem_of_getElem? (i := 652) (by decide +kernel), List.mem_of_getElem? (i := 653) (by decide +kernel)⟩
def lw_privs_1 : List (MethodName × Nat) := [(⟨"CrownTwo", "bad", "()I"⟩, 15), (⟨"CrownTwo", "full", "()I"⟩, 15), (⟨"CrownTwo$CourtText", "advance", "()V"⟩, 6), (⟨"CrownTwo$CourtText", "sortAt", "(I)I"⟩, 6), (⟨"CrownTwo$CourtText", "courtItem", "(LCrownTwo$Court;)Z"⟩, 6), (⟨"CrownTwo$CourtText", "isWord", "(Ljava/lang/String;)Z"⟩, 6), (⟨"CrownTwo$CourtText", "takeNumber", "(II)I"⟩, 6), (⟨"CrownTwo$CourtText", "takeEnding", "()Z"⟩, 6), (⟨"CrownTwo$CourtText", "laterItem", "(LCrownTwo$Court;)Z"⟩, 6), (⟨"CrownTwo$CourtText", "heirItem", "(LCrownTwo$Court;)Z"⟩, 6), (⟨"CrownTwo$CourtText", "heartItem", "(LCrownTwo$Court;Z)Z"⟩, 6), (⟨"CrownTwo$CourtText", "pairItem", "(LCrownTwo$Court;)Z"⟩, 6), (⟨"CrownTwo$Court", "forgetOldest", "()V"⟩, 8), (⟨"CrownTwo", "no", "()I"⟩, 15), (⟨"CrownTwo", "daysToFriends", "(I)I"⟩, 15), (⟨"CrownTwo", "tryFrom", "(III)V"⟩, 15)]
theorem lw_r1 : ∀ q ∈ lw_privs_1, lw_okq q := List.forall_mem_cons.mpr ⟨lw_p0, List.forall_mem_cons.mpr ⟨lw_p1, List.forall_mem_cons.mpr ⟨lw_p2, List.forall_mem_cons.mpr ⟨lw_p3, List.forall_mem_cons.mpr ⟨lw_p4, List.forall_mem_cons.mpr ⟨lw_p5, List.forall_mem_cons.mpr ⟨lw_p6, List.forall_mem_cons.mpr ⟨lw_p7, List.forall_mem_cons.mpr ⟨lw_p8, List.forall_mem_cons.mpr ⟨lw_p9, List.forall_mem_cons.mpr ⟨lw_p10, List.forall_mem_cons.mpr ⟨lw_p11, List.forall_mem_cons.mpr ⟨lw_p12, List.forall_mem_cons.mpr ⟨lw_p13, List.forall_mem_cons.mpr ⟨lw_p14, List.forall_mem_cons.mpr ⟨lw_p15, fun _ h => absurd h List.not_mem_nil⟩⟩⟩⟩⟩⟩⟩⟩⟩⟩⟩⟩⟩⟩⟩⟩
theorem lw_p16 : lw_okq (⟨"CrownTwo", "staysQuarrelled", "(III)Z"⟩, 15) := ⟨⟨by decide +kernel, by decide +kernel⟩, List.mem_of_getElem? (i := 22) (by decide +kernel), List.mem_of_getElem? (i := 663) (by decide +kernel), List.mem_of_getElem? (i := 664) (by decide +kernel)⟩
theorem lw_p17 : lw_okq (⟨"CrownTwo", "lastingOf", "(II)I"⟩, 15) := ⟨⟨by decide +kernel, by decide +kernel⟩, List.mem_of_getElem? (i := 22) (by decide +kernel), List.mem_of_getElem? (i := 671) (by decide +kernel), List.mem_of_getElem? (i := 672) (by decide +kernel)⟩
theorem lw_p18 : lw_okq (⟨"CrownTwo", "bestPair", "()I"⟩, 15) := ⟨⟨by decide +kernel, by decide +kernel⟩, List.mem_of_getElem? (i := 22) (by decide +kernel), List.mem_of_getElem? (i := 680) (by decide +kernel), List.mem_of_getElem? (i := 681) (by decide +kernel)⟩
theorem lw_p19 : lw_okq (⟨"CrownTwo", "stuckPairs", "()I"⟩, 15) := ⟨⟨by decide +kernel, by decide +kernel⟩, List.mem_of_getElem? (i := 22) (by decide +kernel), List.mem_of_getElem? (i := 684) (by decide +kernel), List.mem_of_getElem? (i := 685) (by decide +kernel)⟩
theorem lw_p20 : lw_okq (⟨"CrownTwo", "kindsThatFit", "(I)I"⟩, 15) := ⟨⟨by decide +kernel, by decide +kernel⟩, List.mem_of_getElem? (i := 22) (by decide +kernel), List.mem_of_getElem? (i := 701) (by decide +kernel), List.mem_of_getElem? (i := 702) (by decide +kernel)⟩
theorem lw_p21 : lw_okq (⟨"CrownTwo", "setFraction", "(II)V"⟩, 15) := ⟨⟨by decide +kernel, by decide +kernel⟩, List.mem_of_getElem? (i := 22) (by decide +kernel), List.mem_of_getElem? (i := 742) (by decide +kernel), List.mem_of_getElem? (i := 743) (by decide +kernel)⟩
theorem lw_p22 : lw_okq (⟨"CrownTwo", "howMany", "(I)I"⟩, 15) := ⟨⟨by decide +kernel, by decide +kernel⟩, List.mem_of_getElem? (i := 22) (by decide +kernel), List.mem_of_getElem? (i := 776) (by decide +kernel), List.mem_of_getElem? (i := 777) (by decide +kernel)⟩
theorem lw_p23 : lw_okq (⟨"CrownTwoModel", "begin", "(I)V"⟩, 36) := ⟨⟨by decide +kernel, by decide +kernel⟩, List.mem_of_getElem? (i := 796) (by decide +kernel), List.mem_of_getElem? (i := 802) (by decide +kernel), List.mem_of_getElem? (i := 803) (by decide +kernel)⟩
theorem lw_p24 : lw_okq (⟨"CrownTwoModel", "bad", "()I"⟩, 36) := ⟨⟨by decide +kernel, by decide +kernel⟩, List.mem_of_getElem? (i := 796) (by decide +kernel), List.mem_of_getElem? (i := 922) (by decide +kernel), List.mem_of_getElem? (i := 923) (by decide +kernel)⟩
theorem lw_p25 : lw_okq (⟨"CrownTwoModel", "full", "()I"⟩, 36) := ⟨⟨by decide +kernel, by decide +kernel⟩, List.mem_of_getElem? (i := 796) (by decide +kernel), List.mem_of_getElem? (i := 930) (by decide +kernel), List.mem_of_getElem? (i := 931) (by decide +kernel)⟩
theorem lw_p26 : lw_okq (⟨"CrownTwoModel", "addHeir", "(IIII)I"⟩, 36) := ⟨⟨by decide +kernel, by decide +kernel⟩, List.mem_of_getElem? (i := 796) (by decide +kernel), List.mem_of_getElem? (i := 934) (by decide +kernel), List.mem_of_getElem? (i := 935) (by decide +kernel)⟩
theorem lw_p27 : lw_okq (⟨"CrownTwoModel", "readsCourt", "()I"⟩, 36) := ⟨⟨by decide +kernel, by decide +kernel⟩, List.mem_of_getElem? (i := 796) (by decide +kernel), List.mem_of_getElem? (i := 950) (by decide +kernel), List.mem_of_getElem? (i := 951) (by decide +kernel)⟩
theorem lw_p28 : lw_okq (⟨"CrownTwoModel", "readsFirst", "()Z"⟩, 36) := ⟨⟨by decide +kernel, by decide +kernel⟩, List.mem_of_getElem? (i := 796) (by decide +kernel), List.mem_of_getElem? (i := 954) (by decide +kernel), List.mem_of_getElem? (i := 955) (by decide +kernel)⟩
theorem lw_p29 : lw_okq (⟨"CrownTwoModel", "skip", "()V"⟩, 36) := ⟨⟨by decide +kernel, by decide +kernel⟩, List.mem_of_getElem? (i := 796) (by decide +kernel), List.mem_of_getElem? (i := 958) (by decide +kernel), List.mem_of_getElem? (i := 959) (by decide +kernel)⟩
theorem lw_p30 : lw_okq (⟨"CrownTwoModel", "here", "()I"⟩, 36) := ⟨⟨by decide +kernel, by decide +kernel⟩, List.mem_of_getElem? (i := 796) (by decide +kernel), List.mem_of_getElem? (i := 962) (by decide +kernel), List.mem_of_getElem? (i := 963) (by decide +kernel)⟩
theorem lw_p31 : lw_okq (⟨"CrownTwoModel", "wordHere", "()I"⟩, 36) := ⟨⟨by decide +kernel, by decide +kernel⟩, List.mem_of_getElem? (i := 796) (by decide +kernel), List.mem_of_getElem? (i := 966) (by decide +kernel), List.mem_of_getElem? (i := 967) (by decide +kernel)⟩
def lw_privs_2 : List (MethodName × Nat) := [(⟨"CrownTwo", "staysQuarrelled", "(III)Z"⟩, 15), (⟨"CrownTwo", "lastingOf", "(II)I"⟩, 15), (⟨"CrownTwo", "bestPair", "()I"⟩, 15), (⟨"CrownTwo", "stuckPairs", "()I"⟩, 15), (⟨"CrownTwo", "kindsThatFit", "(I)I"⟩, 15), (⟨"CrownTwo", "setFraction", "(II)V"⟩, 15), (⟨"CrownTwo", "howMany", "(I)I"⟩, 15), (⟨"CrownTwoModel", "begin", "(I)V"⟩, 36), (⟨"CrownTwoModel", "bad", "()I"⟩, 36), (⟨"CrownTwoModel", "full", "()I"⟩, 36), (⟨"CrownTwoModel", "addHeir", "(IIII)I"⟩, 36), (⟨"CrownTwoModel", "readsCourt", "()I"⟩, 36), (⟨"CrownTwoModel", "readsFirst", "()Z"⟩, 36), (⟨"CrownTwoModel", "skip", "()V"⟩, 36), (⟨"CrownTwoModel", "here", "()I"⟩, 36), (⟨"CrownTwoModel", "wordHere", "()I"⟩, 36)]
theorem lw_r2 : ∀ q ∈ lw_privs_2, lw_okq q := List.forall_mem_cons.mpr ⟨lw_p16, List.forall_mem_cons.mpr ⟨lw_p17, List.forall_mem_cons.mpr ⟨lw_p18, List.forall_mem_cons.mpr ⟨lw_p19, List.forall_mem_cons.mpr ⟨lw_p20, List.forall_mem_cons.mpr ⟨lw_p21, List.forall_mem_cons.mpr ⟨lw_p22, List.forall_mem_cons.mpr ⟨lw_p23, List.forall_mem_cons.mpr ⟨lw_p24, List.forall_mem_cons.mpr ⟨lw_p25, List.forall_mem_cons.mpr ⟨lw_p26, List.forall_mem_cons.mpr ⟨lw_p27, List.forall_mem_cons.mpr ⟨lw_p28, List.forall_mem_cons.mpr ⟨lw_p29, List.forall_mem_cons.mpr ⟨lw_p30, List.forall_mem_cons.mpr ⟨lw_p31, fun _ h => absurd h List.not_mem_nil⟩⟩⟩⟩⟩⟩⟩⟩⟩⟩⟩⟩⟩⟩⟩⟩
theorem lw_p32 : lw_okq (⟨"CrownTwoModel", "wordSize", "()I"⟩, 36) := ⟨⟨by decide +kernel, by decide +kernel⟩, List.mem_of_getElem? (i := 796) (by decide +kernel), List.mem_of_getElem? (i := 970) (by decide +kernel), List.mem_of_getElem? (i := 971) (by decide +kernel)⟩
theorem lw_p33 : lw_okq (⟨"CrownTwoModel", "letter", "(I)I"⟩, 36) := ⟨⟨by decide +kernel, by decide +kernel⟩, List.mem_of_getElem? (i := 796) (by decide +kernel), List.mem_of_getElem? (i := 977) (by decide +kernel), List.mem_of_getElem? (i := 978) (by decide +kernel)⟩
theorem lw_p34 : lw_okq (⟨"CrownTwoModel", "spells", "(IIII)Z"⟩, 36) := ⟨⟨by decide +kernel, by decide +kernel⟩, List.mem_of_getElem? (i := 796) (by decide +kernel), List.mem_of_getElem? (i := 981) (by decide +kernel), List.mem_of_getElem? (i := 982) (by decide +kernel)⟩
theorem lw_p35 : lw_okq (⟨"CrownTwoModel", "number", "(II)Z"⟩, 36) := ⟨⟨by decide +kernel, by decide +kernel⟩, List.mem_of_getElem? (i := 796) (by decide +kernel), List.mem_of_getElem? (i := 985) (by decide +kernel), List.mem_of_getElem? (i := 986) (by decide +kernel)⟩
theorem lw_p36 : lw_okq (⟨"CrownTwoModel", "ends", "()Z"⟩, 36) := ⟨⟨by decide +kernel, by decide +kernel⟩, List.mem_of_getElem? (i := 796) (by decide +kernel), List.mem_of_getElem? (i := 992) (by decide +kernel), List.mem_of_getElem? (i := 993) (by decide +kernel)⟩
theorem lw_p37 : lw_okq (⟨"CrownTwoModel", "readsItem", "()Z"⟩, 36) := ⟨⟨by decide +kernel, by decide +kernel⟩, List.mem_of_getElem? (i := 796) (by decide +kernel), List.mem_of_getElem? (i := 996) (by decide +kernel), List.mem_of_getElem? (i := 997) (by decide +kernel)⟩
theorem lw_p38 : lw_okq (⟨"CrownTwoModel", "readsHeir", "()Z"⟩, 36) := ⟨⟨by decide +kernel, by decide +kernel⟩, List.mem_of_getElem? (i := 796) (by decide +kernel), List.mem_of_getElem? (i := 1000) (by decide +kernel), List.mem_of_getElem? (i := 1001) (by decide +kernel)⟩
theorem lw_p39 : lw_okq (⟨"CrownTwoModel", "readsPair", "()Z"⟩, 36) := ⟨⟨by decide +kernel, by decide +kernel⟩, List.mem_of_getElem? (i := 796) (by decide +kernel), List.mem_of_getElem? (i := 1004) (by decide +kernel), List.mem_of_getElem? (i := 1005) (by decide +kernel)⟩
theorem lw_p40 : lw_okq (⟨"CrownTwoModel", "readsActs", "(I)Z"⟩, 36) := ⟨⟨by decide +kernel, by decide +kernel⟩, List.mem_of_getElem? (i := 796) (by decide +kernel), List.mem_of_getElem? (i := 1008) (by decide +kernel), List.mem_of_getElem? (i := 1009) (by decide +kernel)⟩
theorem lw_p41 : lw_okq (⟨"CrownTwoModel", "isHeir", "(I)Z"⟩, 36) := ⟨⟨by decide +kernel, by decide +kernel⟩, List.mem_of_getElem? (i := 796) (by decide +kernel), List.mem_of_getElem? (i := 1016) (by decide +kernel), List.mem_of_getElem? (i := 1017) (by decide +kernel)⟩
theorem lw_p42 : lw_okq (⟨"CrownTwoModel", "notes", "()V"⟩, 36) := ⟨⟨by decide +kernel, by decide +kernel⟩, List.mem_of_getElem? (i := 796) (by decide +kernel), List.mem_of_getElem? (i := 1020) (by decide +kernel), List.mem_of_getElem? (i := 1021) (by decide +kernel)⟩
theorem lw_p43 : lw_okq (⟨"CrownTwoModel", "lays", "([II)V"⟩, 36) := ⟨⟨by decide +kernel, by decide +kernel⟩, List.mem_of_getElem? (i := 796) (by decide +kernel), List.mem_of_getElem? (i := 1024) (by decide +kernel), List.mem_of_getElem? (i := 1025) (by decide +kernel)⟩
theorem lw_p44 : lw_okq (⟨"CrownTwoModel", "isPair", "()Z"⟩, 36) := ⟨⟨by decide +kernel, by decide +kernel⟩, List.mem_of_getElem? (i := 796) (by decide +kernel), List.mem_of_getElem? (i := 1035) (by decide +kernel), List.mem_of_getElem? (i := 1036) (by decide +kernel)⟩
theorem lw_p45 : lw_okq (⟨"CrownTwoModel", "no", "()I"⟩, 36) := ⟨⟨by decide +kernel, by decide +kernel⟩, List.mem_of_getElem? (i := 796) (by decide +kernel), List.mem_of_getElem? (i := 1042) (by decide +kernel), List.mem_of_getElem? (i := 1043) (by decide +kernel)⟩
theorem lw_p46 : lw_okq (⟨"CrownTwoModel", "asks", "(I)I"⟩, 36) := ⟨⟨by decide +kernel, by decide +kernel⟩, List.mem_of_getElem? (i := 796) (by decide +kernel), List.mem_of_getElem? (i := 1046) (by decide +kernel), List.mem_of_getElem? (i := 1047) (by decide +kernel)⟩
theorem lw_p47 : lw_okq (⟨"CrownTwoModel", "lifting", "(I)I"⟩, 36) := ⟨⟨by decide +kernel, by decide +kernel⟩, List.mem_of_getElem? (i := 796) (by decide +kernel), List.mem_of_getElem? (i := 1050) (by decide +kernel), List.mem_of_getElem? (i := 1051) (by decide +kernel)⟩
def lw_privs_3 : List (MethodName × Nat) := [(⟨"CrownTwoModel", "wordSize", "()I"⟩, 36), (⟨"CrownTwoModel", "letter", "(I)I"⟩, 36), (⟨"CrownTwoModel", "spells", "(IIII)Z"⟩, 36), (⟨"CrownTwoModel", "number", "(II)Z"⟩, 36), (⟨"CrownTwoModel", "ends", "()Z"⟩, 36), (⟨"CrownTwoModel", "readsItem", "()Z"⟩, 36), (⟨"CrownTwoModel", "readsHeir", "()Z"⟩, 36), (⟨"CrownTwoModel", "readsPair", "()Z"⟩, 36), (⟨"CrownTwoModel", "readsActs", "(I)Z"⟩, 36), (⟨"CrownTwoModel", "isHeir", "(I)Z"⟩, 36), (⟨"CrownTwoModel", "notes", "()V"⟩, 36), (⟨"CrownTwoModel", "lays", "([II)V"⟩, 36), (⟨"CrownTwoModel", "isPair", "()Z"⟩, 36), (⟨"CrownTwoModel", "no", "()I"⟩, 36), (⟨"CrownTwoModel", "asks", "(I)I"⟩, 36), (⟨"CrownTwoModel", "lifting", "(I)I"⟩, 36)]
theorem lw_r3 : ∀ q ∈ lw_privs_3, lw_okq q := List.forall_mem_cons.mpr ⟨lw_p32, List.forall_mem_cons.mpr ⟨lw_p33, List.forall_mem_cons.mpr ⟨lw_p34, List.forall_mem_cons.mpr ⟨lw_p35, List.forall_mem_cons.mpr ⟨lw_p36, List.forall_mem_cons.mpr ⟨lw_p37, List.forall_mem_cons.mpr ⟨lw_p38, List.forall_mem_cons.mpr ⟨lw_p39, List.forall_mem_cons.mpr ⟨lw_p40, List.forall_mem_cons.mpr ⟨lw_p41, List.forall_mem_cons.mpr ⟨lw_p42, List.forall_mem_cons.mpr ⟨lw_p43, List.forall_mem_cons.mpr ⟨lw_p44, List.forall_mem_cons.mpr ⟨lw_p45, List.forall_mem_cons.mpr ⟨lw_p46, List.forall_mem_cons.mpr ⟨lw_p47, fun _ h => absurd h List.not_mem_nil⟩⟩⟩⟩⟩⟩⟩⟩⟩⟩⟩⟩⟩⟩⟩⟩
theorem lw_p48 : lw_okq (⟨"CrownTwoModel", "lifts", "(II)Z"⟩, 36) := ⟨⟨by decide +kernel, by decide +kernel⟩, List.mem_of_getElem? (i := 796) (by decide +kernel), List.mem_of_getElem? (i := 1054) (by decide +kernel), List.mem_of_getElem? (i := 1055) (by decide +kernel)⟩
theorem lw_p49 : lw_okq (⟨"CrownTwoModel", "heartOf", "(II)I"⟩, 36) := ⟨⟨by decide +kernel, by decide +kernel⟩, List.mem_of_getElem? (i := 796) (by decide +kernel), List.mem_of_getElem? (i := 1058) (by decide +kernel), List.mem_of_getElem? (i := 1059) (by decide +kernel)⟩
theorem lw_p50 : lw_okq (⟨"CrownTwoModel", "pass", "()V"⟩, 36) := ⟨⟨by decide +kernel, by decide +kernel⟩, List.mem_of_getElem? (i := 796) (by decide +kernel), List.mem_of_getElem? (i := 1072) (by decide +kernel), List.mem_of_getElem? (i := 1073) (by decide +kernel)⟩
theorem lw_p51 : lw_okq (⟨"CrownTwoModel", "growth", "()I"⟩, 36) := ⟨⟨by decide +kernel, by decide +kernel⟩, List.mem_of_getElem? (i := 796) (by decide +kernel), List.mem_of_getElem? (i := 1076) (by decide +kernel), List.mem_of_getElem? (i := 1077) (by decide +kernel)⟩
theorem lw_p52 : lw_okq (⟨"CrownTwoModel", "makesOf", "(I)I"⟩, 36) := ⟨⟨by decide +kernel, by decide +kernel⟩, List.mem_of_getElem? (i := 796) (by decide +kernel), List.mem_of_getElem? (i := 1080) (by decide +kernel), List.mem_of_getElem? (i := 1081) (by decide +kernel)⟩
theorem lw_p53 : lw_okq (⟨"CrownTwoModel", "takes", "([II)V"⟩, 36) := ⟨⟨by decide +kernel, by decide +kernel⟩, List.mem_of_getElem? (i := 796) (by decide +kernel), List.mem_of_getElem? (i := 1092) (by decide +kernel), List.mem_of_getElem? (i := 1093) (by decide +kernel)⟩
theorem lw_p54 : lw_okq (⟨"CrownTwoModel", "puts", "()V"⟩, 36) := ⟨⟨by decide +kernel, by decide +kernel⟩, List.mem_of_getElem? (i := 796) (by decide +kernel), List.mem_of_getElem? (i := 1112) (by decide +kernel), List.mem_of_getElem? (i := 1113) (by decide +kernel)⟩
theorem lw_p55 : lw_okq (⟨"CrownTwoModel", "bothSet", "()I"⟩, 36) := ⟨⟨by decide +kernel, by decide +kernel⟩, List.mem_of_getElem? (i := 796) (by decide +kernel), List.mem_of_getElem? (i := 1116) (by decide +kernel), List.mem_of_getElem? (i := 1117) (by decide +kernel)⟩
theorem lw_p56 : lw_okq (⟨"CrownTwoModel", "back", "()V"⟩, 36) := ⟨⟨by decide +kernel, by decide +kernel⟩, List.mem_of_getElem? (i := 796) (by decide +kernel), List.mem_of_getElem? (i := 1120) (by decide +kernel), List.mem_of_getElem? (i := 1121) (by decide +kernel)⟩
theorem lw_p57 : lw_okq (⟨"CrownTwoModel", "daysTill", "()I"⟩, 36) := ⟨⟨by decide +kernel, by decide +kernel⟩, List.mem_of_getElem? (i := 796) (by decide +kernel), List.mem_of_getElem? (i := 1128) (by decide +kernel), List.mem_of_getElem? (i := 1129) (by decide +kernel)⟩
theorem lw_p58 : lw_okq (⟨"CrownTwoModel", "ten", "()I"⟩, 36) := ⟨⟨by decide +kernel, by decide +kernel⟩, List.mem_of_getElem? (i := 796) (by decide +kernel), List.mem_of_getElem? (i := 1140) (by decide +kernel), List.mem_of_getElem? (i := 1141) (by decide +kernel)⟩
theorem lw_p59 : lw_okq (⟨"CrownTwoModel", "doneBy", "(II)I"⟩, 36) := ⟨⟨by decide +kernel, by decide +kernel⟩, List.mem_of_getElem? (i := 796) (by decide +kernel), List.mem_of_getElem? (i := 1144) (by decide +kernel), List.mem_of_getElem? (i := 1145) (by decide +kernel)⟩
theorem lw_p60 : lw_okq (⟨"CrownTwoModel", "lastsOf", "(II)I"⟩, 36) := ⟨⟨by decide +kernel, by decide +kernel⟩, List.mem_of_getElem? (i := 796) (by decide +kernel), List.mem_of_getElem? (i := 1159) (by decide +kernel), List.mem_of_getElem? (i := 1160) (by decide +kernel)⟩
theorem lw_p61 : lw_okq (⟨"CrownTwoModel", "areStuck", "(II)Z"⟩, 36) := ⟨⟨by decide +kernel, by decide +kernel⟩, List.mem_of_getElem? (i := 796) (by decide +kernel), List.mem_of_getElem? (i := 1167) (by decide +kernel), List.mem_of_getElem? (i := 1168) (by decide +kernel)⟩
theorem lw_p62 : lw_okq (⟨"CrownTwoModel", "kindsOf", "(I)I"⟩, 36) := ⟨⟨by decide +kernel, by decide +kernel⟩, List.mem_of_getElem? (i := 796) (by decide +kernel), List.mem_of_getElem? (i := 1183) (by decide +kernel), List.mem_of_getElem? (i := 1184) (by decide +kernel)⟩
theorem lw_p63 : lw_okq (⟨"CrownTwoModel", "isSo", "(IIII)Z"⟩, 36) := ⟨⟨by decide +kernel, by decide +kernel⟩, List.mem_of_getElem? (i := 796) (by decide +kernel), List.mem_of_getElem? (i := 1187) (by decide +kernel), List.mem_of_getElem? (i := 1188) (by decide +kernel)⟩
def lw_privs_4 : List (MethodName × Nat) := [(⟨"CrownTwoModel", "lifts", "(II)Z"⟩, 36), (⟨"CrownTwoModel", "heartOf", "(II)I"⟩, 36), (⟨"CrownTwoModel", "pass", "()V"⟩, 36), (⟨"CrownTwoModel", "growth", "()I"⟩, 36), (⟨"CrownTwoModel", "makesOf", "(I)I"⟩, 36), (⟨"CrownTwoModel", "takes", "([II)V"⟩, 36), (⟨"CrownTwoModel", "puts", "()V"⟩, 36), (⟨"CrownTwoModel", "bothSet", "()I"⟩, 36), (⟨"CrownTwoModel", "back", "()V"⟩, 36), (⟨"CrownTwoModel", "daysTill", "()I"⟩, 36), (⟨"CrownTwoModel", "ten", "()I"⟩, 36), (⟨"CrownTwoModel", "doneBy", "(II)I"⟩, 36), (⟨"CrownTwoModel", "lastsOf", "(II)I"⟩, 36), (⟨"CrownTwoModel", "areStuck", "(II)Z"⟩, 36), (⟨"CrownTwoModel", "kindsOf", "(I)I"⟩, 36), (⟨"CrownTwoModel", "isSo", "(IIII)Z"⟩, 36)]
theorem lw_r4 : ∀ q ∈ lw_privs_4, lw_okq q := List.forall_mem_cons.mpr ⟨lw_p48, List.forall_mem_cons.mpr ⟨lw_p49, List.forall_mem_cons.mpr ⟨lw_p50, List.forall_mem_cons.mpr ⟨lw_p51, List.forall_mem_cons.mpr ⟨lw_p52, List.forall_mem_cons.mpr ⟨lw_p53, List.forall_mem_cons.mpr ⟨lw_p54, List.forall_mem_cons.mpr ⟨lw_p55, List.forall_mem_cons.mpr ⟨lw_p56, List.forall_mem_cons.mpr ⟨lw_p57, List.forall_mem_cons.mpr ⟨lw_p58, List.forall_mem_cons.mpr ⟨lw_p59, List.forall_mem_cons.mpr ⟨lw_p60, List.forall_mem_cons.mpr ⟨lw_p61, List.forall_mem_cons.mpr ⟨lw_p62, List.forall_mem_cons.mpr ⟨lw_p63, fun _ h => absurd h List.not_mem_nil⟩⟩⟩⟩⟩⟩⟩⟩⟩⟩⟩⟩⟩⟩⟩⟩
theorem lw_p64 : lw_okq (⟨"CrownTwoModel", "greaterPart", "(III)I"⟩, 36) := ⟨⟨by decide +kernel, by decide +kernel⟩, List.mem_of_getElem? (i := 796) (by decide +kernel), List.mem_of_getElem? (i := 1199) (by decide +kernel), List.mem_of_getElem? (i := 1200) (by decide +kernel)⟩
theorem lw_p65 : lw_okq (⟨"CrownTwoModel", "gets", "(IIZZ)I"⟩, 36) := ⟨⟨by decide +kernel, by decide +kernel⟩, List.mem_of_getElem? (i := 796) (by decide +kernel), List.mem_of_getElem? (i := 1207) (by decide +kernel), List.mem_of_getElem? (i := 1208) (by decide +kernel)⟩
theorem lw_p66 : lw_okq (⟨"CrownTwoModel", "lay", "(JJ)V"⟩, 36) := ⟨⟨by decide +kernel, by decide +kernel⟩, List.mem_of_getElem? (i := 796) (by decide +kernel), List.mem_of_getElem? (i := 1216) (by decide +kernel), List.mem_of_getElem? (i := 1217) (by decide +kernel)⟩
theorem lw_p67 : lw_okq (⟨"CrownTwoModel", "countOf", "(I)I"⟩, 36) := ⟨⟨by decide +kernel, by decide +kernel⟩, List.mem_of_getElem? (i := 796) (by decide +kernel), List.mem_of_getElem? (i := 1250) (by decide +kernel), List.mem_of_getElem? (i := 1251) (by decide +kernel)⟩
theorem lw_p68 : lw_okq (⟨"CrownTwoModel", "mix", "(J)V"⟩, 36) := ⟨⟨by decide +kernel, by decide +kernel⟩, List.mem_of_getElem? (i := 796) (by decide +kernel), List.mem_of_getElem? (i := 1259) (by decide +kernel), List.mem_of_getElem? (i := 1260) (by decide +kernel)⟩
def lw_privs_5 : List (MethodName × Nat) := [(⟨"CrownTwoModel", "greaterPart", "(III)I"⟩, 36), (⟨"CrownTwoModel", "gets", "(IIZZ)I"⟩, 36), (⟨"CrownTwoModel", "lay", "(JJ)V"⟩, 36), (⟨"CrownTwoModel", "countOf", "(I)I"⟩, 36), (⟨"CrownTwoModel", "mix", "(J)V"⟩, 36)]
theorem lw_r5 : ∀ q ∈ lw_privs_5, lw_okq q := List.forall_mem_cons.mpr ⟨lw_p64, List.forall_mem_cons.mpr ⟨lw_p65, List.forall_mem_cons.mpr ⟨lw_p66, List.forall_mem_cons.mpr ⟨lw_p67, List.forall_mem_cons.mpr ⟨lw_p68, fun _ h => absurd h List.not_mem_nil⟩⟩⟩⟩⟩
def lw_privs : List (MethodName × Nat) := lw_privs_1 ++ (lw_privs_2 ++ (lw_privs_3 ++ (lw_privs_4 ++ (lw_privs_5))))
def lw_tbl : List Cond := k2_sels lw_privs ++ tables_1
theorem lw_privs_ok : ∀ q ∈ lw_privs, lw_okq q := by
  show ∀ q ∈ lw_privs_1 ++ (lw_privs_2 ++ (lw_privs_3 ++ (lw_privs_4 ++ (lw_privs_5)))), lw_okq q
  exact List.forall_mem_append.mpr ⟨lw_r1, List.forall_mem_append.mpr ⟨lw_r2, List.forall_mem_append.mpr ⟨lw_r3, List.forall_mem_append.mpr ⟨lw_r4, lw_r5⟩⟩⟩⟩

/-- the words that every method carries: those of the tables that stay with the state -/
def gw : List Cond := lw_tbl.filter goodWord
theorem gw_good {big : List Cond} (h : ∀ w ∈ gw, w ∈ big) : GoodIn big gw := fun w hw => ⟨h w hw, good_of_word (List.mem_filter.mp hw).2⟩
theorem gw_t1 {w : Cond} (n : Nat) (h : tables_1_1[n]? = some w) (g : goodWord w = true) : w ∈ gw := List.mem_filter.mpr ⟨List.mem_append_right _ (by unfold tables_1; exact List.mem_append_left _ (List.mem_of_getElem? h)), g⟩
theorem gw_t2 {w : Cond} (n : Nat) (h : tables_1_2[n]? = some w) (g : goodWord w = true) : w ∈ gw := List.mem_filter.mpr ⟨List.mem_append_right _ (by unfold tables_1; exact List.mem_append_right _ (List.mem_append_left _ (List.mem_of_getElem? h))), g⟩
theorem gw_t3 {w : Cond} (n : Nat) (h : tables_1_3[n]? = some w) (g : goodWord w = true) : w ∈ gw := List.mem_filter.mpr ⟨List.mem_append_right _ (by unfold tables_1; exact List.mem_append_right _ (List.mem_append_right _ (List.mem_append_left _ (List.mem_of_getElem? h)))), g⟩
theorem gw_t4 {w : Cond} (n : Nat) (h : tables_1_4[n]? = some w) (g : goodWord w = true) : w ∈ gw := List.mem_filter.mpr ⟨List.mem_append_right _ (by unfold tables_1; exact List.mem_append_right _ (List.mem_append_right _ (List.mem_append_right _ (List.mem_append_left _ (List.mem_of_getElem? h))))), g⟩
theorem gw_t5 {w : Cond} (n : Nat) (h : tables_1_5[n]? = some w) (g : goodWord w = true) : w ∈ gw := List.mem_filter.mpr ⟨List.mem_append_right _ (by unfold tables_1; exact List.mem_append_right _ (List.mem_append_right _ (List.mem_append_right _ (List.mem_append_right _ (List.mem_append_left _ (List.mem_of_getElem? h)))))), g⟩
theorem gw_t6 {w : Cond} (n : Nat) (h : tables_1_6[n]? = some w) (g : goodWord w = true) : w ∈ gw := List.mem_filter.mpr ⟨List.mem_append_right _ (by unfold tables_1; exact List.mem_append_right _ (List.mem_append_right _ (List.mem_append_right _ (List.mem_append_right _ (List.mem_append_right _ (List.mem_of_getElem? h)))))), g⟩
theorem gw_s {q : MethodName × Nat} (n : Nat) (h : lw_privs[n]? = some q) : Cond.selects q.1.cls q.1 q.1 ∈ gw := List.mem_filter.mpr ⟨List.mem_append_left _ (List.mem_map.mpr ⟨q, List.mem_of_getElem? h, rfl⟩), rfl⟩
end
section
def RX0 : String := "CrownTwo$Court"
def TX0 : u_T := fun k => match k with
  | 0 => ("CrownTwo$Court", "kinds", "[LCrownTwo$Plain;", true)
  | 1 => ("CrownTwo$Court", "heirs", "[LCrownTwo$Heir;", true)
  | 2 => ("CrownTwo$Court", "notes", "[LCrownTwo$Note;", true)
  | 3 => ("CrownTwo$Court", "past", "[LCrownTwo$Moment;", true)
  | 4 => ("CrownTwo$Court", "now", "LCrownTwo$Moment;", true)
  | 5 => ("CrownTwo$Court", "heirCount", "I", false)
  | 6 => ("CrownTwo$Court", "noteCount", "I", false)
  | _ => ("CrownTwo$Court", "pastCount", "I", false)
def tyX0 : Nat → FieldType := fun k => match k with
  | 0 => .array (.object "CrownTwo$Plain")
  | 1 => .array (.object "CrownTwo$Heir")
  | 2 => .array (.object "CrownTwo$Note")
  | 3 => .array (.object "CrownTwo$Moment")
  | 4 => .object "CrownTwo$Moment"
  | 5 => .int
  | 6 => .int
  | _ => .int
theorem nmX0 : ∀ a, a < 8 → ∀ b, b < 8 → a ≠ b → (TX0 a).2.1 ≠ (TX0 b).2.1 := by decide +kernel
theorem tyX0_ok : ∀ k, k < 8 → parseFieldDescriptor (TX0 k).2.2.1 = some (tyX0 k) := by decide +kernel
abbrev cX0_init : ByteArray := prog_2_method_1_code
def yX0_init : MethodName := ⟨RX0, "<init>", "([LCrownTwo$Plain;)V"⟩
abbrev cX0_begin : ByteArray := prog_2_method_2_code
def yX0_begin : MethodName := ⟨RX0, "begin", "(I)V"⟩
abbrev cX0_become : ByteArray := prog_2_method_3_code
def yX0_become : MethodName := ⟨RX0, "become", "(LCrownTwo$Court;)V"⟩
abbrev cX0_has : ByteArray := prog_2_method_4_code
def yX0_has : MethodName := ⟨RX0, "has", "(I)Z"⟩
abbrev cX0_hasTwo : ByteArray := prog_2_method_5_code
def yX0_hasTwo : MethodName := ⟨RX0, "hasTwo", "(II)Z"⟩
abbrev cX0_admit : ByteArray := prog_2_method_6_code
def yX0_admit : MethodName := ⟨RX0, "admit", "(IIII)I"⟩
abbrev cX0_remember : ByteArray := prog_2_method_7_code
def yX0_remember : MethodName := ⟨RX0, "remember", "()V"⟩
abbrev cX0_forgetOldest : ByteArray := prog_2_method_8_code
def yX0_forgetOldest : MethodName := ⟨RX0, "forgetOldest", "()V"⟩
abbrev cX0_goBack : ByteArray := prog_2_method_9_code
def yX0_goBack : MethodName := ⟨RX0, "goBack", "()V"⟩
abbrev cX0_addedBy : ByteArray := prog_2_method_10_code
def yX0_addedBy : MethodName := ⟨RX0, "addedBy", "(I)I"⟩
abbrev cX0_changeBy : ByteArray := prog_2_method_11_code
def yX0_changeBy : MethodName := ⟨RX0, "changeBy", "(II)I"⟩
abbrev cX0_changeInADay : ByteArray := prog_2_method_12_code
def yX0_changeInADay : MethodName := ⟨RX0, "changeInADay", "(LCrownTwo$Moment;)I"⟩
abbrev cX0_passDays : ByteArray := prog_2_method_13_code
def yX0_passDays : MethodName := ⟨RX0, "passDays", "(LCrownTwo$Moment;I)V"⟩
abbrev cX0_lifts : ByteArray := prog_2_method_14_code
def yX0_lifts : MethodName := ⟨RX0, "lifts", "(IIIII)Z"⟩
abbrev cX0_liftersIn : ByteArray := prog_2_method_15_code
def yX0_liftersIn : MethodName := ⟨RX0, "liftersIn", "(LCrownTwo$Moment;I)I"⟩
abbrev cX0_actsOfBoth : ByteArray := prog_2_method_16_code
def yX0_actsOfBoth : MethodName := ⟨RX0, "actsOfBoth", "(LCrownTwo$Moment;)I"⟩
abbrev cX0_askIn : ByteArray := prog_2_method_17_code
def yX0_askIn : MethodName := ⟨RX0, "askIn", "(LCrownTwo$Moment;I)I"⟩
abbrev cX0_kindsThatLift : ByteArray := prog_2_method_18_code
def yX0_kindsThatLift : MethodName := ⟨RX0, "kindsThatLift", "(II)I"⟩
abbrev cX0_fits : ByteArray := prog_2_method_19_code
def yX0_fits : MethodName := ⟨RX0, "fits", "(II)Z"⟩
def RX1 : String := "CrownTwo$CourtText"
def TX1 : u_T := fun k => match k with
  | 0 => ("CrownTwo$CourtText", "bytes", "[I", true)
  | 1 => ("CrownTwo$CourtText", "length", "I", false)
  | 2 => ("CrownTwo$CourtText", "place", "I", false)
  | 3 => ("CrownTwo$CourtText", "behind", "I", false)
  | 4 => ("CrownTwo$CourtText", "sort", "I", false)
  | _ => ("CrownTwo$CourtText", "number", "I", false)
def tyX1 : Nat → FieldType := fun k => match k with
  | 0 => .array .int
  | 1 => .int
  | 2 => .int
  | 3 => .int
  | 4 => .int
  | _ => .int
theorem nmX1 : ∀ a, a < 6 → ∀ b, b < 6 → a ≠ b → (TX1 a).2.1 ≠ (TX1 b).2.1 := by decide +kernel
theorem tyX1_ok : ∀ k, k < 6 → parseFieldDescriptor (TX1 k).2.2.1 = some (tyX1 k) := by decide +kernel
abbrev cX1_init : ByteArray := prog_3_method_1_code
def yX1_init : MethodName := ⟨RX1, "<init>", "()V"⟩
abbrev cX1_append : ByteArray := prog_3_method_2_code
def yX1_append : MethodName := ⟨RX1, "append", "(I)V"⟩
abbrev cX1_parseInto : ByteArray := prog_3_method_3_code
def yX1_parseInto : MethodName := ⟨RX1, "parseInto", "(LCrownTwo$Court;)I"⟩
abbrev cX1_courtItem : ByteArray := prog_3_method_4_code
def yX1_courtItem : MethodName := ⟨RX1, "courtItem", "(LCrownTwo$Court;)Z"⟩
abbrev cX1_laterItem : ByteArray := prog_3_method_5_code
def yX1_laterItem : MethodName := ⟨RX1, "laterItem", "(LCrownTwo$Court;)Z"⟩
abbrev cX1_heirItem : ByteArray := prog_3_method_6_code
def yX1_heirItem : MethodName := ⟨RX1, "heirItem", "(LCrownTwo$Court;)Z"⟩
abbrev cX1_heartItem : ByteArray := prog_3_method_7_code
def yX1_heartItem : MethodName := ⟨RX1, "heartItem", "(LCrownTwo$Court;Z)Z"⟩
abbrev cX1_pairItem : ByteArray := prog_3_method_8_code
def yX1_pairItem : MethodName := ⟨RX1, "pairItem", "(LCrownTwo$Court;)Z"⟩
abbrev cX1_takeNumber : ByteArray := prog_3_method_9_code
def yX1_takeNumber : MethodName := ⟨RX1, "takeNumber", "(II)I"⟩
abbrev cX1_takeEnding : ByteArray := prog_3_method_10_code
def yX1_takeEnding : MethodName := ⟨RX1, "takeEnding", "()Z"⟩
abbrev cX1_isWord : ByteArray := prog_3_method_11_code
def yX1_isWord : MethodName := ⟨RX1, "isWord", "(Ljava/lang/String;)Z"⟩
abbrev cX1_advance : ByteArray := prog_3_method_12_code
def yX1_advance : MethodName := ⟨RX1, "advance", "()V"⟩
abbrev cX1_sortAt : ByteArray := prog_3_method_13_code
def yX1_sortAt : MethodName := ⟨RX1, "sortAt", "(I)I"⟩
def RX2 : String := "CrownTwo$Forgiver"
def TX2 : u_T := fun k => match k with
  | _ => ("", "", "", false)
def tyX2 : Nat → FieldType := fun k => match k with
  | _ => .int
theorem nmX2 : ∀ a, a < 0 → ∀ b, b < 0 → a ≠ b → (TX2 a).2.1 ≠ (TX2 b).2.1 := by decide +kernel
theorem tyX2_ok : ∀ k, k < 0 → parseFieldDescriptor (TX2 k).2.2.1 = some (tyX2 k) := by decide +kernel
abbrev cX2_init : ByteArray := prog_4_method_1_code
def yX2_init : MethodName := ⟨RX2, "<init>", "()V"⟩
abbrev cX2_lifts : ByteArray := prog_4_method_2_code
def yX2_lifts : MethodName := ⟨RX2, "lifts", "(ZZII)Z"⟩
abbrev cX2_adds : ByteArray := prog_4_method_3_code
def yX2_adds : MethodName := ⟨RX2, "adds", "(I)I"⟩
def RX3 : String := "CrownTwo$Heir"
def TX3 : u_T := fun k => match k with
  | 0 => ("CrownTwo$Heir", "kind", "I", false)
  | 1 => ("CrownTwo$Heir", "likes", "I", false)
  | 2 => ("CrownTwo$Heir", "hates", "I", false)
  | _ => ("CrownTwo$Heir", "temper", "I", false)
def tyX3 : Nat → FieldType := fun k => match k with
  | 0 => .int
  | 1 => .int
  | 2 => .int
  | _ => .int
theorem nmX3 : ∀ a, a < 4 → ∀ b, b < 4 → a ≠ b → (TX3 a).2.1 ≠ (TX3 b).2.1 := by decide +kernel
theorem tyX3_ok : ∀ k, k < 4 → parseFieldDescriptor (TX3 k).2.2.1 = some (tyX3 k) := by decide +kernel
abbrev cX3_init : ByteArray := prog_5_method_1_code
def yX3_init : MethodName := ⟨RX3, "<init>", "()V"⟩
abbrev cX3_put : ByteArray := prog_5_method_2_code
def yX3_put : MethodName := ⟨RX3, "put", "(IIII)V"⟩
abbrev cX3_feel : ByteArray := prog_5_method_3_code
def yX3_feel : MethodName := ⟨RX3, "feel", "(II)V"⟩
abbrev cX3_become : ByteArray := prog_5_method_4_code
def yX3_become : MethodName := ⟨RX3, "become", "(LCrownTwo$Heir;)V"⟩
abbrev cX3_likesAlone : ByteArray := prog_5_method_5_code
def yX3_likesAlone : MethodName := ⟨RX3, "likesAlone", "(I)Z"⟩
abbrev cX3_hatesAlone : ByteArray := prog_5_method_6_code
def yX3_hatesAlone : MethodName := ⟨RX3, "hatesAlone", "(I)Z"⟩
abbrev cX3_addTo : ByteArray := prog_5_method_7_code
def yX3_addTo : MethodName := ⟨RX3, "addTo", "(J)J"⟩
def RX4 : String := "CrownTwo$Joker"
def TX4 : u_T := fun k => match k with
  | _ => ("", "", "", false)
def tyX4 : Nat → FieldType := fun k => match k with
  | _ => .int
theorem nmX4 : ∀ a, a < 0 → ∀ b, b < 0 → a ≠ b → (TX4 a).2.1 ≠ (TX4 b).2.1 := by decide +kernel
theorem tyX4_ok : ∀ k, k < 0 → parseFieldDescriptor (TX4 k).2.2.1 = some (tyX4 k) := by decide +kernel
abbrev cX4_init : ByteArray := prog_6_method_1_code
def yX4_init : MethodName := ⟨RX4, "<init>", "()V"⟩
abbrev cX4_adds : ByteArray := prog_6_method_2_code
def yX4_adds : MethodName := ⟨RX4, "adds", "(I)I"⟩
def RX5 : String := "CrownTwo$Moment"
def TX5 : u_T := fun k => match k with
  | 0 => ("CrownTwo$Moment", "warmth", "I", false)
  | 1 => ("CrownTwo$Moment", "date", "I", false)
  | 2 => ("CrownTwo$Moment", "done", "I", false)
  | 3 => ("CrownTwo$Moment", "first", "I", false)
  | _ => ("CrownTwo$Moment", "second", "I", false)
def tyX5 : Nat → FieldType := fun k => match k with
  | 0 => .int
  | 1 => .int
  | 2 => .int
  | 3 => .int
  | _ => .int
theorem nmX5 : ∀ a, a < 5 → ∀ b, b < 5 → a ≠ b → (TX5 a).2.1 ≠ (TX5 b).2.1 := by decide +kernel
theorem tyX5_ok : ∀ k, k < 5 → parseFieldDescriptor (TX5 k).2.2.1 = some (tyX5 k) := by decide +kernel
abbrev cX5_init : ByteArray := prog_7_method_1_code
def yX5_init : MethodName := ⟨RX5, "<init>", "()V"⟩
abbrev cX5_begin : ByteArray := prog_7_method_2_code
def yX5_begin : MethodName := ⟨RX5, "begin", "(I)V"⟩
abbrev cX5_become : ByteArray := prog_7_method_3_code
def yX5_become : MethodName := ⟨RX5, "become", "(LCrownTwo$Moment;)V"⟩
abbrev cX5_warm : ByteArray := prog_7_method_4_code
def yX5_warm : MethodName := ⟨RX5, "warm", "(I)V"⟩
abbrev cX5_friendly : ByteArray := prog_7_method_5_code
def yX5_friendly : MethodName := ⟨RX5, "friendly", "()Z"⟩
abbrev cX5_paired : ByteArray := prog_7_method_6_code
def yX5_paired : MethodName := ⟨RX5, "paired", "()Z"⟩
abbrev cX5_isDone : ByteArray := prog_7_method_7_code
def yX5_isDone : MethodName := ⟨RX5, "isDone", "(I)Z"⟩
abbrev cX5_sideOf : ByteArray := prog_7_method_8_code
def yX5_sideOf : MethodName := ⟨RX5, "sideOf", "(I)I"⟩
def RX6 : String := "CrownTwo$Note"
def TX6 : u_T := fun k => match k with
  | 0 => ("CrownTwo$Note", "heir", "I", false)
  | 1 => ("CrownTwo$Note", "act", "I", false)
  | 2 => ("CrownTwo$Note", "warmth", "I", false)
  | 3 => ("CrownTwo$Note", "date", "I", false)
  | _ => ("CrownTwo$Note", "lifted", "I", false)
def tyX6 : Nat → FieldType := fun k => match k with
  | 0 => .int
  | 1 => .int
  | 2 => .int
  | 3 => .int
  | _ => .int
theorem nmX6 : ∀ a, a < 5 → ∀ b, b < 5 → a ≠ b → (TX6 a).2.1 ≠ (TX6 b).2.1 := by decide +kernel
theorem tyX6_ok : ∀ k, k < 5 → parseFieldDescriptor (TX6 k).2.2.1 = some (tyX6 k) := by decide +kernel
abbrev cX6_init : ByteArray := prog_8_method_1_code
def yX6_init : MethodName := ⟨RX6, "<init>", "()V"⟩
abbrev cX6_put : ByteArray := prog_8_method_2_code
def yX6_put : MethodName := ⟨RX6, "put", "(IIIII)V"⟩
abbrev cX6_become : ByteArray := prog_8_method_3_code
def yX6_become : MethodName := ⟨RX6, "become", "(LCrownTwo$Note;)V"⟩
abbrev cX6_addTo : ByteArray := prog_8_method_4_code
def yX6_addTo : MethodName := ⟨RX6, "addTo", "(J)J"⟩
def RX7 : String := "CrownTwo$Plain"
def TX7 : u_T := fun k => match k with
  | _ => ("", "", "", false)
def tyX7 : Nat → FieldType := fun k => match k with
  | _ => .int
theorem nmX7 : ∀ a, a < 0 → ∀ b, b < 0 → a ≠ b → (TX7 a).2.1 ≠ (TX7 b).2.1 := by decide +kernel
theorem tyX7_ok : ∀ k, k < 0 → parseFieldDescriptor (TX7 k).2.2.1 = some (tyX7 k) := by decide +kernel
abbrev cX7_init : ByteArray := prog_9_method_1_code
def yX7_init : MethodName := ⟨RX7, "<init>", "()V"⟩
abbrev cX7_lifts : ByteArray := prog_9_method_2_code
def yX7_lifts : MethodName := ⟨RX7, "lifts", "(ZZII)Z"⟩
abbrev cX7_adds : ByteArray := prog_9_method_3_code
def yX7_adds : MethodName := ⟨RX7, "adds", "(I)I"⟩
def RX8 : String := "CrownTwo$Proud"
def TX8 : u_T := fun k => match k with
  | _ => ("", "", "", false)
def tyX8 : Nat → FieldType := fun k => match k with
  | _ => .int
theorem nmX8 : ∀ a, a < 0 → ∀ b, b < 0 → a ≠ b → (TX8 a).2.1 ≠ (TX8 b).2.1 := by decide +kernel
theorem tyX8_ok : ∀ k, k < 0 → parseFieldDescriptor (TX8 k).2.2.1 = some (tyX8 k) := by decide +kernel
abbrev cX8_init : ByteArray := prog_10_method_1_code
def yX8_init : MethodName := ⟨RX8, "<init>", "()V"⟩
abbrev cX8_lifts : ByteArray := prog_10_method_2_code
def yX8_lifts : MethodName := ⟨RX8, "lifts", "(ZZII)Z"⟩
def RX9 : String := "CrownTwo$Sulky"
def TX9 : u_T := fun k => match k with
  | _ => ("", "", "", false)
def tyX9 : Nat → FieldType := fun k => match k with
  | _ => .int
theorem nmX9 : ∀ a, a < 0 → ∀ b, b < 0 → a ≠ b → (TX9 a).2.1 ≠ (TX9 b).2.1 := by decide +kernel
theorem tyX9_ok : ∀ k, k < 0 → parseFieldDescriptor (TX9 k).2.2.1 = some (tyX9 k) := by decide +kernel
abbrev cX9_init : ByteArray := prog_11_method_1_code
def yX9_init : MethodName := ⟨RX9, "<init>", "()V"⟩
abbrev cX9_lifts : ByteArray := prog_11_method_2_code
def yX9_lifts : MethodName := ⟨RX9, "lifts", "(ZZII)Z"⟩
abbrev cX9_adds : ByteArray := prog_11_method_3_code
def yX9_adds : MethodName := ⟨RX9, "adds", "(I)I"⟩
def RX10 : String := "CrownTwo$Tired"
def TX10 : u_T := fun k => match k with
  | _ => ("", "", "", false)
def tyX10 : Nat → FieldType := fun k => match k with
  | _ => .int
theorem nmX10 : ∀ a, a < 0 → ∀ b, b < 0 → a ≠ b → (TX10 a).2.1 ≠ (TX10 b).2.1 := by decide +kernel
theorem tyX10_ok : ∀ k, k < 0 → parseFieldDescriptor (TX10 k).2.2.1 = some (tyX10 k) := by decide +kernel
abbrev cX10_init : ByteArray := prog_12_method_1_code
def yX10_init : MethodName := ⟨RX10, "<init>", "()V"⟩
abbrev cX10_lifts : ByteArray := prog_12_method_2_code
def yX10_lifts : MethodName := ⟨RX10, "lifts", "(ZZII)Z"⟩
abbrev cX10_adds : ByteArray := prog_12_method_3_code
def yX10_adds : MethodName := ⟨RX10, "adds", "(I)I"⟩
def RX11 : String := "CrownTwo"
def TX11 : u_T := fun k => match k with
  | 0 => ("CrownTwo", "court", "LCrownTwo$Court;", true)
  | 1 => ("CrownTwo", "draft", "LCrownTwo$Court;", true)
  | 2 => ("CrownTwo", "images", "[LCrownTwo$Court;", true)
  | 3 => ("CrownTwo", "kept", "[Z", true)
  | 4 => ("CrownTwo", "text", "LCrownTwo$CourtText;", true)
  | 5 => ("CrownTwo", "trial", "LCrownTwo$Moment;", true)
  | 6 => ("CrownTwo", "steps", "[LCrownTwo$Moment;", true)
  | 7 => ("CrownTwo", "way", "[I", true)
  | 8 => ("CrownTwo", "bestWay", "[I", true)
  | 9 => ("CrownTwo", "mostDone", "I", false)
  | 10 => ("CrownTwo", "above", "I", false)
  | 11 => ("CrownTwo", "below", "I", false)
  | 12 => ("CrownTwo", "bads", "I", false)
  | 13 => ("CrownTwo", "noes", "I", false)
  | _ => ("CrownTwo", "fulls", "I", false)
def tyX11 : Nat → FieldType := fun k => match k with
  | 0 => .object "CrownTwo$Court"
  | 1 => .object "CrownTwo$Court"
  | 2 => .array (.object "CrownTwo$Court")
  | 3 => .array .boolean
  | 4 => .object "CrownTwo$CourtText"
  | 5 => .object "CrownTwo$Moment"
  | 6 => .array (.object "CrownTwo$Moment")
  | 7 => .array .int
  | 8 => .array .int
  | 9 => .int
  | 10 => .int
  | 11 => .int
  | 12 => .int
  | 13 => .int
  | _ => .int
theorem nmX11 : ∀ a, a < 15 → ∀ b, b < 15 → a ≠ b → (TX11 a).2.1 ≠ (TX11 b).2.1 := by decide +kernel
theorem tyX11_ok : ∀ k, k < 15 → parseFieldDescriptor (TX11 k).2.2.1 = some (tyX11 k) := by decide +kernel
abbrev cX11_init : ByteArray := prog_1_method_1_code
def yX11_init : MethodName := ⟨RX11, "<init>", "()V"⟩
abbrev cX11_court : ByteArray := prog_1_method_2_code
def yX11_court : MethodName := ⟨RX11, "court", "(I)I"⟩
abbrev cX11_heir : ByteArray := prog_1_method_3_code
def yX11_heir : MethodName := ⟨RX11, "heir", "(IIII)I"⟩
abbrev cX11_type : ByteArray := prog_1_method_4_code
def yX11_type : MethodName := ⟨RX11, "type", "(I)I"⟩
abbrev cX11_clear : ByteArray := prog_1_method_5_code
def yX11_clear : MethodName := ⟨RX11, "clear", "()I"⟩
abbrev cX11_read : ByteArray := prog_1_method_6_code
def yX11_read : MethodName := ⟨RX11, "read", "()I"⟩
abbrev cX11_pair : ByteArray := prog_1_method_7_code
def yX11_pair : MethodName := ⟨RX11, "pair", "(II)I"⟩
abbrev cX11_ask : ByteArray := prog_1_method_8_code
def yX11_ask : MethodName := ⟨RX11, "ask", "(I)I"⟩
abbrev cX11_day : ByteArray := prog_1_method_9_code
def yX11_day : MethodName := ⟨RX11, "day", "(I)I"⟩
abbrev cX11_feed : ByteArray := prog_1_method_10_code
def yX11_feed : MethodName := ⟨RX11, "feed", "(I)I"⟩
abbrev cX11_undo : ByteArray := prog_1_method_11_code
def yX11_undo : MethodName := ⟨RX11, "undo", "()I"⟩
abbrev cX11_of : ByteArray := prog_1_method_12_code
def yX11_of : MethodName := ⟨RX11, "of", "(II)I"⟩
abbrev cX11_makes : ByteArray := prog_1_method_13_code
def yX11_makes : MethodName := ⟨RX11, "makes", "(I)I"⟩
abbrev cX11_lift : ByteArray := prog_1_method_14_code
def yX11_lift : MethodName := ⟨RX11, "lift", "(I)I"⟩
abbrev cX11_both : ByteArray := prog_1_method_15_code
def yX11_both : MethodName := ⟨RX11, "both", "(I)I"⟩
abbrev cX11_friends : ByteArray := prog_1_method_16_code
def yX11_friends : MethodName := ⟨RX11, "friends", "()I"⟩
abbrev cX11_then : ByteArray := prog_1_method_17_code
def yX11_then : MethodName := ⟨RX11, "then", "(I)I"⟩
abbrev cX11_most : ByteArray := prog_1_method_18_code
def yX11_most : MethodName := ⟨RX11, "most", "(II)I"⟩
abbrev cX11_keep : ByteArray := prog_1_method_19_code
def yX11_keep : MethodName := ⟨RX11, "keep", "(I)I"⟩
abbrev cX11_lasts : ByteArray := prog_1_method_20_code
def yX11_lasts : MethodName := ⟨RX11, "lasts", "(II)I"⟩
abbrev cX11_pairs : ByteArray := prog_1_method_21_code
def yX11_pairs : MethodName := ⟨RX11, "pairs", "(I)I"⟩
abbrev cX11_note : ByteArray := prog_1_method_22_code
def yX11_note : MethodName := ⟨RX11, "note", "(IIIII)I"⟩
abbrev cX11_forget : ByteArray := prog_1_method_23_code
def yX11_forget : MethodName := ⟨RX11, "forget", "()I"⟩
abbrev cX11_is : ByteArray := prog_1_method_24_code
def yX11_is : MethodName := ⟨RX11, "is", "(I)I"⟩
abbrev cX11_heart : ByteArray := prog_1_method_25_code
def yX11_heart : MethodName := ⟨RX11, "heart", "(II)I"⟩
abbrev cX11_next : ByteArray := prog_1_method_26_code
def yX11_next : MethodName := ⟨RX11, "next", "(I)I"⟩
abbrev cX11_spite : ByteArray := prog_1_method_27_code
def yX11_spite : MethodName := ⟨RX11, "spite", "(I)I"⟩
abbrev cX11_slips : ByteArray := prog_1_method_28_code
def yX11_slips : MethodName := ⟨RX11, "slips", "(II)I"⟩
abbrev cX11_reigns : ByteArray := prog_1_method_29_code
def yX11_reigns : MethodName := ⟨RX11, "reigns", "(II)I"⟩
abbrev cX11_part : ByteArray := prog_1_method_30_code
def yX11_part : MethodName := ⟨RX11, "part", "(I)J"⟩
abbrev cX11_image : ByteArray := prog_1_method_31_code
def yX11_image : MethodName := ⟨RX11, "image", "(I)I"⟩
abbrev cX11_from : ByteArray := prog_1_method_32_code
def yX11_from : MethodName := ⟨RX11, "from", "(I)I"⟩
abbrev cX11_status : ByteArray := prog_1_method_33_code
def yX11_status : MethodName := ⟨RX11, "status", "(I)I"⟩
abbrev cX11_count : ByteArray := prog_1_method_34_code
def yX11_count : MethodName := ⟨RX11, "count", "(I)I"⟩
abbrev cX11_digest : ByteArray := prog_1_method_35_code
def yX11_digest : MethodName := ⟨RX11, "digest", "()J"⟩
abbrev cX11_bad : ByteArray := prog_1_method_36_code
def yX11_bad : MethodName := ⟨RX11, "bad", "()I"⟩
abbrev cX11_no : ByteArray := prog_1_method_37_code
def yX11_no : MethodName := ⟨RX11, "no", "()I"⟩
abbrev cX11_full : ByteArray := prog_1_method_38_code
def yX11_full : MethodName := ⟨RX11, "full", "()I"⟩
abbrev cX11_outside : ByteArray := prog_1_method_39_code
def yX11_outside : MethodName := ⟨RX11, "outside", "(III)Z"⟩
abbrev cX11_daysToFriends : ByteArray := prog_1_method_40_code
def yX11_daysToFriends : MethodName := ⟨RX11, "daysToFriends", "(I)I"⟩
abbrev cX11_staysQuarrelled : ByteArray := prog_1_method_41_code
def yX11_staysQuarrelled : MethodName := ⟨RX11, "staysQuarrelled", "(III)Z"⟩
abbrev cX11_lastingOf : ByteArray := prog_1_method_42_code
def yX11_lastingOf : MethodName := ⟨RX11, "lastingOf", "(II)I"⟩
abbrev cX11_bestPair : ByteArray := prog_1_method_43_code
def yX11_bestPair : MethodName := ⟨RX11, "bestPair", "()I"⟩
abbrev cX11_stuckPairs : ByteArray := prog_1_method_44_code
def yX11_stuckPairs : MethodName := ⟨RX11, "stuckPairs", "()I"⟩
abbrev cX11_tryFrom : ByteArray := prog_1_method_45_code
def yX11_tryFrom : MethodName := ⟨RX11, "tryFrom", "(III)V"⟩
abbrev cX11_kindsThatFit : ByteArray := prog_1_method_46_code
def yX11_kindsThatFit : MethodName := ⟨RX11, "kindsThatFit", "(I)I"⟩
abbrev cX11_gain : ByteArray := prog_1_method_47_code
def yX11_gain : MethodName := ⟨RX11, "gain", "(LCrownTwo$Heir;IZZ)I"⟩
abbrev cX11_setFraction : ByteArray := prog_1_method_48_code
def yX11_setFraction : MethodName := ⟨RX11, "setFraction", "(II)V"⟩
abbrev cX11_howMany : ByteArray := prog_1_method_49_code
def yX11_howMany : MethodName := ⟨RX11, "howMany", "(I)I"⟩
def RX12 : String := "CrownTwoModel"
def TX12 : u_T := fun k => match k with
  | 0 => ("CrownTwoModel", "refused", "[I", true)
  | 1 => ("CrownTwoModel", "many", "I", false)
  | 2 => ("CrownTwoModel", "warmth", "I", false)
  | 3 => ("CrownTwoModel", "now", "I", false)
  | 4 => ("CrownTwoModel", "done", "I", false)
  | 5 => ("CrownTwoModel", "one", "I", false)
  | 6 => ("CrownTwoModel", "other", "I", false)
  | 7 => ("CrownTwoModel", "noteMany", "I", false)
  | 8 => ("CrownTwoModel", "kinds", "[I", true)
  | 9 => ("CrownTwoModel", "likes", "[I", true)
  | 10 => ("CrownTwoModel", "hates", "[I", true)
  | 11 => ("CrownTwoModel", "tempers", "[I", true)
  | 12 => ("CrownTwoModel", "noteHeir", "[I", true)
  | 13 => ("CrownTwoModel", "noteAct", "[I", true)
  | 14 => ("CrownTwoModel", "noteWarmth", "[I", true)
  | 15 => ("CrownTwoModel", "noteDay", "[I", true)
  | 16 => ("CrownTwoModel", "noteLifted", "[I", true)
  | 17 => ("CrownTwoModel", "text", "[I", true)
  | 18 => ("CrownTwoModel", "typed", "I", false)
  | 19 => ("CrownTwoModel", "readAt", "I", false)
  | 20 => ("CrownTwoModel", "readWarmth", "I", false)
  | 21 => ("CrownTwoModel", "readMany", "I", false)
  | 22 => ("CrownTwoModel", "readOne", "I", false)
  | 23 => ("CrownTwoModel", "readOther", "I", false)
  | 24 => ("CrownTwoModel", "readHeirs", "[I", true)
  | 25 => ("CrownTwoModel", "readNumber", "I", false)
  | 26 => ("CrownTwoModel", "ahead", "[I", true)
  | 27 => ("CrownTwoModel", "undoMany", "I", false)
  | 28 => ("CrownTwoModel", "aside", "[I", true)
  | 29 => ("CrownTwoModel", "line", "[I", true)
  | 30 => ("CrownTwoModel", "bestLine", "[I", true)
  | 31 => ("CrownTwoModel", "above", "J", false)
  | 32 => ("CrownTwoModel", "below", "J", false)
  | 33 => ("CrownTwoModel", "images", "[I", true)
  | 34 => ("CrownTwoModel", "isKept", "[I", true)
  | _ => ("CrownTwoModel", "h0", "J", false)
def tyX12 : Nat → FieldType := fun k => match k with
  | 0 => .array .int
  | 1 => .int
  | 2 => .int
  | 3 => .int
  | 4 => .int
  | 5 => .int
  | 6 => .int
  | 7 => .int
  | 8 => .array .int
  | 9 => .array .int
  | 10 => .array .int
  | 11 => .array .int
  | 12 => .array .int
  | 13 => .array .int
  | 14 => .array .int
  | 15 => .array .int
  | 16 => .array .int
  | 17 => .array .int
  | 18 => .int
  | 19 => .int
  | 20 => .int
  | 21 => .int
  | 22 => .int
  | 23 => .int
  | 24 => .array .int
  | 25 => .int
  | 26 => .array .int
  | 27 => .int
  | 28 => .array .int
  | 29 => .array .int
  | 30 => .array .int
  | 31 => .long
  | 32 => .long
  | 33 => .array .int
  | 34 => .array .int
  | _ => .long
theorem nmX12 : ∀ a, a < 36 → ∀ b, b < 36 → a ≠ b → (TX12 a).2.1 ≠ (TX12 b).2.1 := by decide +kernel
theorem tyX12_ok : ∀ k, k < 36 → parseFieldDescriptor (TX12 k).2.2.1 = some (tyX12 k) := by decide +kernel
abbrev cX12_bad : ByteArray := prog_14_method_1_code
def yX12_bad : MethodName := ⟨RX12, "bad", "()I"⟩
abbrev cX12_ten : ByteArray := prog_14_method_2_code
def yX12_ten : MethodName := ⟨RX12, "ten", "()I"⟩
abbrev cX12_no : ByteArray := prog_14_method_3_code
def yX12_no : MethodName := ⟨RX12, "no", "()I"⟩
abbrev cX12_full : ByteArray := prog_14_method_4_code
def yX12_full : MethodName := ⟨RX12, "full", "()I"⟩
abbrev cX12_in : ByteArray := prog_14_method_5_code
def yX12_in : MethodName := ⟨RX12, "in", "(III)Z"⟩
abbrev cX12_has : ByteArray := prog_14_method_6_code
def yX12_has : MethodName := ⟨RX12, "has", "(II)Z"⟩
abbrev cX12_bits : ByteArray := prog_14_method_7_code
def yX12_bits : MethodName := ⟨RX12, "bits", "(I)I"⟩
abbrev cX12_kept : ByteArray := prog_14_method_8_code
def yX12_kept : MethodName := ⟨RX12, "kept", "(I)I"⟩
abbrev cX12_init : ByteArray := prog_14_method_9_code
def yX12_init : MethodName := ⟨RX12, "<init>", "()V"⟩
abbrev cX12_begin : ByteArray := prog_14_method_10_code
def yX12_begin : MethodName := ⟨RX12, "begin", "(I)V"⟩
abbrev cX12_isHeir : ByteArray := prog_14_method_11_code
def yX12_isHeir : MethodName := ⟨RX12, "isHeir", "(I)Z"⟩
abbrev cX12_isAct : ByteArray := prog_14_method_12_code
def yX12_isAct : MethodName := ⟨RX12, "isAct", "(I)Z"⟩
abbrev cX12_isPair : ByteArray := prog_14_method_13_code
def yX12_isPair : MethodName := ⟨RX12, "isPair", "()Z"⟩
abbrev cX12_court : ByteArray := prog_14_method_14_code
def yX12_court : MethodName := ⟨RX12, "court", "(I)I"⟩
abbrev cX12_addHeir : ByteArray := prog_14_method_15_code
def yX12_addHeir : MethodName := ⟨RX12, "addHeir", "(IIII)I"⟩
abbrev cX12_heir : ByteArray := prog_14_method_16_code
def yX12_heir : MethodName := ⟨RX12, "heir", "(IIII)I"⟩
abbrev cX12_type : ByteArray := prog_14_method_17_code
def yX12_type : MethodName := ⟨RX12, "type", "(I)I"⟩
abbrev cX12_clear : ByteArray := prog_14_method_18_code
def yX12_clear : MethodName := ⟨RX12, "clear", "()I"⟩
abbrev cX12_here : ByteArray := prog_14_method_19_code
def yX12_here : MethodName := ⟨RX12, "here", "()I"⟩
abbrev cX12_skip : ByteArray := prog_14_method_20_code
def yX12_skip : MethodName := ⟨RX12, "skip", "()V"⟩
abbrev cX12_isLetter : ByteArray := prog_14_method_21_code
def yX12_isLetter : MethodName := ⟨RX12, "isLetter", "(I)Z"⟩
abbrev cX12_isFigure : ByteArray := prog_14_method_22_code
def yX12_isFigure : MethodName := ⟨RX12, "isFigure", "(I)Z"⟩
abbrev cX12_wordSize : ByteArray := prog_14_method_23_code
def yX12_wordSize : MethodName := ⟨RX12, "wordSize", "()I"⟩
abbrev cX12_letter : ByteArray := prog_14_method_24_code
def yX12_letter : MethodName := ⟨RX12, "letter", "(I)I"⟩
abbrev cX12_spells : ByteArray := prog_14_method_25_code
def yX12_spells : MethodName := ⟨RX12, "spells", "(IIII)Z"⟩
abbrev cX12_wordHere : ByteArray := prog_14_method_26_code
def yX12_wordHere : MethodName := ⟨RX12, "wordHere", "()I"⟩
abbrev cX12_number : ByteArray := prog_14_method_27_code
def yX12_number : MethodName := ⟨RX12, "number", "(II)Z"⟩
abbrev cX12_ends : ByteArray := prog_14_method_28_code
def yX12_ends : MethodName := ⟨RX12, "ends", "()Z"⟩
abbrev cX12_readsHeir : ByteArray := prog_14_method_29_code
def yX12_readsHeir : MethodName := ⟨RX12, "readsHeir", "()Z"⟩
abbrev cX12_readsActs : ByteArray := prog_14_method_30_code
def yX12_readsActs : MethodName := ⟨RX12, "readsActs", "(I)Z"⟩
abbrev cX12_readsPair : ByteArray := prog_14_method_31_code
def yX12_readsPair : MethodName := ⟨RX12, "readsPair", "()Z"⟩
abbrev cX12_readsItem : ByteArray := prog_14_method_32_code
def yX12_readsItem : MethodName := ⟨RX12, "readsItem", "()Z"⟩
abbrev cX12_readsFirst : ByteArray := prog_14_method_33_code
def yX12_readsFirst : MethodName := ⟨RX12, "readsFirst", "()Z"⟩
abbrev cX12_readsCourt : ByteArray := prog_14_method_34_code
def yX12_readsCourt : MethodName := ⟨RX12, "readsCourt", "()I"⟩
abbrev cX12_read : ByteArray := prog_14_method_35_code
def yX12_read : MethodName := ⟨RX12, "read", "()I"⟩
abbrev cX12_heartOf : ByteArray := prog_14_method_36_code
def yX12_heartOf : MethodName := ⟨RX12, "heartOf", "(II)I"⟩
abbrev cX12_liftsBy : ByteArray := prog_14_method_37_code
def yX12_liftsBy : MethodName := ⟨RX12, "liftsBy", "(IIII)Z"⟩
abbrev cX12_lifts : ByteArray := prog_14_method_38_code
def yX12_lifts : MethodName := ⟨RX12, "lifts", "(II)Z"⟩
abbrev cX12_makesOf : ByteArray := prog_14_method_39_code
def yX12_makesOf : MethodName := ⟨RX12, "makesOf", "(I)I"⟩
abbrev cX12_growth : ByteArray := prog_14_method_40_code
def yX12_growth : MethodName := ⟨RX12, "growth", "()I"⟩
abbrev cX12_pass : ByteArray := prog_14_method_41_code
def yX12_pass : MethodName := ⟨RX12, "pass", "()V"⟩
abbrev cX12_lifting : ByteArray := prog_14_method_42_code
def yX12_lifting : MethodName := ⟨RX12, "lifting", "(I)I"⟩
abbrev cX12_asks : ByteArray := prog_14_method_43_code
def yX12_asks : MethodName := ⟨RX12, "asks", "(I)I"⟩
abbrev cX12_lays : ByteArray := prog_14_method_44_code
def yX12_lays : MethodName := ⟨RX12, "lays", "([II)V"⟩
abbrev cX12_takes : ByteArray := prog_14_method_45_code
def yX12_takes : MethodName := ⟨RX12, "takes", "([II)V"⟩
abbrev cX12_notes : ByteArray := prog_14_method_46_code
def yX12_notes : MethodName := ⟨RX12, "notes", "()V"⟩
abbrev cX12_puts : ByteArray := prog_14_method_47_code
def yX12_puts : MethodName := ⟨RX12, "puts", "()V"⟩
abbrev cX12_back : ByteArray := prog_14_method_48_code
def yX12_back : MethodName := ⟨RX12, "back", "()V"⟩
abbrev cX12_pair : ByteArray := prog_14_method_49_code
def yX12_pair : MethodName := ⟨RX12, "pair", "(II)I"⟩
abbrev cX12_ask : ByteArray := prog_14_method_50_code
def yX12_ask : MethodName := ⟨RX12, "ask", "(I)I"⟩
abbrev cX12_day : ByteArray := prog_14_method_51_code
def yX12_day : MethodName := ⟨RX12, "day", "(I)I"⟩
abbrev cX12_feed : ByteArray := prog_14_method_52_code
def yX12_feed : MethodName := ⟨RX12, "feed", "(I)I"⟩
abbrev cX12_undo : ByteArray := prog_14_method_53_code
def yX12_undo : MethodName := ⟨RX12, "undo", "()I"⟩
abbrev cX12_of : ByteArray := prog_14_method_54_code
def yX12_of : MethodName := ⟨RX12, "of", "(II)I"⟩
abbrev cX12_makes : ByteArray := prog_14_method_55_code
def yX12_makes : MethodName := ⟨RX12, "makes", "(I)I"⟩
abbrev cX12_lift : ByteArray := prog_14_method_56_code
def yX12_lift : MethodName := ⟨RX12, "lift", "(I)I"⟩
abbrev cX12_bothSet : ByteArray := prog_14_method_57_code
def yX12_bothSet : MethodName := ⟨RX12, "bothSet", "()I"⟩
abbrev cX12_both : ByteArray := prog_14_method_58_code
def yX12_both : MethodName := ⟨RX12, "both", "(I)I"⟩
abbrev cX12_daysTill : ByteArray := prog_14_method_59_code
def yX12_daysTill : MethodName := ⟨RX12, "daysTill", "()I"⟩
abbrev cX12_friends : ByteArray := prog_14_method_60_code
def yX12_friends : MethodName := ⟨RX12, "friends", "()I"⟩
abbrev cX12_then : ByteArray := prog_14_method_61_code
def yX12_then : MethodName := ⟨RX12, "then", "(I)I"⟩
abbrev cX12_doneBy : ByteArray := prog_14_method_62_code
def yX12_doneBy : MethodName := ⟨RX12, "doneBy", "(II)I"⟩
abbrev cX12_most : ByteArray := prog_14_method_63_code
def yX12_most : MethodName := ⟨RX12, "most", "(II)I"⟩
abbrev cX12_keep : ByteArray := prog_14_method_64_code
def yX12_keep : MethodName := ⟨RX12, "keep", "(I)I"⟩
abbrev cX12_lastsOf : ByteArray := prog_14_method_65_code
def yX12_lastsOf : MethodName := ⟨RX12, "lastsOf", "(II)I"⟩
abbrev cX12_lasts : ByteArray := prog_14_method_66_code
def yX12_lasts : MethodName := ⟨RX12, "lasts", "(II)I"⟩
abbrev cX12_areStuck : ByteArray := prog_14_method_67_code
def yX12_areStuck : MethodName := ⟨RX12, "areStuck", "(II)Z"⟩
abbrev cX12_pairs : ByteArray := prog_14_method_68_code
def yX12_pairs : MethodName := ⟨RX12, "pairs", "(I)I"⟩
abbrev cX12_note : ByteArray := prog_14_method_69_code
def yX12_note : MethodName := ⟨RX12, "note", "(IIIII)I"⟩
abbrev cX12_forget : ByteArray := prog_14_method_70_code
def yX12_forget : MethodName := ⟨RX12, "forget", "()I"⟩
abbrev cX12_isSo : ByteArray := prog_14_method_71_code
def yX12_isSo : MethodName := ⟨RX12, "isSo", "(IIII)Z"⟩
abbrev cX12_kindsOf : ByteArray := prog_14_method_72_code
def yX12_kindsOf : MethodName := ⟨RX12, "kindsOf", "(I)I"⟩
abbrev cX12_is : ByteArray := prog_14_method_73_code
def yX12_is : MethodName := ⟨RX12, "is", "(I)I"⟩
abbrev cX12_heart : ByteArray := prog_14_method_74_code
def yX12_heart : MethodName := ⟨RX12, "heart", "(II)I"⟩
abbrev cX12_greaterPart : ByteArray := prog_14_method_75_code
def yX12_greaterPart : MethodName := ⟨RX12, "greaterPart", "(III)I"⟩
abbrev cX12_next : ByteArray := prog_14_method_76_code
def yX12_next : MethodName := ⟨RX12, "next", "(I)I"⟩
abbrev cX12_gets : ByteArray := prog_14_method_77_code
def yX12_gets : MethodName := ⟨RX12, "gets", "(IIZZ)I"⟩
abbrev cX12_spite : ByteArray := prog_14_method_78_code
def yX12_spite : MethodName := ⟨RX12, "spite", "(I)I"⟩
abbrev cX12_lay : ByteArray := prog_14_method_79_code
def yX12_lay : MethodName := ⟨RX12, "lay", "(JJ)V"⟩
abbrev cX12_slips : ByteArray := prog_14_method_80_code
def yX12_slips : MethodName := ⟨RX12, "slips", "(II)I"⟩
abbrev cX12_reigns : ByteArray := prog_14_method_81_code
def yX12_reigns : MethodName := ⟨RX12, "reigns", "(II)I"⟩
abbrev cX12_part : ByteArray := prog_14_method_82_code
def yX12_part : MethodName := ⟨RX12, "part", "(I)J"⟩
abbrev cX12_image : ByteArray := prog_14_method_83_code
def yX12_image : MethodName := ⟨RX12, "image", "(I)I"⟩
abbrev cX12_from : ByteArray := prog_14_method_84_code
def yX12_from : MethodName := ⟨RX12, "from", "(I)I"⟩
abbrev cX12_status : ByteArray := prog_14_method_85_code
def yX12_status : MethodName := ⟨RX12, "status", "(I)I"⟩
abbrev cX12_countOf : ByteArray := prog_14_method_86_code
def yX12_countOf : MethodName := ⟨RX12, "countOf", "(I)I"⟩
abbrev cX12_count : ByteArray := prog_14_method_87_code
def yX12_count : MethodName := ⟨RX12, "count", "(I)I"⟩
abbrev cX12_mix : ByteArray := prog_14_method_88_code
def yX12_mix : MethodName := ⟨RX12, "mix", "(J)V"⟩
abbrev cX12_digest : ByteArray := prog_14_method_89_code
def yX12_digest : MethodName := ⟨RX12, "digest", "()J"⟩
def RJ6 : String := "java/lang/Integer"
def TJ6 : u_T := fun k => match k with
  | _ => ("", "", "", false)
def tyJ6 : Nat → FieldType := fun k => match k with
  | _ => .int
theorem nmJ6 : ∀ a, a < 0 → ∀ b, b < 0 → a ≠ b → (TJ6 a).2.1 ≠ (TJ6 b).2.1 := by decide +kernel
theorem tyJ6_ok : ∀ k, k < 0 → parseFieldDescriptor (TJ6 k).2.2.1 = some (tyJ6 k) := by decide +kernel
abbrev cJ6_bitCount_0f7a4 : ByteArray := prog_15_method_49_code
def yJ6_bitCount_0f7a4 : MethodName := ⟨RJ6, "bitCount", "(I)I"⟩
def RJ9 : String := "java/lang/Math"
def TJ9 : u_T := fun k => match k with
  | _ => ("", "", "", false)
def tyJ9 : Nat → FieldType := fun k => match k with
  | _ => .int
theorem nmJ9 : ∀ a, a < 0 → ∀ b, b < 0 → a ≠ b → (TJ9 a).2.1 ≠ (TJ9 b).2.1 := by decide +kernel
theorem tyJ9_ok : ∀ k, k < 0 → parseFieldDescriptor (TJ9 k).2.2.1 = some (tyJ9 k) := by decide +kernel
abbrev cJ9_max_7cf53 : ByteArray := prog_16_method_65_code
def yJ9_max_7cf53 : MethodName := ⟨RJ9, "max", "(II)I"⟩
abbrev cJ9_min_7cf53 : ByteArray := prog_16_method_69_code
def yJ9_min_7cf53 : MethodName := ⟨RJ9, "min", "(II)I"⟩
def RJ0 : String := "java/lang/String"
def TJ0 : u_T := fun k => match k with
  | _ => ("", "", "", false)
def tyJ0 : Nat → FieldType := fun k => match k with
  | _ => .int
theorem nmJ0 : ∀ a, a < 0 → ∀ b, b < 0 → a ≠ b → (TJ0 a).2.1 ≠ (TJ0 b).2.1 := by decide +kernel
theorem tyJ0_ok : ∀ k, k < 0 → parseFieldDescriptor (TJ0 k).2.2.1 = some (tyJ0 k) := by decide +kernel
abbrev cJ0_length_8abf5 : ByteArray := prog_17_method_54_code
def yJ0_length_8abf5 : MethodName := ⟨RJ0, "length", "()I"⟩
abbrev cJ0_charAt_5068e : ByteArray := prog_17_method_56_code
def yJ0_charAt_5068e : MethodName := ⟨RJ0, "charAt", "(I)C"⟩
abbrev cJ0_coder_7d493 : ByteArray := prog_17_method_152_code
def yJ0_coder_7d493 : MethodName := ⟨RJ0, "coder", "()B"⟩
abbrev cJ0_isLatin1_aae02 : ByteArray := prog_17_method_154_code
def yJ0_isLatin1_aae02 : MethodName := ⟨RJ0, "isLatin1", "()Z"⟩
abbrev cJ0_checkIndex_df160 : ByteArray := prog_17_method_155_code
def yJ0_checkIndex_df160 : MethodName := ⟨RJ0, "checkIndex", "(II)V"⟩
def RJ1 : String := "java/lang/StringLatin1"
def TJ1 : u_T := fun k => match k with
  | _ => ("", "", "", false)
def tyJ1 : Nat → FieldType := fun k => match k with
  | _ => .int
theorem nmJ1 : ∀ a, a < 0 → ∀ b, b < 0 → a ≠ b → (TJ1 a).2.1 ≠ (TJ1 b).2.1 := by decide +kernel
theorem tyJ1_ok : ∀ k, k < 0 → parseFieldDescriptor (TJ1 k).2.2.1 = some (tyJ1 k) := by decide +kernel
abbrev cJ1_charAt_3b067 : ByteArray := prog_18_method_2_code
def yJ1_charAt_3b067 : MethodName := ⟨RJ1, "charAt", "([BI)C"⟩
def RJ2 : String := "java/lang/StringUTF16"
def TJ2 : u_T := fun k => match k with
  | _ => ("", "", "", false)
def tyJ2 : Nat → FieldType := fun k => match k with
  | _ => .int
theorem nmJ2 : ∀ a, a < 0 → ∀ b, b < 0 → a ≠ b → (TJ2 a).2.1 ≠ (TJ2 b).2.1 := by decide +kernel
theorem tyJ2_ok : ∀ k, k < 0 → parseFieldDescriptor (TJ2 k).2.2.1 = some (tyJ2 k) := by decide +kernel
abbrev cJ2_getChar_3b067 : ByteArray := prog_19_method_5_code
def yJ2_getChar_3b067 : MethodName := ⟨RJ2, "getChar", "([BI)C"⟩
abbrev cJ2_length_9d52b : ByteArray := prog_19_method_6_code
def yJ2_length_9d52b : MethodName := ⟨RJ2, "length", "([B)I"⟩
abbrev cJ2_charAt_3b067 : ByteArray := prog_19_method_83_code
def yJ2_charAt_3b067 : MethodName := ⟨RJ2, "charAt", "([BI)C"⟩
abbrev cJ2_checkIndex_2214a : ByteArray := prog_19_method_91_code
def yJ2_checkIndex_2214a : MethodName := ⟨RJ2, "checkIndex", "(I[B)V"⟩
def RJ10 : String := "java/lang/System"
def TJ10 : u_T := fun k => match k with
  | _ => ("", "", "", false)
def tyJ10 : Nat → FieldType := fun k => match k with
  | _ => .int
theorem nmJ10 : ∀ a, a < 0 → ∀ b, b < 0 → a ≠ b → (TJ10 a).2.1 ≠ (TJ10 b).2.1 := by decide +kernel
theorem tyJ10_ok : ∀ k, k < 0 → parseFieldDescriptor (TJ10 k).2.2.1 = some (tyJ10 k) := by decide +kernel
def RJ3 : String := "jdk/internal/util/Preconditions"
def TJ3 : u_T := fun k => match k with
  | _ => ("", "", "", false)
def tyJ3 : Nat → FieldType := fun k => match k with
  | _ => .int
theorem nmJ3 : ∀ a, a < 0 → ∀ b, b < 0 → a ≠ b → (TJ3 a).2.1 ≠ (TJ3 b).2.1 := by decide +kernel
theorem tyJ3_ok : ∀ k, k < 0 → parseFieldDescriptor (TJ3 k).2.2.1 = some (tyJ3 k) := by decide +kernel
abbrev cJ3_checkIndex_8e157 : ByteArray := prog_21_method_11_code
def yJ3_checkIndex_8e157 : MethodName := ⟨RJ3, "checkIndex", "(IILjava/util/function/BiFunction;)I"⟩
def RL : String := "CrownTwoLaw"
abbrev cL_law : ByteArray := code
def yL_law : MethodName := ⟨RL, "law", "([I)Z"⟩
abbrev vwCl : List vw_C := [(RX0, TX0, 8), (RX1, TX1, 6), (RX2, TX2, 0), (RX3, TX3, 4), (RX4, TX4, 0), (RX5, TX5, 5), (RX6, TX6, 5), (RX7, TX7, 0), (RX8, TX8, 0), (RX9, TX9, 0), (RX10, TX10, 0), (RX11, TX11, 15), (RX12, TX12, 36)]
theorem q_0 : (Jvm.Cond.initialized "CrownTwoLaw") ∈ gw := gw_t1 0 rfl rfl
theorem q_1 : (Jvm.Cond.initialized "CrownTwo") ∈ gw := gw_t1 1 rfl rfl
theorem q_2 : (Jvm.Cond.initialized "CrownTwo$CourtText") ∈ gw := gw_t1 2 rfl rfl
theorem q_3 : (Jvm.Cond.initialized "CrownTwo$Moment") ∈ gw := gw_t1 3 rfl rfl
theorem q_4 : (Jvm.Cond.initialized "CrownTwo$Plain") ∈ gw := gw_t1 4 rfl rfl
theorem q_5 : (Jvm.Cond.initialized "CrownTwo$Sulky") ∈ gw := gw_t1 5 rfl rfl
theorem q_6 : (Jvm.Cond.initialized "CrownTwo$Joker") ∈ gw := gw_t1 6 rfl rfl
theorem q_7 : (Jvm.Cond.initialized "CrownTwo$Proud") ∈ gw := gw_t1 7 rfl rfl
theorem q_8 : (Jvm.Cond.initialized "CrownTwo$Tired") ∈ gw := gw_t1 8 rfl rfl
theorem q_9 : (Jvm.Cond.initialized "CrownTwo$Forgiver") ∈ gw := gw_t1 9 rfl rfl
theorem q_10 : (Jvm.Cond.initialized "CrownTwo$Court") ∈ gw := gw_t1 10 rfl rfl
theorem q_11 : (Jvm.Cond.initialized "CrownTwo$Heir") ∈ gw := gw_t1 11 rfl rfl
theorem q_12 : (Jvm.Cond.initialized "CrownTwo$Note") ∈ gw := gw_t1 12 rfl rfl
theorem q_13 : (Jvm.Cond.initialized "CrownTwoModel") ∈ gw := gw_t1 13 rfl rfl
theorem q_14 : (Jvm.Cond.initialized "java/lang/String") ∈ gw := gw_t1 14 rfl rfl
theorem q_15 : (Jvm.Cond.initialized "java/lang/StringLatin1") ∈ gw := gw_t1 15 rfl rfl
theorem q_16 : (Jvm.Cond.initialized "jdk/internal/util/Preconditions") ∈ gw := gw_t1 16 rfl rfl
theorem q_17 : (Jvm.Cond.initialized "java/lang/StringUTF16") ∈ gw := gw_t1 17 rfl rfl
theorem q_18 : (Jvm.Cond.initialized "java/lang/Math") ∈ gw := gw_t1 18 rfl rfl
theorem q_19 : (Jvm.Cond.initialized "java/lang/System") ∈ gw := gw_t1 19 rfl rfl
theorem q_20 : (Jvm.Cond.initialized "java/lang/Integer") ∈ gw := gw_t1 20 rfl rfl
theorem q_21 : (Jvm.Cond.classLink "CrownTwoLaw" (7 : Nat) "CrownTwo") ∈ gw := gw_t1 21 rfl rfl
theorem q_22 : (Jvm.Cond.instantiable "CrownTwo" (15 : Nat)) ∈ gw := gw_t1 22 rfl rfl
theorem q_23 : (Jvm.Cond.methodLink "CrownTwoLaw" (9 : Nat) ({ cls := "CrownTwo", name := "<init>", desc := "()V" } : Jvm.MethodName)) ∈ gw := gw_t1 23 rfl rfl
theorem q_24 : (Jvm.Cond.instanceMethod ({ cls := "CrownTwo", name := "<init>", desc := "()V" } : Jvm.MethodName)) ∈ gw := gw_t1 24 rfl rfl
theorem q_25 : (Jvm.Cond.code ({ cls := "CrownTwo", name := "<init>", desc := "()V" } : Jvm.MethodName) prog_1_method_1_code (3 : Nat) (Option.none : Option Jvm.ClassFile.FieldType)) ∈ gw := gw_t1 25 rfl rfl
theorem q_26 : (Jvm.Cond.methodLink "CrownTwo" (1 : Nat) ({ cls := "java/lang/Object", name := "<init>", desc := "()V" } : Jvm.MethodName)) ∈ gw := gw_t1 26 rfl rfl
theorem q_27 : (Jvm.Cond.instanceMethod ({ cls := "java/lang/Object", name := "<init>", desc := "()V" } : Jvm.MethodName)) ∈ gw := gw_t1 27 rfl rfl
theorem q_28 : (Jvm.Cond.code ({ cls := "java/lang/Object", name := "<init>", desc := "()V" } : Jvm.MethodName) object_method_1_code (1 : Nat) (Option.none : Option Jvm.ClassFile.FieldType)) ∈ gw := gw_t1 28 rfl rfl
theorem q_29 : (Jvm.Cond.classLink "CrownTwo" (13 : Nat) "CrownTwo$CourtText") ∈ gw := gw_t1 29 rfl rfl
theorem q_30 : (Jvm.Cond.instantiable "CrownTwo$CourtText" (6 : Nat)) ∈ gw := gw_t1 30 rfl rfl
theorem q_32 : (Jvm.Cond.instanceMethod ({ cls := "CrownTwo$CourtText", name := "<init>", desc := "()V" } : Jvm.MethodName)) ∈ gw := gw_t1 32 rfl rfl
theorem q_33 : (Jvm.Cond.code ({ cls := "CrownTwo$CourtText", name := "<init>", desc := "()V" } : Jvm.MethodName) prog_3_method_1_code (1 : Nat) (Option.none : Option Jvm.ClassFile.FieldType)) ∈ gw := gw_t1 33 rfl rfl
theorem q_34 : (Jvm.Cond.methodLink "CrownTwo$CourtText" (3 : Nat) ({ cls := "java/lang/Object", name := "<init>", desc := "()V" } : Jvm.MethodName)) ∈ gw := gw_t1 34 rfl rfl
theorem q_35 : (Jvm.Cond.fieldLink "CrownTwo$CourtText" (9 : Nat) "CrownTwo$CourtText" "bytes" "[I") ∈ gw := gw_t1 35 rfl rfl
theorem q_36 : (Jvm.Cond.fieldLink "CrownTwo$CourtText" (15 : Nat) "CrownTwo$CourtText" "length" "I") ∈ gw := gw_t1 36 rfl rfl
theorem q_37 : (Jvm.Cond.fieldLink "CrownTwo" (113 : Nat) "CrownTwo$CourtText" "length" "I") ∈ gw := gw_t1 37 rfl rfl
theorem q_38 : (Jvm.Cond.fieldLink "CrownTwo$CourtText" (19 : Nat) "CrownTwo$CourtText" "place" "I") ∈ gw := gw_t1 38 rfl rfl
theorem q_39 : (Jvm.Cond.fieldLink "CrownTwo" (123 : Nat) "CrownTwo$CourtText" "place" "I") ∈ gw := gw_t1 39 rfl rfl
theorem q_40 : (Jvm.Cond.fieldLink "CrownTwo$CourtText" (22 : Nat) "CrownTwo$CourtText" "behind" "I") ∈ gw := gw_t1 40 rfl rfl
theorem q_41 : (Jvm.Cond.fieldLink "CrownTwo$CourtText" (25 : Nat) "CrownTwo$CourtText" "sort" "I") ∈ gw := gw_t1 41 rfl rfl
theorem q_42 : (Jvm.Cond.fieldLink "CrownTwo$CourtText" (28 : Nat) "CrownTwo$CourtText" "number" "I") ∈ gw := gw_t1 42 rfl rfl
theorem q_43 : (Jvm.Cond.laysFinal "CrownTwo$CourtText" "CrownTwo$CourtText" "bytes" "[I") ∈ gw := gw_t1 43 rfl rfl
theorem q_45 : (Jvm.Cond.lays "CrownTwo$CourtText" "CrownTwo$CourtText" "length" "I") ∈ gw := gw_t1 45 rfl rfl
theorem q_47 : (Jvm.Cond.lays "CrownTwo$CourtText" "CrownTwo$CourtText" "place" "I") ∈ gw := gw_t1 47 rfl rfl
theorem q_49 : (Jvm.Cond.lays "CrownTwo$CourtText" "CrownTwo$CourtText" "behind" "I") ∈ gw := gw_t1 49 rfl rfl
theorem q_51 : (Jvm.Cond.lays "CrownTwo$CourtText" "CrownTwo$CourtText" "sort" "I") ∈ gw := gw_t1 51 rfl rfl
theorem q_53 : (Jvm.Cond.lays "CrownTwo$CourtText" "CrownTwo$CourtText" "number" "I") ∈ gw := gw_t1 53 rfl rfl
theorem q_55 : (Jvm.Cond.superclass "CrownTwo$CourtText" "java/lang/Object") ∈ gw := gw_t1 55 rfl rfl
theorem q_56 : (Jvm.Cond.arrayClass Jvm.ClassFile.FieldType.boolean) ∈ gw := gw_t1 56 rfl rfl
theorem q_57 : (Jvm.Cond.arrayClass Jvm.ClassFile.FieldType.int) ∈ gw := gw_t1 57 rfl rfl
theorem q_58 : (Jvm.Cond.classLink "CrownTwo" (20 : Nat) "CrownTwo$Moment") ∈ gw := gw_t1 58 rfl rfl
theorem q_59 : (Jvm.Cond.instantiable "CrownTwo$Moment" (5 : Nat)) ∈ gw := gw_t1 59 rfl rfl
theorem q_61 : (Jvm.Cond.instanceMethod ({ cls := "CrownTwo$Moment", name := "<init>", desc := "()V" } : Jvm.MethodName)) ∈ gw := gw_t1 61 rfl rfl
theorem q_62 : (Jvm.Cond.code ({ cls := "CrownTwo$Moment", name := "<init>", desc := "()V" } : Jvm.MethodName) prog_7_method_1_code (1 : Nat) (Option.none : Option Jvm.ClassFile.FieldType)) ∈ gw := gw_t1 62 rfl rfl
theorem q_63 : (Jvm.Cond.methodLink "CrownTwo$Moment" (3 : Nat) ({ cls := "java/lang/Object", name := "<init>", desc := "()V" } : Jvm.MethodName)) ∈ gw := gw_t1 63 rfl rfl
theorem q_64 : (Jvm.Cond.fieldLink "CrownTwo$Moment" (9 : Nat) "CrownTwo$Moment" "warmth" "I") ∈ gw := gw_t1 64 rfl rfl
theorem q_65 : (Jvm.Cond.fieldLink "CrownTwo" (165 : Nat) "CrownTwo$Moment" "warmth" "I") ∈ gw := gw_t1 65 rfl rfl
theorem q_66 : (Jvm.Cond.fieldLink "CrownTwo$Court" (124 : Nat) "CrownTwo$Moment" "warmth" "I") ∈ gw := gw_t1 66 rfl rfl
theorem q_67 : (Jvm.Cond.fieldLink "CrownTwo$Moment" (15 : Nat) "CrownTwo$Moment" "date" "I") ∈ gw := gw_t1 67 rfl rfl
theorem q_68 : (Jvm.Cond.fieldLink "CrownTwo" (177 : Nat) "CrownTwo$Moment" "date" "I") ∈ gw := gw_t1 68 rfl rfl
theorem q_69 : (Jvm.Cond.fieldLink "CrownTwo$Court" (111 : Nat) "CrownTwo$Moment" "date" "I") ∈ gw := gw_t1 69 rfl rfl
theorem q_70 : (Jvm.Cond.fieldLink "CrownTwo$Moment" (18 : Nat) "CrownTwo$Moment" "done" "I") ∈ gw := gw_t1 70 rfl rfl
theorem q_71 : (Jvm.Cond.fieldLink "CrownTwo$Court" (134 : Nat) "CrownTwo$Moment" "done" "I") ∈ gw := gw_t1 71 rfl rfl
theorem q_72 : (Jvm.Cond.fieldLink "CrownTwo" (295 : Nat) "CrownTwo$Moment" "done" "I") ∈ gw := gw_t1 72 rfl rfl
theorem q_73 : (Jvm.Cond.fieldLink "CrownTwo$Moment" (21 : Nat) "CrownTwo$Moment" "first" "I") ∈ gw := gw_t1 73 rfl rfl
theorem q_74 : (Jvm.Cond.fieldLink "CrownTwo" (140 : Nat) "CrownTwo$Moment" "first" "I") ∈ gw := gw_t1 74 rfl rfl
theorem q_75 : (Jvm.Cond.fieldLink "CrownTwo$CourtText" (106 : Nat) "CrownTwo$Moment" "first" "I") ∈ gw := gw_t1 75 rfl rfl
theorem q_76 : (Jvm.Cond.fieldLink "CrownTwo$Court" (94 : Nat) "CrownTwo$Moment" "first" "I") ∈ gw := gw_t1 76 rfl rfl
theorem q_77 : (Jvm.Cond.fieldLink "CrownTwo$Moment" (24 : Nat) "CrownTwo$Moment" "second" "I") ∈ gw := gw_t1 77 rfl rfl
theorem q_78 : (Jvm.Cond.fieldLink "CrownTwo" (143 : Nat) "CrownTwo$Moment" "second" "I") ∈ gw := gw_t1 78 rfl rfl
theorem q_79 : (Jvm.Cond.fieldLink "CrownTwo$CourtText" (111 : Nat) "CrownTwo$Moment" "second" "I") ∈ gw := gw_t1 79 rfl rfl
theorem q_80 : (Jvm.Cond.fieldLink "CrownTwo$Court" (97 : Nat) "CrownTwo$Moment" "second" "I") ∈ gw := gw_t1 80 rfl rfl
theorem q_81 : (Jvm.Cond.lays "CrownTwo$Moment" "CrownTwo$Moment" "warmth" "I") ∈ gw := gw_t1 81 rfl rfl
theorem q_83 : (Jvm.Cond.lays "CrownTwo$Moment" "CrownTwo$Moment" "date" "I") ∈ gw := gw_t1 83 rfl rfl
theorem q_85 : (Jvm.Cond.lays "CrownTwo$Moment" "CrownTwo$Moment" "done" "I") ∈ gw := gw_t1 85 rfl rfl
theorem q_87 : (Jvm.Cond.lays "CrownTwo$Moment" "CrownTwo$Moment" "first" "I") ∈ gw := gw_t1 87 rfl rfl
theorem q_89 : (Jvm.Cond.lays "CrownTwo$Moment" "CrownTwo$Moment" "second" "I") ∈ gw := gw_t1 89 rfl rfl
theorem q_91 : (Jvm.Cond.superclass "CrownTwo$Moment" "java/lang/Object") ∈ gw := gw_t1 91 rfl rfl
theorem q_93 : (Jvm.Cond.classLink "CrownTwo" (57 : Nat) "CrownTwo$Plain") ∈ gw := gw_t1 93 rfl rfl
theorem q_95 : (Jvm.Cond.instantiable "CrownTwo$Plain" (0 : Nat)) ∈ gw := gw_t1 95 rfl rfl
theorem q_97 : (Jvm.Cond.instanceMethod ({ cls := "CrownTwo$Plain", name := "<init>", desc := "()V" } : Jvm.MethodName)) ∈ gw := gw_t1 97 rfl rfl
theorem q_98 : (Jvm.Cond.code ({ cls := "CrownTwo$Plain", name := "<init>", desc := "()V" } : Jvm.MethodName) prog_9_method_1_code (1 : Nat) (Option.none : Option Jvm.ClassFile.FieldType)) ∈ gw := gw_t1 98 rfl rfl
theorem q_99 : (Jvm.Cond.methodLink "CrownTwo$Plain" (1 : Nat) ({ cls := "java/lang/Object", name := "<init>", desc := "()V" } : Jvm.MethodName)) ∈ gw := gw_t1 99 rfl rfl
theorem q_100 : (Jvm.Cond.superclass "CrownTwo$Plain" "java/lang/Object") ∈ gw := gw_t1 100 rfl rfl
theorem q_101 : (Jvm.Cond.classLink "CrownTwo" (60 : Nat) "CrownTwo$Sulky") ∈ gw := gw_t1 101 rfl rfl
theorem q_102 : (Jvm.Cond.instantiable "CrownTwo$Sulky" (0 : Nat)) ∈ gw := gw_t1 102 rfl rfl
theorem q_104 : (Jvm.Cond.instanceMethod ({ cls := "CrownTwo$Sulky", name := "<init>", desc := "()V" } : Jvm.MethodName)) ∈ gw := gw_t1 104 rfl rfl
theorem q_105 : (Jvm.Cond.code ({ cls := "CrownTwo$Sulky", name := "<init>", desc := "()V" } : Jvm.MethodName) prog_11_method_1_code (1 : Nat) (Option.none : Option Jvm.ClassFile.FieldType)) ∈ gw := gw_t1 105 rfl rfl
theorem q_107 : (Jvm.Cond.superclass "CrownTwo$Sulky" "CrownTwo$Plain") ∈ gw := gw_t1 107 rfl rfl
theorem q_108 : (Jvm.Cond.classLink "CrownTwo" (63 : Nat) "CrownTwo$Joker") ∈ gw := gw_t1 108 rfl rfl
theorem q_109 : (Jvm.Cond.instantiable "CrownTwo$Joker" (0 : Nat)) ∈ gw := gw_t1 109 rfl rfl
theorem q_111 : (Jvm.Cond.instanceMethod ({ cls := "CrownTwo$Joker", name := "<init>", desc := "()V" } : Jvm.MethodName)) ∈ gw := gw_t1 111 rfl rfl
theorem q_112 : (Jvm.Cond.code ({ cls := "CrownTwo$Joker", name := "<init>", desc := "()V" } : Jvm.MethodName) prog_6_method_1_code (1 : Nat) (Option.none : Option Jvm.ClassFile.FieldType)) ∈ gw := gw_t1 112 rfl rfl
theorem q_114 : (Jvm.Cond.superclass "CrownTwo$Joker" "CrownTwo$Plain") ∈ gw := gw_t1 114 rfl rfl
theorem q_115 : (Jvm.Cond.classLink "CrownTwo" (66 : Nat) "CrownTwo$Proud") ∈ gw := gw_t1 115 rfl rfl
theorem q_116 : (Jvm.Cond.instantiable "CrownTwo$Proud" (0 : Nat)) ∈ gw := gw_t1 116 rfl rfl
theorem q_118 : (Jvm.Cond.instanceMethod ({ cls := "CrownTwo$Proud", name := "<init>", desc := "()V" } : Jvm.MethodName)) ∈ gw := gw_t1 118 rfl rfl
theorem q_119 : (Jvm.Cond.code ({ cls := "CrownTwo$Proud", name := "<init>", desc := "()V" } : Jvm.MethodName) prog_10_method_1_code (1 : Nat) (Option.none : Option Jvm.ClassFile.FieldType)) ∈ gw := gw_t1 119 rfl rfl
theorem q_121 : (Jvm.Cond.superclass "CrownTwo$Proud" "CrownTwo$Plain") ∈ gw := gw_t1 121 rfl rfl
theorem q_122 : (Jvm.Cond.classLink "CrownTwo" (69 : Nat) "CrownTwo$Tired") ∈ gw := gw_t1 122 rfl rfl
theorem q_123 : (Jvm.Cond.instantiable "CrownTwo$Tired" (0 : Nat)) ∈ gw := gw_t1 123 rfl rfl
theorem q_125 : (Jvm.Cond.instanceMethod ({ cls := "CrownTwo$Tired", name := "<init>", desc := "()V" } : Jvm.MethodName)) ∈ gw := gw_t1 125 rfl rfl
theorem q_126 : (Jvm.Cond.code ({ cls := "CrownTwo$Tired", name := "<init>", desc := "()V" } : Jvm.MethodName) prog_12_method_1_code (1 : Nat) (Option.none : Option Jvm.ClassFile.FieldType)) ∈ gw := gw_t1 126 rfl rfl
theorem q_128 : (Jvm.Cond.superclass "CrownTwo$Tired" "CrownTwo$Sulky") ∈ gw := gw_t1 128 rfl rfl
theorem q_129 : (Jvm.Cond.classLink "CrownTwo" (72 : Nat) "CrownTwo$Forgiver") ∈ gw := gw_t1 129 rfl rfl
theorem q_130 : (Jvm.Cond.instantiable "CrownTwo$Forgiver" (0 : Nat)) ∈ gw := gw_t1 130 rfl rfl
theorem q_132 : (Jvm.Cond.instanceMethod ({ cls := "CrownTwo$Forgiver", name := "<init>", desc := "()V" } : Jvm.MethodName)) ∈ gw := gw_t1 132 rfl rfl
theorem q_133 : (Jvm.Cond.code ({ cls := "CrownTwo$Forgiver", name := "<init>", desc := "()V" } : Jvm.MethodName) prog_4_method_1_code (1 : Nat) (Option.none : Option Jvm.ClassFile.FieldType)) ∈ gw := gw_t1 133 rfl rfl
theorem q_135 : (Jvm.Cond.superclass "CrownTwo$Forgiver" "CrownTwo$Joker") ∈ gw := gw_t1 135 rfl rfl
theorem q_136 : (Jvm.Cond.classLink "CrownTwo" (75 : Nat) "CrownTwo$Court") ∈ gw := gw_t1 136 rfl rfl
theorem q_137 : (Jvm.Cond.instantiable "CrownTwo$Court" (8 : Nat)) ∈ gw := gw_t1 137 rfl rfl
theorem q_138 : (Jvm.Cond.methodLink "CrownTwo" (77 : Nat) ({ cls := "CrownTwo$Court", name := "<init>", desc := "([LCrownTwo$Plain;)V" } : Jvm.MethodName)) ∈ gw := gw_t1 138 rfl rfl
theorem q_139 : (Jvm.Cond.instanceMethod ({ cls := "CrownTwo$Court", name := "<init>", desc := "([LCrownTwo$Plain;)V" } : Jvm.MethodName)) ∈ gw := gw_t1 139 rfl rfl
theorem q_140 : (Jvm.Cond.code ({ cls := "CrownTwo$Court", name := "<init>", desc := "([LCrownTwo$Plain;)V" } : Jvm.MethodName) prog_2_method_1_code (3 : Nat) (Option.none : Option Jvm.ClassFile.FieldType)) ∈ gw := gw_t1 140 rfl rfl
theorem q_141 : (Jvm.Cond.methodLink "CrownTwo$Court" (3 : Nat) ({ cls := "java/lang/Object", name := "<init>", desc := "()V" } : Jvm.MethodName)) ∈ gw := gw_t1 141 rfl rfl
theorem q_142 : (Jvm.Cond.classLink "CrownTwo$Court" (9 : Nat) "CrownTwo$Heir") ∈ gw := gw_t1 142 rfl rfl
theorem q_144 : (Jvm.Cond.classLink "CrownTwo$Court" (17 : Nat) "CrownTwo$Note") ∈ gw := gw_t1 144 rfl rfl
theorem q_146 : (Jvm.Cond.classLink "CrownTwo$Court" (23 : Nat) "CrownTwo$Moment") ∈ gw := gw_t1 146 rfl rfl
theorem q_148 : (Jvm.Cond.instantiable "CrownTwo$Heir" (4 : Nat)) ∈ gw := gw_t1 148 rfl rfl
theorem q_150 : (Jvm.Cond.instanceMethod ({ cls := "CrownTwo$Heir", name := "<init>", desc := "()V" } : Jvm.MethodName)) ∈ gw := gw_t1 150 rfl rfl
theorem q_151 : (Jvm.Cond.code ({ cls := "CrownTwo$Heir", name := "<init>", desc := "()V" } : Jvm.MethodName) prog_5_method_1_code (1 : Nat) (Option.none : Option Jvm.ClassFile.FieldType)) ∈ gw := gw_t1 151 rfl rfl
theorem q_152 : (Jvm.Cond.methodLink "CrownTwo$Heir" (1 : Nat) ({ cls := "java/lang/Object", name := "<init>", desc := "()V" } : Jvm.MethodName)) ∈ gw := gw_t1 152 rfl rfl
theorem q_153 : (Jvm.Cond.fieldLink "CrownTwo$Heir" (7 : Nat) "CrownTwo$Heir" "kind" "I") ∈ gw := gw_t1 153 rfl rfl
theorem q_154 : (Jvm.Cond.fieldLink "CrownTwo$Court" (75 : Nat) "CrownTwo$Heir" "kind" "I") ∈ gw := gw_t1 154 rfl rfl
theorem q_155 : (Jvm.Cond.fieldLink "CrownTwo" (187 : Nat) "CrownTwo$Heir" "kind" "I") ∈ gw := gw_t1 155 rfl rfl
theorem q_156 : (Jvm.Cond.fieldLink "CrownTwo$Heir" (13 : Nat) "CrownTwo$Heir" "likes" "I") ∈ gw := gw_t1 156 rfl rfl
theorem q_157 : (Jvm.Cond.fieldLink "CrownTwo$CourtText" (90 : Nat) "CrownTwo$Heir" "likes" "I") ∈ gw := gw_t1 157 rfl rfl
theorem q_158 : (Jvm.Cond.fieldLink "CrownTwo" (192 : Nat) "CrownTwo$Heir" "likes" "I") ∈ gw := gw_t1 158 rfl rfl
theorem q_159 : (Jvm.Cond.fieldLink "CrownTwo$Heir" (16 : Nat) "CrownTwo$Heir" "hates" "I") ∈ gw := gw_t1 159 rfl rfl
theorem q_160 : (Jvm.Cond.fieldLink "CrownTwo$CourtText" (95 : Nat) "CrownTwo$Heir" "hates" "I") ∈ gw := gw_t1 160 rfl rfl
theorem q_161 : (Jvm.Cond.fieldLink "CrownTwo" (195 : Nat) "CrownTwo$Heir" "hates" "I") ∈ gw := gw_t1 161 rfl rfl
theorem q_162 : (Jvm.Cond.fieldLink "CrownTwo$Heir" (19 : Nat) "CrownTwo$Heir" "temper" "I") ∈ gw := gw_t1 162 rfl rfl
theorem q_163 : (Jvm.Cond.fieldLink "CrownTwo$Court" (78 : Nat) "CrownTwo$Heir" "temper" "I") ∈ gw := gw_t1 163 rfl rfl
theorem q_164 : (Jvm.Cond.fieldLink "CrownTwo" (198 : Nat) "CrownTwo$Heir" "temper" "I") ∈ gw := gw_t1 164 rfl rfl
theorem q_165 : (Jvm.Cond.lays "CrownTwo$Heir" "CrownTwo$Heir" "kind" "I") ∈ gw := gw_t1 165 rfl rfl
theorem q_167 : (Jvm.Cond.lays "CrownTwo$Heir" "CrownTwo$Heir" "likes" "I") ∈ gw := gw_t1 167 rfl rfl
theorem q_169 : (Jvm.Cond.lays "CrownTwo$Heir" "CrownTwo$Heir" "hates" "I") ∈ gw := gw_t1 169 rfl rfl
theorem q_171 : (Jvm.Cond.lays "CrownTwo$Heir" "CrownTwo$Heir" "temper" "I") ∈ gw := gw_t1 171 rfl rfl
theorem q_173 : (Jvm.Cond.superclass "CrownTwo$Heir" "java/lang/Object") ∈ gw := gw_t1 173 rfl rfl
theorem q_174 : (Jvm.Cond.instantiable "CrownTwo$Note" (5 : Nat)) ∈ gw := gw_t1 174 rfl rfl
theorem q_176 : (Jvm.Cond.instanceMethod ({ cls := "CrownTwo$Note", name := "<init>", desc := "()V" } : Jvm.MethodName)) ∈ gw := gw_t1 176 rfl rfl
theorem q_177 : (Jvm.Cond.code ({ cls := "CrownTwo$Note", name := "<init>", desc := "()V" } : Jvm.MethodName) prog_8_method_1_code (1 : Nat) (Option.none : Option Jvm.ClassFile.FieldType)) ∈ gw := gw_t1 177 rfl rfl
theorem q_178 : (Jvm.Cond.methodLink "CrownTwo$Note" (1 : Nat) ({ cls := "java/lang/Object", name := "<init>", desc := "()V" } : Jvm.MethodName)) ∈ gw := gw_t1 178 rfl rfl
theorem q_179 : (Jvm.Cond.fieldLink "CrownTwo$Note" (7 : Nat) "CrownTwo$Note" "heir" "I") ∈ gw := gw_t1 179 rfl rfl
theorem q_180 : (Jvm.Cond.fieldLink "CrownTwo$Court" (137 : Nat) "CrownTwo$Note" "heir" "I") ∈ gw := gw_t1 180 rfl rfl
theorem q_181 : (Jvm.Cond.fieldLink "CrownTwo$Note" (13 : Nat) "CrownTwo$Note" "act" "I") ∈ gw := gw_t1 181 rfl rfl
theorem q_182 : (Jvm.Cond.fieldLink "CrownTwo$Court" (140 : Nat) "CrownTwo$Note" "act" "I") ∈ gw := gw_t1 182 rfl rfl
theorem q_183 : (Jvm.Cond.fieldLink "CrownTwo$Note" (16 : Nat) "CrownTwo$Note" "warmth" "I") ∈ gw := gw_t1 183 rfl rfl
theorem q_184 : (Jvm.Cond.fieldLink "CrownTwo$Court" (143 : Nat) "CrownTwo$Note" "warmth" "I") ∈ gw := gw_t1 184 rfl rfl
theorem q_185 : (Jvm.Cond.fieldLink "CrownTwo$Note" (19 : Nat) "CrownTwo$Note" "date" "I") ∈ gw := gw_t1 185 rfl rfl
theorem q_186 : (Jvm.Cond.fieldLink "CrownTwo$Court" (144 : Nat) "CrownTwo$Note" "date" "I") ∈ gw := gw_t1 186 rfl rfl
theorem q_187 : (Jvm.Cond.fieldLink "CrownTwo$Note" (22 : Nat) "CrownTwo$Note" "lifted" "I") ∈ gw := gw_t1 187 rfl rfl
theorem q_188 : (Jvm.Cond.fieldLink "CrownTwo$Court" (145 : Nat) "CrownTwo$Note" "lifted" "I") ∈ gw := gw_t1 188 rfl rfl
theorem q_189 : (Jvm.Cond.lays "CrownTwo$Note" "CrownTwo$Note" "heir" "I") ∈ gw := gw_t1 189 rfl rfl
theorem q_191 : (Jvm.Cond.lays "CrownTwo$Note" "CrownTwo$Note" "act" "I") ∈ gw := gw_t1 191 rfl rfl
theorem q_193 : (Jvm.Cond.lays "CrownTwo$Note" "CrownTwo$Note" "warmth" "I") ∈ gw := gw_t1 193 rfl rfl
theorem q_195 : (Jvm.Cond.lays "CrownTwo$Note" "CrownTwo$Note" "date" "I") ∈ gw := gw_t1 195 rfl rfl
theorem q_197 : (Jvm.Cond.lays "CrownTwo$Note" "CrownTwo$Note" "lifted" "I") ∈ gw := gw_t1 197 rfl rfl
theorem q_199 : (Jvm.Cond.superclass "CrownTwo$Note" "java/lang/Object") ∈ gw := gw_t1 199 rfl rfl
theorem q_200 : (Jvm.Cond.fieldLink "CrownTwo$Court" (44 : Nat) "CrownTwo$Court" "kinds" "[LCrownTwo$Plain;") ∈ gw := gw_t1 200 rfl rfl
theorem q_201 : (Jvm.Cond.fieldLink "CrownTwo$Court" (11 : Nat) "CrownTwo$Court" "heirs" "[LCrownTwo$Heir;") ∈ gw := gw_t1 201 rfl rfl
theorem q_202 : (Jvm.Cond.fieldLink "CrownTwo$CourtText" (86 : Nat) "CrownTwo$Court" "heirs" "[LCrownTwo$Heir;") ∈ gw := gw_t1 202 rfl rfl
theorem q_203 : (Jvm.Cond.fieldLink "CrownTwo" (183 : Nat) "CrownTwo$Court" "heirs" "[LCrownTwo$Heir;") ∈ gw := gw_t1 203 rfl rfl
theorem q_204 : (Jvm.Cond.fieldLink "CrownTwo$Court" (19 : Nat) "CrownTwo$Court" "notes" "[LCrownTwo$Note;") ∈ gw := gw_t1 204 rfl rfl
theorem q_205 : (Jvm.Cond.fieldLink "CrownTwo" (244 : Nat) "CrownTwo$Court" "notes" "[LCrownTwo$Note;") ∈ gw := gw_t1 205 rfl rfl
theorem q_206 : (Jvm.Cond.fieldLink "CrownTwo$Court" (25 : Nat) "CrownTwo$Court" "past" "[LCrownTwo$Moment;") ∈ gw := gw_t1 206 rfl rfl
theorem q_207 : (Jvm.Cond.fieldLink "CrownTwo$Court" (30 : Nat) "CrownTwo$Court" "now" "LCrownTwo$Moment;") ∈ gw := gw_t1 207 rfl rfl
theorem q_208 : (Jvm.Cond.fieldLink "CrownTwo" (137 : Nat) "CrownTwo$Court" "now" "LCrownTwo$Moment;") ∈ gw := gw_t1 208 rfl rfl
theorem q_209 : (Jvm.Cond.fieldLink "CrownTwo$CourtText" (102 : Nat) "CrownTwo$Court" "now" "LCrownTwo$Moment;") ∈ gw := gw_t1 209 rfl rfl
theorem q_210 : (Jvm.Cond.fieldLink "CrownTwo$Court" (34 : Nat) "CrownTwo$Court" "heirCount" "I") ∈ gw := gw_t1 210 rfl rfl
theorem q_211 : (Jvm.Cond.fieldLink "CrownTwo" (99 : Nat) "CrownTwo$Court" "heirCount" "I") ∈ gw := gw_t1 211 rfl rfl
theorem q_212 : (Jvm.Cond.fieldLink "CrownTwo$CourtText" (79 : Nat) "CrownTwo$Court" "heirCount" "I") ∈ gw := gw_t1 212 rfl rfl
theorem q_213 : (Jvm.Cond.fieldLink "CrownTwo$Court" (38 : Nat) "CrownTwo$Court" "noteCount" "I") ∈ gw := gw_t1 213 rfl rfl
theorem q_214 : (Jvm.Cond.fieldLink "CrownTwo" (241 : Nat) "CrownTwo$Court" "noteCount" "I") ∈ gw := gw_t1 214 rfl rfl
theorem q_215 : (Jvm.Cond.fieldLink "CrownTwo$Court" (41 : Nat) "CrownTwo$Court" "pastCount" "I") ∈ gw := gw_t1 215 rfl rfl
theorem q_216 : (Jvm.Cond.fieldLink "CrownTwo" (171 : Nat) "CrownTwo$Court" "pastCount" "I") ∈ gw := gw_t1 216 rfl rfl
theorem q_217 : (Jvm.Cond.laysFinal "CrownTwo$Court" "CrownTwo$Court" "kinds" "[LCrownTwo$Plain;") ∈ gw := gw_t1 217 rfl rfl
theorem q_219 : (Jvm.Cond.laysFinal "CrownTwo$Court" "CrownTwo$Court" "heirs" "[LCrownTwo$Heir;") ∈ gw := gw_t1 219 rfl rfl
theorem q_221 : (Jvm.Cond.laysFinal "CrownTwo$Court" "CrownTwo$Court" "notes" "[LCrownTwo$Note;") ∈ gw := gw_t1 221 rfl rfl
theorem q_223 : (Jvm.Cond.laysFinal "CrownTwo$Court" "CrownTwo$Court" "past" "[LCrownTwo$Moment;") ∈ gw := gw_t1 223 rfl rfl
theorem q_225 : (Jvm.Cond.laysFinal "CrownTwo$Court" "CrownTwo$Court" "now" "LCrownTwo$Moment;") ∈ gw := gw_t1 225 rfl rfl
theorem q_227 : (Jvm.Cond.lays "CrownTwo$Court" "CrownTwo$Court" "heirCount" "I") ∈ gw := gw_t1 227 rfl rfl
theorem q_229 : (Jvm.Cond.lays "CrownTwo$Court" "CrownTwo$Court" "noteCount" "I") ∈ gw := gw_t1 229 rfl rfl
theorem q_231 : (Jvm.Cond.lays "CrownTwo$Court" "CrownTwo$Court" "pastCount" "I") ∈ gw := gw_t1 231 rfl rfl
theorem q_233 : (Jvm.Cond.superclass "CrownTwo$Court" "java/lang/Object") ∈ gw := gw_t1 233 rfl rfl
theorem q_235 : (Jvm.Cond.fieldLink "CrownTwo" (80 : Nat) "CrownTwo" "court" "LCrownTwo$Court;") ∈ gw := gw_t1 235 rfl rfl
theorem q_236 : (Jvm.Cond.fieldLink "CrownTwo" (84 : Nat) "CrownTwo" "draft" "LCrownTwo$Court;") ∈ gw := gw_t1 236 rfl rfl
theorem q_237 : (Jvm.Cond.fieldLink "CrownTwo" (87 : Nat) "CrownTwo" "images" "[LCrownTwo$Court;") ∈ gw := gw_t1 237 rfl rfl
theorem q_238 : (Jvm.Cond.fieldLink "CrownTwo" (9 : Nat) "CrownTwo" "kept" "[Z") ∈ gw := gw_t1 238 rfl rfl
theorem q_239 : (Jvm.Cond.fieldLink "CrownTwo" (16 : Nat) "CrownTwo" "text" "LCrownTwo$CourtText;") ∈ gw := gw_t1 239 rfl rfl
theorem q_240 : (Jvm.Cond.fieldLink "CrownTwo" (23 : Nat) "CrownTwo" "trial" "LCrownTwo$Moment;") ∈ gw := gw_t2 0 rfl rfl
theorem q_241 : (Jvm.Cond.fieldLink "CrownTwo" (27 : Nat) "CrownTwo" "steps" "[LCrownTwo$Moment;") ∈ gw := gw_t2 1 rfl rfl
theorem q_242 : (Jvm.Cond.fieldLink "CrownTwo" (31 : Nat) "CrownTwo" "way" "[I") ∈ gw := gw_t2 2 rfl rfl
theorem q_243 : (Jvm.Cond.fieldLink "CrownTwo" (35 : Nat) "CrownTwo" "bestWay" "[I") ∈ gw := gw_t2 3 rfl rfl
theorem q_244 : (Jvm.Cond.fieldLink "CrownTwo" (38 : Nat) "CrownTwo" "mostDone" "I") ∈ gw := gw_t2 4 rfl rfl
theorem q_245 : (Jvm.Cond.fieldLink "CrownTwo" (42 : Nat) "CrownTwo" "above" "I") ∈ gw := gw_t2 5 rfl rfl
theorem q_246 : (Jvm.Cond.fieldLink "CrownTwo" (45 : Nat) "CrownTwo" "below" "I") ∈ gw := gw_t2 6 rfl rfl
theorem q_247 : (Jvm.Cond.fieldLink "CrownTwo" (48 : Nat) "CrownTwo" "bads" "I") ∈ gw := gw_t2 7 rfl rfl
theorem q_248 : (Jvm.Cond.fieldLink "CrownTwo" (51 : Nat) "CrownTwo" "noes" "I") ∈ gw := gw_t2 8 rfl rfl
theorem q_249 : (Jvm.Cond.fieldLink "CrownTwo" (54 : Nat) "CrownTwo" "fulls" "I") ∈ gw := gw_t2 9 rfl rfl
theorem q_250 : (Jvm.Cond.laysFinal "CrownTwo" "CrownTwo" "court" "LCrownTwo$Court;") ∈ gw := gw_t2 10 rfl rfl
theorem q_252 : (Jvm.Cond.laysFinal "CrownTwo" "CrownTwo" "draft" "LCrownTwo$Court;") ∈ gw := gw_t2 12 rfl rfl
theorem q_254 : (Jvm.Cond.laysFinal "CrownTwo" "CrownTwo" "images" "[LCrownTwo$Court;") ∈ gw := gw_t2 14 rfl rfl
theorem q_256 : (Jvm.Cond.laysFinal "CrownTwo" "CrownTwo" "kept" "[Z") ∈ gw := gw_t2 16 rfl rfl
theorem q_258 : (Jvm.Cond.laysFinal "CrownTwo" "CrownTwo" "text" "LCrownTwo$CourtText;") ∈ gw := gw_t2 18 rfl rfl
theorem q_260 : (Jvm.Cond.laysFinal "CrownTwo" "CrownTwo" "trial" "LCrownTwo$Moment;") ∈ gw := gw_t2 20 rfl rfl
theorem q_262 : (Jvm.Cond.laysFinal "CrownTwo" "CrownTwo" "steps" "[LCrownTwo$Moment;") ∈ gw := gw_t2 22 rfl rfl
theorem q_264 : (Jvm.Cond.laysFinal "CrownTwo" "CrownTwo" "way" "[I") ∈ gw := gw_t2 24 rfl rfl
theorem q_266 : (Jvm.Cond.laysFinal "CrownTwo" "CrownTwo" "bestWay" "[I") ∈ gw := gw_t2 26 rfl rfl
theorem q_268 : (Jvm.Cond.lays "CrownTwo" "CrownTwo" "mostDone" "I") ∈ gw := gw_t2 28 rfl rfl
theorem q_270 : (Jvm.Cond.lays "CrownTwo" "CrownTwo" "above" "I") ∈ gw := gw_t2 30 rfl rfl
theorem q_272 : (Jvm.Cond.lays "CrownTwo" "CrownTwo" "below" "I") ∈ gw := gw_t2 32 rfl rfl
theorem q_274 : (Jvm.Cond.lays "CrownTwo" "CrownTwo" "bads" "I") ∈ gw := gw_t2 34 rfl rfl
theorem q_276 : (Jvm.Cond.lays "CrownTwo" "CrownTwo" "noes" "I") ∈ gw := gw_t2 36 rfl rfl
theorem q_278 : (Jvm.Cond.lays "CrownTwo" "CrownTwo" "fulls" "I") ∈ gw := gw_t2 38 rfl rfl
theorem q_280 : (Jvm.Cond.superclass "CrownTwo" "java/lang/Object") ∈ gw := gw_t2 40 rfl rfl
theorem q_281 : (Jvm.Cond.methodLink "CrownTwoLaw" (13 : Nat) ({ cls := "CrownTwo", name := "court", desc := "(I)I" } : Jvm.MethodName)) ∈ gw := gw_t2 41 rfl rfl
theorem q_282 : (Jvm.Cond.instanceMethod ({ cls := "CrownTwo", name := "court", desc := "(I)I" } : Jvm.MethodName)) ∈ gw := gw_t2 42 rfl rfl
theorem q_283 : (Jvm.Cond.selects "CrownTwo" ({ cls := "CrownTwo", name := "court", desc := "(I)I" } : Jvm.MethodName) ({ cls := "CrownTwo", name := "court", desc := "(I)I" } : Jvm.MethodName)) ∈ gw := gw_t2 43 rfl rfl
theorem q_284 : (Jvm.Cond.code ({ cls := "CrownTwo", name := "court", desc := "(I)I" } : Jvm.MethodName) prog_1_method_2_code (3 : Nat) (Option.some Jvm.ClassFile.FieldType.int)) ∈ gw := gw_t2 44 rfl rfl
theorem q_285 : (Jvm.Cond.methodLink "CrownTwo" (91 : Nat) ({ cls := "CrownTwo", name := "outside", desc := "(III)Z" } : Jvm.MethodName)) ∈ gw := gw_t2 45 rfl rfl
theorem q_286 : (Jvm.Cond.static ({ cls := "CrownTwo", name := "outside", desc := "(III)Z" } : Jvm.MethodName)) ∈ gw := gw_t2 46 rfl rfl
theorem q_287 : (Jvm.Cond.code ({ cls := "CrownTwo", name := "outside", desc := "(III)Z" } : Jvm.MethodName) prog_1_method_39_code (3 : Nat) (Option.some Jvm.ClassFile.FieldType.boolean)) ∈ gw := gw_t2 47 rfl rfl
theorem q_288 : (Jvm.Cond.methodLink "CrownTwo" (95 : Nat) ({ cls := "CrownTwo", name := "bad", desc := "()I" } : Jvm.MethodName)) ∈ gw := gw_t2 48 rfl rfl
theorem q_290 : (Jvm.Cond.instanceMethod ({ cls := "CrownTwo", name := "bad", desc := "()I" } : Jvm.MethodName)) ∈ gw := gw_t2 50 rfl rfl
theorem q_291 : (Jvm.Cond.code ({ cls := "CrownTwo", name := "bad", desc := "()I" } : Jvm.MethodName) prog_1_method_36_code (1 : Nat) (Option.some Jvm.ClassFile.FieldType.int)) ∈ gw := gw_t2 51 rfl rfl
theorem q_292 : (Jvm.Cond.methodLink "CrownTwo" (102 : Nat) ({ cls := "CrownTwo$Court", name := "begin", desc := "(I)V" } : Jvm.MethodName)) ∈ gw := gw_t2 52 rfl rfl
theorem q_293 : (Jvm.Cond.instanceMethod ({ cls := "CrownTwo$Court", name := "begin", desc := "(I)V" } : Jvm.MethodName)) ∈ gw := gw_t2 53 rfl rfl
theorem q_294 : (Jvm.Cond.selects "CrownTwo$Court" ({ cls := "CrownTwo$Court", name := "begin", desc := "(I)V" } : Jvm.MethodName) ({ cls := "CrownTwo$Court", name := "begin", desc := "(I)V" } : Jvm.MethodName)) ∈ gw := gw_t2 54 rfl rfl
theorem q_295 : (Jvm.Cond.code ({ cls := "CrownTwo$Court", name := "begin", desc := "(I)V" } : Jvm.MethodName) prog_2_method_2_code (2 : Nat) (Option.none : Option Jvm.ClassFile.FieldType)) ∈ gw := gw_t2 55 rfl rfl
theorem q_296 : (Jvm.Cond.methodLink "CrownTwo$Court" (50 : Nat) ({ cls := "CrownTwo$Moment", name := "begin", desc := "(I)V" } : Jvm.MethodName)) ∈ gw := gw_t2 56 rfl rfl
theorem q_297 : (Jvm.Cond.instanceMethod ({ cls := "CrownTwo$Moment", name := "begin", desc := "(I)V" } : Jvm.MethodName)) ∈ gw := gw_t2 57 rfl rfl
theorem q_298 : (Jvm.Cond.selects "CrownTwo$Moment" ({ cls := "CrownTwo$Moment", name := "begin", desc := "(I)V" } : Jvm.MethodName) ({ cls := "CrownTwo$Moment", name := "begin", desc := "(I)V" } : Jvm.MethodName)) ∈ gw := gw_t2 58 rfl rfl
theorem q_299 : (Jvm.Cond.code ({ cls := "CrownTwo$Moment", name := "begin", desc := "(I)V" } : Jvm.MethodName) prog_7_method_2_code (2 : Nat) (Option.none : Option Jvm.ClassFile.FieldType)) ∈ gw := gw_t2 59 rfl rfl
theorem q_300 : (Jvm.Cond.methodLink "CrownTwoLaw" (18 : Nat) ({ cls := "CrownTwo", name := "heir", desc := "(IIII)I" } : Jvm.MethodName)) ∈ gw := gw_t2 60 rfl rfl
theorem q_301 : (Jvm.Cond.instanceMethod ({ cls := "CrownTwo", name := "heir", desc := "(IIII)I" } : Jvm.MethodName)) ∈ gw := gw_t2 61 rfl rfl
theorem q_302 : (Jvm.Cond.selects "CrownTwo" ({ cls := "CrownTwo", name := "heir", desc := "(IIII)I" } : Jvm.MethodName) ({ cls := "CrownTwo", name := "heir", desc := "(IIII)I" } : Jvm.MethodName)) ∈ gw := gw_t2 62 rfl rfl
theorem q_303 : (Jvm.Cond.code ({ cls := "CrownTwo", name := "heir", desc := "(IIII)I" } : Jvm.MethodName) prog_1_method_3_code (5 : Nat) (Option.some Jvm.ClassFile.FieldType.int)) ∈ gw := gw_t2 63 rfl rfl
theorem q_304 : (Jvm.Cond.methodLink "CrownTwo" (106 : Nat) ({ cls := "CrownTwo", name := "full", desc := "()I" } : Jvm.MethodName)) ∈ gw := gw_t2 64 rfl rfl
theorem q_306 : (Jvm.Cond.instanceMethod ({ cls := "CrownTwo", name := "full", desc := "()I" } : Jvm.MethodName)) ∈ gw := gw_t2 66 rfl rfl
theorem q_307 : (Jvm.Cond.code ({ cls := "CrownTwo", name := "full", desc := "()I" } : Jvm.MethodName) prog_1_method_38_code (1 : Nat) (Option.some Jvm.ClassFile.FieldType.int)) ∈ gw := gw_t2 67 rfl rfl
theorem q_308 : (Jvm.Cond.methodLink "CrownTwo" (109 : Nat) ({ cls := "CrownTwo$Court", name := "admit", desc := "(IIII)I" } : Jvm.MethodName)) ∈ gw := gw_t2 68 rfl rfl
theorem q_309 : (Jvm.Cond.instanceMethod ({ cls := "CrownTwo$Court", name := "admit", desc := "(IIII)I" } : Jvm.MethodName)) ∈ gw := gw_t2 69 rfl rfl
theorem q_310 : (Jvm.Cond.selects "CrownTwo$Court" ({ cls := "CrownTwo$Court", name := "admit", desc := "(IIII)I" } : Jvm.MethodName) ({ cls := "CrownTwo$Court", name := "admit", desc := "(IIII)I" } : Jvm.MethodName)) ∈ gw := gw_t2 70 rfl rfl
theorem q_311 : (Jvm.Cond.code ({ cls := "CrownTwo$Court", name := "admit", desc := "(IIII)I" } : Jvm.MethodName) prog_2_method_6_code (5 : Nat) (Option.some Jvm.ClassFile.FieldType.int)) ∈ gw := gw_t2 71 rfl rfl
theorem q_312 : (Jvm.Cond.methodLink "CrownTwo$Court" (68 : Nat) ({ cls := "CrownTwo$Heir", name := "put", desc := "(IIII)V" } : Jvm.MethodName)) ∈ gw := gw_t2 72 rfl rfl
theorem q_313 : (Jvm.Cond.instanceMethod ({ cls := "CrownTwo$Heir", name := "put", desc := "(IIII)V" } : Jvm.MethodName)) ∈ gw := gw_t2 73 rfl rfl
theorem q_314 : (Jvm.Cond.selects "CrownTwo$Heir" ({ cls := "CrownTwo$Heir", name := "put", desc := "(IIII)V" } : Jvm.MethodName) ({ cls := "CrownTwo$Heir", name := "put", desc := "(IIII)V" } : Jvm.MethodName)) ∈ gw := gw_t2 74 rfl rfl
theorem q_315 : (Jvm.Cond.code ({ cls := "CrownTwo$Heir", name := "put", desc := "(IIII)V" } : Jvm.MethodName) prog_5_method_2_code (5 : Nat) (Option.none : Option Jvm.ClassFile.FieldType)) ∈ gw := gw_t2 75 rfl rfl
theorem q_316 : (Jvm.Cond.methodLink "CrownTwoLaw" (23 : Nat) ({ cls := "CrownTwo", name := "type", desc := "(I)I" } : Jvm.MethodName)) ∈ gw := gw_t2 76 rfl rfl
theorem q_317 : (Jvm.Cond.instanceMethod ({ cls := "CrownTwo", name := "type", desc := "(I)I" } : Jvm.MethodName)) ∈ gw := gw_t2 77 rfl rfl
theorem q_318 : (Jvm.Cond.selects "CrownTwo" ({ cls := "CrownTwo", name := "type", desc := "(I)I" } : Jvm.MethodName) ({ cls := "CrownTwo", name := "type", desc := "(I)I" } : Jvm.MethodName)) ∈ gw := gw_t2 78 rfl rfl
theorem q_319 : (Jvm.Cond.code ({ cls := "CrownTwo", name := "type", desc := "(I)I" } : Jvm.MethodName) prog_1_method_4_code (2 : Nat) (Option.some Jvm.ClassFile.FieldType.int)) ∈ gw := gw_t2 79 rfl rfl
theorem q_320 : (Jvm.Cond.methodLink "CrownTwo" (116 : Nat) ({ cls := "CrownTwo$CourtText", name := "append", desc := "(I)V" } : Jvm.MethodName)) ∈ gw := gw_t2 80 rfl rfl
theorem q_321 : (Jvm.Cond.instanceMethod ({ cls := "CrownTwo$CourtText", name := "append", desc := "(I)V" } : Jvm.MethodName)) ∈ gw := gw_t2 81 rfl rfl
theorem q_322 : (Jvm.Cond.selects "CrownTwo$CourtText" ({ cls := "CrownTwo$CourtText", name := "append", desc := "(I)V" } : Jvm.MethodName) ({ cls := "CrownTwo$CourtText", name := "append", desc := "(I)V" } : Jvm.MethodName)) ∈ gw := gw_t2 82 rfl rfl
theorem q_323 : (Jvm.Cond.code ({ cls := "CrownTwo$CourtText", name := "append", desc := "(I)V" } : Jvm.MethodName) prog_3_method_2_code (2 : Nat) (Option.none : Option Jvm.ClassFile.FieldType)) ∈ gw := gw_t2 83 rfl rfl
theorem q_324 : (Jvm.Cond.methodLink "CrownTwoLaw" (27 : Nat) ({ cls := "CrownTwo", name := "clear", desc := "()I" } : Jvm.MethodName)) ∈ gw := gw_t2 84 rfl rfl
theorem q_325 : (Jvm.Cond.instanceMethod ({ cls := "CrownTwo", name := "clear", desc := "()I" } : Jvm.MethodName)) ∈ gw := gw_t2 85 rfl rfl
theorem q_326 : (Jvm.Cond.selects "CrownTwo" ({ cls := "CrownTwo", name := "clear", desc := "()I" } : Jvm.MethodName) ({ cls := "CrownTwo", name := "clear", desc := "()I" } : Jvm.MethodName)) ∈ gw := gw_t2 86 rfl rfl
theorem q_327 : (Jvm.Cond.code ({ cls := "CrownTwo", name := "clear", desc := "()I" } : Jvm.MethodName) prog_1_method_5_code (2 : Nat) (Option.some Jvm.ClassFile.FieldType.int)) ∈ gw := gw_t2 87 rfl rfl
theorem q_328 : (Jvm.Cond.methodLink "CrownTwoLaw" (32 : Nat) ({ cls := "CrownTwo", name := "read", desc := "()I" } : Jvm.MethodName)) ∈ gw := gw_t2 88 rfl rfl
theorem q_329 : (Jvm.Cond.instanceMethod ({ cls := "CrownTwo", name := "read", desc := "()I" } : Jvm.MethodName)) ∈ gw := gw_t2 89 rfl rfl
theorem q_330 : (Jvm.Cond.selects "CrownTwo" ({ cls := "CrownTwo", name := "read", desc := "()I" } : Jvm.MethodName) ({ cls := "CrownTwo", name := "read", desc := "()I" } : Jvm.MethodName)) ∈ gw := gw_t2 90 rfl rfl
theorem q_331 : (Jvm.Cond.code ({ cls := "CrownTwo", name := "read", desc := "()I" } : Jvm.MethodName) prog_1_method_6_code (2 : Nat) (Option.some Jvm.ClassFile.FieldType.int)) ∈ gw := gw_t2 91 rfl rfl
theorem q_332 : (Jvm.Cond.methodLink "CrownTwo" (119 : Nat) ({ cls := "CrownTwo$CourtText", name := "parseInto", desc := "(LCrownTwo$Court;)I" } : Jvm.MethodName)) ∈ gw := gw_t2 92 rfl rfl
theorem q_333 : (Jvm.Cond.instanceMethod ({ cls := "CrownTwo$CourtText", name := "parseInto", desc := "(LCrownTwo$Court;)I" } : Jvm.MethodName)) ∈ gw := gw_t2 93 rfl rfl
theorem q_334 : (Jvm.Cond.selects "CrownTwo$CourtText" ({ cls := "CrownTwo$CourtText", name := "parseInto", desc := "(LCrownTwo$Court;)I" } : Jvm.MethodName) ({ cls := "CrownTwo$CourtText", name := "parseInto", desc := "(LCrownTwo$Court;)I" } : Jvm.MethodName)) ∈ gw := gw_t2 94 rfl rfl
theorem q_335 : (Jvm.Cond.code ({ cls := "CrownTwo$CourtText", name := "parseInto", desc := "(LCrownTwo$Court;)I" } : Jvm.MethodName) prog_3_method_3_code (3 : Nat) (Option.some Jvm.ClassFile.FieldType.int)) ∈ gw := gw_t2 95 rfl rfl
theorem q_336 : (Jvm.Cond.methodLink "CrownTwo$CourtText" (31 : Nat) ({ cls := "CrownTwo$Court", name := "begin", desc := "(I)V" } : Jvm.MethodName)) ∈ gw := gw_t2 96 rfl rfl
theorem q_337 : (Jvm.Cond.methodLink "CrownTwo$CourtText" (37 : Nat) ({ cls := "CrownTwo$CourtText", name := "advance", desc := "()V" } : Jvm.MethodName)) ∈ gw := gw_t2 97 rfl rfl
theorem q_339 : (Jvm.Cond.instanceMethod ({ cls := "CrownTwo$CourtText", name := "advance", desc := "()V" } : Jvm.MethodName)) ∈ gw := gw_t2 99 rfl rfl
theorem q_340 : (Jvm.Cond.code ({ cls := "CrownTwo$CourtText", name := "advance", desc := "()V" } : Jvm.MethodName) prog_3_method_12_code (1 : Nat) (Option.none : Option Jvm.ClassFile.FieldType)) ∈ gw := gw_t2 100 rfl rfl
theorem q_341 : (Jvm.Cond.methodLink "CrownTwo$CourtText" (123 : Nat) ({ cls := "CrownTwo$CourtText", name := "sortAt", desc := "(I)I" } : Jvm.MethodName)) ∈ gw := gw_t2 101 rfl rfl
theorem q_343 : (Jvm.Cond.instanceMethod ({ cls := "CrownTwo$CourtText", name := "sortAt", desc := "(I)I" } : Jvm.MethodName)) ∈ gw := gw_t2 103 rfl rfl
theorem q_344 : (Jvm.Cond.code ({ cls := "CrownTwo$CourtText", name := "sortAt", desc := "(I)I" } : Jvm.MethodName) prog_3_method_13_code (3 : Nat) (Option.some Jvm.ClassFile.FieldType.int)) ∈ gw := gw_t2 104 rfl rfl
theorem q_345 : (Jvm.Cond.methodLink "CrownTwo$CourtText" (40 : Nat) ({ cls := "CrownTwo$CourtText", name := "courtItem", desc := "(LCrownTwo$Court;)Z" } : Jvm.MethodName)) ∈ gw := gw_t2 105 rfl rfl
theorem q_347 : (Jvm.Cond.instanceMethod ({ cls := "CrownTwo$CourtText", name := "courtItem", desc := "(LCrownTwo$Court;)Z" } : Jvm.MethodName)) ∈ gw := gw_t2 107 rfl rfl
theorem q_348 : (Jvm.Cond.code ({ cls := "CrownTwo$CourtText", name := "courtItem", desc := "(LCrownTwo$Court;)Z" } : Jvm.MethodName) prog_3_method_4_code (3 : Nat) (Option.some Jvm.ClassFile.FieldType.boolean)) ∈ gw := gw_t2 108 rfl rfl
theorem q_350 : (Jvm.Cond.methodLink "CrownTwo$CourtText" (49 : Nat) ({ cls := "CrownTwo$CourtText", name := "isWord", desc := "(Ljava/lang/String;)Z" } : Jvm.MethodName)) ∈ gw := gw_t2 110 rfl rfl
theorem q_352 : (Jvm.Cond.instanceMethod ({ cls := "CrownTwo$CourtText", name := "isWord", desc := "(Ljava/lang/String;)Z" } : Jvm.MethodName)) ∈ gw := gw_t2 112 rfl rfl
theorem q_353 : (Jvm.Cond.code ({ cls := "CrownTwo$CourtText", name := "isWord", desc := "(Ljava/lang/String;)Z" } : Jvm.MethodName) prog_3_method_11_code (3 : Nat) (Option.some Jvm.ClassFile.FieldType.boolean)) ∈ gw := gw_t2 113 rfl rfl
theorem q_354 : (Jvm.Cond.methodLink "CrownTwo$CourtText" (114 : Nat) ({ cls := "java/lang/String", name := "length", desc := "()I" } : Jvm.MethodName)) ∈ gw := gw_t2 114 rfl rfl
theorem q_355 : (Jvm.Cond.instanceMethod ({ cls := "java/lang/String", name := "length", desc := "()I" } : Jvm.MethodName)) ∈ gw := gw_t2 115 rfl rfl
theorem q_356 : (Jvm.Cond.selects "java/lang/String" ({ cls := "java/lang/String", name := "length", desc := "()I" } : Jvm.MethodName) ({ cls := "java/lang/String", name := "length", desc := "()I" } : Jvm.MethodName)) ∈ gw := gw_t2 116 rfl rfl
theorem q_357 : (Jvm.Cond.code ({ cls := "java/lang/String", name := "length", desc := "()I" } : Jvm.MethodName) prog_17_method_54_code (1 : Nat) (Option.some Jvm.ClassFile.FieldType.int)) ∈ gw := gw_t2 117 rfl rfl
theorem q_358 : (Jvm.Cond.methodLink "java/lang/String" (335 : Nat) ({ cls := "java/lang/String", name := "coder", desc := "()B" } : Jvm.MethodName)) ∈ gw := gw_t2 118 rfl rfl
theorem q_359 : (Jvm.Cond.instanceMethod ({ cls := "java/lang/String", name := "coder", desc := "()B" } : Jvm.MethodName)) ∈ gw := gw_t2 119 rfl rfl
theorem q_360 : (Jvm.Cond.selects "java/lang/String" ({ cls := "java/lang/String", name := "coder", desc := "()B" } : Jvm.MethodName) ({ cls := "java/lang/String", name := "coder", desc := "()B" } : Jvm.MethodName)) ∈ gw := gw_t2 120 rfl rfl
theorem q_361 : (Jvm.Cond.code ({ cls := "java/lang/String", name := "coder", desc := "()B" } : Jvm.MethodName) prog_17_method_152_code (1 : Nat) (Option.some Jvm.ClassFile.FieldType.byte)) ∈ gw := gw_t2 121 rfl rfl
theorem q_362 : (Jvm.Cond.fieldLink "java/lang/String" (38 : Nat) "java/lang/String" "COMPACT_STRINGS" "Z") ∈ gw := gw_t2 122 rfl rfl
theorem q_364 : (Jvm.Cond.methodLink "CrownTwo$CourtText" (119 : Nat) ({ cls := "java/lang/String", name := "charAt", desc := "(I)C" } : Jvm.MethodName)) ∈ gw := gw_t2 124 rfl rfl
theorem q_365 : (Jvm.Cond.instanceMethod ({ cls := "java/lang/String", name := "charAt", desc := "(I)C" } : Jvm.MethodName)) ∈ gw := gw_t2 125 rfl rfl
theorem q_366 : (Jvm.Cond.selects "java/lang/String" ({ cls := "java/lang/String", name := "charAt", desc := "(I)C" } : Jvm.MethodName) ({ cls := "java/lang/String", name := "charAt", desc := "(I)C" } : Jvm.MethodName)) ∈ gw := gw_t2 126 rfl rfl
theorem q_367 : (Jvm.Cond.code ({ cls := "java/lang/String", name := "charAt", desc := "(I)C" } : Jvm.MethodName) prog_17_method_56_code (2 : Nat) (Option.some Jvm.ClassFile.FieldType.char)) ∈ gw := gw_t2 127 rfl rfl
theorem q_368 : (Jvm.Cond.methodLink "java/lang/String" (492 : Nat) ({ cls := "java/lang/String", name := "isLatin1", desc := "()Z" } : Jvm.MethodName)) ∈ gw := gw_t2 128 rfl rfl
theorem q_369 : (Jvm.Cond.instanceMethod ({ cls := "java/lang/String", name := "isLatin1", desc := "()Z" } : Jvm.MethodName)) ∈ gw := gw_t2 129 rfl rfl
theorem q_370 : (Jvm.Cond.selects "java/lang/String" ({ cls := "java/lang/String", name := "isLatin1", desc := "()Z" } : Jvm.MethodName) ({ cls := "java/lang/String", name := "isLatin1", desc := "()Z" } : Jvm.MethodName)) ∈ gw := gw_t2 130 rfl rfl
theorem q_371 : (Jvm.Cond.code ({ cls := "java/lang/String", name := "isLatin1", desc := "()Z" } : Jvm.MethodName) prog_17_method_154_code (1 : Nat) (Option.some Jvm.ClassFile.FieldType.boolean)) ∈ gw := gw_t2 131 rfl rfl
theorem q_372 : (Jvm.Cond.methodLink "java/lang/String" (495 : Nat) ({ cls := "java/lang/StringLatin1", name := "charAt", desc := "([BI)C" } : Jvm.MethodName)) ∈ gw := gw_t2 132 rfl rfl
theorem q_373 : (Jvm.Cond.static ({ cls := "java/lang/StringLatin1", name := "charAt", desc := "([BI)C" } : Jvm.MethodName)) ∈ gw := gw_t2 133 rfl rfl
theorem q_374 : (Jvm.Cond.code ({ cls := "java/lang/StringLatin1", name := "charAt", desc := "([BI)C" } : Jvm.MethodName) prog_18_method_2_code (2 : Nat) (Option.some Jvm.ClassFile.FieldType.char)) ∈ gw := gw_t2 134 rfl rfl
theorem q_375 : (Jvm.Cond.methodLink "java/lang/StringLatin1" (9 : Nat) ({ cls := "java/lang/String", name := "checkIndex", desc := "(II)V" } : Jvm.MethodName)) ∈ gw := gw_t2 135 rfl rfl
theorem q_376 : (Jvm.Cond.static ({ cls := "java/lang/String", name := "checkIndex", desc := "(II)V" } : Jvm.MethodName)) ∈ gw := gw_t2 136 rfl rfl
theorem q_377 : (Jvm.Cond.code ({ cls := "java/lang/String", name := "checkIndex", desc := "(II)V" } : Jvm.MethodName) prog_17_method_155_code (2 : Nat) (Option.none : Option Jvm.ClassFile.FieldType)) ∈ gw := gw_t2 137 rfl rfl
theorem q_378 : (Jvm.Cond.fieldLink "java/lang/String" (1053 : Nat) "jdk/internal/util/Preconditions" "SIOOBE_FORMATTER" "Ljava/util/function/BiFunction;") ∈ gw := gw_t2 138 rfl rfl
theorem q_380 : (Jvm.Cond.methodLink "java/lang/String" (1059 : Nat) ({ cls := "jdk/internal/util/Preconditions", name := "checkIndex", desc := "(IILjava/util/function/BiFunction;)I" } : Jvm.MethodName)) ∈ gw := gw_t2 140 rfl rfl
theorem q_381 : (Jvm.Cond.static ({ cls := "jdk/internal/util/Preconditions", name := "checkIndex", desc := "(IILjava/util/function/BiFunction;)I" } : Jvm.MethodName)) ∈ gw := gw_t2 141 rfl rfl
theorem q_382 : (Jvm.Cond.code ({ cls := "jdk/internal/util/Preconditions", name := "checkIndex", desc := "(IILjava/util/function/BiFunction;)I" } : Jvm.MethodName) prog_21_method_11_code (3 : Nat) (Option.some Jvm.ClassFile.FieldType.int)) ∈ gw := gw_t2 142 rfl rfl
theorem q_383 : (Jvm.Cond.methodLink "java/lang/String" (498 : Nat) ({ cls := "java/lang/StringUTF16", name := "charAt", desc := "([BI)C" } : Jvm.MethodName)) ∈ gw := gw_t2 143 rfl rfl
theorem q_384 : (Jvm.Cond.static ({ cls := "java/lang/StringUTF16", name := "charAt", desc := "([BI)C" } : Jvm.MethodName)) ∈ gw := gw_t2 144 rfl rfl
theorem q_385 : (Jvm.Cond.code ({ cls := "java/lang/StringUTF16", name := "charAt", desc := "([BI)C" } : Jvm.MethodName) prog_19_method_83_code (2 : Nat) (Option.some Jvm.ClassFile.FieldType.char)) ∈ gw := gw_t2 145 rfl rfl
theorem q_386 : (Jvm.Cond.methodLink "java/lang/StringUTF16" (67 : Nat) ({ cls := "java/lang/StringUTF16", name := "checkIndex", desc := "(I[B)V" } : Jvm.MethodName)) ∈ gw := gw_t2 146 rfl rfl
theorem q_387 : (Jvm.Cond.static ({ cls := "java/lang/StringUTF16", name := "checkIndex", desc := "(I[B)V" } : Jvm.MethodName)) ∈ gw := gw_t2 147 rfl rfl
theorem q_388 : (Jvm.Cond.code ({ cls := "java/lang/StringUTF16", name := "checkIndex", desc := "(I[B)V" } : Jvm.MethodName) prog_19_method_91_code (2 : Nat) (Option.none : Option Jvm.ClassFile.FieldType)) ∈ gw := gw_t2 148 rfl rfl
theorem q_389 : (Jvm.Cond.methodLink "java/lang/StringUTF16" (48 : Nat) ({ cls := "java/lang/StringUTF16", name := "length", desc := "([B)I" } : Jvm.MethodName)) ∈ gw := gw_t2 149 rfl rfl
theorem q_390 : (Jvm.Cond.static ({ cls := "java/lang/StringUTF16", name := "length", desc := "([B)I" } : Jvm.MethodName)) ∈ gw := gw_t2 150 rfl rfl
theorem q_391 : (Jvm.Cond.code ({ cls := "java/lang/StringUTF16", name := "length", desc := "([B)I" } : Jvm.MethodName) prog_19_method_6_code (1 : Nat) (Option.some Jvm.ClassFile.FieldType.int)) ∈ gw := gw_t2 151 rfl rfl
theorem q_392 : (Jvm.Cond.methodLink "java/lang/StringUTF16" (414 : Nat) ({ cls := "java/lang/String", name := "checkIndex", desc := "(II)V" } : Jvm.MethodName)) ∈ gw := gw_t2 152 rfl rfl
theorem q_393 : (Jvm.Cond.methodLink "java/lang/StringUTF16" (71 : Nat) ({ cls := "java/lang/StringUTF16", name := "getChar", desc := "([BI)C" } : Jvm.MethodName)) ∈ gw := gw_t2 153 rfl rfl
theorem q_394 : (Jvm.Cond.static ({ cls := "java/lang/StringUTF16", name := "getChar", desc := "([BI)C" } : Jvm.MethodName)) ∈ gw := gw_t2 154 rfl rfl
theorem q_395 : (Jvm.Cond.code ({ cls := "java/lang/StringUTF16", name := "getChar", desc := "([BI)C" } : Jvm.MethodName) prog_19_method_5_code (2 : Nat) (Option.some Jvm.ClassFile.FieldType.char)) ∈ gw := gw_t2 155 rfl rfl
theorem q_396 : (Jvm.Cond.fieldLink "java/lang/StringUTF16" (44 : Nat) "java/lang/StringUTF16" "$assertionsDisabled" "Z") ∈ gw := gw_t2 156 rfl rfl
theorem q_398 : (Jvm.Cond.fieldLink "java/lang/StringUTF16" (59 : Nat) "java/lang/StringUTF16" "HI_BYTE_SHIFT" "I") ∈ gw := gw_t2 158 rfl rfl
theorem q_400 : (Jvm.Cond.fieldLink "java/lang/StringUTF16" (63 : Nat) "java/lang/StringUTF16" "LO_BYTE_SHIFT" "I") ∈ gw := gw_t2 160 rfl rfl
theorem q_402 : (Jvm.Cond.methodLink "CrownTwo$CourtText" (53 : Nat) ({ cls := "CrownTwo$CourtText", name := "takeNumber", desc := "(II)I" } : Jvm.MethodName)) ∈ gw := gw_t2 162 rfl rfl
theorem q_404 : (Jvm.Cond.instanceMethod ({ cls := "CrownTwo$CourtText", name := "takeNumber", desc := "(II)I" } : Jvm.MethodName)) ∈ gw := gw_t2 164 rfl rfl
theorem q_405 : (Jvm.Cond.code ({ cls := "CrownTwo$CourtText", name := "takeNumber", desc := "(II)I" } : Jvm.MethodName) prog_3_method_9_code (4 : Nat) (Option.some Jvm.ClassFile.FieldType.int)) ∈ gw := gw_t2 165 rfl rfl
theorem q_406 : (Jvm.Cond.methodLink "CrownTwo$CourtText" (57 : Nat) ({ cls := "CrownTwo$CourtText", name := "takeEnding", desc := "()Z" } : Jvm.MethodName)) ∈ gw := gw_t2 166 rfl rfl
theorem q_408 : (Jvm.Cond.instanceMethod ({ cls := "CrownTwo$CourtText", name := "takeEnding", desc := "()Z" } : Jvm.MethodName)) ∈ gw := gw_t2 168 rfl rfl
theorem q_409 : (Jvm.Cond.code ({ cls := "CrownTwo$CourtText", name := "takeEnding", desc := "()Z" } : Jvm.MethodName) prog_3_method_10_code (1 : Nat) (Option.some Jvm.ClassFile.FieldType.boolean)) ∈ gw := gw_t2 169 rfl rfl
theorem q_410 : (Jvm.Cond.methodLink "CrownTwo$CourtText" (44 : Nat) ({ cls := "CrownTwo$CourtText", name := "laterItem", desc := "(LCrownTwo$Court;)Z" } : Jvm.MethodName)) ∈ gw := gw_t2 170 rfl rfl
theorem q_412 : (Jvm.Cond.instanceMethod ({ cls := "CrownTwo$CourtText", name := "laterItem", desc := "(LCrownTwo$Court;)Z" } : Jvm.MethodName)) ∈ gw := gw_t2 172 rfl rfl
theorem q_413 : (Jvm.Cond.code ({ cls := "CrownTwo$CourtText", name := "laterItem", desc := "(LCrownTwo$Court;)Z" } : Jvm.MethodName) prog_3_method_5_code (2 : Nat) (Option.some Jvm.ClassFile.FieldType.boolean)) ∈ gw := gw_t2 173 rfl rfl
theorem q_415 : (Jvm.Cond.methodLink "CrownTwo$CourtText" (63 : Nat) ({ cls := "CrownTwo$CourtText", name := "heirItem", desc := "(LCrownTwo$Court;)Z" } : Jvm.MethodName)) ∈ gw := gw_t2 175 rfl rfl
theorem q_417 : (Jvm.Cond.instanceMethod ({ cls := "CrownTwo$CourtText", name := "heirItem", desc := "(LCrownTwo$Court;)Z" } : Jvm.MethodName)) ∈ gw := gw_t2 177 rfl rfl
theorem q_418 : (Jvm.Cond.code ({ cls := "CrownTwo$CourtText", name := "heirItem", desc := "(LCrownTwo$Court;)Z" } : Jvm.MethodName) prog_3_method_6_code (4 : Nat) (Option.some Jvm.ClassFile.FieldType.boolean)) ∈ gw := gw_t2 178 rfl rfl
theorem q_419 : (Jvm.Cond.methodLink "CrownTwo$CourtText" (82 : Nat) ({ cls := "CrownTwo$Court", name := "admit", desc := "(IIII)I" } : Jvm.MethodName)) ∈ gw := gw_t2 179 rfl rfl
theorem q_421 : (Jvm.Cond.methodLink "CrownTwo$CourtText" (68 : Nat) ({ cls := "CrownTwo$CourtText", name := "heartItem", desc := "(LCrownTwo$Court;Z)Z" } : Jvm.MethodName)) ∈ gw := gw_t2 181 rfl rfl
theorem q_423 : (Jvm.Cond.instanceMethod ({ cls := "CrownTwo$CourtText", name := "heartItem", desc := "(LCrownTwo$Court;Z)Z" } : Jvm.MethodName)) ∈ gw := gw_t2 183 rfl rfl
theorem q_424 : (Jvm.Cond.code ({ cls := "CrownTwo$CourtText", name := "heartItem", desc := "(LCrownTwo$Court;Z)Z" } : Jvm.MethodName) prog_3_method_7_code (7 : Nat) (Option.some Jvm.ClassFile.FieldType.boolean)) ∈ gw := gw_t2 184 rfl rfl
theorem q_425 : (Jvm.Cond.methodLink "CrownTwo$CourtText" (98 : Nat) ({ cls := "CrownTwo$Heir", name := "feel", desc := "(II)V" } : Jvm.MethodName)) ∈ gw := gw_t2 185 rfl rfl
theorem q_426 : (Jvm.Cond.instanceMethod ({ cls := "CrownTwo$Heir", name := "feel", desc := "(II)V" } : Jvm.MethodName)) ∈ gw := gw_t2 186 rfl rfl
theorem q_427 : (Jvm.Cond.selects "CrownTwo$Heir" ({ cls := "CrownTwo$Heir", name := "feel", desc := "(II)V" } : Jvm.MethodName) ({ cls := "CrownTwo$Heir", name := "feel", desc := "(II)V" } : Jvm.MethodName)) ∈ gw := gw_t2 187 rfl rfl
theorem q_428 : (Jvm.Cond.code ({ cls := "CrownTwo$Heir", name := "feel", desc := "(II)V" } : Jvm.MethodName) prog_5_method_3_code (3 : Nat) (Option.none : Option Jvm.ClassFile.FieldType)) ∈ gw := gw_t2 188 rfl rfl
theorem q_431 : (Jvm.Cond.methodLink "CrownTwo$CourtText" (76 : Nat) ({ cls := "CrownTwo$CourtText", name := "pairItem", desc := "(LCrownTwo$Court;)Z" } : Jvm.MethodName)) ∈ gw := gw_t2 191 rfl rfl
theorem q_433 : (Jvm.Cond.instanceMethod ({ cls := "CrownTwo$CourtText", name := "pairItem", desc := "(LCrownTwo$Court;)Z" } : Jvm.MethodName)) ∈ gw := gw_t2 193 rfl rfl
theorem q_434 : (Jvm.Cond.code ({ cls := "CrownTwo$CourtText", name := "pairItem", desc := "(LCrownTwo$Court;)Z" } : Jvm.MethodName) prog_3_method_8_code (4 : Nat) (Option.some Jvm.ClassFile.FieldType.boolean)) ∈ gw := gw_t2 194 rfl rfl
theorem q_435 : (Jvm.Cond.methodLink "CrownTwo" (126 : Nat) ({ cls := "CrownTwo$Court", name := "become", desc := "(LCrownTwo$Court;)V" } : Jvm.MethodName)) ∈ gw := gw_t2 195 rfl rfl
theorem q_436 : (Jvm.Cond.instanceMethod ({ cls := "CrownTwo$Court", name := "become", desc := "(LCrownTwo$Court;)V" } : Jvm.MethodName)) ∈ gw := gw_t2 196 rfl rfl
theorem q_437 : (Jvm.Cond.selects "CrownTwo$Court" ({ cls := "CrownTwo$Court", name := "become", desc := "(LCrownTwo$Court;)V" } : Jvm.MethodName) ({ cls := "CrownTwo$Court", name := "become", desc := "(LCrownTwo$Court;)V" } : Jvm.MethodName)) ∈ gw := gw_t2 197 rfl rfl
theorem q_438 : (Jvm.Cond.code ({ cls := "CrownTwo$Court", name := "become", desc := "(LCrownTwo$Court;)V" } : Jvm.MethodName) prog_2_method_3_code (3 : Nat) (Option.none : Option Jvm.ClassFile.FieldType)) ∈ gw := gw_t2 198 rfl rfl
theorem q_439 : (Jvm.Cond.methodLink "CrownTwo$Court" (54 : Nat) ({ cls := "CrownTwo$Moment", name := "become", desc := "(LCrownTwo$Moment;)V" } : Jvm.MethodName)) ∈ gw := gw_t2 199 rfl rfl
theorem q_440 : (Jvm.Cond.instanceMethod ({ cls := "CrownTwo$Moment", name := "become", desc := "(LCrownTwo$Moment;)V" } : Jvm.MethodName)) ∈ gw := gw_t2 200 rfl rfl
theorem q_441 : (Jvm.Cond.selects "CrownTwo$Moment" ({ cls := "CrownTwo$Moment", name := "become", desc := "(LCrownTwo$Moment;)V" } : Jvm.MethodName) ({ cls := "CrownTwo$Moment", name := "become", desc := "(LCrownTwo$Moment;)V" } : Jvm.MethodName)) ∈ gw := gw_t2 201 rfl rfl
theorem q_442 : (Jvm.Cond.code ({ cls := "CrownTwo$Moment", name := "become", desc := "(LCrownTwo$Moment;)V" } : Jvm.MethodName) prog_7_method_3_code (2 : Nat) (Option.none : Option Jvm.ClassFile.FieldType)) ∈ gw := gw_t2 202 rfl rfl
theorem q_443 : (Jvm.Cond.methodLink "CrownTwo$Court" (58 : Nat) ({ cls := "CrownTwo$Heir", name := "become", desc := "(LCrownTwo$Heir;)V" } : Jvm.MethodName)) ∈ gw := gw_t2 203 rfl rfl
theorem q_444 : (Jvm.Cond.instanceMethod ({ cls := "CrownTwo$Heir", name := "become", desc := "(LCrownTwo$Heir;)V" } : Jvm.MethodName)) ∈ gw := gw_t2 204 rfl rfl
theorem q_445 : (Jvm.Cond.selects "CrownTwo$Heir" ({ cls := "CrownTwo$Heir", name := "become", desc := "(LCrownTwo$Heir;)V" } : Jvm.MethodName) ({ cls := "CrownTwo$Heir", name := "become", desc := "(LCrownTwo$Heir;)V" } : Jvm.MethodName)) ∈ gw := gw_t2 205 rfl rfl
theorem q_446 : (Jvm.Cond.code ({ cls := "CrownTwo$Heir", name := "become", desc := "(LCrownTwo$Heir;)V" } : Jvm.MethodName) prog_5_method_4_code (2 : Nat) (Option.none : Option Jvm.ClassFile.FieldType)) ∈ gw := gw_t2 206 rfl rfl
theorem q_447 : (Jvm.Cond.methodLink "CrownTwo$Heir" (22 : Nat) ({ cls := "CrownTwo$Heir", name := "put", desc := "(IIII)V" } : Jvm.MethodName)) ∈ gw := gw_t2 207 rfl rfl
theorem q_448 : (Jvm.Cond.methodLink "CrownTwo$Court" (61 : Nat) ({ cls := "CrownTwo$Note", name := "become", desc := "(LCrownTwo$Note;)V" } : Jvm.MethodName)) ∈ gw := gw_t2 208 rfl rfl
theorem q_449 : (Jvm.Cond.instanceMethod ({ cls := "CrownTwo$Note", name := "become", desc := "(LCrownTwo$Note;)V" } : Jvm.MethodName)) ∈ gw := gw_t2 209 rfl rfl
theorem q_450 : (Jvm.Cond.selects "CrownTwo$Note" ({ cls := "CrownTwo$Note", name := "become", desc := "(LCrownTwo$Note;)V" } : Jvm.MethodName) ({ cls := "CrownTwo$Note", name := "become", desc := "(LCrownTwo$Note;)V" } : Jvm.MethodName)) ∈ gw := gw_t2 210 rfl rfl
theorem q_451 : (Jvm.Cond.code ({ cls := "CrownTwo$Note", name := "become", desc := "(LCrownTwo$Note;)V" } : Jvm.MethodName) prog_8_method_3_code (2 : Nat) (Option.none : Option Jvm.ClassFile.FieldType)) ∈ gw := gw_t2 211 rfl rfl
theorem q_452 : (Jvm.Cond.methodLink "CrownTwo$Note" (25 : Nat) ({ cls := "CrownTwo$Note", name := "put", desc := "(IIIII)V" } : Jvm.MethodName)) ∈ gw := gw_t2 212 rfl rfl
theorem q_453 : (Jvm.Cond.instanceMethod ({ cls := "CrownTwo$Note", name := "put", desc := "(IIIII)V" } : Jvm.MethodName)) ∈ gw := gw_t2 213 rfl rfl
theorem q_454 : (Jvm.Cond.selects "CrownTwo$Note" ({ cls := "CrownTwo$Note", name := "put", desc := "(IIIII)V" } : Jvm.MethodName) ({ cls := "CrownTwo$Note", name := "put", desc := "(IIIII)V" } : Jvm.MethodName)) ∈ gw := gw_t2 214 rfl rfl
theorem q_455 : (Jvm.Cond.code ({ cls := "CrownTwo$Note", name := "put", desc := "(IIIII)V" } : Jvm.MethodName) prog_8_method_2_code (6 : Nat) (Option.none : Option Jvm.ClassFile.FieldType)) ∈ gw := gw_t2 215 rfl rfl
theorem q_456 : (Jvm.Cond.arrayClass Jvm.ClassFile.FieldType.byte) ∈ gw := gw_t2 216 rfl rfl
theorem q_457 : (Jvm.Cond.methodLink "CrownTwoLaw" (36 : Nat) ({ cls := "CrownTwo", name := "pair", desc := "(II)I" } : Jvm.MethodName)) ∈ gw := gw_t2 217 rfl rfl
theorem q_458 : (Jvm.Cond.instanceMethod ({ cls := "CrownTwo", name := "pair", desc := "(II)I" } : Jvm.MethodName)) ∈ gw := gw_t2 218 rfl rfl
theorem q_459 : (Jvm.Cond.selects "CrownTwo" ({ cls := "CrownTwo", name := "pair", desc := "(II)I" } : Jvm.MethodName) ({ cls := "CrownTwo", name := "pair", desc := "(II)I" } : Jvm.MethodName)) ∈ gw := gw_t2 219 rfl rfl
theorem q_460 : (Jvm.Cond.code ({ cls := "CrownTwo", name := "pair", desc := "(II)I" } : Jvm.MethodName) prog_1_method_7_code (3 : Nat) (Option.some Jvm.ClassFile.FieldType.int)) ∈ gw := gw_t2 220 rfl rfl
theorem q_461 : (Jvm.Cond.methodLink "CrownTwo" (130 : Nat) ({ cls := "CrownTwo$Court", name := "hasTwo", desc := "(II)Z" } : Jvm.MethodName)) ∈ gw := gw_t2 221 rfl rfl
theorem q_462 : (Jvm.Cond.instanceMethod ({ cls := "CrownTwo$Court", name := "hasTwo", desc := "(II)Z" } : Jvm.MethodName)) ∈ gw := gw_t2 222 rfl rfl
theorem q_463 : (Jvm.Cond.selects "CrownTwo$Court" ({ cls := "CrownTwo$Court", name := "hasTwo", desc := "(II)Z" } : Jvm.MethodName) ({ cls := "CrownTwo$Court", name := "hasTwo", desc := "(II)Z" } : Jvm.MethodName)) ∈ gw := gw_t2 223 rfl rfl
theorem q_464 : (Jvm.Cond.code ({ cls := "CrownTwo$Court", name := "hasTwo", desc := "(II)Z" } : Jvm.MethodName) prog_2_method_5_code (3 : Nat) (Option.some Jvm.ClassFile.FieldType.boolean)) ∈ gw := gw_t2 224 rfl rfl
theorem q_465 : (Jvm.Cond.methodLink "CrownTwo$Court" (64 : Nat) ({ cls := "CrownTwo$Court", name := "has", desc := "(I)Z" } : Jvm.MethodName)) ∈ gw := gw_t2 225 rfl rfl
theorem q_466 : (Jvm.Cond.instanceMethod ({ cls := "CrownTwo$Court", name := "has", desc := "(I)Z" } : Jvm.MethodName)) ∈ gw := gw_t2 226 rfl rfl
theorem q_467 : (Jvm.Cond.selects "CrownTwo$Court" ({ cls := "CrownTwo$Court", name := "has", desc := "(I)Z" } : Jvm.MethodName) ({ cls := "CrownTwo$Court", name := "has", desc := "(I)Z" } : Jvm.MethodName)) ∈ gw := gw_t2 227 rfl rfl
theorem q_468 : (Jvm.Cond.code ({ cls := "CrownTwo$Court", name := "has", desc := "(I)Z" } : Jvm.MethodName) prog_2_method_4_code (2 : Nat) (Option.some Jvm.ClassFile.FieldType.boolean)) ∈ gw := gw_t2 228 rfl rfl
theorem q_469 : (Jvm.Cond.methodLink "CrownTwo" (134 : Nat) ({ cls := "CrownTwo$Court", name := "remember", desc := "()V" } : Jvm.MethodName)) ∈ gw := gw_t2 229 rfl rfl
theorem q_470 : (Jvm.Cond.instanceMethod ({ cls := "CrownTwo$Court", name := "remember", desc := "()V" } : Jvm.MethodName)) ∈ gw := gw_t2 230 rfl rfl
theorem q_471 : (Jvm.Cond.selects "CrownTwo$Court" ({ cls := "CrownTwo$Court", name := "remember", desc := "()V" } : Jvm.MethodName) ({ cls := "CrownTwo$Court", name := "remember", desc := "()V" } : Jvm.MethodName)) ∈ gw := gw_t2 231 rfl rfl
theorem q_472 : (Jvm.Cond.code ({ cls := "CrownTwo$Court", name := "remember", desc := "()V" } : Jvm.MethodName) prog_2_method_7_code (1 : Nat) (Option.none : Option Jvm.ClassFile.FieldType)) ∈ gw := gw_t2 232 rfl rfl
theorem q_473 : (Jvm.Cond.methodLink "CrownTwo$Court" (72 : Nat) ({ cls := "CrownTwo$Court", name := "forgetOldest", desc := "()V" } : Jvm.MethodName)) ∈ gw := gw_t2 233 rfl rfl
theorem q_475 : (Jvm.Cond.instanceMethod ({ cls := "CrownTwo$Court", name := "forgetOldest", desc := "()V" } : Jvm.MethodName)) ∈ gw := gw_t2 235 rfl rfl
theorem q_476 : (Jvm.Cond.code ({ cls := "CrownTwo$Court", name := "forgetOldest", desc := "()V" } : Jvm.MethodName) prog_2_method_8_code (2 : Nat) (Option.none : Option Jvm.ClassFile.FieldType)) ∈ gw := gw_t2 236 rfl rfl
theorem q_477 : (Jvm.Cond.methodLink "CrownTwoLaw" (41 : Nat) ({ cls := "CrownTwo", name := "ask", desc := "(I)I" } : Jvm.MethodName)) ∈ gw := gw_t2 237 rfl rfl
theorem q_478 : (Jvm.Cond.instanceMethod ({ cls := "CrownTwo", name := "ask", desc := "(I)I" } : Jvm.MethodName)) ∈ gw := gw_t2 238 rfl rfl
theorem q_479 : (Jvm.Cond.selects "CrownTwo" ({ cls := "CrownTwo", name := "ask", desc := "(I)I" } : Jvm.MethodName) ({ cls := "CrownTwo", name := "ask", desc := "(I)I" } : Jvm.MethodName)) ∈ gw := gw_t2 239 rfl rfl
theorem q_480 : (Jvm.Cond.code ({ cls := "CrownTwo", name := "ask", desc := "(I)I" } : Jvm.MethodName) prog_1_method_8_code (2 : Nat) (Option.some Jvm.ClassFile.FieldType.int)) ∈ gw := gw_t3 0 rfl rfl
theorem q_481 : (Jvm.Cond.methodLink "CrownTwo" (146 : Nat) ({ cls := "CrownTwo$Moment", name := "paired", desc := "()Z" } : Jvm.MethodName)) ∈ gw := gw_t3 1 rfl rfl
theorem q_482 : (Jvm.Cond.instanceMethod ({ cls := "CrownTwo$Moment", name := "paired", desc := "()Z" } : Jvm.MethodName)) ∈ gw := gw_t3 2 rfl rfl
theorem q_483 : (Jvm.Cond.selects "CrownTwo$Moment" ({ cls := "CrownTwo$Moment", name := "paired", desc := "()Z" } : Jvm.MethodName) ({ cls := "CrownTwo$Moment", name := "paired", desc := "()Z" } : Jvm.MethodName)) ∈ gw := gw_t3 3 rfl rfl
theorem q_484 : (Jvm.Cond.code ({ cls := "CrownTwo$Moment", name := "paired", desc := "()Z" } : Jvm.MethodName) prog_7_method_6_code (1 : Nat) (Option.some Jvm.ClassFile.FieldType.boolean)) ∈ gw := gw_t3 4 rfl rfl
theorem q_485 : (Jvm.Cond.methodLink "CrownTwo" (150 : Nat) ({ cls := "CrownTwo$Moment", name := "isDone", desc := "(I)Z" } : Jvm.MethodName)) ∈ gw := gw_t3 5 rfl rfl
theorem q_486 : (Jvm.Cond.instanceMethod ({ cls := "CrownTwo$Moment", name := "isDone", desc := "(I)Z" } : Jvm.MethodName)) ∈ gw := gw_t3 6 rfl rfl
theorem q_487 : (Jvm.Cond.selects "CrownTwo$Moment" ({ cls := "CrownTwo$Moment", name := "isDone", desc := "(I)Z" } : Jvm.MethodName) ({ cls := "CrownTwo$Moment", name := "isDone", desc := "(I)Z" } : Jvm.MethodName)) ∈ gw := gw_t3 7 rfl rfl
theorem q_488 : (Jvm.Cond.code ({ cls := "CrownTwo$Moment", name := "isDone", desc := "(I)Z" } : Jvm.MethodName) prog_7_method_7_code (2 : Nat) (Option.some Jvm.ClassFile.FieldType.boolean)) ∈ gw := gw_t3 8 rfl rfl
theorem q_489 : (Jvm.Cond.methodLink "CrownTwo" (154 : Nat) ({ cls := "CrownTwo", name := "no", desc := "()I" } : Jvm.MethodName)) ∈ gw := gw_t3 9 rfl rfl
theorem q_491 : (Jvm.Cond.instanceMethod ({ cls := "CrownTwo", name := "no", desc := "()I" } : Jvm.MethodName)) ∈ gw := gw_t3 11 rfl rfl
theorem q_492 : (Jvm.Cond.code ({ cls := "CrownTwo", name := "no", desc := "()I" } : Jvm.MethodName) prog_1_method_37_code (1 : Nat) (Option.some Jvm.ClassFile.FieldType.int)) ∈ gw := gw_t3 12 rfl rfl
theorem q_493 : (Jvm.Cond.methodLink "CrownTwo" (157 : Nat) ({ cls := "CrownTwo$Court", name := "askIn", desc := "(LCrownTwo$Moment;I)I" } : Jvm.MethodName)) ∈ gw := gw_t3 13 rfl rfl
theorem q_494 : (Jvm.Cond.instanceMethod ({ cls := "CrownTwo$Court", name := "askIn", desc := "(LCrownTwo$Moment;I)I" } : Jvm.MethodName)) ∈ gw := gw_t3 14 rfl rfl
theorem q_495 : (Jvm.Cond.selects "CrownTwo$Court" ({ cls := "CrownTwo$Court", name := "askIn", desc := "(LCrownTwo$Moment;I)I" } : Jvm.MethodName) ({ cls := "CrownTwo$Court", name := "askIn", desc := "(LCrownTwo$Moment;I)I" } : Jvm.MethodName)) ∈ gw := gw_t3 15 rfl rfl
theorem q_496 : (Jvm.Cond.code ({ cls := "CrownTwo$Court", name := "askIn", desc := "(LCrownTwo$Moment;I)I" } : Jvm.MethodName) prog_2_method_17_code (4 : Nat) (Option.some Jvm.ClassFile.FieldType.int)) ∈ gw := gw_t3 16 rfl rfl
theorem q_497 : (Jvm.Cond.methodLink "CrownTwo$Court" (130 : Nat) ({ cls := "CrownTwo$Court", name := "liftersIn", desc := "(LCrownTwo$Moment;I)I" } : Jvm.MethodName)) ∈ gw := gw_t3 17 rfl rfl
theorem q_498 : (Jvm.Cond.instanceMethod ({ cls := "CrownTwo$Court", name := "liftersIn", desc := "(LCrownTwo$Moment;I)I" } : Jvm.MethodName)) ∈ gw := gw_t3 18 rfl rfl
theorem q_499 : (Jvm.Cond.selects "CrownTwo$Court" ({ cls := "CrownTwo$Court", name := "liftersIn", desc := "(LCrownTwo$Moment;I)I" } : Jvm.MethodName) ({ cls := "CrownTwo$Court", name := "liftersIn", desc := "(LCrownTwo$Moment;I)I" } : Jvm.MethodName)) ∈ gw := gw_t3 19 rfl rfl
theorem q_500 : (Jvm.Cond.code ({ cls := "CrownTwo$Court", name := "liftersIn", desc := "(LCrownTwo$Moment;I)I" } : Jvm.MethodName) prog_2_method_15_code (6 : Nat) (Option.some Jvm.ClassFile.FieldType.int)) ∈ gw := gw_t3 20 rfl rfl
theorem q_501 : (Jvm.Cond.methodLink "CrownTwo$Court" (127 : Nat) ({ cls := "CrownTwo$Court", name := "lifts", desc := "(IIIII)Z" } : Jvm.MethodName)) ∈ gw := gw_t3 21 rfl rfl
theorem q_502 : (Jvm.Cond.instanceMethod ({ cls := "CrownTwo$Court", name := "lifts", desc := "(IIIII)Z" } : Jvm.MethodName)) ∈ gw := gw_t3 22 rfl rfl
theorem q_503 : (Jvm.Cond.selects "CrownTwo$Court" ({ cls := "CrownTwo$Court", name := "lifts", desc := "(IIIII)Z" } : Jvm.MethodName) ({ cls := "CrownTwo$Court", name := "lifts", desc := "(IIIII)Z" } : Jvm.MethodName)) ∈ gw := gw_t3 23 rfl rfl
theorem q_504 : (Jvm.Cond.code ({ cls := "CrownTwo$Court", name := "lifts", desc := "(IIIII)Z" } : Jvm.MethodName) prog_2_method_14_code (7 : Nat) (Option.some Jvm.ClassFile.FieldType.boolean)) ∈ gw := gw_t3 24 rfl rfl
theorem q_505 : (Jvm.Cond.methodLink "CrownTwo$Court" (114 : Nat) ({ cls := "CrownTwo$Heir", name := "likesAlone", desc := "(I)Z" } : Jvm.MethodName)) ∈ gw := gw_t3 25 rfl rfl
theorem q_506 : (Jvm.Cond.instanceMethod ({ cls := "CrownTwo$Heir", name := "likesAlone", desc := "(I)Z" } : Jvm.MethodName)) ∈ gw := gw_t3 26 rfl rfl
theorem q_507 : (Jvm.Cond.selects "CrownTwo$Heir" ({ cls := "CrownTwo$Heir", name := "likesAlone", desc := "(I)Z" } : Jvm.MethodName) ({ cls := "CrownTwo$Heir", name := "likesAlone", desc := "(I)Z" } : Jvm.MethodName)) ∈ gw := gw_t3 27 rfl rfl
theorem q_508 : (Jvm.Cond.code ({ cls := "CrownTwo$Heir", name := "likesAlone", desc := "(I)Z" } : Jvm.MethodName) prog_5_method_5_code (2 : Nat) (Option.some Jvm.ClassFile.FieldType.boolean)) ∈ gw := gw_t3 28 rfl rfl
theorem q_509 : (Jvm.Cond.methodLink "CrownTwo$Court" (117 : Nat) ({ cls := "CrownTwo$Heir", name := "hatesAlone", desc := "(I)Z" } : Jvm.MethodName)) ∈ gw := gw_t3 29 rfl rfl
theorem q_510 : (Jvm.Cond.instanceMethod ({ cls := "CrownTwo$Heir", name := "hatesAlone", desc := "(I)Z" } : Jvm.MethodName)) ∈ gw := gw_t3 30 rfl rfl
theorem q_511 : (Jvm.Cond.selects "CrownTwo$Heir" ({ cls := "CrownTwo$Heir", name := "hatesAlone", desc := "(I)Z" } : Jvm.MethodName) ({ cls := "CrownTwo$Heir", name := "hatesAlone", desc := "(I)Z" } : Jvm.MethodName)) ∈ gw := gw_t3 31 rfl rfl
theorem q_512 : (Jvm.Cond.code ({ cls := "CrownTwo$Heir", name := "hatesAlone", desc := "(I)Z" } : Jvm.MethodName) prog_5_method_6_code (2 : Nat) (Option.some Jvm.ClassFile.FieldType.boolean)) ∈ gw := gw_t3 32 rfl rfl
theorem q_513 : (Jvm.Cond.methodLink "CrownTwo$Court" (120 : Nat) ({ cls := "CrownTwo$Plain", name := "lifts", desc := "(ZZII)Z" } : Jvm.MethodName)) ∈ gw := gw_t3 33 rfl rfl
theorem q_514 : (Jvm.Cond.instanceMethod ({ cls := "CrownTwo$Plain", name := "lifts", desc := "(ZZII)Z" } : Jvm.MethodName)) ∈ gw := gw_t3 34 rfl rfl
theorem q_515 : (Jvm.Cond.selects "CrownTwo$Plain" ({ cls := "CrownTwo$Plain", name := "lifts", desc := "(ZZII)Z" } : Jvm.MethodName) ({ cls := "CrownTwo$Plain", name := "lifts", desc := "(ZZII)Z" } : Jvm.MethodName)) ∈ gw := gw_t3 35 rfl rfl
theorem q_516 : (Jvm.Cond.sameMethod "CrownTwo$Plain" "CrownTwo$Plain" "lifts" "(ZZII)Z") ∈ gw := gw_t3 36 rfl rfl
theorem q_517 : (Jvm.Cond.selects "CrownTwo$Forgiver" ({ cls := "CrownTwo$Plain", name := "lifts", desc := "(ZZII)Z" } : Jvm.MethodName) ({ cls := "CrownTwo$Forgiver", name := "lifts", desc := "(ZZII)Z" } : Jvm.MethodName)) ∈ gw := gw_t3 37 rfl rfl
theorem q_518 : (Jvm.Cond.instanceMethod ({ cls := "CrownTwo$Forgiver", name := "lifts", desc := "(ZZII)Z" } : Jvm.MethodName)) ∈ gw := gw_t3 38 rfl rfl
theorem q_519 : (Jvm.Cond.code ({ cls := "CrownTwo$Forgiver", name := "lifts", desc := "(ZZII)Z" } : Jvm.MethodName) prog_4_method_2_code (5 : Nat) (Option.some Jvm.ClassFile.FieldType.boolean)) ∈ gw := gw_t3 39 rfl rfl
theorem q_520 : (Jvm.Cond.methodLink "CrownTwo$Forgiver" (7 : Nat) ({ cls := "CrownTwo$Joker", name := "lifts", desc := "(ZZII)Z" } : Jvm.MethodName)) ∈ gw := gw_t3 40 rfl rfl
theorem q_521 : (Jvm.Cond.sameMethod "CrownTwo$Joker" "CrownTwo$Plain" "lifts" "(ZZII)Z") ∈ gw := gw_t3 41 rfl rfl
theorem q_523 : (Jvm.Cond.selects "CrownTwo$Joker" ({ cls := "CrownTwo$Plain", name := "lifts", desc := "(ZZII)Z" } : Jvm.MethodName) ({ cls := "CrownTwo$Plain", name := "lifts", desc := "(ZZII)Z" } : Jvm.MethodName)) ∈ gw := gw_t3 43 rfl rfl
theorem q_524 : (Jvm.Cond.selects "CrownTwo$Proud" ({ cls := "CrownTwo$Plain", name := "lifts", desc := "(ZZII)Z" } : Jvm.MethodName) ({ cls := "CrownTwo$Proud", name := "lifts", desc := "(ZZII)Z" } : Jvm.MethodName)) ∈ gw := gw_t3 44 rfl rfl
theorem q_525 : (Jvm.Cond.instanceMethod ({ cls := "CrownTwo$Proud", name := "lifts", desc := "(ZZII)Z" } : Jvm.MethodName)) ∈ gw := gw_t3 45 rfl rfl
theorem q_526 : (Jvm.Cond.code ({ cls := "CrownTwo$Proud", name := "lifts", desc := "(ZZII)Z" } : Jvm.MethodName) prog_10_method_2_code (5 : Nat) (Option.some Jvm.ClassFile.FieldType.boolean)) ∈ gw := gw_t3 46 rfl rfl
theorem q_527 : (Jvm.Cond.selects "CrownTwo$Sulky" ({ cls := "CrownTwo$Plain", name := "lifts", desc := "(ZZII)Z" } : Jvm.MethodName) ({ cls := "CrownTwo$Sulky", name := "lifts", desc := "(ZZII)Z" } : Jvm.MethodName)) ∈ gw := gw_t3 47 rfl rfl
theorem q_528 : (Jvm.Cond.instanceMethod ({ cls := "CrownTwo$Sulky", name := "lifts", desc := "(ZZII)Z" } : Jvm.MethodName)) ∈ gw := gw_t3 48 rfl rfl
theorem q_529 : (Jvm.Cond.code ({ cls := "CrownTwo$Sulky", name := "lifts", desc := "(ZZII)Z" } : Jvm.MethodName) prog_11_method_2_code (5 : Nat) (Option.some Jvm.ClassFile.FieldType.boolean)) ∈ gw := gw_t3 49 rfl rfl
theorem q_530 : (Jvm.Cond.methodLink "CrownTwo$Sulky" (7 : Nat) ({ cls := "CrownTwo$Plain", name := "lifts", desc := "(ZZII)Z" } : Jvm.MethodName)) ∈ gw := gw_t3 50 rfl rfl
theorem q_531 : (Jvm.Cond.selects "CrownTwo$Tired" ({ cls := "CrownTwo$Plain", name := "lifts", desc := "(ZZII)Z" } : Jvm.MethodName) ({ cls := "CrownTwo$Tired", name := "lifts", desc := "(ZZII)Z" } : Jvm.MethodName)) ∈ gw := gw_t3 51 rfl rfl
theorem q_532 : (Jvm.Cond.instanceMethod ({ cls := "CrownTwo$Tired", name := "lifts", desc := "(ZZII)Z" } : Jvm.MethodName)) ∈ gw := gw_t3 52 rfl rfl
theorem q_533 : (Jvm.Cond.code ({ cls := "CrownTwo$Tired", name := "lifts", desc := "(ZZII)Z" } : Jvm.MethodName) prog_12_method_2_code (5 : Nat) (Option.some Jvm.ClassFile.FieldType.boolean)) ∈ gw := gw_t3 53 rfl rfl
theorem q_534 : (Jvm.Cond.methodLink "CrownTwo$Tired" (7 : Nat) ({ cls := "CrownTwo$Sulky", name := "lifts", desc := "(ZZII)Z" } : Jvm.MethodName)) ∈ gw := gw_t3 54 rfl rfl
theorem q_535 : (Jvm.Cond.code ({ cls := "CrownTwo$Plain", name := "lifts", desc := "(ZZII)Z" } : Jvm.MethodName) prog_9_method_2_code (5 : Nat) (Option.some Jvm.ClassFile.FieldType.boolean)) ∈ gw := gw_t3 55 rfl rfl
theorem q_536 : (Jvm.Cond.methodLink "CrownTwo$Court" (108 : Nat) ({ cls := "CrownTwo$Moment", name := "warm", desc := "(I)V" } : Jvm.MethodName)) ∈ gw := gw_t3 56 rfl rfl
theorem q_537 : (Jvm.Cond.instanceMethod ({ cls := "CrownTwo$Moment", name := "warm", desc := "(I)V" } : Jvm.MethodName)) ∈ gw := gw_t3 57 rfl rfl
theorem q_538 : (Jvm.Cond.selects "CrownTwo$Moment" ({ cls := "CrownTwo$Moment", name := "warm", desc := "(I)V" } : Jvm.MethodName) ({ cls := "CrownTwo$Moment", name := "warm", desc := "(I)V" } : Jvm.MethodName)) ∈ gw := gw_t3 58 rfl rfl
theorem q_539 : (Jvm.Cond.code ({ cls := "CrownTwo$Moment", name := "warm", desc := "(I)V" } : Jvm.MethodName) prog_7_method_4_code (2 : Nat) (Option.none : Option Jvm.ClassFile.FieldType)) ∈ gw := gw_t3 59 rfl rfl
theorem q_540 : (Jvm.Cond.methodLink "CrownTwo$Moment" (27 : Nat) ({ cls := "java/lang/Math", name := "min", desc := "(II)I" } : Jvm.MethodName)) ∈ gw := gw_t3 60 rfl rfl
theorem q_541 : (Jvm.Cond.static ({ cls := "java/lang/Math", name := "min", desc := "(II)I" } : Jvm.MethodName)) ∈ gw := gw_t3 61 rfl rfl
theorem q_542 : (Jvm.Cond.code ({ cls := "java/lang/Math", name := "min", desc := "(II)I" } : Jvm.MethodName) prog_16_method_69_code (2 : Nat) (Option.some Jvm.ClassFile.FieldType.int)) ∈ gw := gw_t3 62 rfl rfl
theorem q_543 : (Jvm.Cond.methodLink "CrownTwo$Moment" (33 : Nat) ({ cls := "java/lang/Math", name := "max", desc := "(II)I" } : Jvm.MethodName)) ∈ gw := gw_t3 63 rfl rfl
theorem q_544 : (Jvm.Cond.static ({ cls := "java/lang/Math", name := "max", desc := "(II)I" } : Jvm.MethodName)) ∈ gw := gw_t3 64 rfl rfl
theorem q_545 : (Jvm.Cond.code ({ cls := "java/lang/Math", name := "max", desc := "(II)I" } : Jvm.MethodName) prog_16_method_65_code (2 : Nat) (Option.some Jvm.ClassFile.FieldType.int)) ∈ gw := gw_t3 65 rfl rfl
theorem q_546 : (Jvm.Cond.methodLink "CrownTwoLaw" (45 : Nat) ({ cls := "CrownTwo", name := "day", desc := "(I)I" } : Jvm.MethodName)) ∈ gw := gw_t3 66 rfl rfl
theorem q_547 : (Jvm.Cond.instanceMethod ({ cls := "CrownTwo", name := "day", desc := "(I)I" } : Jvm.MethodName)) ∈ gw := gw_t3 67 rfl rfl
theorem q_548 : (Jvm.Cond.selects "CrownTwo" ({ cls := "CrownTwo", name := "day", desc := "(I)I" } : Jvm.MethodName) ({ cls := "CrownTwo", name := "day", desc := "(I)I" } : Jvm.MethodName)) ∈ gw := gw_t3 68 rfl rfl
theorem q_549 : (Jvm.Cond.code ({ cls := "CrownTwo", name := "day", desc := "(I)I" } : Jvm.MethodName) prog_1_method_9_code (2 : Nat) (Option.some Jvm.ClassFile.FieldType.int)) ∈ gw := gw_t3 69 rfl rfl
theorem q_550 : (Jvm.Cond.methodLink "CrownTwo" (161 : Nat) ({ cls := "CrownTwo$Court", name := "passDays", desc := "(LCrownTwo$Moment;I)V" } : Jvm.MethodName)) ∈ gw := gw_t3 70 rfl rfl
theorem q_551 : (Jvm.Cond.instanceMethod ({ cls := "CrownTwo$Court", name := "passDays", desc := "(LCrownTwo$Moment;I)V" } : Jvm.MethodName)) ∈ gw := gw_t3 71 rfl rfl
theorem q_552 : (Jvm.Cond.selects "CrownTwo$Court" ({ cls := "CrownTwo$Court", name := "passDays", desc := "(LCrownTwo$Moment;I)V" } : Jvm.MethodName) ({ cls := "CrownTwo$Court", name := "passDays", desc := "(LCrownTwo$Moment;I)V" } : Jvm.MethodName)) ∈ gw := gw_t3 72 rfl rfl
theorem q_553 : (Jvm.Cond.code ({ cls := "CrownTwo$Court", name := "passDays", desc := "(LCrownTwo$Moment;I)V" } : Jvm.MethodName) prog_2_method_13_code (5 : Nat) (Option.none : Option Jvm.ClassFile.FieldType)) ∈ gw := gw_t3 73 rfl rfl
theorem q_554 : (Jvm.Cond.methodLink "CrownTwo$Court" (104 : Nat) ({ cls := "CrownTwo$Court", name := "changeInADay", desc := "(LCrownTwo$Moment;)I" } : Jvm.MethodName)) ∈ gw := gw_t3 74 rfl rfl
theorem q_555 : (Jvm.Cond.instanceMethod ({ cls := "CrownTwo$Court", name := "changeInADay", desc := "(LCrownTwo$Moment;)I" } : Jvm.MethodName)) ∈ gw := gw_t3 75 rfl rfl
theorem q_556 : (Jvm.Cond.selects "CrownTwo$Court" ({ cls := "CrownTwo$Court", name := "changeInADay", desc := "(LCrownTwo$Moment;)I" } : Jvm.MethodName) ({ cls := "CrownTwo$Court", name := "changeInADay", desc := "(LCrownTwo$Moment;)I" } : Jvm.MethodName)) ∈ gw := gw_t3 76 rfl rfl
theorem q_557 : (Jvm.Cond.code ({ cls := "CrownTwo$Court", name := "changeInADay", desc := "(LCrownTwo$Moment;)I" } : Jvm.MethodName) prog_2_method_12_code (2 : Nat) (Option.some Jvm.ClassFile.FieldType.int)) ∈ gw := gw_t3 77 rfl rfl
theorem q_558 : (Jvm.Cond.methodLink "CrownTwo$Court" (90 : Nat) ({ cls := "CrownTwo$Moment", name := "paired", desc := "()Z" } : Jvm.MethodName)) ∈ gw := gw_t3 78 rfl rfl
theorem q_559 : (Jvm.Cond.methodLink "CrownTwo$Court" (100 : Nat) ({ cls := "CrownTwo$Court", name := "changeBy", desc := "(II)I" } : Jvm.MethodName)) ∈ gw := gw_t3 79 rfl rfl
theorem q_560 : (Jvm.Cond.instanceMethod ({ cls := "CrownTwo$Court", name := "changeBy", desc := "(II)I" } : Jvm.MethodName)) ∈ gw := gw_t3 80 rfl rfl
theorem q_561 : (Jvm.Cond.selects "CrownTwo$Court" ({ cls := "CrownTwo$Court", name := "changeBy", desc := "(II)I" } : Jvm.MethodName) ({ cls := "CrownTwo$Court", name := "changeBy", desc := "(II)I" } : Jvm.MethodName)) ∈ gw := gw_t3 81 rfl rfl
theorem q_562 : (Jvm.Cond.code ({ cls := "CrownTwo$Court", name := "changeBy", desc := "(II)I" } : Jvm.MethodName) prog_2_method_11_code (3 : Nat) (Option.some Jvm.ClassFile.FieldType.int)) ∈ gw := gw_t3 82 rfl rfl
theorem q_563 : (Jvm.Cond.methodLink "CrownTwo$Court" (87 : Nat) ({ cls := "CrownTwo$Court", name := "addedBy", desc := "(I)I" } : Jvm.MethodName)) ∈ gw := gw_t3 83 rfl rfl
theorem q_564 : (Jvm.Cond.instanceMethod ({ cls := "CrownTwo$Court", name := "addedBy", desc := "(I)I" } : Jvm.MethodName)) ∈ gw := gw_t3 84 rfl rfl
theorem q_565 : (Jvm.Cond.selects "CrownTwo$Court" ({ cls := "CrownTwo$Court", name := "addedBy", desc := "(I)I" } : Jvm.MethodName) ({ cls := "CrownTwo$Court", name := "addedBy", desc := "(I)I" } : Jvm.MethodName)) ∈ gw := gw_t3 85 rfl rfl
theorem q_566 : (Jvm.Cond.code ({ cls := "CrownTwo$Court", name := "addedBy", desc := "(I)I" } : Jvm.MethodName) prog_2_method_10_code (3 : Nat) (Option.some Jvm.ClassFile.FieldType.int)) ∈ gw := gw_t3 86 rfl rfl
theorem q_567 : (Jvm.Cond.methodLink "CrownTwo$Court" (81 : Nat) ({ cls := "CrownTwo$Plain", name := "adds", desc := "(I)I" } : Jvm.MethodName)) ∈ gw := gw_t3 87 rfl rfl
theorem q_568 : (Jvm.Cond.instanceMethod ({ cls := "CrownTwo$Plain", name := "adds", desc := "(I)I" } : Jvm.MethodName)) ∈ gw := gw_t3 88 rfl rfl
theorem q_569 : (Jvm.Cond.selects "CrownTwo$Plain" ({ cls := "CrownTwo$Plain", name := "adds", desc := "(I)I" } : Jvm.MethodName) ({ cls := "CrownTwo$Plain", name := "adds", desc := "(I)I" } : Jvm.MethodName)) ∈ gw := gw_t3 89 rfl rfl
theorem q_570 : (Jvm.Cond.sameMethod "CrownTwo$Plain" "CrownTwo$Plain" "adds" "(I)I") ∈ gw := gw_t3 90 rfl rfl
theorem q_571 : (Jvm.Cond.selects "CrownTwo$Forgiver" ({ cls := "CrownTwo$Plain", name := "adds", desc := "(I)I" } : Jvm.MethodName) ({ cls := "CrownTwo$Forgiver", name := "adds", desc := "(I)I" } : Jvm.MethodName)) ∈ gw := gw_t3 91 rfl rfl
theorem q_572 : (Jvm.Cond.instanceMethod ({ cls := "CrownTwo$Forgiver", name := "adds", desc := "(I)I" } : Jvm.MethodName)) ∈ gw := gw_t3 92 rfl rfl
theorem q_573 : (Jvm.Cond.code ({ cls := "CrownTwo$Forgiver", name := "adds", desc := "(I)I" } : Jvm.MethodName) prog_4_method_3_code (2 : Nat) (Option.some Jvm.ClassFile.FieldType.int)) ∈ gw := gw_t3 93 rfl rfl
theorem q_574 : (Jvm.Cond.methodLink "CrownTwo$Forgiver" (11 : Nat) ({ cls := "CrownTwo$Joker", name := "adds", desc := "(I)I" } : Jvm.MethodName)) ∈ gw := gw_t3 94 rfl rfl
theorem q_575 : (Jvm.Cond.instanceMethod ({ cls := "CrownTwo$Joker", name := "adds", desc := "(I)I" } : Jvm.MethodName)) ∈ gw := gw_t3 95 rfl rfl
theorem q_576 : (Jvm.Cond.code ({ cls := "CrownTwo$Joker", name := "adds", desc := "(I)I" } : Jvm.MethodName) prog_6_method_2_code (2 : Nat) (Option.some Jvm.ClassFile.FieldType.int)) ∈ gw := gw_t3 96 rfl rfl
theorem q_577 : (Jvm.Cond.methodLink "CrownTwo$Joker" (7 : Nat) ({ cls := "CrownTwo$Plain", name := "adds", desc := "(I)I" } : Jvm.MethodName)) ∈ gw := gw_t3 97 rfl rfl
theorem q_578 : (Jvm.Cond.selects "CrownTwo$Joker" ({ cls := "CrownTwo$Plain", name := "adds", desc := "(I)I" } : Jvm.MethodName) ({ cls := "CrownTwo$Joker", name := "adds", desc := "(I)I" } : Jvm.MethodName)) ∈ gw := gw_t3 98 rfl rfl
theorem q_579 : (Jvm.Cond.selects "CrownTwo$Proud" ({ cls := "CrownTwo$Plain", name := "adds", desc := "(I)I" } : Jvm.MethodName) ({ cls := "CrownTwo$Plain", name := "adds", desc := "(I)I" } : Jvm.MethodName)) ∈ gw := gw_t3 99 rfl rfl
theorem q_580 : (Jvm.Cond.selects "CrownTwo$Sulky" ({ cls := "CrownTwo$Plain", name := "adds", desc := "(I)I" } : Jvm.MethodName) ({ cls := "CrownTwo$Sulky", name := "adds", desc := "(I)I" } : Jvm.MethodName)) ∈ gw := gw_t3 100 rfl rfl
theorem q_581 : (Jvm.Cond.instanceMethod ({ cls := "CrownTwo$Sulky", name := "adds", desc := "(I)I" } : Jvm.MethodName)) ∈ gw := gw_t3 101 rfl rfl
theorem q_582 : (Jvm.Cond.code ({ cls := "CrownTwo$Sulky", name := "adds", desc := "(I)I" } : Jvm.MethodName) prog_11_method_3_code (2 : Nat) (Option.some Jvm.ClassFile.FieldType.int)) ∈ gw := gw_t3 102 rfl rfl
theorem q_583 : (Jvm.Cond.methodLink "CrownTwo$Sulky" (11 : Nat) ({ cls := "CrownTwo$Plain", name := "adds", desc := "(I)I" } : Jvm.MethodName)) ∈ gw := gw_t3 103 rfl rfl
theorem q_584 : (Jvm.Cond.selects "CrownTwo$Tired" ({ cls := "CrownTwo$Plain", name := "adds", desc := "(I)I" } : Jvm.MethodName) ({ cls := "CrownTwo$Tired", name := "adds", desc := "(I)I" } : Jvm.MethodName)) ∈ gw := gw_t3 104 rfl rfl
theorem q_585 : (Jvm.Cond.instanceMethod ({ cls := "CrownTwo$Tired", name := "adds", desc := "(I)I" } : Jvm.MethodName)) ∈ gw := gw_t3 105 rfl rfl
theorem q_586 : (Jvm.Cond.code ({ cls := "CrownTwo$Tired", name := "adds", desc := "(I)I" } : Jvm.MethodName) prog_12_method_3_code (2 : Nat) (Option.some Jvm.ClassFile.FieldType.int)) ∈ gw := gw_t3 106 rfl rfl
theorem q_587 : (Jvm.Cond.methodLink "CrownTwo$Tired" (11 : Nat) ({ cls := "CrownTwo$Sulky", name := "adds", desc := "(I)I" } : Jvm.MethodName)) ∈ gw := gw_t3 107 rfl rfl
theorem q_588 : (Jvm.Cond.code ({ cls := "CrownTwo$Plain", name := "adds", desc := "(I)I" } : Jvm.MethodName) prog_9_method_3_code (2 : Nat) (Option.some Jvm.ClassFile.FieldType.int)) ∈ gw := gw_t3 108 rfl rfl
theorem q_589 : (Jvm.Cond.methodLink "CrownTwoLaw" (49 : Nat) ({ cls := "CrownTwo", name := "feed", desc := "(I)I" } : Jvm.MethodName)) ∈ gw := gw_t3 109 rfl rfl
theorem q_590 : (Jvm.Cond.instanceMethod ({ cls := "CrownTwo", name := "feed", desc := "(I)I" } : Jvm.MethodName)) ∈ gw := gw_t3 110 rfl rfl
theorem q_591 : (Jvm.Cond.selects "CrownTwo" ({ cls := "CrownTwo", name := "feed", desc := "(I)I" } : Jvm.MethodName) ({ cls := "CrownTwo", name := "feed", desc := "(I)I" } : Jvm.MethodName)) ∈ gw := gw_t3 111 rfl rfl
theorem q_592 : (Jvm.Cond.code ({ cls := "CrownTwo", name := "feed", desc := "(I)I" } : Jvm.MethodName) prog_1_method_10_code (2 : Nat) (Option.some Jvm.ClassFile.FieldType.int)) ∈ gw := gw_t3 112 rfl rfl
theorem q_593 : (Jvm.Cond.methodLink "CrownTwo" (168 : Nat) ({ cls := "CrownTwo$Moment", name := "warm", desc := "(I)V" } : Jvm.MethodName)) ∈ gw := gw_t3 113 rfl rfl
theorem q_594 : (Jvm.Cond.methodLink "CrownTwoLaw" (53 : Nat) ({ cls := "CrownTwo", name := "undo", desc := "()I" } : Jvm.MethodName)) ∈ gw := gw_t3 114 rfl rfl
theorem q_595 : (Jvm.Cond.instanceMethod ({ cls := "CrownTwo", name := "undo", desc := "()I" } : Jvm.MethodName)) ∈ gw := gw_t3 115 rfl rfl
theorem q_596 : (Jvm.Cond.selects "CrownTwo" ({ cls := "CrownTwo", name := "undo", desc := "()I" } : Jvm.MethodName) ({ cls := "CrownTwo", name := "undo", desc := "()I" } : Jvm.MethodName)) ∈ gw := gw_t3 116 rfl rfl
theorem q_597 : (Jvm.Cond.code ({ cls := "CrownTwo", name := "undo", desc := "()I" } : Jvm.MethodName) prog_1_method_11_code (1 : Nat) (Option.some Jvm.ClassFile.FieldType.int)) ∈ gw := gw_t3 117 rfl rfl
theorem q_598 : (Jvm.Cond.methodLink "CrownTwo" (174 : Nat) ({ cls := "CrownTwo$Court", name := "goBack", desc := "()V" } : Jvm.MethodName)) ∈ gw := gw_t3 118 rfl rfl
theorem q_599 : (Jvm.Cond.instanceMethod ({ cls := "CrownTwo$Court", name := "goBack", desc := "()V" } : Jvm.MethodName)) ∈ gw := gw_t3 119 rfl rfl
theorem q_600 : (Jvm.Cond.selects "CrownTwo$Court" ({ cls := "CrownTwo$Court", name := "goBack", desc := "()V" } : Jvm.MethodName) ({ cls := "CrownTwo$Court", name := "goBack", desc := "()V" } : Jvm.MethodName)) ∈ gw := gw_t3 120 rfl rfl
theorem q_601 : (Jvm.Cond.code ({ cls := "CrownTwo$Court", name := "goBack", desc := "()V" } : Jvm.MethodName) prog_2_method_9_code (1 : Nat) (Option.none : Option Jvm.ClassFile.FieldType)) ∈ gw := gw_t3 121 rfl rfl
theorem q_602 : (Jvm.Cond.methodLink "CrownTwoLaw" (57 : Nat) ({ cls := "CrownTwo", name := "of", desc := "(II)I" } : Jvm.MethodName)) ∈ gw := gw_t3 122 rfl rfl
theorem q_603 : (Jvm.Cond.instanceMethod ({ cls := "CrownTwo", name := "of", desc := "(II)I" } : Jvm.MethodName)) ∈ gw := gw_t3 123 rfl rfl
theorem q_604 : (Jvm.Cond.selects "CrownTwo" ({ cls := "CrownTwo", name := "of", desc := "(II)I" } : Jvm.MethodName) ({ cls := "CrownTwo", name := "of", desc := "(II)I" } : Jvm.MethodName)) ∈ gw := gw_t3 124 rfl rfl
theorem q_605 : (Jvm.Cond.code ({ cls := "CrownTwo", name := "of", desc := "(II)I" } : Jvm.MethodName) prog_1_method_12_code (4 : Nat) (Option.some Jvm.ClassFile.FieldType.int)) ∈ gw := gw_t3 125 rfl rfl
theorem q_606 : (Jvm.Cond.methodLink "CrownTwo" (180 : Nat) ({ cls := "CrownTwo$Court", name := "has", desc := "(I)Z" } : Jvm.MethodName)) ∈ gw := gw_t3 126 rfl rfl
theorem q_607 : (Jvm.Cond.methodLink "CrownTwo" (201 : Nat) ({ cls := "CrownTwo$Moment", name := "sideOf", desc := "(I)I" } : Jvm.MethodName)) ∈ gw := gw_t3 127 rfl rfl
theorem q_608 : (Jvm.Cond.instanceMethod ({ cls := "CrownTwo$Moment", name := "sideOf", desc := "(I)I" } : Jvm.MethodName)) ∈ gw := gw_t3 128 rfl rfl
theorem q_609 : (Jvm.Cond.selects "CrownTwo$Moment" ({ cls := "CrownTwo$Moment", name := "sideOf", desc := "(I)I" } : Jvm.MethodName) ({ cls := "CrownTwo$Moment", name := "sideOf", desc := "(I)I" } : Jvm.MethodName)) ∈ gw := gw_t3 129 rfl rfl
theorem q_610 : (Jvm.Cond.code ({ cls := "CrownTwo$Moment", name := "sideOf", desc := "(I)I" } : Jvm.MethodName) prog_7_method_8_code (2 : Nat) (Option.some Jvm.ClassFile.FieldType.int)) ∈ gw := gw_t3 130 rfl rfl
theorem q_611 : (Jvm.Cond.methodLink "CrownTwoLaw" (61 : Nat) ({ cls := "CrownTwo", name := "makes", desc := "(I)I" } : Jvm.MethodName)) ∈ gw := gw_t3 131 rfl rfl
theorem q_612 : (Jvm.Cond.instanceMethod ({ cls := "CrownTwo", name := "makes", desc := "(I)I" } : Jvm.MethodName)) ∈ gw := gw_t3 132 rfl rfl
theorem q_613 : (Jvm.Cond.selects "CrownTwo" ({ cls := "CrownTwo", name := "makes", desc := "(I)I" } : Jvm.MethodName) ({ cls := "CrownTwo", name := "makes", desc := "(I)I" } : Jvm.MethodName)) ∈ gw := gw_t3 133 rfl rfl
theorem q_614 : (Jvm.Cond.code ({ cls := "CrownTwo", name := "makes", desc := "(I)I" } : Jvm.MethodName) prog_1_method_13_code (2 : Nat) (Option.some Jvm.ClassFile.FieldType.int)) ∈ gw := gw_t3 134 rfl rfl
theorem q_615 : (Jvm.Cond.methodLink "CrownTwo" (205 : Nat) ({ cls := "CrownTwo$Court", name := "addedBy", desc := "(I)I" } : Jvm.MethodName)) ∈ gw := gw_t3 135 rfl rfl
theorem q_616 : (Jvm.Cond.methodLink "CrownTwoLaw" (65 : Nat) ({ cls := "CrownTwo", name := "lift", desc := "(I)I" } : Jvm.MethodName)) ∈ gw := gw_t3 136 rfl rfl
theorem q_617 : (Jvm.Cond.instanceMethod ({ cls := "CrownTwo", name := "lift", desc := "(I)I" } : Jvm.MethodName)) ∈ gw := gw_t3 137 rfl rfl
theorem q_618 : (Jvm.Cond.selects "CrownTwo" ({ cls := "CrownTwo", name := "lift", desc := "(I)I" } : Jvm.MethodName) ({ cls := "CrownTwo", name := "lift", desc := "(I)I" } : Jvm.MethodName)) ∈ gw := gw_t3 138 rfl rfl
theorem q_619 : (Jvm.Cond.code ({ cls := "CrownTwo", name := "lift", desc := "(I)I" } : Jvm.MethodName) prog_1_method_14_code (2 : Nat) (Option.some Jvm.ClassFile.FieldType.int)) ∈ gw := gw_t3 139 rfl rfl
theorem q_620 : (Jvm.Cond.methodLink "CrownTwo" (208 : Nat) ({ cls := "CrownTwo$Court", name := "liftersIn", desc := "(LCrownTwo$Moment;I)I" } : Jvm.MethodName)) ∈ gw := gw_t3 140 rfl rfl
theorem q_621 : (Jvm.Cond.methodLink "CrownTwoLaw" (69 : Nat) ({ cls := "CrownTwo", name := "both", desc := "(I)I" } : Jvm.MethodName)) ∈ gw := gw_t3 141 rfl rfl
theorem q_622 : (Jvm.Cond.instanceMethod ({ cls := "CrownTwo", name := "both", desc := "(I)I" } : Jvm.MethodName)) ∈ gw := gw_t3 142 rfl rfl
theorem q_623 : (Jvm.Cond.selects "CrownTwo" ({ cls := "CrownTwo", name := "both", desc := "(I)I" } : Jvm.MethodName) ({ cls := "CrownTwo", name := "both", desc := "(I)I" } : Jvm.MethodName)) ∈ gw := gw_t3 143 rfl rfl
theorem q_624 : (Jvm.Cond.code ({ cls := "CrownTwo", name := "both", desc := "(I)I" } : Jvm.MethodName) prog_1_method_15_code (2 : Nat) (Option.some Jvm.ClassFile.FieldType.int)) ∈ gw := gw_t3 144 rfl rfl
theorem q_625 : (Jvm.Cond.methodLink "CrownTwo" (211 : Nat) ({ cls := "CrownTwo$Moment", name := "become", desc := "(LCrownTwo$Moment;)V" } : Jvm.MethodName)) ∈ gw := gw_t3 145 rfl rfl
theorem q_626 : (Jvm.Cond.methodLink "CrownTwo" (214 : Nat) ({ cls := "CrownTwo$Court", name := "actsOfBoth", desc := "(LCrownTwo$Moment;)I" } : Jvm.MethodName)) ∈ gw := gw_t3 146 rfl rfl
theorem q_627 : (Jvm.Cond.instanceMethod ({ cls := "CrownTwo$Court", name := "actsOfBoth", desc := "(LCrownTwo$Moment;)I" } : Jvm.MethodName)) ∈ gw := gw_t3 147 rfl rfl
theorem q_628 : (Jvm.Cond.selects "CrownTwo$Court" ({ cls := "CrownTwo$Court", name := "actsOfBoth", desc := "(LCrownTwo$Moment;)I" } : Jvm.MethodName) ({ cls := "CrownTwo$Court", name := "actsOfBoth", desc := "(LCrownTwo$Moment;)I" } : Jvm.MethodName)) ∈ gw := gw_t3 148 rfl rfl
theorem q_629 : (Jvm.Cond.code ({ cls := "CrownTwo$Court", name := "actsOfBoth", desc := "(LCrownTwo$Moment;)I" } : Jvm.MethodName) prog_2_method_16_code (4 : Nat) (Option.some Jvm.ClassFile.FieldType.int)) ∈ gw := gw_t3 149 rfl rfl
theorem q_630 : (Jvm.Cond.methodLink "CrownTwoLaw" (73 : Nat) ({ cls := "CrownTwo", name := "friends", desc := "()I" } : Jvm.MethodName)) ∈ gw := gw_t3 150 rfl rfl
theorem q_631 : (Jvm.Cond.instanceMethod ({ cls := "CrownTwo", name := "friends", desc := "()I" } : Jvm.MethodName)) ∈ gw := gw_t3 151 rfl rfl
theorem q_632 : (Jvm.Cond.selects "CrownTwo" ({ cls := "CrownTwo", name := "friends", desc := "()I" } : Jvm.MethodName) ({ cls := "CrownTwo", name := "friends", desc := "()I" } : Jvm.MethodName)) ∈ gw := gw_t3 152 rfl rfl
theorem q_633 : (Jvm.Cond.code ({ cls := "CrownTwo", name := "friends", desc := "()I" } : Jvm.MethodName) prog_1_method_16_code (1 : Nat) (Option.some Jvm.ClassFile.FieldType.int)) ∈ gw := gw_t3 153 rfl rfl
theorem q_634 : (Jvm.Cond.methodLink "CrownTwo" (218 : Nat) ({ cls := "CrownTwo$Court", name := "changeInADay", desc := "(LCrownTwo$Moment;)I" } : Jvm.MethodName)) ∈ gw := gw_t3 154 rfl rfl
theorem q_635 : (Jvm.Cond.methodLink "CrownTwo" (221 : Nat) ({ cls := "CrownTwo", name := "daysToFriends", desc := "(I)I" } : Jvm.MethodName)) ∈ gw := gw_t3 155 rfl rfl
theorem q_637 : (Jvm.Cond.instanceMethod ({ cls := "CrownTwo", name := "daysToFriends", desc := "(I)I" } : Jvm.MethodName)) ∈ gw := gw_t3 157 rfl rfl
theorem q_638 : (Jvm.Cond.code ({ cls := "CrownTwo", name := "daysToFriends", desc := "(I)I" } : Jvm.MethodName) prog_1_method_40_code (3 : Nat) (Option.some Jvm.ClassFile.FieldType.int)) ∈ gw := gw_t3 158 rfl rfl
theorem q_639 : (Jvm.Cond.methodLink "CrownTwo" (310 : Nat) ({ cls := "CrownTwo$Moment", name := "friendly", desc := "()Z" } : Jvm.MethodName)) ∈ gw := gw_t3 159 rfl rfl
theorem q_640 : (Jvm.Cond.instanceMethod ({ cls := "CrownTwo$Moment", name := "friendly", desc := "()Z" } : Jvm.MethodName)) ∈ gw := gw_t3 160 rfl rfl
theorem q_641 : (Jvm.Cond.selects "CrownTwo$Moment" ({ cls := "CrownTwo$Moment", name := "friendly", desc := "()Z" } : Jvm.MethodName) ({ cls := "CrownTwo$Moment", name := "friendly", desc := "()Z" } : Jvm.MethodName)) ∈ gw := gw_t3 161 rfl rfl
theorem q_642 : (Jvm.Cond.code ({ cls := "CrownTwo$Moment", name := "friendly", desc := "()Z" } : Jvm.MethodName) prog_7_method_5_code (1 : Nat) (Option.some Jvm.ClassFile.FieldType.boolean)) ∈ gw := gw_t3 162 rfl rfl
theorem q_643 : (Jvm.Cond.methodLink "CrownTwoLaw" (77 : Nat) ({ cls := "CrownTwo", name := "then", desc := "(I)I" } : Jvm.MethodName)) ∈ gw := gw_t3 163 rfl rfl
theorem q_644 : (Jvm.Cond.instanceMethod ({ cls := "CrownTwo", name := "then", desc := "(I)I" } : Jvm.MethodName)) ∈ gw := gw_t3 164 rfl rfl
theorem q_645 : (Jvm.Cond.selects "CrownTwo" ({ cls := "CrownTwo", name := "then", desc := "(I)I" } : Jvm.MethodName) ({ cls := "CrownTwo", name := "then", desc := "(I)I" } : Jvm.MethodName)) ∈ gw := gw_t3 165 rfl rfl
theorem q_646 : (Jvm.Cond.code ({ cls := "CrownTwo", name := "then", desc := "(I)I" } : Jvm.MethodName) prog_1_method_17_code (2 : Nat) (Option.some Jvm.ClassFile.FieldType.int)) ∈ gw := gw_t3 166 rfl rfl
theorem q_647 : (Jvm.Cond.methodLink "CrownTwoLaw" (81 : Nat) ({ cls := "CrownTwo", name := "most", desc := "(II)I" } : Jvm.MethodName)) ∈ gw := gw_t3 167 rfl rfl
theorem q_648 : (Jvm.Cond.instanceMethod ({ cls := "CrownTwo", name := "most", desc := "(II)I" } : Jvm.MethodName)) ∈ gw := gw_t3 168 rfl rfl
theorem q_649 : (Jvm.Cond.selects "CrownTwo" ({ cls := "CrownTwo", name := "most", desc := "(II)I" } : Jvm.MethodName) ({ cls := "CrownTwo", name := "most", desc := "(II)I" } : Jvm.MethodName)) ∈ gw := gw_t3 169 rfl rfl
theorem q_650 : (Jvm.Cond.code ({ cls := "CrownTwo", name := "most", desc := "(II)I" } : Jvm.MethodName) prog_1_method_18_code (3 : Nat) (Option.some Jvm.ClassFile.FieldType.int)) ∈ gw := gw_t3 170 rfl rfl
theorem q_651 : (Jvm.Cond.methodLink "CrownTwo" (224 : Nat) ({ cls := "CrownTwo", name := "tryFrom", desc := "(III)V" } : Jvm.MethodName)) ∈ gw := gw_t3 171 rfl rfl
theorem q_653 : (Jvm.Cond.instanceMethod ({ cls := "CrownTwo", name := "tryFrom", desc := "(III)V" } : Jvm.MethodName)) ∈ gw := gw_t3 173 rfl rfl
theorem q_654 : (Jvm.Cond.code ({ cls := "CrownTwo", name := "tryFrom", desc := "(III)V" } : Jvm.MethodName) prog_1_method_45_code (9 : Nat) (Option.none : Option Jvm.ClassFile.FieldType)) ∈ gw := gw_t3 174 rfl rfl
theorem q_655 : (Jvm.Cond.methodLink "CrownTwo" (316 : Nat) ({ cls := "java/lang/System", name := "arraycopy", desc := "(Ljava/lang/Object;ILjava/lang/Object;II)V" } : Jvm.MethodName)) ∈ gw := gw_t3 175 rfl rfl
theorem q_656 : (Jvm.Cond.static ({ cls := "java/lang/System", name := "arraycopy", desc := "(Ljava/lang/Object;ILjava/lang/Object;II)V" } : Jvm.MethodName)) ∈ gw := gw_t3 176 rfl rfl
theorem q_657 : (Jvm.Cond.native ({ cls := "java/lang/System", name := "arraycopy", desc := "(Ljava/lang/Object;ILjava/lang/Object;II)V" } : Jvm.MethodName)) ∈ gw := gw_t3 177 rfl rfl
theorem q_658 : (Jvm.Cond.methodLink "CrownTwoLaw" (85 : Nat) ({ cls := "CrownTwo", name := "keep", desc := "(I)I" } : Jvm.MethodName)) ∈ gw := gw_t3 178 rfl rfl
theorem q_659 : (Jvm.Cond.instanceMethod ({ cls := "CrownTwo", name := "keep", desc := "(I)I" } : Jvm.MethodName)) ∈ gw := gw_t3 179 rfl rfl
theorem q_660 : (Jvm.Cond.selects "CrownTwo" ({ cls := "CrownTwo", name := "keep", desc := "(I)I" } : Jvm.MethodName) ({ cls := "CrownTwo", name := "keep", desc := "(I)I" } : Jvm.MethodName)) ∈ gw := gw_t3 180 rfl rfl
theorem q_661 : (Jvm.Cond.code ({ cls := "CrownTwo", name := "keep", desc := "(I)I" } : Jvm.MethodName) prog_1_method_19_code (4 : Nat) (Option.some Jvm.ClassFile.FieldType.int)) ∈ gw := gw_t3 181 rfl rfl
theorem q_662 : (Jvm.Cond.methodLink "CrownTwo" (228 : Nat) ({ cls := "CrownTwo", name := "staysQuarrelled", desc := "(III)Z" } : Jvm.MethodName)) ∈ gw := gw_t3 182 rfl rfl
theorem q_664 : (Jvm.Cond.instanceMethod ({ cls := "CrownTwo", name := "staysQuarrelled", desc := "(III)Z" } : Jvm.MethodName)) ∈ gw := gw_t3 184 rfl rfl
theorem q_665 : (Jvm.Cond.code ({ cls := "CrownTwo", name := "staysQuarrelled", desc := "(III)Z" } : Jvm.MethodName) prog_1_method_41_code (5 : Nat) (Option.some Jvm.ClassFile.FieldType.boolean)) ∈ gw := gw_t3 185 rfl rfl
theorem q_666 : (Jvm.Cond.methodLink "CrownTwoLaw" (89 : Nat) ({ cls := "CrownTwo", name := "lasts", desc := "(II)I" } : Jvm.MethodName)) ∈ gw := gw_t3 186 rfl rfl
theorem q_667 : (Jvm.Cond.instanceMethod ({ cls := "CrownTwo", name := "lasts", desc := "(II)I" } : Jvm.MethodName)) ∈ gw := gw_t3 187 rfl rfl
theorem q_668 : (Jvm.Cond.selects "CrownTwo" ({ cls := "CrownTwo", name := "lasts", desc := "(II)I" } : Jvm.MethodName) ({ cls := "CrownTwo", name := "lasts", desc := "(II)I" } : Jvm.MethodName)) ∈ gw := gw_t3 188 rfl rfl
theorem q_669 : (Jvm.Cond.code ({ cls := "CrownTwo", name := "lasts", desc := "(II)I" } : Jvm.MethodName) prog_1_method_20_code (3 : Nat) (Option.some Jvm.ClassFile.FieldType.int)) ∈ gw := gw_t3 189 rfl rfl
theorem q_670 : (Jvm.Cond.methodLink "CrownTwo" (231 : Nat) ({ cls := "CrownTwo", name := "lastingOf", desc := "(II)I" } : Jvm.MethodName)) ∈ gw := gw_t3 190 rfl rfl
theorem q_672 : (Jvm.Cond.instanceMethod ({ cls := "CrownTwo", name := "lastingOf", desc := "(II)I" } : Jvm.MethodName)) ∈ gw := gw_t3 192 rfl rfl
theorem q_673 : (Jvm.Cond.code ({ cls := "CrownTwo", name := "lastingOf", desc := "(II)I" } : Jvm.MethodName) prog_1_method_42_code (4 : Nat) (Option.some Jvm.ClassFile.FieldType.int)) ∈ gw := gw_t3 193 rfl rfl
theorem q_674 : (Jvm.Cond.methodLink "CrownTwo" (313 : Nat) ({ cls := "CrownTwo$Court", name := "changeBy", desc := "(II)I" } : Jvm.MethodName)) ∈ gw := gw_t3 194 rfl rfl
theorem q_675 : (Jvm.Cond.methodLink "CrownTwoLaw" (93 : Nat) ({ cls := "CrownTwo", name := "pairs", desc := "(I)I" } : Jvm.MethodName)) ∈ gw := gw_t3 195 rfl rfl
theorem q_676 : (Jvm.Cond.instanceMethod ({ cls := "CrownTwo", name := "pairs", desc := "(I)I" } : Jvm.MethodName)) ∈ gw := gw_t3 196 rfl rfl
theorem q_677 : (Jvm.Cond.selects "CrownTwo" ({ cls := "CrownTwo", name := "pairs", desc := "(I)I" } : Jvm.MethodName) ({ cls := "CrownTwo", name := "pairs", desc := "(I)I" } : Jvm.MethodName)) ∈ gw := gw_t3 197 rfl rfl
theorem q_678 : (Jvm.Cond.code ({ cls := "CrownTwo", name := "pairs", desc := "(I)I" } : Jvm.MethodName) prog_1_method_21_code (2 : Nat) (Option.some Jvm.ClassFile.FieldType.int)) ∈ gw := gw_t3 198 rfl rfl
theorem q_679 : (Jvm.Cond.methodLink "CrownTwo" (235 : Nat) ({ cls := "CrownTwo", name := "bestPair", desc := "()I" } : Jvm.MethodName)) ∈ gw := gw_t3 199 rfl rfl
theorem q_681 : (Jvm.Cond.instanceMethod ({ cls := "CrownTwo", name := "bestPair", desc := "()I" } : Jvm.MethodName)) ∈ gw := gw_t3 201 rfl rfl
theorem q_682 : (Jvm.Cond.code ({ cls := "CrownTwo", name := "bestPair", desc := "()I" } : Jvm.MethodName) prog_1_method_43_code (6 : Nat) (Option.some Jvm.ClassFile.FieldType.int)) ∈ gw := gw_t3 202 rfl rfl
theorem q_683 : (Jvm.Cond.methodLink "CrownTwo" (238 : Nat) ({ cls := "CrownTwo", name := "stuckPairs", desc := "()I" } : Jvm.MethodName)) ∈ gw := gw_t3 203 rfl rfl
theorem q_685 : (Jvm.Cond.instanceMethod ({ cls := "CrownTwo", name := "stuckPairs", desc := "()I" } : Jvm.MethodName)) ∈ gw := gw_t3 205 rfl rfl
theorem q_686 : (Jvm.Cond.code ({ cls := "CrownTwo", name := "stuckPairs", desc := "()I" } : Jvm.MethodName) prog_1_method_44_code (4 : Nat) (Option.some Jvm.ClassFile.FieldType.int)) ∈ gw := gw_t3 206 rfl rfl
theorem q_687 : (Jvm.Cond.methodLink "CrownTwoLaw" (97 : Nat) ({ cls := "CrownTwo", name := "note", desc := "(IIIII)I" } : Jvm.MethodName)) ∈ gw := gw_t3 207 rfl rfl
theorem q_688 : (Jvm.Cond.instanceMethod ({ cls := "CrownTwo", name := "note", desc := "(IIIII)I" } : Jvm.MethodName)) ∈ gw := gw_t3 208 rfl rfl
theorem q_689 : (Jvm.Cond.selects "CrownTwo" ({ cls := "CrownTwo", name := "note", desc := "(IIIII)I" } : Jvm.MethodName) ({ cls := "CrownTwo", name := "note", desc := "(IIIII)I" } : Jvm.MethodName)) ∈ gw := gw_t3 209 rfl rfl
theorem q_690 : (Jvm.Cond.code ({ cls := "CrownTwo", name := "note", desc := "(IIIII)I" } : Jvm.MethodName) prog_1_method_22_code (6 : Nat) (Option.some Jvm.ClassFile.FieldType.int)) ∈ gw := gw_t3 210 rfl rfl
theorem q_691 : (Jvm.Cond.methodLink "CrownTwo" (248 : Nat) ({ cls := "CrownTwo$Note", name := "put", desc := "(IIIII)V" } : Jvm.MethodName)) ∈ gw := gw_t3 211 rfl rfl
theorem q_692 : (Jvm.Cond.methodLink "CrownTwoLaw" (102 : Nat) ({ cls := "CrownTwo", name := "forget", desc := "()I" } : Jvm.MethodName)) ∈ gw := gw_t3 212 rfl rfl
theorem q_693 : (Jvm.Cond.instanceMethod ({ cls := "CrownTwo", name := "forget", desc := "()I" } : Jvm.MethodName)) ∈ gw := gw_t3 213 rfl rfl
theorem q_694 : (Jvm.Cond.selects "CrownTwo" ({ cls := "CrownTwo", name := "forget", desc := "()I" } : Jvm.MethodName) ({ cls := "CrownTwo", name := "forget", desc := "()I" } : Jvm.MethodName)) ∈ gw := gw_t3 214 rfl rfl
theorem q_695 : (Jvm.Cond.code ({ cls := "CrownTwo", name := "forget", desc := "()I" } : Jvm.MethodName) prog_1_method_23_code (2 : Nat) (Option.some Jvm.ClassFile.FieldType.int)) ∈ gw := gw_t3 215 rfl rfl
theorem q_696 : (Jvm.Cond.methodLink "CrownTwoLaw" (106 : Nat) ({ cls := "CrownTwo", name := "is", desc := "(I)I" } : Jvm.MethodName)) ∈ gw := gw_t3 216 rfl rfl
theorem q_697 : (Jvm.Cond.instanceMethod ({ cls := "CrownTwo", name := "is", desc := "(I)I" } : Jvm.MethodName)) ∈ gw := gw_t3 217 rfl rfl
theorem q_698 : (Jvm.Cond.selects "CrownTwo" ({ cls := "CrownTwo", name := "is", desc := "(I)I" } : Jvm.MethodName) ({ cls := "CrownTwo", name := "is", desc := "(I)I" } : Jvm.MethodName)) ∈ gw := gw_t3 218 rfl rfl
theorem q_699 : (Jvm.Cond.code ({ cls := "CrownTwo", name := "is", desc := "(I)I" } : Jvm.MethodName) prog_1_method_24_code (2 : Nat) (Option.some Jvm.ClassFile.FieldType.int)) ∈ gw := gw_t3 219 rfl rfl
theorem q_700 : (Jvm.Cond.methodLink "CrownTwo" (254 : Nat) ({ cls := "CrownTwo", name := "kindsThatFit", desc := "(I)I" } : Jvm.MethodName)) ∈ gw := gw_t3 220 rfl rfl
theorem q_702 : (Jvm.Cond.instanceMethod ({ cls := "CrownTwo", name := "kindsThatFit", desc := "(I)I" } : Jvm.MethodName)) ∈ gw := gw_t3 222 rfl rfl
theorem q_703 : (Jvm.Cond.code ({ cls := "CrownTwo", name := "kindsThatFit", desc := "(I)I" } : Jvm.MethodName) prog_1_method_46_code (4 : Nat) (Option.some Jvm.ClassFile.FieldType.int)) ∈ gw := gw_t3 223 rfl rfl
theorem q_704 : (Jvm.Cond.methodLink "CrownTwo" (261 : Nat) ({ cls := "CrownTwo$Court", name := "fits", desc := "(II)Z" } : Jvm.MethodName)) ∈ gw := gw_t3 224 rfl rfl
theorem q_705 : (Jvm.Cond.instanceMethod ({ cls := "CrownTwo$Court", name := "fits", desc := "(II)Z" } : Jvm.MethodName)) ∈ gw := gw_t3 225 rfl rfl
theorem q_706 : (Jvm.Cond.selects "CrownTwo$Court" ({ cls := "CrownTwo$Court", name := "fits", desc := "(II)Z" } : Jvm.MethodName) ({ cls := "CrownTwo$Court", name := "fits", desc := "(II)Z" } : Jvm.MethodName)) ∈ gw := gw_t3 226 rfl rfl
theorem q_707 : (Jvm.Cond.code ({ cls := "CrownTwo$Court", name := "fits", desc := "(II)Z" } : Jvm.MethodName) prog_2_method_19_code (6 : Nat) (Option.some Jvm.ClassFile.FieldType.boolean)) ∈ gw := gw_t3 227 rfl rfl
theorem q_708 : (Jvm.Cond.methodLink "CrownTwoLaw" (110 : Nat) ({ cls := "CrownTwo", name := "heart", desc := "(II)I" } : Jvm.MethodName)) ∈ gw := gw_t3 228 rfl rfl
theorem q_709 : (Jvm.Cond.instanceMethod ({ cls := "CrownTwo", name := "heart", desc := "(II)I" } : Jvm.MethodName)) ∈ gw := gw_t3 229 rfl rfl
theorem q_710 : (Jvm.Cond.selects "CrownTwo" ({ cls := "CrownTwo", name := "heart", desc := "(II)I" } : Jvm.MethodName) ({ cls := "CrownTwo", name := "heart", desc := "(II)I" } : Jvm.MethodName)) ∈ gw := gw_t3 230 rfl rfl
theorem q_711 : (Jvm.Cond.code ({ cls := "CrownTwo", name := "heart", desc := "(II)I" } : Jvm.MethodName) prog_1_method_25_code (8 : Nat) (Option.some Jvm.ClassFile.FieldType.int)) ∈ gw := gw_t3 231 rfl rfl
theorem q_712 : (Jvm.Cond.methodLink "CrownTwo" (257 : Nat) ({ cls := "CrownTwo$Heir", name := "feel", desc := "(II)V" } : Jvm.MethodName)) ∈ gw := gw_t3 232 rfl rfl
theorem q_713 : (Jvm.Cond.methodLink "CrownTwoLaw" (114 : Nat) ({ cls := "CrownTwo", name := "next", desc := "(I)I" } : Jvm.MethodName)) ∈ gw := gw_t3 233 rfl rfl
theorem q_714 : (Jvm.Cond.instanceMethod ({ cls := "CrownTwo", name := "next", desc := "(I)I" } : Jvm.MethodName)) ∈ gw := gw_t3 234 rfl rfl
theorem q_715 : (Jvm.Cond.selects "CrownTwo" ({ cls := "CrownTwo", name := "next", desc := "(I)I" } : Jvm.MethodName) ({ cls := "CrownTwo", name := "next", desc := "(I)I" } : Jvm.MethodName)) ∈ gw := gw_t3 235 rfl rfl
theorem q_716 : (Jvm.Cond.code ({ cls := "CrownTwo", name := "next", desc := "(I)I" } : Jvm.MethodName) prog_1_method_26_code (9 : Nat) (Option.some Jvm.ClassFile.FieldType.int)) ∈ gw := gw_t3 236 rfl rfl
theorem q_717 : (Jvm.Cond.methodLink "CrownTwo" (264 : Nat) ({ cls := "java/lang/Integer", name := "bitCount", desc := "(I)I" } : Jvm.MethodName)) ∈ gw := gw_t3 237 rfl rfl
theorem q_718 : (Jvm.Cond.static ({ cls := "java/lang/Integer", name := "bitCount", desc := "(I)I" } : Jvm.MethodName)) ∈ gw := gw_t3 238 rfl rfl
theorem q_719 : (Jvm.Cond.code ({ cls := "java/lang/Integer", name := "bitCount", desc := "(I)I" } : Jvm.MethodName) prog_15_method_49_code (1 : Nat) (Option.some Jvm.ClassFile.FieldType.int)) ∈ gw := gw_t3 239 rfl rfl
theorem q_720 : (Jvm.Cond.constant "java/lang/Integer" (265 : Nat) (1431655765 : Int32)) ∈ gw := gw_t4 0 rfl rfl
theorem q_721 : (Jvm.Cond.constant "java/lang/Integer" (266 : Nat) (858993459 : Int32)) ∈ gw := gw_t4 1 rfl rfl
theorem q_722 : (Jvm.Cond.constant "java/lang/Integer" (267 : Nat) (252645135 : Int32)) ∈ gw := gw_t4 2 rfl rfl
theorem q_723 : (Jvm.Cond.methodLink "CrownTwo" (269 : Nat) ({ cls := "CrownTwo$Court", name := "kindsThatLift", desc := "(II)I" } : Jvm.MethodName)) ∈ gw := gw_t4 3 rfl rfl
theorem q_724 : (Jvm.Cond.instanceMethod ({ cls := "CrownTwo$Court", name := "kindsThatLift", desc := "(II)I" } : Jvm.MethodName)) ∈ gw := gw_t4 4 rfl rfl
theorem q_725 : (Jvm.Cond.selects "CrownTwo$Court" ({ cls := "CrownTwo$Court", name := "kindsThatLift", desc := "(II)I" } : Jvm.MethodName) ({ cls := "CrownTwo$Court", name := "kindsThatLift", desc := "(II)I" } : Jvm.MethodName)) ∈ gw := gw_t4 5 rfl rfl
theorem q_726 : (Jvm.Cond.code ({ cls := "CrownTwo$Court", name := "kindsThatLift", desc := "(II)I" } : Jvm.MethodName) prog_2_method_18_code (5 : Nat) (Option.some Jvm.ClassFile.FieldType.int)) ∈ gw := gw_t4 6 rfl rfl
theorem q_727 : (Jvm.Cond.methodLink "CrownTwo" (272 : Nat) ({ cls := "java/lang/Math", name := "max", desc := "(II)I" } : Jvm.MethodName)) ∈ gw := gw_t4 7 rfl rfl
theorem q_728 : (Jvm.Cond.methodLink "CrownTwoLaw" (118 : Nat) ({ cls := "CrownTwo", name := "spite", desc := "(I)I" } : Jvm.MethodName)) ∈ gw := gw_t4 8 rfl rfl
theorem q_729 : (Jvm.Cond.instanceMethod ({ cls := "CrownTwo", name := "spite", desc := "(I)I" } : Jvm.MethodName)) ∈ gw := gw_t4 9 rfl rfl
theorem q_730 : (Jvm.Cond.selects "CrownTwo" ({ cls := "CrownTwo", name := "spite", desc := "(I)I" } : Jvm.MethodName) ({ cls := "CrownTwo", name := "spite", desc := "(I)I" } : Jvm.MethodName)) ∈ gw := gw_t4 10 rfl rfl
theorem q_731 : (Jvm.Cond.code ({ cls := "CrownTwo", name := "spite", desc := "(I)I" } : Jvm.MethodName) prog_1_method_27_code (10 : Nat) (Option.some Jvm.ClassFile.FieldType.int)) ∈ gw := gw_t4 11 rfl rfl
theorem q_732 : (Jvm.Cond.methodLink "CrownTwo" (277 : Nat) ({ cls := "CrownTwo", name := "gain", desc := "(LCrownTwo$Heir;IZZ)I" } : Jvm.MethodName)) ∈ gw := gw_t4 12 rfl rfl
theorem q_733 : (Jvm.Cond.static ({ cls := "CrownTwo", name := "gain", desc := "(LCrownTwo$Heir;IZZ)I" } : Jvm.MethodName)) ∈ gw := gw_t4 13 rfl rfl
theorem q_734 : (Jvm.Cond.code ({ cls := "CrownTwo", name := "gain", desc := "(LCrownTwo$Heir;IZZ)I" } : Jvm.MethodName) prog_1_method_47_code (4 : Nat) (Option.some Jvm.ClassFile.FieldType.int)) ∈ gw := gw_t4 14 rfl rfl
theorem q_735 : (Jvm.Cond.methodLink "CrownTwo" (322 : Nat) ({ cls := "CrownTwo$Heir", name := "likesAlone", desc := "(I)Z" } : Jvm.MethodName)) ∈ gw := gw_t4 15 rfl rfl
theorem q_736 : (Jvm.Cond.methodLink "CrownTwo" (325 : Nat) ({ cls := "CrownTwo$Heir", name := "hatesAlone", desc := "(I)Z" } : Jvm.MethodName)) ∈ gw := gw_t4 16 rfl rfl
theorem q_737 : (Jvm.Cond.methodLink "CrownTwoLaw" (122 : Nat) ({ cls := "CrownTwo", name := "slips", desc := "(II)I" } : Jvm.MethodName)) ∈ gw := gw_t4 17 rfl rfl
theorem q_738 : (Jvm.Cond.instanceMethod ({ cls := "CrownTwo", name := "slips", desc := "(II)I" } : Jvm.MethodName)) ∈ gw := gw_t4 18 rfl rfl
theorem q_739 : (Jvm.Cond.selects "CrownTwo" ({ cls := "CrownTwo", name := "slips", desc := "(II)I" } : Jvm.MethodName) ({ cls := "CrownTwo", name := "slips", desc := "(II)I" } : Jvm.MethodName)) ∈ gw := gw_t4 19 rfl rfl
theorem q_740 : (Jvm.Cond.code ({ cls := "CrownTwo", name := "slips", desc := "(II)I" } : Jvm.MethodName) prog_1_method_28_code (6 : Nat) (Option.some Jvm.ClassFile.FieldType.int)) ∈ gw := gw_t4 20 rfl rfl
theorem q_741 : (Jvm.Cond.methodLink "CrownTwo" (281 : Nat) ({ cls := "CrownTwo", name := "setFraction", desc := "(II)V" } : Jvm.MethodName)) ∈ gw := gw_t4 21 rfl rfl
theorem q_743 : (Jvm.Cond.instanceMethod ({ cls := "CrownTwo", name := "setFraction", desc := "(II)V" } : Jvm.MethodName)) ∈ gw := gw_t4 23 rfl rfl
theorem q_744 : (Jvm.Cond.code ({ cls := "CrownTwo", name := "setFraction", desc := "(II)V" } : Jvm.MethodName) prog_1_method_48_code (7 : Nat) (Option.none : Option Jvm.ClassFile.FieldType)) ∈ gw := gw_t4 24 rfl rfl
theorem q_745 : (Jvm.Cond.methodLink "CrownTwoLaw" (126 : Nat) ({ cls := "CrownTwo", name := "reigns", desc := "(II)I" } : Jvm.MethodName)) ∈ gw := gw_t4 25 rfl rfl
theorem q_746 : (Jvm.Cond.instanceMethod ({ cls := "CrownTwo", name := "reigns", desc := "(II)I" } : Jvm.MethodName)) ∈ gw := gw_t4 26 rfl rfl
theorem q_747 : (Jvm.Cond.selects "CrownTwo" ({ cls := "CrownTwo", name := "reigns", desc := "(II)I" } : Jvm.MethodName) ({ cls := "CrownTwo", name := "reigns", desc := "(II)I" } : Jvm.MethodName)) ∈ gw := gw_t4 27 rfl rfl
theorem q_748 : (Jvm.Cond.code ({ cls := "CrownTwo", name := "reigns", desc := "(II)I" } : Jvm.MethodName) prog_1_method_29_code (7 : Nat) (Option.some Jvm.ClassFile.FieldType.int)) ∈ gw := gw_t4 28 rfl rfl
theorem q_749 : (Jvm.Cond.constant "CrownTwo" (284 : Nat) (999999 : Int32)) ∈ gw := gw_t4 29 rfl rfl
theorem q_750 : (Jvm.Cond.constantLong "CrownTwo" (285 : Nat) (1103515245 : Int64)) ∈ gw := gw_t4 30 rfl rfl
theorem q_751 : (Jvm.Cond.constantLong "CrownTwo" (287 : Nat) (12345 : Int64)) ∈ gw := gw_t4 31 rfl rfl
theorem q_752 : (Jvm.Cond.constantLong "CrownTwo" (289 : Nat) (2147483648 : Int64)) ∈ gw := gw_t4 32 rfl rfl
theorem q_753 : (Jvm.Cond.constantLong "CrownTwo" (291 : Nat) (65536 : Int64)) ∈ gw := gw_t4 33 rfl rfl
theorem q_754 : (Jvm.Cond.constantLong "CrownTwo" (293 : Nat) (8 : Int64)) ∈ gw := gw_t4 34 rfl rfl
theorem q_755 : (Jvm.Cond.methodLink "CrownTwoLaw" (130 : Nat) ({ cls := "CrownTwo", name := "part", desc := "(I)J" } : Jvm.MethodName)) ∈ gw := gw_t4 35 rfl rfl
theorem q_756 : (Jvm.Cond.instanceMethod ({ cls := "CrownTwo", name := "part", desc := "(I)J" } : Jvm.MethodName)) ∈ gw := gw_t4 36 rfl rfl
theorem q_757 : (Jvm.Cond.selects "CrownTwo" ({ cls := "CrownTwo", name := "part", desc := "(I)J" } : Jvm.MethodName) ({ cls := "CrownTwo", name := "part", desc := "(I)J" } : Jvm.MethodName)) ∈ gw := gw_t4 37 rfl rfl
theorem q_758 : (Jvm.Cond.code ({ cls := "CrownTwo", name := "part", desc := "(I)J" } : Jvm.MethodName) prog_1_method_30_code (2 : Nat) (Option.some Jvm.ClassFile.FieldType.long)) ∈ gw := gw_t4 38 rfl rfl
theorem q_759 : (Jvm.Cond.methodLink "CrownTwoLaw" (135 : Nat) ({ cls := "CrownTwo", name := "image", desc := "(I)I" } : Jvm.MethodName)) ∈ gw := gw_t4 39 rfl rfl
theorem q_760 : (Jvm.Cond.instanceMethod ({ cls := "CrownTwo", name := "image", desc := "(I)I" } : Jvm.MethodName)) ∈ gw := gw_t4 40 rfl rfl
theorem q_761 : (Jvm.Cond.selects "CrownTwo" ({ cls := "CrownTwo", name := "image", desc := "(I)I" } : Jvm.MethodName) ({ cls := "CrownTwo", name := "image", desc := "(I)I" } : Jvm.MethodName)) ∈ gw := gw_t4 41 rfl rfl
theorem q_762 : (Jvm.Cond.code ({ cls := "CrownTwo", name := "image", desc := "(I)I" } : Jvm.MethodName) prog_1_method_31_code (2 : Nat) (Option.some Jvm.ClassFile.FieldType.int)) ∈ gw := gw_t4 42 rfl rfl
theorem q_763 : (Jvm.Cond.methodLink "CrownTwoLaw" (139 : Nat) ({ cls := "CrownTwo", name := "from", desc := "(I)I" } : Jvm.MethodName)) ∈ gw := gw_t4 43 rfl rfl
theorem q_764 : (Jvm.Cond.instanceMethod ({ cls := "CrownTwo", name := "from", desc := "(I)I" } : Jvm.MethodName)) ∈ gw := gw_t4 44 rfl rfl
theorem q_765 : (Jvm.Cond.selects "CrownTwo" ({ cls := "CrownTwo", name := "from", desc := "(I)I" } : Jvm.MethodName) ({ cls := "CrownTwo", name := "from", desc := "(I)I" } : Jvm.MethodName)) ∈ gw := gw_t4 45 rfl rfl
theorem q_766 : (Jvm.Cond.code ({ cls := "CrownTwo", name := "from", desc := "(I)I" } : Jvm.MethodName) prog_1_method_32_code (2 : Nat) (Option.some Jvm.ClassFile.FieldType.int)) ∈ gw := gw_t4 46 rfl rfl
theorem q_767 : (Jvm.Cond.methodLink "CrownTwoLaw" (143 : Nat) ({ cls := "CrownTwo", name := "status", desc := "(I)I" } : Jvm.MethodName)) ∈ gw := gw_t4 47 rfl rfl
theorem q_768 : (Jvm.Cond.instanceMethod ({ cls := "CrownTwo", name := "status", desc := "(I)I" } : Jvm.MethodName)) ∈ gw := gw_t4 48 rfl rfl
theorem q_769 : (Jvm.Cond.selects "CrownTwo" ({ cls := "CrownTwo", name := "status", desc := "(I)I" } : Jvm.MethodName) ({ cls := "CrownTwo", name := "status", desc := "(I)I" } : Jvm.MethodName)) ∈ gw := gw_t4 49 rfl rfl
theorem q_770 : (Jvm.Cond.code ({ cls := "CrownTwo", name := "status", desc := "(I)I" } : Jvm.MethodName) prog_1_method_33_code (2 : Nat) (Option.some Jvm.ClassFile.FieldType.int)) ∈ gw := gw_t4 50 rfl rfl
theorem q_771 : (Jvm.Cond.methodLink "CrownTwoLaw" (147 : Nat) ({ cls := "CrownTwo", name := "count", desc := "(I)I" } : Jvm.MethodName)) ∈ gw := gw_t4 51 rfl rfl
theorem q_772 : (Jvm.Cond.instanceMethod ({ cls := "CrownTwo", name := "count", desc := "(I)I" } : Jvm.MethodName)) ∈ gw := gw_t4 52 rfl rfl
theorem q_773 : (Jvm.Cond.selects "CrownTwo" ({ cls := "CrownTwo", name := "count", desc := "(I)I" } : Jvm.MethodName) ({ cls := "CrownTwo", name := "count", desc := "(I)I" } : Jvm.MethodName)) ∈ gw := gw_t4 53 rfl rfl
theorem q_774 : (Jvm.Cond.code ({ cls := "CrownTwo", name := "count", desc := "(I)I" } : Jvm.MethodName) prog_1_method_34_code (2 : Nat) (Option.some Jvm.ClassFile.FieldType.int)) ∈ gw := gw_t4 54 rfl rfl
theorem q_775 : (Jvm.Cond.methodLink "CrownTwo" (298 : Nat) ({ cls := "CrownTwo", name := "howMany", desc := "(I)I" } : Jvm.MethodName)) ∈ gw := gw_t4 55 rfl rfl
theorem q_777 : (Jvm.Cond.instanceMethod ({ cls := "CrownTwo", name := "howMany", desc := "(I)I" } : Jvm.MethodName)) ∈ gw := gw_t4 57 rfl rfl
theorem q_778 : (Jvm.Cond.code ({ cls := "CrownTwo", name := "howMany", desc := "(I)I" } : Jvm.MethodName) prog_1_method_49_code (2 : Nat) (Option.some Jvm.ClassFile.FieldType.int)) ∈ gw := gw_t4 58 rfl rfl
theorem q_779 : (Jvm.Cond.methodLink "CrownTwoLaw" (151 : Nat) ({ cls := "CrownTwo", name := "digest", desc := "()J" } : Jvm.MethodName)) ∈ gw := gw_t4 59 rfl rfl
theorem q_780 : (Jvm.Cond.instanceMethod ({ cls := "CrownTwo", name := "digest", desc := "()J" } : Jvm.MethodName)) ∈ gw := gw_t4 60 rfl rfl
theorem q_781 : (Jvm.Cond.selects "CrownTwo" ({ cls := "CrownTwo", name := "digest", desc := "()J" } : Jvm.MethodName) ({ cls := "CrownTwo", name := "digest", desc := "()J" } : Jvm.MethodName)) ∈ gw := gw_t4 61 rfl rfl
theorem q_782 : (Jvm.Cond.code ({ cls := "CrownTwo", name := "digest", desc := "()J" } : Jvm.MethodName) prog_1_method_35_code (4 : Nat) (Option.some Jvm.ClassFile.FieldType.long)) ∈ gw := gw_t4 62 rfl rfl
theorem q_783 : (Jvm.Cond.constantLong "CrownTwo" (301 : Nat) (1249 : Int64)) ∈ gw := gw_t4 63 rfl rfl
theorem q_784 : (Jvm.Cond.constantLong "CrownTwo" (303 : Nat) (31 : Int64)) ∈ gw := gw_t4 64 rfl rfl
theorem q_785 : (Jvm.Cond.methodLink "CrownTwo" (305 : Nat) ({ cls := "CrownTwo$Heir", name := "addTo", desc := "(J)J" } : Jvm.MethodName)) ∈ gw := gw_t4 65 rfl rfl
theorem q_786 : (Jvm.Cond.instanceMethod ({ cls := "CrownTwo$Heir", name := "addTo", desc := "(J)J" } : Jvm.MethodName)) ∈ gw := gw_t4 66 rfl rfl
theorem q_787 : (Jvm.Cond.selects "CrownTwo$Heir" ({ cls := "CrownTwo$Heir", name := "addTo", desc := "(J)J" } : Jvm.MethodName) ({ cls := "CrownTwo$Heir", name := "addTo", desc := "(J)J" } : Jvm.MethodName)) ∈ gw := gw_t4 67 rfl rfl
theorem q_788 : (Jvm.Cond.code ({ cls := "CrownTwo$Heir", name := "addTo", desc := "(J)J" } : Jvm.MethodName) prog_5_method_7_code (5 : Nat) (Option.some Jvm.ClassFile.FieldType.long)) ∈ gw := gw_t4 68 rfl rfl
theorem q_789 : (Jvm.Cond.constantLong "CrownTwo$Heir" (26 : Nat) (31 : Int64)) ∈ gw := gw_t4 69 rfl rfl
theorem q_790 : (Jvm.Cond.methodLink "CrownTwo" (309 : Nat) ({ cls := "CrownTwo$Note", name := "addTo", desc := "(J)J" } : Jvm.MethodName)) ∈ gw := gw_t4 70 rfl rfl
theorem q_791 : (Jvm.Cond.instanceMethod ({ cls := "CrownTwo$Note", name := "addTo", desc := "(J)J" } : Jvm.MethodName)) ∈ gw := gw_t4 71 rfl rfl
theorem q_792 : (Jvm.Cond.selects "CrownTwo$Note" ({ cls := "CrownTwo$Note", name := "addTo", desc := "(J)J" } : Jvm.MethodName) ({ cls := "CrownTwo$Note", name := "addTo", desc := "(J)J" } : Jvm.MethodName)) ∈ gw := gw_t4 72 rfl rfl
theorem q_793 : (Jvm.Cond.code ({ cls := "CrownTwo$Note", name := "addTo", desc := "(J)J" } : Jvm.MethodName) prog_8_method_4_code (5 : Nat) (Option.some Jvm.ClassFile.FieldType.long)) ∈ gw := gw_t4 73 rfl rfl
theorem q_794 : (Jvm.Cond.constantLong "CrownTwo$Note" (29 : Nat) (31 : Int64)) ∈ gw := gw_t4 74 rfl rfl
theorem q_795 : (Jvm.Cond.classLink "CrownTwoLaw" (10 : Nat) "CrownTwoModel") ∈ gw := gw_t4 75 rfl rfl
theorem q_796 : (Jvm.Cond.instantiable "CrownTwoModel" (36 : Nat)) ∈ gw := gw_t4 76 rfl rfl
theorem q_797 : (Jvm.Cond.methodLink "CrownTwoLaw" (12 : Nat) ({ cls := "CrownTwoModel", name := "<init>", desc := "()V" } : Jvm.MethodName)) ∈ gw := gw_t4 77 rfl rfl
theorem q_798 : (Jvm.Cond.instanceMethod ({ cls := "CrownTwoModel", name := "<init>", desc := "()V" } : Jvm.MethodName)) ∈ gw := gw_t4 78 rfl rfl
theorem q_799 : (Jvm.Cond.code ({ cls := "CrownTwoModel", name := "<init>", desc := "()V" } : Jvm.MethodName) prog_14_method_9_code (1 : Nat) (Option.none : Option Jvm.ClassFile.FieldType)) ∈ gw := gw_t4 79 rfl rfl
theorem q_800 : (Jvm.Cond.methodLink "CrownTwoModel" (7 : Nat) ({ cls := "java/lang/Object", name := "<init>", desc := "()V" } : Jvm.MethodName)) ∈ gw := gw_t4 80 rfl rfl
theorem q_801 : (Jvm.Cond.methodLink "CrownTwoModel" (78 : Nat) ({ cls := "CrownTwoModel", name := "begin", desc := "(I)V" } : Jvm.MethodName)) ∈ gw := gw_t4 81 rfl rfl
theorem q_803 : (Jvm.Cond.instanceMethod ({ cls := "CrownTwoModel", name := "begin", desc := "(I)V" } : Jvm.MethodName)) ∈ gw := gw_t4 83 rfl rfl
theorem q_804 : (Jvm.Cond.code ({ cls := "CrownTwoModel", name := "begin", desc := "(I)V" } : Jvm.MethodName) prog_14_method_10_code (2 : Nat) (Option.none : Option Jvm.ClassFile.FieldType)) ∈ gw := gw_t4 84 rfl rfl
theorem q_805 : (Jvm.Cond.fieldLink "CrownTwoModel" (1 : Nat) "CrownTwoModel" "refused" "[I") ∈ gw := gw_t4 85 rfl rfl
theorem q_806 : (Jvm.Cond.fieldLink "CrownTwoModel" (82 : Nat) "CrownTwoModel" "many" "I") ∈ gw := gw_t4 86 rfl rfl
theorem q_807 : (Jvm.Cond.fieldLink "CrownTwoModel" (13 : Nat) "CrownTwoModel" "warmth" "I") ∈ gw := gw_t4 87 rfl rfl
theorem q_808 : (Jvm.Cond.fieldLink "CrownTwoModel" (85 : Nat) "CrownTwoModel" "now" "I") ∈ gw := gw_t4 88 rfl rfl
theorem q_809 : (Jvm.Cond.fieldLink "CrownTwoModel" (88 : Nat) "CrownTwoModel" "done" "I") ∈ gw := gw_t4 89 rfl rfl
theorem q_810 : (Jvm.Cond.fieldLink "CrownTwoModel" (17 : Nat) "CrownTwoModel" "one" "I") ∈ gw := gw_t4 90 rfl rfl
theorem q_811 : (Jvm.Cond.fieldLink "CrownTwoModel" (20 : Nat) "CrownTwoModel" "other" "I") ∈ gw := gw_t4 91 rfl rfl
theorem q_812 : (Jvm.Cond.fieldLink "CrownTwoModel" (91 : Nat) "CrownTwoModel" "noteMany" "I") ∈ gw := gw_t4 92 rfl rfl
theorem q_813 : (Jvm.Cond.fieldLink "CrownTwoModel" (23 : Nat) "CrownTwoModel" "kinds" "[I") ∈ gw := gw_t4 93 rfl rfl
theorem q_814 : (Jvm.Cond.fieldLink "CrownTwoModel" (26 : Nat) "CrownTwoModel" "likes" "[I") ∈ gw := gw_t4 94 rfl rfl
theorem q_815 : (Jvm.Cond.fieldLink "CrownTwoModel" (29 : Nat) "CrownTwoModel" "hates" "[I") ∈ gw := gw_t4 95 rfl rfl
theorem q_816 : (Jvm.Cond.fieldLink "CrownTwoModel" (32 : Nat) "CrownTwoModel" "tempers" "[I") ∈ gw := gw_t4 96 rfl rfl
theorem q_817 : (Jvm.Cond.fieldLink "CrownTwoModel" (35 : Nat) "CrownTwoModel" "noteHeir" "[I") ∈ gw := gw_t4 97 rfl rfl
theorem q_818 : (Jvm.Cond.fieldLink "CrownTwoModel" (38 : Nat) "CrownTwoModel" "noteAct" "[I") ∈ gw := gw_t4 98 rfl rfl
theorem q_819 : (Jvm.Cond.fieldLink "CrownTwoModel" (41 : Nat) "CrownTwoModel" "noteWarmth" "[I") ∈ gw := gw_t4 99 rfl rfl
theorem q_820 : (Jvm.Cond.fieldLink "CrownTwoModel" (44 : Nat) "CrownTwoModel" "noteDay" "[I") ∈ gw := gw_t4 100 rfl rfl
theorem q_821 : (Jvm.Cond.fieldLink "CrownTwoModel" (47 : Nat) "CrownTwoModel" "noteLifted" "[I") ∈ gw := gw_t4 101 rfl rfl
theorem q_822 : (Jvm.Cond.fieldLink "CrownTwoModel" (50 : Nat) "CrownTwoModel" "text" "[I") ∈ gw := gw_t4 102 rfl rfl
theorem q_823 : (Jvm.Cond.fieldLink "CrownTwoModel" (112 : Nat) "CrownTwoModel" "typed" "I") ∈ gw := gw_t4 103 rfl rfl
theorem q_824 : (Jvm.Cond.fieldLink "CrownTwoModel" (115 : Nat) "CrownTwoModel" "readAt" "I") ∈ gw := gw_t4 104 rfl rfl
theorem q_825 : (Jvm.Cond.fieldLink "CrownTwoModel" (174 : Nat) "CrownTwoModel" "readWarmth" "I") ∈ gw := gw_t4 105 rfl rfl
theorem q_826 : (Jvm.Cond.fieldLink "CrownTwoModel" (149 : Nat) "CrownTwoModel" "readMany" "I") ∈ gw := gw_t4 106 rfl rfl
theorem q_827 : (Jvm.Cond.fieldLink "CrownTwoModel" (156 : Nat) "CrownTwoModel" "readOne" "I") ∈ gw := gw_t4 107 rfl rfl
theorem q_828 : (Jvm.Cond.fieldLink "CrownTwoModel" (159 : Nat) "CrownTwoModel" "readOther" "I") ∈ gw := gw_t4 108 rfl rfl
theorem q_829 : (Jvm.Cond.fieldLink "CrownTwoModel" (53 : Nat) "CrownTwoModel" "readHeirs" "[I") ∈ gw := gw_t4 109 rfl rfl
theorem q_830 : (Jvm.Cond.fieldLink "CrownTwoModel" (142 : Nat) "CrownTwoModel" "readNumber" "I") ∈ gw := gw_t4 110 rfl rfl
theorem q_831 : (Jvm.Cond.fieldLink "CrownTwoModel" (56 : Nat) "CrownTwoModel" "ahead" "[I") ∈ gw := gw_t4 111 rfl rfl
theorem q_832 : (Jvm.Cond.fieldLink "CrownTwoModel" (94 : Nat) "CrownTwoModel" "undoMany" "I") ∈ gw := gw_t4 112 rfl rfl
theorem q_833 : (Jvm.Cond.fieldLink "CrownTwoModel" (59 : Nat) "CrownTwoModel" "aside" "[I") ∈ gw := gw_t4 113 rfl rfl
theorem q_834 : (Jvm.Cond.fieldLink "CrownTwoModel" (62 : Nat) "CrownTwoModel" "line" "[I") ∈ gw := gw_t4 114 rfl rfl
theorem q_835 : (Jvm.Cond.fieldLink "CrownTwoModel" (65 : Nat) "CrownTwoModel" "bestLine" "[I") ∈ gw := gw_t4 115 rfl rfl
theorem q_836 : (Jvm.Cond.fieldLink "CrownTwoModel" (280 : Nat) "CrownTwoModel" "above" "J") ∈ gw := gw_t4 116 rfl rfl
theorem q_837 : (Jvm.Cond.fieldLink "CrownTwoModel" (68 : Nat) "CrownTwoModel" "below" "J") ∈ gw := gw_t4 117 rfl rfl
theorem q_838 : (Jvm.Cond.fieldLink "CrownTwoModel" (72 : Nat) "CrownTwoModel" "images" "[I") ∈ gw := gw_t4 118 rfl rfl
theorem q_839 : (Jvm.Cond.fieldLink "CrownTwoModel" (75 : Nat) "CrownTwoModel" "isKept" "[I") ∈ gw := gw_t4 119 rfl rfl
theorem q_840 : (Jvm.Cond.fieldLink "CrownTwoModel" (305 : Nat) "CrownTwoModel" "h0" "J") ∈ gw := gw_t4 120 rfl rfl
theorem q_841 : (Jvm.Cond.laysFinal "CrownTwoModel" "CrownTwoModel" "refused" "[I") ∈ gw := gw_t4 121 rfl rfl
theorem q_843 : (Jvm.Cond.lays "CrownTwoModel" "CrownTwoModel" "many" "I") ∈ gw := gw_t4 123 rfl rfl
theorem q_845 : (Jvm.Cond.lays "CrownTwoModel" "CrownTwoModel" "warmth" "I") ∈ gw := gw_t4 125 rfl rfl
theorem q_847 : (Jvm.Cond.lays "CrownTwoModel" "CrownTwoModel" "now" "I") ∈ gw := gw_t4 127 rfl rfl
theorem q_849 : (Jvm.Cond.lays "CrownTwoModel" "CrownTwoModel" "done" "I") ∈ gw := gw_t4 129 rfl rfl
theorem q_851 : (Jvm.Cond.lays "CrownTwoModel" "CrownTwoModel" "one" "I") ∈ gw := gw_t4 131 rfl rfl
theorem q_853 : (Jvm.Cond.lays "CrownTwoModel" "CrownTwoModel" "other" "I") ∈ gw := gw_t4 133 rfl rfl
theorem q_855 : (Jvm.Cond.lays "CrownTwoModel" "CrownTwoModel" "noteMany" "I") ∈ gw := gw_t4 135 rfl rfl
theorem q_857 : (Jvm.Cond.laysFinal "CrownTwoModel" "CrownTwoModel" "kinds" "[I") ∈ gw := gw_t4 137 rfl rfl
theorem q_859 : (Jvm.Cond.laysFinal "CrownTwoModel" "CrownTwoModel" "likes" "[I") ∈ gw := gw_t4 139 rfl rfl
theorem q_861 : (Jvm.Cond.laysFinal "CrownTwoModel" "CrownTwoModel" "hates" "[I") ∈ gw := gw_t4 141 rfl rfl
theorem q_863 : (Jvm.Cond.laysFinal "CrownTwoModel" "CrownTwoModel" "tempers" "[I") ∈ gw := gw_t4 143 rfl rfl
theorem q_865 : (Jvm.Cond.laysFinal "CrownTwoModel" "CrownTwoModel" "noteHeir" "[I") ∈ gw := gw_t4 145 rfl rfl
theorem q_867 : (Jvm.Cond.laysFinal "CrownTwoModel" "CrownTwoModel" "noteAct" "[I") ∈ gw := gw_t4 147 rfl rfl
theorem q_869 : (Jvm.Cond.laysFinal "CrownTwoModel" "CrownTwoModel" "noteWarmth" "[I") ∈ gw := gw_t4 149 rfl rfl
theorem q_871 : (Jvm.Cond.laysFinal "CrownTwoModel" "CrownTwoModel" "noteDay" "[I") ∈ gw := gw_t4 151 rfl rfl
theorem q_873 : (Jvm.Cond.laysFinal "CrownTwoModel" "CrownTwoModel" "noteLifted" "[I") ∈ gw := gw_t4 153 rfl rfl
theorem q_875 : (Jvm.Cond.laysFinal "CrownTwoModel" "CrownTwoModel" "text" "[I") ∈ gw := gw_t4 155 rfl rfl
theorem q_877 : (Jvm.Cond.lays "CrownTwoModel" "CrownTwoModel" "typed" "I") ∈ gw := gw_t4 157 rfl rfl
theorem q_879 : (Jvm.Cond.lays "CrownTwoModel" "CrownTwoModel" "readAt" "I") ∈ gw := gw_t4 159 rfl rfl
theorem q_881 : (Jvm.Cond.lays "CrownTwoModel" "CrownTwoModel" "readWarmth" "I") ∈ gw := gw_t4 161 rfl rfl
theorem q_883 : (Jvm.Cond.lays "CrownTwoModel" "CrownTwoModel" "readMany" "I") ∈ gw := gw_t4 163 rfl rfl
theorem q_885 : (Jvm.Cond.lays "CrownTwoModel" "CrownTwoModel" "readOne" "I") ∈ gw := gw_t4 165 rfl rfl
theorem q_887 : (Jvm.Cond.lays "CrownTwoModel" "CrownTwoModel" "readOther" "I") ∈ gw := gw_t4 167 rfl rfl
theorem q_889 : (Jvm.Cond.laysFinal "CrownTwoModel" "CrownTwoModel" "readHeirs" "[I") ∈ gw := gw_t4 169 rfl rfl
theorem q_891 : (Jvm.Cond.lays "CrownTwoModel" "CrownTwoModel" "readNumber" "I") ∈ gw := gw_t4 171 rfl rfl
theorem q_893 : (Jvm.Cond.laysFinal "CrownTwoModel" "CrownTwoModel" "ahead" "[I") ∈ gw := gw_t4 173 rfl rfl
theorem q_895 : (Jvm.Cond.lays "CrownTwoModel" "CrownTwoModel" "undoMany" "I") ∈ gw := gw_t4 175 rfl rfl
theorem q_897 : (Jvm.Cond.laysFinal "CrownTwoModel" "CrownTwoModel" "aside" "[I") ∈ gw := gw_t4 177 rfl rfl
theorem q_899 : (Jvm.Cond.laysFinal "CrownTwoModel" "CrownTwoModel" "line" "[I") ∈ gw := gw_t4 179 rfl rfl
theorem q_901 : (Jvm.Cond.laysFinal "CrownTwoModel" "CrownTwoModel" "bestLine" "[I") ∈ gw := gw_t4 181 rfl rfl
theorem q_903 : (Jvm.Cond.lays "CrownTwoModel" "CrownTwoModel" "above" "J") ∈ gw := gw_t4 183 rfl rfl
theorem q_905 : (Jvm.Cond.lays "CrownTwoModel" "CrownTwoModel" "below" "J") ∈ gw := gw_t4 185 rfl rfl
theorem q_907 : (Jvm.Cond.laysFinal "CrownTwoModel" "CrownTwoModel" "images" "[I") ∈ gw := gw_t4 187 rfl rfl
theorem q_909 : (Jvm.Cond.laysFinal "CrownTwoModel" "CrownTwoModel" "isKept" "[I") ∈ gw := gw_t4 189 rfl rfl
theorem q_911 : (Jvm.Cond.lays "CrownTwoModel" "CrownTwoModel" "h0" "J") ∈ gw := gw_t4 191 rfl rfl
theorem q_913 : (Jvm.Cond.superclass "CrownTwoModel" "java/lang/Object") ∈ gw := gw_t4 193 rfl rfl
theorem q_914 : (Jvm.Cond.methodLink "CrownTwoLaw" (17 : Nat) ({ cls := "CrownTwoModel", name := "court", desc := "(I)I" } : Jvm.MethodName)) ∈ gw := gw_t4 194 rfl rfl
theorem q_915 : (Jvm.Cond.instanceMethod ({ cls := "CrownTwoModel", name := "court", desc := "(I)I" } : Jvm.MethodName)) ∈ gw := gw_t4 195 rfl rfl
theorem q_916 : (Jvm.Cond.selects "CrownTwoModel" ({ cls := "CrownTwoModel", name := "court", desc := "(I)I" } : Jvm.MethodName) ({ cls := "CrownTwoModel", name := "court", desc := "(I)I" } : Jvm.MethodName)) ∈ gw := gw_t4 196 rfl rfl
theorem q_917 : (Jvm.Cond.code ({ cls := "CrownTwoModel", name := "court", desc := "(I)I" } : Jvm.MethodName) prog_14_method_14_code (3 : Nat) (Option.some Jvm.ClassFile.FieldType.int)) ∈ gw := gw_t4 197 rfl rfl
theorem q_918 : (Jvm.Cond.methodLink "CrownTwoModel" (97 : Nat) ({ cls := "CrownTwoModel", name := "in", desc := "(III)Z" } : Jvm.MethodName)) ∈ gw := gw_t4 198 rfl rfl
theorem q_919 : (Jvm.Cond.static ({ cls := "CrownTwoModel", name := "in", desc := "(III)Z" } : Jvm.MethodName)) ∈ gw := gw_t4 199 rfl rfl
theorem q_920 : (Jvm.Cond.code ({ cls := "CrownTwoModel", name := "in", desc := "(III)Z" } : Jvm.MethodName) prog_14_method_5_code (3 : Nat) (Option.some Jvm.ClassFile.FieldType.boolean)) ∈ gw := gw_t4 200 rfl rfl
theorem q_921 : (Jvm.Cond.methodLink "CrownTwoModel" (101 : Nat) ({ cls := "CrownTwoModel", name := "bad", desc := "()I" } : Jvm.MethodName)) ∈ gw := gw_t4 201 rfl rfl
theorem q_923 : (Jvm.Cond.instanceMethod ({ cls := "CrownTwoModel", name := "bad", desc := "()I" } : Jvm.MethodName)) ∈ gw := gw_t4 203 rfl rfl
theorem q_924 : (Jvm.Cond.code ({ cls := "CrownTwoModel", name := "bad", desc := "()I" } : Jvm.MethodName) prog_14_method_1_code (1 : Nat) (Option.some Jvm.ClassFile.FieldType.int)) ∈ gw := gw_t4 204 rfl rfl
theorem q_925 : (Jvm.Cond.methodLink "CrownTwoLaw" (22 : Nat) ({ cls := "CrownTwoModel", name := "heir", desc := "(IIII)I" } : Jvm.MethodName)) ∈ gw := gw_t4 205 rfl rfl
theorem q_926 : (Jvm.Cond.instanceMethod ({ cls := "CrownTwoModel", name := "heir", desc := "(IIII)I" } : Jvm.MethodName)) ∈ gw := gw_t4 206 rfl rfl
theorem q_927 : (Jvm.Cond.selects "CrownTwoModel" ({ cls := "CrownTwoModel", name := "heir", desc := "(IIII)I" } : Jvm.MethodName) ({ cls := "CrownTwoModel", name := "heir", desc := "(IIII)I" } : Jvm.MethodName)) ∈ gw := gw_t4 207 rfl rfl
theorem q_928 : (Jvm.Cond.code ({ cls := "CrownTwoModel", name := "heir", desc := "(IIII)I" } : Jvm.MethodName) prog_14_method_16_code (5 : Nat) (Option.some Jvm.ClassFile.FieldType.int)) ∈ gw := gw_t4 208 rfl rfl
theorem q_929 : (Jvm.Cond.methodLink "CrownTwoModel" (105 : Nat) ({ cls := "CrownTwoModel", name := "full", desc := "()I" } : Jvm.MethodName)) ∈ gw := gw_t4 209 rfl rfl
theorem q_931 : (Jvm.Cond.instanceMethod ({ cls := "CrownTwoModel", name := "full", desc := "()I" } : Jvm.MethodName)) ∈ gw := gw_t4 211 rfl rfl
theorem q_932 : (Jvm.Cond.code ({ cls := "CrownTwoModel", name := "full", desc := "()I" } : Jvm.MethodName) prog_14_method_4_code (1 : Nat) (Option.some Jvm.ClassFile.FieldType.int)) ∈ gw := gw_t4 212 rfl rfl
theorem q_933 : (Jvm.Cond.methodLink "CrownTwoModel" (108 : Nat) ({ cls := "CrownTwoModel", name := "addHeir", desc := "(IIII)I" } : Jvm.MethodName)) ∈ gw := gw_t4 213 rfl rfl
theorem q_935 : (Jvm.Cond.instanceMethod ({ cls := "CrownTwoModel", name := "addHeir", desc := "(IIII)I" } : Jvm.MethodName)) ∈ gw := gw_t4 215 rfl rfl
theorem q_936 : (Jvm.Cond.code ({ cls := "CrownTwoModel", name := "addHeir", desc := "(IIII)I" } : Jvm.MethodName) prog_14_method_15_code (5 : Nat) (Option.some Jvm.ClassFile.FieldType.int)) ∈ gw := gw_t4 216 rfl rfl
theorem q_937 : (Jvm.Cond.methodLink "CrownTwoLaw" (26 : Nat) ({ cls := "CrownTwoModel", name := "type", desc := "(I)I" } : Jvm.MethodName)) ∈ gw := gw_t4 217 rfl rfl
theorem q_938 : (Jvm.Cond.instanceMethod ({ cls := "CrownTwoModel", name := "type", desc := "(I)I" } : Jvm.MethodName)) ∈ gw := gw_t4 218 rfl rfl
theorem q_939 : (Jvm.Cond.selects "CrownTwoModel" ({ cls := "CrownTwoModel", name := "type", desc := "(I)I" } : Jvm.MethodName) ({ cls := "CrownTwoModel", name := "type", desc := "(I)I" } : Jvm.MethodName)) ∈ gw := gw_t4 219 rfl rfl
theorem q_940 : (Jvm.Cond.code ({ cls := "CrownTwoModel", name := "type", desc := "(I)I" } : Jvm.MethodName) prog_14_method_17_code (2 : Nat) (Option.some Jvm.ClassFile.FieldType.int)) ∈ gw := gw_t4 220 rfl rfl
theorem q_941 : (Jvm.Cond.methodLink "CrownTwoLaw" (31 : Nat) ({ cls := "CrownTwoModel", name := "clear", desc := "()I" } : Jvm.MethodName)) ∈ gw := gw_t4 221 rfl rfl
theorem q_942 : (Jvm.Cond.instanceMethod ({ cls := "CrownTwoModel", name := "clear", desc := "()I" } : Jvm.MethodName)) ∈ gw := gw_t4 222 rfl rfl
theorem q_943 : (Jvm.Cond.selects "CrownTwoModel" ({ cls := "CrownTwoModel", name := "clear", desc := "()I" } : Jvm.MethodName) ({ cls := "CrownTwoModel", name := "clear", desc := "()I" } : Jvm.MethodName)) ∈ gw := gw_t4 223 rfl rfl
theorem q_944 : (Jvm.Cond.code ({ cls := "CrownTwoModel", name := "clear", desc := "()I" } : Jvm.MethodName) prog_14_method_18_code (2 : Nat) (Option.some Jvm.ClassFile.FieldType.int)) ∈ gw := gw_t4 224 rfl rfl
theorem q_945 : (Jvm.Cond.methodLink "CrownTwoLaw" (35 : Nat) ({ cls := "CrownTwoModel", name := "read", desc := "()I" } : Jvm.MethodName)) ∈ gw := gw_t4 225 rfl rfl
theorem q_946 : (Jvm.Cond.instanceMethod ({ cls := "CrownTwoModel", name := "read", desc := "()I" } : Jvm.MethodName)) ∈ gw := gw_t4 226 rfl rfl
theorem q_947 : (Jvm.Cond.selects "CrownTwoModel" ({ cls := "CrownTwoModel", name := "read", desc := "()I" } : Jvm.MethodName) ({ cls := "CrownTwoModel", name := "read", desc := "()I" } : Jvm.MethodName)) ∈ gw := gw_t4 227 rfl rfl
theorem q_948 : (Jvm.Cond.code ({ cls := "CrownTwoModel", name := "read", desc := "()I" } : Jvm.MethodName) prog_14_method_35_code (3 : Nat) (Option.some Jvm.ClassFile.FieldType.int)) ∈ gw := gw_t4 228 rfl rfl
theorem q_949 : (Jvm.Cond.methodLink "CrownTwoModel" (183 : Nat) ({ cls := "CrownTwoModel", name := "readsCourt", desc := "()I" } : Jvm.MethodName)) ∈ gw := gw_t4 229 rfl rfl
theorem q_951 : (Jvm.Cond.instanceMethod ({ cls := "CrownTwoModel", name := "readsCourt", desc := "()I" } : Jvm.MethodName)) ∈ gw := gw_t4 231 rfl rfl
theorem q_952 : (Jvm.Cond.code ({ cls := "CrownTwoModel", name := "readsCourt", desc := "()I" } : Jvm.MethodName) prog_14_method_34_code (2 : Nat) (Option.some Jvm.ClassFile.FieldType.int)) ∈ gw := gw_t4 232 rfl rfl
theorem q_953 : (Jvm.Cond.methodLink "CrownTwoModel" (177 : Nat) ({ cls := "CrownTwoModel", name := "readsFirst", desc := "()Z" } : Jvm.MethodName)) ∈ gw := gw_t4 233 rfl rfl
theorem q_955 : (Jvm.Cond.instanceMethod ({ cls := "CrownTwoModel", name := "readsFirst", desc := "()Z" } : Jvm.MethodName)) ∈ gw := gw_t4 235 rfl rfl
theorem q_956 : (Jvm.Cond.code ({ cls := "CrownTwoModel", name := "readsFirst", desc := "()Z" } : Jvm.MethodName) prog_14_method_33_code (1 : Nat) (Option.some Jvm.ClassFile.FieldType.boolean)) ∈ gw := gw_t4 236 rfl rfl
theorem q_957 : (Jvm.Cond.methodLink "CrownTwoModel" (136 : Nat) ({ cls := "CrownTwoModel", name := "skip", desc := "()V" } : Jvm.MethodName)) ∈ gw := gw_t4 237 rfl rfl
theorem q_959 : (Jvm.Cond.instanceMethod ({ cls := "CrownTwoModel", name := "skip", desc := "()V" } : Jvm.MethodName)) ∈ gw := gw_t4 239 rfl rfl
theorem q_960 : (Jvm.Cond.code ({ cls := "CrownTwoModel", name := "skip", desc := "()V" } : Jvm.MethodName) prog_14_method_20_code (1 : Nat) (Option.none : Option Jvm.ClassFile.FieldType)) ∈ gw := gw_t5 0 rfl rfl
theorem q_961 : (Jvm.Cond.methodLink "CrownTwoModel" (118 : Nat) ({ cls := "CrownTwoModel", name := "here", desc := "()I" } : Jvm.MethodName)) ∈ gw := gw_t5 1 rfl rfl
theorem q_963 : (Jvm.Cond.instanceMethod ({ cls := "CrownTwoModel", name := "here", desc := "()I" } : Jvm.MethodName)) ∈ gw := gw_t5 3 rfl rfl
theorem q_964 : (Jvm.Cond.code ({ cls := "CrownTwoModel", name := "here", desc := "()I" } : Jvm.MethodName) prog_14_method_19_code (1 : Nat) (Option.some Jvm.ClassFile.FieldType.int)) ∈ gw := gw_t5 4 rfl rfl
theorem q_965 : (Jvm.Cond.methodLink "CrownTwoModel" (162 : Nat) ({ cls := "CrownTwoModel", name := "wordHere", desc := "()I" } : Jvm.MethodName)) ∈ gw := gw_t5 5 rfl rfl
theorem q_967 : (Jvm.Cond.instanceMethod ({ cls := "CrownTwoModel", name := "wordHere", desc := "()I" } : Jvm.MethodName)) ∈ gw := gw_t5 7 rfl rfl
theorem q_968 : (Jvm.Cond.code ({ cls := "CrownTwoModel", name := "wordHere", desc := "()I" } : Jvm.MethodName) prog_14_method_26_code (2 : Nat) (Option.some Jvm.ClassFile.FieldType.int)) ∈ gw := gw_t5 8 rfl rfl
theorem q_969 : (Jvm.Cond.methodLink "CrownTwoModel" (125 : Nat) ({ cls := "CrownTwoModel", name := "wordSize", desc := "()I" } : Jvm.MethodName)) ∈ gw := gw_t5 9 rfl rfl
theorem q_971 : (Jvm.Cond.instanceMethod ({ cls := "CrownTwoModel", name := "wordSize", desc := "()I" } : Jvm.MethodName)) ∈ gw := gw_t5 11 rfl rfl
theorem q_972 : (Jvm.Cond.code ({ cls := "CrownTwoModel", name := "wordSize", desc := "()I" } : Jvm.MethodName) prog_14_method_23_code (2 : Nat) (Option.some Jvm.ClassFile.FieldType.int)) ∈ gw := gw_t5 12 rfl rfl
theorem q_973 : (Jvm.Cond.methodLink "CrownTwoModel" (121 : Nat) ({ cls := "CrownTwoModel", name := "isLetter", desc := "(I)Z" } : Jvm.MethodName)) ∈ gw := gw_t5 13 rfl rfl
theorem q_974 : (Jvm.Cond.static ({ cls := "CrownTwoModel", name := "isLetter", desc := "(I)Z" } : Jvm.MethodName)) ∈ gw := gw_t5 14 rfl rfl
theorem q_975 : (Jvm.Cond.code ({ cls := "CrownTwoModel", name := "isLetter", desc := "(I)Z" } : Jvm.MethodName) prog_14_method_21_code (1 : Nat) (Option.some Jvm.ClassFile.FieldType.boolean)) ∈ gw := gw_t5 15 rfl rfl
theorem q_976 : (Jvm.Cond.methodLink "CrownTwoModel" (128 : Nat) ({ cls := "CrownTwoModel", name := "letter", desc := "(I)I" } : Jvm.MethodName)) ∈ gw := gw_t5 16 rfl rfl
theorem q_978 : (Jvm.Cond.instanceMethod ({ cls := "CrownTwoModel", name := "letter", desc := "(I)I" } : Jvm.MethodName)) ∈ gw := gw_t5 18 rfl rfl
theorem q_979 : (Jvm.Cond.code ({ cls := "CrownTwoModel", name := "letter", desc := "(I)I" } : Jvm.MethodName) prog_14_method_24_code (2 : Nat) (Option.some Jvm.ClassFile.FieldType.int)) ∈ gw := gw_t5 19 rfl rfl
theorem q_980 : (Jvm.Cond.methodLink "CrownTwoModel" (132 : Nat) ({ cls := "CrownTwoModel", name := "spells", desc := "(IIII)Z" } : Jvm.MethodName)) ∈ gw := gw_t5 20 rfl rfl
theorem q_982 : (Jvm.Cond.instanceMethod ({ cls := "CrownTwoModel", name := "spells", desc := "(IIII)Z" } : Jvm.MethodName)) ∈ gw := gw_t5 22 rfl rfl
theorem q_983 : (Jvm.Cond.code ({ cls := "CrownTwoModel", name := "spells", desc := "(IIII)Z" } : Jvm.MethodName) prog_14_method_25_code (5 : Nat) (Option.some Jvm.ClassFile.FieldType.boolean)) ∈ gw := gw_t5 23 rfl rfl
theorem q_984 : (Jvm.Cond.methodLink "CrownTwoModel" (145 : Nat) ({ cls := "CrownTwoModel", name := "number", desc := "(II)Z" } : Jvm.MethodName)) ∈ gw := gw_t5 24 rfl rfl
theorem q_986 : (Jvm.Cond.instanceMethod ({ cls := "CrownTwoModel", name := "number", desc := "(II)Z" } : Jvm.MethodName)) ∈ gw := gw_t5 26 rfl rfl
theorem q_987 : (Jvm.Cond.code ({ cls := "CrownTwoModel", name := "number", desc := "(II)Z" } : Jvm.MethodName) prog_14_method_27_code (5 : Nat) (Option.some Jvm.ClassFile.FieldType.boolean)) ∈ gw := gw_t5 27 rfl rfl
theorem q_988 : (Jvm.Cond.methodLink "CrownTwoModel" (139 : Nat) ({ cls := "CrownTwoModel", name := "isFigure", desc := "(I)Z" } : Jvm.MethodName)) ∈ gw := gw_t5 28 rfl rfl
theorem q_989 : (Jvm.Cond.static ({ cls := "CrownTwoModel", name := "isFigure", desc := "(I)Z" } : Jvm.MethodName)) ∈ gw := gw_t5 29 rfl rfl
theorem q_990 : (Jvm.Cond.code ({ cls := "CrownTwoModel", name := "isFigure", desc := "(I)Z" } : Jvm.MethodName) prog_14_method_22_code (1 : Nat) (Option.some Jvm.ClassFile.FieldType.boolean)) ∈ gw := gw_t5 30 rfl rfl
theorem q_991 : (Jvm.Cond.methodLink "CrownTwoModel" (152 : Nat) ({ cls := "CrownTwoModel", name := "ends", desc := "()Z" } : Jvm.MethodName)) ∈ gw := gw_t5 31 rfl rfl
theorem q_993 : (Jvm.Cond.instanceMethod ({ cls := "CrownTwoModel", name := "ends", desc := "()Z" } : Jvm.MethodName)) ∈ gw := gw_t5 33 rfl rfl
theorem q_994 : (Jvm.Cond.code ({ cls := "CrownTwoModel", name := "ends", desc := "()Z" } : Jvm.MethodName) prog_14_method_28_code (1 : Nat) (Option.some Jvm.ClassFile.FieldType.boolean)) ∈ gw := gw_t5 34 rfl rfl
theorem q_995 : (Jvm.Cond.methodLink "CrownTwoModel" (180 : Nat) ({ cls := "CrownTwoModel", name := "readsItem", desc := "()Z" } : Jvm.MethodName)) ∈ gw := gw_t5 35 rfl rfl
theorem q_997 : (Jvm.Cond.instanceMethod ({ cls := "CrownTwoModel", name := "readsItem", desc := "()Z" } : Jvm.MethodName)) ∈ gw := gw_t5 37 rfl rfl
theorem q_998 : (Jvm.Cond.code ({ cls := "CrownTwoModel", name := "readsItem", desc := "()Z" } : Jvm.MethodName) prog_14_method_32_code (2 : Nat) (Option.some Jvm.ClassFile.FieldType.boolean)) ∈ gw := gw_t5 38 rfl rfl
theorem q_999 : (Jvm.Cond.methodLink "CrownTwoModel" (165 : Nat) ({ cls := "CrownTwoModel", name := "readsHeir", desc := "()Z" } : Jvm.MethodName)) ∈ gw := gw_t5 39 rfl rfl
theorem q_1001 : (Jvm.Cond.instanceMethod ({ cls := "CrownTwoModel", name := "readsHeir", desc := "()Z" } : Jvm.MethodName)) ∈ gw := gw_t5 41 rfl rfl
theorem q_1002 : (Jvm.Cond.code ({ cls := "CrownTwoModel", name := "readsHeir", desc := "()Z" } : Jvm.MethodName) prog_14_method_29_code (3 : Nat) (Option.some Jvm.ClassFile.FieldType.boolean)) ∈ gw := gw_t5 42 rfl rfl
theorem q_1003 : (Jvm.Cond.methodLink "CrownTwoModel" (168 : Nat) ({ cls := "CrownTwoModel", name := "readsPair", desc := "()Z" } : Jvm.MethodName)) ∈ gw := gw_t5 43 rfl rfl
theorem q_1005 : (Jvm.Cond.instanceMethod ({ cls := "CrownTwoModel", name := "readsPair", desc := "()Z" } : Jvm.MethodName)) ∈ gw := gw_t5 45 rfl rfl
theorem q_1006 : (Jvm.Cond.code ({ cls := "CrownTwoModel", name := "readsPair", desc := "()Z" } : Jvm.MethodName) prog_14_method_31_code (3 : Nat) (Option.some Jvm.ClassFile.FieldType.boolean)) ∈ gw := gw_t5 46 rfl rfl
theorem q_1007 : (Jvm.Cond.methodLink "CrownTwoModel" (171 : Nat) ({ cls := "CrownTwoModel", name := "readsActs", desc := "(I)Z" } : Jvm.MethodName)) ∈ gw := gw_t5 47 rfl rfl
theorem q_1009 : (Jvm.Cond.instanceMethod ({ cls := "CrownTwoModel", name := "readsActs", desc := "(I)Z" } : Jvm.MethodName)) ∈ gw := gw_t5 49 rfl rfl
theorem q_1010 : (Jvm.Cond.code ({ cls := "CrownTwoModel", name := "readsActs", desc := "(I)Z" } : Jvm.MethodName) prog_14_method_30_code (4 : Nat) (Option.some Jvm.ClassFile.FieldType.boolean)) ∈ gw := gw_t5 50 rfl rfl
theorem q_1011 : (Jvm.Cond.methodLink "CrownTwoLaw" (40 : Nat) ({ cls := "CrownTwoModel", name := "pair", desc := "(II)I" } : Jvm.MethodName)) ∈ gw := gw_t5 51 rfl rfl
theorem q_1012 : (Jvm.Cond.instanceMethod ({ cls := "CrownTwoModel", name := "pair", desc := "(II)I" } : Jvm.MethodName)) ∈ gw := gw_t5 52 rfl rfl
theorem q_1013 : (Jvm.Cond.selects "CrownTwoModel" ({ cls := "CrownTwoModel", name := "pair", desc := "(II)I" } : Jvm.MethodName) ({ cls := "CrownTwoModel", name := "pair", desc := "(II)I" } : Jvm.MethodName)) ∈ gw := gw_t5 53 rfl rfl
theorem q_1014 : (Jvm.Cond.code ({ cls := "CrownTwoModel", name := "pair", desc := "(II)I" } : Jvm.MethodName) prog_14_method_49_code (3 : Nat) (Option.some Jvm.ClassFile.FieldType.int)) ∈ gw := gw_t5 54 rfl rfl
theorem q_1015 : (Jvm.Cond.methodLink "CrownTwoModel" (221 : Nat) ({ cls := "CrownTwoModel", name := "isHeir", desc := "(I)Z" } : Jvm.MethodName)) ∈ gw := gw_t5 55 rfl rfl
theorem q_1017 : (Jvm.Cond.instanceMethod ({ cls := "CrownTwoModel", name := "isHeir", desc := "(I)Z" } : Jvm.MethodName)) ∈ gw := gw_t5 57 rfl rfl
theorem q_1018 : (Jvm.Cond.code ({ cls := "CrownTwoModel", name := "isHeir", desc := "(I)Z" } : Jvm.MethodName) prog_14_method_11_code (2 : Nat) (Option.some Jvm.ClassFile.FieldType.boolean)) ∈ gw := gw_t5 58 rfl rfl
theorem q_1019 : (Jvm.Cond.methodLink "CrownTwoModel" (224 : Nat) ({ cls := "CrownTwoModel", name := "notes", desc := "()V" } : Jvm.MethodName)) ∈ gw := gw_t5 59 rfl rfl
theorem q_1021 : (Jvm.Cond.instanceMethod ({ cls := "CrownTwoModel", name := "notes", desc := "()V" } : Jvm.MethodName)) ∈ gw := gw_t5 61 rfl rfl
theorem q_1022 : (Jvm.Cond.code ({ cls := "CrownTwoModel", name := "notes", desc := "()V" } : Jvm.MethodName) prog_14_method_46_code (2 : Nat) (Option.none : Option Jvm.ClassFile.FieldType)) ∈ gw := gw_t5 62 rfl rfl
theorem q_1023 : (Jvm.Cond.methodLink "CrownTwoModel" (214 : Nat) ({ cls := "CrownTwoModel", name := "lays", desc := "([II)V" } : Jvm.MethodName)) ∈ gw := gw_t5 63 rfl rfl
theorem q_1025 : (Jvm.Cond.instanceMethod ({ cls := "CrownTwoModel", name := "lays", desc := "([II)V" } : Jvm.MethodName)) ∈ gw := gw_t5 65 rfl rfl
theorem q_1026 : (Jvm.Cond.code ({ cls := "CrownTwoModel", name := "lays", desc := "([II)V" } : Jvm.MethodName) prog_14_method_44_code (3 : Nat) (Option.none : Option Jvm.ClassFile.FieldType)) ∈ gw := gw_t5 66 rfl rfl
theorem q_1027 : (Jvm.Cond.methodLink "CrownTwoLaw" (44 : Nat) ({ cls := "CrownTwoModel", name := "ask", desc := "(I)I" } : Jvm.MethodName)) ∈ gw := gw_t5 67 rfl rfl
theorem q_1028 : (Jvm.Cond.instanceMethod ({ cls := "CrownTwoModel", name := "ask", desc := "(I)I" } : Jvm.MethodName)) ∈ gw := gw_t5 68 rfl rfl
theorem q_1029 : (Jvm.Cond.selects "CrownTwoModel" ({ cls := "CrownTwoModel", name := "ask", desc := "(I)I" } : Jvm.MethodName) ({ cls := "CrownTwoModel", name := "ask", desc := "(I)I" } : Jvm.MethodName)) ∈ gw := gw_t5 69 rfl rfl
theorem q_1030 : (Jvm.Cond.code ({ cls := "CrownTwoModel", name := "ask", desc := "(I)I" } : Jvm.MethodName) prog_14_method_50_code (2 : Nat) (Option.some Jvm.ClassFile.FieldType.int)) ∈ gw := gw_t5 70 rfl rfl
theorem q_1031 : (Jvm.Cond.methodLink "CrownTwoModel" (227 : Nat) ({ cls := "CrownTwoModel", name := "isAct", desc := "(I)Z" } : Jvm.MethodName)) ∈ gw := gw_t5 71 rfl rfl
theorem q_1032 : (Jvm.Cond.static ({ cls := "CrownTwoModel", name := "isAct", desc := "(I)Z" } : Jvm.MethodName)) ∈ gw := gw_t5 72 rfl rfl
theorem q_1033 : (Jvm.Cond.code ({ cls := "CrownTwoModel", name := "isAct", desc := "(I)Z" } : Jvm.MethodName) prog_14_method_12_code (1 : Nat) (Option.some Jvm.ClassFile.FieldType.boolean)) ∈ gw := gw_t5 73 rfl rfl
theorem q_1034 : (Jvm.Cond.methodLink "CrownTwoModel" (196 : Nat) ({ cls := "CrownTwoModel", name := "isPair", desc := "()Z" } : Jvm.MethodName)) ∈ gw := gw_t5 74 rfl rfl
theorem q_1036 : (Jvm.Cond.instanceMethod ({ cls := "CrownTwoModel", name := "isPair", desc := "()Z" } : Jvm.MethodName)) ∈ gw := gw_t5 76 rfl rfl
theorem q_1037 : (Jvm.Cond.code ({ cls := "CrownTwoModel", name := "isPair", desc := "()Z" } : Jvm.MethodName) prog_14_method_13_code (1 : Nat) (Option.some Jvm.ClassFile.FieldType.boolean)) ∈ gw := gw_t5 77 rfl rfl
theorem q_1038 : (Jvm.Cond.methodLink "CrownTwoModel" (186 : Nat) ({ cls := "CrownTwoModel", name := "has", desc := "(II)Z" } : Jvm.MethodName)) ∈ gw := gw_t5 78 rfl rfl
theorem q_1039 : (Jvm.Cond.static ({ cls := "CrownTwoModel", name := "has", desc := "(II)Z" } : Jvm.MethodName)) ∈ gw := gw_t5 79 rfl rfl
theorem q_1040 : (Jvm.Cond.code ({ cls := "CrownTwoModel", name := "has", desc := "(II)Z" } : Jvm.MethodName) prog_14_method_6_code (2 : Nat) (Option.some Jvm.ClassFile.FieldType.boolean)) ∈ gw := gw_t5 80 rfl rfl
theorem q_1041 : (Jvm.Cond.methodLink "CrownTwoModel" (230 : Nat) ({ cls := "CrownTwoModel", name := "no", desc := "()I" } : Jvm.MethodName)) ∈ gw := gw_t5 81 rfl rfl
theorem q_1043 : (Jvm.Cond.instanceMethod ({ cls := "CrownTwoModel", name := "no", desc := "()I" } : Jvm.MethodName)) ∈ gw := gw_t5 83 rfl rfl
theorem q_1044 : (Jvm.Cond.code ({ cls := "CrownTwoModel", name := "no", desc := "()I" } : Jvm.MethodName) prog_14_method_3_code (1 : Nat) (Option.some Jvm.ClassFile.FieldType.int)) ∈ gw := gw_t5 84 rfl rfl
theorem q_1045 : (Jvm.Cond.methodLink "CrownTwoModel" (233 : Nat) ({ cls := "CrownTwoModel", name := "asks", desc := "(I)I" } : Jvm.MethodName)) ∈ gw := gw_t5 85 rfl rfl
theorem q_1047 : (Jvm.Cond.instanceMethod ({ cls := "CrownTwoModel", name := "asks", desc := "(I)I" } : Jvm.MethodName)) ∈ gw := gw_t5 87 rfl rfl
theorem q_1048 : (Jvm.Cond.code ({ cls := "CrownTwoModel", name := "asks", desc := "(I)I" } : Jvm.MethodName) prog_14_method_43_code (3 : Nat) (Option.some Jvm.ClassFile.FieldType.int)) ∈ gw := gw_t5 88 rfl rfl
theorem q_1049 : (Jvm.Cond.methodLink "CrownTwoModel" (211 : Nat) ({ cls := "CrownTwoModel", name := "lifting", desc := "(I)I" } : Jvm.MethodName)) ∈ gw := gw_t5 89 rfl rfl
theorem q_1051 : (Jvm.Cond.instanceMethod ({ cls := "CrownTwoModel", name := "lifting", desc := "(I)I" } : Jvm.MethodName)) ∈ gw := gw_t5 91 rfl rfl
theorem q_1052 : (Jvm.Cond.code ({ cls := "CrownTwoModel", name := "lifting", desc := "(I)I" } : Jvm.MethodName) prog_14_method_42_code (2 : Nat) (Option.some Jvm.ClassFile.FieldType.int)) ∈ gw := gw_t5 92 rfl rfl
theorem q_1053 : (Jvm.Cond.methodLink "CrownTwoModel" (208 : Nat) ({ cls := "CrownTwoModel", name := "lifts", desc := "(II)Z" } : Jvm.MethodName)) ∈ gw := gw_t5 93 rfl rfl
theorem q_1055 : (Jvm.Cond.instanceMethod ({ cls := "CrownTwoModel", name := "lifts", desc := "(II)Z" } : Jvm.MethodName)) ∈ gw := gw_t5 95 rfl rfl
theorem q_1056 : (Jvm.Cond.code ({ cls := "CrownTwoModel", name := "lifts", desc := "(II)Z" } : Jvm.MethodName) prog_14_method_38_code (3 : Nat) (Option.some Jvm.ClassFile.FieldType.boolean)) ∈ gw := gw_t5 96 rfl rfl
theorem q_1057 : (Jvm.Cond.methodLink "CrownTwoModel" (189 : Nat) ({ cls := "CrownTwoModel", name := "heartOf", desc := "(II)I" } : Jvm.MethodName)) ∈ gw := gw_t5 97 rfl rfl
theorem q_1059 : (Jvm.Cond.instanceMethod ({ cls := "CrownTwoModel", name := "heartOf", desc := "(II)I" } : Jvm.MethodName)) ∈ gw := gw_t5 99 rfl rfl
theorem q_1060 : (Jvm.Cond.code ({ cls := "CrownTwoModel", name := "heartOf", desc := "(II)I" } : Jvm.MethodName) prog_14_method_36_code (5 : Nat) (Option.some Jvm.ClassFile.FieldType.int)) ∈ gw := gw_t5 100 rfl rfl
theorem q_1061 : (Jvm.Cond.methodLink "CrownTwoModel" (193 : Nat) ({ cls := "CrownTwoModel", name := "liftsBy", desc := "(IIII)Z" } : Jvm.MethodName)) ∈ gw := gw_t5 101 rfl rfl
theorem q_1062 : (Jvm.Cond.static ({ cls := "CrownTwoModel", name := "liftsBy", desc := "(IIII)Z" } : Jvm.MethodName)) ∈ gw := gw_t5 102 rfl rfl
theorem q_1063 : (Jvm.Cond.code ({ cls := "CrownTwoModel", name := "liftsBy", desc := "(IIII)Z" } : Jvm.MethodName) prog_14_method_37_code (6 : Nat) (Option.some Jvm.ClassFile.FieldType.boolean)) ∈ gw := gw_t5 103 rfl rfl
theorem q_1064 : (Jvm.Cond.methodLink "CrownTwoModel" (205 : Nat) ({ cls := "CrownTwoModel", name := "kept", desc := "(I)I" } : Jvm.MethodName)) ∈ gw := gw_t5 104 rfl rfl
theorem q_1065 : (Jvm.Cond.static ({ cls := "CrownTwoModel", name := "kept", desc := "(I)I" } : Jvm.MethodName)) ∈ gw := gw_t5 105 rfl rfl
theorem q_1066 : (Jvm.Cond.code ({ cls := "CrownTwoModel", name := "kept", desc := "(I)I" } : Jvm.MethodName) prog_14_method_8_code (1 : Nat) (Option.some Jvm.ClassFile.FieldType.int)) ∈ gw := gw_t5 106 rfl rfl
theorem q_1067 : (Jvm.Cond.methodLink "CrownTwoLaw" (48 : Nat) ({ cls := "CrownTwoModel", name := "day", desc := "(I)I" } : Jvm.MethodName)) ∈ gw := gw_t5 107 rfl rfl
theorem q_1068 : (Jvm.Cond.instanceMethod ({ cls := "CrownTwoModel", name := "day", desc := "(I)I" } : Jvm.MethodName)) ∈ gw := gw_t5 108 rfl rfl
theorem q_1069 : (Jvm.Cond.selects "CrownTwoModel" ({ cls := "CrownTwoModel", name := "day", desc := "(I)I" } : Jvm.MethodName) ({ cls := "CrownTwoModel", name := "day", desc := "(I)I" } : Jvm.MethodName)) ∈ gw := gw_t5 109 rfl rfl
theorem q_1070 : (Jvm.Cond.code ({ cls := "CrownTwoModel", name := "day", desc := "(I)I" } : Jvm.MethodName) prog_14_method_51_code (3 : Nat) (Option.some Jvm.ClassFile.FieldType.int)) ∈ gw := gw_t5 110 rfl rfl
theorem q_1071 : (Jvm.Cond.methodLink "CrownTwoModel" (236 : Nat) ({ cls := "CrownTwoModel", name := "pass", desc := "()V" } : Jvm.MethodName)) ∈ gw := gw_t5 111 rfl rfl
theorem q_1073 : (Jvm.Cond.instanceMethod ({ cls := "CrownTwoModel", name := "pass", desc := "()V" } : Jvm.MethodName)) ∈ gw := gw_t5 113 rfl rfl
theorem q_1074 : (Jvm.Cond.code ({ cls := "CrownTwoModel", name := "pass", desc := "()V" } : Jvm.MethodName) prog_14_method_41_code (1 : Nat) (Option.none : Option Jvm.ClassFile.FieldType)) ∈ gw := gw_t5 114 rfl rfl
theorem q_1075 : (Jvm.Cond.methodLink "CrownTwoModel" (202 : Nat) ({ cls := "CrownTwoModel", name := "growth", desc := "()I" } : Jvm.MethodName)) ∈ gw := gw_t5 115 rfl rfl
theorem q_1077 : (Jvm.Cond.instanceMethod ({ cls := "CrownTwoModel", name := "growth", desc := "()I" } : Jvm.MethodName)) ∈ gw := gw_t5 117 rfl rfl
theorem q_1078 : (Jvm.Cond.code ({ cls := "CrownTwoModel", name := "growth", desc := "()I" } : Jvm.MethodName) prog_14_method_40_code (1 : Nat) (Option.some Jvm.ClassFile.FieldType.int)) ∈ gw := gw_t5 118 rfl rfl
theorem q_1079 : (Jvm.Cond.methodLink "CrownTwoModel" (199 : Nat) ({ cls := "CrownTwoModel", name := "makesOf", desc := "(I)I" } : Jvm.MethodName)) ∈ gw := gw_t5 119 rfl rfl
theorem q_1081 : (Jvm.Cond.instanceMethod ({ cls := "CrownTwoModel", name := "makesOf", desc := "(I)I" } : Jvm.MethodName)) ∈ gw := gw_t5 121 rfl rfl
theorem q_1082 : (Jvm.Cond.code ({ cls := "CrownTwoModel", name := "makesOf", desc := "(I)I" } : Jvm.MethodName) prog_14_method_39_code (3 : Nat) (Option.some Jvm.ClassFile.FieldType.int)) ∈ gw := gw_t5 122 rfl rfl
theorem q_1083 : (Jvm.Cond.methodLink "CrownTwoLaw" (52 : Nat) ({ cls := "CrownTwoModel", name := "feed", desc := "(I)I" } : Jvm.MethodName)) ∈ gw := gw_t5 123 rfl rfl
theorem q_1084 : (Jvm.Cond.instanceMethod ({ cls := "CrownTwoModel", name := "feed", desc := "(I)I" } : Jvm.MethodName)) ∈ gw := gw_t5 124 rfl rfl
theorem q_1085 : (Jvm.Cond.selects "CrownTwoModel" ({ cls := "CrownTwoModel", name := "feed", desc := "(I)I" } : Jvm.MethodName) ({ cls := "CrownTwoModel", name := "feed", desc := "(I)I" } : Jvm.MethodName)) ∈ gw := gw_t5 125 rfl rfl
theorem q_1086 : (Jvm.Cond.code ({ cls := "CrownTwoModel", name := "feed", desc := "(I)I" } : Jvm.MethodName) prog_14_method_52_code (2 : Nat) (Option.some Jvm.ClassFile.FieldType.int)) ∈ gw := gw_t5 126 rfl rfl
theorem q_1087 : (Jvm.Cond.methodLink "CrownTwoLaw" (56 : Nat) ({ cls := "CrownTwoModel", name := "undo", desc := "()I" } : Jvm.MethodName)) ∈ gw := gw_t5 127 rfl rfl
theorem q_1088 : (Jvm.Cond.instanceMethod ({ cls := "CrownTwoModel", name := "undo", desc := "()I" } : Jvm.MethodName)) ∈ gw := gw_t5 128 rfl rfl
theorem q_1089 : (Jvm.Cond.selects "CrownTwoModel" ({ cls := "CrownTwoModel", name := "undo", desc := "()I" } : Jvm.MethodName) ({ cls := "CrownTwoModel", name := "undo", desc := "()I" } : Jvm.MethodName)) ∈ gw := gw_t5 129 rfl rfl
theorem q_1090 : (Jvm.Cond.code ({ cls := "CrownTwoModel", name := "undo", desc := "()I" } : Jvm.MethodName) prog_14_method_53_code (1 : Nat) (Option.some Jvm.ClassFile.FieldType.int)) ∈ gw := gw_t5 130 rfl rfl
theorem q_1091 : (Jvm.Cond.methodLink "CrownTwoModel" (218 : Nat) ({ cls := "CrownTwoModel", name := "takes", desc := "([II)V" } : Jvm.MethodName)) ∈ gw := gw_t5 131 rfl rfl
theorem q_1093 : (Jvm.Cond.instanceMethod ({ cls := "CrownTwoModel", name := "takes", desc := "([II)V" } : Jvm.MethodName)) ∈ gw := gw_t5 133 rfl rfl
theorem q_1094 : (Jvm.Cond.code ({ cls := "CrownTwoModel", name := "takes", desc := "([II)V" } : Jvm.MethodName) prog_14_method_45_code (3 : Nat) (Option.none : Option Jvm.ClassFile.FieldType)) ∈ gw := gw_t5 134 rfl rfl
theorem q_1095 : (Jvm.Cond.methodLink "CrownTwoLaw" (60 : Nat) ({ cls := "CrownTwoModel", name := "of", desc := "(II)I" } : Jvm.MethodName)) ∈ gw := gw_t5 135 rfl rfl
theorem q_1096 : (Jvm.Cond.instanceMethod ({ cls := "CrownTwoModel", name := "of", desc := "(II)I" } : Jvm.MethodName)) ∈ gw := gw_t5 136 rfl rfl
theorem q_1097 : (Jvm.Cond.selects "CrownTwoModel" ({ cls := "CrownTwoModel", name := "of", desc := "(II)I" } : Jvm.MethodName) ({ cls := "CrownTwoModel", name := "of", desc := "(II)I" } : Jvm.MethodName)) ∈ gw := gw_t5 137 rfl rfl
theorem q_1098 : (Jvm.Cond.code ({ cls := "CrownTwoModel", name := "of", desc := "(II)I" } : Jvm.MethodName) prog_14_method_54_code (3 : Nat) (Option.some Jvm.ClassFile.FieldType.int)) ∈ gw := gw_t5 138 rfl rfl
theorem q_1099 : (Jvm.Cond.methodLink "CrownTwoLaw" (64 : Nat) ({ cls := "CrownTwoModel", name := "makes", desc := "(I)I" } : Jvm.MethodName)) ∈ gw := gw_t5 139 rfl rfl
theorem q_1100 : (Jvm.Cond.instanceMethod ({ cls := "CrownTwoModel", name := "makes", desc := "(I)I" } : Jvm.MethodName)) ∈ gw := gw_t5 140 rfl rfl
theorem q_1101 : (Jvm.Cond.selects "CrownTwoModel" ({ cls := "CrownTwoModel", name := "makes", desc := "(I)I" } : Jvm.MethodName) ({ cls := "CrownTwoModel", name := "makes", desc := "(I)I" } : Jvm.MethodName)) ∈ gw := gw_t5 141 rfl rfl
theorem q_1102 : (Jvm.Cond.code ({ cls := "CrownTwoModel", name := "makes", desc := "(I)I" } : Jvm.MethodName) prog_14_method_55_code (2 : Nat) (Option.some Jvm.ClassFile.FieldType.int)) ∈ gw := gw_t5 142 rfl rfl
theorem q_1103 : (Jvm.Cond.methodLink "CrownTwoLaw" (68 : Nat) ({ cls := "CrownTwoModel", name := "lift", desc := "(I)I" } : Jvm.MethodName)) ∈ gw := gw_t5 143 rfl rfl
theorem q_1104 : (Jvm.Cond.instanceMethod ({ cls := "CrownTwoModel", name := "lift", desc := "(I)I" } : Jvm.MethodName)) ∈ gw := gw_t5 144 rfl rfl
theorem q_1105 : (Jvm.Cond.selects "CrownTwoModel" ({ cls := "CrownTwoModel", name := "lift", desc := "(I)I" } : Jvm.MethodName) ({ cls := "CrownTwoModel", name := "lift", desc := "(I)I" } : Jvm.MethodName)) ∈ gw := gw_t5 145 rfl rfl
theorem q_1106 : (Jvm.Cond.code ({ cls := "CrownTwoModel", name := "lift", desc := "(I)I" } : Jvm.MethodName) prog_14_method_56_code (2 : Nat) (Option.some Jvm.ClassFile.FieldType.int)) ∈ gw := gw_t5 146 rfl rfl
theorem q_1107 : (Jvm.Cond.methodLink "CrownTwoLaw" (72 : Nat) ({ cls := "CrownTwoModel", name := "both", desc := "(I)I" } : Jvm.MethodName)) ∈ gw := gw_t5 147 rfl rfl
theorem q_1108 : (Jvm.Cond.instanceMethod ({ cls := "CrownTwoModel", name := "both", desc := "(I)I" } : Jvm.MethodName)) ∈ gw := gw_t5 148 rfl rfl
theorem q_1109 : (Jvm.Cond.selects "CrownTwoModel" ({ cls := "CrownTwoModel", name := "both", desc := "(I)I" } : Jvm.MethodName) ({ cls := "CrownTwoModel", name := "both", desc := "(I)I" } : Jvm.MethodName)) ∈ gw := gw_t5 149 rfl rfl
theorem q_1110 : (Jvm.Cond.code ({ cls := "CrownTwoModel", name := "both", desc := "(I)I" } : Jvm.MethodName) prog_14_method_58_code (3 : Nat) (Option.some Jvm.ClassFile.FieldType.int)) ∈ gw := gw_t5 150 rfl rfl
theorem q_1111 : (Jvm.Cond.methodLink "CrownTwoModel" (239 : Nat) ({ cls := "CrownTwoModel", name := "puts", desc := "()V" } : Jvm.MethodName)) ∈ gw := gw_t5 151 rfl rfl
theorem q_1113 : (Jvm.Cond.instanceMethod ({ cls := "CrownTwoModel", name := "puts", desc := "()V" } : Jvm.MethodName)) ∈ gw := gw_t5 153 rfl rfl
theorem q_1114 : (Jvm.Cond.code ({ cls := "CrownTwoModel", name := "puts", desc := "()V" } : Jvm.MethodName) prog_14_method_47_code (1 : Nat) (Option.none : Option Jvm.ClassFile.FieldType)) ∈ gw := gw_t5 154 rfl rfl
theorem q_1115 : (Jvm.Cond.methodLink "CrownTwoModel" (242 : Nat) ({ cls := "CrownTwoModel", name := "bothSet", desc := "()I" } : Jvm.MethodName)) ∈ gw := gw_t5 155 rfl rfl
theorem q_1117 : (Jvm.Cond.instanceMethod ({ cls := "CrownTwoModel", name := "bothSet", desc := "()I" } : Jvm.MethodName)) ∈ gw := gw_t5 157 rfl rfl
theorem q_1118 : (Jvm.Cond.code ({ cls := "CrownTwoModel", name := "bothSet", desc := "()I" } : Jvm.MethodName) prog_14_method_57_code (3 : Nat) (Option.some Jvm.ClassFile.FieldType.int)) ∈ gw := gw_t5 158 rfl rfl
theorem q_1119 : (Jvm.Cond.methodLink "CrownTwoModel" (245 : Nat) ({ cls := "CrownTwoModel", name := "back", desc := "()V" } : Jvm.MethodName)) ∈ gw := gw_t5 159 rfl rfl
theorem q_1121 : (Jvm.Cond.instanceMethod ({ cls := "CrownTwoModel", name := "back", desc := "()V" } : Jvm.MethodName)) ∈ gw := gw_t5 161 rfl rfl
theorem q_1122 : (Jvm.Cond.code ({ cls := "CrownTwoModel", name := "back", desc := "()V" } : Jvm.MethodName) prog_14_method_48_code (1 : Nat) (Option.none : Option Jvm.ClassFile.FieldType)) ∈ gw := gw_t5 162 rfl rfl
theorem q_1123 : (Jvm.Cond.methodLink "CrownTwoLaw" (76 : Nat) ({ cls := "CrownTwoModel", name := "friends", desc := "()I" } : Jvm.MethodName)) ∈ gw := gw_t5 163 rfl rfl
theorem q_1124 : (Jvm.Cond.instanceMethod ({ cls := "CrownTwoModel", name := "friends", desc := "()I" } : Jvm.MethodName)) ∈ gw := gw_t5 164 rfl rfl
theorem q_1125 : (Jvm.Cond.selects "CrownTwoModel" ({ cls := "CrownTwoModel", name := "friends", desc := "()I" } : Jvm.MethodName) ({ cls := "CrownTwoModel", name := "friends", desc := "()I" } : Jvm.MethodName)) ∈ gw := gw_t5 165 rfl rfl
theorem q_1126 : (Jvm.Cond.code ({ cls := "CrownTwoModel", name := "friends", desc := "()I" } : Jvm.MethodName) prog_14_method_60_code (2 : Nat) (Option.some Jvm.ClassFile.FieldType.int)) ∈ gw := gw_t5 166 rfl rfl
theorem q_1127 : (Jvm.Cond.methodLink "CrownTwoModel" (248 : Nat) ({ cls := "CrownTwoModel", name := "daysTill", desc := "()I" } : Jvm.MethodName)) ∈ gw := gw_t5 167 rfl rfl
theorem q_1129 : (Jvm.Cond.instanceMethod ({ cls := "CrownTwoModel", name := "daysTill", desc := "()I" } : Jvm.MethodName)) ∈ gw := gw_t5 169 rfl rfl
theorem q_1130 : (Jvm.Cond.code ({ cls := "CrownTwoModel", name := "daysTill", desc := "()I" } : Jvm.MethodName) prog_14_method_59_code (2 : Nat) (Option.some Jvm.ClassFile.FieldType.int)) ∈ gw := gw_t5 170 rfl rfl
theorem q_1131 : (Jvm.Cond.methodLink "CrownTwoLaw" (80 : Nat) ({ cls := "CrownTwoModel", name := "then", desc := "(I)I" } : Jvm.MethodName)) ∈ gw := gw_t5 171 rfl rfl
theorem q_1132 : (Jvm.Cond.instanceMethod ({ cls := "CrownTwoModel", name := "then", desc := "(I)I" } : Jvm.MethodName)) ∈ gw := gw_t5 172 rfl rfl
theorem q_1133 : (Jvm.Cond.selects "CrownTwoModel" ({ cls := "CrownTwoModel", name := "then", desc := "(I)I" } : Jvm.MethodName) ({ cls := "CrownTwoModel", name := "then", desc := "(I)I" } : Jvm.MethodName)) ∈ gw := gw_t5 173 rfl rfl
theorem q_1134 : (Jvm.Cond.code ({ cls := "CrownTwoModel", name := "then", desc := "(I)I" } : Jvm.MethodName) prog_14_method_61_code (3 : Nat) (Option.some Jvm.ClassFile.FieldType.int)) ∈ gw := gw_t5 174 rfl rfl
theorem q_1135 : (Jvm.Cond.methodLink "CrownTwoLaw" (84 : Nat) ({ cls := "CrownTwoModel", name := "most", desc := "(II)I" } : Jvm.MethodName)) ∈ gw := gw_t5 175 rfl rfl
theorem q_1136 : (Jvm.Cond.instanceMethod ({ cls := "CrownTwoModel", name := "most", desc := "(II)I" } : Jvm.MethodName)) ∈ gw := gw_t5 176 rfl rfl
theorem q_1137 : (Jvm.Cond.selects "CrownTwoModel" ({ cls := "CrownTwoModel", name := "most", desc := "(II)I" } : Jvm.MethodName) ({ cls := "CrownTwoModel", name := "most", desc := "(II)I" } : Jvm.MethodName)) ∈ gw := gw_t5 177 rfl rfl
theorem q_1138 : (Jvm.Cond.code ({ cls := "CrownTwoModel", name := "most", desc := "(II)I" } : Jvm.MethodName) prog_14_method_63_code (8 : Nat) (Option.some Jvm.ClassFile.FieldType.int)) ∈ gw := gw_t5 178 rfl rfl
theorem q_1139 : (Jvm.Cond.methodLink "CrownTwoModel" (254 : Nat) ({ cls := "CrownTwoModel", name := "ten", desc := "()I" } : Jvm.MethodName)) ∈ gw := gw_t5 179 rfl rfl
theorem q_1141 : (Jvm.Cond.instanceMethod ({ cls := "CrownTwoModel", name := "ten", desc := "()I" } : Jvm.MethodName)) ∈ gw := gw_t5 181 rfl rfl
theorem q_1142 : (Jvm.Cond.code ({ cls := "CrownTwoModel", name := "ten", desc := "()I" } : Jvm.MethodName) prog_14_method_2_code (1 : Nat) (Option.some Jvm.ClassFile.FieldType.int)) ∈ gw := gw_t5 182 rfl rfl
theorem q_1143 : (Jvm.Cond.methodLink "CrownTwoModel" (257 : Nat) ({ cls := "CrownTwoModel", name := "doneBy", desc := "(II)I" } : Jvm.MethodName)) ∈ gw := gw_t5 183 rfl rfl
theorem q_1145 : (Jvm.Cond.instanceMethod ({ cls := "CrownTwoModel", name := "doneBy", desc := "(II)I" } : Jvm.MethodName)) ∈ gw := gw_t5 185 rfl rfl
theorem q_1146 : (Jvm.Cond.code ({ cls := "CrownTwoModel", name := "doneBy", desc := "(II)I" } : Jvm.MethodName) prog_14_method_62_code (7 : Nat) (Option.some Jvm.ClassFile.FieldType.int)) ∈ gw := gw_t5 186 rfl rfl
theorem q_1147 : (Jvm.Cond.methodLink "CrownTwoModel" (251 : Nat) ({ cls := "CrownTwoModel", name := "bits", desc := "(I)I" } : Jvm.MethodName)) ∈ gw := gw_t5 187 rfl rfl
theorem q_1148 : (Jvm.Cond.static ({ cls := "CrownTwoModel", name := "bits", desc := "(I)I" } : Jvm.MethodName)) ∈ gw := gw_t5 188 rfl rfl
theorem q_1149 : (Jvm.Cond.code ({ cls := "CrownTwoModel", name := "bits", desc := "(I)I" } : Jvm.MethodName) prog_14_method_7_code (3 : Nat) (Option.some Jvm.ClassFile.FieldType.int)) ∈ gw := gw_t5 189 rfl rfl
theorem q_1150 : (Jvm.Cond.methodLink "CrownTwoLaw" (88 : Nat) ({ cls := "CrownTwoModel", name := "keep", desc := "(I)I" } : Jvm.MethodName)) ∈ gw := gw_t5 190 rfl rfl
theorem q_1151 : (Jvm.Cond.instanceMethod ({ cls := "CrownTwoModel", name := "keep", desc := "(I)I" } : Jvm.MethodName)) ∈ gw := gw_t5 191 rfl rfl
theorem q_1152 : (Jvm.Cond.selects "CrownTwoModel" ({ cls := "CrownTwoModel", name := "keep", desc := "(I)I" } : Jvm.MethodName) ({ cls := "CrownTwoModel", name := "keep", desc := "(I)I" } : Jvm.MethodName)) ∈ gw := gw_t5 192 rfl rfl
theorem q_1153 : (Jvm.Cond.code ({ cls := "CrownTwoModel", name := "keep", desc := "(I)I" } : Jvm.MethodName) prog_14_method_64_code (5 : Nat) (Option.some Jvm.ClassFile.FieldType.int)) ∈ gw := gw_t5 193 rfl rfl
theorem q_1154 : (Jvm.Cond.methodLink "CrownTwoLaw" (92 : Nat) ({ cls := "CrownTwoModel", name := "lasts", desc := "(II)I" } : Jvm.MethodName)) ∈ gw := gw_t5 194 rfl rfl
theorem q_1155 : (Jvm.Cond.instanceMethod ({ cls := "CrownTwoModel", name := "lasts", desc := "(II)I" } : Jvm.MethodName)) ∈ gw := gw_t5 195 rfl rfl
theorem q_1156 : (Jvm.Cond.selects "CrownTwoModel" ({ cls := "CrownTwoModel", name := "lasts", desc := "(II)I" } : Jvm.MethodName) ({ cls := "CrownTwoModel", name := "lasts", desc := "(II)I" } : Jvm.MethodName)) ∈ gw := gw_t5 196 rfl rfl
theorem q_1157 : (Jvm.Cond.code ({ cls := "CrownTwoModel", name := "lasts", desc := "(II)I" } : Jvm.MethodName) prog_14_method_66_code (3 : Nat) (Option.some Jvm.ClassFile.FieldType.int)) ∈ gw := gw_t5 197 rfl rfl
theorem q_1158 : (Jvm.Cond.methodLink "CrownTwoModel" (260 : Nat) ({ cls := "CrownTwoModel", name := "lastsOf", desc := "(II)I" } : Jvm.MethodName)) ∈ gw := gw_t5 198 rfl rfl
theorem q_1160 : (Jvm.Cond.instanceMethod ({ cls := "CrownTwoModel", name := "lastsOf", desc := "(II)I" } : Jvm.MethodName)) ∈ gw := gw_t5 200 rfl rfl
theorem q_1161 : (Jvm.Cond.code ({ cls := "CrownTwoModel", name := "lastsOf", desc := "(II)I" } : Jvm.MethodName) prog_14_method_65_code (6 : Nat) (Option.some Jvm.ClassFile.FieldType.int)) ∈ gw := gw_t5 201 rfl rfl
theorem q_1162 : (Jvm.Cond.methodLink "CrownTwoLaw" (96 : Nat) ({ cls := "CrownTwoModel", name := "pairs", desc := "(I)I" } : Jvm.MethodName)) ∈ gw := gw_t5 202 rfl rfl
theorem q_1163 : (Jvm.Cond.instanceMethod ({ cls := "CrownTwoModel", name := "pairs", desc := "(I)I" } : Jvm.MethodName)) ∈ gw := gw_t5 203 rfl rfl
theorem q_1164 : (Jvm.Cond.selects "CrownTwoModel" ({ cls := "CrownTwoModel", name := "pairs", desc := "(I)I" } : Jvm.MethodName) ({ cls := "CrownTwoModel", name := "pairs", desc := "(I)I" } : Jvm.MethodName)) ∈ gw := gw_t5 204 rfl rfl
theorem q_1165 : (Jvm.Cond.code ({ cls := "CrownTwoModel", name := "pairs", desc := "(I)I" } : Jvm.MethodName) prog_14_method_68_code (8 : Nat) (Option.some Jvm.ClassFile.FieldType.int)) ∈ gw := gw_t5 205 rfl rfl
theorem q_1166 : (Jvm.Cond.methodLink "CrownTwoModel" (263 : Nat) ({ cls := "CrownTwoModel", name := "areStuck", desc := "(II)Z" } : Jvm.MethodName)) ∈ gw := gw_t5 206 rfl rfl
theorem q_1168 : (Jvm.Cond.instanceMethod ({ cls := "CrownTwoModel", name := "areStuck", desc := "(II)Z" } : Jvm.MethodName)) ∈ gw := gw_t5 208 rfl rfl
theorem q_1169 : (Jvm.Cond.code ({ cls := "CrownTwoModel", name := "areStuck", desc := "(II)Z" } : Jvm.MethodName) prog_14_method_67_code (5 : Nat) (Option.some Jvm.ClassFile.FieldType.boolean)) ∈ gw := gw_t5 209 rfl rfl
theorem q_1170 : (Jvm.Cond.methodLink "CrownTwoLaw" (101 : Nat) ({ cls := "CrownTwoModel", name := "note", desc := "(IIIII)I" } : Jvm.MethodName)) ∈ gw := gw_t5 210 rfl rfl
theorem q_1171 : (Jvm.Cond.instanceMethod ({ cls := "CrownTwoModel", name := "note", desc := "(IIIII)I" } : Jvm.MethodName)) ∈ gw := gw_t5 211 rfl rfl
theorem q_1172 : (Jvm.Cond.selects "CrownTwoModel" ({ cls := "CrownTwoModel", name := "note", desc := "(IIIII)I" } : Jvm.MethodName) ({ cls := "CrownTwoModel", name := "note", desc := "(IIIII)I" } : Jvm.MethodName)) ∈ gw := gw_t5 212 rfl rfl
theorem q_1173 : (Jvm.Cond.code ({ cls := "CrownTwoModel", name := "note", desc := "(IIIII)I" } : Jvm.MethodName) prog_14_method_69_code (6 : Nat) (Option.some Jvm.ClassFile.FieldType.int)) ∈ gw := gw_t5 213 rfl rfl
theorem q_1174 : (Jvm.Cond.methodLink "CrownTwoLaw" (105 : Nat) ({ cls := "CrownTwoModel", name := "forget", desc := "()I" } : Jvm.MethodName)) ∈ gw := gw_t5 214 rfl rfl
theorem q_1175 : (Jvm.Cond.instanceMethod ({ cls := "CrownTwoModel", name := "forget", desc := "()I" } : Jvm.MethodName)) ∈ gw := gw_t5 215 rfl rfl
theorem q_1176 : (Jvm.Cond.selects "CrownTwoModel" ({ cls := "CrownTwoModel", name := "forget", desc := "()I" } : Jvm.MethodName) ({ cls := "CrownTwoModel", name := "forget", desc := "()I" } : Jvm.MethodName)) ∈ gw := gw_t5 216 rfl rfl
theorem q_1177 : (Jvm.Cond.code ({ cls := "CrownTwoModel", name := "forget", desc := "()I" } : Jvm.MethodName) prog_14_method_70_code (2 : Nat) (Option.some Jvm.ClassFile.FieldType.int)) ∈ gw := gw_t5 217 rfl rfl
theorem q_1178 : (Jvm.Cond.methodLink "CrownTwoLaw" (109 : Nat) ({ cls := "CrownTwoModel", name := "is", desc := "(I)I" } : Jvm.MethodName)) ∈ gw := gw_t5 218 rfl rfl
theorem q_1179 : (Jvm.Cond.instanceMethod ({ cls := "CrownTwoModel", name := "is", desc := "(I)I" } : Jvm.MethodName)) ∈ gw := gw_t5 219 rfl rfl
theorem q_1180 : (Jvm.Cond.selects "CrownTwoModel" ({ cls := "CrownTwoModel", name := "is", desc := "(I)I" } : Jvm.MethodName) ({ cls := "CrownTwoModel", name := "is", desc := "(I)I" } : Jvm.MethodName)) ∈ gw := gw_t5 220 rfl rfl
theorem q_1181 : (Jvm.Cond.code ({ cls := "CrownTwoModel", name := "is", desc := "(I)I" } : Jvm.MethodName) prog_14_method_73_code (2 : Nat) (Option.some Jvm.ClassFile.FieldType.int)) ∈ gw := gw_t5 221 rfl rfl
theorem q_1182 : (Jvm.Cond.methodLink "CrownTwoModel" (269 : Nat) ({ cls := "CrownTwoModel", name := "kindsOf", desc := "(I)I" } : Jvm.MethodName)) ∈ gw := gw_t5 222 rfl rfl
theorem q_1184 : (Jvm.Cond.instanceMethod ({ cls := "CrownTwoModel", name := "kindsOf", desc := "(I)I" } : Jvm.MethodName)) ∈ gw := gw_t5 224 rfl rfl
theorem q_1185 : (Jvm.Cond.code ({ cls := "CrownTwoModel", name := "kindsOf", desc := "(I)I" } : Jvm.MethodName) prog_14_method_72_code (4 : Nat) (Option.some Jvm.ClassFile.FieldType.int)) ∈ gw := gw_t5 225 rfl rfl
theorem q_1186 : (Jvm.Cond.methodLink "CrownTwoModel" (266 : Nat) ({ cls := "CrownTwoModel", name := "isSo", desc := "(IIII)Z" } : Jvm.MethodName)) ∈ gw := gw_t5 226 rfl rfl
theorem q_1188 : (Jvm.Cond.instanceMethod ({ cls := "CrownTwoModel", name := "isSo", desc := "(IIII)Z" } : Jvm.MethodName)) ∈ gw := gw_t5 228 rfl rfl
theorem q_1189 : (Jvm.Cond.code ({ cls := "CrownTwoModel", name := "isSo", desc := "(IIII)Z" } : Jvm.MethodName) prog_14_method_71_code (8 : Nat) (Option.some Jvm.ClassFile.FieldType.boolean)) ∈ gw := gw_t5 229 rfl rfl
theorem q_1190 : (Jvm.Cond.methodLink "CrownTwoLaw" (113 : Nat) ({ cls := "CrownTwoModel", name := "heart", desc := "(II)I" } : Jvm.MethodName)) ∈ gw := gw_t5 230 rfl rfl
theorem q_1191 : (Jvm.Cond.instanceMethod ({ cls := "CrownTwoModel", name := "heart", desc := "(II)I" } : Jvm.MethodName)) ∈ gw := gw_t5 231 rfl rfl
theorem q_1192 : (Jvm.Cond.selects "CrownTwoModel" ({ cls := "CrownTwoModel", name := "heart", desc := "(II)I" } : Jvm.MethodName) ({ cls := "CrownTwoModel", name := "heart", desc := "(II)I" } : Jvm.MethodName)) ∈ gw := gw_t5 232 rfl rfl
theorem q_1193 : (Jvm.Cond.code ({ cls := "CrownTwoModel", name := "heart", desc := "(II)I" } : Jvm.MethodName) prog_14_method_74_code (5 : Nat) (Option.some Jvm.ClassFile.FieldType.int)) ∈ gw := gw_t5 233 rfl rfl
theorem q_1194 : (Jvm.Cond.methodLink "CrownTwoLaw" (117 : Nat) ({ cls := "CrownTwoModel", name := "next", desc := "(I)I" } : Jvm.MethodName)) ∈ gw := gw_t5 234 rfl rfl
theorem q_1195 : (Jvm.Cond.instanceMethod ({ cls := "CrownTwoModel", name := "next", desc := "(I)I" } : Jvm.MethodName)) ∈ gw := gw_t5 235 rfl rfl
theorem q_1196 : (Jvm.Cond.selects "CrownTwoModel" ({ cls := "CrownTwoModel", name := "next", desc := "(I)I" } : Jvm.MethodName) ({ cls := "CrownTwoModel", name := "next", desc := "(I)I" } : Jvm.MethodName)) ∈ gw := gw_t5 236 rfl rfl
theorem q_1197 : (Jvm.Cond.code ({ cls := "CrownTwoModel", name := "next", desc := "(I)I" } : Jvm.MethodName) prog_14_method_76_code (5 : Nat) (Option.some Jvm.ClassFile.FieldType.int)) ∈ gw := gw_t5 237 rfl rfl
theorem q_1198 : (Jvm.Cond.methodLink "CrownTwoModel" (272 : Nat) ({ cls := "CrownTwoModel", name := "greaterPart", desc := "(III)I" } : Jvm.MethodName)) ∈ gw := gw_t5 238 rfl rfl
theorem q_1200 : (Jvm.Cond.instanceMethod ({ cls := "CrownTwoModel", name := "greaterPart", desc := "(III)I" } : Jvm.MethodName)) ∈ gw := gw_t6 0 rfl rfl
theorem q_1201 : (Jvm.Cond.code ({ cls := "CrownTwoModel", name := "greaterPart", desc := "(III)I" } : Jvm.MethodName) prog_14_method_75_code (8 : Nat) (Option.some Jvm.ClassFile.FieldType.int)) ∈ gw := gw_t6 1 rfl rfl
theorem q_1202 : (Jvm.Cond.methodLink "CrownTwoLaw" (121 : Nat) ({ cls := "CrownTwoModel", name := "spite", desc := "(I)I" } : Jvm.MethodName)) ∈ gw := gw_t6 2 rfl rfl
theorem q_1203 : (Jvm.Cond.instanceMethod ({ cls := "CrownTwoModel", name := "spite", desc := "(I)I" } : Jvm.MethodName)) ∈ gw := gw_t6 3 rfl rfl
theorem q_1204 : (Jvm.Cond.selects "CrownTwoModel" ({ cls := "CrownTwoModel", name := "spite", desc := "(I)I" } : Jvm.MethodName) ({ cls := "CrownTwoModel", name := "spite", desc := "(I)I" } : Jvm.MethodName)) ∈ gw := gw_t6 4 rfl rfl
theorem q_1205 : (Jvm.Cond.code ({ cls := "CrownTwoModel", name := "spite", desc := "(I)I" } : Jvm.MethodName) prog_14_method_78_code (7 : Nat) (Option.some Jvm.ClassFile.FieldType.int)) ∈ gw := gw_t6 5 rfl rfl
theorem q_1206 : (Jvm.Cond.methodLink "CrownTwoModel" (276 : Nat) ({ cls := "CrownTwoModel", name := "gets", desc := "(IIZZ)I" } : Jvm.MethodName)) ∈ gw := gw_t6 6 rfl rfl
theorem q_1208 : (Jvm.Cond.instanceMethod ({ cls := "CrownTwoModel", name := "gets", desc := "(IIZZ)I" } : Jvm.MethodName)) ∈ gw := gw_t6 8 rfl rfl
theorem q_1209 : (Jvm.Cond.code ({ cls := "CrownTwoModel", name := "gets", desc := "(IIZZ)I" } : Jvm.MethodName) prog_14_method_77_code (6 : Nat) (Option.some Jvm.ClassFile.FieldType.int)) ∈ gw := gw_t6 9 rfl rfl
theorem q_1210 : (Jvm.Cond.methodLink "CrownTwoLaw" (125 : Nat) ({ cls := "CrownTwoModel", name := "slips", desc := "(II)I" } : Jvm.MethodName)) ∈ gw := gw_t6 10 rfl rfl
theorem q_1211 : (Jvm.Cond.instanceMethod ({ cls := "CrownTwoModel", name := "slips", desc := "(II)I" } : Jvm.MethodName)) ∈ gw := gw_t6 11 rfl rfl
theorem q_1212 : (Jvm.Cond.selects "CrownTwoModel" ({ cls := "CrownTwoModel", name := "slips", desc := "(II)I" } : Jvm.MethodName) ({ cls := "CrownTwoModel", name := "slips", desc := "(II)I" } : Jvm.MethodName)) ∈ gw := gw_t6 12 rfl rfl
theorem q_1213 : (Jvm.Cond.code ({ cls := "CrownTwoModel", name := "slips", desc := "(II)I" } : Jvm.MethodName) prog_14_method_80_code (5 : Nat) (Option.some Jvm.ClassFile.FieldType.int)) ∈ gw := gw_t6 13 rfl rfl
theorem q_1214 : (Jvm.Cond.constantLong "CrownTwoModel" (283 : Nat) (100 : Int64)) ∈ gw := gw_t6 14 rfl rfl
theorem q_1215 : (Jvm.Cond.methodLink "CrownTwoModel" (285 : Nat) ({ cls := "CrownTwoModel", name := "lay", desc := "(JJ)V" } : Jvm.MethodName)) ∈ gw := gw_t6 15 rfl rfl
theorem q_1217 : (Jvm.Cond.instanceMethod ({ cls := "CrownTwoModel", name := "lay", desc := "(JJ)V" } : Jvm.MethodName)) ∈ gw := gw_t6 17 rfl rfl
theorem q_1218 : (Jvm.Cond.code ({ cls := "CrownTwoModel", name := "lay", desc := "(JJ)V" } : Jvm.MethodName) prog_14_method_79_code (11 : Nat) (Option.none : Option Jvm.ClassFile.FieldType)) ∈ gw := gw_t6 18 rfl rfl
theorem q_1219 : (Jvm.Cond.methodLink "CrownTwoLaw" (129 : Nat) ({ cls := "CrownTwoModel", name := "reigns", desc := "(II)I" } : Jvm.MethodName)) ∈ gw := gw_t6 19 rfl rfl
theorem q_1220 : (Jvm.Cond.instanceMethod ({ cls := "CrownTwoModel", name := "reigns", desc := "(II)I" } : Jvm.MethodName)) ∈ gw := gw_t6 20 rfl rfl
theorem q_1221 : (Jvm.Cond.selects "CrownTwoModel" ({ cls := "CrownTwoModel", name := "reigns", desc := "(II)I" } : Jvm.MethodName) ({ cls := "CrownTwoModel", name := "reigns", desc := "(II)I" } : Jvm.MethodName)) ∈ gw := gw_t6 21 rfl rfl
theorem q_1222 : (Jvm.Cond.code ({ cls := "CrownTwoModel", name := "reigns", desc := "(II)I" } : Jvm.MethodName) prog_14_method_81_code (7 : Nat) (Option.some Jvm.ClassFile.FieldType.int)) ∈ gw := gw_t6 22 rfl rfl
theorem q_1223 : (Jvm.Cond.constant "CrownTwoModel" (289 : Nat) (999999 : Int32)) ∈ gw := gw_t6 23 rfl rfl
theorem q_1224 : (Jvm.Cond.constantLong "CrownTwoModel" (290 : Nat) (1103515245 : Int64)) ∈ gw := gw_t6 24 rfl rfl
theorem q_1225 : (Jvm.Cond.constantLong "CrownTwoModel" (292 : Nat) (12345 : Int64)) ∈ gw := gw_t6 25 rfl rfl
theorem q_1226 : (Jvm.Cond.constantLong "CrownTwoModel" (294 : Nat) (2147483648 : Int64)) ∈ gw := gw_t6 26 rfl rfl
theorem q_1227 : (Jvm.Cond.constantLong "CrownTwoModel" (296 : Nat) (65536 : Int64)) ∈ gw := gw_t6 27 rfl rfl
theorem q_1228 : (Jvm.Cond.constantLong "CrownTwoModel" (298 : Nat) (8 : Int64)) ∈ gw := gw_t6 28 rfl rfl
theorem q_1229 : (Jvm.Cond.methodLink "CrownTwoLaw" (134 : Nat) ({ cls := "CrownTwoModel", name := "part", desc := "(I)J" } : Jvm.MethodName)) ∈ gw := gw_t6 29 rfl rfl
theorem q_1230 : (Jvm.Cond.instanceMethod ({ cls := "CrownTwoModel", name := "part", desc := "(I)J" } : Jvm.MethodName)) ∈ gw := gw_t6 30 rfl rfl
theorem q_1231 : (Jvm.Cond.selects "CrownTwoModel" ({ cls := "CrownTwoModel", name := "part", desc := "(I)J" } : Jvm.MethodName) ({ cls := "CrownTwoModel", name := "part", desc := "(I)J" } : Jvm.MethodName)) ∈ gw := gw_t6 31 rfl rfl
theorem q_1232 : (Jvm.Cond.code ({ cls := "CrownTwoModel", name := "part", desc := "(I)J" } : Jvm.MethodName) prog_14_method_82_code (2 : Nat) (Option.some Jvm.ClassFile.FieldType.long)) ∈ gw := gw_t6 32 rfl rfl
theorem q_1233 : (Jvm.Cond.methodLink "CrownTwoLaw" (138 : Nat) ({ cls := "CrownTwoModel", name := "image", desc := "(I)I" } : Jvm.MethodName)) ∈ gw := gw_t6 33 rfl rfl
theorem q_1234 : (Jvm.Cond.instanceMethod ({ cls := "CrownTwoModel", name := "image", desc := "(I)I" } : Jvm.MethodName)) ∈ gw := gw_t6 34 rfl rfl
theorem q_1235 : (Jvm.Cond.selects "CrownTwoModel" ({ cls := "CrownTwoModel", name := "image", desc := "(I)I" } : Jvm.MethodName) ({ cls := "CrownTwoModel", name := "image", desc := "(I)I" } : Jvm.MethodName)) ∈ gw := gw_t6 35 rfl rfl
theorem q_1236 : (Jvm.Cond.code ({ cls := "CrownTwoModel", name := "image", desc := "(I)I" } : Jvm.MethodName) prog_14_method_83_code (4 : Nat) (Option.some Jvm.ClassFile.FieldType.int)) ∈ gw := gw_t6 36 rfl rfl
theorem q_1237 : (Jvm.Cond.methodLink "CrownTwoLaw" (142 : Nat) ({ cls := "CrownTwoModel", name := "from", desc := "(I)I" } : Jvm.MethodName)) ∈ gw := gw_t6 37 rfl rfl
theorem q_1238 : (Jvm.Cond.instanceMethod ({ cls := "CrownTwoModel", name := "from", desc := "(I)I" } : Jvm.MethodName)) ∈ gw := gw_t6 38 rfl rfl
theorem q_1239 : (Jvm.Cond.selects "CrownTwoModel" ({ cls := "CrownTwoModel", name := "from", desc := "(I)I" } : Jvm.MethodName) ({ cls := "CrownTwoModel", name := "from", desc := "(I)I" } : Jvm.MethodName)) ∈ gw := gw_t6 39 rfl rfl
theorem q_1240 : (Jvm.Cond.code ({ cls := "CrownTwoModel", name := "from", desc := "(I)I" } : Jvm.MethodName) prog_14_method_84_code (4 : Nat) (Option.some Jvm.ClassFile.FieldType.int)) ∈ gw := gw_t6 40 rfl rfl
theorem q_1241 : (Jvm.Cond.methodLink "CrownTwoLaw" (146 : Nat) ({ cls := "CrownTwoModel", name := "status", desc := "(I)I" } : Jvm.MethodName)) ∈ gw := gw_t6 41 rfl rfl
theorem q_1242 : (Jvm.Cond.instanceMethod ({ cls := "CrownTwoModel", name := "status", desc := "(I)I" } : Jvm.MethodName)) ∈ gw := gw_t6 42 rfl rfl
theorem q_1243 : (Jvm.Cond.selects "CrownTwoModel" ({ cls := "CrownTwoModel", name := "status", desc := "(I)I" } : Jvm.MethodName) ({ cls := "CrownTwoModel", name := "status", desc := "(I)I" } : Jvm.MethodName)) ∈ gw := gw_t6 43 rfl rfl
theorem q_1244 : (Jvm.Cond.code ({ cls := "CrownTwoModel", name := "status", desc := "(I)I" } : Jvm.MethodName) prog_14_method_85_code (2 : Nat) (Option.some Jvm.ClassFile.FieldType.int)) ∈ gw := gw_t6 44 rfl rfl
theorem q_1245 : (Jvm.Cond.methodLink "CrownTwoLaw" (150 : Nat) ({ cls := "CrownTwoModel", name := "count", desc := "(I)I" } : Jvm.MethodName)) ∈ gw := gw_t6 45 rfl rfl
theorem q_1246 : (Jvm.Cond.instanceMethod ({ cls := "CrownTwoModel", name := "count", desc := "(I)I" } : Jvm.MethodName)) ∈ gw := gw_t6 46 rfl rfl
theorem q_1247 : (Jvm.Cond.selects "CrownTwoModel" ({ cls := "CrownTwoModel", name := "count", desc := "(I)I" } : Jvm.MethodName) ({ cls := "CrownTwoModel", name := "count", desc := "(I)I" } : Jvm.MethodName)) ∈ gw := gw_t6 47 rfl rfl
theorem q_1248 : (Jvm.Cond.code ({ cls := "CrownTwoModel", name := "count", desc := "(I)I" } : Jvm.MethodName) prog_14_method_87_code (2 : Nat) (Option.some Jvm.ClassFile.FieldType.int)) ∈ gw := gw_t6 48 rfl rfl
theorem q_1249 : (Jvm.Cond.methodLink "CrownTwoModel" (300 : Nat) ({ cls := "CrownTwoModel", name := "countOf", desc := "(I)I" } : Jvm.MethodName)) ∈ gw := gw_t6 49 rfl rfl
theorem q_1251 : (Jvm.Cond.instanceMethod ({ cls := "CrownTwoModel", name := "countOf", desc := "(I)I" } : Jvm.MethodName)) ∈ gw := gw_t6 51 rfl rfl
theorem q_1252 : (Jvm.Cond.code ({ cls := "CrownTwoModel", name := "countOf", desc := "(I)I" } : Jvm.MethodName) prog_14_method_86_code (2 : Nat) (Option.some Jvm.ClassFile.FieldType.int)) ∈ gw := gw_t6 52 rfl rfl
theorem q_1253 : (Jvm.Cond.methodLink "CrownTwoLaw" (155 : Nat) ({ cls := "CrownTwoModel", name := "digest", desc := "()J" } : Jvm.MethodName)) ∈ gw := gw_t6 53 rfl rfl
theorem q_1254 : (Jvm.Cond.instanceMethod ({ cls := "CrownTwoModel", name := "digest", desc := "()J" } : Jvm.MethodName)) ∈ gw := gw_t6 54 rfl rfl
theorem q_1255 : (Jvm.Cond.selects "CrownTwoModel" ({ cls := "CrownTwoModel", name := "digest", desc := "()J" } : Jvm.MethodName) ({ cls := "CrownTwoModel", name := "digest", desc := "()J" } : Jvm.MethodName)) ∈ gw := gw_t6 55 rfl rfl
theorem q_1256 : (Jvm.Cond.code ({ cls := "CrownTwoModel", name := "digest", desc := "()J" } : Jvm.MethodName) prog_14_method_89_code (2 : Nat) (Option.some Jvm.ClassFile.FieldType.long)) ∈ gw := gw_t6 56 rfl rfl
theorem q_1257 : (Jvm.Cond.constantLong "CrownTwoModel" (308 : Nat) (1249 : Int64)) ∈ gw := gw_t6 57 rfl rfl
theorem q_1258 : (Jvm.Cond.methodLink "CrownTwoModel" (310 : Nat) ({ cls := "CrownTwoModel", name := "mix", desc := "(J)V" } : Jvm.MethodName)) ∈ gw := gw_t6 58 rfl rfl
theorem q_1260 : (Jvm.Cond.instanceMethod ({ cls := "CrownTwoModel", name := "mix", desc := "(J)V" } : Jvm.MethodName)) ∈ gw := gw_t6 60 rfl rfl
theorem q_1261 : (Jvm.Cond.code ({ cls := "CrownTwoModel", name := "mix", desc := "(J)V" } : Jvm.MethodName) prog_14_method_88_code (3 : Nat) (Option.none : Option Jvm.ClassFile.FieldType)) ∈ gw := gw_t6 61 rfl rfl
theorem q_1262 : (Jvm.Cond.constantLong "CrownTwoModel" (303 : Nat) (31 : Int64)) ∈ gw := gw_t6 62 rfl rfl
theorem q_1263 : (Jvm.Cond.sameMethod "CrownTwo$Sulky" "CrownTwo$Sulky" "lifts" "(ZZII)Z") ∈ gw := gw_t6 63 rfl rfl
theorem q_1264 : (Jvm.Cond.sameMethod "CrownTwo$Joker" "CrownTwo$Joker" "adds" "(I)I") ∈ gw := gw_t6 64 rfl rfl
theorem q_1265 : (Jvm.Cond.sameMethod "CrownTwo$Sulky" "CrownTwo$Sulky" "adds" "(I)I") ∈ gw := gw_t6 65 rfl rfl
theorem q_1271 : (Jvm.Cond.fieldLink "java/lang/String" (9 : Nat) "java/lang/String" "value" "[B") ∈ gw := gw_t6 71 rfl rfl
theorem q_1272 : (Jvm.Cond.fieldLink "java/lang/String" (15 : Nat) "java/lang/String" "coder" "B") ∈ gw := gw_t6 72 rfl rfl
theorem qs_0 : Cond.selects "CrownTwo" ⟨"CrownTwo", "bad", "()I"⟩ ⟨"CrownTwo", "bad", "()I"⟩ ∈ gw := gw_s (q := (⟨"CrownTwo", "bad", "()I"⟩, _)) 0 rfl
theorem qs_1 : Cond.selects "CrownTwo" ⟨"CrownTwo", "full", "()I"⟩ ⟨"CrownTwo", "full", "()I"⟩ ∈ gw := gw_s (q := (⟨"CrownTwo", "full", "()I"⟩, _)) 1 rfl
theorem qs_2 : Cond.selects "CrownTwo$CourtText" ⟨"CrownTwo$CourtText", "advance", "()V"⟩ ⟨"CrownTwo$CourtText", "advance", "()V"⟩ ∈ gw := gw_s (q := (⟨"CrownTwo$CourtText", "advance", "()V"⟩, _)) 2 rfl
theorem qs_3 : Cond.selects "CrownTwo$CourtText" ⟨"CrownTwo$CourtText", "sortAt", "(I)I"⟩ ⟨"CrownTwo$CourtText", "sortAt", "(I)I"⟩ ∈ gw := gw_s (q := (⟨"CrownTwo$CourtText", "sortAt", "(I)I"⟩, _)) 3 rfl
theorem qs_4 : Cond.selects "CrownTwo$CourtText" ⟨"CrownTwo$CourtText", "courtItem", "(LCrownTwo$Court;)Z"⟩ ⟨"CrownTwo$CourtText", "courtItem", "(LCrownTwo$Court;)Z"⟩ ∈ gw := gw_s (q := (⟨"CrownTwo$CourtText", "courtItem", "(LCrownTwo$Court;)Z"⟩, _)) 4 rfl
theorem qs_5 : Cond.selects "CrownTwo$CourtText" ⟨"CrownTwo$CourtText", "isWord", "(Ljava/lang/String;)Z"⟩ ⟨"CrownTwo$CourtText", "isWord", "(Ljava/lang/String;)Z"⟩ ∈ gw := gw_s (q := (⟨"CrownTwo$CourtText", "isWord", "(Ljava/lang/String;)Z"⟩, _)) 5 rfl
theorem qs_6 : Cond.selects "CrownTwo$CourtText" ⟨"CrownTwo$CourtText", "takeNumber", "(II)I"⟩ ⟨"CrownTwo$CourtText", "takeNumber", "(II)I"⟩ ∈ gw := gw_s (q := (⟨"CrownTwo$CourtText", "takeNumber", "(II)I"⟩, _)) 6 rfl
theorem qs_7 : Cond.selects "CrownTwo$CourtText" ⟨"CrownTwo$CourtText", "takeEnding", "()Z"⟩ ⟨"CrownTwo$CourtText", "takeEnding", "()Z"⟩ ∈ gw := gw_s (q := (⟨"CrownTwo$CourtText", "takeEnding", "()Z"⟩, _)) 7 rfl
theorem qs_8 : Cond.selects "CrownTwo$CourtText" ⟨"CrownTwo$CourtText", "laterItem", "(LCrownTwo$Court;)Z"⟩ ⟨"CrownTwo$CourtText", "laterItem", "(LCrownTwo$Court;)Z"⟩ ∈ gw := gw_s (q := (⟨"CrownTwo$CourtText", "laterItem", "(LCrownTwo$Court;)Z"⟩, _)) 8 rfl
theorem qs_9 : Cond.selects "CrownTwo$CourtText" ⟨"CrownTwo$CourtText", "heirItem", "(LCrownTwo$Court;)Z"⟩ ⟨"CrownTwo$CourtText", "heirItem", "(LCrownTwo$Court;)Z"⟩ ∈ gw := gw_s (q := (⟨"CrownTwo$CourtText", "heirItem", "(LCrownTwo$Court;)Z"⟩, _)) 9 rfl
theorem qs_10 : Cond.selects "CrownTwo$CourtText" ⟨"CrownTwo$CourtText", "heartItem", "(LCrownTwo$Court;Z)Z"⟩ ⟨"CrownTwo$CourtText", "heartItem", "(LCrownTwo$Court;Z)Z"⟩ ∈ gw := gw_s (q := (⟨"CrownTwo$CourtText", "heartItem", "(LCrownTwo$Court;Z)Z"⟩, _)) 10 rfl
theorem qs_11 : Cond.selects "CrownTwo$CourtText" ⟨"CrownTwo$CourtText", "pairItem", "(LCrownTwo$Court;)Z"⟩ ⟨"CrownTwo$CourtText", "pairItem", "(LCrownTwo$Court;)Z"⟩ ∈ gw := gw_s (q := (⟨"CrownTwo$CourtText", "pairItem", "(LCrownTwo$Court;)Z"⟩, _)) 11 rfl
theorem qs_12 : Cond.selects "CrownTwo$Court" ⟨"CrownTwo$Court", "forgetOldest", "()V"⟩ ⟨"CrownTwo$Court", "forgetOldest", "()V"⟩ ∈ gw := gw_s (q := (⟨"CrownTwo$Court", "forgetOldest", "()V"⟩, _)) 12 rfl
theorem qs_13 : Cond.selects "CrownTwo" ⟨"CrownTwo", "no", "()I"⟩ ⟨"CrownTwo", "no", "()I"⟩ ∈ gw := gw_s (q := (⟨"CrownTwo", "no", "()I"⟩, _)) 13 rfl
theorem qs_14 : Cond.selects "CrownTwo" ⟨"CrownTwo", "daysToFriends", "(I)I"⟩ ⟨"CrownTwo", "daysToFriends", "(I)I"⟩ ∈ gw := gw_s (q := (⟨"CrownTwo", "daysToFriends", "(I)I"⟩, _)) 14 rfl
theorem qs_15 : Cond.selects "CrownTwo" ⟨"CrownTwo", "tryFrom", "(III)V"⟩ ⟨"CrownTwo", "tryFrom", "(III)V"⟩ ∈ gw := gw_s (q := (⟨"CrownTwo", "tryFrom", "(III)V"⟩, _)) 15 rfl
theorem qs_16 : Cond.selects "CrownTwo" ⟨"CrownTwo", "staysQuarrelled", "(III)Z"⟩ ⟨"CrownTwo", "staysQuarrelled", "(III)Z"⟩ ∈ gw := gw_s (q := (⟨"CrownTwo", "staysQuarrelled", "(III)Z"⟩, _)) 16 rfl
theorem qs_17 : Cond.selects "CrownTwo" ⟨"CrownTwo", "lastingOf", "(II)I"⟩ ⟨"CrownTwo", "lastingOf", "(II)I"⟩ ∈ gw := gw_s (q := (⟨"CrownTwo", "lastingOf", "(II)I"⟩, _)) 17 rfl
theorem qs_18 : Cond.selects "CrownTwo" ⟨"CrownTwo", "bestPair", "()I"⟩ ⟨"CrownTwo", "bestPair", "()I"⟩ ∈ gw := gw_s (q := (⟨"CrownTwo", "bestPair", "()I"⟩, _)) 18 rfl
theorem qs_19 : Cond.selects "CrownTwo" ⟨"CrownTwo", "stuckPairs", "()I"⟩ ⟨"CrownTwo", "stuckPairs", "()I"⟩ ∈ gw := gw_s (q := (⟨"CrownTwo", "stuckPairs", "()I"⟩, _)) 19 rfl
theorem qs_20 : Cond.selects "CrownTwo" ⟨"CrownTwo", "kindsThatFit", "(I)I"⟩ ⟨"CrownTwo", "kindsThatFit", "(I)I"⟩ ∈ gw := gw_s (q := (⟨"CrownTwo", "kindsThatFit", "(I)I"⟩, _)) 20 rfl
theorem qs_21 : Cond.selects "CrownTwo" ⟨"CrownTwo", "setFraction", "(II)V"⟩ ⟨"CrownTwo", "setFraction", "(II)V"⟩ ∈ gw := gw_s (q := (⟨"CrownTwo", "setFraction", "(II)V"⟩, _)) 21 rfl
theorem qs_22 : Cond.selects "CrownTwo" ⟨"CrownTwo", "howMany", "(I)I"⟩ ⟨"CrownTwo", "howMany", "(I)I"⟩ ∈ gw := gw_s (q := (⟨"CrownTwo", "howMany", "(I)I"⟩, _)) 22 rfl
theorem qs_23 : Cond.selects "CrownTwoModel" ⟨"CrownTwoModel", "begin", "(I)V"⟩ ⟨"CrownTwoModel", "begin", "(I)V"⟩ ∈ gw := gw_s (q := (⟨"CrownTwoModel", "begin", "(I)V"⟩, _)) 23 rfl
theorem qs_24 : Cond.selects "CrownTwoModel" ⟨"CrownTwoModel", "bad", "()I"⟩ ⟨"CrownTwoModel", "bad", "()I"⟩ ∈ gw := gw_s (q := (⟨"CrownTwoModel", "bad", "()I"⟩, _)) 24 rfl
theorem qs_25 : Cond.selects "CrownTwoModel" ⟨"CrownTwoModel", "full", "()I"⟩ ⟨"CrownTwoModel", "full", "()I"⟩ ∈ gw := gw_s (q := (⟨"CrownTwoModel", "full", "()I"⟩, _)) 25 rfl
theorem qs_26 : Cond.selects "CrownTwoModel" ⟨"CrownTwoModel", "addHeir", "(IIII)I"⟩ ⟨"CrownTwoModel", "addHeir", "(IIII)I"⟩ ∈ gw := gw_s (q := (⟨"CrownTwoModel", "addHeir", "(IIII)I"⟩, _)) 26 rfl
theorem qs_27 : Cond.selects "CrownTwoModel" ⟨"CrownTwoModel", "readsCourt", "()I"⟩ ⟨"CrownTwoModel", "readsCourt", "()I"⟩ ∈ gw := gw_s (q := (⟨"CrownTwoModel", "readsCourt", "()I"⟩, _)) 27 rfl
theorem qs_28 : Cond.selects "CrownTwoModel" ⟨"CrownTwoModel", "readsFirst", "()Z"⟩ ⟨"CrownTwoModel", "readsFirst", "()Z"⟩ ∈ gw := gw_s (q := (⟨"CrownTwoModel", "readsFirst", "()Z"⟩, _)) 28 rfl
theorem qs_29 : Cond.selects "CrownTwoModel" ⟨"CrownTwoModel", "skip", "()V"⟩ ⟨"CrownTwoModel", "skip", "()V"⟩ ∈ gw := gw_s (q := (⟨"CrownTwoModel", "skip", "()V"⟩, _)) 29 rfl
theorem qs_30 : Cond.selects "CrownTwoModel" ⟨"CrownTwoModel", "here", "()I"⟩ ⟨"CrownTwoModel", "here", "()I"⟩ ∈ gw := gw_s (q := (⟨"CrownTwoModel", "here", "()I"⟩, _)) 30 rfl
theorem qs_31 : Cond.selects "CrownTwoModel" ⟨"CrownTwoModel", "wordHere", "()I"⟩ ⟨"CrownTwoModel", "wordHere", "()I"⟩ ∈ gw := gw_s (q := (⟨"CrownTwoModel", "wordHere", "()I"⟩, _)) 31 rfl
theorem qs_32 : Cond.selects "CrownTwoModel" ⟨"CrownTwoModel", "wordSize", "()I"⟩ ⟨"CrownTwoModel", "wordSize", "()I"⟩ ∈ gw := gw_s (q := (⟨"CrownTwoModel", "wordSize", "()I"⟩, _)) 32 rfl
theorem qs_33 : Cond.selects "CrownTwoModel" ⟨"CrownTwoModel", "letter", "(I)I"⟩ ⟨"CrownTwoModel", "letter", "(I)I"⟩ ∈ gw := gw_s (q := (⟨"CrownTwoModel", "letter", "(I)I"⟩, _)) 33 rfl
theorem qs_34 : Cond.selects "CrownTwoModel" ⟨"CrownTwoModel", "spells", "(IIII)Z"⟩ ⟨"CrownTwoModel", "spells", "(IIII)Z"⟩ ∈ gw := gw_s (q := (⟨"CrownTwoModel", "spells", "(IIII)Z"⟩, _)) 34 rfl
theorem qs_35 : Cond.selects "CrownTwoModel" ⟨"CrownTwoModel", "number", "(II)Z"⟩ ⟨"CrownTwoModel", "number", "(II)Z"⟩ ∈ gw := gw_s (q := (⟨"CrownTwoModel", "number", "(II)Z"⟩, _)) 35 rfl
theorem qs_36 : Cond.selects "CrownTwoModel" ⟨"CrownTwoModel", "ends", "()Z"⟩ ⟨"CrownTwoModel", "ends", "()Z"⟩ ∈ gw := gw_s (q := (⟨"CrownTwoModel", "ends", "()Z"⟩, _)) 36 rfl
theorem qs_37 : Cond.selects "CrownTwoModel" ⟨"CrownTwoModel", "readsItem", "()Z"⟩ ⟨"CrownTwoModel", "readsItem", "()Z"⟩ ∈ gw := gw_s (q := (⟨"CrownTwoModel", "readsItem", "()Z"⟩, _)) 37 rfl
theorem qs_38 : Cond.selects "CrownTwoModel" ⟨"CrownTwoModel", "readsHeir", "()Z"⟩ ⟨"CrownTwoModel", "readsHeir", "()Z"⟩ ∈ gw := gw_s (q := (⟨"CrownTwoModel", "readsHeir", "()Z"⟩, _)) 38 rfl
theorem qs_39 : Cond.selects "CrownTwoModel" ⟨"CrownTwoModel", "readsPair", "()Z"⟩ ⟨"CrownTwoModel", "readsPair", "()Z"⟩ ∈ gw := gw_s (q := (⟨"CrownTwoModel", "readsPair", "()Z"⟩, _)) 39 rfl
theorem qs_40 : Cond.selects "CrownTwoModel" ⟨"CrownTwoModel", "readsActs", "(I)Z"⟩ ⟨"CrownTwoModel", "readsActs", "(I)Z"⟩ ∈ gw := gw_s (q := (⟨"CrownTwoModel", "readsActs", "(I)Z"⟩, _)) 40 rfl
theorem qs_41 : Cond.selects "CrownTwoModel" ⟨"CrownTwoModel", "isHeir", "(I)Z"⟩ ⟨"CrownTwoModel", "isHeir", "(I)Z"⟩ ∈ gw := gw_s (q := (⟨"CrownTwoModel", "isHeir", "(I)Z"⟩, _)) 41 rfl
theorem qs_42 : Cond.selects "CrownTwoModel" ⟨"CrownTwoModel", "notes", "()V"⟩ ⟨"CrownTwoModel", "notes", "()V"⟩ ∈ gw := gw_s (q := (⟨"CrownTwoModel", "notes", "()V"⟩, _)) 42 rfl
theorem qs_43 : Cond.selects "CrownTwoModel" ⟨"CrownTwoModel", "lays", "([II)V"⟩ ⟨"CrownTwoModel", "lays", "([II)V"⟩ ∈ gw := gw_s (q := (⟨"CrownTwoModel", "lays", "([II)V"⟩, _)) 43 rfl
theorem qs_44 : Cond.selects "CrownTwoModel" ⟨"CrownTwoModel", "isPair", "()Z"⟩ ⟨"CrownTwoModel", "isPair", "()Z"⟩ ∈ gw := gw_s (q := (⟨"CrownTwoModel", "isPair", "()Z"⟩, _)) 44 rfl
theorem qs_45 : Cond.selects "CrownTwoModel" ⟨"CrownTwoModel", "no", "()I"⟩ ⟨"CrownTwoModel", "no", "()I"⟩ ∈ gw := gw_s (q := (⟨"CrownTwoModel", "no", "()I"⟩, _)) 45 rfl
theorem qs_46 : Cond.selects "CrownTwoModel" ⟨"CrownTwoModel", "asks", "(I)I"⟩ ⟨"CrownTwoModel", "asks", "(I)I"⟩ ∈ gw := gw_s (q := (⟨"CrownTwoModel", "asks", "(I)I"⟩, _)) 46 rfl
theorem qs_47 : Cond.selects "CrownTwoModel" ⟨"CrownTwoModel", "lifting", "(I)I"⟩ ⟨"CrownTwoModel", "lifting", "(I)I"⟩ ∈ gw := gw_s (q := (⟨"CrownTwoModel", "lifting", "(I)I"⟩, _)) 47 rfl
theorem qs_48 : Cond.selects "CrownTwoModel" ⟨"CrownTwoModel", "lifts", "(II)Z"⟩ ⟨"CrownTwoModel", "lifts", "(II)Z"⟩ ∈ gw := gw_s (q := (⟨"CrownTwoModel", "lifts", "(II)Z"⟩, _)) 48 rfl
theorem qs_49 : Cond.selects "CrownTwoModel" ⟨"CrownTwoModel", "heartOf", "(II)I"⟩ ⟨"CrownTwoModel", "heartOf", "(II)I"⟩ ∈ gw := gw_s (q := (⟨"CrownTwoModel", "heartOf", "(II)I"⟩, _)) 49 rfl
theorem qs_50 : Cond.selects "CrownTwoModel" ⟨"CrownTwoModel", "pass", "()V"⟩ ⟨"CrownTwoModel", "pass", "()V"⟩ ∈ gw := gw_s (q := (⟨"CrownTwoModel", "pass", "()V"⟩, _)) 50 rfl
theorem qs_51 : Cond.selects "CrownTwoModel" ⟨"CrownTwoModel", "growth", "()I"⟩ ⟨"CrownTwoModel", "growth", "()I"⟩ ∈ gw := gw_s (q := (⟨"CrownTwoModel", "growth", "()I"⟩, _)) 51 rfl
theorem qs_52 : Cond.selects "CrownTwoModel" ⟨"CrownTwoModel", "makesOf", "(I)I"⟩ ⟨"CrownTwoModel", "makesOf", "(I)I"⟩ ∈ gw := gw_s (q := (⟨"CrownTwoModel", "makesOf", "(I)I"⟩, _)) 52 rfl
theorem qs_53 : Cond.selects "CrownTwoModel" ⟨"CrownTwoModel", "takes", "([II)V"⟩ ⟨"CrownTwoModel", "takes", "([II)V"⟩ ∈ gw := gw_s (q := (⟨"CrownTwoModel", "takes", "([II)V"⟩, _)) 53 rfl
theorem qs_54 : Cond.selects "CrownTwoModel" ⟨"CrownTwoModel", "puts", "()V"⟩ ⟨"CrownTwoModel", "puts", "()V"⟩ ∈ gw := gw_s (q := (⟨"CrownTwoModel", "puts", "()V"⟩, _)) 54 rfl
theorem qs_55 : Cond.selects "CrownTwoModel" ⟨"CrownTwoModel", "bothSet", "()I"⟩ ⟨"CrownTwoModel", "bothSet", "()I"⟩ ∈ gw := gw_s (q := (⟨"CrownTwoModel", "bothSet", "()I"⟩, _)) 55 rfl
theorem qs_56 : Cond.selects "CrownTwoModel" ⟨"CrownTwoModel", "back", "()V"⟩ ⟨"CrownTwoModel", "back", "()V"⟩ ∈ gw := gw_s (q := (⟨"CrownTwoModel", "back", "()V"⟩, _)) 56 rfl
theorem qs_57 : Cond.selects "CrownTwoModel" ⟨"CrownTwoModel", "daysTill", "()I"⟩ ⟨"CrownTwoModel", "daysTill", "()I"⟩ ∈ gw := gw_s (q := (⟨"CrownTwoModel", "daysTill", "()I"⟩, _)) 57 rfl
theorem qs_58 : Cond.selects "CrownTwoModel" ⟨"CrownTwoModel", "ten", "()I"⟩ ⟨"CrownTwoModel", "ten", "()I"⟩ ∈ gw := gw_s (q := (⟨"CrownTwoModel", "ten", "()I"⟩, _)) 58 rfl
theorem qs_59 : Cond.selects "CrownTwoModel" ⟨"CrownTwoModel", "doneBy", "(II)I"⟩ ⟨"CrownTwoModel", "doneBy", "(II)I"⟩ ∈ gw := gw_s (q := (⟨"CrownTwoModel", "doneBy", "(II)I"⟩, _)) 59 rfl
theorem qs_60 : Cond.selects "CrownTwoModel" ⟨"CrownTwoModel", "lastsOf", "(II)I"⟩ ⟨"CrownTwoModel", "lastsOf", "(II)I"⟩ ∈ gw := gw_s (q := (⟨"CrownTwoModel", "lastsOf", "(II)I"⟩, _)) 60 rfl
theorem qs_61 : Cond.selects "CrownTwoModel" ⟨"CrownTwoModel", "areStuck", "(II)Z"⟩ ⟨"CrownTwoModel", "areStuck", "(II)Z"⟩ ∈ gw := gw_s (q := (⟨"CrownTwoModel", "areStuck", "(II)Z"⟩, _)) 61 rfl
theorem qs_62 : Cond.selects "CrownTwoModel" ⟨"CrownTwoModel", "kindsOf", "(I)I"⟩ ⟨"CrownTwoModel", "kindsOf", "(I)I"⟩ ∈ gw := gw_s (q := (⟨"CrownTwoModel", "kindsOf", "(I)I"⟩, _)) 62 rfl
theorem qs_63 : Cond.selects "CrownTwoModel" ⟨"CrownTwoModel", "isSo", "(IIII)Z"⟩ ⟨"CrownTwoModel", "isSo", "(IIII)Z"⟩ ∈ gw := gw_s (q := (⟨"CrownTwoModel", "isSo", "(IIII)Z"⟩, _)) 63 rfl
theorem qs_64 : Cond.selects "CrownTwoModel" ⟨"CrownTwoModel", "greaterPart", "(III)I"⟩ ⟨"CrownTwoModel", "greaterPart", "(III)I"⟩ ∈ gw := gw_s (q := (⟨"CrownTwoModel", "greaterPart", "(III)I"⟩, _)) 64 rfl
theorem qs_65 : Cond.selects "CrownTwoModel" ⟨"CrownTwoModel", "gets", "(IIZZ)I"⟩ ⟨"CrownTwoModel", "gets", "(IIZZ)I"⟩ ∈ gw := gw_s (q := (⟨"CrownTwoModel", "gets", "(IIZZ)I"⟩, _)) 65 rfl
theorem qs_66 : Cond.selects "CrownTwoModel" ⟨"CrownTwoModel", "lay", "(JJ)V"⟩ ⟨"CrownTwoModel", "lay", "(JJ)V"⟩ ∈ gw := gw_s (q := (⟨"CrownTwoModel", "lay", "(JJ)V"⟩, _)) 66 rfl
theorem qs_67 : Cond.selects "CrownTwoModel" ⟨"CrownTwoModel", "countOf", "(I)I"⟩ ⟨"CrownTwoModel", "countOf", "(I)I"⟩ ∈ gw := gw_s (q := (⟨"CrownTwoModel", "countOf", "(I)I"⟩, _)) 67 rfl
theorem qs_68 : Cond.selects "CrownTwoModel" ⟨"CrownTwoModel", "mix", "(J)V"⟩ ⟨"CrownTwoModel", "mix", "(J)V"⟩ ∈ gw := gw_s (q := (⟨"CrownTwoModel", "mix", "(J)V"⟩, _)) 68 rfl
end
section
theorem dX0_init_0 : decode cX0_init 0 = .ok (.aload_n 0, 1) := by decide +kernel
theorem dX0_init_1 : decode cX0_init 1 = .ok (.invokespecial 3, 3) := by decide +kernel
theorem dX0_init_4 : decode cX0_init 4 = .ok (.aload_n 0, 1) := by decide +kernel
theorem dX0_init_5 : decode cX0_init 5 = .ok (.bipush 6, 2) := by decide +kernel
theorem dX0_init_7 : decode cX0_init 7 = .ok (.anewarray 9, 3) := by decide +kernel
theorem dX0_init_10 : decode cX0_init 10 = .ok (.putfield 11, 3) := by decide +kernel
theorem dX0_init_13 : decode cX0_init 13 = .ok (.aload_n 0, 1) := by decide +kernel
theorem dX0_init_14 : decode cX0_init 14 = .ok (.bipush 6, 2) := by decide +kernel
theorem dX0_init_16 : decode cX0_init 16 = .ok (.anewarray 17, 3) := by decide +kernel
theorem dX0_init_19 : decode cX0_init 19 = .ok (.putfield 19, 3) := by decide +kernel
theorem dX0_init_22 : decode cX0_init 22 = .ok (.aload_n 0, 1) := by decide +kernel
theorem dX0_init_23 : decode cX0_init 23 = .ok (.bipush 8, 2) := by decide +kernel
theorem dX0_init_25 : decode cX0_init 25 = .ok (.anewarray 23, 3) := by decide +kernel
theorem dX0_init_28 : decode cX0_init 28 = .ok (.putfield 25, 3) := by decide +kernel
theorem dX0_init_31 : decode cX0_init 31 = .ok (.aload_n 0, 1) := by decide +kernel
theorem dX0_init_32 : decode cX0_init 32 = .ok (.new 23, 3) := by decide +kernel
theorem dX0_init_35 : decode cX0_init 35 = .ok (.dup, 1) := by decide +kernel
theorem dX0_init_36 : decode cX0_init 36 = .ok (.invokespecial 29, 3) := by decide +kernel
theorem dX0_init_39 : decode cX0_init 39 = .ok (.putfield 30, 3) := by decide +kernel
theorem dX0_init_42 : decode cX0_init 42 = .ok (.aload_n 0, 1) := by decide +kernel
theorem dX0_init_43 : decode cX0_init 43 = .ok (.iconst 0, 1) := by decide +kernel
theorem dX0_init_44 : decode cX0_init 44 = .ok (.putfield 34, 3) := by decide +kernel
theorem dX0_init_47 : decode cX0_init 47 = .ok (.aload_n 0, 1) := by decide +kernel
theorem dX0_init_48 : decode cX0_init 48 = .ok (.iconst 0, 1) := by decide +kernel
theorem dX0_init_49 : decode cX0_init 49 = .ok (.putfield 38, 3) := by decide +kernel
theorem dX0_init_52 : decode cX0_init 52 = .ok (.aload_n 0, 1) := by decide +kernel
theorem dX0_init_53 : decode cX0_init 53 = .ok (.iconst 0, 1) := by decide +kernel
theorem dX0_init_54 : decode cX0_init 54 = .ok (.putfield 41, 3) := by decide +kernel
theorem dX0_init_57 : decode cX0_init 57 = .ok (.aload_n 0, 1) := by decide +kernel
theorem dX0_init_58 : decode cX0_init 58 = .ok (.aload_n 1, 1) := by decide +kernel
theorem dX0_init_59 : decode cX0_init 59 = .ok (.putfield 44, 3) := by decide +kernel
theorem dX0_init_62 : decode cX0_init 62 = .ok (.iconst 0, 1) := by decide +kernel
theorem dX0_init_63 : decode cX0_init 63 = .ok (.istore_n 2, 1) := by decide +kernel
theorem dX0_init_64 : decode cX0_init 64 = .ok (.iload_n 2, 1) := by decide +kernel
theorem dX0_init_65 : decode cX0_init 65 = .ok (.bipush 6, 2) := by decide +kernel
theorem dX0_init_67 : decode cX0_init 67 = .ok (.if_icmp .ge 22, 3) := by decide +kernel
theorem dX0_init_70 : decode cX0_init 70 = .ok (.aload_n 0, 1) := by decide +kernel
theorem dX0_init_71 : decode cX0_init 71 = .ok (.getfield 11, 3) := by decide +kernel
theorem dX0_init_74 : decode cX0_init 74 = .ok (.iload_n 2, 1) := by decide +kernel
theorem dX0_init_75 : decode cX0_init 75 = .ok (.new 9, 3) := by decide +kernel
theorem dX0_init_78 : decode cX0_init 78 = .ok (.dup, 1) := by decide +kernel
theorem dX0_init_79 : decode cX0_init 79 = .ok (.invokespecial 48, 3) := by decide +kernel
theorem dX0_init_82 : decode cX0_init 82 = .ok (.aastore, 1) := by decide +kernel
theorem dX0_init_83 : decode cX0_init 83 = .ok (.iinc 2 1, 3) := by decide +kernel
theorem dX0_init_86 : decode cX0_init 86 = .ok (.goto (-22), 3) := by decide +kernel
theorem dX0_init_89 : decode cX0_init 89 = .ok (.iconst 0, 1) := by decide +kernel
theorem dX0_init_90 : decode cX0_init 90 = .ok (.istore_n 2, 1) := by decide +kernel
theorem dX0_init_91 : decode cX0_init 91 = .ok (.iload_n 2, 1) := by decide +kernel
theorem dX0_init_92 : decode cX0_init 92 = .ok (.bipush 6, 2) := by decide +kernel
theorem dX0_init_94 : decode cX0_init 94 = .ok (.if_icmp .ge 22, 3) := by decide +kernel
theorem dX0_init_97 : decode cX0_init 97 = .ok (.aload_n 0, 1) := by decide +kernel
theorem dX0_init_98 : decode cX0_init 98 = .ok (.getfield 19, 3) := by decide +kernel
theorem dX0_init_101 : decode cX0_init 101 = .ok (.iload_n 2, 1) := by decide +kernel
theorem dX0_init_102 : decode cX0_init 102 = .ok (.new 17, 3) := by decide +kernel
theorem dX0_init_105 : decode cX0_init 105 = .ok (.dup, 1) := by decide +kernel
theorem dX0_init_106 : decode cX0_init 106 = .ok (.invokespecial 49, 3) := by decide +kernel
theorem dX0_init_109 : decode cX0_init 109 = .ok (.aastore, 1) := by decide +kernel
theorem dX0_init_110 : decode cX0_init 110 = .ok (.iinc 2 1, 3) := by decide +kernel
theorem dX0_init_113 : decode cX0_init 113 = .ok (.goto (-22), 3) := by decide +kernel
theorem dX0_init_116 : decode cX0_init 116 = .ok (.iconst 0, 1) := by decide +kernel
theorem dX0_init_117 : decode cX0_init 117 = .ok (.istore_n 2, 1) := by decide +kernel
theorem dX0_init_118 : decode cX0_init 118 = .ok (.iload_n 2, 1) := by decide +kernel
theorem dX0_init_119 : decode cX0_init 119 = .ok (.bipush 8, 2) := by decide +kernel
theorem dX0_init_121 : decode cX0_init 121 = .ok (.if_icmp .ge 22, 3) := by decide +kernel
theorem dX0_init_124 : decode cX0_init 124 = .ok (.aload_n 0, 1) := by decide +kernel
theorem dX0_init_125 : decode cX0_init 125 = .ok (.getfield 25, 3) := by decide +kernel
theorem dX0_init_128 : decode cX0_init 128 = .ok (.iload_n 2, 1) := by decide +kernel
theorem dX0_init_129 : decode cX0_init 129 = .ok (.new 23, 3) := by decide +kernel
theorem dX0_init_132 : decode cX0_init 132 = .ok (.dup, 1) := by decide +kernel
theorem dX0_init_133 : decode cX0_init 133 = .ok (.invokespecial 29, 3) := by decide +kernel
theorem dX0_init_136 : decode cX0_init 136 = .ok (.aastore, 1) := by decide +kernel
theorem dX0_init_137 : decode cX0_init 137 = .ok (.iinc 2 1, 3) := by decide +kernel
theorem dX0_init_140 : decode cX0_init 140 = .ok (.goto (-22), 3) := by decide +kernel
theorem dX0_init_143 : decode cX0_init 143 = .ok (.return_, 1) := by decide +kernel
theorem dX0_begin_0 : decode cX0_begin 0 = .ok (.aload_n 0, 1) := by decide +kernel
theorem dX0_begin_1 : decode cX0_begin 1 = .ok (.getfield 30, 3) := by decide +kernel
theorem dX0_begin_4 : decode cX0_begin 4 = .ok (.iload_n 1, 1) := by decide +kernel
theorem dX0_begin_5 : decode cX0_begin 5 = .ok (.invokevirtual 50, 3) := by decide +kernel
theorem dX0_begin_8 : decode cX0_begin 8 = .ok (.aload_n 0, 1) := by decide +kernel
theorem dX0_begin_9 : decode cX0_begin 9 = .ok (.iconst 0, 1) := by decide +kernel
theorem dX0_begin_10 : decode cX0_begin 10 = .ok (.putfield 34, 3) := by decide +kernel
theorem dX0_begin_13 : decode cX0_begin 13 = .ok (.aload_n 0, 1) := by decide +kernel
theorem dX0_begin_14 : decode cX0_begin 14 = .ok (.iconst 0, 1) := by decide +kernel
theorem dX0_begin_15 : decode cX0_begin 15 = .ok (.putfield 38, 3) := by decide +kernel
theorem dX0_begin_18 : decode cX0_begin 18 = .ok (.aload_n 0, 1) := by decide +kernel
theorem dX0_begin_19 : decode cX0_begin 19 = .ok (.iconst 0, 1) := by decide +kernel
theorem dX0_begin_20 : decode cX0_begin 20 = .ok (.putfield 41, 3) := by decide +kernel
theorem dX0_begin_23 : decode cX0_begin 23 = .ok (.return_, 1) := by decide +kernel
theorem dX0_become_0 : decode cX0_become 0 = .ok (.aload_n 0, 1) := by decide +kernel
theorem dX0_become_1 : decode cX0_become 1 = .ok (.getfield 30, 3) := by decide +kernel
theorem dX0_become_4 : decode cX0_become 4 = .ok (.aload_n 1, 1) := by decide +kernel
theorem dX0_become_5 : decode cX0_become 5 = .ok (.getfield 30, 3) := by decide +kernel
theorem dX0_become_8 : decode cX0_become 8 = .ok (.invokevirtual 54, 3) := by decide +kernel
theorem dX0_become_11 : decode cX0_become 11 = .ok (.aload_n 0, 1) := by decide +kernel
theorem dX0_become_12 : decode cX0_become 12 = .ok (.aload_n 1, 1) := by decide +kernel
theorem dX0_become_13 : decode cX0_become 13 = .ok (.getfield 34, 3) := by decide +kernel
theorem dX0_become_16 : decode cX0_become 16 = .ok (.putfield 34, 3) := by decide +kernel
theorem dX0_become_19 : decode cX0_become 19 = .ok (.aload_n 0, 1) := by decide +kernel
theorem dX0_become_20 : decode cX0_become 20 = .ok (.aload_n 1, 1) := by decide +kernel
theorem dX0_become_21 : decode cX0_become 21 = .ok (.getfield 38, 3) := by decide +kernel
theorem dX0_become_24 : decode cX0_become 24 = .ok (.putfield 38, 3) := by decide +kernel
theorem dX0_become_27 : decode cX0_become 27 = .ok (.aload_n 0, 1) := by decide +kernel
theorem dX0_become_28 : decode cX0_become 28 = .ok (.aload_n 1, 1) := by decide +kernel
theorem dX0_become_29 : decode cX0_become 29 = .ok (.getfield 41, 3) := by decide +kernel
theorem dX0_become_32 : decode cX0_become 32 = .ok (.putfield 41, 3) := by decide +kernel
theorem dX0_become_35 : decode cX0_become 35 = .ok (.iconst 0, 1) := by decide +kernel
theorem dX0_become_36 : decode cX0_become 36 = .ok (.istore_n 2, 1) := by decide +kernel
theorem dX0_become_37 : decode cX0_become 37 = .ok (.iload_n 2, 1) := by decide +kernel
theorem dX0_become_38 : decode cX0_become 38 = .ok (.aload_n 0, 1) := by decide +kernel
theorem dX0_become_39 : decode cX0_become 39 = .ok (.getfield 34, 3) := by decide +kernel
theorem dX0_become_42 : decode cX0_become 42 = .ok (.if_icmp .ge 24, 3) := by decide +kernel
theorem dX0_become_45 : decode cX0_become 45 = .ok (.aload_n 0, 1) := by decide +kernel
theorem dX0_become_46 : decode cX0_become 46 = .ok (.getfield 11, 3) := by decide +kernel
theorem dX0_become_49 : decode cX0_become 49 = .ok (.iload_n 2, 1) := by decide +kernel
theorem dX0_become_50 : decode cX0_become 50 = .ok (.aaload, 1) := by decide +kernel
theorem dX0_become_51 : decode cX0_become 51 = .ok (.aload_n 1, 1) := by decide +kernel
theorem dX0_become_52 : decode cX0_become 52 = .ok (.getfield 11, 3) := by decide +kernel
theorem dX0_become_55 : decode cX0_become 55 = .ok (.iload_n 2, 1) := by decide +kernel
theorem dX0_become_56 : decode cX0_become 56 = .ok (.aaload, 1) := by decide +kernel
theorem dX0_become_57 : decode cX0_become 57 = .ok (.invokevirtual 58, 3) := by decide +kernel
theorem dX0_become_60 : decode cX0_become 60 = .ok (.iinc 2 1, 3) := by decide +kernel
theorem dX0_become_63 : decode cX0_become 63 = .ok (.goto (-26), 3) := by decide +kernel
theorem dX0_become_66 : decode cX0_become 66 = .ok (.iconst 0, 1) := by decide +kernel
theorem dX0_become_67 : decode cX0_become 67 = .ok (.istore_n 2, 1) := by decide +kernel
theorem dX0_become_68 : decode cX0_become 68 = .ok (.iload_n 2, 1) := by decide +kernel
theorem dX0_become_69 : decode cX0_become 69 = .ok (.aload_n 0, 1) := by decide +kernel
theorem dX0_become_70 : decode cX0_become 70 = .ok (.getfield 38, 3) := by decide +kernel
theorem dX0_become_73 : decode cX0_become 73 = .ok (.if_icmp .ge 24, 3) := by decide +kernel
theorem dX0_become_76 : decode cX0_become 76 = .ok (.aload_n 0, 1) := by decide +kernel
theorem dX0_become_77 : decode cX0_become 77 = .ok (.getfield 19, 3) := by decide +kernel
theorem dX0_become_80 : decode cX0_become 80 = .ok (.iload_n 2, 1) := by decide +kernel
theorem dX0_become_81 : decode cX0_become 81 = .ok (.aaload, 1) := by decide +kernel
theorem dX0_become_82 : decode cX0_become 82 = .ok (.aload_n 1, 1) := by decide +kernel
theorem dX0_become_83 : decode cX0_become 83 = .ok (.getfield 19, 3) := by decide +kernel
theorem dX0_become_86 : decode cX0_become 86 = .ok (.iload_n 2, 1) := by decide +kernel
theorem dX0_become_87 : decode cX0_become 87 = .ok (.aaload, 1) := by decide +kernel
theorem dX0_become_88 : decode cX0_become 88 = .ok (.invokevirtual 61, 3) := by decide +kernel
theorem dX0_become_91 : decode cX0_become 91 = .ok (.iinc 2 1, 3) := by decide +kernel
theorem dX0_become_94 : decode cX0_become 94 = .ok (.goto (-26), 3) := by decide +kernel
theorem dX0_become_97 : decode cX0_become 97 = .ok (.iconst 0, 1) := by decide +kernel
theorem dX0_become_98 : decode cX0_become 98 = .ok (.istore_n 2, 1) := by decide +kernel
theorem dX0_become_99 : decode cX0_become 99 = .ok (.iload_n 2, 1) := by decide +kernel
theorem dX0_become_100 : decode cX0_become 100 = .ok (.aload_n 0, 1) := by decide +kernel
theorem dX0_become_101 : decode cX0_become 101 = .ok (.getfield 41, 3) := by decide +kernel
theorem dX0_become_104 : decode cX0_become 104 = .ok (.if_icmp .ge 24, 3) := by decide +kernel
theorem dX0_become_107 : decode cX0_become 107 = .ok (.aload_n 0, 1) := by decide +kernel
theorem dX0_become_108 : decode cX0_become 108 = .ok (.getfield 25, 3) := by decide +kernel
theorem dX0_become_111 : decode cX0_become 111 = .ok (.iload_n 2, 1) := by decide +kernel
theorem dX0_become_112 : decode cX0_become 112 = .ok (.aaload, 1) := by decide +kernel
theorem dX0_become_113 : decode cX0_become 113 = .ok (.aload_n 1, 1) := by decide +kernel
theorem dX0_become_114 : decode cX0_become 114 = .ok (.getfield 25, 3) := by decide +kernel
theorem dX0_become_117 : decode cX0_become 117 = .ok (.iload_n 2, 1) := by decide +kernel
theorem dX0_become_118 : decode cX0_become 118 = .ok (.aaload, 1) := by decide +kernel
theorem dX0_become_119 : decode cX0_become 119 = .ok (.invokevirtual 54, 3) := by decide +kernel
theorem dX0_become_122 : decode cX0_become 122 = .ok (.iinc 2 1, 3) := by decide +kernel
theorem dX0_become_125 : decode cX0_become 125 = .ok (.goto (-26), 3) := by decide +kernel
theorem dX0_become_128 : decode cX0_become 128 = .ok (.return_, 1) := by decide +kernel
theorem dX0_has_0 : decode cX0_has 0 = .ok (.iload_n 1, 1) := by decide +kernel
theorem dX0_has_1 : decode cX0_has 1 = .ok (.ifCond .lt 15, 3) := by decide +kernel
theorem dX0_has_4 : decode cX0_has 4 = .ok (.iload_n 1, 1) := by decide +kernel
theorem dX0_has_5 : decode cX0_has 5 = .ok (.aload_n 0, 1) := by decide +kernel
theorem dX0_has_6 : decode cX0_has 6 = .ok (.getfield 34, 3) := by decide +kernel
theorem dX0_has_9 : decode cX0_has 9 = .ok (.if_icmp .ge 7, 3) := by decide +kernel
theorem dX0_has_12 : decode cX0_has 12 = .ok (.iconst 1, 1) := by decide +kernel
theorem dX0_has_13 : decode cX0_has 13 = .ok (.goto 4, 3) := by decide +kernel
theorem dX0_has_16 : decode cX0_has 16 = .ok (.iconst 0, 1) := by decide +kernel
theorem dX0_has_17 : decode cX0_has 17 = .ok (.ireturn, 1) := by decide +kernel
theorem dX0_hasTwo_0 : decode cX0_hasTwo 0 = .ok (.aload_n 0, 1) := by decide +kernel
theorem dX0_hasTwo_1 : decode cX0_hasTwo 1 = .ok (.iload_n 1, 1) := by decide +kernel
theorem dX0_hasTwo_2 : decode cX0_hasTwo 2 = .ok (.invokevirtual 64, 3) := by decide +kernel
theorem dX0_hasTwo_5 : decode cX0_hasTwo 5 = .ok (.ifCond .eq 20, 3) := by decide +kernel
theorem dX0_hasTwo_8 : decode cX0_hasTwo 8 = .ok (.aload_n 0, 1) := by decide +kernel
theorem dX0_hasTwo_9 : decode cX0_hasTwo 9 = .ok (.iload_n 2, 1) := by decide +kernel
theorem dX0_hasTwo_10 : decode cX0_hasTwo 10 = .ok (.invokevirtual 64, 3) := by decide +kernel
theorem dX0_hasTwo_13 : decode cX0_hasTwo 13 = .ok (.ifCond .eq 12, 3) := by decide +kernel
theorem dX0_hasTwo_16 : decode cX0_hasTwo 16 = .ok (.iload_n 1, 1) := by decide +kernel
theorem dX0_hasTwo_17 : decode cX0_hasTwo 17 = .ok (.iload_n 2, 1) := by decide +kernel
theorem dX0_hasTwo_18 : decode cX0_hasTwo 18 = .ok (.if_icmp .eq 7, 3) := by decide +kernel
theorem dX0_hasTwo_21 : decode cX0_hasTwo 21 = .ok (.iconst 1, 1) := by decide +kernel
theorem dX0_hasTwo_22 : decode cX0_hasTwo 22 = .ok (.goto 4, 3) := by decide +kernel
theorem dX0_hasTwo_25 : decode cX0_hasTwo 25 = .ok (.iconst 0, 1) := by decide +kernel
theorem dX0_hasTwo_26 : decode cX0_hasTwo 26 = .ok (.ireturn, 1) := by decide +kernel
theorem dX0_admit_0 : decode cX0_admit 0 = .ok (.aload_n 0, 1) := by decide +kernel
theorem dX0_admit_1 : decode cX0_admit 1 = .ok (.getfield 34, 3) := by decide +kernel
theorem dX0_admit_4 : decode cX0_admit 4 = .ok (.bipush 6, 2) := by decide +kernel
theorem dX0_admit_6 : decode cX0_admit 6 = .ok (.if_icmp .lt 6, 3) := by decide +kernel
theorem dX0_admit_9 : decode cX0_admit 9 = .ok (.bipush (-4), 2) := by decide +kernel
theorem dX0_admit_11 : decode cX0_admit 11 = .ok (.ireturn, 1) := by decide +kernel
theorem dX0_admit_12 : decode cX0_admit 12 = .ok (.aload_n 0, 1) := by decide +kernel
theorem dX0_admit_13 : decode cX0_admit 13 = .ok (.getfield 11, 3) := by decide +kernel
theorem dX0_admit_16 : decode cX0_admit 16 = .ok (.aload_n 0, 1) := by decide +kernel
theorem dX0_admit_17 : decode cX0_admit 17 = .ok (.getfield 34, 3) := by decide +kernel
theorem dX0_admit_20 : decode cX0_admit 20 = .ok (.aaload, 1) := by decide +kernel
theorem dX0_admit_21 : decode cX0_admit 21 = .ok (.iload_n 1, 1) := by decide +kernel
theorem dX0_admit_22 : decode cX0_admit 22 = .ok (.iload_n 2, 1) := by decide +kernel
theorem dX0_admit_23 : decode cX0_admit 23 = .ok (.iload_n 3, 1) := by decide +kernel
theorem dX0_admit_24 : decode cX0_admit 24 = .ok (.iload 4, 2) := by decide +kernel
theorem dX0_admit_26 : decode cX0_admit 26 = .ok (.invokevirtual 68, 3) := by decide +kernel
theorem dX0_admit_29 : decode cX0_admit 29 = .ok (.aload_n 0, 1) := by decide +kernel
theorem dX0_admit_30 : decode cX0_admit 30 = .ok (.iconst 0, 1) := by decide +kernel
theorem dX0_admit_31 : decode cX0_admit 31 = .ok (.putfield 41, 3) := by decide +kernel
theorem dX0_admit_34 : decode cX0_admit 34 = .ok (.aload_n 0, 1) := by decide +kernel
theorem dX0_admit_35 : decode cX0_admit 35 = .ok (.dup, 1) := by decide +kernel
theorem dX0_admit_36 : decode cX0_admit 36 = .ok (.getfield 34, 3) := by decide +kernel
theorem dX0_admit_39 : decode cX0_admit 39 = .ok (.iconst 1, 1) := by decide +kernel
theorem dX0_admit_40 : decode cX0_admit 40 = .ok (.iadd, 1) := by decide +kernel
theorem dX0_admit_41 : decode cX0_admit 41 = .ok (.putfield 34, 3) := by decide +kernel
theorem dX0_admit_44 : decode cX0_admit 44 = .ok (.aload_n 0, 1) := by decide +kernel
theorem dX0_admit_45 : decode cX0_admit 45 = .ok (.getfield 34, 3) := by decide +kernel
theorem dX0_admit_48 : decode cX0_admit 48 = .ok (.iconst 1, 1) := by decide +kernel
theorem dX0_admit_49 : decode cX0_admit 49 = .ok (.isub, 1) := by decide +kernel
theorem dX0_admit_50 : decode cX0_admit 50 = .ok (.ireturn, 1) := by decide +kernel
theorem dX0_remember_0 : decode cX0_remember 0 = .ok (.aload_n 0, 1) := by decide +kernel
theorem dX0_remember_1 : decode cX0_remember 1 = .ok (.getfield 41, 3) := by decide +kernel
theorem dX0_remember_4 : decode cX0_remember 4 = .ok (.bipush 8, 2) := by decide +kernel
theorem dX0_remember_6 : decode cX0_remember 6 = .ok (.if_icmp .lt 7, 3) := by decide +kernel
theorem dX0_remember_9 : decode cX0_remember 9 = .ok (.aload_n 0, 1) := by decide +kernel
theorem dX0_remember_10 : decode cX0_remember 10 = .ok (.invokevirtual 72, 3) := by decide +kernel
theorem dX0_remember_13 : decode cX0_remember 13 = .ok (.aload_n 0, 1) := by decide +kernel
theorem dX0_remember_14 : decode cX0_remember 14 = .ok (.getfield 25, 3) := by decide +kernel
theorem dX0_remember_17 : decode cX0_remember 17 = .ok (.aload_n 0, 1) := by decide +kernel
theorem dX0_remember_18 : decode cX0_remember 18 = .ok (.getfield 41, 3) := by decide +kernel
theorem dX0_remember_21 : decode cX0_remember 21 = .ok (.aaload, 1) := by decide +kernel
theorem dX0_remember_22 : decode cX0_remember 22 = .ok (.aload_n 0, 1) := by decide +kernel
theorem dX0_remember_23 : decode cX0_remember 23 = .ok (.getfield 30, 3) := by decide +kernel
theorem dX0_remember_26 : decode cX0_remember 26 = .ok (.invokevirtual 54, 3) := by decide +kernel
theorem dX0_remember_29 : decode cX0_remember 29 = .ok (.aload_n 0, 1) := by decide +kernel
theorem dX0_remember_30 : decode cX0_remember 30 = .ok (.dup, 1) := by decide +kernel
theorem dX0_remember_31 : decode cX0_remember 31 = .ok (.getfield 41, 3) := by decide +kernel
theorem dX0_remember_34 : decode cX0_remember 34 = .ok (.iconst 1, 1) := by decide +kernel
theorem dX0_remember_35 : decode cX0_remember 35 = .ok (.iadd, 1) := by decide +kernel
theorem dX0_remember_36 : decode cX0_remember 36 = .ok (.putfield 41, 3) := by decide +kernel
theorem dX0_remember_39 : decode cX0_remember 39 = .ok (.return_, 1) := by decide +kernel
theorem dX0_forgetOldest_0 : decode cX0_forgetOldest 0 = .ok (.iconst 1, 1) := by decide +kernel
theorem dX0_forgetOldest_1 : decode cX0_forgetOldest 1 = .ok (.istore_n 1, 1) := by decide +kernel
theorem dX0_forgetOldest_2 : decode cX0_forgetOldest 2 = .ok (.iload_n 1, 1) := by decide +kernel
theorem dX0_forgetOldest_3 : decode cX0_forgetOldest 3 = .ok (.bipush 8, 2) := by decide +kernel
theorem dX0_forgetOldest_5 : decode cX0_forgetOldest 5 = .ok (.if_icmp .ge 26, 3) := by decide +kernel
theorem dX0_forgetOldest_8 : decode cX0_forgetOldest 8 = .ok (.aload_n 0, 1) := by decide +kernel
theorem dX0_forgetOldest_9 : decode cX0_forgetOldest 9 = .ok (.getfield 25, 3) := by decide +kernel
theorem dX0_forgetOldest_12 : decode cX0_forgetOldest 12 = .ok (.iload_n 1, 1) := by decide +kernel
theorem dX0_forgetOldest_13 : decode cX0_forgetOldest 13 = .ok (.iconst 1, 1) := by decide +kernel
theorem dX0_forgetOldest_14 : decode cX0_forgetOldest 14 = .ok (.isub, 1) := by decide +kernel
theorem dX0_forgetOldest_15 : decode cX0_forgetOldest 15 = .ok (.aaload, 1) := by decide +kernel
theorem dX0_forgetOldest_16 : decode cX0_forgetOldest 16 = .ok (.aload_n 0, 1) := by decide +kernel
theorem dX0_forgetOldest_17 : decode cX0_forgetOldest 17 = .ok (.getfield 25, 3) := by decide +kernel
theorem dX0_forgetOldest_20 : decode cX0_forgetOldest 20 = .ok (.iload_n 1, 1) := by decide +kernel
theorem dX0_forgetOldest_21 : decode cX0_forgetOldest 21 = .ok (.aaload, 1) := by decide +kernel
theorem dX0_forgetOldest_22 : decode cX0_forgetOldest 22 = .ok (.invokevirtual 54, 3) := by decide +kernel
theorem dX0_forgetOldest_25 : decode cX0_forgetOldest 25 = .ok (.iinc 1 1, 3) := by decide +kernel
theorem dX0_forgetOldest_28 : decode cX0_forgetOldest 28 = .ok (.goto (-26), 3) := by decide +kernel
theorem dX0_forgetOldest_31 : decode cX0_forgetOldest 31 = .ok (.aload_n 0, 1) := by decide +kernel
theorem dX0_forgetOldest_32 : decode cX0_forgetOldest 32 = .ok (.bipush 7, 2) := by decide +kernel
theorem dX0_forgetOldest_34 : decode cX0_forgetOldest 34 = .ok (.putfield 41, 3) := by decide +kernel
theorem dX0_forgetOldest_37 : decode cX0_forgetOldest 37 = .ok (.return_, 1) := by decide +kernel
theorem dX0_goBack_0 : decode cX0_goBack 0 = .ok (.aload_n 0, 1) := by decide +kernel
theorem dX0_goBack_1 : decode cX0_goBack 1 = .ok (.getfield 41, 3) := by decide +kernel
theorem dX0_goBack_4 : decode cX0_goBack 4 = .ok (.ifCond .gt 4, 3) := by decide +kernel
theorem dX0_goBack_7 : decode cX0_goBack 7 = .ok (.return_, 1) := by decide +kernel
theorem dX0_goBack_8 : decode cX0_goBack 8 = .ok (.aload_n 0, 1) := by decide +kernel
theorem dX0_goBack_9 : decode cX0_goBack 9 = .ok (.dup, 1) := by decide +kernel
theorem dX0_goBack_10 : decode cX0_goBack 10 = .ok (.getfield 41, 3) := by decide +kernel
theorem dX0_goBack_13 : decode cX0_goBack 13 = .ok (.iconst 1, 1) := by decide +kernel
theorem dX0_goBack_14 : decode cX0_goBack 14 = .ok (.isub, 1) := by decide +kernel
theorem dX0_goBack_15 : decode cX0_goBack 15 = .ok (.putfield 41, 3) := by decide +kernel
theorem dX0_goBack_18 : decode cX0_goBack 18 = .ok (.aload_n 0, 1) := by decide +kernel
theorem dX0_goBack_19 : decode cX0_goBack 19 = .ok (.getfield 30, 3) := by decide +kernel
theorem dX0_goBack_22 : decode cX0_goBack 22 = .ok (.aload_n 0, 1) := by decide +kernel
theorem dX0_goBack_23 : decode cX0_goBack 23 = .ok (.getfield 25, 3) := by decide +kernel
theorem dX0_goBack_26 : decode cX0_goBack 26 = .ok (.aload_n 0, 1) := by decide +kernel
theorem dX0_goBack_27 : decode cX0_goBack 27 = .ok (.getfield 41, 3) := by decide +kernel
theorem dX0_goBack_30 : decode cX0_goBack 30 = .ok (.aaload, 1) := by decide +kernel
theorem dX0_goBack_31 : decode cX0_goBack 31 = .ok (.invokevirtual 54, 3) := by decide +kernel
theorem dX0_goBack_34 : decode cX0_goBack 34 = .ok (.return_, 1) := by decide +kernel
theorem dX0_addedBy_0 : decode cX0_addedBy 0 = .ok (.aload_n 0, 1) := by decide +kernel
theorem dX0_addedBy_1 : decode cX0_addedBy 1 = .ok (.getfield 11, 3) := by decide +kernel
theorem dX0_addedBy_4 : decode cX0_addedBy 4 = .ok (.iload_n 1, 1) := by decide +kernel
theorem dX0_addedBy_5 : decode cX0_addedBy 5 = .ok (.aaload, 1) := by decide +kernel
theorem dX0_addedBy_6 : decode cX0_addedBy 6 = .ok (.astore_n 2, 1) := by decide +kernel
theorem dX0_addedBy_7 : decode cX0_addedBy 7 = .ok (.aload_n 0, 1) := by decide +kernel
theorem dX0_addedBy_8 : decode cX0_addedBy 8 = .ok (.getfield 44, 3) := by decide +kernel
theorem dX0_addedBy_11 : decode cX0_addedBy 11 = .ok (.aload_n 2, 1) := by decide +kernel
theorem dX0_addedBy_12 : decode cX0_addedBy 12 = .ok (.getfield 75, 3) := by decide +kernel
theorem dX0_addedBy_15 : decode cX0_addedBy 15 = .ok (.aaload, 1) := by decide +kernel
theorem dX0_addedBy_16 : decode cX0_addedBy 16 = .ok (.aload_n 2, 1) := by decide +kernel
theorem dX0_addedBy_17 : decode cX0_addedBy 17 = .ok (.getfield 78, 3) := by decide +kernel
theorem dX0_addedBy_20 : decode cX0_addedBy 20 = .ok (.invokevirtual 81, 3) := by decide +kernel
theorem dX0_addedBy_23 : decode cX0_addedBy 23 = .ok (.ireturn, 1) := by decide +kernel
theorem dX0_changeBy_0 : decode cX0_changeBy 0 = .ok (.aload_n 0, 1) := by decide +kernel
theorem dX0_changeBy_1 : decode cX0_changeBy 1 = .ok (.iload_n 1, 1) := by decide +kernel
theorem dX0_changeBy_2 : decode cX0_changeBy 2 = .ok (.invokevirtual 87, 3) := by decide +kernel
theorem dX0_changeBy_5 : decode cX0_changeBy 5 = .ok (.aload_n 0, 1) := by decide +kernel
theorem dX0_changeBy_6 : decode cX0_changeBy 6 = .ok (.iload_n 2, 1) := by decide +kernel
theorem dX0_changeBy_7 : decode cX0_changeBy 7 = .ok (.invokevirtual 87, 3) := by decide +kernel
theorem dX0_changeBy_10 : decode cX0_changeBy 10 = .ok (.iadd, 1) := by decide +kernel
theorem dX0_changeBy_11 : decode cX0_changeBy 11 = .ok (.iconst 2, 1) := by decide +kernel
theorem dX0_changeBy_12 : decode cX0_changeBy 12 = .ok (.isub, 1) := by decide +kernel
theorem dX0_changeBy_13 : decode cX0_changeBy 13 = .ok (.ireturn, 1) := by decide +kernel
theorem dX0_changeInADay_0 : decode cX0_changeInADay 0 = .ok (.aload_n 1, 1) := by decide +kernel
theorem dX0_changeInADay_1 : decode cX0_changeInADay 1 = .ok (.invokevirtual 90, 3) := by decide +kernel
theorem dX0_changeInADay_4 : decode cX0_changeInADay 4 = .ok (.ifCond .eq 18, 3) := by decide +kernel
theorem dX0_changeInADay_7 : decode cX0_changeInADay 7 = .ok (.aload_n 0, 1) := by decide +kernel
theorem dX0_changeInADay_8 : decode cX0_changeInADay 8 = .ok (.aload_n 1, 1) := by decide +kernel
theorem dX0_changeInADay_9 : decode cX0_changeInADay 9 = .ok (.getfield 94, 3) := by decide +kernel
theorem dX0_changeInADay_12 : decode cX0_changeInADay 12 = .ok (.aload_n 1, 1) := by decide +kernel
theorem dX0_changeInADay_13 : decode cX0_changeInADay 13 = .ok (.getfield 97, 3) := by decide +kernel
theorem dX0_changeInADay_16 : decode cX0_changeInADay 16 = .ok (.invokevirtual 100, 3) := by decide +kernel
theorem dX0_changeInADay_19 : decode cX0_changeInADay 19 = .ok (.goto 5, 3) := by decide +kernel
theorem dX0_changeInADay_22 : decode cX0_changeInADay 22 = .ok (.bipush (-2), 2) := by decide +kernel
theorem dX0_changeInADay_24 : decode cX0_changeInADay 24 = .ok (.ireturn, 1) := by decide +kernel
theorem dX0_passDays_0 : decode cX0_passDays 0 = .ok (.aload_n 0, 1) := by decide +kernel
theorem dX0_passDays_1 : decode cX0_passDays 1 = .ok (.aload_n 1, 1) := by decide +kernel
theorem dX0_passDays_2 : decode cX0_passDays 2 = .ok (.invokevirtual 104, 3) := by decide +kernel
theorem dX0_passDays_5 : decode cX0_passDays 5 = .ok (.istore_n 3, 1) := by decide +kernel
theorem dX0_passDays_6 : decode cX0_passDays 6 = .ok (.iconst 0, 1) := by decide +kernel
theorem dX0_passDays_7 : decode cX0_passDays 7 = .ok (.istore 4, 2) := by decide +kernel
theorem dX0_passDays_9 : decode cX0_passDays 9 = .ok (.iload 4, 2) := by decide +kernel
theorem dX0_passDays_11 : decode cX0_passDays 11 = .ok (.iload_n 2, 1) := by decide +kernel
theorem dX0_passDays_12 : decode cX0_passDays 12 = .ok (.if_icmp .ge 14, 3) := by decide +kernel
theorem dX0_passDays_15 : decode cX0_passDays 15 = .ok (.aload_n 1, 1) := by decide +kernel
theorem dX0_passDays_16 : decode cX0_passDays 16 = .ok (.iload_n 3, 1) := by decide +kernel
theorem dX0_passDays_17 : decode cX0_passDays 17 = .ok (.invokevirtual 108, 3) := by decide +kernel
theorem dX0_passDays_20 : decode cX0_passDays 20 = .ok (.iinc 4 1, 3) := by decide +kernel
theorem dX0_passDays_23 : decode cX0_passDays 23 = .ok (.goto (-14), 3) := by decide +kernel
theorem dX0_passDays_26 : decode cX0_passDays 26 = .ok (.aload_n 1, 1) := by decide +kernel
theorem dX0_passDays_27 : decode cX0_passDays 27 = .ok (.dup, 1) := by decide +kernel
theorem dX0_passDays_28 : decode cX0_passDays 28 = .ok (.getfield 111, 3) := by decide +kernel
theorem dX0_passDays_31 : decode cX0_passDays 31 = .ok (.iload_n 2, 1) := by decide +kernel
theorem dX0_passDays_32 : decode cX0_passDays 32 = .ok (.iadd, 1) := by decide +kernel
theorem dX0_passDays_33 : decode cX0_passDays 33 = .ok (.putfield 111, 3) := by decide +kernel
theorem dX0_passDays_36 : decode cX0_passDays 36 = .ok (.return_, 1) := by decide +kernel
theorem dX0_lifts_0 : decode cX0_lifts 0 = .ok (.aload_n 0, 1) := by decide +kernel
theorem dX0_lifts_1 : decode cX0_lifts 1 = .ok (.getfield 11, 3) := by decide +kernel
theorem dX0_lifts_4 : decode cX0_lifts 4 = .ok (.iload_n 1, 1) := by decide +kernel
theorem dX0_lifts_5 : decode cX0_lifts 5 = .ok (.aaload, 1) := by decide +kernel
theorem dX0_lifts_6 : decode cX0_lifts 6 = .ok (.astore 6, 2) := by decide +kernel
theorem dX0_lifts_8 : decode cX0_lifts 8 = .ok (.aload_n 0, 1) := by decide +kernel
theorem dX0_lifts_9 : decode cX0_lifts 9 = .ok (.getfield 44, 3) := by decide +kernel
theorem dX0_lifts_12 : decode cX0_lifts 12 = .ok (.iload_n 2, 1) := by decide +kernel
theorem dX0_lifts_13 : decode cX0_lifts 13 = .ok (.aaload, 1) := by decide +kernel
theorem dX0_lifts_14 : decode cX0_lifts 14 = .ok (.aload 6, 2) := by decide +kernel
theorem dX0_lifts_16 : decode cX0_lifts 16 = .ok (.iload_n 3, 1) := by decide +kernel
theorem dX0_lifts_17 : decode cX0_lifts 17 = .ok (.invokevirtual 114, 3) := by decide +kernel
theorem dX0_lifts_20 : decode cX0_lifts 20 = .ok (.aload 6, 2) := by decide +kernel
theorem dX0_lifts_22 : decode cX0_lifts 22 = .ok (.iload_n 3, 1) := by decide +kernel
theorem dX0_lifts_23 : decode cX0_lifts 23 = .ok (.invokevirtual 117, 3) := by decide +kernel
theorem dX0_lifts_26 : decode cX0_lifts 26 = .ok (.iload 4, 2) := by decide +kernel
theorem dX0_lifts_28 : decode cX0_lifts 28 = .ok (.iload 5, 2) := by decide +kernel
theorem dX0_lifts_30 : decode cX0_lifts 30 = .ok (.invokevirtual 120, 3) := by decide +kernel
theorem dX0_lifts_33 : decode cX0_lifts 33 = .ok (.ireturn, 1) := by decide +kernel
theorem dX0_liftersIn_0 : decode cX0_liftersIn 0 = .ok (.aload_n 1, 1) := by decide +kernel
theorem dX0_liftersIn_1 : decode cX0_liftersIn 1 = .ok (.getfield 94, 3) := by decide +kernel
theorem dX0_liftersIn_4 : decode cX0_liftersIn 4 = .ok (.istore_n 3, 1) := by decide +kernel
theorem dX0_liftersIn_5 : decode cX0_liftersIn 5 = .ok (.aload_n 1, 1) := by decide +kernel
theorem dX0_liftersIn_6 : decode cX0_liftersIn 6 = .ok (.getfield 97, 3) := by decide +kernel
theorem dX0_liftersIn_9 : decode cX0_liftersIn 9 = .ok (.istore 4, 2) := by decide +kernel
theorem dX0_liftersIn_11 : decode cX0_liftersIn 11 = .ok (.iconst 0, 1) := by decide +kernel
theorem dX0_liftersIn_12 : decode cX0_liftersIn 12 = .ok (.istore 5, 2) := by decide +kernel
theorem dX0_liftersIn_14 : decode cX0_liftersIn 14 = .ok (.aload_n 0, 1) := by decide +kernel
theorem dX0_liftersIn_15 : decode cX0_liftersIn 15 = .ok (.iload_n 3, 1) := by decide +kernel
theorem dX0_liftersIn_16 : decode cX0_liftersIn 16 = .ok (.aload_n 0, 1) := by decide +kernel
theorem dX0_liftersIn_17 : decode cX0_liftersIn 17 = .ok (.getfield 11, 3) := by decide +kernel
theorem dX0_liftersIn_20 : decode cX0_liftersIn 20 = .ok (.iload_n 3, 1) := by decide +kernel
theorem dX0_liftersIn_21 : decode cX0_liftersIn 21 = .ok (.aaload, 1) := by decide +kernel
theorem dX0_liftersIn_22 : decode cX0_liftersIn 22 = .ok (.getfield 75, 3) := by decide +kernel
theorem dX0_liftersIn_25 : decode cX0_liftersIn 25 = .ok (.iload_n 2, 1) := by decide +kernel
theorem dX0_liftersIn_26 : decode cX0_liftersIn 26 = .ok (.aload_n 1, 1) := by decide +kernel
theorem dX0_liftersIn_27 : decode cX0_liftersIn 27 = .ok (.getfield 124, 3) := by decide +kernel
theorem dX0_liftersIn_30 : decode cX0_liftersIn 30 = .ok (.aload_n 1, 1) := by decide +kernel
theorem dX0_liftersIn_31 : decode cX0_liftersIn 31 = .ok (.getfield 111, 3) := by decide +kernel
theorem dX0_liftersIn_34 : decode cX0_liftersIn 34 = .ok (.invokevirtual 127, 3) := by decide +kernel
theorem dX0_liftersIn_37 : decode cX0_liftersIn 37 = .ok (.ifCond .eq 9, 3) := by decide +kernel
theorem dX0_liftersIn_40 : decode cX0_liftersIn 40 = .ok (.iload 5, 2) := by decide +kernel
theorem dX0_liftersIn_42 : decode cX0_liftersIn 42 = .ok (.iconst 1, 1) := by decide +kernel
theorem dX0_liftersIn_43 : decode cX0_liftersIn 43 = .ok (.ior, 1) := by decide +kernel
theorem dX0_liftersIn_44 : decode cX0_liftersIn 44 = .ok (.istore 5, 2) := by decide +kernel
theorem dX0_liftersIn_46 : decode cX0_liftersIn 46 = .ok (.aload_n 0, 1) := by decide +kernel
theorem dX0_liftersIn_47 : decode cX0_liftersIn 47 = .ok (.iload 4, 2) := by decide +kernel
theorem dX0_liftersIn_49 : decode cX0_liftersIn 49 = .ok (.aload_n 0, 1) := by decide +kernel
theorem dX0_liftersIn_50 : decode cX0_liftersIn 50 = .ok (.getfield 11, 3) := by decide +kernel
theorem dX0_liftersIn_53 : decode cX0_liftersIn 53 = .ok (.iload 4, 2) := by decide +kernel
theorem dX0_liftersIn_55 : decode cX0_liftersIn 55 = .ok (.aaload, 1) := by decide +kernel
theorem dX0_liftersIn_56 : decode cX0_liftersIn 56 = .ok (.getfield 75, 3) := by decide +kernel
theorem dX0_liftersIn_59 : decode cX0_liftersIn 59 = .ok (.iload_n 2, 1) := by decide +kernel
theorem dX0_liftersIn_60 : decode cX0_liftersIn 60 = .ok (.aload_n 1, 1) := by decide +kernel
theorem dX0_liftersIn_61 : decode cX0_liftersIn 61 = .ok (.getfield 124, 3) := by decide +kernel
theorem dX0_liftersIn_64 : decode cX0_liftersIn 64 = .ok (.aload_n 1, 1) := by decide +kernel
theorem dX0_liftersIn_65 : decode cX0_liftersIn 65 = .ok (.getfield 111, 3) := by decide +kernel
theorem dX0_liftersIn_68 : decode cX0_liftersIn 68 = .ok (.invokevirtual 127, 3) := by decide +kernel
theorem dX0_liftersIn_71 : decode cX0_liftersIn 71 = .ok (.ifCond .eq 9, 3) := by decide +kernel
theorem dX0_liftersIn_74 : decode cX0_liftersIn 74 = .ok (.iload 5, 2) := by decide +kernel
theorem dX0_liftersIn_76 : decode cX0_liftersIn 76 = .ok (.iconst 2, 1) := by decide +kernel
theorem dX0_liftersIn_77 : decode cX0_liftersIn 77 = .ok (.ior, 1) := by decide +kernel
theorem dX0_liftersIn_78 : decode cX0_liftersIn 78 = .ok (.istore 5, 2) := by decide +kernel
theorem dX0_liftersIn_80 : decode cX0_liftersIn 80 = .ok (.iload 5, 2) := by decide +kernel
theorem dX0_liftersIn_82 : decode cX0_liftersIn 82 = .ok (.ireturn, 1) := by decide +kernel
theorem dX0_actsOfBoth_0 : decode cX0_actsOfBoth 0 = .ok (.iconst 0, 1) := by decide +kernel
theorem dX0_actsOfBoth_1 : decode cX0_actsOfBoth 1 = .ok (.istore_n 2, 1) := by decide +kernel
theorem dX0_actsOfBoth_2 : decode cX0_actsOfBoth 2 = .ok (.iconst 0, 1) := by decide +kernel
theorem dX0_actsOfBoth_3 : decode cX0_actsOfBoth 3 = .ok (.istore_n 3, 1) := by decide +kernel
theorem dX0_actsOfBoth_4 : decode cX0_actsOfBoth 4 = .ok (.iload_n 3, 1) := by decide +kernel
theorem dX0_actsOfBoth_5 : decode cX0_actsOfBoth 5 = .ok (.bipush 8, 2) := by decide +kernel
theorem dX0_actsOfBoth_7 : decode cX0_actsOfBoth 7 = .ok (.if_icmp .ge 25, 3) := by decide +kernel
theorem dX0_actsOfBoth_10 : decode cX0_actsOfBoth 10 = .ok (.aload_n 0, 1) := by decide +kernel
theorem dX0_actsOfBoth_11 : decode cX0_actsOfBoth 11 = .ok (.aload_n 1, 1) := by decide +kernel
theorem dX0_actsOfBoth_12 : decode cX0_actsOfBoth 12 = .ok (.iload_n 3, 1) := by decide +kernel
theorem dX0_actsOfBoth_13 : decode cX0_actsOfBoth 13 = .ok (.invokevirtual 130, 3) := by decide +kernel
theorem dX0_actsOfBoth_16 : decode cX0_actsOfBoth 16 = .ok (.iconst 3, 1) := by decide +kernel
theorem dX0_actsOfBoth_17 : decode cX0_actsOfBoth 17 = .ok (.if_icmp .ne 9, 3) := by decide +kernel
theorem dX0_actsOfBoth_20 : decode cX0_actsOfBoth 20 = .ok (.iload_n 2, 1) := by decide +kernel
theorem dX0_actsOfBoth_21 : decode cX0_actsOfBoth 21 = .ok (.iconst 1, 1) := by decide +kernel
theorem dX0_actsOfBoth_22 : decode cX0_actsOfBoth 22 = .ok (.iload_n 3, 1) := by decide +kernel
theorem dX0_actsOfBoth_23 : decode cX0_actsOfBoth 23 = .ok (.ishl, 1) := by decide +kernel
theorem dX0_actsOfBoth_24 : decode cX0_actsOfBoth 24 = .ok (.ior, 1) := by decide +kernel
theorem dX0_actsOfBoth_25 : decode cX0_actsOfBoth 25 = .ok (.istore_n 2, 1) := by decide +kernel
theorem dX0_actsOfBoth_26 : decode cX0_actsOfBoth 26 = .ok (.iinc 3 1, 3) := by decide +kernel
theorem dX0_actsOfBoth_29 : decode cX0_actsOfBoth 29 = .ok (.goto (-25), 3) := by decide +kernel
theorem dX0_actsOfBoth_32 : decode cX0_actsOfBoth 32 = .ok (.iload_n 2, 1) := by decide +kernel
theorem dX0_actsOfBoth_33 : decode cX0_actsOfBoth 33 = .ok (.ireturn, 1) := by decide +kernel
theorem dX0_askIn_0 : decode cX0_askIn 0 = .ok (.aload_n 0, 1) := by decide +kernel
theorem dX0_askIn_1 : decode cX0_askIn 1 = .ok (.aload_n 1, 1) := by decide +kernel
theorem dX0_askIn_2 : decode cX0_askIn 2 = .ok (.iload_n 2, 1) := by decide +kernel
theorem dX0_askIn_3 : decode cX0_askIn 3 = .ok (.invokevirtual 130, 3) := by decide +kernel
theorem dX0_askIn_6 : decode cX0_askIn 6 = .ok (.istore_n 3, 1) := by decide +kernel
theorem dX0_askIn_7 : decode cX0_askIn 7 = .ok (.iload_n 3, 1) := by decide +kernel
theorem dX0_askIn_8 : decode cX0_askIn 8 = .ok (.iconst 3, 1) := by decide +kernel
theorem dX0_askIn_9 : decode cX0_askIn 9 = .ok (.if_icmp .ne 24, 3) := by decide +kernel
theorem dX0_askIn_12 : decode cX0_askIn 12 = .ok (.aload_n 1, 1) := by decide +kernel
theorem dX0_askIn_13 : decode cX0_askIn 13 = .ok (.dup, 1) := by decide +kernel
theorem dX0_askIn_14 : decode cX0_askIn 14 = .ok (.getfield 134, 3) := by decide +kernel
theorem dX0_askIn_17 : decode cX0_askIn 17 = .ok (.iconst 1, 1) := by decide +kernel
theorem dX0_askIn_18 : decode cX0_askIn 18 = .ok (.iload_n 2, 1) := by decide +kernel
theorem dX0_askIn_19 : decode cX0_askIn 19 = .ok (.ishl, 1) := by decide +kernel
theorem dX0_askIn_20 : decode cX0_askIn 20 = .ok (.ior, 1) := by decide +kernel
theorem dX0_askIn_21 : decode cX0_askIn 21 = .ok (.putfield 134, 3) := by decide +kernel
theorem dX0_askIn_24 : decode cX0_askIn 24 = .ok (.aload_n 1, 1) := by decide +kernel
theorem dX0_askIn_25 : decode cX0_askIn 25 = .ok (.bipush (-2), 2) := by decide +kernel
theorem dX0_askIn_27 : decode cX0_askIn 27 = .ok (.invokevirtual 108, 3) := by decide +kernel
theorem dX0_askIn_30 : decode cX0_askIn 30 = .ok (.goto 16, 3) := by decide +kernel
theorem dX0_askIn_33 : decode cX0_askIn 33 = .ok (.aload_n 1, 1) := by decide +kernel
theorem dX0_askIn_34 : decode cX0_askIn 34 = .ok (.iload_n 3, 1) := by decide +kernel
theorem dX0_askIn_35 : decode cX0_askIn 35 = .ok (.ifCond .ne 7, 3) := by decide +kernel
theorem dX0_askIn_38 : decode cX0_askIn 38 = .ok (.iconst 1, 1) := by decide +kernel
theorem dX0_askIn_39 : decode cX0_askIn 39 = .ok (.goto 4, 3) := by decide +kernel
theorem dX0_askIn_42 : decode cX0_askIn 42 = .ok (.iconst 5, 1) := by decide +kernel
theorem dX0_askIn_43 : decode cX0_askIn 43 = .ok (.invokevirtual 108, 3) := by decide +kernel
theorem dX0_askIn_46 : decode cX0_askIn 46 = .ok (.iload_n 3, 1) := by decide +kernel
theorem dX0_askIn_47 : decode cX0_askIn 47 = .ok (.ireturn, 1) := by decide +kernel
theorem dX0_kindsThatLift_0 : decode cX0_kindsThatLift 0 = .ok (.iconst 0, 1) := by decide +kernel
theorem dX0_kindsThatLift_1 : decode cX0_kindsThatLift 1 = .ok (.istore_n 3, 1) := by decide +kernel
theorem dX0_kindsThatLift_2 : decode cX0_kindsThatLift 2 = .ok (.iconst 0, 1) := by decide +kernel
theorem dX0_kindsThatLift_3 : decode cX0_kindsThatLift 3 = .ok (.istore 4, 2) := by decide +kernel
theorem dX0_kindsThatLift_5 : decode cX0_kindsThatLift 5 = .ok (.iload 4, 2) := by decide +kernel
theorem dX0_kindsThatLift_7 : decode cX0_kindsThatLift 7 = .ok (.bipush 6, 2) := by decide +kernel
theorem dX0_kindsThatLift_9 : decode cX0_kindsThatLift 9 = .ok (.if_icmp .ge 41, 3) := by decide +kernel
theorem dX0_kindsThatLift_12 : decode cX0_kindsThatLift 12 = .ok (.aload_n 0, 1) := by decide +kernel
theorem dX0_kindsThatLift_13 : decode cX0_kindsThatLift 13 = .ok (.iload_n 1, 1) := by decide +kernel
theorem dX0_kindsThatLift_14 : decode cX0_kindsThatLift 14 = .ok (.iload 4, 2) := by decide +kernel
theorem dX0_kindsThatLift_16 : decode cX0_kindsThatLift 16 = .ok (.iload_n 2, 1) := by decide +kernel
theorem dX0_kindsThatLift_17 : decode cX0_kindsThatLift 17 = .ok (.aload_n 0, 1) := by decide +kernel
theorem dX0_kindsThatLift_18 : decode cX0_kindsThatLift 18 = .ok (.getfield 30, 3) := by decide +kernel
theorem dX0_kindsThatLift_21 : decode cX0_kindsThatLift 21 = .ok (.getfield 124, 3) := by decide +kernel
theorem dX0_kindsThatLift_24 : decode cX0_kindsThatLift 24 = .ok (.aload_n 0, 1) := by decide +kernel
theorem dX0_kindsThatLift_25 : decode cX0_kindsThatLift 25 = .ok (.getfield 30, 3) := by decide +kernel
theorem dX0_kindsThatLift_28 : decode cX0_kindsThatLift 28 = .ok (.getfield 111, 3) := by decide +kernel
theorem dX0_kindsThatLift_31 : decode cX0_kindsThatLift 31 = .ok (.invokevirtual 127, 3) := by decide +kernel
theorem dX0_kindsThatLift_34 : decode cX0_kindsThatLift 34 = .ok (.ifCond .eq 10, 3) := by decide +kernel
theorem dX0_kindsThatLift_37 : decode cX0_kindsThatLift 37 = .ok (.iload_n 3, 1) := by decide +kernel
theorem dX0_kindsThatLift_38 : decode cX0_kindsThatLift 38 = .ok (.iconst 1, 1) := by decide +kernel
theorem dX0_kindsThatLift_39 : decode cX0_kindsThatLift 39 = .ok (.iload 4, 2) := by decide +kernel
theorem dX0_kindsThatLift_41 : decode cX0_kindsThatLift 41 = .ok (.ishl, 1) := by decide +kernel
theorem dX0_kindsThatLift_42 : decode cX0_kindsThatLift 42 = .ok (.ior, 1) := by decide +kernel
theorem dX0_kindsThatLift_43 : decode cX0_kindsThatLift 43 = .ok (.istore_n 3, 1) := by decide +kernel
theorem dX0_kindsThatLift_44 : decode cX0_kindsThatLift 44 = .ok (.iinc 4 1, 3) := by decide +kernel
theorem dX0_kindsThatLift_47 : decode cX0_kindsThatLift 47 = .ok (.goto (-42), 3) := by decide +kernel
theorem dX0_kindsThatLift_50 : decode cX0_kindsThatLift 50 = .ok (.iload_n 3, 1) := by decide +kernel
theorem dX0_kindsThatLift_51 : decode cX0_kindsThatLift 51 = .ok (.ireturn, 1) := by decide +kernel
theorem dX0_fits_0 : decode cX0_fits 0 = .ok (.iconst 0, 1) := by decide +kernel
theorem dX0_fits_1 : decode cX0_fits 1 = .ok (.istore_n 3, 1) := by decide +kernel
theorem dX0_fits_2 : decode cX0_fits 2 = .ok (.iload_n 3, 1) := by decide +kernel
theorem dX0_fits_3 : decode cX0_fits 3 = .ok (.aload_n 0, 1) := by decide +kernel
theorem dX0_fits_4 : decode cX0_fits 4 = .ok (.getfield 38, 3) := by decide +kernel
theorem dX0_fits_7 : decode cX0_fits 7 = .ok (.if_icmp .ge 73, 3) := by decide +kernel
theorem dX0_fits_10 : decode cX0_fits 10 = .ok (.aload_n 0, 1) := by decide +kernel
theorem dX0_fits_11 : decode cX0_fits 11 = .ok (.getfield 19, 3) := by decide +kernel
theorem dX0_fits_14 : decode cX0_fits 14 = .ok (.iload_n 3, 1) := by decide +kernel
theorem dX0_fits_15 : decode cX0_fits 15 = .ok (.aaload, 1) := by decide +kernel
theorem dX0_fits_16 : decode cX0_fits 16 = .ok (.astore 4, 2) := by decide +kernel
theorem dX0_fits_18 : decode cX0_fits 18 = .ok (.aload 4, 2) := by decide +kernel
theorem dX0_fits_20 : decode cX0_fits 20 = .ok (.getfield 137, 3) := by decide +kernel
theorem dX0_fits_23 : decode cX0_fits 23 = .ok (.iload_n 1, 1) := by decide +kernel
theorem dX0_fits_24 : decode cX0_fits 24 = .ok (.if_icmp .eq 6, 3) := by decide +kernel
theorem dX0_fits_27 : decode cX0_fits 27 = .ok (.goto 47, 3) := by decide +kernel
theorem dX0_fits_30 : decode cX0_fits 30 = .ok (.aload_n 0, 1) := by decide +kernel
theorem dX0_fits_31 : decode cX0_fits 31 = .ok (.iload_n 1, 1) := by decide +kernel
theorem dX0_fits_32 : decode cX0_fits 32 = .ok (.iload_n 2, 1) := by decide +kernel
theorem dX0_fits_33 : decode cX0_fits 33 = .ok (.aload 4, 2) := by decide +kernel
theorem dX0_fits_35 : decode cX0_fits 35 = .ok (.getfield 140, 3) := by decide +kernel
theorem dX0_fits_38 : decode cX0_fits 38 = .ok (.aload 4, 2) := by decide +kernel
theorem dX0_fits_40 : decode cX0_fits 40 = .ok (.getfield 143, 3) := by decide +kernel
theorem dX0_fits_43 : decode cX0_fits 43 = .ok (.aload 4, 2) := by decide +kernel
theorem dX0_fits_45 : decode cX0_fits 45 = .ok (.getfield 144, 3) := by decide +kernel
theorem dX0_fits_48 : decode cX0_fits 48 = .ok (.invokevirtual 127, 3) := by decide +kernel
theorem dX0_fits_51 : decode cX0_fits 51 = .ok (.istore 5, 2) := by decide +kernel
theorem dX0_fits_53 : decode cX0_fits 53 = .ok (.iload 5, 2) := by decide +kernel
theorem dX0_fits_55 : decode cX0_fits 55 = .ok (.aload 4, 2) := by decide +kernel
theorem dX0_fits_57 : decode cX0_fits 57 = .ok (.getfield 145, 3) := by decide +kernel
theorem dX0_fits_60 : decode cX0_fits 60 = .ok (.iconst 1, 1) := by decide +kernel
theorem dX0_fits_61 : decode cX0_fits 61 = .ok (.if_icmp .ne 7, 3) := by decide +kernel
theorem dX0_fits_64 : decode cX0_fits 64 = .ok (.iconst 1, 1) := by decide +kernel
theorem dX0_fits_65 : decode cX0_fits 65 = .ok (.goto 4, 3) := by decide +kernel
theorem dX0_fits_68 : decode cX0_fits 68 = .ok (.iconst 0, 1) := by decide +kernel
theorem dX0_fits_69 : decode cX0_fits 69 = .ok (.if_icmp .eq 5, 3) := by decide +kernel
theorem dX0_fits_72 : decode cX0_fits 72 = .ok (.iconst 0, 1) := by decide +kernel
theorem dX0_fits_73 : decode cX0_fits 73 = .ok (.ireturn, 1) := by decide +kernel
theorem dX0_fits_74 : decode cX0_fits 74 = .ok (.iinc 3 1, 3) := by decide +kernel
theorem dX0_fits_77 : decode cX0_fits 77 = .ok (.goto (-75), 3) := by decide +kernel
theorem dX0_fits_80 : decode cX0_fits 80 = .ok (.iconst 1, 1) := by decide +kernel
theorem dX0_fits_81 : decode cX0_fits 81 = .ok (.ireturn, 1) := by decide +kernel
theorem dX1_init_0 : decode cX1_init 0 = .ok (.aload_n 0, 1) := by decide +kernel
theorem dX1_init_1 : decode cX1_init 1 = .ok (.invokespecial 3, 3) := by decide +kernel
theorem dX1_init_4 : decode cX1_init 4 = .ok (.aload_n 0, 1) := by decide +kernel
theorem dX1_init_5 : decode cX1_init 5 = .ok (.sipush 150, 3) := by decide +kernel
theorem dX1_init_8 : decode cX1_init 8 = .ok (.newarray .int, 2) := by decide +kernel
theorem dX1_init_10 : decode cX1_init 10 = .ok (.putfield 9, 3) := by decide +kernel
theorem dX1_init_13 : decode cX1_init 13 = .ok (.aload_n 0, 1) := by decide +kernel
theorem dX1_init_14 : decode cX1_init 14 = .ok (.iconst 0, 1) := by decide +kernel
theorem dX1_init_15 : decode cX1_init 15 = .ok (.putfield 15, 3) := by decide +kernel
theorem dX1_init_18 : decode cX1_init 18 = .ok (.aload_n 0, 1) := by decide +kernel
theorem dX1_init_19 : decode cX1_init 19 = .ok (.iconst 0, 1) := by decide +kernel
theorem dX1_init_20 : decode cX1_init 20 = .ok (.putfield 19, 3) := by decide +kernel
theorem dX1_init_23 : decode cX1_init 23 = .ok (.aload_n 0, 1) := by decide +kernel
theorem dX1_init_24 : decode cX1_init 24 = .ok (.iconst 0, 1) := by decide +kernel
theorem dX1_init_25 : decode cX1_init 25 = .ok (.putfield 22, 3) := by decide +kernel
theorem dX1_init_28 : decode cX1_init 28 = .ok (.aload_n 0, 1) := by decide +kernel
theorem dX1_init_29 : decode cX1_init 29 = .ok (.iconst 0, 1) := by decide +kernel
theorem dX1_init_30 : decode cX1_init 30 = .ok (.putfield 25, 3) := by decide +kernel
theorem dX1_init_33 : decode cX1_init 33 = .ok (.aload_n 0, 1) := by decide +kernel
theorem dX1_init_34 : decode cX1_init 34 = .ok (.iconst 0, 1) := by decide +kernel
theorem dX1_init_35 : decode cX1_init 35 = .ok (.putfield 28, 3) := by decide +kernel
theorem dX1_init_38 : decode cX1_init 38 = .ok (.return_, 1) := by decide +kernel
theorem dX1_append_0 : decode cX1_append 0 = .ok (.aload_n 0, 1) := by decide +kernel
theorem dX1_append_1 : decode cX1_append 1 = .ok (.getfield 15, 3) := by decide +kernel
theorem dX1_append_4 : decode cX1_append 4 = .ok (.sipush 150, 3) := by decide +kernel
theorem dX1_append_7 : decode cX1_append 7 = .ok (.if_icmp .lt 4, 3) := by decide +kernel
theorem dX1_append_10 : decode cX1_append 10 = .ok (.return_, 1) := by decide +kernel
theorem dX1_append_11 : decode cX1_append 11 = .ok (.aload_n 0, 1) := by decide +kernel
theorem dX1_append_12 : decode cX1_append 12 = .ok (.getfield 9, 3) := by decide +kernel
theorem dX1_append_15 : decode cX1_append 15 = .ok (.aload_n 0, 1) := by decide +kernel
theorem dX1_append_16 : decode cX1_append 16 = .ok (.getfield 15, 3) := by decide +kernel
theorem dX1_append_19 : decode cX1_append 19 = .ok (.iload_n 1, 1) := by decide +kernel
theorem dX1_append_20 : decode cX1_append 20 = .ok (.iastore, 1) := by decide +kernel
theorem dX1_append_21 : decode cX1_append 21 = .ok (.aload_n 0, 1) := by decide +kernel
theorem dX1_append_22 : decode cX1_append 22 = .ok (.dup, 1) := by decide +kernel
theorem dX1_append_23 : decode cX1_append 23 = .ok (.getfield 15, 3) := by decide +kernel
theorem dX1_append_26 : decode cX1_append 26 = .ok (.iconst 1, 1) := by decide +kernel
theorem dX1_append_27 : decode cX1_append 27 = .ok (.iadd, 1) := by decide +kernel
theorem dX1_append_28 : decode cX1_append 28 = .ok (.putfield 15, 3) := by decide +kernel
theorem dX1_append_31 : decode cX1_append 31 = .ok (.return_, 1) := by decide +kernel
theorem dX1_parseInto_0 : decode cX1_parseInto 0 = .ok (.aload_n 1, 1) := by decide +kernel
theorem dX1_parseInto_1 : decode cX1_parseInto 1 = .ok (.bipush 50, 2) := by decide +kernel
theorem dX1_parseInto_3 : decode cX1_parseInto 3 = .ok (.invokevirtual 31, 3) := by decide +kernel
theorem dX1_parseInto_6 : decode cX1_parseInto 6 = .ok (.aload_n 0, 1) := by decide +kernel
theorem dX1_parseInto_7 : decode cX1_parseInto 7 = .ok (.iconst 0, 1) := by decide +kernel
theorem dX1_parseInto_8 : decode cX1_parseInto 8 = .ok (.putfield 22, 3) := by decide +kernel
theorem dX1_parseInto_11 : decode cX1_parseInto 11 = .ok (.aload_n 0, 1) := by decide +kernel
theorem dX1_parseInto_12 : decode cX1_parseInto 12 = .ok (.invokevirtual 37, 3) := by decide +kernel
theorem dX1_parseInto_15 : decode cX1_parseInto 15 = .ok (.aload_n 0, 1) := by decide +kernel
theorem dX1_parseInto_16 : decode cX1_parseInto 16 = .ok (.aload_n 1, 1) := by decide +kernel
theorem dX1_parseInto_17 : decode cX1_parseInto 17 = .ok (.invokevirtual 40, 3) := by decide +kernel
theorem dX1_parseInto_20 : decode cX1_parseInto 20 = .ok (.ifCond .ne 5, 3) := by decide +kernel
theorem dX1_parseInto_23 : decode cX1_parseInto 23 = .ok (.iconst (-1), 1) := by decide +kernel
theorem dX1_parseInto_24 : decode cX1_parseInto 24 = .ok (.ireturn, 1) := by decide +kernel
theorem dX1_parseInto_25 : decode cX1_parseInto 25 = .ok (.iconst 1, 1) := by decide +kernel
theorem dX1_parseInto_26 : decode cX1_parseInto 26 = .ok (.istore_n 2, 1) := by decide +kernel
theorem dX1_parseInto_27 : decode cX1_parseInto 27 = .ok (.iload_n 2, 1) := by decide +kernel
theorem dX1_parseInto_28 : decode cX1_parseInto 28 = .ok (.sipush 150, 3) := by decide +kernel
theorem dX1_parseInto_31 : decode cX1_parseInto 31 = .ok (.if_icmp .ge 26, 3) := by decide +kernel
theorem dX1_parseInto_34 : decode cX1_parseInto 34 = .ok (.aload_n 0, 1) := by decide +kernel
theorem dX1_parseInto_35 : decode cX1_parseInto 35 = .ok (.getfield 25, 3) := by decide +kernel
theorem dX1_parseInto_38 : decode cX1_parseInto 38 = .ok (.ifCond .eq 19, 3) := by decide +kernel
theorem dX1_parseInto_41 : decode cX1_parseInto 41 = .ok (.aload_n 0, 1) := by decide +kernel
theorem dX1_parseInto_42 : decode cX1_parseInto 42 = .ok (.aload_n 1, 1) := by decide +kernel
theorem dX1_parseInto_43 : decode cX1_parseInto 43 = .ok (.invokevirtual 44, 3) := by decide +kernel
theorem dX1_parseInto_46 : decode cX1_parseInto 46 = .ok (.ifCond .ne 5, 3) := by decide +kernel
theorem dX1_parseInto_49 : decode cX1_parseInto 49 = .ok (.iconst (-1), 1) := by decide +kernel
theorem dX1_parseInto_50 : decode cX1_parseInto 50 = .ok (.ireturn, 1) := by decide +kernel
theorem dX1_parseInto_51 : decode cX1_parseInto 51 = .ok (.iinc 2 1, 3) := by decide +kernel
theorem dX1_parseInto_54 : decode cX1_parseInto 54 = .ok (.goto (-27), 3) := by decide +kernel
theorem dX1_parseInto_57 : decode cX1_parseInto 57 = .ok (.iload_n 2, 1) := by decide +kernel
theorem dX1_parseInto_58 : decode cX1_parseInto 58 = .ok (.ireturn, 1) := by decide +kernel
theorem dX1_courtItem_0 : decode cX1_courtItem 0 = .ok (.aload_n 0, 1) := by decide +kernel
theorem dX1_courtItem_1 : decode cX1_courtItem 1 = .ok (.ldc 47, 2) := by decide +kernel
theorem dX1_courtItem_3 : decode cX1_courtItem 3 = .ok (.invokevirtual 49, 3) := by decide +kernel
theorem dX1_courtItem_6 : decode cX1_courtItem 6 = .ok (.ifCond .ne 5, 3) := by decide +kernel
theorem dX1_courtItem_9 : decode cX1_courtItem 9 = .ok (.iconst 0, 1) := by decide +kernel
theorem dX1_courtItem_10 : decode cX1_courtItem 10 = .ok (.ireturn, 1) := by decide +kernel
theorem dX1_courtItem_11 : decode cX1_courtItem 11 = .ok (.aload_n 0, 1) := by decide +kernel
theorem dX1_courtItem_12 : decode cX1_courtItem 12 = .ok (.invokevirtual 37, 3) := by decide +kernel
theorem dX1_courtItem_15 : decode cX1_courtItem 15 = .ok (.aload_n 0, 1) := by decide +kernel
theorem dX1_courtItem_16 : decode cX1_courtItem 16 = .ok (.bipush 99, 2) := by decide +kernel
theorem dX1_courtItem_18 : decode cX1_courtItem 18 = .ok (.iconst (-1), 1) := by decide +kernel
theorem dX1_courtItem_19 : decode cX1_courtItem 19 = .ok (.invokevirtual 53, 3) := by decide +kernel
theorem dX1_courtItem_22 : decode cX1_courtItem 22 = .ok (.istore_n 2, 1) := by decide +kernel
theorem dX1_courtItem_23 : decode cX1_courtItem 23 = .ok (.iload_n 2, 1) := by decide +kernel
theorem dX1_courtItem_24 : decode cX1_courtItem 24 = .ok (.iconst (-1), 1) := by decide +kernel
theorem dX1_courtItem_25 : decode cX1_courtItem 25 = .ok (.if_icmp .ne 5, 3) := by decide +kernel
theorem dX1_courtItem_28 : decode cX1_courtItem 28 = .ok (.iconst 0, 1) := by decide +kernel
theorem dX1_courtItem_29 : decode cX1_courtItem 29 = .ok (.ireturn, 1) := by decide +kernel
theorem dX1_courtItem_30 : decode cX1_courtItem 30 = .ok (.aload_n 1, 1) := by decide +kernel
theorem dX1_courtItem_31 : decode cX1_courtItem 31 = .ok (.iload_n 2, 1) := by decide +kernel
theorem dX1_courtItem_32 : decode cX1_courtItem 32 = .ok (.invokevirtual 31, 3) := by decide +kernel
theorem dX1_courtItem_35 : decode cX1_courtItem 35 = .ok (.aload_n 0, 1) := by decide +kernel
theorem dX1_courtItem_36 : decode cX1_courtItem 36 = .ok (.invokevirtual 57, 3) := by decide +kernel
theorem dX1_courtItem_39 : decode cX1_courtItem 39 = .ok (.ireturn, 1) := by decide +kernel
theorem dX1_laterItem_0 : decode cX1_laterItem 0 = .ok (.aload_n 0, 1) := by decide +kernel
theorem dX1_laterItem_1 : decode cX1_laterItem 1 = .ok (.ldc 61, 2) := by decide +kernel
theorem dX1_laterItem_3 : decode cX1_laterItem 3 = .ok (.invokevirtual 49, 3) := by decide +kernel
theorem dX1_laterItem_6 : decode cX1_laterItem 6 = .ok (.ifCond .eq 9, 3) := by decide +kernel
theorem dX1_laterItem_9 : decode cX1_laterItem 9 = .ok (.aload_n 0, 1) := by decide +kernel
theorem dX1_laterItem_10 : decode cX1_laterItem 10 = .ok (.aload_n 1, 1) := by decide +kernel
theorem dX1_laterItem_11 : decode cX1_laterItem 11 = .ok (.invokevirtual 63, 3) := by decide +kernel
theorem dX1_laterItem_14 : decode cX1_laterItem 14 = .ok (.ireturn, 1) := by decide +kernel
theorem dX1_laterItem_15 : decode cX1_laterItem 15 = .ok (.aload_n 0, 1) := by decide +kernel
theorem dX1_laterItem_16 : decode cX1_laterItem 16 = .ok (.ldc 66, 2) := by decide +kernel
theorem dX1_laterItem_18 : decode cX1_laterItem 18 = .ok (.invokevirtual 49, 3) := by decide +kernel
theorem dX1_laterItem_21 : decode cX1_laterItem 21 = .ok (.ifCond .eq 10, 3) := by decide +kernel
theorem dX1_laterItem_24 : decode cX1_laterItem 24 = .ok (.aload_n 0, 1) := by decide +kernel
theorem dX1_laterItem_25 : decode cX1_laterItem 25 = .ok (.aload_n 1, 1) := by decide +kernel
theorem dX1_laterItem_26 : decode cX1_laterItem 26 = .ok (.iconst 1, 1) := by decide +kernel
theorem dX1_laterItem_27 : decode cX1_laterItem 27 = .ok (.invokevirtual 68, 3) := by decide +kernel
theorem dX1_laterItem_30 : decode cX1_laterItem 30 = .ok (.ireturn, 1) := by decide +kernel
theorem dX1_laterItem_31 : decode cX1_laterItem 31 = .ok (.aload_n 0, 1) := by decide +kernel
theorem dX1_laterItem_32 : decode cX1_laterItem 32 = .ok (.ldc 72, 2) := by decide +kernel
theorem dX1_laterItem_34 : decode cX1_laterItem 34 = .ok (.invokevirtual 49, 3) := by decide +kernel
theorem dX1_laterItem_37 : decode cX1_laterItem 37 = .ok (.ifCond .eq 10, 3) := by decide +kernel
theorem dX1_laterItem_40 : decode cX1_laterItem 40 = .ok (.aload_n 0, 1) := by decide +kernel
theorem dX1_laterItem_41 : decode cX1_laterItem 41 = .ok (.aload_n 1, 1) := by decide +kernel
theorem dX1_laterItem_42 : decode cX1_laterItem 42 = .ok (.iconst 0, 1) := by decide +kernel
theorem dX1_laterItem_43 : decode cX1_laterItem 43 = .ok (.invokevirtual 68, 3) := by decide +kernel
theorem dX1_laterItem_46 : decode cX1_laterItem 46 = .ok (.ireturn, 1) := by decide +kernel
theorem dX1_laterItem_47 : decode cX1_laterItem 47 = .ok (.aload_n 0, 1) := by decide +kernel
theorem dX1_laterItem_48 : decode cX1_laterItem 48 = .ok (.ldc 74, 2) := by decide +kernel
theorem dX1_laterItem_50 : decode cX1_laterItem 50 = .ok (.invokevirtual 49, 3) := by decide +kernel
theorem dX1_laterItem_53 : decode cX1_laterItem 53 = .ok (.ifCond .eq 9, 3) := by decide +kernel
theorem dX1_laterItem_56 : decode cX1_laterItem 56 = .ok (.aload_n 0, 1) := by decide +kernel
theorem dX1_laterItem_57 : decode cX1_laterItem 57 = .ok (.aload_n 1, 1) := by decide +kernel
theorem dX1_laterItem_58 : decode cX1_laterItem 58 = .ok (.invokevirtual 76, 3) := by decide +kernel
theorem dX1_laterItem_61 : decode cX1_laterItem 61 = .ok (.ireturn, 1) := by decide +kernel
theorem dX1_laterItem_62 : decode cX1_laterItem 62 = .ok (.iconst 0, 1) := by decide +kernel
theorem dX1_laterItem_63 : decode cX1_laterItem 63 = .ok (.ireturn, 1) := by decide +kernel
theorem dX1_heirItem_0 : decode cX1_heirItem 0 = .ok (.aload_n 1, 1) := by decide +kernel
theorem dX1_heirItem_1 : decode cX1_heirItem 1 = .ok (.getfield 79, 3) := by decide +kernel
theorem dX1_heirItem_4 : decode cX1_heirItem 4 = .ok (.bipush 6, 2) := by decide +kernel
theorem dX1_heirItem_6 : decode cX1_heirItem 6 = .ok (.if_icmp .lt 5, 3) := by decide +kernel
theorem dX1_heirItem_9 : decode cX1_heirItem 9 = .ok (.iconst 0, 1) := by decide +kernel
theorem dX1_heirItem_10 : decode cX1_heirItem 10 = .ok (.ireturn, 1) := by decide +kernel
theorem dX1_heirItem_11 : decode cX1_heirItem 11 = .ok (.aload_n 0, 1) := by decide +kernel
theorem dX1_heirItem_12 : decode cX1_heirItem 12 = .ok (.invokevirtual 37, 3) := by decide +kernel
theorem dX1_heirItem_15 : decode cX1_heirItem 15 = .ok (.aload_n 0, 1) := by decide +kernel
theorem dX1_heirItem_16 : decode cX1_heirItem 16 = .ok (.iconst 5, 1) := by decide +kernel
theorem dX1_heirItem_17 : decode cX1_heirItem 17 = .ok (.iconst (-1), 1) := by decide +kernel
theorem dX1_heirItem_18 : decode cX1_heirItem 18 = .ok (.invokevirtual 53, 3) := by decide +kernel
theorem dX1_heirItem_21 : decode cX1_heirItem 21 = .ok (.istore_n 2, 1) := by decide +kernel
theorem dX1_heirItem_22 : decode cX1_heirItem 22 = .ok (.iload_n 2, 1) := by decide +kernel
theorem dX1_heirItem_23 : decode cX1_heirItem 23 = .ok (.iconst (-1), 1) := by decide +kernel
theorem dX1_heirItem_24 : decode cX1_heirItem 24 = .ok (.if_icmp .ne 5, 3) := by decide +kernel
theorem dX1_heirItem_27 : decode cX1_heirItem 27 = .ok (.iconst 0, 1) := by decide +kernel
theorem dX1_heirItem_28 : decode cX1_heirItem 28 = .ok (.ireturn, 1) := by decide +kernel
theorem dX1_heirItem_29 : decode cX1_heirItem 29 = .ok (.aload_n 0, 1) := by decide +kernel
theorem dX1_heirItem_30 : decode cX1_heirItem 30 = .ok (.bipush 20, 2) := by decide +kernel
theorem dX1_heirItem_32 : decode cX1_heirItem 32 = .ok (.iconst (-1), 1) := by decide +kernel
theorem dX1_heirItem_33 : decode cX1_heirItem 33 = .ok (.invokevirtual 53, 3) := by decide +kernel
theorem dX1_heirItem_36 : decode cX1_heirItem 36 = .ok (.istore_n 3, 1) := by decide +kernel
theorem dX1_heirItem_37 : decode cX1_heirItem 37 = .ok (.iload_n 3, 1) := by decide +kernel
theorem dX1_heirItem_38 : decode cX1_heirItem 38 = .ok (.iconst (-1), 1) := by decide +kernel
theorem dX1_heirItem_39 : decode cX1_heirItem 39 = .ok (.if_icmp .ne 5, 3) := by decide +kernel
theorem dX1_heirItem_42 : decode cX1_heirItem 42 = .ok (.iconst 0, 1) := by decide +kernel
theorem dX1_heirItem_43 : decode cX1_heirItem 43 = .ok (.ireturn, 1) := by decide +kernel
theorem dX1_heirItem_44 : decode cX1_heirItem 44 = .ok (.aload_n 1, 1) := by decide +kernel
theorem dX1_heirItem_45 : decode cX1_heirItem 45 = .ok (.iload_n 2, 1) := by decide +kernel
theorem dX1_heirItem_46 : decode cX1_heirItem 46 = .ok (.iconst 0, 1) := by decide +kernel
theorem dX1_heirItem_47 : decode cX1_heirItem 47 = .ok (.iconst 0, 1) := by decide +kernel
theorem dX1_heirItem_48 : decode cX1_heirItem 48 = .ok (.iload_n 3, 1) := by decide +kernel
theorem dX1_heirItem_49 : decode cX1_heirItem 49 = .ok (.invokevirtual 82, 3) := by decide +kernel
theorem dX1_heirItem_52 : decode cX1_heirItem 52 = .ok (.pop, 1) := by decide +kernel
theorem dX1_heirItem_53 : decode cX1_heirItem 53 = .ok (.aload_n 0, 1) := by decide +kernel
theorem dX1_heirItem_54 : decode cX1_heirItem 54 = .ok (.invokevirtual 57, 3) := by decide +kernel
theorem dX1_heirItem_57 : decode cX1_heirItem 57 = .ok (.ireturn, 1) := by decide +kernel
theorem dX1_heartItem_0 : decode cX1_heartItem 0 = .ok (.aload_n 0, 1) := by decide +kernel
theorem dX1_heartItem_1 : decode cX1_heartItem 1 = .ok (.invokevirtual 37, 3) := by decide +kernel
theorem dX1_heartItem_4 : decode cX1_heartItem 4 = .ok (.aload_n 0, 1) := by decide +kernel
theorem dX1_heartItem_5 : decode cX1_heartItem 5 = .ok (.aload_n 1, 1) := by decide +kernel
theorem dX1_heartItem_6 : decode cX1_heartItem 6 = .ok (.getfield 79, 3) := by decide +kernel
theorem dX1_heartItem_9 : decode cX1_heartItem 9 = .ok (.iconst 1, 1) := by decide +kernel
theorem dX1_heartItem_10 : decode cX1_heartItem 10 = .ok (.isub, 1) := by decide +kernel
theorem dX1_heartItem_11 : decode cX1_heartItem 11 = .ok (.iconst (-1), 1) := by decide +kernel
theorem dX1_heartItem_12 : decode cX1_heartItem 12 = .ok (.invokevirtual 53, 3) := by decide +kernel
theorem dX1_heartItem_15 : decode cX1_heartItem 15 = .ok (.istore_n 3, 1) := by decide +kernel
theorem dX1_heartItem_16 : decode cX1_heartItem 16 = .ok (.iload_n 3, 1) := by decide +kernel
theorem dX1_heartItem_17 : decode cX1_heartItem 17 = .ok (.iconst (-1), 1) := by decide +kernel
theorem dX1_heartItem_18 : decode cX1_heartItem 18 = .ok (.if_icmp .ne 5, 3) := by decide +kernel
theorem dX1_heartItem_21 : decode cX1_heartItem 21 = .ok (.iconst 0, 1) := by decide +kernel
theorem dX1_heartItem_22 : decode cX1_heartItem 22 = .ok (.ireturn, 1) := by decide +kernel
theorem dX1_heartItem_23 : decode cX1_heartItem 23 = .ok (.iconst 0, 1) := by decide +kernel
theorem dX1_heartItem_24 : decode cX1_heartItem 24 = .ok (.istore 4, 2) := by decide +kernel
theorem dX1_heartItem_26 : decode cX1_heartItem 26 = .ok (.iconst 0, 1) := by decide +kernel
theorem dX1_heartItem_27 : decode cX1_heartItem 27 = .ok (.istore 5, 2) := by decide +kernel
theorem dX1_heartItem_29 : decode cX1_heartItem 29 = .ok (.iload 5, 2) := by decide +kernel
theorem dX1_heartItem_31 : decode cX1_heartItem 31 = .ok (.sipush 150, 3) := by decide +kernel
theorem dX1_heartItem_34 : decode cX1_heartItem 34 = .ok (.if_icmp .ge 43, 3) := by decide +kernel
theorem dX1_heartItem_37 : decode cX1_heartItem 37 = .ok (.aload_n 0, 1) := by decide +kernel
theorem dX1_heartItem_38 : decode cX1_heartItem 38 = .ok (.getfield 25, 3) := by decide +kernel
theorem dX1_heartItem_41 : decode cX1_heartItem 41 = .ok (.iconst 2, 1) := by decide +kernel
theorem dX1_heartItem_42 : decode cX1_heartItem 42 = .ok (.if_icmp .ne 35, 3) := by decide +kernel
theorem dX1_heartItem_45 : decode cX1_heartItem 45 = .ok (.aload_n 0, 1) := by decide +kernel
theorem dX1_heartItem_46 : decode cX1_heartItem 46 = .ok (.bipush 7, 2) := by decide +kernel
theorem dX1_heartItem_48 : decode cX1_heartItem 48 = .ok (.iconst (-1), 1) := by decide +kernel
theorem dX1_heartItem_49 : decode cX1_heartItem 49 = .ok (.invokevirtual 53, 3) := by decide +kernel
theorem dX1_heartItem_52 : decode cX1_heartItem 52 = .ok (.istore 6, 2) := by decide +kernel
theorem dX1_heartItem_54 : decode cX1_heartItem 54 = .ok (.iload 6, 2) := by decide +kernel
theorem dX1_heartItem_56 : decode cX1_heartItem 56 = .ok (.iconst (-1), 1) := by decide +kernel
theorem dX1_heartItem_57 : decode cX1_heartItem 57 = .ok (.if_icmp .ne 5, 3) := by decide +kernel
theorem dX1_heartItem_60 : decode cX1_heartItem 60 = .ok (.iconst 0, 1) := by decide +kernel
theorem dX1_heartItem_61 : decode cX1_heartItem 61 = .ok (.ireturn, 1) := by decide +kernel
theorem dX1_heartItem_62 : decode cX1_heartItem 62 = .ok (.iload 4, 2) := by decide +kernel
theorem dX1_heartItem_64 : decode cX1_heartItem 64 = .ok (.iconst 1, 1) := by decide +kernel
theorem dX1_heartItem_65 : decode cX1_heartItem 65 = .ok (.iload 6, 2) := by decide +kernel
theorem dX1_heartItem_67 : decode cX1_heartItem 67 = .ok (.ishl, 1) := by decide +kernel
theorem dX1_heartItem_68 : decode cX1_heartItem 68 = .ok (.ior, 1) := by decide +kernel
theorem dX1_heartItem_69 : decode cX1_heartItem 69 = .ok (.istore 4, 2) := by decide +kernel
theorem dX1_heartItem_71 : decode cX1_heartItem 71 = .ok (.iinc 5 1, 3) := by decide +kernel
theorem dX1_heartItem_74 : decode cX1_heartItem 74 = .ok (.goto (-45), 3) := by decide +kernel
theorem dX1_heartItem_77 : decode cX1_heartItem 77 = .ok (.aload_n 1, 1) := by decide +kernel
theorem dX1_heartItem_78 : decode cX1_heartItem 78 = .ok (.getfield 86, 3) := by decide +kernel
theorem dX1_heartItem_81 : decode cX1_heartItem 81 = .ok (.iload_n 3, 1) := by decide +kernel
theorem dX1_heartItem_82 : decode cX1_heartItem 82 = .ok (.aaload, 1) := by decide +kernel
theorem dX1_heartItem_83 : decode cX1_heartItem 83 = .ok (.astore 5, 2) := by decide +kernel
theorem dX1_heartItem_85 : decode cX1_heartItem 85 = .ok (.aload 5, 2) := by decide +kernel
theorem dX1_heartItem_87 : decode cX1_heartItem 87 = .ok (.iload_n 2, 1) := by decide +kernel
theorem dX1_heartItem_88 : decode cX1_heartItem 88 = .ok (.ifCond .eq 8, 3) := by decide +kernel
theorem dX1_heartItem_91 : decode cX1_heartItem 91 = .ok (.iload 4, 2) := by decide +kernel
theorem dX1_heartItem_93 : decode cX1_heartItem 93 = .ok (.goto 8, 3) := by decide +kernel
theorem dX1_heartItem_96 : decode cX1_heartItem 96 = .ok (.aload 5, 2) := by decide +kernel
theorem dX1_heartItem_98 : decode cX1_heartItem 98 = .ok (.getfield 90, 3) := by decide +kernel
theorem dX1_heartItem_101 : decode cX1_heartItem 101 = .ok (.iload_n 2, 1) := by decide +kernel
theorem dX1_heartItem_102 : decode cX1_heartItem 102 = .ok (.ifCond .eq 11, 3) := by decide +kernel
theorem dX1_heartItem_105 : decode cX1_heartItem 105 = .ok (.aload 5, 2) := by decide +kernel
theorem dX1_heartItem_107 : decode cX1_heartItem 107 = .ok (.getfield 95, 3) := by decide +kernel
theorem dX1_heartItem_110 : decode cX1_heartItem 110 = .ok (.goto 5, 3) := by decide +kernel
theorem dX1_heartItem_113 : decode cX1_heartItem 113 = .ok (.iload 4, 2) := by decide +kernel
theorem dX1_heartItem_115 : decode cX1_heartItem 115 = .ok (.invokevirtual 98, 3) := by decide +kernel
theorem dX1_heartItem_118 : decode cX1_heartItem 118 = .ok (.aload_n 0, 1) := by decide +kernel
theorem dX1_heartItem_119 : decode cX1_heartItem 119 = .ok (.invokevirtual 57, 3) := by decide +kernel
theorem dX1_heartItem_122 : decode cX1_heartItem 122 = .ok (.ireturn, 1) := by decide +kernel
theorem dX1_pairItem_0 : decode cX1_pairItem 0 = .ok (.aload_n 0, 1) := by decide +kernel
theorem dX1_pairItem_1 : decode cX1_pairItem 1 = .ok (.invokevirtual 37, 3) := by decide +kernel
theorem dX1_pairItem_4 : decode cX1_pairItem 4 = .ok (.aload_n 0, 1) := by decide +kernel
theorem dX1_pairItem_5 : decode cX1_pairItem 5 = .ok (.aload_n 1, 1) := by decide +kernel
theorem dX1_pairItem_6 : decode cX1_pairItem 6 = .ok (.getfield 79, 3) := by decide +kernel
theorem dX1_pairItem_9 : decode cX1_pairItem 9 = .ok (.iconst 1, 1) := by decide +kernel
theorem dX1_pairItem_10 : decode cX1_pairItem 10 = .ok (.isub, 1) := by decide +kernel
theorem dX1_pairItem_11 : decode cX1_pairItem 11 = .ok (.iconst (-1), 1) := by decide +kernel
theorem dX1_pairItem_12 : decode cX1_pairItem 12 = .ok (.invokevirtual 53, 3) := by decide +kernel
theorem dX1_pairItem_15 : decode cX1_pairItem 15 = .ok (.istore_n 2, 1) := by decide +kernel
theorem dX1_pairItem_16 : decode cX1_pairItem 16 = .ok (.iload_n 2, 1) := by decide +kernel
theorem dX1_pairItem_17 : decode cX1_pairItem 17 = .ok (.iconst (-1), 1) := by decide +kernel
theorem dX1_pairItem_18 : decode cX1_pairItem 18 = .ok (.if_icmp .ne 5, 3) := by decide +kernel
theorem dX1_pairItem_21 : decode cX1_pairItem 21 = .ok (.iconst 0, 1) := by decide +kernel
theorem dX1_pairItem_22 : decode cX1_pairItem 22 = .ok (.ireturn, 1) := by decide +kernel
theorem dX1_pairItem_23 : decode cX1_pairItem 23 = .ok (.aload_n 0, 1) := by decide +kernel
theorem dX1_pairItem_24 : decode cX1_pairItem 24 = .ok (.aload_n 1, 1) := by decide +kernel
theorem dX1_pairItem_25 : decode cX1_pairItem 25 = .ok (.getfield 79, 3) := by decide +kernel
theorem dX1_pairItem_28 : decode cX1_pairItem 28 = .ok (.iconst 1, 1) := by decide +kernel
theorem dX1_pairItem_29 : decode cX1_pairItem 29 = .ok (.isub, 1) := by decide +kernel
theorem dX1_pairItem_30 : decode cX1_pairItem 30 = .ok (.iload_n 2, 1) := by decide +kernel
theorem dX1_pairItem_31 : decode cX1_pairItem 31 = .ok (.invokevirtual 53, 3) := by decide +kernel
theorem dX1_pairItem_34 : decode cX1_pairItem 34 = .ok (.istore_n 3, 1) := by decide +kernel
theorem dX1_pairItem_35 : decode cX1_pairItem 35 = .ok (.iload_n 3, 1) := by decide +kernel
theorem dX1_pairItem_36 : decode cX1_pairItem 36 = .ok (.iconst (-1), 1) := by decide +kernel
theorem dX1_pairItem_37 : decode cX1_pairItem 37 = .ok (.if_icmp .ne 5, 3) := by decide +kernel
theorem dX1_pairItem_40 : decode cX1_pairItem 40 = .ok (.iconst 0, 1) := by decide +kernel
theorem dX1_pairItem_41 : decode cX1_pairItem 41 = .ok (.ireturn, 1) := by decide +kernel
theorem dX1_pairItem_42 : decode cX1_pairItem 42 = .ok (.aload_n 1, 1) := by decide +kernel
theorem dX1_pairItem_43 : decode cX1_pairItem 43 = .ok (.getfield 102, 3) := by decide +kernel
theorem dX1_pairItem_46 : decode cX1_pairItem 46 = .ok (.iload_n 2, 1) := by decide +kernel
theorem dX1_pairItem_47 : decode cX1_pairItem 47 = .ok (.putfield 106, 3) := by decide +kernel
theorem dX1_pairItem_50 : decode cX1_pairItem 50 = .ok (.aload_n 1, 1) := by decide +kernel
theorem dX1_pairItem_51 : decode cX1_pairItem 51 = .ok (.getfield 102, 3) := by decide +kernel
theorem dX1_pairItem_54 : decode cX1_pairItem 54 = .ok (.iload_n 3, 1) := by decide +kernel
theorem dX1_pairItem_55 : decode cX1_pairItem 55 = .ok (.putfield 111, 3) := by decide +kernel
theorem dX1_pairItem_58 : decode cX1_pairItem 58 = .ok (.aload_n 0, 1) := by decide +kernel
theorem dX1_pairItem_59 : decode cX1_pairItem 59 = .ok (.invokevirtual 57, 3) := by decide +kernel
theorem dX1_pairItem_62 : decode cX1_pairItem 62 = .ok (.ireturn, 1) := by decide +kernel
theorem dX1_takeNumber_0 : decode cX1_takeNumber 0 = .ok (.aload_n 0, 1) := by decide +kernel
theorem dX1_takeNumber_1 : decode cX1_takeNumber 1 = .ok (.getfield 25, 3) := by decide +kernel
theorem dX1_takeNumber_4 : decode cX1_takeNumber 4 = .ok (.iconst 2, 1) := by decide +kernel
theorem dX1_takeNumber_5 : decode cX1_takeNumber 5 = .ok (.if_icmp .ne 19, 3) := by decide +kernel
theorem dX1_takeNumber_8 : decode cX1_takeNumber 8 = .ok (.aload_n 0, 1) := by decide +kernel
theorem dX1_takeNumber_9 : decode cX1_takeNumber 9 = .ok (.getfield 28, 3) := by decide +kernel
theorem dX1_takeNumber_12 : decode cX1_takeNumber 12 = .ok (.iload_n 1, 1) := by decide +kernel
theorem dX1_takeNumber_13 : decode cX1_takeNumber 13 = .ok (.if_icmp .gt 11, 3) := by decide +kernel
theorem dX1_takeNumber_16 : decode cX1_takeNumber 16 = .ok (.aload_n 0, 1) := by decide +kernel
theorem dX1_takeNumber_17 : decode cX1_takeNumber 17 = .ok (.getfield 28, 3) := by decide +kernel
theorem dX1_takeNumber_20 : decode cX1_takeNumber 20 = .ok (.iload_n 2, 1) := by decide +kernel
theorem dX1_takeNumber_21 : decode cX1_takeNumber 21 = .ok (.if_icmp .ne 5, 3) := by decide +kernel
theorem dX1_takeNumber_24 : decode cX1_takeNumber 24 = .ok (.iconst (-1), 1) := by decide +kernel
theorem dX1_takeNumber_25 : decode cX1_takeNumber 25 = .ok (.ireturn, 1) := by decide +kernel
theorem dX1_takeNumber_26 : decode cX1_takeNumber 26 = .ok (.aload_n 0, 1) := by decide +kernel
theorem dX1_takeNumber_27 : decode cX1_takeNumber 27 = .ok (.getfield 28, 3) := by decide +kernel
theorem dX1_takeNumber_30 : decode cX1_takeNumber 30 = .ok (.istore_n 3, 1) := by decide +kernel
theorem dX1_takeNumber_31 : decode cX1_takeNumber 31 = .ok (.aload_n 0, 1) := by decide +kernel
theorem dX1_takeNumber_32 : decode cX1_takeNumber 32 = .ok (.invokevirtual 37, 3) := by decide +kernel
theorem dX1_takeNumber_35 : decode cX1_takeNumber 35 = .ok (.iload_n 3, 1) := by decide +kernel
theorem dX1_takeNumber_36 : decode cX1_takeNumber 36 = .ok (.ireturn, 1) := by decide +kernel
theorem dX1_takeEnding_0 : decode cX1_takeEnding 0 = .ok (.aload_n 0, 1) := by decide +kernel
theorem dX1_takeEnding_1 : decode cX1_takeEnding 1 = .ok (.getfield 25, 3) := by decide +kernel
theorem dX1_takeEnding_4 : decode cX1_takeEnding 4 = .ok (.iconst 3, 1) := by decide +kernel
theorem dX1_takeEnding_5 : decode cX1_takeEnding 5 = .ok (.if_icmp .eq 5, 3) := by decide +kernel
theorem dX1_takeEnding_8 : decode cX1_takeEnding 8 = .ok (.iconst 0, 1) := by decide +kernel
theorem dX1_takeEnding_9 : decode cX1_takeEnding 9 = .ok (.ireturn, 1) := by decide +kernel
theorem dX1_takeEnding_10 : decode cX1_takeEnding 10 = .ok (.aload_n 0, 1) := by decide +kernel
theorem dX1_takeEnding_11 : decode cX1_takeEnding 11 = .ok (.invokevirtual 37, 3) := by decide +kernel
theorem dX1_takeEnding_14 : decode cX1_takeEnding 14 = .ok (.iconst 1, 1) := by decide +kernel
theorem dX1_takeEnding_15 : decode cX1_takeEnding 15 = .ok (.ireturn, 1) := by decide +kernel
theorem dX1_isWord_0 : decode cX1_isWord 0 = .ok (.aload_n 0, 1) := by decide +kernel
theorem dX1_isWord_1 : decode cX1_isWord 1 = .ok (.getfield 25, 3) := by decide +kernel
theorem dX1_isWord_4 : decode cX1_isWord 4 = .ok (.iconst 1, 1) := by decide +kernel
theorem dX1_isWord_5 : decode cX1_isWord 5 = .ok (.if_icmp .ne 19, 3) := by decide +kernel
theorem dX1_isWord_8 : decode cX1_isWord 8 = .ok (.aload_n 0, 1) := by decide +kernel
theorem dX1_isWord_9 : decode cX1_isWord 9 = .ok (.getfield 22, 3) := by decide +kernel
theorem dX1_isWord_12 : decode cX1_isWord 12 = .ok (.aload_n 0, 1) := by decide +kernel
theorem dX1_isWord_13 : decode cX1_isWord 13 = .ok (.getfield 19, 3) := by decide +kernel
theorem dX1_isWord_16 : decode cX1_isWord 16 = .ok (.isub, 1) := by decide +kernel
theorem dX1_isWord_17 : decode cX1_isWord 17 = .ok (.aload_n 1, 1) := by decide +kernel
theorem dX1_isWord_18 : decode cX1_isWord 18 = .ok (.invokevirtual 114, 3) := by decide +kernel
theorem dX1_isWord_21 : decode cX1_isWord 21 = .ok (.if_icmp .eq 5, 3) := by decide +kernel
theorem dX1_isWord_24 : decode cX1_isWord 24 = .ok (.iconst 0, 1) := by decide +kernel
theorem dX1_isWord_25 : decode cX1_isWord 25 = .ok (.ireturn, 1) := by decide +kernel
theorem dX1_isWord_26 : decode cX1_isWord 26 = .ok (.iconst 0, 1) := by decide +kernel
theorem dX1_isWord_27 : decode cX1_isWord 27 = .ok (.istore_n 2, 1) := by decide +kernel
theorem dX1_isWord_28 : decode cX1_isWord 28 = .ok (.iload_n 2, 1) := by decide +kernel
theorem dX1_isWord_29 : decode cX1_isWord 29 = .ok (.aload_n 1, 1) := by decide +kernel
theorem dX1_isWord_30 : decode cX1_isWord 30 = .ok (.invokevirtual 114, 3) := by decide +kernel
theorem dX1_isWord_33 : decode cX1_isWord 33 = .ok (.if_icmp .ge 30, 3) := by decide +kernel
theorem dX1_isWord_36 : decode cX1_isWord 36 = .ok (.aload_n 0, 1) := by decide +kernel
theorem dX1_isWord_37 : decode cX1_isWord 37 = .ok (.getfield 9, 3) := by decide +kernel
theorem dX1_isWord_40 : decode cX1_isWord 40 = .ok (.aload_n 0, 1) := by decide +kernel
theorem dX1_isWord_41 : decode cX1_isWord 41 = .ok (.getfield 19, 3) := by decide +kernel
theorem dX1_isWord_44 : decode cX1_isWord 44 = .ok (.iload_n 2, 1) := by decide +kernel
theorem dX1_isWord_45 : decode cX1_isWord 45 = .ok (.iadd, 1) := by decide +kernel
theorem dX1_isWord_46 : decode cX1_isWord 46 = .ok (.iaload, 1) := by decide +kernel
theorem dX1_isWord_47 : decode cX1_isWord 47 = .ok (.aload_n 1, 1) := by decide +kernel
theorem dX1_isWord_48 : decode cX1_isWord 48 = .ok (.iload_n 2, 1) := by decide +kernel
theorem dX1_isWord_49 : decode cX1_isWord 49 = .ok (.invokevirtual 119, 3) := by decide +kernel
theorem dX1_isWord_52 : decode cX1_isWord 52 = .ok (.if_icmp .eq 5, 3) := by decide +kernel
theorem dX1_isWord_55 : decode cX1_isWord 55 = .ok (.iconst 0, 1) := by decide +kernel
theorem dX1_isWord_56 : decode cX1_isWord 56 = .ok (.ireturn, 1) := by decide +kernel
theorem dX1_isWord_57 : decode cX1_isWord 57 = .ok (.iinc 2 1, 3) := by decide +kernel
theorem dX1_isWord_60 : decode cX1_isWord 60 = .ok (.goto (-32), 3) := by decide +kernel
theorem dX1_isWord_63 : decode cX1_isWord 63 = .ok (.iconst 1, 1) := by decide +kernel
theorem dX1_isWord_64 : decode cX1_isWord 64 = .ok (.ireturn, 1) := by decide +kernel
theorem dX1_advance_0 : decode cX1_advance 0 = .ok (.aload_n 0, 1) := by decide +kernel
theorem dX1_advance_1 : decode cX1_advance 1 = .ok (.getfield 22, 3) := by decide +kernel
theorem dX1_advance_4 : decode cX1_advance 4 = .ok (.aload_n 0, 1) := by decide +kernel
theorem dX1_advance_5 : decode cX1_advance 5 = .ok (.getfield 15, 3) := by decide +kernel
theorem dX1_advance_8 : decode cX1_advance 8 = .ok (.if_icmp .ge 30, 3) := by decide +kernel
theorem dX1_advance_11 : decode cX1_advance 11 = .ok (.aload_n 0, 1) := by decide +kernel
theorem dX1_advance_12 : decode cX1_advance 12 = .ok (.getfield 9, 3) := by decide +kernel
theorem dX1_advance_15 : decode cX1_advance 15 = .ok (.aload_n 0, 1) := by decide +kernel
theorem dX1_advance_16 : decode cX1_advance 16 = .ok (.getfield 22, 3) := by decide +kernel
theorem dX1_advance_19 : decode cX1_advance 19 = .ok (.iaload, 1) := by decide +kernel
theorem dX1_advance_20 : decode cX1_advance 20 = .ok (.bipush 32, 2) := by decide +kernel
theorem dX1_advance_22 : decode cX1_advance 22 = .ok (.if_icmp .ne 16, 3) := by decide +kernel
theorem dX1_advance_25 : decode cX1_advance 25 = .ok (.aload_n 0, 1) := by decide +kernel
theorem dX1_advance_26 : decode cX1_advance 26 = .ok (.dup, 1) := by decide +kernel
theorem dX1_advance_27 : decode cX1_advance 27 = .ok (.getfield 22, 3) := by decide +kernel
theorem dX1_advance_30 : decode cX1_advance 30 = .ok (.iconst 1, 1) := by decide +kernel
theorem dX1_advance_31 : decode cX1_advance 31 = .ok (.iadd, 1) := by decide +kernel
theorem dX1_advance_32 : decode cX1_advance 32 = .ok (.putfield 22, 3) := by decide +kernel
theorem dX1_advance_35 : decode cX1_advance 35 = .ok (.goto (-35), 3) := by decide +kernel
theorem dX1_advance_38 : decode cX1_advance 38 = .ok (.aload_n 0, 1) := by decide +kernel
theorem dX1_advance_39 : decode cX1_advance 39 = .ok (.aload_n 0, 1) := by decide +kernel
theorem dX1_advance_40 : decode cX1_advance 40 = .ok (.getfield 22, 3) := by decide +kernel
theorem dX1_advance_43 : decode cX1_advance 43 = .ok (.putfield 19, 3) := by decide +kernel
theorem dX1_advance_46 : decode cX1_advance 46 = .ok (.aload_n 0, 1) := by decide +kernel
theorem dX1_advance_47 : decode cX1_advance 47 = .ok (.aload_n 0, 1) := by decide +kernel
theorem dX1_advance_48 : decode cX1_advance 48 = .ok (.aload_n 0, 1) := by decide +kernel
theorem dX1_advance_49 : decode cX1_advance 49 = .ok (.getfield 19, 3) := by decide +kernel
theorem dX1_advance_52 : decode cX1_advance 52 = .ok (.invokevirtual 123, 3) := by decide +kernel
theorem dX1_advance_55 : decode cX1_advance 55 = .ok (.putfield 25, 3) := by decide +kernel
theorem dX1_advance_58 : decode cX1_advance 58 = .ok (.aload_n 0, 1) := by decide +kernel
theorem dX1_advance_59 : decode cX1_advance 59 = .ok (.iconst 0, 1) := by decide +kernel
theorem dX1_advance_60 : decode cX1_advance 60 = .ok (.putfield 28, 3) := by decide +kernel
theorem dX1_advance_63 : decode cX1_advance 63 = .ok (.aload_n 0, 1) := by decide +kernel
theorem dX1_advance_64 : decode cX1_advance 64 = .ok (.getfield 25, 3) := by decide +kernel
theorem dX1_advance_67 : decode cX1_advance 67 = .ok (.iconst 1, 1) := by decide +kernel
theorem dX1_advance_68 : decode cX1_advance 68 = .ok (.if_icmp .ne 39, 3) := by decide +kernel
theorem dX1_advance_71 : decode cX1_advance 71 = .ok (.aload_n 0, 1) := by decide +kernel
theorem dX1_advance_72 : decode cX1_advance 72 = .ok (.getfield 22, 3) := by decide +kernel
theorem dX1_advance_75 : decode cX1_advance 75 = .ok (.aload_n 0, 1) := by decide +kernel
theorem dX1_advance_76 : decode cX1_advance 76 = .ok (.getfield 15, 3) := by decide +kernel
theorem dX1_advance_79 : decode cX1_advance 79 = .ok (.if_icmp .ge 134, 3) := by decide +kernel
theorem dX1_advance_82 : decode cX1_advance 82 = .ok (.aload_n 0, 1) := by decide +kernel
theorem dX1_advance_83 : decode cX1_advance 83 = .ok (.aload_n 0, 1) := by decide +kernel
theorem dX1_advance_84 : decode cX1_advance 84 = .ok (.getfield 22, 3) := by decide +kernel
theorem dX1_advance_87 : decode cX1_advance 87 = .ok (.invokevirtual 123, 3) := by decide +kernel
theorem dX1_advance_90 : decode cX1_advance 90 = .ok (.iconst 1, 1) := by decide +kernel
theorem dX1_advance_91 : decode cX1_advance 91 = .ok (.if_icmp .ne 122, 3) := by decide +kernel
theorem dX1_advance_94 : decode cX1_advance 94 = .ok (.aload_n 0, 1) := by decide +kernel
theorem dX1_advance_95 : decode cX1_advance 95 = .ok (.dup, 1) := by decide +kernel
theorem dX1_advance_96 : decode cX1_advance 96 = .ok (.getfield 22, 3) := by decide +kernel
theorem dX1_advance_99 : decode cX1_advance 99 = .ok (.iconst 1, 1) := by decide +kernel
theorem dX1_advance_100 : decode cX1_advance 100 = .ok (.iadd, 1) := by decide +kernel
theorem dX1_advance_101 : decode cX1_advance 101 = .ok (.putfield 22, 3) := by decide +kernel
theorem dX1_advance_104 : decode cX1_advance 104 = .ok (.goto (-33), 3) := by decide +kernel
theorem dX1_advance_107 : decode cX1_advance 107 = .ok (.aload_n 0, 1) := by decide +kernel
theorem dX1_advance_108 : decode cX1_advance 108 = .ok (.getfield 25, 3) := by decide +kernel
theorem dX1_advance_111 : decode cX1_advance 111 = .ok (.iconst 2, 1) := by decide +kernel
theorem dX1_advance_112 : decode cX1_advance 112 = .ok (.if_icmp .ne 84, 3) := by decide +kernel
theorem dX1_advance_115 : decode cX1_advance 115 = .ok (.aload_n 0, 1) := by decide +kernel
theorem dX1_advance_116 : decode cX1_advance 116 = .ok (.getfield 22, 3) := by decide +kernel
theorem dX1_advance_119 : decode cX1_advance 119 = .ok (.aload_n 0, 1) := by decide +kernel
theorem dX1_advance_120 : decode cX1_advance 120 = .ok (.getfield 15, 3) := by decide +kernel
theorem dX1_advance_123 : decode cX1_advance 123 = .ok (.if_icmp .ge 52, 3) := by decide +kernel
theorem dX1_advance_126 : decode cX1_advance 126 = .ok (.aload_n 0, 1) := by decide +kernel
theorem dX1_advance_127 : decode cX1_advance 127 = .ok (.aload_n 0, 1) := by decide +kernel
theorem dX1_advance_128 : decode cX1_advance 128 = .ok (.getfield 22, 3) := by decide +kernel
theorem dX1_advance_131 : decode cX1_advance 131 = .ok (.invokevirtual 123, 3) := by decide +kernel
theorem dX1_advance_134 : decode cX1_advance 134 = .ok (.iconst 2, 1) := by decide +kernel
theorem dX1_advance_135 : decode cX1_advance 135 = .ok (.if_icmp .ne 40, 3) := by decide +kernel
theorem dX1_advance_138 : decode cX1_advance 138 = .ok (.aload_n 0, 1) := by decide +kernel
theorem dX1_advance_139 : decode cX1_advance 139 = .ok (.bipush 10, 2) := by decide +kernel
theorem dX1_advance_141 : decode cX1_advance 141 = .ok (.aload_n 0, 1) := by decide +kernel
theorem dX1_advance_142 : decode cX1_advance 142 = .ok (.getfield 28, 3) := by decide +kernel
theorem dX1_advance_145 : decode cX1_advance 145 = .ok (.imul, 1) := by decide +kernel
theorem dX1_advance_146 : decode cX1_advance 146 = .ok (.aload_n 0, 1) := by decide +kernel
theorem dX1_advance_147 : decode cX1_advance 147 = .ok (.getfield 9, 3) := by decide +kernel
theorem dX1_advance_150 : decode cX1_advance 150 = .ok (.aload_n 0, 1) := by decide +kernel
theorem dX1_advance_151 : decode cX1_advance 151 = .ok (.getfield 22, 3) := by decide +kernel
theorem dX1_advance_154 : decode cX1_advance 154 = .ok (.iaload, 1) := by decide +kernel
theorem dX1_advance_155 : decode cX1_advance 155 = .ok (.iadd, 1) := by decide +kernel
theorem dX1_advance_156 : decode cX1_advance 156 = .ok (.bipush 48, 2) := by decide +kernel
theorem dX1_advance_158 : decode cX1_advance 158 = .ok (.isub, 1) := by decide +kernel
theorem dX1_advance_159 : decode cX1_advance 159 = .ok (.putfield 28, 3) := by decide +kernel
theorem dX1_advance_162 : decode cX1_advance 162 = .ok (.aload_n 0, 1) := by decide +kernel
theorem dX1_advance_163 : decode cX1_advance 163 = .ok (.dup, 1) := by decide +kernel
theorem dX1_advance_164 : decode cX1_advance 164 = .ok (.getfield 22, 3) := by decide +kernel
theorem dX1_advance_167 : decode cX1_advance 167 = .ok (.iconst 1, 1) := by decide +kernel
theorem dX1_advance_168 : decode cX1_advance 168 = .ok (.iadd, 1) := by decide +kernel
theorem dX1_advance_169 : decode cX1_advance 169 = .ok (.putfield 22, 3) := by decide +kernel
theorem dX1_advance_172 : decode cX1_advance 172 = .ok (.goto (-57), 3) := by decide +kernel
theorem dX1_advance_175 : decode cX1_advance 175 = .ok (.aload_n 0, 1) := by decide +kernel
theorem dX1_advance_176 : decode cX1_advance 176 = .ok (.getfield 22, 3) := by decide +kernel
theorem dX1_advance_179 : decode cX1_advance 179 = .ok (.aload_n 0, 1) := by decide +kernel
theorem dX1_advance_180 : decode cX1_advance 180 = .ok (.getfield 19, 3) := by decide +kernel
theorem dX1_advance_183 : decode cX1_advance 183 = .ok (.isub, 1) := by decide +kernel
theorem dX1_advance_184 : decode cX1_advance 184 = .ok (.iconst 2, 1) := by decide +kernel
theorem dX1_advance_185 : decode cX1_advance 185 = .ok (.if_icmp .le 28, 3) := by decide +kernel
theorem dX1_advance_188 : decode cX1_advance 188 = .ok (.aload_n 0, 1) := by decide +kernel
theorem dX1_advance_189 : decode cX1_advance 189 = .ok (.iconst 4, 1) := by decide +kernel
theorem dX1_advance_190 : decode cX1_advance 190 = .ok (.putfield 25, 3) := by decide +kernel
theorem dX1_advance_193 : decode cX1_advance 193 = .ok (.goto 20, 3) := by decide +kernel
theorem dX1_advance_196 : decode cX1_advance 196 = .ok (.aload_n 0, 1) := by decide +kernel
theorem dX1_advance_197 : decode cX1_advance 197 = .ok (.getfield 25, 3) := by decide +kernel
theorem dX1_advance_200 : decode cX1_advance 200 = .ok (.ifCond .eq 13, 3) := by decide +kernel
theorem dX1_advance_203 : decode cX1_advance 203 = .ok (.aload_n 0, 1) := by decide +kernel
theorem dX1_advance_204 : decode cX1_advance 204 = .ok (.dup, 1) := by decide +kernel
theorem dX1_advance_205 : decode cX1_advance 205 = .ok (.getfield 22, 3) := by decide +kernel
theorem dX1_advance_208 : decode cX1_advance 208 = .ok (.iconst 1, 1) := by decide +kernel
theorem dX1_advance_209 : decode cX1_advance 209 = .ok (.iadd, 1) := by decide +kernel
theorem dX1_advance_210 : decode cX1_advance 210 = .ok (.putfield 22, 3) := by decide +kernel
theorem dX1_advance_213 : decode cX1_advance 213 = .ok (.return_, 1) := by decide +kernel
theorem dX1_sortAt_0 : decode cX1_sortAt 0 = .ok (.iload_n 1, 1) := by decide +kernel
theorem dX1_sortAt_1 : decode cX1_sortAt 1 = .ok (.aload_n 0, 1) := by decide +kernel
theorem dX1_sortAt_2 : decode cX1_sortAt 2 = .ok (.getfield 15, 3) := by decide +kernel
theorem dX1_sortAt_5 : decode cX1_sortAt 5 = .ok (.if_icmp .lt 5, 3) := by decide +kernel
theorem dX1_sortAt_8 : decode cX1_sortAt 8 = .ok (.iconst 0, 1) := by decide +kernel
theorem dX1_sortAt_9 : decode cX1_sortAt 9 = .ok (.ireturn, 1) := by decide +kernel
theorem dX1_sortAt_10 : decode cX1_sortAt 10 = .ok (.aload_n 0, 1) := by decide +kernel
theorem dX1_sortAt_11 : decode cX1_sortAt 11 = .ok (.getfield 9, 3) := by decide +kernel
theorem dX1_sortAt_14 : decode cX1_sortAt 14 = .ok (.iload_n 1, 1) := by decide +kernel
theorem dX1_sortAt_15 : decode cX1_sortAt 15 = .ok (.iaload, 1) := by decide +kernel
theorem dX1_sortAt_16 : decode cX1_sortAt 16 = .ok (.istore_n 2, 1) := by decide +kernel
theorem dX1_sortAt_17 : decode cX1_sortAt 17 = .ok (.iload_n 2, 1) := by decide +kernel
theorem dX1_sortAt_18 : decode cX1_sortAt 18 = .ok (.bipush 97, 2) := by decide +kernel
theorem dX1_sortAt_20 : decode cX1_sortAt 20 = .ok (.if_icmp .lt 11, 3) := by decide +kernel
theorem dX1_sortAt_23 : decode cX1_sortAt 23 = .ok (.iload_n 2, 1) := by decide +kernel
theorem dX1_sortAt_24 : decode cX1_sortAt 24 = .ok (.bipush 122, 2) := by decide +kernel
theorem dX1_sortAt_26 : decode cX1_sortAt 26 = .ok (.if_icmp .gt 5, 3) := by decide +kernel
theorem dX1_sortAt_29 : decode cX1_sortAt 29 = .ok (.iconst 1, 1) := by decide +kernel
theorem dX1_sortAt_30 : decode cX1_sortAt 30 = .ok (.ireturn, 1) := by decide +kernel
theorem dX1_sortAt_31 : decode cX1_sortAt 31 = .ok (.iload_n 2, 1) := by decide +kernel
theorem dX1_sortAt_32 : decode cX1_sortAt 32 = .ok (.bipush 48, 2) := by decide +kernel
theorem dX1_sortAt_34 : decode cX1_sortAt 34 = .ok (.if_icmp .lt 11, 3) := by decide +kernel
theorem dX1_sortAt_37 : decode cX1_sortAt 37 = .ok (.iload_n 2, 1) := by decide +kernel
theorem dX1_sortAt_38 : decode cX1_sortAt 38 = .ok (.bipush 57, 2) := by decide +kernel
theorem dX1_sortAt_40 : decode cX1_sortAt 40 = .ok (.if_icmp .gt 5, 3) := by decide +kernel
theorem dX1_sortAt_43 : decode cX1_sortAt 43 = .ok (.iconst 2, 1) := by decide +kernel
theorem dX1_sortAt_44 : decode cX1_sortAt 44 = .ok (.ireturn, 1) := by decide +kernel
theorem dX1_sortAt_45 : decode cX1_sortAt 45 = .ok (.iload_n 2, 1) := by decide +kernel
theorem dX1_sortAt_46 : decode cX1_sortAt 46 = .ok (.bipush 59, 2) := by decide +kernel
theorem dX1_sortAt_48 : decode cX1_sortAt 48 = .ok (.if_icmp .ne 7, 3) := by decide +kernel
theorem dX1_sortAt_51 : decode cX1_sortAt 51 = .ok (.iconst 3, 1) := by decide +kernel
theorem dX1_sortAt_52 : decode cX1_sortAt 52 = .ok (.goto 4, 3) := by decide +kernel
theorem dX1_sortAt_55 : decode cX1_sortAt 55 = .ok (.iconst 4, 1) := by decide +kernel
theorem dX1_sortAt_56 : decode cX1_sortAt 56 = .ok (.ireturn, 1) := by decide +kernel
theorem dX2_init_0 : decode cX2_init 0 = .ok (.aload_n 0, 1) := by decide +kernel
theorem dX2_init_1 : decode cX2_init 1 = .ok (.invokespecial 1, 3) := by decide +kernel
theorem dX2_init_4 : decode cX2_init 4 = .ok (.return_, 1) := by decide +kernel
theorem dX2_lifts_0 : decode cX2_lifts 0 = .ok (.aload_n 0, 1) := by decide +kernel
theorem dX2_lifts_1 : decode cX2_lifts 1 = .ok (.iload_n 1, 1) := by decide +kernel
theorem dX2_lifts_2 : decode cX2_lifts 2 = .ok (.iload_n 2, 1) := by decide +kernel
theorem dX2_lifts_3 : decode cX2_lifts 3 = .ok (.iload_n 3, 1) := by decide +kernel
theorem dX2_lifts_4 : decode cX2_lifts 4 = .ok (.iload 4, 2) := by decide +kernel
theorem dX2_lifts_6 : decode cX2_lifts 6 = .ok (.invokespecial 7, 3) := by decide +kernel
theorem dX2_lifts_9 : decode cX2_lifts 9 = .ok (.ifCond .ne 9, 3) := by decide +kernel
theorem dX2_lifts_12 : decode cX2_lifts 12 = .ok (.iload_n 3, 1) := by decide +kernel
theorem dX2_lifts_13 : decode cX2_lifts 13 = .ok (.bipush 30, 2) := by decide +kernel
theorem dX2_lifts_15 : decode cX2_lifts 15 = .ok (.if_icmp .ge 7, 3) := by decide +kernel
theorem dX2_lifts_18 : decode cX2_lifts 18 = .ok (.iconst 1, 1) := by decide +kernel
theorem dX2_lifts_19 : decode cX2_lifts 19 = .ok (.goto 4, 3) := by decide +kernel
theorem dX2_lifts_22 : decode cX2_lifts 22 = .ok (.iconst 0, 1) := by decide +kernel
theorem dX2_lifts_23 : decode cX2_lifts 23 = .ok (.ireturn, 1) := by decide +kernel
theorem dX2_adds_0 : decode cX2_adds 0 = .ok (.iconst 2, 1) := by decide +kernel
theorem dX2_adds_1 : decode cX2_adds 1 = .ok (.aload_n 0, 1) := by decide +kernel
theorem dX2_adds_2 : decode cX2_adds 2 = .ok (.iload_n 1, 1) := by decide +kernel
theorem dX2_adds_3 : decode cX2_adds 3 = .ok (.invokespecial 11, 3) := by decide +kernel
theorem dX2_adds_6 : decode cX2_adds 6 = .ok (.imul, 1) := by decide +kernel
theorem dX2_adds_7 : decode cX2_adds 7 = .ok (.ireturn, 1) := by decide +kernel
theorem dX3_init_0 : decode cX3_init 0 = .ok (.aload_n 0, 1) := by decide +kernel
theorem dX3_init_1 : decode cX3_init 1 = .ok (.invokespecial 1, 3) := by decide +kernel
theorem dX3_init_4 : decode cX3_init 4 = .ok (.return_, 1) := by decide +kernel
theorem dX3_put_0 : decode cX3_put 0 = .ok (.aload_n 0, 1) := by decide +kernel
theorem dX3_put_1 : decode cX3_put 1 = .ok (.iload_n 1, 1) := by decide +kernel
theorem dX3_put_2 : decode cX3_put 2 = .ok (.putfield 7, 3) := by decide +kernel
theorem dX3_put_5 : decode cX3_put 5 = .ok (.aload_n 0, 1) := by decide +kernel
theorem dX3_put_6 : decode cX3_put 6 = .ok (.iload_n 2, 1) := by decide +kernel
theorem dX3_put_7 : decode cX3_put 7 = .ok (.putfield 13, 3) := by decide +kernel
theorem dX3_put_10 : decode cX3_put 10 = .ok (.aload_n 0, 1) := by decide +kernel
theorem dX3_put_11 : decode cX3_put 11 = .ok (.iload_n 3, 1) := by decide +kernel
theorem dX3_put_12 : decode cX3_put 12 = .ok (.putfield 16, 3) := by decide +kernel
theorem dX3_put_15 : decode cX3_put 15 = .ok (.aload_n 0, 1) := by decide +kernel
theorem dX3_put_16 : decode cX3_put 16 = .ok (.iload 4, 2) := by decide +kernel
theorem dX3_put_18 : decode cX3_put 18 = .ok (.putfield 19, 3) := by decide +kernel
theorem dX3_put_21 : decode cX3_put 21 = .ok (.return_, 1) := by decide +kernel
theorem dX3_feel_0 : decode cX3_feel 0 = .ok (.aload_n 0, 1) := by decide +kernel
theorem dX3_feel_1 : decode cX3_feel 1 = .ok (.iload_n 1, 1) := by decide +kernel
theorem dX3_feel_2 : decode cX3_feel 2 = .ok (.putfield 13, 3) := by decide +kernel
theorem dX3_feel_5 : decode cX3_feel 5 = .ok (.aload_n 0, 1) := by decide +kernel
theorem dX3_feel_6 : decode cX3_feel 6 = .ok (.iload_n 2, 1) := by decide +kernel
theorem dX3_feel_7 : decode cX3_feel 7 = .ok (.putfield 16, 3) := by decide +kernel
theorem dX3_feel_10 : decode cX3_feel 10 = .ok (.return_, 1) := by decide +kernel
theorem dX3_become_0 : decode cX3_become 0 = .ok (.aload_n 0, 1) := by decide +kernel
theorem dX3_become_1 : decode cX3_become 1 = .ok (.aload_n 1, 1) := by decide +kernel
theorem dX3_become_2 : decode cX3_become 2 = .ok (.getfield 7, 3) := by decide +kernel
theorem dX3_become_5 : decode cX3_become 5 = .ok (.aload_n 1, 1) := by decide +kernel
theorem dX3_become_6 : decode cX3_become 6 = .ok (.getfield 13, 3) := by decide +kernel
theorem dX3_become_9 : decode cX3_become 9 = .ok (.aload_n 1, 1) := by decide +kernel
theorem dX3_become_10 : decode cX3_become 10 = .ok (.getfield 16, 3) := by decide +kernel
theorem dX3_become_13 : decode cX3_become 13 = .ok (.aload_n 1, 1) := by decide +kernel
theorem dX3_become_14 : decode cX3_become 14 = .ok (.getfield 19, 3) := by decide +kernel
theorem dX3_become_17 : decode cX3_become 17 = .ok (.invokevirtual 22, 3) := by decide +kernel
theorem dX3_become_20 : decode cX3_become 20 = .ok (.return_, 1) := by decide +kernel
theorem dX3_likesAlone_0 : decode cX3_likesAlone 0 = .ok (.aload_n 0, 1) := by decide +kernel
theorem dX3_likesAlone_1 : decode cX3_likesAlone 1 = .ok (.getfield 13, 3) := by decide +kernel
theorem dX3_likesAlone_4 : decode cX3_likesAlone 4 = .ok (.aload_n 0, 1) := by decide +kernel
theorem dX3_likesAlone_5 : decode cX3_likesAlone 5 = .ok (.getfield 16, 3) := by decide +kernel
theorem dX3_likesAlone_8 : decode cX3_likesAlone 8 = .ok (.iconst (-1), 1) := by decide +kernel
theorem dX3_likesAlone_9 : decode cX3_likesAlone 9 = .ok (.ixor, 1) := by decide +kernel
theorem dX3_likesAlone_10 : decode cX3_likesAlone 10 = .ok (.iand, 1) := by decide +kernel
theorem dX3_likesAlone_11 : decode cX3_likesAlone 11 = .ok (.iconst 1, 1) := by decide +kernel
theorem dX3_likesAlone_12 : decode cX3_likesAlone 12 = .ok (.iload_n 1, 1) := by decide +kernel
theorem dX3_likesAlone_13 : decode cX3_likesAlone 13 = .ok (.ishl, 1) := by decide +kernel
theorem dX3_likesAlone_14 : decode cX3_likesAlone 14 = .ok (.iand, 1) := by decide +kernel
theorem dX3_likesAlone_15 : decode cX3_likesAlone 15 = .ok (.ifCond .eq 7, 3) := by decide +kernel
theorem dX3_likesAlone_18 : decode cX3_likesAlone 18 = .ok (.iconst 1, 1) := by decide +kernel
theorem dX3_likesAlone_19 : decode cX3_likesAlone 19 = .ok (.goto 4, 3) := by decide +kernel
theorem dX3_likesAlone_22 : decode cX3_likesAlone 22 = .ok (.iconst 0, 1) := by decide +kernel
theorem dX3_likesAlone_23 : decode cX3_likesAlone 23 = .ok (.ireturn, 1) := by decide +kernel
theorem dX3_hatesAlone_0 : decode cX3_hatesAlone 0 = .ok (.aload_n 0, 1) := by decide +kernel
theorem dX3_hatesAlone_1 : decode cX3_hatesAlone 1 = .ok (.getfield 16, 3) := by decide +kernel
theorem dX3_hatesAlone_4 : decode cX3_hatesAlone 4 = .ok (.aload_n 0, 1) := by decide +kernel
theorem dX3_hatesAlone_5 : decode cX3_hatesAlone 5 = .ok (.getfield 13, 3) := by decide +kernel
theorem dX3_hatesAlone_8 : decode cX3_hatesAlone 8 = .ok (.iconst (-1), 1) := by decide +kernel
theorem dX3_hatesAlone_9 : decode cX3_hatesAlone 9 = .ok (.ixor, 1) := by decide +kernel
theorem dX3_hatesAlone_10 : decode cX3_hatesAlone 10 = .ok (.iand, 1) := by decide +kernel
theorem dX3_hatesAlone_11 : decode cX3_hatesAlone 11 = .ok (.iconst 1, 1) := by decide +kernel
theorem dX3_hatesAlone_12 : decode cX3_hatesAlone 12 = .ok (.iload_n 1, 1) := by decide +kernel
theorem dX3_hatesAlone_13 : decode cX3_hatesAlone 13 = .ok (.ishl, 1) := by decide +kernel
theorem dX3_hatesAlone_14 : decode cX3_hatesAlone 14 = .ok (.iand, 1) := by decide +kernel
theorem dX3_hatesAlone_15 : decode cX3_hatesAlone 15 = .ok (.ifCond .eq 7, 3) := by decide +kernel
theorem dX3_hatesAlone_18 : decode cX3_hatesAlone 18 = .ok (.iconst 1, 1) := by decide +kernel
theorem dX3_hatesAlone_19 : decode cX3_hatesAlone 19 = .ok (.goto 4, 3) := by decide +kernel
theorem dX3_hatesAlone_22 : decode cX3_hatesAlone 22 = .ok (.iconst 0, 1) := by decide +kernel
theorem dX3_hatesAlone_23 : decode cX3_hatesAlone 23 = .ok (.ireturn, 1) := by decide +kernel
theorem dX3_addTo_0 : decode cX3_addTo 0 = .ok (.ldc2_w 26, 3) := by decide +kernel
theorem dX3_addTo_3 : decode cX3_addTo 3 = .ok (.lload_n 1, 1) := by decide +kernel
theorem dX3_addTo_4 : decode cX3_addTo 4 = .ok (.lmul, 1) := by decide +kernel
theorem dX3_addTo_5 : decode cX3_addTo 5 = .ok (.aload_n 0, 1) := by decide +kernel
theorem dX3_addTo_6 : decode cX3_addTo 6 = .ok (.getfield 7, 3) := by decide +kernel
theorem dX3_addTo_9 : decode cX3_addTo 9 = .ok (.i2l, 1) := by decide +kernel
theorem dX3_addTo_10 : decode cX3_addTo 10 = .ok (.ladd, 1) := by decide +kernel
theorem dX3_addTo_11 : decode cX3_addTo 11 = .ok (.lstore_n 3, 1) := by decide +kernel
theorem dX3_addTo_12 : decode cX3_addTo 12 = .ok (.ldc2_w 26, 3) := by decide +kernel
theorem dX3_addTo_15 : decode cX3_addTo 15 = .ok (.lload_n 3, 1) := by decide +kernel
theorem dX3_addTo_16 : decode cX3_addTo 16 = .ok (.lmul, 1) := by decide +kernel
theorem dX3_addTo_17 : decode cX3_addTo 17 = .ok (.aload_n 0, 1) := by decide +kernel
theorem dX3_addTo_18 : decode cX3_addTo 18 = .ok (.getfield 13, 3) := by decide +kernel
theorem dX3_addTo_21 : decode cX3_addTo 21 = .ok (.i2l, 1) := by decide +kernel
theorem dX3_addTo_22 : decode cX3_addTo 22 = .ok (.ladd, 1) := by decide +kernel
theorem dX3_addTo_23 : decode cX3_addTo 23 = .ok (.lstore_n 3, 1) := by decide +kernel
theorem dX3_addTo_24 : decode cX3_addTo 24 = .ok (.ldc2_w 26, 3) := by decide +kernel
theorem dX3_addTo_27 : decode cX3_addTo 27 = .ok (.lload_n 3, 1) := by decide +kernel
theorem dX3_addTo_28 : decode cX3_addTo 28 = .ok (.lmul, 1) := by decide +kernel
theorem dX3_addTo_29 : decode cX3_addTo 29 = .ok (.aload_n 0, 1) := by decide +kernel
theorem dX3_addTo_30 : decode cX3_addTo 30 = .ok (.getfield 16, 3) := by decide +kernel
theorem dX3_addTo_33 : decode cX3_addTo 33 = .ok (.i2l, 1) := by decide +kernel
theorem dX3_addTo_34 : decode cX3_addTo 34 = .ok (.ladd, 1) := by decide +kernel
theorem dX3_addTo_35 : decode cX3_addTo 35 = .ok (.lstore_n 3, 1) := by decide +kernel
theorem dX3_addTo_36 : decode cX3_addTo 36 = .ok (.ldc2_w 26, 3) := by decide +kernel
theorem dX3_addTo_39 : decode cX3_addTo 39 = .ok (.lload_n 3, 1) := by decide +kernel
theorem dX3_addTo_40 : decode cX3_addTo 40 = .ok (.lmul, 1) := by decide +kernel
theorem dX3_addTo_41 : decode cX3_addTo 41 = .ok (.aload_n 0, 1) := by decide +kernel
theorem dX3_addTo_42 : decode cX3_addTo 42 = .ok (.getfield 19, 3) := by decide +kernel
theorem dX3_addTo_45 : decode cX3_addTo 45 = .ok (.i2l, 1) := by decide +kernel
theorem dX3_addTo_46 : decode cX3_addTo 46 = .ok (.ladd, 1) := by decide +kernel
theorem dX3_addTo_47 : decode cX3_addTo 47 = .ok (.lreturn, 1) := by decide +kernel
theorem dX4_init_0 : decode cX4_init 0 = .ok (.aload_n 0, 1) := by decide +kernel
theorem dX4_init_1 : decode cX4_init 1 = .ok (.invokespecial 1, 3) := by decide +kernel
theorem dX4_init_4 : decode cX4_init 4 = .ok (.return_, 1) := by decide +kernel
theorem dX4_adds_0 : decode cX4_adds 0 = .ok (.aload_n 0, 1) := by decide +kernel
theorem dX4_adds_1 : decode cX4_adds 1 = .ok (.iload_n 1, 1) := by decide +kernel
theorem dX4_adds_2 : decode cX4_adds 2 = .ok (.invokespecial 7, 3) := by decide +kernel
theorem dX4_adds_5 : decode cX4_adds 5 = .ok (.iconst 3, 1) := by decide +kernel
theorem dX4_adds_6 : decode cX4_adds 6 = .ok (.isub, 1) := by decide +kernel
theorem dX4_adds_7 : decode cX4_adds 7 = .ok (.ireturn, 1) := by decide +kernel
theorem dX5_init_0 : decode cX5_init 0 = .ok (.aload_n 0, 1) := by decide +kernel
theorem dX5_init_1 : decode cX5_init 1 = .ok (.invokespecial 3, 3) := by decide +kernel
theorem dX5_init_4 : decode cX5_init 4 = .ok (.aload_n 0, 1) := by decide +kernel
theorem dX5_init_5 : decode cX5_init 5 = .ok (.bipush 50, 2) := by decide +kernel
theorem dX5_init_7 : decode cX5_init 7 = .ok (.putfield 9, 3) := by decide +kernel
theorem dX5_init_10 : decode cX5_init 10 = .ok (.aload_n 0, 1) := by decide +kernel
theorem dX5_init_11 : decode cX5_init 11 = .ok (.iconst 0, 1) := by decide +kernel
theorem dX5_init_12 : decode cX5_init 12 = .ok (.putfield 15, 3) := by decide +kernel
theorem dX5_init_15 : decode cX5_init 15 = .ok (.aload_n 0, 1) := by decide +kernel
theorem dX5_init_16 : decode cX5_init 16 = .ok (.iconst 0, 1) := by decide +kernel
theorem dX5_init_17 : decode cX5_init 17 = .ok (.putfield 18, 3) := by decide +kernel
theorem dX5_init_20 : decode cX5_init 20 = .ok (.aload_n 0, 1) := by decide +kernel
theorem dX5_init_21 : decode cX5_init 21 = .ok (.iconst (-1), 1) := by decide +kernel
theorem dX5_init_22 : decode cX5_init 22 = .ok (.putfield 21, 3) := by decide +kernel
theorem dX5_init_25 : decode cX5_init 25 = .ok (.aload_n 0, 1) := by decide +kernel
theorem dX5_init_26 : decode cX5_init 26 = .ok (.iconst (-1), 1) := by decide +kernel
theorem dX5_init_27 : decode cX5_init 27 = .ok (.putfield 24, 3) := by decide +kernel
theorem dX5_init_30 : decode cX5_init 30 = .ok (.return_, 1) := by decide +kernel
theorem dX5_begin_0 : decode cX5_begin 0 = .ok (.aload_n 0, 1) := by decide +kernel
theorem dX5_begin_1 : decode cX5_begin 1 = .ok (.iload_n 1, 1) := by decide +kernel
theorem dX5_begin_2 : decode cX5_begin 2 = .ok (.putfield 9, 3) := by decide +kernel
theorem dX5_begin_5 : decode cX5_begin 5 = .ok (.aload_n 0, 1) := by decide +kernel
theorem dX5_begin_6 : decode cX5_begin 6 = .ok (.iconst 0, 1) := by decide +kernel
theorem dX5_begin_7 : decode cX5_begin 7 = .ok (.putfield 15, 3) := by decide +kernel
theorem dX5_begin_10 : decode cX5_begin 10 = .ok (.aload_n 0, 1) := by decide +kernel
theorem dX5_begin_11 : decode cX5_begin 11 = .ok (.iconst 0, 1) := by decide +kernel
theorem dX5_begin_12 : decode cX5_begin 12 = .ok (.putfield 18, 3) := by decide +kernel
theorem dX5_begin_15 : decode cX5_begin 15 = .ok (.aload_n 0, 1) := by decide +kernel
theorem dX5_begin_16 : decode cX5_begin 16 = .ok (.iconst (-1), 1) := by decide +kernel
theorem dX5_begin_17 : decode cX5_begin 17 = .ok (.putfield 21, 3) := by decide +kernel
theorem dX5_begin_20 : decode cX5_begin 20 = .ok (.aload_n 0, 1) := by decide +kernel
theorem dX5_begin_21 : decode cX5_begin 21 = .ok (.iconst (-1), 1) := by decide +kernel
theorem dX5_begin_22 : decode cX5_begin 22 = .ok (.putfield 24, 3) := by decide +kernel
theorem dX5_begin_25 : decode cX5_begin 25 = .ok (.return_, 1) := by decide +kernel
theorem dX5_become_0 : decode cX5_become 0 = .ok (.aload_n 0, 1) := by decide +kernel
theorem dX5_become_1 : decode cX5_become 1 = .ok (.aload_n 1, 1) := by decide +kernel
theorem dX5_become_2 : decode cX5_become 2 = .ok (.getfield 9, 3) := by decide +kernel
theorem dX5_become_5 : decode cX5_become 5 = .ok (.putfield 9, 3) := by decide +kernel
theorem dX5_become_8 : decode cX5_become 8 = .ok (.aload_n 0, 1) := by decide +kernel
theorem dX5_become_9 : decode cX5_become 9 = .ok (.aload_n 1, 1) := by decide +kernel
theorem dX5_become_10 : decode cX5_become 10 = .ok (.getfield 15, 3) := by decide +kernel
theorem dX5_become_13 : decode cX5_become 13 = .ok (.putfield 15, 3) := by decide +kernel
theorem dX5_become_16 : decode cX5_become 16 = .ok (.aload_n 0, 1) := by decide +kernel
theorem dX5_become_17 : decode cX5_become 17 = .ok (.aload_n 1, 1) := by decide +kernel
theorem dX5_become_18 : decode cX5_become 18 = .ok (.getfield 18, 3) := by decide +kernel
theorem dX5_become_21 : decode cX5_become 21 = .ok (.putfield 18, 3) := by decide +kernel
theorem dX5_become_24 : decode cX5_become 24 = .ok (.aload_n 0, 1) := by decide +kernel
theorem dX5_become_25 : decode cX5_become 25 = .ok (.aload_n 1, 1) := by decide +kernel
theorem dX5_become_26 : decode cX5_become 26 = .ok (.getfield 21, 3) := by decide +kernel
theorem dX5_become_29 : decode cX5_become 29 = .ok (.putfield 21, 3) := by decide +kernel
theorem dX5_become_32 : decode cX5_become 32 = .ok (.aload_n 0, 1) := by decide +kernel
theorem dX5_become_33 : decode cX5_become 33 = .ok (.aload_n 1, 1) := by decide +kernel
theorem dX5_become_34 : decode cX5_become 34 = .ok (.getfield 24, 3) := by decide +kernel
theorem dX5_become_37 : decode cX5_become 37 = .ok (.putfield 24, 3) := by decide +kernel
theorem dX5_become_40 : decode cX5_become 40 = .ok (.return_, 1) := by decide +kernel
theorem dX5_warm_0 : decode cX5_warm 0 = .ok (.aload_n 0, 1) := by decide +kernel
theorem dX5_warm_1 : decode cX5_warm 1 = .ok (.iconst 0, 1) := by decide +kernel
theorem dX5_warm_2 : decode cX5_warm 2 = .ok (.bipush 99, 2) := by decide +kernel
theorem dX5_warm_4 : decode cX5_warm 4 = .ok (.aload_n 0, 1) := by decide +kernel
theorem dX5_warm_5 : decode cX5_warm 5 = .ok (.getfield 9, 3) := by decide +kernel
theorem dX5_warm_8 : decode cX5_warm 8 = .ok (.iload_n 1, 1) := by decide +kernel
theorem dX5_warm_9 : decode cX5_warm 9 = .ok (.iadd, 1) := by decide +kernel
theorem dX5_warm_10 : decode cX5_warm 10 = .ok (.invokestatic 27, 3) := by decide +kernel
theorem dX5_warm_13 : decode cX5_warm 13 = .ok (.invokestatic 33, 3) := by decide +kernel
theorem dX5_warm_16 : decode cX5_warm 16 = .ok (.putfield 9, 3) := by decide +kernel
theorem dX5_warm_19 : decode cX5_warm 19 = .ok (.return_, 1) := by decide +kernel
theorem dX5_friendly_0 : decode cX5_friendly 0 = .ok (.aload_n 0, 1) := by decide +kernel
theorem dX5_friendly_1 : decode cX5_friendly 1 = .ok (.getfield 9, 3) := by decide +kernel
theorem dX5_friendly_4 : decode cX5_friendly 4 = .ok (.bipush 10, 2) := by decide +kernel
theorem dX5_friendly_6 : decode cX5_friendly 6 = .ok (.if_icmp .ge 7, 3) := by decide +kernel
theorem dX5_friendly_9 : decode cX5_friendly 9 = .ok (.iconst 1, 1) := by decide +kernel
theorem dX5_friendly_10 : decode cX5_friendly 10 = .ok (.goto 4, 3) := by decide +kernel
theorem dX5_friendly_13 : decode cX5_friendly 13 = .ok (.iconst 0, 1) := by decide +kernel
theorem dX5_friendly_14 : decode cX5_friendly 14 = .ok (.ireturn, 1) := by decide +kernel
theorem dX5_paired_0 : decode cX5_paired 0 = .ok (.aload_n 0, 1) := by decide +kernel
theorem dX5_paired_1 : decode cX5_paired 1 = .ok (.getfield 21, 3) := by decide +kernel
theorem dX5_paired_4 : decode cX5_paired 4 = .ok (.iconst (-1), 1) := by decide +kernel
theorem dX5_paired_5 : decode cX5_paired 5 = .ok (.if_icmp .eq 7, 3) := by decide +kernel
theorem dX5_paired_8 : decode cX5_paired 8 = .ok (.iconst 1, 1) := by decide +kernel
theorem dX5_paired_9 : decode cX5_paired 9 = .ok (.goto 4, 3) := by decide +kernel
theorem dX5_paired_12 : decode cX5_paired 12 = .ok (.iconst 0, 1) := by decide +kernel
theorem dX5_paired_13 : decode cX5_paired 13 = .ok (.ireturn, 1) := by decide +kernel
theorem dX5_isDone_0 : decode cX5_isDone 0 = .ok (.aload_n 0, 1) := by decide +kernel
theorem dX5_isDone_1 : decode cX5_isDone 1 = .ok (.getfield 18, 3) := by decide +kernel
theorem dX5_isDone_4 : decode cX5_isDone 4 = .ok (.iconst 1, 1) := by decide +kernel
theorem dX5_isDone_5 : decode cX5_isDone 5 = .ok (.iload_n 1, 1) := by decide +kernel
theorem dX5_isDone_6 : decode cX5_isDone 6 = .ok (.ishl, 1) := by decide +kernel
theorem dX5_isDone_7 : decode cX5_isDone 7 = .ok (.iand, 1) := by decide +kernel
theorem dX5_isDone_8 : decode cX5_isDone 8 = .ok (.ifCond .eq 7, 3) := by decide +kernel
theorem dX5_isDone_11 : decode cX5_isDone 11 = .ok (.iconst 1, 1) := by decide +kernel
theorem dX5_isDone_12 : decode cX5_isDone 12 = .ok (.goto 4, 3) := by decide +kernel
theorem dX5_isDone_15 : decode cX5_isDone 15 = .ok (.iconst 0, 1) := by decide +kernel
theorem dX5_isDone_16 : decode cX5_isDone 16 = .ok (.ireturn, 1) := by decide +kernel
theorem dX5_sideOf_0 : decode cX5_sideOf 0 = .ok (.iload_n 1, 1) := by decide +kernel
theorem dX5_sideOf_1 : decode cX5_sideOf 1 = .ok (.aload_n 0, 1) := by decide +kernel
theorem dX5_sideOf_2 : decode cX5_sideOf 2 = .ok (.getfield 21, 3) := by decide +kernel
theorem dX5_sideOf_5 : decode cX5_sideOf 5 = .ok (.if_icmp .ne 5, 3) := by decide +kernel
theorem dX5_sideOf_8 : decode cX5_sideOf 8 = .ok (.iconst 1, 1) := by decide +kernel
theorem dX5_sideOf_9 : decode cX5_sideOf 9 = .ok (.ireturn, 1) := by decide +kernel
theorem dX5_sideOf_10 : decode cX5_sideOf 10 = .ok (.iload_n 1, 1) := by decide +kernel
theorem dX5_sideOf_11 : decode cX5_sideOf 11 = .ok (.aload_n 0, 1) := by decide +kernel
theorem dX5_sideOf_12 : decode cX5_sideOf 12 = .ok (.getfield 24, 3) := by decide +kernel
theorem dX5_sideOf_15 : decode cX5_sideOf 15 = .ok (.if_icmp .ne 7, 3) := by decide +kernel
theorem dX5_sideOf_18 : decode cX5_sideOf 18 = .ok (.iconst 2, 1) := by decide +kernel
theorem dX5_sideOf_19 : decode cX5_sideOf 19 = .ok (.goto 4, 3) := by decide +kernel
theorem dX5_sideOf_22 : decode cX5_sideOf 22 = .ok (.iconst 0, 1) := by decide +kernel
theorem dX5_sideOf_23 : decode cX5_sideOf 23 = .ok (.ireturn, 1) := by decide +kernel
theorem dX6_init_0 : decode cX6_init 0 = .ok (.aload_n 0, 1) := by decide +kernel
theorem dX6_init_1 : decode cX6_init 1 = .ok (.invokespecial 1, 3) := by decide +kernel
theorem dX6_init_4 : decode cX6_init 4 = .ok (.return_, 1) := by decide +kernel
theorem dX6_put_0 : decode cX6_put 0 = .ok (.aload_n 0, 1) := by decide +kernel
theorem dX6_put_1 : decode cX6_put 1 = .ok (.iload_n 1, 1) := by decide +kernel
theorem dX6_put_2 : decode cX6_put 2 = .ok (.putfield 7, 3) := by decide +kernel
theorem dX6_put_5 : decode cX6_put 5 = .ok (.aload_n 0, 1) := by decide +kernel
theorem dX6_put_6 : decode cX6_put 6 = .ok (.iload_n 2, 1) := by decide +kernel
theorem dX6_put_7 : decode cX6_put 7 = .ok (.putfield 13, 3) := by decide +kernel
theorem dX6_put_10 : decode cX6_put 10 = .ok (.aload_n 0, 1) := by decide +kernel
theorem dX6_put_11 : decode cX6_put 11 = .ok (.iload_n 3, 1) := by decide +kernel
theorem dX6_put_12 : decode cX6_put 12 = .ok (.putfield 16, 3) := by decide +kernel
theorem dX6_put_15 : decode cX6_put 15 = .ok (.aload_n 0, 1) := by decide +kernel
theorem dX6_put_16 : decode cX6_put 16 = .ok (.iload 4, 2) := by decide +kernel
theorem dX6_put_18 : decode cX6_put 18 = .ok (.putfield 19, 3) := by decide +kernel
theorem dX6_put_21 : decode cX6_put 21 = .ok (.aload_n 0, 1) := by decide +kernel
theorem dX6_put_22 : decode cX6_put 22 = .ok (.iload 5, 2) := by decide +kernel
theorem dX6_put_24 : decode cX6_put 24 = .ok (.putfield 22, 3) := by decide +kernel
theorem dX6_put_27 : decode cX6_put 27 = .ok (.return_, 1) := by decide +kernel
theorem dX6_become_0 : decode cX6_become 0 = .ok (.aload_n 0, 1) := by decide +kernel
theorem dX6_become_1 : decode cX6_become 1 = .ok (.aload_n 1, 1) := by decide +kernel
theorem dX6_become_2 : decode cX6_become 2 = .ok (.getfield 7, 3) := by decide +kernel
theorem dX6_become_5 : decode cX6_become 5 = .ok (.aload_n 1, 1) := by decide +kernel
theorem dX6_become_6 : decode cX6_become 6 = .ok (.getfield 13, 3) := by decide +kernel
theorem dX6_become_9 : decode cX6_become 9 = .ok (.aload_n 1, 1) := by decide +kernel
theorem dX6_become_10 : decode cX6_become 10 = .ok (.getfield 16, 3) := by decide +kernel
theorem dX6_become_13 : decode cX6_become 13 = .ok (.aload_n 1, 1) := by decide +kernel
theorem dX6_become_14 : decode cX6_become 14 = .ok (.getfield 19, 3) := by decide +kernel
theorem dX6_become_17 : decode cX6_become 17 = .ok (.aload_n 1, 1) := by decide +kernel
theorem dX6_become_18 : decode cX6_become 18 = .ok (.getfield 22, 3) := by decide +kernel
theorem dX6_become_21 : decode cX6_become 21 = .ok (.invokevirtual 25, 3) := by decide +kernel
theorem dX6_become_24 : decode cX6_become 24 = .ok (.return_, 1) := by decide +kernel
theorem dX6_addTo_0 : decode cX6_addTo 0 = .ok (.ldc2_w 29, 3) := by decide +kernel
theorem dX6_addTo_3 : decode cX6_addTo 3 = .ok (.lload_n 1, 1) := by decide +kernel
theorem dX6_addTo_4 : decode cX6_addTo 4 = .ok (.lmul, 1) := by decide +kernel
theorem dX6_addTo_5 : decode cX6_addTo 5 = .ok (.aload_n 0, 1) := by decide +kernel
theorem dX6_addTo_6 : decode cX6_addTo 6 = .ok (.getfield 7, 3) := by decide +kernel
theorem dX6_addTo_9 : decode cX6_addTo 9 = .ok (.i2l, 1) := by decide +kernel
theorem dX6_addTo_10 : decode cX6_addTo 10 = .ok (.ladd, 1) := by decide +kernel
theorem dX6_addTo_11 : decode cX6_addTo 11 = .ok (.lstore_n 3, 1) := by decide +kernel
theorem dX6_addTo_12 : decode cX6_addTo 12 = .ok (.ldc2_w 29, 3) := by decide +kernel
theorem dX6_addTo_15 : decode cX6_addTo 15 = .ok (.lload_n 3, 1) := by decide +kernel
theorem dX6_addTo_16 : decode cX6_addTo 16 = .ok (.lmul, 1) := by decide +kernel
theorem dX6_addTo_17 : decode cX6_addTo 17 = .ok (.aload_n 0, 1) := by decide +kernel
theorem dX6_addTo_18 : decode cX6_addTo 18 = .ok (.getfield 13, 3) := by decide +kernel
theorem dX6_addTo_21 : decode cX6_addTo 21 = .ok (.i2l, 1) := by decide +kernel
theorem dX6_addTo_22 : decode cX6_addTo 22 = .ok (.ladd, 1) := by decide +kernel
theorem dX6_addTo_23 : decode cX6_addTo 23 = .ok (.lstore_n 3, 1) := by decide +kernel
theorem dX6_addTo_24 : decode cX6_addTo 24 = .ok (.ldc2_w 29, 3) := by decide +kernel
theorem dX6_addTo_27 : decode cX6_addTo 27 = .ok (.lload_n 3, 1) := by decide +kernel
theorem dX6_addTo_28 : decode cX6_addTo 28 = .ok (.lmul, 1) := by decide +kernel
theorem dX6_addTo_29 : decode cX6_addTo 29 = .ok (.aload_n 0, 1) := by decide +kernel
theorem dX6_addTo_30 : decode cX6_addTo 30 = .ok (.getfield 16, 3) := by decide +kernel
theorem dX6_addTo_33 : decode cX6_addTo 33 = .ok (.i2l, 1) := by decide +kernel
theorem dX6_addTo_34 : decode cX6_addTo 34 = .ok (.ladd, 1) := by decide +kernel
theorem dX6_addTo_35 : decode cX6_addTo 35 = .ok (.lstore_n 3, 1) := by decide +kernel
theorem dX6_addTo_36 : decode cX6_addTo 36 = .ok (.ldc2_w 29, 3) := by decide +kernel
theorem dX6_addTo_39 : decode cX6_addTo 39 = .ok (.lload_n 3, 1) := by decide +kernel
theorem dX6_addTo_40 : decode cX6_addTo 40 = .ok (.lmul, 1) := by decide +kernel
theorem dX6_addTo_41 : decode cX6_addTo 41 = .ok (.aload_n 0, 1) := by decide +kernel
theorem dX6_addTo_42 : decode cX6_addTo 42 = .ok (.getfield 19, 3) := by decide +kernel
theorem dX6_addTo_45 : decode cX6_addTo 45 = .ok (.i2l, 1) := by decide +kernel
theorem dX6_addTo_46 : decode cX6_addTo 46 = .ok (.ladd, 1) := by decide +kernel
theorem dX6_addTo_47 : decode cX6_addTo 47 = .ok (.lstore_n 3, 1) := by decide +kernel
theorem dX6_addTo_48 : decode cX6_addTo 48 = .ok (.ldc2_w 29, 3) := by decide +kernel
theorem dX6_addTo_51 : decode cX6_addTo 51 = .ok (.lload_n 3, 1) := by decide +kernel
theorem dX6_addTo_52 : decode cX6_addTo 52 = .ok (.lmul, 1) := by decide +kernel
theorem dX6_addTo_53 : decode cX6_addTo 53 = .ok (.aload_n 0, 1) := by decide +kernel
theorem dX6_addTo_54 : decode cX6_addTo 54 = .ok (.getfield 22, 3) := by decide +kernel
theorem dX6_addTo_57 : decode cX6_addTo 57 = .ok (.i2l, 1) := by decide +kernel
theorem dX6_addTo_58 : decode cX6_addTo 58 = .ok (.ladd, 1) := by decide +kernel
theorem dX6_addTo_59 : decode cX6_addTo 59 = .ok (.lreturn, 1) := by decide +kernel
theorem dX7_init_0 : decode cX7_init 0 = .ok (.aload_n 0, 1) := by decide +kernel
theorem dX7_init_1 : decode cX7_init 1 = .ok (.invokespecial 1, 3) := by decide +kernel
theorem dX7_init_4 : decode cX7_init 4 = .ok (.return_, 1) := by decide +kernel
theorem dX7_lifts_0 : decode cX7_lifts 0 = .ok (.iload_n 1, 1) := by decide +kernel
theorem dX7_lifts_1 : decode cX7_lifts 1 = .ok (.ifCond .ne 13, 3) := by decide +kernel
theorem dX7_lifts_4 : decode cX7_lifts 4 = .ok (.iload_n 2, 1) := by decide +kernel
theorem dX7_lifts_5 : decode cX7_lifts 5 = .ok (.ifCond .ne 13, 3) := by decide +kernel
theorem dX7_lifts_8 : decode cX7_lifts 8 = .ok (.iload_n 3, 1) := by decide +kernel
theorem dX7_lifts_9 : decode cX7_lifts 9 = .ok (.bipush 60, 2) := by decide +kernel
theorem dX7_lifts_11 : decode cX7_lifts 11 = .ok (.if_icmp .ge 7, 3) := by decide +kernel
theorem dX7_lifts_14 : decode cX7_lifts 14 = .ok (.iconst 1, 1) := by decide +kernel
theorem dX7_lifts_15 : decode cX7_lifts 15 = .ok (.goto 4, 3) := by decide +kernel
theorem dX7_lifts_18 : decode cX7_lifts 18 = .ok (.iconst 0, 1) := by decide +kernel
theorem dX7_lifts_19 : decode cX7_lifts 19 = .ok (.ireturn, 1) := by decide +kernel
theorem dX7_adds_0 : decode cX7_adds 0 = .ok (.iload_n 1, 1) := by decide +kernel
theorem dX7_adds_1 : decode cX7_adds 1 = .ok (.iconst 5, 1) := by decide +kernel
theorem dX7_adds_2 : decode cX7_adds 2 = .ok (.idiv, 1) := by decide +kernel
theorem dX7_adds_3 : decode cX7_adds 3 = .ok (.ireturn, 1) := by decide +kernel
theorem dX8_init_0 : decode cX8_init 0 = .ok (.aload_n 0, 1) := by decide +kernel
theorem dX8_init_1 : decode cX8_init 1 = .ok (.invokespecial 1, 3) := by decide +kernel
theorem dX8_init_4 : decode cX8_init 4 = .ok (.return_, 1) := by decide +kernel
theorem dX8_lifts_0 : decode cX8_lifts 0 = .ok (.iload_n 1, 1) := by decide +kernel
theorem dX8_lifts_1 : decode cX8_lifts 1 = .ok (.ireturn, 1) := by decide +kernel
theorem dX9_init_0 : decode cX9_init 0 = .ok (.aload_n 0, 1) := by decide +kernel
theorem dX9_init_1 : decode cX9_init 1 = .ok (.invokespecial 1, 3) := by decide +kernel
theorem dX9_init_4 : decode cX9_init 4 = .ok (.return_, 1) := by decide +kernel
theorem dX9_lifts_0 : decode cX9_lifts 0 = .ok (.aload_n 0, 1) := by decide +kernel
theorem dX9_lifts_1 : decode cX9_lifts 1 = .ok (.iload_n 1, 1) := by decide +kernel
theorem dX9_lifts_2 : decode cX9_lifts 2 = .ok (.iload_n 2, 1) := by decide +kernel
theorem dX9_lifts_3 : decode cX9_lifts 3 = .ok (.iload_n 3, 1) := by decide +kernel
theorem dX9_lifts_4 : decode cX9_lifts 4 = .ok (.iload 4, 2) := by decide +kernel
theorem dX9_lifts_6 : decode cX9_lifts 6 = .ok (.invokespecial 7, 3) := by decide +kernel
theorem dX9_lifts_9 : decode cX9_lifts 9 = .ok (.ifCond .eq 13, 3) := by decide +kernel
theorem dX9_lifts_12 : decode cX9_lifts 12 = .ok (.iload_n 3, 1) := by decide +kernel
theorem dX9_lifts_13 : decode cX9_lifts 13 = .ok (.bipush 80, 2) := by decide +kernel
theorem dX9_lifts_15 : decode cX9_lifts 15 = .ok (.if_icmp .ge 7, 3) := by decide +kernel
theorem dX9_lifts_18 : decode cX9_lifts 18 = .ok (.iconst 1, 1) := by decide +kernel
theorem dX9_lifts_19 : decode cX9_lifts 19 = .ok (.goto 4, 3) := by decide +kernel
theorem dX9_lifts_22 : decode cX9_lifts 22 = .ok (.iconst 0, 1) := by decide +kernel
theorem dX9_lifts_23 : decode cX9_lifts 23 = .ok (.ireturn, 1) := by decide +kernel
theorem dX9_adds_0 : decode cX9_adds 0 = .ok (.aload_n 0, 1) := by decide +kernel
theorem dX9_adds_1 : decode cX9_adds 1 = .ok (.iload_n 1, 1) := by decide +kernel
theorem dX9_adds_2 : decode cX9_adds 2 = .ok (.invokespecial 11, 3) := by decide +kernel
theorem dX9_adds_5 : decode cX9_adds 5 = .ok (.iconst 1, 1) := by decide +kernel
theorem dX9_adds_6 : decode cX9_adds 6 = .ok (.iadd, 1) := by decide +kernel
theorem dX9_adds_7 : decode cX9_adds 7 = .ok (.ireturn, 1) := by decide +kernel
theorem dX10_init_0 : decode cX10_init 0 = .ok (.aload_n 0, 1) := by decide +kernel
theorem dX10_init_1 : decode cX10_init 1 = .ok (.invokespecial 1, 3) := by decide +kernel
theorem dX10_init_4 : decode cX10_init 4 = .ok (.return_, 1) := by decide +kernel
theorem dX10_lifts_0 : decode cX10_lifts 0 = .ok (.aload_n 0, 1) := by decide +kernel
theorem dX10_lifts_1 : decode cX10_lifts 1 = .ok (.iload_n 1, 1) := by decide +kernel
theorem dX10_lifts_2 : decode cX10_lifts 2 = .ok (.iload_n 2, 1) := by decide +kernel
theorem dX10_lifts_3 : decode cX10_lifts 3 = .ok (.iload_n 3, 1) := by decide +kernel
theorem dX10_lifts_4 : decode cX10_lifts 4 = .ok (.iload 4, 2) := by decide +kernel
theorem dX10_lifts_6 : decode cX10_lifts 6 = .ok (.invokespecial 7, 3) := by decide +kernel
theorem dX10_lifts_9 : decode cX10_lifts 9 = .ok (.ifCond .ne 11, 3) := by decide +kernel
theorem dX10_lifts_12 : decode cX10_lifts 12 = .ok (.iload 4, 2) := by decide +kernel
theorem dX10_lifts_14 : decode cX10_lifts 14 = .ok (.bipush 7, 2) := by decide +kernel
theorem dX10_lifts_16 : decode cX10_lifts 16 = .ok (.irem, 1) := by decide +kernel
theorem dX10_lifts_17 : decode cX10_lifts 17 = .ok (.ifCond .ne 7, 3) := by decide +kernel
theorem dX10_lifts_20 : decode cX10_lifts 20 = .ok (.iconst 1, 1) := by decide +kernel
theorem dX10_lifts_21 : decode cX10_lifts 21 = .ok (.goto 4, 3) := by decide +kernel
theorem dX10_lifts_24 : decode cX10_lifts 24 = .ok (.iconst 0, 1) := by decide +kernel
theorem dX10_lifts_25 : decode cX10_lifts 25 = .ok (.ireturn, 1) := by decide +kernel
theorem dX10_adds_0 : decode cX10_adds 0 = .ok (.aload_n 0, 1) := by decide +kernel
theorem dX10_adds_1 : decode cX10_adds 1 = .ok (.iload_n 1, 1) := by decide +kernel
theorem dX10_adds_2 : decode cX10_adds 2 = .ok (.invokespecial 11, 3) := by decide +kernel
theorem dX10_adds_5 : decode cX10_adds 5 = .ok (.iconst 2, 1) := by decide +kernel
theorem dX10_adds_6 : decode cX10_adds 6 = .ok (.idiv, 1) := by decide +kernel
theorem dX10_adds_7 : decode cX10_adds 7 = .ok (.ireturn, 1) := by decide +kernel
theorem dX11_init_0 : decode cX11_init 0 = .ok (.aload_n 0, 1) := by decide +kernel
theorem dX11_init_1 : decode cX11_init 1 = .ok (.invokespecial 1, 3) := by decide +kernel
theorem dX11_init_4 : decode cX11_init 4 = .ok (.aload_n 0, 1) := by decide +kernel
theorem dX11_init_5 : decode cX11_init 5 = .ok (.iconst 2, 1) := by decide +kernel
theorem dX11_init_6 : decode cX11_init 6 = .ok (.newarray .boolean, 2) := by decide +kernel
theorem dX11_init_8 : decode cX11_init 8 = .ok (.putfield 9, 3) := by decide +kernel
theorem dX11_init_11 : decode cX11_init 11 = .ok (.aload_n 0, 1) := by decide +kernel
theorem dX11_init_12 : decode cX11_init 12 = .ok (.new 13, 3) := by decide +kernel
theorem dX11_init_15 : decode cX11_init 15 = .ok (.dup, 1) := by decide +kernel
theorem dX11_init_16 : decode cX11_init 16 = .ok (.invokespecial 15, 3) := by decide +kernel
theorem dX11_init_19 : decode cX11_init 19 = .ok (.putfield 16, 3) := by decide +kernel
theorem dX11_init_22 : decode cX11_init 22 = .ok (.aload_n 0, 1) := by decide +kernel
theorem dX11_init_23 : decode cX11_init 23 = .ok (.new 20, 3) := by decide +kernel
theorem dX11_init_26 : decode cX11_init 26 = .ok (.dup, 1) := by decide +kernel
theorem dX11_init_27 : decode cX11_init 27 = .ok (.invokespecial 22, 3) := by decide +kernel
theorem dX11_init_30 : decode cX11_init 30 = .ok (.putfield 23, 3) := by decide +kernel
theorem dX11_init_33 : decode cX11_init 33 = .ok (.aload_n 0, 1) := by decide +kernel
theorem dX11_init_34 : decode cX11_init 34 = .ok (.iconst 5, 1) := by decide +kernel
theorem dX11_init_35 : decode cX11_init 35 = .ok (.anewarray 20, 3) := by decide +kernel
theorem dX11_init_38 : decode cX11_init 38 = .ok (.putfield 27, 3) := by decide +kernel
theorem dX11_init_41 : decode cX11_init 41 = .ok (.aload_n 0, 1) := by decide +kernel
theorem dX11_init_42 : decode cX11_init 42 = .ok (.iconst 4, 1) := by decide +kernel
theorem dX11_init_43 : decode cX11_init 43 = .ok (.newarray .int, 2) := by decide +kernel
theorem dX11_init_45 : decode cX11_init 45 = .ok (.putfield 31, 3) := by decide +kernel
theorem dX11_init_48 : decode cX11_init 48 = .ok (.aload_n 0, 1) := by decide +kernel
theorem dX11_init_49 : decode cX11_init 49 = .ok (.iconst 4, 1) := by decide +kernel
theorem dX11_init_50 : decode cX11_init 50 = .ok (.newarray .int, 2) := by decide +kernel
theorem dX11_init_52 : decode cX11_init 52 = .ok (.putfield 35, 3) := by decide +kernel
theorem dX11_init_55 : decode cX11_init 55 = .ok (.aload_n 0, 1) := by decide +kernel
theorem dX11_init_56 : decode cX11_init 56 = .ok (.iconst (-1), 1) := by decide +kernel
theorem dX11_init_57 : decode cX11_init 57 = .ok (.putfield 38, 3) := by decide +kernel
theorem dX11_init_60 : decode cX11_init 60 = .ok (.aload_n 0, 1) := by decide +kernel
theorem dX11_init_61 : decode cX11_init 61 = .ok (.iconst 0, 1) := by decide +kernel
theorem dX11_init_62 : decode cX11_init 62 = .ok (.putfield 42, 3) := by decide +kernel
theorem dX11_init_65 : decode cX11_init 65 = .ok (.aload_n 0, 1) := by decide +kernel
theorem dX11_init_66 : decode cX11_init 66 = .ok (.iconst 1, 1) := by decide +kernel
theorem dX11_init_67 : decode cX11_init 67 = .ok (.putfield 45, 3) := by decide +kernel
theorem dX11_init_70 : decode cX11_init 70 = .ok (.aload_n 0, 1) := by decide +kernel
theorem dX11_init_71 : decode cX11_init 71 = .ok (.iconst 0, 1) := by decide +kernel
theorem dX11_init_72 : decode cX11_init 72 = .ok (.putfield 48, 3) := by decide +kernel
theorem dX11_init_75 : decode cX11_init 75 = .ok (.aload_n 0, 1) := by decide +kernel
theorem dX11_init_76 : decode cX11_init 76 = .ok (.iconst 0, 1) := by decide +kernel
theorem dX11_init_77 : decode cX11_init 77 = .ok (.putfield 51, 3) := by decide +kernel
theorem dX11_init_80 : decode cX11_init 80 = .ok (.aload_n 0, 1) := by decide +kernel
theorem dX11_init_81 : decode cX11_init 81 = .ok (.iconst 0, 1) := by decide +kernel
theorem dX11_init_82 : decode cX11_init 82 = .ok (.putfield 54, 3) := by decide +kernel
theorem dX11_init_85 : decode cX11_init 85 = .ok (.bipush 6, 2) := by decide +kernel
theorem dX11_init_87 : decode cX11_init 87 = .ok (.anewarray 57, 3) := by decide +kernel
theorem dX11_init_90 : decode cX11_init 90 = .ok (.dup, 1) := by decide +kernel
theorem dX11_init_91 : decode cX11_init 91 = .ok (.iconst 0, 1) := by decide +kernel
theorem dX11_init_92 : decode cX11_init 92 = .ok (.new 57, 3) := by decide +kernel
theorem dX11_init_95 : decode cX11_init 95 = .ok (.dup, 1) := by decide +kernel
theorem dX11_init_96 : decode cX11_init 96 = .ok (.invokespecial 59, 3) := by decide +kernel
theorem dX11_init_99 : decode cX11_init 99 = .ok (.aastore, 1) := by decide +kernel
theorem dX11_init_100 : decode cX11_init 100 = .ok (.dup, 1) := by decide +kernel
theorem dX11_init_101 : decode cX11_init 101 = .ok (.iconst 1, 1) := by decide +kernel
theorem dX11_init_102 : decode cX11_init 102 = .ok (.new 60, 3) := by decide +kernel
theorem dX11_init_105 : decode cX11_init 105 = .ok (.dup, 1) := by decide +kernel
theorem dX11_init_106 : decode cX11_init 106 = .ok (.invokespecial 62, 3) := by decide +kernel
theorem dX11_init_109 : decode cX11_init 109 = .ok (.aastore, 1) := by decide +kernel
theorem dX11_init_110 : decode cX11_init 110 = .ok (.dup, 1) := by decide +kernel
theorem dX11_init_111 : decode cX11_init 111 = .ok (.iconst 2, 1) := by decide +kernel
theorem dX11_init_112 : decode cX11_init 112 = .ok (.new 63, 3) := by decide +kernel
theorem dX11_init_115 : decode cX11_init 115 = .ok (.dup, 1) := by decide +kernel
theorem dX11_init_116 : decode cX11_init 116 = .ok (.invokespecial 65, 3) := by decide +kernel
theorem dX11_init_119 : decode cX11_init 119 = .ok (.aastore, 1) := by decide +kernel
theorem dX11_init_120 : decode cX11_init 120 = .ok (.dup, 1) := by decide +kernel
theorem dX11_init_121 : decode cX11_init 121 = .ok (.iconst 3, 1) := by decide +kernel
theorem dX11_init_122 : decode cX11_init 122 = .ok (.new 66, 3) := by decide +kernel
theorem dX11_init_125 : decode cX11_init 125 = .ok (.dup, 1) := by decide +kernel
theorem dX11_init_126 : decode cX11_init 126 = .ok (.invokespecial 68, 3) := by decide +kernel
theorem dX11_init_129 : decode cX11_init 129 = .ok (.aastore, 1) := by decide +kernel
theorem dX11_init_130 : decode cX11_init 130 = .ok (.dup, 1) := by decide +kernel
theorem dX11_init_131 : decode cX11_init 131 = .ok (.iconst 4, 1) := by decide +kernel
theorem dX11_init_132 : decode cX11_init 132 = .ok (.new 69, 3) := by decide +kernel
theorem dX11_init_135 : decode cX11_init 135 = .ok (.dup, 1) := by decide +kernel
theorem dX11_init_136 : decode cX11_init 136 = .ok (.invokespecial 71, 3) := by decide +kernel
theorem dX11_init_139 : decode cX11_init 139 = .ok (.aastore, 1) := by decide +kernel
theorem dX11_init_140 : decode cX11_init 140 = .ok (.dup, 1) := by decide +kernel
theorem dX11_init_141 : decode cX11_init 141 = .ok (.iconst 5, 1) := by decide +kernel
theorem dX11_init_142 : decode cX11_init 142 = .ok (.new 72, 3) := by decide +kernel
theorem dX11_init_145 : decode cX11_init 145 = .ok (.dup, 1) := by decide +kernel
theorem dX11_init_146 : decode cX11_init 146 = .ok (.invokespecial 74, 3) := by decide +kernel
theorem dX11_init_149 : decode cX11_init 149 = .ok (.aastore, 1) := by decide +kernel
theorem dX11_init_150 : decode cX11_init 150 = .ok (.astore_n 1, 1) := by decide +kernel
theorem dX11_init_151 : decode cX11_init 151 = .ok (.aload_n 0, 1) := by decide +kernel
theorem dX11_init_152 : decode cX11_init 152 = .ok (.new 75, 3) := by decide +kernel
theorem dX11_init_155 : decode cX11_init 155 = .ok (.dup, 1) := by decide +kernel
theorem dX11_init_156 : decode cX11_init 156 = .ok (.aload_n 1, 1) := by decide +kernel
theorem dX11_init_157 : decode cX11_init 157 = .ok (.invokespecial 77, 3) := by decide +kernel
theorem dX11_init_160 : decode cX11_init 160 = .ok (.putfield 80, 3) := by decide +kernel
theorem dX11_init_163 : decode cX11_init 163 = .ok (.aload_n 0, 1) := by decide +kernel
theorem dX11_init_164 : decode cX11_init 164 = .ok (.new 75, 3) := by decide +kernel
theorem dX11_init_167 : decode cX11_init 167 = .ok (.dup, 1) := by decide +kernel
theorem dX11_init_168 : decode cX11_init 168 = .ok (.aload_n 1, 1) := by decide +kernel
theorem dX11_init_169 : decode cX11_init 169 = .ok (.invokespecial 77, 3) := by decide +kernel
theorem dX11_init_172 : decode cX11_init 172 = .ok (.putfield 84, 3) := by decide +kernel
theorem dX11_init_175 : decode cX11_init 175 = .ok (.aload_n 0, 1) := by decide +kernel
theorem dX11_init_176 : decode cX11_init 176 = .ok (.iconst 2, 1) := by decide +kernel
theorem dX11_init_177 : decode cX11_init 177 = .ok (.anewarray 75, 3) := by decide +kernel
theorem dX11_init_180 : decode cX11_init 180 = .ok (.dup, 1) := by decide +kernel
theorem dX11_init_181 : decode cX11_init 181 = .ok (.iconst 0, 1) := by decide +kernel
theorem dX11_init_182 : decode cX11_init 182 = .ok (.new 75, 3) := by decide +kernel
theorem dX11_init_185 : decode cX11_init 185 = .ok (.dup, 1) := by decide +kernel
theorem dX11_init_186 : decode cX11_init 186 = .ok (.aload_n 1, 1) := by decide +kernel
theorem dX11_init_187 : decode cX11_init 187 = .ok (.invokespecial 77, 3) := by decide +kernel
theorem dX11_init_190 : decode cX11_init 190 = .ok (.aastore, 1) := by decide +kernel
theorem dX11_init_191 : decode cX11_init 191 = .ok (.dup, 1) := by decide +kernel
theorem dX11_init_192 : decode cX11_init 192 = .ok (.iconst 1, 1) := by decide +kernel
theorem dX11_init_193 : decode cX11_init 193 = .ok (.new 75, 3) := by decide +kernel
theorem dX11_init_196 : decode cX11_init 196 = .ok (.dup, 1) := by decide +kernel
theorem dX11_init_197 : decode cX11_init 197 = .ok (.aload_n 1, 1) := by decide +kernel
theorem dX11_init_198 : decode cX11_init 198 = .ok (.invokespecial 77, 3) := by decide +kernel
theorem dX11_init_201 : decode cX11_init 201 = .ok (.aastore, 1) := by decide +kernel
theorem dX11_init_202 : decode cX11_init 202 = .ok (.putfield 87, 3) := by decide +kernel
theorem dX11_init_205 : decode cX11_init 205 = .ok (.iconst 0, 1) := by decide +kernel
theorem dX11_init_206 : decode cX11_init 206 = .ok (.istore_n 2, 1) := by decide +kernel
theorem dX11_init_207 : decode cX11_init 207 = .ok (.iload_n 2, 1) := by decide +kernel
theorem dX11_init_208 : decode cX11_init 208 = .ok (.aload_n 0, 1) := by decide +kernel
theorem dX11_init_209 : decode cX11_init 209 = .ok (.getfield 27, 3) := by decide +kernel
theorem dX11_init_212 : decode cX11_init 212 = .ok (.arraylength, 1) := by decide +kernel
theorem dX11_init_213 : decode cX11_init 213 = .ok (.if_icmp .ge 22, 3) := by decide +kernel
theorem dX11_init_216 : decode cX11_init 216 = .ok (.aload_n 0, 1) := by decide +kernel
theorem dX11_init_217 : decode cX11_init 217 = .ok (.getfield 27, 3) := by decide +kernel
theorem dX11_init_220 : decode cX11_init 220 = .ok (.iload_n 2, 1) := by decide +kernel
theorem dX11_init_221 : decode cX11_init 221 = .ok (.new 20, 3) := by decide +kernel
theorem dX11_init_224 : decode cX11_init 224 = .ok (.dup, 1) := by decide +kernel
theorem dX11_init_225 : decode cX11_init 225 = .ok (.invokespecial 22, 3) := by decide +kernel
theorem dX11_init_228 : decode cX11_init 228 = .ok (.aastore, 1) := by decide +kernel
theorem dX11_init_229 : decode cX11_init 229 = .ok (.iinc 2 1, 3) := by decide +kernel
theorem dX11_init_232 : decode cX11_init 232 = .ok (.goto (-25), 3) := by decide +kernel
theorem dX11_init_235 : decode cX11_init 235 = .ok (.return_, 1) := by decide +kernel
theorem dX11_court_0 : decode cX11_court 0 = .ok (.iload_n 1, 1) := by decide +kernel
theorem dX11_court_1 : decode cX11_court 1 = .ok (.iconst 0, 1) := by decide +kernel
theorem dX11_court_2 : decode cX11_court 2 = .ok (.bipush 99, 2) := by decide +kernel
theorem dX11_court_4 : decode cX11_court 4 = .ok (.invokestatic 91, 3) := by decide +kernel
theorem dX11_court_7 : decode cX11_court 7 = .ok (.ifCond .eq 8, 3) := by decide +kernel
theorem dX11_court_10 : decode cX11_court 10 = .ok (.aload_n 0, 1) := by decide +kernel
theorem dX11_court_11 : decode cX11_court 11 = .ok (.invokevirtual 95, 3) := by decide +kernel
theorem dX11_court_14 : decode cX11_court 14 = .ok (.ireturn, 1) := by decide +kernel
theorem dX11_court_15 : decode cX11_court 15 = .ok (.aload_n 0, 1) := by decide +kernel
theorem dX11_court_16 : decode cX11_court 16 = .ok (.getfield 80, 3) := by decide +kernel
theorem dX11_court_19 : decode cX11_court 19 = .ok (.getfield 99, 3) := by decide +kernel
theorem dX11_court_22 : decode cX11_court 22 = .ok (.istore_n 2, 1) := by decide +kernel
theorem dX11_court_23 : decode cX11_court 23 = .ok (.aload_n 0, 1) := by decide +kernel
theorem dX11_court_24 : decode cX11_court 24 = .ok (.getfield 80, 3) := by decide +kernel
theorem dX11_court_27 : decode cX11_court 27 = .ok (.iload_n 1, 1) := by decide +kernel
theorem dX11_court_28 : decode cX11_court 28 = .ok (.invokevirtual 102, 3) := by decide +kernel
theorem dX11_court_31 : decode cX11_court 31 = .ok (.iload_n 2, 1) := by decide +kernel
theorem dX11_court_32 : decode cX11_court 32 = .ok (.ireturn, 1) := by decide +kernel
theorem dX11_heir_0 : decode cX11_heir 0 = .ok (.iload_n 1, 1) := by decide +kernel
theorem dX11_heir_1 : decode cX11_heir 1 = .ok (.iconst 0, 1) := by decide +kernel
theorem dX11_heir_2 : decode cX11_heir 2 = .ok (.iconst 5, 1) := by decide +kernel
theorem dX11_heir_3 : decode cX11_heir 3 = .ok (.invokestatic 91, 3) := by decide +kernel
theorem dX11_heir_6 : decode cX11_heir 6 = .ok (.ifCond .ne 14, 3) := by decide +kernel
theorem dX11_heir_9 : decode cX11_heir 9 = .ok (.iload 4, 2) := by decide +kernel
theorem dX11_heir_11 : decode cX11_heir 11 = .ok (.iconst 0, 1) := by decide +kernel
theorem dX11_heir_12 : decode cX11_heir 12 = .ok (.bipush 20, 2) := by decide +kernel
theorem dX11_heir_14 : decode cX11_heir 14 = .ok (.invokestatic 91, 3) := by decide +kernel
theorem dX11_heir_17 : decode cX11_heir 17 = .ok (.ifCond .eq 8, 3) := by decide +kernel
theorem dX11_heir_20 : decode cX11_heir 20 = .ok (.aload_n 0, 1) := by decide +kernel
theorem dX11_heir_21 : decode cX11_heir 21 = .ok (.invokevirtual 95, 3) := by decide +kernel
theorem dX11_heir_24 : decode cX11_heir 24 = .ok (.ireturn, 1) := by decide +kernel
theorem dX11_heir_25 : decode cX11_heir 25 = .ok (.iload_n 2, 1) := by decide +kernel
theorem dX11_heir_26 : decode cX11_heir 26 = .ok (.iconst 0, 1) := by decide +kernel
theorem dX11_heir_27 : decode cX11_heir 27 = .ok (.sipush 255, 3) := by decide +kernel
theorem dX11_heir_30 : decode cX11_heir 30 = .ok (.invokestatic 91, 3) := by decide +kernel
theorem dX11_heir_33 : decode cX11_heir 33 = .ok (.ifCond .ne 14, 3) := by decide +kernel
theorem dX11_heir_36 : decode cX11_heir 36 = .ok (.iload_n 3, 1) := by decide +kernel
theorem dX11_heir_37 : decode cX11_heir 37 = .ok (.iconst 0, 1) := by decide +kernel
theorem dX11_heir_38 : decode cX11_heir 38 = .ok (.sipush 255, 3) := by decide +kernel
theorem dX11_heir_41 : decode cX11_heir 41 = .ok (.invokestatic 91, 3) := by decide +kernel
theorem dX11_heir_44 : decode cX11_heir 44 = .ok (.ifCond .eq 8, 3) := by decide +kernel
theorem dX11_heir_47 : decode cX11_heir 47 = .ok (.aload_n 0, 1) := by decide +kernel
theorem dX11_heir_48 : decode cX11_heir 48 = .ok (.invokevirtual 95, 3) := by decide +kernel
theorem dX11_heir_51 : decode cX11_heir 51 = .ok (.ireturn, 1) := by decide +kernel
theorem dX11_heir_52 : decode cX11_heir 52 = .ok (.aload_n 0, 1) := by decide +kernel
theorem dX11_heir_53 : decode cX11_heir 53 = .ok (.getfield 80, 3) := by decide +kernel
theorem dX11_heir_56 : decode cX11_heir 56 = .ok (.getfield 99, 3) := by decide +kernel
theorem dX11_heir_59 : decode cX11_heir 59 = .ok (.bipush 6, 2) := by decide +kernel
theorem dX11_heir_61 : decode cX11_heir 61 = .ok (.if_icmp .lt 8, 3) := by decide +kernel
theorem dX11_heir_64 : decode cX11_heir 64 = .ok (.aload_n 0, 1) := by decide +kernel
theorem dX11_heir_65 : decode cX11_heir 65 = .ok (.invokevirtual 106, 3) := by decide +kernel
theorem dX11_heir_68 : decode cX11_heir 68 = .ok (.ireturn, 1) := by decide +kernel
theorem dX11_heir_69 : decode cX11_heir 69 = .ok (.aload_n 0, 1) := by decide +kernel
theorem dX11_heir_70 : decode cX11_heir 70 = .ok (.getfield 80, 3) := by decide +kernel
theorem dX11_heir_73 : decode cX11_heir 73 = .ok (.iload_n 1, 1) := by decide +kernel
theorem dX11_heir_74 : decode cX11_heir 74 = .ok (.iload_n 2, 1) := by decide +kernel
theorem dX11_heir_75 : decode cX11_heir 75 = .ok (.iload_n 3, 1) := by decide +kernel
theorem dX11_heir_76 : decode cX11_heir 76 = .ok (.iload 4, 2) := by decide +kernel
theorem dX11_heir_78 : decode cX11_heir 78 = .ok (.invokevirtual 109, 3) := by decide +kernel
theorem dX11_heir_81 : decode cX11_heir 81 = .ok (.ireturn, 1) := by decide +kernel
theorem dX11_type_0 : decode cX11_type 0 = .ok (.iload_n 1, 1) := by decide +kernel
theorem dX11_type_1 : decode cX11_type 1 = .ok (.iconst 0, 1) := by decide +kernel
theorem dX11_type_2 : decode cX11_type 2 = .ok (.bipush 127, 2) := by decide +kernel
theorem dX11_type_4 : decode cX11_type 4 = .ok (.invokestatic 91, 3) := by decide +kernel
theorem dX11_type_7 : decode cX11_type 7 = .ok (.ifCond .eq 8, 3) := by decide +kernel
theorem dX11_type_10 : decode cX11_type 10 = .ok (.aload_n 0, 1) := by decide +kernel
theorem dX11_type_11 : decode cX11_type 11 = .ok (.invokevirtual 95, 3) := by decide +kernel
theorem dX11_type_14 : decode cX11_type 14 = .ok (.ireturn, 1) := by decide +kernel
theorem dX11_type_15 : decode cX11_type 15 = .ok (.aload_n 0, 1) := by decide +kernel
theorem dX11_type_16 : decode cX11_type 16 = .ok (.getfield 16, 3) := by decide +kernel
theorem dX11_type_19 : decode cX11_type 19 = .ok (.getfield 113, 3) := by decide +kernel
theorem dX11_type_22 : decode cX11_type 22 = .ok (.sipush 150, 3) := by decide +kernel
theorem dX11_type_25 : decode cX11_type 25 = .ok (.if_icmp .lt 8, 3) := by decide +kernel
theorem dX11_type_28 : decode cX11_type 28 = .ok (.aload_n 0, 1) := by decide +kernel
theorem dX11_type_29 : decode cX11_type 29 = .ok (.invokevirtual 106, 3) := by decide +kernel
theorem dX11_type_32 : decode cX11_type 32 = .ok (.ireturn, 1) := by decide +kernel
theorem dX11_type_33 : decode cX11_type 33 = .ok (.aload_n 0, 1) := by decide +kernel
theorem dX11_type_34 : decode cX11_type 34 = .ok (.getfield 16, 3) := by decide +kernel
theorem dX11_type_37 : decode cX11_type 37 = .ok (.iload_n 1, 1) := by decide +kernel
theorem dX11_type_38 : decode cX11_type 38 = .ok (.invokevirtual 116, 3) := by decide +kernel
theorem dX11_type_41 : decode cX11_type 41 = .ok (.aload_n 0, 1) := by decide +kernel
theorem dX11_type_42 : decode cX11_type 42 = .ok (.getfield 16, 3) := by decide +kernel
theorem dX11_type_45 : decode cX11_type 45 = .ok (.getfield 113, 3) := by decide +kernel
theorem dX11_type_48 : decode cX11_type 48 = .ok (.ireturn, 1) := by decide +kernel
theorem dX11_clear_0 : decode cX11_clear 0 = .ok (.aload_n 0, 1) := by decide +kernel
theorem dX11_clear_1 : decode cX11_clear 1 = .ok (.getfield 16, 3) := by decide +kernel
theorem dX11_clear_4 : decode cX11_clear 4 = .ok (.getfield 113, 3) := by decide +kernel
theorem dX11_clear_7 : decode cX11_clear 7 = .ok (.istore_n 1, 1) := by decide +kernel
theorem dX11_clear_8 : decode cX11_clear 8 = .ok (.aload_n 0, 1) := by decide +kernel
theorem dX11_clear_9 : decode cX11_clear 9 = .ok (.getfield 16, 3) := by decide +kernel
theorem dX11_clear_12 : decode cX11_clear 12 = .ok (.iconst 0, 1) := by decide +kernel
theorem dX11_clear_13 : decode cX11_clear 13 = .ok (.putfield 113, 3) := by decide +kernel
theorem dX11_clear_16 : decode cX11_clear 16 = .ok (.iload_n 1, 1) := by decide +kernel
theorem dX11_clear_17 : decode cX11_clear 17 = .ok (.ireturn, 1) := by decide +kernel
theorem dX11_read_0 : decode cX11_read 0 = .ok (.aload_n 0, 1) := by decide +kernel
theorem dX11_read_1 : decode cX11_read 1 = .ok (.getfield 16, 3) := by decide +kernel
theorem dX11_read_4 : decode cX11_read 4 = .ok (.aload_n 0, 1) := by decide +kernel
theorem dX11_read_5 : decode cX11_read 5 = .ok (.getfield 84, 3) := by decide +kernel
theorem dX11_read_8 : decode cX11_read 8 = .ok (.invokevirtual 119, 3) := by decide +kernel
theorem dX11_read_11 : decode cX11_read 11 = .ok (.istore_n 1, 1) := by decide +kernel
theorem dX11_read_12 : decode cX11_read 12 = .ok (.iload_n 1, 1) := by decide +kernel
theorem dX11_read_13 : decode cX11_read 13 = .ok (.iconst (-1), 1) := by decide +kernel
theorem dX11_read_14 : decode cX11_read 14 = .ok (.if_icmp .ne 14, 3) := by decide +kernel
theorem dX11_read_17 : decode cX11_read 17 = .ok (.bipush (-10), 2) := by decide +kernel
theorem dX11_read_19 : decode cX11_read 19 = .ok (.aload_n 0, 1) := by decide +kernel
theorem dX11_read_20 : decode cX11_read 20 = .ok (.getfield 16, 3) := by decide +kernel
theorem dX11_read_23 : decode cX11_read 23 = .ok (.getfield 123, 3) := by decide +kernel
theorem dX11_read_26 : decode cX11_read 26 = .ok (.isub, 1) := by decide +kernel
theorem dX11_read_27 : decode cX11_read 27 = .ok (.ireturn, 1) := by decide +kernel
theorem dX11_read_28 : decode cX11_read 28 = .ok (.aload_n 0, 1) := by decide +kernel
theorem dX11_read_29 : decode cX11_read 29 = .ok (.getfield 80, 3) := by decide +kernel
theorem dX11_read_32 : decode cX11_read 32 = .ok (.aload_n 0, 1) := by decide +kernel
theorem dX11_read_33 : decode cX11_read 33 = .ok (.getfield 84, 3) := by decide +kernel
theorem dX11_read_36 : decode cX11_read 36 = .ok (.invokevirtual 126, 3) := by decide +kernel
theorem dX11_read_39 : decode cX11_read 39 = .ok (.iload_n 1, 1) := by decide +kernel
theorem dX11_read_40 : decode cX11_read 40 = .ok (.ireturn, 1) := by decide +kernel
theorem dX11_pair_0 : decode cX11_pair 0 = .ok (.aload_n 0, 1) := by decide +kernel
theorem dX11_pair_1 : decode cX11_pair 1 = .ok (.getfield 80, 3) := by decide +kernel
theorem dX11_pair_4 : decode cX11_pair 4 = .ok (.iload_n 1, 1) := by decide +kernel
theorem dX11_pair_5 : decode cX11_pair 5 = .ok (.iload_n 2, 1) := by decide +kernel
theorem dX11_pair_6 : decode cX11_pair 6 = .ok (.invokevirtual 130, 3) := by decide +kernel
theorem dX11_pair_9 : decode cX11_pair 9 = .ok (.ifCond .ne 8, 3) := by decide +kernel
theorem dX11_pair_12 : decode cX11_pair 12 = .ok (.aload_n 0, 1) := by decide +kernel
theorem dX11_pair_13 : decode cX11_pair 13 = .ok (.invokevirtual 95, 3) := by decide +kernel
theorem dX11_pair_16 : decode cX11_pair 16 = .ok (.ireturn, 1) := by decide +kernel
theorem dX11_pair_17 : decode cX11_pair 17 = .ok (.aload_n 0, 1) := by decide +kernel
theorem dX11_pair_18 : decode cX11_pair 18 = .ok (.getfield 80, 3) := by decide +kernel
theorem dX11_pair_21 : decode cX11_pair 21 = .ok (.invokevirtual 134, 3) := by decide +kernel
theorem dX11_pair_24 : decode cX11_pair 24 = .ok (.aload_n 0, 1) := by decide +kernel
theorem dX11_pair_25 : decode cX11_pair 25 = .ok (.getfield 80, 3) := by decide +kernel
theorem dX11_pair_28 : decode cX11_pair 28 = .ok (.getfield 137, 3) := by decide +kernel
theorem dX11_pair_31 : decode cX11_pair 31 = .ok (.iload_n 1, 1) := by decide +kernel
theorem dX11_pair_32 : decode cX11_pair 32 = .ok (.putfield 140, 3) := by decide +kernel
theorem dX11_pair_35 : decode cX11_pair 35 = .ok (.aload_n 0, 1) := by decide +kernel
theorem dX11_pair_36 : decode cX11_pair 36 = .ok (.getfield 80, 3) := by decide +kernel
theorem dX11_pair_39 : decode cX11_pair 39 = .ok (.getfield 137, 3) := by decide +kernel
theorem dX11_pair_42 : decode cX11_pair 42 = .ok (.iload_n 2, 1) := by decide +kernel
theorem dX11_pair_43 : decode cX11_pair 43 = .ok (.putfield 143, 3) := by decide +kernel
theorem dX11_pair_46 : decode cX11_pair 46 = .ok (.iconst 1, 1) := by decide +kernel
theorem dX11_pair_47 : decode cX11_pair 47 = .ok (.ireturn, 1) := by decide +kernel
theorem dX11_ask_0 : decode cX11_ask 0 = .ok (.iload_n 1, 1) := by decide +kernel
theorem dX11_ask_1 : decode cX11_ask 1 = .ok (.iconst 0, 1) := by decide +kernel
theorem dX11_ask_2 : decode cX11_ask 2 = .ok (.bipush 7, 2) := by decide +kernel
theorem dX11_ask_4 : decode cX11_ask 4 = .ok (.invokestatic 91, 3) := by decide +kernel
theorem dX11_ask_7 : decode cX11_ask 7 = .ok (.ifCond .eq 8, 3) := by decide +kernel
theorem dX11_ask_10 : decode cX11_ask 10 = .ok (.aload_n 0, 1) := by decide +kernel
theorem dX11_ask_11 : decode cX11_ask 11 = .ok (.invokevirtual 95, 3) := by decide +kernel
theorem dX11_ask_14 : decode cX11_ask 14 = .ok (.ireturn, 1) := by decide +kernel
theorem dX11_ask_15 : decode cX11_ask 15 = .ok (.aload_n 0, 1) := by decide +kernel
theorem dX11_ask_16 : decode cX11_ask 16 = .ok (.getfield 80, 3) := by decide +kernel
theorem dX11_ask_19 : decode cX11_ask 19 = .ok (.getfield 137, 3) := by decide +kernel
theorem dX11_ask_22 : decode cX11_ask 22 = .ok (.invokevirtual 146, 3) := by decide +kernel
theorem dX11_ask_25 : decode cX11_ask 25 = .ok (.ifCond .eq 17, 3) := by decide +kernel
theorem dX11_ask_28 : decode cX11_ask 28 = .ok (.aload_n 0, 1) := by decide +kernel
theorem dX11_ask_29 : decode cX11_ask 29 = .ok (.getfield 80, 3) := by decide +kernel
theorem dX11_ask_32 : decode cX11_ask 32 = .ok (.getfield 137, 3) := by decide +kernel
theorem dX11_ask_35 : decode cX11_ask 35 = .ok (.iload_n 1, 1) := by decide +kernel
theorem dX11_ask_36 : decode cX11_ask 36 = .ok (.invokevirtual 150, 3) := by decide +kernel
theorem dX11_ask_39 : decode cX11_ask 39 = .ok (.ifCond .eq 8, 3) := by decide +kernel
theorem dX11_ask_42 : decode cX11_ask 42 = .ok (.aload_n 0, 1) := by decide +kernel
theorem dX11_ask_43 : decode cX11_ask 43 = .ok (.invokevirtual 154, 3) := by decide +kernel
theorem dX11_ask_46 : decode cX11_ask 46 = .ok (.ireturn, 1) := by decide +kernel
theorem dX11_ask_47 : decode cX11_ask 47 = .ok (.aload_n 0, 1) := by decide +kernel
theorem dX11_ask_48 : decode cX11_ask 48 = .ok (.getfield 80, 3) := by decide +kernel
theorem dX11_ask_51 : decode cX11_ask 51 = .ok (.invokevirtual 134, 3) := by decide +kernel
theorem dX11_ask_54 : decode cX11_ask 54 = .ok (.aload_n 0, 1) := by decide +kernel
theorem dX11_ask_55 : decode cX11_ask 55 = .ok (.getfield 80, 3) := by decide +kernel
theorem dX11_ask_58 : decode cX11_ask 58 = .ok (.aload_n 0, 1) := by decide +kernel
theorem dX11_ask_59 : decode cX11_ask 59 = .ok (.getfield 80, 3) := by decide +kernel
theorem dX11_ask_62 : decode cX11_ask 62 = .ok (.getfield 137, 3) := by decide +kernel
theorem dX11_ask_65 : decode cX11_ask 65 = .ok (.iload_n 1, 1) := by decide +kernel
theorem dX11_ask_66 : decode cX11_ask 66 = .ok (.invokevirtual 157, 3) := by decide +kernel
theorem dX11_ask_69 : decode cX11_ask 69 = .ok (.ireturn, 1) := by decide +kernel
theorem dX11_day_0 : decode cX11_day 0 = .ok (.iload_n 1, 1) := by decide +kernel
theorem dX11_day_1 : decode cX11_day 1 = .ok (.iconst 1, 1) := by decide +kernel
theorem dX11_day_2 : decode cX11_day 2 = .ok (.bipush 60, 2) := by decide +kernel
theorem dX11_day_4 : decode cX11_day 4 = .ok (.invokestatic 91, 3) := by decide +kernel
theorem dX11_day_7 : decode cX11_day 7 = .ok (.ifCond .eq 8, 3) := by decide +kernel
theorem dX11_day_10 : decode cX11_day 10 = .ok (.aload_n 0, 1) := by decide +kernel
theorem dX11_day_11 : decode cX11_day 11 = .ok (.invokevirtual 95, 3) := by decide +kernel
theorem dX11_day_14 : decode cX11_day 14 = .ok (.ireturn, 1) := by decide +kernel
theorem dX11_day_15 : decode cX11_day 15 = .ok (.aload_n 0, 1) := by decide +kernel
theorem dX11_day_16 : decode cX11_day 16 = .ok (.getfield 80, 3) := by decide +kernel
theorem dX11_day_19 : decode cX11_day 19 = .ok (.invokevirtual 134, 3) := by decide +kernel
theorem dX11_day_22 : decode cX11_day 22 = .ok (.aload_n 0, 1) := by decide +kernel
theorem dX11_day_23 : decode cX11_day 23 = .ok (.getfield 80, 3) := by decide +kernel
theorem dX11_day_26 : decode cX11_day 26 = .ok (.aload_n 0, 1) := by decide +kernel
theorem dX11_day_27 : decode cX11_day 27 = .ok (.getfield 80, 3) := by decide +kernel
theorem dX11_day_30 : decode cX11_day 30 = .ok (.getfield 137, 3) := by decide +kernel
theorem dX11_day_33 : decode cX11_day 33 = .ok (.iload_n 1, 1) := by decide +kernel
theorem dX11_day_34 : decode cX11_day 34 = .ok (.invokevirtual 161, 3) := by decide +kernel
theorem dX11_day_37 : decode cX11_day 37 = .ok (.aload_n 0, 1) := by decide +kernel
theorem dX11_day_38 : decode cX11_day 38 = .ok (.getfield 80, 3) := by decide +kernel
theorem dX11_day_41 : decode cX11_day 41 = .ok (.getfield 137, 3) := by decide +kernel
theorem dX11_day_44 : decode cX11_day 44 = .ok (.getfield 165, 3) := by decide +kernel
theorem dX11_day_47 : decode cX11_day 47 = .ok (.ireturn, 1) := by decide +kernel
theorem dX11_feed_0 : decode cX11_feed 0 = .ok (.iload_n 1, 1) := by decide +kernel
theorem dX11_feed_1 : decode cX11_feed 1 = .ok (.iconst 1, 1) := by decide +kernel
theorem dX11_feed_2 : decode cX11_feed 2 = .ok (.bipush 20, 2) := by decide +kernel
theorem dX11_feed_4 : decode cX11_feed 4 = .ok (.invokestatic 91, 3) := by decide +kernel
theorem dX11_feed_7 : decode cX11_feed 7 = .ok (.ifCond .eq 8, 3) := by decide +kernel
theorem dX11_feed_10 : decode cX11_feed 10 = .ok (.aload_n 0, 1) := by decide +kernel
theorem dX11_feed_11 : decode cX11_feed 11 = .ok (.invokevirtual 95, 3) := by decide +kernel
theorem dX11_feed_14 : decode cX11_feed 14 = .ok (.ireturn, 1) := by decide +kernel
theorem dX11_feed_15 : decode cX11_feed 15 = .ok (.aload_n 0, 1) := by decide +kernel
theorem dX11_feed_16 : decode cX11_feed 16 = .ok (.getfield 80, 3) := by decide +kernel
theorem dX11_feed_19 : decode cX11_feed 19 = .ok (.invokevirtual 134, 3) := by decide +kernel
theorem dX11_feed_22 : decode cX11_feed 22 = .ok (.aload_n 0, 1) := by decide +kernel
theorem dX11_feed_23 : decode cX11_feed 23 = .ok (.getfield 80, 3) := by decide +kernel
theorem dX11_feed_26 : decode cX11_feed 26 = .ok (.getfield 137, 3) := by decide +kernel
theorem dX11_feed_29 : decode cX11_feed 29 = .ok (.iload_n 1, 1) := by decide +kernel
theorem dX11_feed_30 : decode cX11_feed 30 = .ok (.invokevirtual 168, 3) := by decide +kernel
theorem dX11_feed_33 : decode cX11_feed 33 = .ok (.aload_n 0, 1) := by decide +kernel
theorem dX11_feed_34 : decode cX11_feed 34 = .ok (.getfield 80, 3) := by decide +kernel
theorem dX11_feed_37 : decode cX11_feed 37 = .ok (.getfield 137, 3) := by decide +kernel
theorem dX11_feed_40 : decode cX11_feed 40 = .ok (.getfield 165, 3) := by decide +kernel
theorem dX11_feed_43 : decode cX11_feed 43 = .ok (.ireturn, 1) := by decide +kernel
theorem dX11_undo_0 : decode cX11_undo 0 = .ok (.aload_n 0, 1) := by decide +kernel
theorem dX11_undo_1 : decode cX11_undo 1 = .ok (.getfield 80, 3) := by decide +kernel
theorem dX11_undo_4 : decode cX11_undo 4 = .ok (.getfield 171, 3) := by decide +kernel
theorem dX11_undo_7 : decode cX11_undo 7 = .ok (.ifCond .gt 8, 3) := by decide +kernel
theorem dX11_undo_10 : decode cX11_undo 10 = .ok (.aload_n 0, 1) := by decide +kernel
theorem dX11_undo_11 : decode cX11_undo 11 = .ok (.invokevirtual 154, 3) := by decide +kernel
theorem dX11_undo_14 : decode cX11_undo 14 = .ok (.ireturn, 1) := by decide +kernel
theorem dX11_undo_15 : decode cX11_undo 15 = .ok (.aload_n 0, 1) := by decide +kernel
theorem dX11_undo_16 : decode cX11_undo 16 = .ok (.getfield 80, 3) := by decide +kernel
theorem dX11_undo_19 : decode cX11_undo 19 = .ok (.invokevirtual 174, 3) := by decide +kernel
theorem dX11_undo_22 : decode cX11_undo 22 = .ok (.aload_n 0, 1) := by decide +kernel
theorem dX11_undo_23 : decode cX11_undo 23 = .ok (.getfield 80, 3) := by decide +kernel
theorem dX11_undo_26 : decode cX11_undo 26 = .ok (.getfield 137, 3) := by decide +kernel
theorem dX11_undo_29 : decode cX11_undo 29 = .ok (.getfield 177, 3) := by decide +kernel
theorem dX11_undo_32 : decode cX11_undo 32 = .ok (.ireturn, 1) := by decide +kernel
theorem dX11_of_0 : decode cX11_of 0 = .ok (.aload_n 0, 1) := by decide +kernel
theorem dX11_of_1 : decode cX11_of 1 = .ok (.getfield 80, 3) := by decide +kernel
theorem dX11_of_4 : decode cX11_of 4 = .ok (.iload_n 1, 1) := by decide +kernel
theorem dX11_of_5 : decode cX11_of 5 = .ok (.invokevirtual 180, 3) := by decide +kernel
theorem dX11_of_8 : decode cX11_of 8 = .ok (.ifCond .eq 12, 3) := by decide +kernel
theorem dX11_of_11 : decode cX11_of 11 = .ok (.iload_n 2, 1) := by decide +kernel
theorem dX11_of_12 : decode cX11_of 12 = .ok (.iconst 0, 1) := by decide +kernel
theorem dX11_of_13 : decode cX11_of 13 = .ok (.iconst 4, 1) := by decide +kernel
theorem dX11_of_14 : decode cX11_of 14 = .ok (.invokestatic 91, 3) := by decide +kernel
theorem dX11_of_17 : decode cX11_of 17 = .ok (.ifCond .eq 8, 3) := by decide +kernel
theorem dX11_of_20 : decode cX11_of 20 = .ok (.aload_n 0, 1) := by decide +kernel
theorem dX11_of_21 : decode cX11_of 21 = .ok (.invokevirtual 95, 3) := by decide +kernel
theorem dX11_of_24 : decode cX11_of 24 = .ok (.ireturn, 1) := by decide +kernel
theorem dX11_of_25 : decode cX11_of 25 = .ok (.aload_n 0, 1) := by decide +kernel
theorem dX11_of_26 : decode cX11_of 26 = .ok (.getfield 80, 3) := by decide +kernel
theorem dX11_of_29 : decode cX11_of 29 = .ok (.getfield 183, 3) := by decide +kernel
theorem dX11_of_32 : decode cX11_of 32 = .ok (.iload_n 1, 1) := by decide +kernel
theorem dX11_of_33 : decode cX11_of 33 = .ok (.aaload, 1) := by decide +kernel
theorem dX11_of_34 : decode cX11_of 34 = .ok (.astore_n 3, 1) := by decide +kernel
theorem dX11_of_35 : decode cX11_of 35 = .ok (.iload_n 2, 1) := by decide +kernel
theorem dX11_of_36 : decode cX11_of 36 = .ok (.tableswitch 52 0 3 #[32, 37, 42, 47], 32) := by decide +kernel
theorem dX11_of_68 : decode cX11_of 68 = .ok (.aload_n 3, 1) := by decide +kernel
theorem dX11_of_69 : decode cX11_of 69 = .ok (.getfield 187, 3) := by decide +kernel
theorem dX11_of_72 : decode cX11_of 72 = .ok (.ireturn, 1) := by decide +kernel
theorem dX11_of_73 : decode cX11_of 73 = .ok (.aload_n 3, 1) := by decide +kernel
theorem dX11_of_74 : decode cX11_of 74 = .ok (.getfield 192, 3) := by decide +kernel
theorem dX11_of_77 : decode cX11_of 77 = .ok (.ireturn, 1) := by decide +kernel
theorem dX11_of_78 : decode cX11_of 78 = .ok (.aload_n 3, 1) := by decide +kernel
theorem dX11_of_79 : decode cX11_of 79 = .ok (.getfield 195, 3) := by decide +kernel
theorem dX11_of_82 : decode cX11_of 82 = .ok (.ireturn, 1) := by decide +kernel
theorem dX11_of_83 : decode cX11_of 83 = .ok (.aload_n 3, 1) := by decide +kernel
theorem dX11_of_84 : decode cX11_of 84 = .ok (.getfield 198, 3) := by decide +kernel
theorem dX11_of_87 : decode cX11_of 87 = .ok (.ireturn, 1) := by decide +kernel
theorem dX11_of_88 : decode cX11_of 88 = .ok (.aload_n 0, 1) := by decide +kernel
theorem dX11_of_89 : decode cX11_of 89 = .ok (.getfield 80, 3) := by decide +kernel
theorem dX11_of_92 : decode cX11_of 92 = .ok (.getfield 137, 3) := by decide +kernel
theorem dX11_of_95 : decode cX11_of 95 = .ok (.iload_n 1, 1) := by decide +kernel
theorem dX11_of_96 : decode cX11_of 96 = .ok (.invokevirtual 201, 3) := by decide +kernel
theorem dX11_of_99 : decode cX11_of 99 = .ok (.ireturn, 1) := by decide +kernel
theorem dX11_makes_0 : decode cX11_makes 0 = .ok (.aload_n 0, 1) := by decide +kernel
theorem dX11_makes_1 : decode cX11_makes 1 = .ok (.getfield 80, 3) := by decide +kernel
theorem dX11_makes_4 : decode cX11_makes 4 = .ok (.iload_n 1, 1) := by decide +kernel
theorem dX11_makes_5 : decode cX11_makes 5 = .ok (.invokevirtual 180, 3) := by decide +kernel
theorem dX11_makes_8 : decode cX11_makes 8 = .ok (.ifCond .eq 12, 3) := by decide +kernel
theorem dX11_makes_11 : decode cX11_makes 11 = .ok (.aload_n 0, 1) := by decide +kernel
theorem dX11_makes_12 : decode cX11_makes 12 = .ok (.getfield 80, 3) := by decide +kernel
theorem dX11_makes_15 : decode cX11_makes 15 = .ok (.iload_n 1, 1) := by decide +kernel
theorem dX11_makes_16 : decode cX11_makes 16 = .ok (.invokevirtual 205, 3) := by decide +kernel
theorem dX11_makes_19 : decode cX11_makes 19 = .ok (.ireturn, 1) := by decide +kernel
theorem dX11_makes_20 : decode cX11_makes 20 = .ok (.aload_n 0, 1) := by decide +kernel
theorem dX11_makes_21 : decode cX11_makes 21 = .ok (.invokevirtual 95, 3) := by decide +kernel
theorem dX11_makes_24 : decode cX11_makes 24 = .ok (.pop, 1) := by decide +kernel
theorem dX11_makes_25 : decode cX11_makes 25 = .ok (.bipush (-100), 2) := by decide +kernel
theorem dX11_makes_27 : decode cX11_makes 27 = .ok (.ireturn, 1) := by decide +kernel
theorem dX11_lift_0 : decode cX11_lift 0 = .ok (.iload_n 1, 1) := by decide +kernel
theorem dX11_lift_1 : decode cX11_lift 1 = .ok (.iconst 0, 1) := by decide +kernel
theorem dX11_lift_2 : decode cX11_lift 2 = .ok (.bipush 7, 2) := by decide +kernel
theorem dX11_lift_4 : decode cX11_lift 4 = .ok (.invokestatic 91, 3) := by decide +kernel
theorem dX11_lift_7 : decode cX11_lift 7 = .ok (.ifCond .eq 8, 3) := by decide +kernel
theorem dX11_lift_10 : decode cX11_lift 10 = .ok (.aload_n 0, 1) := by decide +kernel
theorem dX11_lift_11 : decode cX11_lift 11 = .ok (.invokevirtual 95, 3) := by decide +kernel
theorem dX11_lift_14 : decode cX11_lift 14 = .ok (.ireturn, 1) := by decide +kernel
theorem dX11_lift_15 : decode cX11_lift 15 = .ok (.aload_n 0, 1) := by decide +kernel
theorem dX11_lift_16 : decode cX11_lift 16 = .ok (.getfield 80, 3) := by decide +kernel
theorem dX11_lift_19 : decode cX11_lift 19 = .ok (.getfield 137, 3) := by decide +kernel
theorem dX11_lift_22 : decode cX11_lift 22 = .ok (.invokevirtual 146, 3) := by decide +kernel
theorem dX11_lift_25 : decode cX11_lift 25 = .ok (.ifCond .ne 8, 3) := by decide +kernel
theorem dX11_lift_28 : decode cX11_lift 28 = .ok (.aload_n 0, 1) := by decide +kernel
theorem dX11_lift_29 : decode cX11_lift 29 = .ok (.invokevirtual 154, 3) := by decide +kernel
theorem dX11_lift_32 : decode cX11_lift 32 = .ok (.ireturn, 1) := by decide +kernel
theorem dX11_lift_33 : decode cX11_lift 33 = .ok (.aload_n 0, 1) := by decide +kernel
theorem dX11_lift_34 : decode cX11_lift 34 = .ok (.getfield 80, 3) := by decide +kernel
theorem dX11_lift_37 : decode cX11_lift 37 = .ok (.aload_n 0, 1) := by decide +kernel
theorem dX11_lift_38 : decode cX11_lift 38 = .ok (.getfield 80, 3) := by decide +kernel
theorem dX11_lift_41 : decode cX11_lift 41 = .ok (.getfield 137, 3) := by decide +kernel
theorem dX11_lift_44 : decode cX11_lift 44 = .ok (.iload_n 1, 1) := by decide +kernel
theorem dX11_lift_45 : decode cX11_lift 45 = .ok (.invokevirtual 208, 3) := by decide +kernel
theorem dX11_lift_48 : decode cX11_lift 48 = .ok (.ireturn, 1) := by decide +kernel
theorem dX11_both_0 : decode cX11_both 0 = .ok (.iload_n 1, 1) := by decide +kernel
theorem dX11_both_1 : decode cX11_both 1 = .ok (.iconst 0, 1) := by decide +kernel
theorem dX11_both_2 : decode cX11_both 2 = .ok (.bipush 60, 2) := by decide +kernel
theorem dX11_both_4 : decode cX11_both 4 = .ok (.invokestatic 91, 3) := by decide +kernel
theorem dX11_both_7 : decode cX11_both 7 = .ok (.ifCond .eq 8, 3) := by decide +kernel
theorem dX11_both_10 : decode cX11_both 10 = .ok (.aload_n 0, 1) := by decide +kernel
theorem dX11_both_11 : decode cX11_both 11 = .ok (.invokevirtual 95, 3) := by decide +kernel
theorem dX11_both_14 : decode cX11_both 14 = .ok (.ireturn, 1) := by decide +kernel
theorem dX11_both_15 : decode cX11_both 15 = .ok (.aload_n 0, 1) := by decide +kernel
theorem dX11_both_16 : decode cX11_both 16 = .ok (.getfield 80, 3) := by decide +kernel
theorem dX11_both_19 : decode cX11_both 19 = .ok (.getfield 137, 3) := by decide +kernel
theorem dX11_both_22 : decode cX11_both 22 = .ok (.invokevirtual 146, 3) := by decide +kernel
theorem dX11_both_25 : decode cX11_both 25 = .ok (.ifCond .ne 8, 3) := by decide +kernel
theorem dX11_both_28 : decode cX11_both 28 = .ok (.aload_n 0, 1) := by decide +kernel
theorem dX11_both_29 : decode cX11_both 29 = .ok (.invokevirtual 154, 3) := by decide +kernel
theorem dX11_both_32 : decode cX11_both 32 = .ok (.ireturn, 1) := by decide +kernel
theorem dX11_both_33 : decode cX11_both 33 = .ok (.aload_n 0, 1) := by decide +kernel
theorem dX11_both_34 : decode cX11_both 34 = .ok (.getfield 23, 3) := by decide +kernel
theorem dX11_both_37 : decode cX11_both 37 = .ok (.aload_n 0, 1) := by decide +kernel
theorem dX11_both_38 : decode cX11_both 38 = .ok (.getfield 80, 3) := by decide +kernel
theorem dX11_both_41 : decode cX11_both 41 = .ok (.getfield 137, 3) := by decide +kernel
theorem dX11_both_44 : decode cX11_both 44 = .ok (.invokevirtual 211, 3) := by decide +kernel
theorem dX11_both_47 : decode cX11_both 47 = .ok (.aload_n 0, 1) := by decide +kernel
theorem dX11_both_48 : decode cX11_both 48 = .ok (.getfield 80, 3) := by decide +kernel
theorem dX11_both_51 : decode cX11_both 51 = .ok (.aload_n 0, 1) := by decide +kernel
theorem dX11_both_52 : decode cX11_both 52 = .ok (.getfield 23, 3) := by decide +kernel
theorem dX11_both_55 : decode cX11_both 55 = .ok (.iload_n 1, 1) := by decide +kernel
theorem dX11_both_56 : decode cX11_both 56 = .ok (.invokevirtual 161, 3) := by decide +kernel
theorem dX11_both_59 : decode cX11_both 59 = .ok (.aload_n 0, 1) := by decide +kernel
theorem dX11_both_60 : decode cX11_both 60 = .ok (.getfield 80, 3) := by decide +kernel
theorem dX11_both_63 : decode cX11_both 63 = .ok (.aload_n 0, 1) := by decide +kernel
theorem dX11_both_64 : decode cX11_both 64 = .ok (.getfield 23, 3) := by decide +kernel
theorem dX11_both_67 : decode cX11_both 67 = .ok (.invokevirtual 214, 3) := by decide +kernel
theorem dX11_both_70 : decode cX11_both 70 = .ok (.ireturn, 1) := by decide +kernel
theorem dX11_friends_0 : decode cX11_friends 0 = .ok (.aload_n 0, 1) := by decide +kernel
theorem dX11_friends_1 : decode cX11_friends 1 = .ok (.aload_n 0, 1) := by decide +kernel
theorem dX11_friends_2 : decode cX11_friends 2 = .ok (.getfield 80, 3) := by decide +kernel
theorem dX11_friends_5 : decode cX11_friends 5 = .ok (.aload_n 0, 1) := by decide +kernel
theorem dX11_friends_6 : decode cX11_friends 6 = .ok (.getfield 80, 3) := by decide +kernel
theorem dX11_friends_9 : decode cX11_friends 9 = .ok (.getfield 137, 3) := by decide +kernel
theorem dX11_friends_12 : decode cX11_friends 12 = .ok (.invokevirtual 218, 3) := by decide +kernel
theorem dX11_friends_15 : decode cX11_friends 15 = .ok (.invokevirtual 221, 3) := by decide +kernel
theorem dX11_friends_18 : decode cX11_friends 18 = .ok (.ireturn, 1) := by decide +kernel
theorem dX11_then_0 : decode cX11_then 0 = .ok (.iload_n 1, 1) := by decide +kernel
theorem dX11_then_1 : decode cX11_then 1 = .ok (.iconst 0, 1) := by decide +kernel
theorem dX11_then_2 : decode cX11_then 2 = .ok (.bipush 90, 2) := by decide +kernel
theorem dX11_then_4 : decode cX11_then 4 = .ok (.invokestatic 91, 3) := by decide +kernel
theorem dX11_then_7 : decode cX11_then 7 = .ok (.ifCond .eq 8, 3) := by decide +kernel
theorem dX11_then_10 : decode cX11_then 10 = .ok (.aload_n 0, 1) := by decide +kernel
theorem dX11_then_11 : decode cX11_then 11 = .ok (.invokevirtual 95, 3) := by decide +kernel
theorem dX11_then_14 : decode cX11_then 14 = .ok (.ireturn, 1) := by decide +kernel
theorem dX11_then_15 : decode cX11_then 15 = .ok (.aload_n 0, 1) := by decide +kernel
theorem dX11_then_16 : decode cX11_then 16 = .ok (.getfield 23, 3) := by decide +kernel
theorem dX11_then_19 : decode cX11_then 19 = .ok (.aload_n 0, 1) := by decide +kernel
theorem dX11_then_20 : decode cX11_then 20 = .ok (.getfield 80, 3) := by decide +kernel
theorem dX11_then_23 : decode cX11_then 23 = .ok (.getfield 137, 3) := by decide +kernel
theorem dX11_then_26 : decode cX11_then 26 = .ok (.invokevirtual 211, 3) := by decide +kernel
theorem dX11_then_29 : decode cX11_then 29 = .ok (.aload_n 0, 1) := by decide +kernel
theorem dX11_then_30 : decode cX11_then 30 = .ok (.getfield 80, 3) := by decide +kernel
theorem dX11_then_33 : decode cX11_then 33 = .ok (.aload_n 0, 1) := by decide +kernel
theorem dX11_then_34 : decode cX11_then 34 = .ok (.getfield 23, 3) := by decide +kernel
theorem dX11_then_37 : decode cX11_then 37 = .ok (.iload_n 1, 1) := by decide +kernel
theorem dX11_then_38 : decode cX11_then 38 = .ok (.invokevirtual 161, 3) := by decide +kernel
theorem dX11_then_41 : decode cX11_then 41 = .ok (.aload_n 0, 1) := by decide +kernel
theorem dX11_then_42 : decode cX11_then 42 = .ok (.getfield 23, 3) := by decide +kernel
theorem dX11_then_45 : decode cX11_then 45 = .ok (.getfield 165, 3) := by decide +kernel
theorem dX11_then_48 : decode cX11_then 48 = .ok (.ireturn, 1) := by decide +kernel
theorem dX11_most_0 : decode cX11_most 0 = .ok (.iload_n 1, 1) := by decide +kernel
theorem dX11_most_1 : decode cX11_most 1 = .ok (.iconst 1, 1) := by decide +kernel
theorem dX11_most_2 : decode cX11_most 2 = .ok (.iconst 4, 1) := by decide +kernel
theorem dX11_most_3 : decode cX11_most 3 = .ok (.invokestatic 91, 3) := by decide +kernel
theorem dX11_most_6 : decode cX11_most 6 = .ok (.ifCond .ne 8, 3) := by decide +kernel
theorem dX11_most_9 : decode cX11_most 9 = .ok (.iload_n 2, 1) := by decide +kernel
theorem dX11_most_10 : decode cX11_most 10 = .ok (.iconst (-1), 1) := by decide +kernel
theorem dX11_most_11 : decode cX11_most 11 = .ok (.if_icmp .ge 11, 3) := by decide +kernel
theorem dX11_most_14 : decode cX11_most 14 = .ok (.aload_n 0, 1) := by decide +kernel
theorem dX11_most_15 : decode cX11_most 15 = .ok (.invokevirtual 95, 3) := by decide +kernel
theorem dX11_most_18 : decode cX11_most 18 = .ok (.pop, 1) := by decide +kernel
theorem dX11_most_19 : decode cX11_most 19 = .ok (.bipush (-10), 2) := by decide +kernel
theorem dX11_most_21 : decode cX11_most 21 = .ok (.ireturn, 1) := by decide +kernel
theorem dX11_most_22 : decode cX11_most 22 = .ok (.aload_n 0, 1) := by decide +kernel
theorem dX11_most_23 : decode cX11_most 23 = .ok (.getfield 80, 3) := by decide +kernel
theorem dX11_most_26 : decode cX11_most 26 = .ok (.getfield 137, 3) := by decide +kernel
theorem dX11_most_29 : decode cX11_most 29 = .ok (.invokevirtual 146, 3) := by decide +kernel
theorem dX11_most_32 : decode cX11_most 32 = .ok (.ifCond .ne 8, 3) := by decide +kernel
theorem dX11_most_35 : decode cX11_most 35 = .ok (.aload_n 0, 1) := by decide +kernel
theorem dX11_most_36 : decode cX11_most 36 = .ok (.invokevirtual 154, 3) := by decide +kernel
theorem dX11_most_39 : decode cX11_most 39 = .ok (.ireturn, 1) := by decide +kernel
theorem dX11_most_40 : decode cX11_most 40 = .ok (.iload_n 2, 1) := by decide +kernel
theorem dX11_most_41 : decode cX11_most 41 = .ok (.iload_n 1, 1) := by decide +kernel
theorem dX11_most_42 : decode cX11_most 42 = .ok (.if_icmp .lt 6, 3) := by decide +kernel
theorem dX11_most_45 : decode cX11_most 45 = .ok (.bipush (-5), 2) := by decide +kernel
theorem dX11_most_47 : decode cX11_most 47 = .ok (.ireturn, 1) := by decide +kernel
theorem dX11_most_48 : decode cX11_most 48 = .ok (.aload_n 0, 1) := by decide +kernel
theorem dX11_most_49 : decode cX11_most 49 = .ok (.iconst (-1), 1) := by decide +kernel
theorem dX11_most_50 : decode cX11_most 50 = .ok (.putfield 38, 3) := by decide +kernel
theorem dX11_most_53 : decode cX11_most 53 = .ok (.aload_n 0, 1) := by decide +kernel
theorem dX11_most_54 : decode cX11_most 54 = .ok (.getfield 27, 3) := by decide +kernel
theorem dX11_most_57 : decode cX11_most 57 = .ok (.iconst 0, 1) := by decide +kernel
theorem dX11_most_58 : decode cX11_most 58 = .ok (.aaload, 1) := by decide +kernel
theorem dX11_most_59 : decode cX11_most 59 = .ok (.aload_n 0, 1) := by decide +kernel
theorem dX11_most_60 : decode cX11_most 60 = .ok (.getfield 80, 3) := by decide +kernel
theorem dX11_most_63 : decode cX11_most 63 = .ok (.getfield 137, 3) := by decide +kernel
theorem dX11_most_66 : decode cX11_most 66 = .ok (.invokevirtual 211, 3) := by decide +kernel
theorem dX11_most_69 : decode cX11_most 69 = .ok (.aload_n 0, 1) := by decide +kernel
theorem dX11_most_70 : decode cX11_most 70 = .ok (.iconst 0, 1) := by decide +kernel
theorem dX11_most_71 : decode cX11_most 71 = .ok (.iload_n 1, 1) := by decide +kernel
theorem dX11_most_72 : decode cX11_most 72 = .ok (.iconst 0, 1) := by decide +kernel
theorem dX11_most_73 : decode cX11_most 73 = .ok (.invokevirtual 224, 3) := by decide +kernel
theorem dX11_most_76 : decode cX11_most 76 = .ok (.iload_n 2, 1) := by decide +kernel
theorem dX11_most_77 : decode cX11_most 77 = .ok (.iconst (-1), 1) := by decide +kernel
theorem dX11_most_78 : decode cX11_most 78 = .ok (.if_icmp .ne 10, 3) := by decide +kernel
theorem dX11_most_81 : decode cX11_most 81 = .ok (.aload_n 0, 1) := by decide +kernel
theorem dX11_most_82 : decode cX11_most 82 = .ok (.getfield 38, 3) := by decide +kernel
theorem dX11_most_85 : decode cX11_most 85 = .ok (.goto 9, 3) := by decide +kernel
theorem dX11_most_88 : decode cX11_most 88 = .ok (.aload_n 0, 1) := by decide +kernel
theorem dX11_most_89 : decode cX11_most 89 = .ok (.getfield 35, 3) := by decide +kernel
theorem dX11_most_92 : decode cX11_most 92 = .ok (.iload_n 2, 1) := by decide +kernel
theorem dX11_most_93 : decode cX11_most 93 = .ok (.iaload, 1) := by decide +kernel
theorem dX11_most_94 : decode cX11_most 94 = .ok (.ireturn, 1) := by decide +kernel
theorem dX11_keep_0 : decode cX11_keep 0 = .ok (.iload_n 1, 1) := by decide +kernel
theorem dX11_keep_1 : decode cX11_keep 1 = .ok (.iconst 1, 1) := by decide +kernel
theorem dX11_keep_2 : decode cX11_keep 2 = .ok (.bipush 60, 2) := by decide +kernel
theorem dX11_keep_4 : decode cX11_keep 4 = .ok (.invokestatic 91, 3) := by decide +kernel
theorem dX11_keep_7 : decode cX11_keep 7 = .ok (.ifCond .eq 8, 3) := by decide +kernel
theorem dX11_keep_10 : decode cX11_keep 10 = .ok (.aload_n 0, 1) := by decide +kernel
theorem dX11_keep_11 : decode cX11_keep 11 = .ok (.invokevirtual 95, 3) := by decide +kernel
theorem dX11_keep_14 : decode cX11_keep 14 = .ok (.ireturn, 1) := by decide +kernel
theorem dX11_keep_15 : decode cX11_keep 15 = .ok (.aload_n 0, 1) := by decide +kernel
theorem dX11_keep_16 : decode cX11_keep 16 = .ok (.getfield 80, 3) := by decide +kernel
theorem dX11_keep_19 : decode cX11_keep 19 = .ok (.aload_n 0, 1) := by decide +kernel
theorem dX11_keep_20 : decode cX11_keep 20 = .ok (.getfield 80, 3) := by decide +kernel
theorem dX11_keep_23 : decode cX11_keep 23 = .ok (.getfield 137, 3) := by decide +kernel
theorem dX11_keep_26 : decode cX11_keep 26 = .ok (.invokevirtual 218, 3) := by decide +kernel
theorem dX11_keep_29 : decode cX11_keep 29 = .ok (.istore_n 2, 1) := by decide +kernel
theorem dX11_keep_30 : decode cX11_keep 30 = .ok (.iconst 0, 1) := by decide +kernel
theorem dX11_keep_31 : decode cX11_keep 31 = .ok (.istore_n 3, 1) := by decide +kernel
theorem dX11_keep_32 : decode cX11_keep 32 = .ok (.iload_n 3, 1) := by decide +kernel
theorem dX11_keep_33 : decode cX11_keep 33 = .ok (.bipush 99, 2) := by decide +kernel
theorem dX11_keep_35 : decode cX11_keep 35 = .ok (.if_icmp .gt 21, 3) := by decide +kernel
theorem dX11_keep_38 : decode cX11_keep 38 = .ok (.aload_n 0, 1) := by decide +kernel
theorem dX11_keep_39 : decode cX11_keep 39 = .ok (.iload_n 3, 1) := by decide +kernel
theorem dX11_keep_40 : decode cX11_keep 40 = .ok (.iload_n 2, 1) := by decide +kernel
theorem dX11_keep_41 : decode cX11_keep 41 = .ok (.iload_n 1, 1) := by decide +kernel
theorem dX11_keep_42 : decode cX11_keep 42 = .ok (.invokevirtual 228, 3) := by decide +kernel
theorem dX11_keep_45 : decode cX11_keep 45 = .ok (.ifCond .eq 5, 3) := by decide +kernel
theorem dX11_keep_48 : decode cX11_keep 48 = .ok (.iload_n 3, 1) := by decide +kernel
theorem dX11_keep_49 : decode cX11_keep 49 = .ok (.ireturn, 1) := by decide +kernel
theorem dX11_keep_50 : decode cX11_keep 50 = .ok (.iinc 3 1, 3) := by decide +kernel
theorem dX11_keep_53 : decode cX11_keep 53 = .ok (.goto (-21), 3) := by decide +kernel
theorem dX11_keep_56 : decode cX11_keep 56 = .ok (.iconst (-1), 1) := by decide +kernel
theorem dX11_keep_57 : decode cX11_keep 57 = .ok (.ireturn, 1) := by decide +kernel
theorem dX11_lasts_0 : decode cX11_lasts 0 = .ok (.aload_n 0, 1) := by decide +kernel
theorem dX11_lasts_1 : decode cX11_lasts 1 = .ok (.getfield 80, 3) := by decide +kernel
theorem dX11_lasts_4 : decode cX11_lasts 4 = .ok (.iload_n 1, 1) := by decide +kernel
theorem dX11_lasts_5 : decode cX11_lasts 5 = .ok (.iload_n 2, 1) := by decide +kernel
theorem dX11_lasts_6 : decode cX11_lasts 6 = .ok (.invokevirtual 130, 3) := by decide +kernel
theorem dX11_lasts_9 : decode cX11_lasts 9 = .ok (.ifCond .ne 8, 3) := by decide +kernel
theorem dX11_lasts_12 : decode cX11_lasts 12 = .ok (.aload_n 0, 1) := by decide +kernel
theorem dX11_lasts_13 : decode cX11_lasts 13 = .ok (.invokevirtual 95, 3) := by decide +kernel
theorem dX11_lasts_16 : decode cX11_lasts 16 = .ok (.ireturn, 1) := by decide +kernel
theorem dX11_lasts_17 : decode cX11_lasts 17 = .ok (.aload_n 0, 1) := by decide +kernel
theorem dX11_lasts_18 : decode cX11_lasts 18 = .ok (.iload_n 1, 1) := by decide +kernel
theorem dX11_lasts_19 : decode cX11_lasts 19 = .ok (.iload_n 2, 1) := by decide +kernel
theorem dX11_lasts_20 : decode cX11_lasts 20 = .ok (.invokevirtual 231, 3) := by decide +kernel
theorem dX11_lasts_23 : decode cX11_lasts 23 = .ok (.ireturn, 1) := by decide +kernel
theorem dX11_pairs_0 : decode cX11_pairs 0 = .ok (.iload_n 1, 1) := by decide +kernel
theorem dX11_pairs_1 : decode cX11_pairs 1 = .ok (.iconst 0, 1) := by decide +kernel
theorem dX11_pairs_2 : decode cX11_pairs 2 = .ok (.iconst 1, 1) := by decide +kernel
theorem dX11_pairs_3 : decode cX11_pairs 3 = .ok (.invokestatic 91, 3) := by decide +kernel
theorem dX11_pairs_6 : decode cX11_pairs 6 = .ok (.ifCond .eq 8, 3) := by decide +kernel
theorem dX11_pairs_9 : decode cX11_pairs 9 = .ok (.aload_n 0, 1) := by decide +kernel
theorem dX11_pairs_10 : decode cX11_pairs 10 = .ok (.invokevirtual 95, 3) := by decide +kernel
theorem dX11_pairs_13 : decode cX11_pairs 13 = .ok (.ireturn, 1) := by decide +kernel
theorem dX11_pairs_14 : decode cX11_pairs 14 = .ok (.iload_n 1, 1) := by decide +kernel
theorem dX11_pairs_15 : decode cX11_pairs 15 = .ok (.ifCond .ne 10, 3) := by decide +kernel
theorem dX11_pairs_18 : decode cX11_pairs 18 = .ok (.aload_n 0, 1) := by decide +kernel
theorem dX11_pairs_19 : decode cX11_pairs 19 = .ok (.invokevirtual 235, 3) := by decide +kernel
theorem dX11_pairs_22 : decode cX11_pairs 22 = .ok (.goto 7, 3) := by decide +kernel
theorem dX11_pairs_25 : decode cX11_pairs 25 = .ok (.aload_n 0, 1) := by decide +kernel
theorem dX11_pairs_26 : decode cX11_pairs 26 = .ok (.invokevirtual 238, 3) := by decide +kernel
theorem dX11_pairs_29 : decode cX11_pairs 29 = .ok (.ireturn, 1) := by decide +kernel
theorem dX11_note_0 : decode cX11_note 0 = .ok (.aload_n 0, 1) := by decide +kernel
theorem dX11_note_1 : decode cX11_note 1 = .ok (.getfield 80, 3) := by decide +kernel
theorem dX11_note_4 : decode cX11_note 4 = .ok (.iload_n 1, 1) := by decide +kernel
theorem dX11_note_5 : decode cX11_note 5 = .ok (.invokevirtual 180, 3) := by decide +kernel
theorem dX11_note_8 : decode cX11_note 8 = .ok (.ifCond .eq 23, 3) := by decide +kernel
theorem dX11_note_11 : decode cX11_note 11 = .ok (.iload_n 2, 1) := by decide +kernel
theorem dX11_note_12 : decode cX11_note 12 = .ok (.iconst 0, 1) := by decide +kernel
theorem dX11_note_13 : decode cX11_note 13 = .ok (.bipush 7, 2) := by decide +kernel
theorem dX11_note_15 : decode cX11_note 15 = .ok (.invokestatic 91, 3) := by decide +kernel
theorem dX11_note_18 : decode cX11_note 18 = .ok (.ifCond .ne 13, 3) := by decide +kernel
theorem dX11_note_21 : decode cX11_note 21 = .ok (.iload_n 3, 1) := by decide +kernel
theorem dX11_note_22 : decode cX11_note 22 = .ok (.iconst 0, 1) := by decide +kernel
theorem dX11_note_23 : decode cX11_note 23 = .ok (.bipush 99, 2) := by decide +kernel
theorem dX11_note_25 : decode cX11_note 25 = .ok (.invokestatic 91, 3) := by decide +kernel
theorem dX11_note_28 : decode cX11_note 28 = .ok (.ifCond .eq 8, 3) := by decide +kernel
theorem dX11_note_31 : decode cX11_note 31 = .ok (.aload_n 0, 1) := by decide +kernel
theorem dX11_note_32 : decode cX11_note 32 = .ok (.invokevirtual 95, 3) := by decide +kernel
theorem dX11_note_35 : decode cX11_note 35 = .ok (.ireturn, 1) := by decide +kernel
theorem dX11_note_36 : decode cX11_note 36 = .ok (.iload 4, 2) := by decide +kernel
theorem dX11_note_38 : decode cX11_note 38 = .ok (.iconst 0, 1) := by decide +kernel
theorem dX11_note_39 : decode cX11_note 39 = .ok (.bipush 99, 2) := by decide +kernel
theorem dX11_note_41 : decode cX11_note 41 = .ok (.invokestatic 91, 3) := by decide +kernel
theorem dX11_note_44 : decode cX11_note 44 = .ok (.ifCond .ne 13, 3) := by decide +kernel
theorem dX11_note_47 : decode cX11_note 47 = .ok (.iload 5, 2) := by decide +kernel
theorem dX11_note_49 : decode cX11_note 49 = .ok (.iconst 0, 1) := by decide +kernel
theorem dX11_note_50 : decode cX11_note 50 = .ok (.iconst 1, 1) := by decide +kernel
theorem dX11_note_51 : decode cX11_note 51 = .ok (.invokestatic 91, 3) := by decide +kernel
theorem dX11_note_54 : decode cX11_note 54 = .ok (.ifCond .eq 8, 3) := by decide +kernel
theorem dX11_note_57 : decode cX11_note 57 = .ok (.aload_n 0, 1) := by decide +kernel
theorem dX11_note_58 : decode cX11_note 58 = .ok (.invokevirtual 95, 3) := by decide +kernel
theorem dX11_note_61 : decode cX11_note 61 = .ok (.ireturn, 1) := by decide +kernel
theorem dX11_note_62 : decode cX11_note 62 = .ok (.aload_n 0, 1) := by decide +kernel
theorem dX11_note_63 : decode cX11_note 63 = .ok (.getfield 80, 3) := by decide +kernel
theorem dX11_note_66 : decode cX11_note 66 = .ok (.getfield 241, 3) := by decide +kernel
theorem dX11_note_69 : decode cX11_note 69 = .ok (.bipush 6, 2) := by decide +kernel
theorem dX11_note_71 : decode cX11_note 71 = .ok (.if_icmp .lt 8, 3) := by decide +kernel
theorem dX11_note_74 : decode cX11_note 74 = .ok (.aload_n 0, 1) := by decide +kernel
theorem dX11_note_75 : decode cX11_note 75 = .ok (.invokevirtual 106, 3) := by decide +kernel
theorem dX11_note_78 : decode cX11_note 78 = .ok (.ireturn, 1) := by decide +kernel
theorem dX11_note_79 : decode cX11_note 79 = .ok (.aload_n 0, 1) := by decide +kernel
theorem dX11_note_80 : decode cX11_note 80 = .ok (.getfield 80, 3) := by decide +kernel
theorem dX11_note_83 : decode cX11_note 83 = .ok (.getfield 244, 3) := by decide +kernel
theorem dX11_note_86 : decode cX11_note 86 = .ok (.aload_n 0, 1) := by decide +kernel
theorem dX11_note_87 : decode cX11_note 87 = .ok (.getfield 80, 3) := by decide +kernel
theorem dX11_note_90 : decode cX11_note 90 = .ok (.getfield 241, 3) := by decide +kernel
theorem dX11_note_93 : decode cX11_note 93 = .ok (.aaload, 1) := by decide +kernel
theorem dX11_note_94 : decode cX11_note 94 = .ok (.iload_n 1, 1) := by decide +kernel
theorem dX11_note_95 : decode cX11_note 95 = .ok (.iload_n 2, 1) := by decide +kernel
theorem dX11_note_96 : decode cX11_note 96 = .ok (.iload_n 3, 1) := by decide +kernel
theorem dX11_note_97 : decode cX11_note 97 = .ok (.iload 4, 2) := by decide +kernel
theorem dX11_note_99 : decode cX11_note 99 = .ok (.iload 5, 2) := by decide +kernel
theorem dX11_note_101 : decode cX11_note 101 = .ok (.invokevirtual 248, 3) := by decide +kernel
theorem dX11_note_104 : decode cX11_note 104 = .ok (.aload_n 0, 1) := by decide +kernel
theorem dX11_note_105 : decode cX11_note 105 = .ok (.getfield 80, 3) := by decide +kernel
theorem dX11_note_108 : decode cX11_note 108 = .ok (.dup, 1) := by decide +kernel
theorem dX11_note_109 : decode cX11_note 109 = .ok (.getfield 241, 3) := by decide +kernel
theorem dX11_note_112 : decode cX11_note 112 = .ok (.iconst 1, 1) := by decide +kernel
theorem dX11_note_113 : decode cX11_note 113 = .ok (.iadd, 1) := by decide +kernel
theorem dX11_note_114 : decode cX11_note 114 = .ok (.putfield 241, 3) := by decide +kernel
theorem dX11_note_117 : decode cX11_note 117 = .ok (.aload_n 0, 1) := by decide +kernel
theorem dX11_note_118 : decode cX11_note 118 = .ok (.getfield 80, 3) := by decide +kernel
theorem dX11_note_121 : decode cX11_note 121 = .ok (.getfield 241, 3) := by decide +kernel
theorem dX11_note_124 : decode cX11_note 124 = .ok (.ireturn, 1) := by decide +kernel
theorem dX11_forget_0 : decode cX11_forget 0 = .ok (.aload_n 0, 1) := by decide +kernel
theorem dX11_forget_1 : decode cX11_forget 1 = .ok (.getfield 80, 3) := by decide +kernel
theorem dX11_forget_4 : decode cX11_forget 4 = .ok (.getfield 241, 3) := by decide +kernel
theorem dX11_forget_7 : decode cX11_forget 7 = .ok (.istore_n 1, 1) := by decide +kernel
theorem dX11_forget_8 : decode cX11_forget 8 = .ok (.aload_n 0, 1) := by decide +kernel
theorem dX11_forget_9 : decode cX11_forget 9 = .ok (.getfield 80, 3) := by decide +kernel
theorem dX11_forget_12 : decode cX11_forget 12 = .ok (.iconst 0, 1) := by decide +kernel
theorem dX11_forget_13 : decode cX11_forget 13 = .ok (.putfield 241, 3) := by decide +kernel
theorem dX11_forget_16 : decode cX11_forget 16 = .ok (.iload_n 1, 1) := by decide +kernel
theorem dX11_forget_17 : decode cX11_forget 17 = .ok (.ireturn, 1) := by decide +kernel
theorem dX11_is_0 : decode cX11_is 0 = .ok (.aload_n 0, 1) := by decide +kernel
theorem dX11_is_1 : decode cX11_is 1 = .ok (.getfield 80, 3) := by decide +kernel
theorem dX11_is_4 : decode cX11_is 4 = .ok (.iload_n 1, 1) := by decide +kernel
theorem dX11_is_5 : decode cX11_is 5 = .ok (.invokevirtual 180, 3) := by decide +kernel
theorem dX11_is_8 : decode cX11_is 8 = .ok (.ifCond .ne 8, 3) := by decide +kernel
theorem dX11_is_11 : decode cX11_is 11 = .ok (.aload_n 0, 1) := by decide +kernel
theorem dX11_is_12 : decode cX11_is 12 = .ok (.invokevirtual 95, 3) := by decide +kernel
theorem dX11_is_15 : decode cX11_is 15 = .ok (.ireturn, 1) := by decide +kernel
theorem dX11_is_16 : decode cX11_is 16 = .ok (.aload_n 0, 1) := by decide +kernel
theorem dX11_is_17 : decode cX11_is 17 = .ok (.iload_n 1, 1) := by decide +kernel
theorem dX11_is_18 : decode cX11_is 18 = .ok (.invokevirtual 254, 3) := by decide +kernel
theorem dX11_is_21 : decode cX11_is 21 = .ok (.ireturn, 1) := by decide +kernel
theorem dX11_heart_0 : decode cX11_heart 0 = .ok (.aload_n 0, 1) := by decide +kernel
theorem dX11_heart_1 : decode cX11_heart 1 = .ok (.getfield 80, 3) := by decide +kernel
theorem dX11_heart_4 : decode cX11_heart 4 = .ok (.iload_n 1, 1) := by decide +kernel
theorem dX11_heart_5 : decode cX11_heart 5 = .ok (.invokevirtual 180, 3) := by decide +kernel
theorem dX11_heart_8 : decode cX11_heart 8 = .ok (.ifCond .eq 13, 3) := by decide +kernel
theorem dX11_heart_11 : decode cX11_heart 11 = .ok (.iload_n 2, 1) := by decide +kernel
theorem dX11_heart_12 : decode cX11_heart 12 = .ok (.iconst 0, 1) := by decide +kernel
theorem dX11_heart_13 : decode cX11_heart 13 = .ok (.bipush 7, 2) := by decide +kernel
theorem dX11_heart_15 : decode cX11_heart 15 = .ok (.invokestatic 91, 3) := by decide +kernel
theorem dX11_heart_18 : decode cX11_heart 18 = .ok (.ifCond .eq 8, 3) := by decide +kernel
theorem dX11_heart_21 : decode cX11_heart 21 = .ok (.aload_n 0, 1) := by decide +kernel
theorem dX11_heart_22 : decode cX11_heart 22 = .ok (.invokevirtual 95, 3) := by decide +kernel
theorem dX11_heart_25 : decode cX11_heart 25 = .ok (.ireturn, 1) := by decide +kernel
theorem dX11_heart_26 : decode cX11_heart 26 = .ok (.aload_n 0, 1) := by decide +kernel
theorem dX11_heart_27 : decode cX11_heart 27 = .ok (.getfield 80, 3) := by decide +kernel
theorem dX11_heart_30 : decode cX11_heart 30 = .ok (.getfield 183, 3) := by decide +kernel
theorem dX11_heart_33 : decode cX11_heart 33 = .ok (.iload_n 1, 1) := by decide +kernel
theorem dX11_heart_34 : decode cX11_heart 34 = .ok (.aaload, 1) := by decide +kernel
theorem dX11_heart_35 : decode cX11_heart 35 = .ok (.astore_n 3, 1) := by decide +kernel
theorem dX11_heart_36 : decode cX11_heart 36 = .ok (.aload_n 3, 1) := by decide +kernel
theorem dX11_heart_37 : decode cX11_heart 37 = .ok (.getfield 192, 3) := by decide +kernel
theorem dX11_heart_40 : decode cX11_heart 40 = .ok (.istore 4, 2) := by decide +kernel
theorem dX11_heart_42 : decode cX11_heart 42 = .ok (.aload_n 3, 1) := by decide +kernel
theorem dX11_heart_43 : decode cX11_heart 43 = .ok (.getfield 195, 3) := by decide +kernel
theorem dX11_heart_46 : decode cX11_heart 46 = .ok (.istore 5, 2) := by decide +kernel
theorem dX11_heart_48 : decode cX11_heart 48 = .ok (.iconst 1, 1) := by decide +kernel
theorem dX11_heart_49 : decode cX11_heart 49 = .ok (.iload_n 2, 1) := by decide +kernel
theorem dX11_heart_50 : decode cX11_heart 50 = .ok (.ishl, 1) := by decide +kernel
theorem dX11_heart_51 : decode cX11_heart 51 = .ok (.istore 6, 2) := by decide +kernel
theorem dX11_heart_53 : decode cX11_heart 53 = .ok (.iconst 0, 1) := by decide +kernel
theorem dX11_heart_54 : decode cX11_heart 54 = .ok (.istore 7, 2) := by decide +kernel
theorem dX11_heart_56 : decode cX11_heart 56 = .ok (.aload_n 3, 1) := by decide +kernel
theorem dX11_heart_57 : decode cX11_heart 57 = .ok (.iload 4, 2) := by decide +kernel
theorem dX11_heart_59 : decode cX11_heart 59 = .ok (.iload 6, 2) := by decide +kernel
theorem dX11_heart_61 : decode cX11_heart 61 = .ok (.ior, 1) := by decide +kernel
theorem dX11_heart_62 : decode cX11_heart 62 = .ok (.iload 5, 2) := by decide +kernel
theorem dX11_heart_64 : decode cX11_heart 64 = .ok (.iload 6, 2) := by decide +kernel
theorem dX11_heart_66 : decode cX11_heart 66 = .ok (.iconst (-1), 1) := by decide +kernel
theorem dX11_heart_67 : decode cX11_heart 67 = .ok (.ixor, 1) := by decide +kernel
theorem dX11_heart_68 : decode cX11_heart 68 = .ok (.iand, 1) := by decide +kernel
theorem dX11_heart_69 : decode cX11_heart 69 = .ok (.invokevirtual 257, 3) := by decide +kernel
theorem dX11_heart_72 : decode cX11_heart 72 = .ok (.aload_n 0, 1) := by decide +kernel
theorem dX11_heart_73 : decode cX11_heart 73 = .ok (.getfield 80, 3) := by decide +kernel
theorem dX11_heart_76 : decode cX11_heart 76 = .ok (.iload_n 1, 1) := by decide +kernel
theorem dX11_heart_77 : decode cX11_heart 77 = .ok (.aload_n 3, 1) := by decide +kernel
theorem dX11_heart_78 : decode cX11_heart 78 = .ok (.getfield 187, 3) := by decide +kernel
theorem dX11_heart_81 : decode cX11_heart 81 = .ok (.invokevirtual 261, 3) := by decide +kernel
theorem dX11_heart_84 : decode cX11_heart 84 = .ok (.ifCond .eq 9, 3) := by decide +kernel
theorem dX11_heart_87 : decode cX11_heart 87 = .ok (.iload 7, 2) := by decide +kernel
theorem dX11_heart_89 : decode cX11_heart 89 = .ok (.iconst 1, 1) := by decide +kernel
theorem dX11_heart_90 : decode cX11_heart 90 = .ok (.ior, 1) := by decide +kernel
theorem dX11_heart_91 : decode cX11_heart 91 = .ok (.istore 7, 2) := by decide +kernel
theorem dX11_heart_93 : decode cX11_heart 93 = .ok (.aload_n 3, 1) := by decide +kernel
theorem dX11_heart_94 : decode cX11_heart 94 = .ok (.iload 4, 2) := by decide +kernel
theorem dX11_heart_96 : decode cX11_heart 96 = .ok (.iload 6, 2) := by decide +kernel
theorem dX11_heart_98 : decode cX11_heart 98 = .ok (.iconst (-1), 1) := by decide +kernel
theorem dX11_heart_99 : decode cX11_heart 99 = .ok (.ixor, 1) := by decide +kernel
theorem dX11_heart_100 : decode cX11_heart 100 = .ok (.iand, 1) := by decide +kernel
theorem dX11_heart_101 : decode cX11_heart 101 = .ok (.iload 5, 2) := by decide +kernel
theorem dX11_heart_103 : decode cX11_heart 103 = .ok (.iload 6, 2) := by decide +kernel
theorem dX11_heart_105 : decode cX11_heart 105 = .ok (.ior, 1) := by decide +kernel
theorem dX11_heart_106 : decode cX11_heart 106 = .ok (.invokevirtual 257, 3) := by decide +kernel
theorem dX11_heart_109 : decode cX11_heart 109 = .ok (.aload_n 0, 1) := by decide +kernel
theorem dX11_heart_110 : decode cX11_heart 110 = .ok (.getfield 80, 3) := by decide +kernel
theorem dX11_heart_113 : decode cX11_heart 113 = .ok (.iload_n 1, 1) := by decide +kernel
theorem dX11_heart_114 : decode cX11_heart 114 = .ok (.aload_n 3, 1) := by decide +kernel
theorem dX11_heart_115 : decode cX11_heart 115 = .ok (.getfield 187, 3) := by decide +kernel
theorem dX11_heart_118 : decode cX11_heart 118 = .ok (.invokevirtual 261, 3) := by decide +kernel
theorem dX11_heart_121 : decode cX11_heart 121 = .ok (.ifCond .eq 9, 3) := by decide +kernel
theorem dX11_heart_124 : decode cX11_heart 124 = .ok (.iload 7, 2) := by decide +kernel
theorem dX11_heart_126 : decode cX11_heart 126 = .ok (.iconst 2, 1) := by decide +kernel
theorem dX11_heart_127 : decode cX11_heart 127 = .ok (.ior, 1) := by decide +kernel
theorem dX11_heart_128 : decode cX11_heart 128 = .ok (.istore 7, 2) := by decide +kernel
theorem dX11_heart_130 : decode cX11_heart 130 = .ok (.aload_n 3, 1) := by decide +kernel
theorem dX11_heart_131 : decode cX11_heart 131 = .ok (.iload 4, 2) := by decide +kernel
theorem dX11_heart_133 : decode cX11_heart 133 = .ok (.iload 6, 2) := by decide +kernel
theorem dX11_heart_135 : decode cX11_heart 135 = .ok (.iconst (-1), 1) := by decide +kernel
theorem dX11_heart_136 : decode cX11_heart 136 = .ok (.ixor, 1) := by decide +kernel
theorem dX11_heart_137 : decode cX11_heart 137 = .ok (.iand, 1) := by decide +kernel
theorem dX11_heart_138 : decode cX11_heart 138 = .ok (.iload 5, 2) := by decide +kernel
theorem dX11_heart_140 : decode cX11_heart 140 = .ok (.iload 6, 2) := by decide +kernel
theorem dX11_heart_142 : decode cX11_heart 142 = .ok (.iconst (-1), 1) := by decide +kernel
theorem dX11_heart_143 : decode cX11_heart 143 = .ok (.ixor, 1) := by decide +kernel
theorem dX11_heart_144 : decode cX11_heart 144 = .ok (.iand, 1) := by decide +kernel
theorem dX11_heart_145 : decode cX11_heart 145 = .ok (.invokevirtual 257, 3) := by decide +kernel
theorem dX11_heart_148 : decode cX11_heart 148 = .ok (.aload_n 0, 1) := by decide +kernel
theorem dX11_heart_149 : decode cX11_heart 149 = .ok (.getfield 80, 3) := by decide +kernel
theorem dX11_heart_152 : decode cX11_heart 152 = .ok (.iload_n 1, 1) := by decide +kernel
theorem dX11_heart_153 : decode cX11_heart 153 = .ok (.aload_n 3, 1) := by decide +kernel
theorem dX11_heart_154 : decode cX11_heart 154 = .ok (.getfield 187, 3) := by decide +kernel
theorem dX11_heart_157 : decode cX11_heart 157 = .ok (.invokevirtual 261, 3) := by decide +kernel
theorem dX11_heart_160 : decode cX11_heart 160 = .ok (.ifCond .eq 9, 3) := by decide +kernel
theorem dX11_heart_163 : decode cX11_heart 163 = .ok (.iload 7, 2) := by decide +kernel
theorem dX11_heart_165 : decode cX11_heart 165 = .ok (.iconst 4, 1) := by decide +kernel
theorem dX11_heart_166 : decode cX11_heart 166 = .ok (.ior, 1) := by decide +kernel
theorem dX11_heart_167 : decode cX11_heart 167 = .ok (.istore 7, 2) := by decide +kernel
theorem dX11_heart_169 : decode cX11_heart 169 = .ok (.aload_n 3, 1) := by decide +kernel
theorem dX11_heart_170 : decode cX11_heart 170 = .ok (.iload 4, 2) := by decide +kernel
theorem dX11_heart_172 : decode cX11_heart 172 = .ok (.iload 5, 2) := by decide +kernel
theorem dX11_heart_174 : decode cX11_heart 174 = .ok (.invokevirtual 257, 3) := by decide +kernel
theorem dX11_heart_177 : decode cX11_heart 177 = .ok (.iload 7, 2) := by decide +kernel
theorem dX11_heart_179 : decode cX11_heart 179 = .ok (.ireturn, 1) := by decide +kernel
theorem dX11_next_0 : decode cX11_next 0 = .ok (.aload_n 0, 1) := by decide +kernel
theorem dX11_next_1 : decode cX11_next 1 = .ok (.getfield 80, 3) := by decide +kernel
theorem dX11_next_4 : decode cX11_next 4 = .ok (.iload_n 1, 1) := by decide +kernel
theorem dX11_next_5 : decode cX11_next 5 = .ok (.invokevirtual 180, 3) := by decide +kernel
theorem dX11_next_8 : decode cX11_next 8 = .ok (.ifCond .ne 8, 3) := by decide +kernel
theorem dX11_next_11 : decode cX11_next 11 = .ok (.aload_n 0, 1) := by decide +kernel
theorem dX11_next_12 : decode cX11_next 12 = .ok (.invokevirtual 95, 3) := by decide +kernel
theorem dX11_next_15 : decode cX11_next 15 = .ok (.ireturn, 1) := by decide +kernel
theorem dX11_next_16 : decode cX11_next 16 = .ok (.aload_n 0, 1) := by decide +kernel
theorem dX11_next_17 : decode cX11_next 17 = .ok (.iload_n 1, 1) := by decide +kernel
theorem dX11_next_18 : decode cX11_next 18 = .ok (.invokevirtual 254, 3) := by decide +kernel
theorem dX11_next_21 : decode cX11_next 21 = .ok (.istore_n 2, 1) := by decide +kernel
theorem dX11_next_22 : decode cX11_next 22 = .ok (.iload_n 2, 1) := by decide +kernel
theorem dX11_next_23 : decode cX11_next 23 = .ok (.ifCond .ne 5, 3) := by decide +kernel
theorem dX11_next_26 : decode cX11_next 26 = .ok (.iconst (-1), 1) := by decide +kernel
theorem dX11_next_27 : decode cX11_next 27 = .ok (.ireturn, 1) := by decide +kernel
theorem dX11_next_28 : decode cX11_next 28 = .ok (.iload_n 2, 1) := by decide +kernel
theorem dX11_next_29 : decode cX11_next 29 = .ok (.invokestatic 264, 3) := by decide +kernel
theorem dX11_next_32 : decode cX11_next 32 = .ok (.istore_n 3, 1) := by decide +kernel
theorem dX11_next_33 : decode cX11_next 33 = .ok (.iconst (-1), 1) := by decide +kernel
theorem dX11_next_34 : decode cX11_next 34 = .ok (.istore 4, 2) := by decide +kernel
theorem dX11_next_36 : decode cX11_next 36 = .ok (.bipush 7, 2) := by decide +kernel
theorem dX11_next_38 : decode cX11_next 38 = .ok (.istore 5, 2) := by decide +kernel
theorem dX11_next_40 : decode cX11_next 40 = .ok (.iconst 0, 1) := by decide +kernel
theorem dX11_next_41 : decode cX11_next 41 = .ok (.istore 6, 2) := by decide +kernel
theorem dX11_next_43 : decode cX11_next 43 = .ok (.iload 6, 2) := by decide +kernel
theorem dX11_next_45 : decode cX11_next 45 = .ok (.bipush 8, 2) := by decide +kernel
theorem dX11_next_47 : decode cX11_next 47 = .ok (.if_icmp .ge 52, 3) := by decide +kernel
theorem dX11_next_50 : decode cX11_next 50 = .ok (.iload_n 2, 1) := by decide +kernel
theorem dX11_next_51 : decode cX11_next 51 = .ok (.aload_n 0, 1) := by decide +kernel
theorem dX11_next_52 : decode cX11_next 52 = .ok (.getfield 80, 3) := by decide +kernel
theorem dX11_next_55 : decode cX11_next 55 = .ok (.iload_n 1, 1) := by decide +kernel
theorem dX11_next_56 : decode cX11_next 56 = .ok (.iload 6, 2) := by decide +kernel
theorem dX11_next_58 : decode cX11_next 58 = .ok (.invokevirtual 269, 3) := by decide +kernel
theorem dX11_next_61 : decode cX11_next 61 = .ok (.iand, 1) := by decide +kernel
theorem dX11_next_62 : decode cX11_next 62 = .ok (.invokestatic 264, 3) := by decide +kernel
theorem dX11_next_65 : decode cX11_next 65 = .ok (.istore 7, 2) := by decide +kernel
theorem dX11_next_67 : decode cX11_next 67 = .ok (.iload 7, 2) := by decide +kernel
theorem dX11_next_69 : decode cX11_next 69 = .ok (.iload_n 3, 1) := by decide +kernel
theorem dX11_next_70 : decode cX11_next 70 = .ok (.iload 7, 2) := by decide +kernel
theorem dX11_next_72 : decode cX11_next 72 = .ok (.isub, 1) := by decide +kernel
theorem dX11_next_73 : decode cX11_next 73 = .ok (.invokestatic 272, 3) := by decide +kernel
theorem dX11_next_76 : decode cX11_next 76 = .ok (.istore 8, 2) := by decide +kernel
theorem dX11_next_78 : decode cX11_next 78 = .ok (.iload 8, 2) := by decide +kernel
theorem dX11_next_80 : decode cX11_next 80 = .ok (.iload 5, 2) := by decide +kernel
theorem dX11_next_82 : decode cX11_next 82 = .ok (.if_icmp .ge 11, 3) := by decide +kernel
theorem dX11_next_85 : decode cX11_next 85 = .ok (.iload 8, 2) := by decide +kernel
theorem dX11_next_87 : decode cX11_next 87 = .ok (.istore 5, 2) := by decide +kernel
theorem dX11_next_89 : decode cX11_next 89 = .ok (.iload 6, 2) := by decide +kernel
theorem dX11_next_91 : decode cX11_next 91 = .ok (.istore 4, 2) := by decide +kernel
theorem dX11_next_93 : decode cX11_next 93 = .ok (.iinc 6 1, 3) := by decide +kernel
theorem dX11_next_96 : decode cX11_next 96 = .ok (.goto (-53), 3) := by decide +kernel
theorem dX11_next_99 : decode cX11_next 99 = .ok (.iload 4, 2) := by decide +kernel
theorem dX11_next_101 : decode cX11_next 101 = .ok (.ireturn, 1) := by decide +kernel
theorem dX11_spite_0 : decode cX11_spite 0 = .ok (.iload_n 1, 1) := by decide +kernel
theorem dX11_spite_1 : decode cX11_spite 1 = .ok (.iconst 0, 1) := by decide +kernel
theorem dX11_spite_2 : decode cX11_spite 2 = .ok (.bipush 7, 2) := by decide +kernel
theorem dX11_spite_4 : decode cX11_spite 4 = .ok (.invokestatic 91, 3) := by decide +kernel
theorem dX11_spite_7 : decode cX11_spite 7 = .ok (.ifCond .eq 8, 3) := by decide +kernel
theorem dX11_spite_10 : decode cX11_spite 10 = .ok (.aload_n 0, 1) := by decide +kernel
theorem dX11_spite_11 : decode cX11_spite 11 = .ok (.invokevirtual 95, 3) := by decide +kernel
theorem dX11_spite_14 : decode cX11_spite 14 = .ok (.ireturn, 1) := by decide +kernel
theorem dX11_spite_15 : decode cX11_spite 15 = .ok (.aload_n 0, 1) := by decide +kernel
theorem dX11_spite_16 : decode cX11_spite 16 = .ok (.getfield 80, 3) := by decide +kernel
theorem dX11_spite_19 : decode cX11_spite 19 = .ok (.getfield 137, 3) := by decide +kernel
theorem dX11_spite_22 : decode cX11_spite 22 = .ok (.invokevirtual 146, 3) := by decide +kernel
theorem dX11_spite_25 : decode cX11_spite 25 = .ok (.ifCond .ne 8, 3) := by decide +kernel
theorem dX11_spite_28 : decode cX11_spite 28 = .ok (.aload_n 0, 1) := by decide +kernel
theorem dX11_spite_29 : decode cX11_spite 29 = .ok (.invokevirtual 154, 3) := by decide +kernel
theorem dX11_spite_32 : decode cX11_spite 32 = .ok (.ireturn, 1) := by decide +kernel
theorem dX11_spite_33 : decode cX11_spite 33 = .ok (.aload_n 0, 1) := by decide +kernel
theorem dX11_spite_34 : decode cX11_spite 34 = .ok (.getfield 80, 3) := by decide +kernel
theorem dX11_spite_37 : decode cX11_spite 37 = .ok (.getfield 183, 3) := by decide +kernel
theorem dX11_spite_40 : decode cX11_spite 40 = .ok (.aload_n 0, 1) := by decide +kernel
theorem dX11_spite_41 : decode cX11_spite 41 = .ok (.getfield 80, 3) := by decide +kernel
theorem dX11_spite_44 : decode cX11_spite 44 = .ok (.getfield 137, 3) := by decide +kernel
theorem dX11_spite_47 : decode cX11_spite 47 = .ok (.getfield 140, 3) := by decide +kernel
theorem dX11_spite_50 : decode cX11_spite 50 = .ok (.aaload, 1) := by decide +kernel
theorem dX11_spite_51 : decode cX11_spite 51 = .ok (.astore_n 2, 1) := by decide +kernel
theorem dX11_spite_52 : decode cX11_spite 52 = .ok (.aload_n 0, 1) := by decide +kernel
theorem dX11_spite_53 : decode cX11_spite 53 = .ok (.getfield 80, 3) := by decide +kernel
theorem dX11_spite_56 : decode cX11_spite 56 = .ok (.getfield 183, 3) := by decide +kernel
theorem dX11_spite_59 : decode cX11_spite 59 = .ok (.aload_n 0, 1) := by decide +kernel
theorem dX11_spite_60 : decode cX11_spite 60 = .ok (.getfield 80, 3) := by decide +kernel
theorem dX11_spite_63 : decode cX11_spite 63 = .ok (.getfield 137, 3) := by decide +kernel
theorem dX11_spite_66 : decode cX11_spite 66 = .ok (.getfield 143, 3) := by decide +kernel
theorem dX11_spite_69 : decode cX11_spite 69 = .ok (.aaload, 1) := by decide +kernel
theorem dX11_spite_70 : decode cX11_spite 70 = .ok (.astore_n 3, 1) := by decide +kernel
theorem dX11_spite_71 : decode cX11_spite 71 = .ok (.iconst 0, 1) := by decide +kernel
theorem dX11_spite_72 : decode cX11_spite 72 = .ok (.istore 4, 2) := by decide +kernel
theorem dX11_spite_74 : decode cX11_spite 74 = .ok (.iconst 0, 1) := by decide +kernel
theorem dX11_spite_75 : decode cX11_spite 75 = .ok (.istore 5, 2) := by decide +kernel
theorem dX11_spite_77 : decode cX11_spite 77 = .ok (.iload 5, 2) := by decide +kernel
theorem dX11_spite_79 : decode cX11_spite 79 = .ok (.iconst 3, 1) := by decide +kernel
theorem dX11_spite_80 : decode cX11_spite 80 = .ok (.if_icmp .gt 128, 3) := by decide +kernel
theorem dX11_spite_83 : decode cX11_spite 83 = .ok (.iload 5, 2) := by decide +kernel
theorem dX11_spite_85 : decode cX11_spite 85 = .ok (.iconst 1, 1) := by decide +kernel
theorem dX11_spite_86 : decode cX11_spite 86 = .ok (.iand, 1) := by decide +kernel
theorem dX11_spite_87 : decode cX11_spite 87 = .ok (.ifCond .eq 7, 3) := by decide +kernel
theorem dX11_spite_90 : decode cX11_spite 90 = .ok (.iconst 1, 1) := by decide +kernel
theorem dX11_spite_91 : decode cX11_spite 91 = .ok (.goto 4, 3) := by decide +kernel
theorem dX11_spite_94 : decode cX11_spite 94 = .ok (.iconst 0, 1) := by decide +kernel
theorem dX11_spite_95 : decode cX11_spite 95 = .ok (.istore 6, 2) := by decide +kernel
theorem dX11_spite_97 : decode cX11_spite 97 = .ok (.iload 5, 2) := by decide +kernel
theorem dX11_spite_99 : decode cX11_spite 99 = .ok (.iconst 2, 1) := by decide +kernel
theorem dX11_spite_100 : decode cX11_spite 100 = .ok (.iand, 1) := by decide +kernel
theorem dX11_spite_101 : decode cX11_spite 101 = .ok (.ifCond .eq 7, 3) := by decide +kernel
theorem dX11_spite_104 : decode cX11_spite 104 = .ok (.iconst 1, 1) := by decide +kernel
theorem dX11_spite_105 : decode cX11_spite 105 = .ok (.goto 4, 3) := by decide +kernel
theorem dX11_spite_108 : decode cX11_spite 108 = .ok (.iconst 0, 1) := by decide +kernel
theorem dX11_spite_109 : decode cX11_spite 109 = .ok (.istore 7, 2) := by decide +kernel
theorem dX11_spite_111 : decode cX11_spite 111 = .ok (.aload_n 2, 1) := by decide +kernel
theorem dX11_spite_112 : decode cX11_spite 112 = .ok (.iload_n 1, 1) := by decide +kernel
theorem dX11_spite_113 : decode cX11_spite 113 = .ok (.iload 6, 2) := by decide +kernel
theorem dX11_spite_115 : decode cX11_spite 115 = .ok (.iload 7, 2) := by decide +kernel
theorem dX11_spite_117 : decode cX11_spite 117 = .ok (.invokestatic 277, 3) := by decide +kernel
theorem dX11_spite_120 : decode cX11_spite 120 = .ok (.aload_n 2, 1) := by decide +kernel
theorem dX11_spite_121 : decode cX11_spite 121 = .ok (.iload_n 1, 1) := by decide +kernel
theorem dX11_spite_122 : decode cX11_spite 122 = .ok (.iload 6, 2) := by decide +kernel
theorem dX11_spite_124 : decode cX11_spite 124 = .ok (.ifCond .ne 7, 3) := by decide +kernel
theorem dX11_spite_127 : decode cX11_spite 127 = .ok (.iconst 1, 1) := by decide +kernel
theorem dX11_spite_128 : decode cX11_spite 128 = .ok (.goto 4, 3) := by decide +kernel
theorem dX11_spite_131 : decode cX11_spite 131 = .ok (.iconst 0, 1) := by decide +kernel
theorem dX11_spite_132 : decode cX11_spite 132 = .ok (.iload 7, 2) := by decide +kernel
theorem dX11_spite_134 : decode cX11_spite 134 = .ok (.invokestatic 277, 3) := by decide +kernel
theorem dX11_spite_137 : decode cX11_spite 137 = .ok (.if_icmp .lt 7, 3) := by decide +kernel
theorem dX11_spite_140 : decode cX11_spite 140 = .ok (.iconst 1, 1) := by decide +kernel
theorem dX11_spite_141 : decode cX11_spite 141 = .ok (.goto 4, 3) := by decide +kernel
theorem dX11_spite_144 : decode cX11_spite 144 = .ok (.iconst 0, 1) := by decide +kernel
theorem dX11_spite_145 : decode cX11_spite 145 = .ok (.istore 8, 2) := by decide +kernel
theorem dX11_spite_147 : decode cX11_spite 147 = .ok (.aload_n 3, 1) := by decide +kernel
theorem dX11_spite_148 : decode cX11_spite 148 = .ok (.iload_n 1, 1) := by decide +kernel
theorem dX11_spite_149 : decode cX11_spite 149 = .ok (.iload 7, 2) := by decide +kernel
theorem dX11_spite_151 : decode cX11_spite 151 = .ok (.iload 6, 2) := by decide +kernel
theorem dX11_spite_153 : decode cX11_spite 153 = .ok (.invokestatic 277, 3) := by decide +kernel
theorem dX11_spite_156 : decode cX11_spite 156 = .ok (.aload_n 3, 1) := by decide +kernel
theorem dX11_spite_157 : decode cX11_spite 157 = .ok (.iload_n 1, 1) := by decide +kernel
theorem dX11_spite_158 : decode cX11_spite 158 = .ok (.iload 7, 2) := by decide +kernel
theorem dX11_spite_160 : decode cX11_spite 160 = .ok (.ifCond .ne 7, 3) := by decide +kernel
theorem dX11_spite_163 : decode cX11_spite 163 = .ok (.iconst 1, 1) := by decide +kernel
theorem dX11_spite_164 : decode cX11_spite 164 = .ok (.goto 4, 3) := by decide +kernel
theorem dX11_spite_167 : decode cX11_spite 167 = .ok (.iconst 0, 1) := by decide +kernel
theorem dX11_spite_168 : decode cX11_spite 168 = .ok (.iload 6, 2) := by decide +kernel
theorem dX11_spite_170 : decode cX11_spite 170 = .ok (.invokestatic 277, 3) := by decide +kernel
theorem dX11_spite_173 : decode cX11_spite 173 = .ok (.if_icmp .lt 7, 3) := by decide +kernel
theorem dX11_spite_176 : decode cX11_spite 176 = .ok (.iconst 1, 1) := by decide +kernel
theorem dX11_spite_177 : decode cX11_spite 177 = .ok (.goto 4, 3) := by decide +kernel
theorem dX11_spite_180 : decode cX11_spite 180 = .ok (.iconst 0, 1) := by decide +kernel
theorem dX11_spite_181 : decode cX11_spite 181 = .ok (.istore 9, 2) := by decide +kernel
theorem dX11_spite_183 : decode cX11_spite 183 = .ok (.iload 8, 2) := by decide +kernel
theorem dX11_spite_185 : decode cX11_spite 185 = .ok (.ifCond .eq 17, 3) := by decide +kernel
theorem dX11_spite_188 : decode cX11_spite 188 = .ok (.iload 9, 2) := by decide +kernel
theorem dX11_spite_190 : decode cX11_spite 190 = .ok (.ifCond .eq 12, 3) := by decide +kernel
theorem dX11_spite_193 : decode cX11_spite 193 = .ok (.iload 4, 2) := by decide +kernel
theorem dX11_spite_195 : decode cX11_spite 195 = .ok (.iconst 1, 1) := by decide +kernel
theorem dX11_spite_196 : decode cX11_spite 196 = .ok (.iload 5, 2) := by decide +kernel
theorem dX11_spite_198 : decode cX11_spite 198 = .ok (.ishl, 1) := by decide +kernel
theorem dX11_spite_199 : decode cX11_spite 199 = .ok (.ior, 1) := by decide +kernel
theorem dX11_spite_200 : decode cX11_spite 200 = .ok (.istore 4, 2) := by decide +kernel
theorem dX11_spite_202 : decode cX11_spite 202 = .ok (.iinc 5 1, 3) := by decide +kernel
theorem dX11_spite_205 : decode cX11_spite 205 = .ok (.goto (-128), 3) := by decide +kernel
theorem dX11_spite_208 : decode cX11_spite 208 = .ok (.iload 4, 2) := by decide +kernel
theorem dX11_spite_210 : decode cX11_spite 210 = .ok (.ireturn, 1) := by decide +kernel
theorem dX11_slips_0 : decode cX11_slips 0 = .ok (.iload_n 1, 1) := by decide +kernel
theorem dX11_slips_1 : decode cX11_slips 1 = .ok (.iconst 0, 1) := by decide +kernel
theorem dX11_slips_2 : decode cX11_slips 2 = .ok (.bipush 7, 2) := by decide +kernel
theorem dX11_slips_4 : decode cX11_slips 4 = .ok (.invokestatic 91, 3) := by decide +kernel
theorem dX11_slips_7 : decode cX11_slips 7 = .ok (.ifCond .ne 13, 3) := by decide +kernel
theorem dX11_slips_10 : decode cX11_slips 10 = .ok (.iload_n 2, 1) := by decide +kernel
theorem dX11_slips_11 : decode cX11_slips 11 = .ok (.iconst 0, 1) := by decide +kernel
theorem dX11_slips_12 : decode cX11_slips 12 = .ok (.bipush 10, 2) := by decide +kernel
theorem dX11_slips_14 : decode cX11_slips 14 = .ok (.invokestatic 91, 3) := by decide +kernel
theorem dX11_slips_17 : decode cX11_slips 17 = .ok (.ifCond .eq 8, 3) := by decide +kernel
theorem dX11_slips_20 : decode cX11_slips 20 = .ok (.aload_n 0, 1) := by decide +kernel
theorem dX11_slips_21 : decode cX11_slips 21 = .ok (.invokevirtual 95, 3) := by decide +kernel
theorem dX11_slips_24 : decode cX11_slips 24 = .ok (.ireturn, 1) := by decide +kernel
theorem dX11_slips_25 : decode cX11_slips 25 = .ok (.aload_n 0, 1) := by decide +kernel
theorem dX11_slips_26 : decode cX11_slips 26 = .ok (.getfield 80, 3) := by decide +kernel
theorem dX11_slips_29 : decode cX11_slips 29 = .ok (.getfield 137, 3) := by decide +kernel
theorem dX11_slips_32 : decode cX11_slips 32 = .ok (.invokevirtual 146, 3) := by decide +kernel
theorem dX11_slips_35 : decode cX11_slips 35 = .ok (.ifCond .ne 8, 3) := by decide +kernel
theorem dX11_slips_38 : decode cX11_slips 38 = .ok (.aload_n 0, 1) := by decide +kernel
theorem dX11_slips_39 : decode cX11_slips 39 = .ok (.invokevirtual 154, 3) := by decide +kernel
theorem dX11_slips_42 : decode cX11_slips 42 = .ok (.ireturn, 1) := by decide +kernel
theorem dX11_slips_43 : decode cX11_slips 43 = .ok (.aload_n 0, 1) := by decide +kernel
theorem dX11_slips_44 : decode cX11_slips 44 = .ok (.getfield 80, 3) := by decide +kernel
theorem dX11_slips_47 : decode cX11_slips 47 = .ok (.aload_n 0, 1) := by decide +kernel
theorem dX11_slips_48 : decode cX11_slips 48 = .ok (.getfield 80, 3) := by decide +kernel
theorem dX11_slips_51 : decode cX11_slips 51 = .ok (.getfield 137, 3) := by decide +kernel
theorem dX11_slips_54 : decode cX11_slips 54 = .ok (.iload_n 1, 1) := by decide +kernel
theorem dX11_slips_55 : decode cX11_slips 55 = .ok (.invokevirtual 208, 3) := by decide +kernel
theorem dX11_slips_58 : decode cX11_slips 58 = .ok (.istore_n 3, 1) := by decide +kernel
theorem dX11_slips_59 : decode cX11_slips 59 = .ok (.iload_n 3, 1) := by decide +kernel
theorem dX11_slips_60 : decode cX11_slips 60 = .ok (.iconst 1, 1) := by decide +kernel
theorem dX11_slips_61 : decode cX11_slips 61 = .ok (.iand, 1) := by decide +kernel
theorem dX11_slips_62 : decode cX11_slips 62 = .ok (.ifCond .eq 10, 3) := by decide +kernel
theorem dX11_slips_65 : decode cX11_slips 65 = .ok (.bipush 10, 2) := by decide +kernel
theorem dX11_slips_67 : decode cX11_slips 67 = .ok (.iload_n 2, 1) := by decide +kernel
theorem dX11_slips_68 : decode cX11_slips 68 = .ok (.isub, 1) := by decide +kernel
theorem dX11_slips_69 : decode cX11_slips 69 = .ok (.goto 4, 3) := by decide +kernel
theorem dX11_slips_72 : decode cX11_slips 72 = .ok (.iload_n 2, 1) := by decide +kernel
theorem dX11_slips_73 : decode cX11_slips 73 = .ok (.istore 4, 2) := by decide +kernel
theorem dX11_slips_75 : decode cX11_slips 75 = .ok (.iload_n 3, 1) := by decide +kernel
theorem dX11_slips_76 : decode cX11_slips 76 = .ok (.iconst 2, 1) := by decide +kernel
theorem dX11_slips_77 : decode cX11_slips 77 = .ok (.iand, 1) := by decide +kernel
theorem dX11_slips_78 : decode cX11_slips 78 = .ok (.ifCond .eq 10, 3) := by decide +kernel
theorem dX11_slips_81 : decode cX11_slips 81 = .ok (.bipush 10, 2) := by decide +kernel
theorem dX11_slips_83 : decode cX11_slips 83 = .ok (.iload_n 2, 1) := by decide +kernel
theorem dX11_slips_84 : decode cX11_slips 84 = .ok (.isub, 1) := by decide +kernel
theorem dX11_slips_85 : decode cX11_slips 85 = .ok (.goto 4, 3) := by decide +kernel
theorem dX11_slips_88 : decode cX11_slips 88 = .ok (.iload_n 2, 1) := by decide +kernel
theorem dX11_slips_89 : decode cX11_slips 89 = .ok (.istore 5, 2) := by decide +kernel
theorem dX11_slips_91 : decode cX11_slips 91 = .ok (.aload_n 0, 1) := by decide +kernel
theorem dX11_slips_92 : decode cX11_slips 92 = .ok (.iload 4, 2) := by decide +kernel
theorem dX11_slips_94 : decode cX11_slips 94 = .ok (.iload 5, 2) := by decide +kernel
theorem dX11_slips_96 : decode cX11_slips 96 = .ok (.imul, 1) := by decide +kernel
theorem dX11_slips_97 : decode cX11_slips 97 = .ok (.bipush 100, 2) := by decide +kernel
theorem dX11_slips_99 : decode cX11_slips 99 = .ok (.invokevirtual 281, 3) := by decide +kernel
theorem dX11_slips_102 : decode cX11_slips 102 = .ok (.iconst 1, 1) := by decide +kernel
theorem dX11_slips_103 : decode cX11_slips 103 = .ok (.ireturn, 1) := by decide +kernel
theorem dX11_reigns_0 : decode cX11_reigns 0 = .ok (.iload_n 1, 1) := by decide +kernel
theorem dX11_reigns_1 : decode cX11_reigns 1 = .ok (.iconst 0, 1) := by decide +kernel
theorem dX11_reigns_2 : decode cX11_reigns 2 = .ok (.ldc_w 284, 3) := by decide +kernel
theorem dX11_reigns_5 : decode cX11_reigns 5 = .ok (.invokestatic 91, 3) := by decide +kernel
theorem dX11_reigns_8 : decode cX11_reigns 8 = .ok (.ifCond .ne 13, 3) := by decide +kernel
theorem dX11_reigns_11 : decode cX11_reigns 11 = .ok (.iload_n 2, 1) := by decide +kernel
theorem dX11_reigns_12 : decode cX11_reigns 12 = .ok (.iconst 0, 1) := by decide +kernel
theorem dX11_reigns_13 : decode cX11_reigns 13 = .ok (.bipush 60, 2) := by decide +kernel
theorem dX11_reigns_15 : decode cX11_reigns 15 = .ok (.invokestatic 91, 3) := by decide +kernel
theorem dX11_reigns_18 : decode cX11_reigns 18 = .ok (.ifCond .eq 8, 3) := by decide +kernel
theorem dX11_reigns_21 : decode cX11_reigns 21 = .ok (.aload_n 0, 1) := by decide +kernel
theorem dX11_reigns_22 : decode cX11_reigns 22 = .ok (.invokevirtual 95, 3) := by decide +kernel
theorem dX11_reigns_25 : decode cX11_reigns 25 = .ok (.ireturn, 1) := by decide +kernel
theorem dX11_reigns_26 : decode cX11_reigns 26 = .ok (.aload_n 0, 1) := by decide +kernel
theorem dX11_reigns_27 : decode cX11_reigns 27 = .ok (.getfield 80, 3) := by decide +kernel
theorem dX11_reigns_30 : decode cX11_reigns 30 = .ok (.getfield 137, 3) := by decide +kernel
theorem dX11_reigns_33 : decode cX11_reigns 33 = .ok (.invokevirtual 146, 3) := by decide +kernel
theorem dX11_reigns_36 : decode cX11_reigns 36 = .ok (.ifCond .ne 8, 3) := by decide +kernel
theorem dX11_reigns_39 : decode cX11_reigns 39 = .ok (.aload_n 0, 1) := by decide +kernel
theorem dX11_reigns_40 : decode cX11_reigns 40 = .ok (.invokevirtual 154, 3) := by decide +kernel
theorem dX11_reigns_43 : decode cX11_reigns 43 = .ok (.ireturn, 1) := by decide +kernel
theorem dX11_reigns_44 : decode cX11_reigns 44 = .ok (.aload_n 0, 1) := by decide +kernel
theorem dX11_reigns_45 : decode cX11_reigns 45 = .ok (.getfield 23, 3) := by decide +kernel
theorem dX11_reigns_48 : decode cX11_reigns 48 = .ok (.aload_n 0, 1) := by decide +kernel
theorem dX11_reigns_49 : decode cX11_reigns 49 = .ok (.getfield 80, 3) := by decide +kernel
theorem dX11_reigns_52 : decode cX11_reigns 52 = .ok (.getfield 137, 3) := by decide +kernel
theorem dX11_reigns_55 : decode cX11_reigns 55 = .ok (.invokevirtual 211, 3) := by decide +kernel
theorem dX11_reigns_58 : decode cX11_reigns 58 = .ok (.iload_n 1, 1) := by decide +kernel
theorem dX11_reigns_59 : decode cX11_reigns 59 = .ok (.i2l, 1) := by decide +kernel
theorem dX11_reigns_60 : decode cX11_reigns 60 = .ok (.lstore_n 3, 1) := by decide +kernel
theorem dX11_reigns_61 : decode cX11_reigns 61 = .ok (.iconst 0, 1) := by decide +kernel
theorem dX11_reigns_62 : decode cX11_reigns 62 = .ok (.istore 5, 2) := by decide +kernel
theorem dX11_reigns_64 : decode cX11_reigns 64 = .ok (.iload 5, 2) := by decide +kernel
theorem dX11_reigns_66 : decode cX11_reigns 66 = .ok (.iload_n 2, 1) := by decide +kernel
theorem dX11_reigns_67 : decode cX11_reigns 67 = .ok (.if_icmp .ge 73, 3) := by decide +kernel
theorem dX11_reigns_70 : decode cX11_reigns 70 = .ok (.lload_n 3, 1) := by decide +kernel
theorem dX11_reigns_71 : decode cX11_reigns 71 = .ok (.ldc2_w 285, 3) := by decide +kernel
theorem dX11_reigns_74 : decode cX11_reigns 74 = .ok (.lmul, 1) := by decide +kernel
theorem dX11_reigns_75 : decode cX11_reigns 75 = .ok (.ldc2_w 287, 3) := by decide +kernel
theorem dX11_reigns_78 : decode cX11_reigns 78 = .ok (.ladd, 1) := by decide +kernel
theorem dX11_reigns_79 : decode cX11_reigns 79 = .ok (.ldc2_w 289, 3) := by decide +kernel
theorem dX11_reigns_82 : decode cX11_reigns 82 = .ok (.lrem, 1) := by decide +kernel
theorem dX11_reigns_83 : decode cX11_reigns 83 = .ok (.lstore_n 3, 1) := by decide +kernel
theorem dX11_reigns_84 : decode cX11_reigns 84 = .ok (.lload_n 3, 1) := by decide +kernel
theorem dX11_reigns_85 : decode cX11_reigns 85 = .ok (.ldc2_w 291, 3) := by decide +kernel
theorem dX11_reigns_88 : decode cX11_reigns 88 = .ok (.ldiv, 1) := by decide +kernel
theorem dX11_reigns_89 : decode cX11_reigns 89 = .ok (.ldc2_w 293, 3) := by decide +kernel
theorem dX11_reigns_92 : decode cX11_reigns 92 = .ok (.lrem, 1) := by decide +kernel
theorem dX11_reigns_93 : decode cX11_reigns 93 = .ok (.l2i, 1) := by decide +kernel
theorem dX11_reigns_94 : decode cX11_reigns 94 = .ok (.istore 6, 2) := by decide +kernel
theorem dX11_reigns_96 : decode cX11_reigns 96 = .ok (.aload_n 0, 1) := by decide +kernel
theorem dX11_reigns_97 : decode cX11_reigns 97 = .ok (.getfield 23, 3) := by decide +kernel
theorem dX11_reigns_100 : decode cX11_reigns 100 = .ok (.iload 6, 2) := by decide +kernel
theorem dX11_reigns_102 : decode cX11_reigns 102 = .ok (.invokevirtual 150, 3) := by decide +kernel
theorem dX11_reigns_105 : decode cX11_reigns 105 = .ok (.ifCond .ne 17, 3) := by decide +kernel
theorem dX11_reigns_108 : decode cX11_reigns 108 = .ok (.aload_n 0, 1) := by decide +kernel
theorem dX11_reigns_109 : decode cX11_reigns 109 = .ok (.getfield 80, 3) := by decide +kernel
theorem dX11_reigns_112 : decode cX11_reigns 112 = .ok (.aload_n 0, 1) := by decide +kernel
theorem dX11_reigns_113 : decode cX11_reigns 113 = .ok (.getfield 23, 3) := by decide +kernel
theorem dX11_reigns_116 : decode cX11_reigns 116 = .ok (.iload 6, 2) := by decide +kernel
theorem dX11_reigns_118 : decode cX11_reigns 118 = .ok (.invokevirtual 157, 3) := by decide +kernel
theorem dX11_reigns_121 : decode cX11_reigns 121 = .ok (.pop, 1) := by decide +kernel
theorem dX11_reigns_122 : decode cX11_reigns 122 = .ok (.aload_n 0, 1) := by decide +kernel
theorem dX11_reigns_123 : decode cX11_reigns 123 = .ok (.getfield 80, 3) := by decide +kernel
theorem dX11_reigns_126 : decode cX11_reigns 126 = .ok (.aload_n 0, 1) := by decide +kernel
theorem dX11_reigns_127 : decode cX11_reigns 127 = .ok (.getfield 23, 3) := by decide +kernel
theorem dX11_reigns_130 : decode cX11_reigns 130 = .ok (.iconst 1, 1) := by decide +kernel
theorem dX11_reigns_131 : decode cX11_reigns 131 = .ok (.invokevirtual 161, 3) := by decide +kernel
theorem dX11_reigns_134 : decode cX11_reigns 134 = .ok (.iinc 5 1, 3) := by decide +kernel
theorem dX11_reigns_137 : decode cX11_reigns 137 = .ok (.goto (-73), 3) := by decide +kernel
theorem dX11_reigns_140 : decode cX11_reigns 140 = .ok (.aload_n 0, 1) := by decide +kernel
theorem dX11_reigns_141 : decode cX11_reigns 141 = .ok (.getfield 23, 3) := by decide +kernel
theorem dX11_reigns_144 : decode cX11_reigns 144 = .ok (.getfield 295, 3) := by decide +kernel
theorem dX11_reigns_147 : decode cX11_reigns 147 = .ok (.invokestatic 264, 3) := by decide +kernel
theorem dX11_reigns_150 : decode cX11_reigns 150 = .ok (.ireturn, 1) := by decide +kernel
theorem dX11_part_0 : decode cX11_part 0 = .ok (.iload_n 1, 1) := by decide +kernel
theorem dX11_part_1 : decode cX11_part 1 = .ok (.iconst 0, 1) := by decide +kernel
theorem dX11_part_2 : decode cX11_part 2 = .ok (.iconst 1, 1) := by decide +kernel
theorem dX11_part_3 : decode cX11_part 3 = .ok (.invokestatic 91, 3) := by decide +kernel
theorem dX11_part_6 : decode cX11_part 6 = .ok (.ifCond .eq 9, 3) := by decide +kernel
theorem dX11_part_9 : decode cX11_part 9 = .ok (.aload_n 0, 1) := by decide +kernel
theorem dX11_part_10 : decode cX11_part 10 = .ok (.invokevirtual 95, 3) := by decide +kernel
theorem dX11_part_13 : decode cX11_part 13 = .ok (.i2l, 1) := by decide +kernel
theorem dX11_part_14 : decode cX11_part 14 = .ok (.lreturn, 1) := by decide +kernel
theorem dX11_part_15 : decode cX11_part 15 = .ok (.iload_n 1, 1) := by decide +kernel
theorem dX11_part_16 : decode cX11_part 16 = .ok (.ifCond .ne 11, 3) := by decide +kernel
theorem dX11_part_19 : decode cX11_part 19 = .ok (.aload_n 0, 1) := by decide +kernel
theorem dX11_part_20 : decode cX11_part 20 = .ok (.getfield 42, 3) := by decide +kernel
theorem dX11_part_23 : decode cX11_part 23 = .ok (.i2l, 1) := by decide +kernel
theorem dX11_part_24 : decode cX11_part 24 = .ok (.goto 8, 3) := by decide +kernel
theorem dX11_part_27 : decode cX11_part 27 = .ok (.aload_n 0, 1) := by decide +kernel
theorem dX11_part_28 : decode cX11_part 28 = .ok (.getfield 45, 3) := by decide +kernel
theorem dX11_part_31 : decode cX11_part 31 = .ok (.i2l, 1) := by decide +kernel
theorem dX11_part_32 : decode cX11_part 32 = .ok (.lreturn, 1) := by decide +kernel
theorem dX11_image_0 : decode cX11_image 0 = .ok (.iload_n 1, 1) := by decide +kernel
theorem dX11_image_1 : decode cX11_image 1 = .ok (.iconst 0, 1) := by decide +kernel
theorem dX11_image_2 : decode cX11_image 2 = .ok (.iconst 1, 1) := by decide +kernel
theorem dX11_image_3 : decode cX11_image 3 = .ok (.invokestatic 91, 3) := by decide +kernel
theorem dX11_image_6 : decode cX11_image 6 = .ok (.ifCond .eq 8, 3) := by decide +kernel
theorem dX11_image_9 : decode cX11_image 9 = .ok (.aload_n 0, 1) := by decide +kernel
theorem dX11_image_10 : decode cX11_image 10 = .ok (.invokevirtual 95, 3) := by decide +kernel
theorem dX11_image_13 : decode cX11_image 13 = .ok (.ireturn, 1) := by decide +kernel
theorem dX11_image_14 : decode cX11_image 14 = .ok (.aload_n 0, 1) := by decide +kernel
theorem dX11_image_15 : decode cX11_image 15 = .ok (.getfield 87, 3) := by decide +kernel
theorem dX11_image_18 : decode cX11_image 18 = .ok (.iload_n 1, 1) := by decide +kernel
theorem dX11_image_19 : decode cX11_image 19 = .ok (.aaload, 1) := by decide +kernel
theorem dX11_image_20 : decode cX11_image 20 = .ok (.aload_n 0, 1) := by decide +kernel
theorem dX11_image_21 : decode cX11_image 21 = .ok (.getfield 80, 3) := by decide +kernel
theorem dX11_image_24 : decode cX11_image 24 = .ok (.invokevirtual 126, 3) := by decide +kernel
theorem dX11_image_27 : decode cX11_image 27 = .ok (.aload_n 0, 1) := by decide +kernel
theorem dX11_image_28 : decode cX11_image 28 = .ok (.getfield 9, 3) := by decide +kernel
theorem dX11_image_31 : decode cX11_image 31 = .ok (.iload_n 1, 1) := by decide +kernel
theorem dX11_image_32 : decode cX11_image 32 = .ok (.iconst 1, 1) := by decide +kernel
theorem dX11_image_33 : decode cX11_image 33 = .ok (.bastore, 1) := by decide +kernel
theorem dX11_image_34 : decode cX11_image 34 = .ok (.iconst 1, 1) := by decide +kernel
theorem dX11_image_35 : decode cX11_image 35 = .ok (.ireturn, 1) := by decide +kernel
theorem dX11_from_0 : decode cX11_from 0 = .ok (.iload_n 1, 1) := by decide +kernel
theorem dX11_from_1 : decode cX11_from 1 = .ok (.iconst 0, 1) := by decide +kernel
theorem dX11_from_2 : decode cX11_from 2 = .ok (.iconst 1, 1) := by decide +kernel
theorem dX11_from_3 : decode cX11_from 3 = .ok (.invokestatic 91, 3) := by decide +kernel
theorem dX11_from_6 : decode cX11_from 6 = .ok (.ifCond .eq 8, 3) := by decide +kernel
theorem dX11_from_9 : decode cX11_from 9 = .ok (.aload_n 0, 1) := by decide +kernel
theorem dX11_from_10 : decode cX11_from 10 = .ok (.invokevirtual 95, 3) := by decide +kernel
theorem dX11_from_13 : decode cX11_from 13 = .ok (.ireturn, 1) := by decide +kernel
theorem dX11_from_14 : decode cX11_from 14 = .ok (.aload_n 0, 1) := by decide +kernel
theorem dX11_from_15 : decode cX11_from 15 = .ok (.getfield 9, 3) := by decide +kernel
theorem dX11_from_18 : decode cX11_from 18 = .ok (.iload_n 1, 1) := by decide +kernel
theorem dX11_from_19 : decode cX11_from 19 = .ok (.baload, 1) := by decide +kernel
theorem dX11_from_20 : decode cX11_from 20 = .ok (.ifCond .ne 8, 3) := by decide +kernel
theorem dX11_from_23 : decode cX11_from 23 = .ok (.aload_n 0, 1) := by decide +kernel
theorem dX11_from_24 : decode cX11_from 24 = .ok (.invokevirtual 154, 3) := by decide +kernel
theorem dX11_from_27 : decode cX11_from 27 = .ok (.ireturn, 1) := by decide +kernel
theorem dX11_from_28 : decode cX11_from 28 = .ok (.aload_n 0, 1) := by decide +kernel
theorem dX11_from_29 : decode cX11_from 29 = .ok (.getfield 80, 3) := by decide +kernel
theorem dX11_from_32 : decode cX11_from 32 = .ok (.aload_n 0, 1) := by decide +kernel
theorem dX11_from_33 : decode cX11_from 33 = .ok (.getfield 87, 3) := by decide +kernel
theorem dX11_from_36 : decode cX11_from 36 = .ok (.iload_n 1, 1) := by decide +kernel
theorem dX11_from_37 : decode cX11_from 37 = .ok (.aaload, 1) := by decide +kernel
theorem dX11_from_38 : decode cX11_from 38 = .ok (.invokevirtual 126, 3) := by decide +kernel
theorem dX11_from_41 : decode cX11_from 41 = .ok (.iconst 1, 1) := by decide +kernel
theorem dX11_from_42 : decode cX11_from 42 = .ok (.ireturn, 1) := by decide +kernel
theorem dX11_status_0 : decode cX11_status 0 = .ok (.iload_n 1, 1) := by decide +kernel
theorem dX11_status_1 : decode cX11_status 1 = .ok (.tableswitch 42 0 2 #[27, 32, 37], 27) := by decide +kernel
theorem dX11_status_28 : decode cX11_status 28 = .ok (.aload_n 0, 1) := by decide +kernel
theorem dX11_status_29 : decode cX11_status 29 = .ok (.getfield 48, 3) := by decide +kernel
theorem dX11_status_32 : decode cX11_status 32 = .ok (.ireturn, 1) := by decide +kernel
theorem dX11_status_33 : decode cX11_status 33 = .ok (.aload_n 0, 1) := by decide +kernel
theorem dX11_status_34 : decode cX11_status 34 = .ok (.getfield 51, 3) := by decide +kernel
theorem dX11_status_37 : decode cX11_status 37 = .ok (.ireturn, 1) := by decide +kernel
theorem dX11_status_38 : decode cX11_status 38 = .ok (.aload_n 0, 1) := by decide +kernel
theorem dX11_status_39 : decode cX11_status 39 = .ok (.getfield 54, 3) := by decide +kernel
theorem dX11_status_42 : decode cX11_status 42 = .ok (.ireturn, 1) := by decide +kernel
theorem dX11_status_43 : decode cX11_status 43 = .ok (.aload_n 0, 1) := by decide +kernel
theorem dX11_status_44 : decode cX11_status 44 = .ok (.invokevirtual 95, 3) := by decide +kernel
theorem dX11_status_47 : decode cX11_status 47 = .ok (.pop, 1) := by decide +kernel
theorem dX11_status_48 : decode cX11_status 48 = .ok (.iconst (-1), 1) := by decide +kernel
theorem dX11_status_49 : decode cX11_status 49 = .ok (.ireturn, 1) := by decide +kernel
theorem dX11_count_0 : decode cX11_count 0 = .ok (.iload_n 1, 1) := by decide +kernel
theorem dX11_count_1 : decode cX11_count 1 = .ok (.iconst 0, 1) := by decide +kernel
theorem dX11_count_2 : decode cX11_count 2 = .ok (.bipush 6, 2) := by decide +kernel
theorem dX11_count_4 : decode cX11_count 4 = .ok (.invokestatic 91, 3) := by decide +kernel
theorem dX11_count_7 : decode cX11_count 7 = .ok (.ifCond .eq 8, 3) := by decide +kernel
theorem dX11_count_10 : decode cX11_count 10 = .ok (.aload_n 0, 1) := by decide +kernel
theorem dX11_count_11 : decode cX11_count 11 = .ok (.invokevirtual 95, 3) := by decide +kernel
theorem dX11_count_14 : decode cX11_count 14 = .ok (.ireturn, 1) := by decide +kernel
theorem dX11_count_15 : decode cX11_count 15 = .ok (.aload_n 0, 1) := by decide +kernel
theorem dX11_count_16 : decode cX11_count 16 = .ok (.iload_n 1, 1) := by decide +kernel
theorem dX11_count_17 : decode cX11_count 17 = .ok (.invokevirtual 298, 3) := by decide +kernel
theorem dX11_count_20 : decode cX11_count 20 = .ok (.ireturn, 1) := by decide +kernel
theorem dX11_digest_0 : decode cX11_digest 0 = .ok (.ldc2_w 301, 3) := by decide +kernel
theorem dX11_digest_3 : decode cX11_digest 3 = .ok (.lstore_n 1, 1) := by decide +kernel
theorem dX11_digest_4 : decode cX11_digest 4 = .ok (.iconst 0, 1) := by decide +kernel
theorem dX11_digest_5 : decode cX11_digest 5 = .ok (.istore_n 3, 1) := by decide +kernel
theorem dX11_digest_6 : decode cX11_digest 6 = .ok (.iload_n 3, 1) := by decide +kernel
theorem dX11_digest_7 : decode cX11_digest 7 = .ok (.bipush 6, 2) := by decide +kernel
theorem dX11_digest_9 : decode cX11_digest 9 = .ok (.if_icmp .gt 22, 3) := by decide +kernel
theorem dX11_digest_12 : decode cX11_digest 12 = .ok (.ldc2_w 303, 3) := by decide +kernel
theorem dX11_digest_15 : decode cX11_digest 15 = .ok (.lload_n 1, 1) := by decide +kernel
theorem dX11_digest_16 : decode cX11_digest 16 = .ok (.lmul, 1) := by decide +kernel
theorem dX11_digest_17 : decode cX11_digest 17 = .ok (.aload_n 0, 1) := by decide +kernel
theorem dX11_digest_18 : decode cX11_digest 18 = .ok (.iload_n 3, 1) := by decide +kernel
theorem dX11_digest_19 : decode cX11_digest 19 = .ok (.invokevirtual 298, 3) := by decide +kernel
theorem dX11_digest_22 : decode cX11_digest 22 = .ok (.i2l, 1) := by decide +kernel
theorem dX11_digest_23 : decode cX11_digest 23 = .ok (.ladd, 1) := by decide +kernel
theorem dX11_digest_24 : decode cX11_digest 24 = .ok (.lstore_n 1, 1) := by decide +kernel
theorem dX11_digest_25 : decode cX11_digest 25 = .ok (.iinc 3 1, 3) := by decide +kernel
theorem dX11_digest_28 : decode cX11_digest 28 = .ok (.goto (-22), 3) := by decide +kernel
theorem dX11_digest_31 : decode cX11_digest 31 = .ok (.ldc2_w 303, 3) := by decide +kernel
theorem dX11_digest_34 : decode cX11_digest 34 = .ok (.lload_n 1, 1) := by decide +kernel
theorem dX11_digest_35 : decode cX11_digest 35 = .ok (.lmul, 1) := by decide +kernel
theorem dX11_digest_36 : decode cX11_digest 36 = .ok (.aload_n 0, 1) := by decide +kernel
theorem dX11_digest_37 : decode cX11_digest 37 = .ok (.getfield 80, 3) := by decide +kernel
theorem dX11_digest_40 : decode cX11_digest 40 = .ok (.getfield 137, 3) := by decide +kernel
theorem dX11_digest_43 : decode cX11_digest 43 = .ok (.getfield 295, 3) := by decide +kernel
theorem dX11_digest_46 : decode cX11_digest 46 = .ok (.i2l, 1) := by decide +kernel
theorem dX11_digest_47 : decode cX11_digest 47 = .ok (.ladd, 1) := by decide +kernel
theorem dX11_digest_48 : decode cX11_digest 48 = .ok (.lstore_n 1, 1) := by decide +kernel
theorem dX11_digest_49 : decode cX11_digest 49 = .ok (.ldc2_w 303, 3) := by decide +kernel
theorem dX11_digest_52 : decode cX11_digest 52 = .ok (.lload_n 1, 1) := by decide +kernel
theorem dX11_digest_53 : decode cX11_digest 53 = .ok (.lmul, 1) := by decide +kernel
theorem dX11_digest_54 : decode cX11_digest 54 = .ok (.aload_n 0, 1) := by decide +kernel
theorem dX11_digest_55 : decode cX11_digest 55 = .ok (.getfield 80, 3) := by decide +kernel
theorem dX11_digest_58 : decode cX11_digest 58 = .ok (.getfield 137, 3) := by decide +kernel
theorem dX11_digest_61 : decode cX11_digest 61 = .ok (.getfield 140, 3) := by decide +kernel
theorem dX11_digest_64 : decode cX11_digest 64 = .ok (.i2l, 1) := by decide +kernel
theorem dX11_digest_65 : decode cX11_digest 65 = .ok (.ladd, 1) := by decide +kernel
theorem dX11_digest_66 : decode cX11_digest 66 = .ok (.lstore_n 1, 1) := by decide +kernel
theorem dX11_digest_67 : decode cX11_digest 67 = .ok (.ldc2_w 303, 3) := by decide +kernel
theorem dX11_digest_70 : decode cX11_digest 70 = .ok (.lload_n 1, 1) := by decide +kernel
theorem dX11_digest_71 : decode cX11_digest 71 = .ok (.lmul, 1) := by decide +kernel
theorem dX11_digest_72 : decode cX11_digest 72 = .ok (.aload_n 0, 1) := by decide +kernel
theorem dX11_digest_73 : decode cX11_digest 73 = .ok (.getfield 80, 3) := by decide +kernel
theorem dX11_digest_76 : decode cX11_digest 76 = .ok (.getfield 137, 3) := by decide +kernel
theorem dX11_digest_79 : decode cX11_digest 79 = .ok (.getfield 143, 3) := by decide +kernel
theorem dX11_digest_82 : decode cX11_digest 82 = .ok (.i2l, 1) := by decide +kernel
theorem dX11_digest_83 : decode cX11_digest 83 = .ok (.ladd, 1) := by decide +kernel
theorem dX11_digest_84 : decode cX11_digest 84 = .ok (.lstore_n 1, 1) := by decide +kernel
theorem dX11_digest_85 : decode cX11_digest 85 = .ok (.iconst 0, 1) := by decide +kernel
theorem dX11_digest_86 : decode cX11_digest 86 = .ok (.istore_n 3, 1) := by decide +kernel
theorem dX11_digest_87 : decode cX11_digest 87 = .ok (.iload_n 3, 1) := by decide +kernel
theorem dX11_digest_88 : decode cX11_digest 88 = .ok (.aload_n 0, 1) := by decide +kernel
theorem dX11_digest_89 : decode cX11_digest 89 = .ok (.getfield 80, 3) := by decide +kernel
theorem dX11_digest_92 : decode cX11_digest 92 = .ok (.getfield 99, 3) := by decide +kernel
theorem dX11_digest_95 : decode cX11_digest 95 = .ok (.if_icmp .ge 23, 3) := by decide +kernel
theorem dX11_digest_98 : decode cX11_digest 98 = .ok (.aload_n 0, 1) := by decide +kernel
theorem dX11_digest_99 : decode cX11_digest 99 = .ok (.getfield 80, 3) := by decide +kernel
theorem dX11_digest_102 : decode cX11_digest 102 = .ok (.getfield 183, 3) := by decide +kernel
theorem dX11_digest_105 : decode cX11_digest 105 = .ok (.iload_n 3, 1) := by decide +kernel
theorem dX11_digest_106 : decode cX11_digest 106 = .ok (.aaload, 1) := by decide +kernel
theorem dX11_digest_107 : decode cX11_digest 107 = .ok (.lload_n 1, 1) := by decide +kernel
theorem dX11_digest_108 : decode cX11_digest 108 = .ok (.invokevirtual 305, 3) := by decide +kernel
theorem dX11_digest_111 : decode cX11_digest 111 = .ok (.lstore_n 1, 1) := by decide +kernel
theorem dX11_digest_112 : decode cX11_digest 112 = .ok (.iinc 3 1, 3) := by decide +kernel
theorem dX11_digest_115 : decode cX11_digest 115 = .ok (.goto (-28), 3) := by decide +kernel
theorem dX11_digest_118 : decode cX11_digest 118 = .ok (.iconst 0, 1) := by decide +kernel
theorem dX11_digest_119 : decode cX11_digest 119 = .ok (.istore_n 3, 1) := by decide +kernel
theorem dX11_digest_120 : decode cX11_digest 120 = .ok (.iload_n 3, 1) := by decide +kernel
theorem dX11_digest_121 : decode cX11_digest 121 = .ok (.aload_n 0, 1) := by decide +kernel
theorem dX11_digest_122 : decode cX11_digest 122 = .ok (.getfield 80, 3) := by decide +kernel
theorem dX11_digest_125 : decode cX11_digest 125 = .ok (.getfield 241, 3) := by decide +kernel
theorem dX11_digest_128 : decode cX11_digest 128 = .ok (.if_icmp .ge 23, 3) := by decide +kernel
theorem dX11_digest_131 : decode cX11_digest 131 = .ok (.aload_n 0, 1) := by decide +kernel
theorem dX11_digest_132 : decode cX11_digest 132 = .ok (.getfield 80, 3) := by decide +kernel
theorem dX11_digest_135 : decode cX11_digest 135 = .ok (.getfield 244, 3) := by decide +kernel
theorem dX11_digest_138 : decode cX11_digest 138 = .ok (.iload_n 3, 1) := by decide +kernel
theorem dX11_digest_139 : decode cX11_digest 139 = .ok (.aaload, 1) := by decide +kernel
theorem dX11_digest_140 : decode cX11_digest 140 = .ok (.lload_n 1, 1) := by decide +kernel
theorem dX11_digest_141 : decode cX11_digest 141 = .ok (.invokevirtual 309, 3) := by decide +kernel
theorem dX11_digest_144 : decode cX11_digest 144 = .ok (.lstore_n 1, 1) := by decide +kernel
theorem dX11_digest_145 : decode cX11_digest 145 = .ok (.iinc 3 1, 3) := by decide +kernel
theorem dX11_digest_148 : decode cX11_digest 148 = .ok (.goto (-28), 3) := by decide +kernel
theorem dX11_digest_151 : decode cX11_digest 151 = .ok (.ldc2_w 303, 3) := by decide +kernel
theorem dX11_digest_154 : decode cX11_digest 154 = .ok (.lload_n 1, 1) := by decide +kernel
theorem dX11_digest_155 : decode cX11_digest 155 = .ok (.lmul, 1) := by decide +kernel
theorem dX11_digest_156 : decode cX11_digest 156 = .ok (.aload_n 0, 1) := by decide +kernel
theorem dX11_digest_157 : decode cX11_digest 157 = .ok (.getfield 42, 3) := by decide +kernel
theorem dX11_digest_160 : decode cX11_digest 160 = .ok (.i2l, 1) := by decide +kernel
theorem dX11_digest_161 : decode cX11_digest 161 = .ok (.ladd, 1) := by decide +kernel
theorem dX11_digest_162 : decode cX11_digest 162 = .ok (.lstore_n 1, 1) := by decide +kernel
theorem dX11_digest_163 : decode cX11_digest 163 = .ok (.ldc2_w 303, 3) := by decide +kernel
theorem dX11_digest_166 : decode cX11_digest 166 = .ok (.lload_n 1, 1) := by decide +kernel
theorem dX11_digest_167 : decode cX11_digest 167 = .ok (.lmul, 1) := by decide +kernel
theorem dX11_digest_168 : decode cX11_digest 168 = .ok (.aload_n 0, 1) := by decide +kernel
theorem dX11_digest_169 : decode cX11_digest 169 = .ok (.getfield 45, 3) := by decide +kernel
theorem dX11_digest_172 : decode cX11_digest 172 = .ok (.i2l, 1) := by decide +kernel
theorem dX11_digest_173 : decode cX11_digest 173 = .ok (.ladd, 1) := by decide +kernel
theorem dX11_digest_174 : decode cX11_digest 174 = .ok (.lreturn, 1) := by decide +kernel
theorem dX11_bad_0 : decode cX11_bad 0 = .ok (.aload_n 0, 1) := by decide +kernel
theorem dX11_bad_1 : decode cX11_bad 1 = .ok (.dup, 1) := by decide +kernel
theorem dX11_bad_2 : decode cX11_bad 2 = .ok (.getfield 48, 3) := by decide +kernel
theorem dX11_bad_5 : decode cX11_bad 5 = .ok (.iconst 1, 1) := by decide +kernel
theorem dX11_bad_6 : decode cX11_bad 6 = .ok (.iadd, 1) := by decide +kernel
theorem dX11_bad_7 : decode cX11_bad 7 = .ok (.putfield 48, 3) := by decide +kernel
theorem dX11_bad_10 : decode cX11_bad 10 = .ok (.bipush (-2), 2) := by decide +kernel
theorem dX11_bad_12 : decode cX11_bad 12 = .ok (.ireturn, 1) := by decide +kernel
theorem dX11_no_0 : decode cX11_no 0 = .ok (.aload_n 0, 1) := by decide +kernel
theorem dX11_no_1 : decode cX11_no 1 = .ok (.dup, 1) := by decide +kernel
theorem dX11_no_2 : decode cX11_no 2 = .ok (.getfield 51, 3) := by decide +kernel
theorem dX11_no_5 : decode cX11_no 5 = .ok (.iconst 1, 1) := by decide +kernel
theorem dX11_no_6 : decode cX11_no 6 = .ok (.iadd, 1) := by decide +kernel
theorem dX11_no_7 : decode cX11_no 7 = .ok (.putfield 51, 3) := by decide +kernel
theorem dX11_no_10 : decode cX11_no 10 = .ok (.bipush (-3), 2) := by decide +kernel
theorem dX11_no_12 : decode cX11_no 12 = .ok (.ireturn, 1) := by decide +kernel
theorem dX11_full_0 : decode cX11_full 0 = .ok (.aload_n 0, 1) := by decide +kernel
theorem dX11_full_1 : decode cX11_full 1 = .ok (.dup, 1) := by decide +kernel
theorem dX11_full_2 : decode cX11_full 2 = .ok (.getfield 54, 3) := by decide +kernel
theorem dX11_full_5 : decode cX11_full 5 = .ok (.iconst 1, 1) := by decide +kernel
theorem dX11_full_6 : decode cX11_full 6 = .ok (.iadd, 1) := by decide +kernel
theorem dX11_full_7 : decode cX11_full 7 = .ok (.putfield 54, 3) := by decide +kernel
theorem dX11_full_10 : decode cX11_full 10 = .ok (.bipush (-4), 2) := by decide +kernel
theorem dX11_full_12 : decode cX11_full 12 = .ok (.ireturn, 1) := by decide +kernel
theorem dX11_outside_0 : decode cX11_outside 0 = .ok (.iload_n 0, 1) := by decide +kernel
theorem dX11_outside_1 : decode cX11_outside 1 = .ok (.iload_n 1, 1) := by decide +kernel
theorem dX11_outside_2 : decode cX11_outside 2 = .ok (.if_icmp .lt 8, 3) := by decide +kernel
theorem dX11_outside_5 : decode cX11_outside 5 = .ok (.iload_n 0, 1) := by decide +kernel
theorem dX11_outside_6 : decode cX11_outside 6 = .ok (.iload_n 2, 1) := by decide +kernel
theorem dX11_outside_7 : decode cX11_outside 7 = .ok (.if_icmp .le 7, 3) := by decide +kernel
theorem dX11_outside_10 : decode cX11_outside 10 = .ok (.iconst 1, 1) := by decide +kernel
theorem dX11_outside_11 : decode cX11_outside 11 = .ok (.goto 4, 3) := by decide +kernel
theorem dX11_outside_14 : decode cX11_outside 14 = .ok (.iconst 0, 1) := by decide +kernel
theorem dX11_outside_15 : decode cX11_outside 15 = .ok (.ireturn, 1) := by decide +kernel
theorem dX11_daysToFriends_0 : decode cX11_daysToFriends 0 = .ok (.aload_n 0, 1) := by decide +kernel
theorem dX11_daysToFriends_1 : decode cX11_daysToFriends 1 = .ok (.getfield 23, 3) := by decide +kernel
theorem dX11_daysToFriends_4 : decode cX11_daysToFriends 4 = .ok (.aload_n 0, 1) := by decide +kernel
theorem dX11_daysToFriends_5 : decode cX11_daysToFriends 5 = .ok (.getfield 80, 3) := by decide +kernel
theorem dX11_daysToFriends_8 : decode cX11_daysToFriends 8 = .ok (.getfield 137, 3) := by decide +kernel
theorem dX11_daysToFriends_11 : decode cX11_daysToFriends 11 = .ok (.invokevirtual 211, 3) := by decide +kernel
theorem dX11_daysToFriends_14 : decode cX11_daysToFriends 14 = .ok (.iconst 0, 1) := by decide +kernel
theorem dX11_daysToFriends_15 : decode cX11_daysToFriends 15 = .ok (.istore_n 2, 1) := by decide +kernel
theorem dX11_daysToFriends_16 : decode cX11_daysToFriends 16 = .ok (.iload_n 2, 1) := by decide +kernel
theorem dX11_daysToFriends_17 : decode cX11_daysToFriends 17 = .ok (.bipush 90, 2) := by decide +kernel
theorem dX11_daysToFriends_19 : decode cX11_daysToFriends 19 = .ok (.if_icmp .gt 29, 3) := by decide +kernel
theorem dX11_daysToFriends_22 : decode cX11_daysToFriends 22 = .ok (.aload_n 0, 1) := by decide +kernel
theorem dX11_daysToFriends_23 : decode cX11_daysToFriends 23 = .ok (.getfield 23, 3) := by decide +kernel
theorem dX11_daysToFriends_26 : decode cX11_daysToFriends 26 = .ok (.invokevirtual 310, 3) := by decide +kernel
theorem dX11_daysToFriends_29 : decode cX11_daysToFriends 29 = .ok (.ifCond .eq 5, 3) := by decide +kernel
theorem dX11_daysToFriends_32 : decode cX11_daysToFriends 32 = .ok (.iload_n 2, 1) := by decide +kernel
theorem dX11_daysToFriends_33 : decode cX11_daysToFriends 33 = .ok (.ireturn, 1) := by decide +kernel
theorem dX11_daysToFriends_34 : decode cX11_daysToFriends 34 = .ok (.aload_n 0, 1) := by decide +kernel
theorem dX11_daysToFriends_35 : decode cX11_daysToFriends 35 = .ok (.getfield 23, 3) := by decide +kernel
theorem dX11_daysToFriends_38 : decode cX11_daysToFriends 38 = .ok (.iload_n 1, 1) := by decide +kernel
theorem dX11_daysToFriends_39 : decode cX11_daysToFriends 39 = .ok (.invokevirtual 168, 3) := by decide +kernel
theorem dX11_daysToFriends_42 : decode cX11_daysToFriends 42 = .ok (.iinc 2 1, 3) := by decide +kernel
theorem dX11_daysToFriends_45 : decode cX11_daysToFriends 45 = .ok (.goto (-29), 3) := by decide +kernel
theorem dX11_daysToFriends_48 : decode cX11_daysToFriends 48 = .ok (.iconst (-1), 1) := by decide +kernel
theorem dX11_daysToFriends_49 : decode cX11_daysToFriends 49 = .ok (.ireturn, 1) := by decide +kernel
theorem dX11_staysQuarrelled_0 : decode cX11_staysQuarrelled 0 = .ok (.aload_n 0, 1) := by decide +kernel
theorem dX11_staysQuarrelled_1 : decode cX11_staysQuarrelled 1 = .ok (.getfield 23, 3) := by decide +kernel
theorem dX11_staysQuarrelled_4 : decode cX11_staysQuarrelled 4 = .ok (.aload_n 0, 1) := by decide +kernel
theorem dX11_staysQuarrelled_5 : decode cX11_staysQuarrelled 5 = .ok (.getfield 80, 3) := by decide +kernel
theorem dX11_staysQuarrelled_8 : decode cX11_staysQuarrelled 8 = .ok (.getfield 137, 3) := by decide +kernel
theorem dX11_staysQuarrelled_11 : decode cX11_staysQuarrelled 11 = .ok (.invokevirtual 211, 3) := by decide +kernel
theorem dX11_staysQuarrelled_14 : decode cX11_staysQuarrelled 14 = .ok (.aload_n 0, 1) := by decide +kernel
theorem dX11_staysQuarrelled_15 : decode cX11_staysQuarrelled 15 = .ok (.getfield 23, 3) := by decide +kernel
theorem dX11_staysQuarrelled_18 : decode cX11_staysQuarrelled 18 = .ok (.iload_n 1, 1) := by decide +kernel
theorem dX11_staysQuarrelled_19 : decode cX11_staysQuarrelled 19 = .ok (.invokevirtual 168, 3) := by decide +kernel
theorem dX11_staysQuarrelled_22 : decode cX11_staysQuarrelled 22 = .ok (.iconst 0, 1) := by decide +kernel
theorem dX11_staysQuarrelled_23 : decode cX11_staysQuarrelled 23 = .ok (.istore 4, 2) := by decide +kernel
theorem dX11_staysQuarrelled_25 : decode cX11_staysQuarrelled 25 = .ok (.iload 4, 2) := by decide +kernel
theorem dX11_staysQuarrelled_27 : decode cX11_staysQuarrelled 27 = .ok (.iload_n 3, 1) := by decide +kernel
theorem dX11_staysQuarrelled_28 : decode cX11_staysQuarrelled 28 = .ok (.if_icmp .ge 29, 3) := by decide +kernel
theorem dX11_staysQuarrelled_31 : decode cX11_staysQuarrelled 31 = .ok (.aload_n 0, 1) := by decide +kernel
theorem dX11_staysQuarrelled_32 : decode cX11_staysQuarrelled 32 = .ok (.getfield 23, 3) := by decide +kernel
theorem dX11_staysQuarrelled_35 : decode cX11_staysQuarrelled 35 = .ok (.invokevirtual 310, 3) := by decide +kernel
theorem dX11_staysQuarrelled_38 : decode cX11_staysQuarrelled 38 = .ok (.ifCond .eq 5, 3) := by decide +kernel
theorem dX11_staysQuarrelled_41 : decode cX11_staysQuarrelled 41 = .ok (.iconst 0, 1) := by decide +kernel
theorem dX11_staysQuarrelled_42 : decode cX11_staysQuarrelled 42 = .ok (.ireturn, 1) := by decide +kernel
theorem dX11_staysQuarrelled_43 : decode cX11_staysQuarrelled 43 = .ok (.aload_n 0, 1) := by decide +kernel
theorem dX11_staysQuarrelled_44 : decode cX11_staysQuarrelled 44 = .ok (.getfield 23, 3) := by decide +kernel
theorem dX11_staysQuarrelled_47 : decode cX11_staysQuarrelled 47 = .ok (.iload_n 2, 1) := by decide +kernel
theorem dX11_staysQuarrelled_48 : decode cX11_staysQuarrelled 48 = .ok (.invokevirtual 168, 3) := by decide +kernel
theorem dX11_staysQuarrelled_51 : decode cX11_staysQuarrelled 51 = .ok (.iinc 4 1, 3) := by decide +kernel
theorem dX11_staysQuarrelled_54 : decode cX11_staysQuarrelled 54 = .ok (.goto (-29), 3) := by decide +kernel
theorem dX11_staysQuarrelled_57 : decode cX11_staysQuarrelled 57 = .ok (.aload_n 0, 1) := by decide +kernel
theorem dX11_staysQuarrelled_58 : decode cX11_staysQuarrelled 58 = .ok (.getfield 23, 3) := by decide +kernel
theorem dX11_staysQuarrelled_61 : decode cX11_staysQuarrelled 61 = .ok (.invokevirtual 310, 3) := by decide +kernel
theorem dX11_staysQuarrelled_64 : decode cX11_staysQuarrelled 64 = .ok (.ifCond .ne 7, 3) := by decide +kernel
theorem dX11_staysQuarrelled_67 : decode cX11_staysQuarrelled 67 = .ok (.iconst 1, 1) := by decide +kernel
theorem dX11_staysQuarrelled_68 : decode cX11_staysQuarrelled 68 = .ok (.goto 4, 3) := by decide +kernel
theorem dX11_staysQuarrelled_71 : decode cX11_staysQuarrelled 71 = .ok (.iconst 0, 1) := by decide +kernel
theorem dX11_staysQuarrelled_72 : decode cX11_staysQuarrelled 72 = .ok (.ireturn, 1) := by decide +kernel
theorem dX11_lastingOf_0 : decode cX11_lastingOf 0 = .ok (.aload_n 0, 1) := by decide +kernel
theorem dX11_lastingOf_1 : decode cX11_lastingOf 1 = .ok (.aload_n 0, 1) := by decide +kernel
theorem dX11_lastingOf_2 : decode cX11_lastingOf 2 = .ok (.getfield 80, 3) := by decide +kernel
theorem dX11_lastingOf_5 : decode cX11_lastingOf 5 = .ok (.iload_n 1, 1) := by decide +kernel
theorem dX11_lastingOf_6 : decode cX11_lastingOf 6 = .ok (.iload_n 2, 1) := by decide +kernel
theorem dX11_lastingOf_7 : decode cX11_lastingOf 7 = .ok (.invokevirtual 313, 3) := by decide +kernel
theorem dX11_lastingOf_10 : decode cX11_lastingOf 10 = .ok (.invokevirtual 221, 3) := by decide +kernel
theorem dX11_lastingOf_13 : decode cX11_lastingOf 13 = .ok (.istore_n 3, 1) := by decide +kernel
theorem dX11_lastingOf_14 : decode cX11_lastingOf 14 = .ok (.iload_n 3, 1) := by decide +kernel
theorem dX11_lastingOf_15 : decode cX11_lastingOf 15 = .ok (.iconst (-1), 1) := by decide +kernel
theorem dX11_lastingOf_16 : decode cX11_lastingOf 16 = .ok (.if_icmp .ne 8, 3) := by decide +kernel
theorem dX11_lastingOf_19 : decode cX11_lastingOf 19 = .ok (.bipush 91, 2) := by decide +kernel
theorem dX11_lastingOf_21 : decode cX11_lastingOf 21 = .ok (.goto 4, 3) := by decide +kernel
theorem dX11_lastingOf_24 : decode cX11_lastingOf 24 = .ok (.iload_n 3, 1) := by decide +kernel
theorem dX11_lastingOf_25 : decode cX11_lastingOf 25 = .ok (.ireturn, 1) := by decide +kernel
theorem dX11_bestPair_0 : decode cX11_bestPair 0 = .ok (.iconst (-1), 1) := by decide +kernel
theorem dX11_bestPair_1 : decode cX11_bestPair 1 = .ok (.istore_n 1, 1) := by decide +kernel
theorem dX11_bestPair_2 : decode cX11_bestPair 2 = .ok (.iconst (-1), 1) := by decide +kernel
theorem dX11_bestPair_3 : decode cX11_bestPair 3 = .ok (.istore_n 2, 1) := by decide +kernel
theorem dX11_bestPair_4 : decode cX11_bestPair 4 = .ok (.iconst 0, 1) := by decide +kernel
theorem dX11_bestPair_5 : decode cX11_bestPair 5 = .ok (.istore_n 3, 1) := by decide +kernel
theorem dX11_bestPair_6 : decode cX11_bestPair 6 = .ok (.iload_n 3, 1) := by decide +kernel
theorem dX11_bestPair_7 : decode cX11_bestPair 7 = .ok (.aload_n 0, 1) := by decide +kernel
theorem dX11_bestPair_8 : decode cX11_bestPair 8 = .ok (.getfield 80, 3) := by decide +kernel
theorem dX11_bestPair_11 : decode cX11_bestPair 11 = .ok (.getfield 99, 3) := by decide +kernel
theorem dX11_bestPair_14 : decode cX11_bestPair 14 = .ok (.if_icmp .ge 58, 3) := by decide +kernel
theorem dX11_bestPair_17 : decode cX11_bestPair 17 = .ok (.iload_n 3, 1) := by decide +kernel
theorem dX11_bestPair_18 : decode cX11_bestPair 18 = .ok (.iconst 1, 1) := by decide +kernel
theorem dX11_bestPair_19 : decode cX11_bestPair 19 = .ok (.iadd, 1) := by decide +kernel
theorem dX11_bestPair_20 : decode cX11_bestPair 20 = .ok (.istore 4, 2) := by decide +kernel
theorem dX11_bestPair_22 : decode cX11_bestPair 22 = .ok (.iload 4, 2) := by decide +kernel
theorem dX11_bestPair_24 : decode cX11_bestPair 24 = .ok (.aload_n 0, 1) := by decide +kernel
theorem dX11_bestPair_25 : decode cX11_bestPair 25 = .ok (.getfield 80, 3) := by decide +kernel
theorem dX11_bestPair_28 : decode cX11_bestPair 28 = .ok (.getfield 99, 3) := by decide +kernel
theorem dX11_bestPair_31 : decode cX11_bestPair 31 = .ok (.if_icmp .ge 35, 3) := by decide +kernel
theorem dX11_bestPair_34 : decode cX11_bestPair 34 = .ok (.aload_n 0, 1) := by decide +kernel
theorem dX11_bestPair_35 : decode cX11_bestPair 35 = .ok (.iload_n 3, 1) := by decide +kernel
theorem dX11_bestPair_36 : decode cX11_bestPair 36 = .ok (.iload 4, 2) := by decide +kernel
theorem dX11_bestPair_38 : decode cX11_bestPair 38 = .ok (.invokevirtual 231, 3) := by decide +kernel
theorem dX11_bestPair_41 : decode cX11_bestPair 41 = .ok (.istore 5, 2) := by decide +kernel
theorem dX11_bestPair_43 : decode cX11_bestPair 43 = .ok (.iload 5, 2) := by decide +kernel
theorem dX11_bestPair_45 : decode cX11_bestPair 45 = .ok (.iload_n 2, 1) := by decide +kernel
theorem dX11_bestPair_46 : decode cX11_bestPair 46 = .ok (.if_icmp .le 14, 3) := by decide +kernel
theorem dX11_bestPair_49 : decode cX11_bestPair 49 = .ok (.iload 5, 2) := by decide +kernel
theorem dX11_bestPair_51 : decode cX11_bestPair 51 = .ok (.istore_n 2, 1) := by decide +kernel
theorem dX11_bestPair_52 : decode cX11_bestPair 52 = .ok (.bipush 10, 2) := by decide +kernel
theorem dX11_bestPair_54 : decode cX11_bestPair 54 = .ok (.iload_n 3, 1) := by decide +kernel
theorem dX11_bestPair_55 : decode cX11_bestPair 55 = .ok (.imul, 1) := by decide +kernel
theorem dX11_bestPair_56 : decode cX11_bestPair 56 = .ok (.iload 4, 2) := by decide +kernel
theorem dX11_bestPair_58 : decode cX11_bestPair 58 = .ok (.iadd, 1) := by decide +kernel
theorem dX11_bestPair_59 : decode cX11_bestPair 59 = .ok (.istore_n 1, 1) := by decide +kernel
theorem dX11_bestPair_60 : decode cX11_bestPair 60 = .ok (.iinc 4 1, 3) := by decide +kernel
theorem dX11_bestPair_63 : decode cX11_bestPair 63 = .ok (.goto (-41), 3) := by decide +kernel
theorem dX11_bestPair_66 : decode cX11_bestPair 66 = .ok (.iinc 3 1, 3) := by decide +kernel
theorem dX11_bestPair_69 : decode cX11_bestPair 69 = .ok (.goto (-63), 3) := by decide +kernel
theorem dX11_bestPair_72 : decode cX11_bestPair 72 = .ok (.iload_n 1, 1) := by decide +kernel
theorem dX11_bestPair_73 : decode cX11_bestPair 73 = .ok (.ireturn, 1) := by decide +kernel
theorem dX11_stuckPairs_0 : decode cX11_stuckPairs 0 = .ok (.iconst 0, 1) := by decide +kernel
theorem dX11_stuckPairs_1 : decode cX11_stuckPairs 1 = .ok (.istore_n 1, 1) := by decide +kernel
theorem dX11_stuckPairs_2 : decode cX11_stuckPairs 2 = .ok (.aload_n 0, 1) := by decide +kernel
theorem dX11_stuckPairs_3 : decode cX11_stuckPairs 3 = .ok (.getfield 23, 3) := by decide +kernel
theorem dX11_stuckPairs_6 : decode cX11_stuckPairs 6 = .ok (.aload_n 0, 1) := by decide +kernel
theorem dX11_stuckPairs_7 : decode cX11_stuckPairs 7 = .ok (.getfield 80, 3) := by decide +kernel
theorem dX11_stuckPairs_10 : decode cX11_stuckPairs 10 = .ok (.getfield 137, 3) := by decide +kernel
theorem dX11_stuckPairs_13 : decode cX11_stuckPairs 13 = .ok (.invokevirtual 211, 3) := by decide +kernel
theorem dX11_stuckPairs_16 : decode cX11_stuckPairs 16 = .ok (.iconst 0, 1) := by decide +kernel
theorem dX11_stuckPairs_17 : decode cX11_stuckPairs 17 = .ok (.istore_n 2, 1) := by decide +kernel
theorem dX11_stuckPairs_18 : decode cX11_stuckPairs 18 = .ok (.iload_n 2, 1) := by decide +kernel
theorem dX11_stuckPairs_19 : decode cX11_stuckPairs 19 = .ok (.aload_n 0, 1) := by decide +kernel
theorem dX11_stuckPairs_20 : decode cX11_stuckPairs 20 = .ok (.getfield 80, 3) := by decide +kernel
theorem dX11_stuckPairs_23 : decode cX11_stuckPairs 23 = .ok (.getfield 99, 3) := by decide +kernel
theorem dX11_stuckPairs_26 : decode cX11_stuckPairs 26 = .ok (.if_icmp .ge 63, 3) := by decide +kernel
theorem dX11_stuckPairs_29 : decode cX11_stuckPairs 29 = .ok (.iload_n 2, 1) := by decide +kernel
theorem dX11_stuckPairs_30 : decode cX11_stuckPairs 30 = .ok (.iconst 1, 1) := by decide +kernel
theorem dX11_stuckPairs_31 : decode cX11_stuckPairs 31 = .ok (.iadd, 1) := by decide +kernel
theorem dX11_stuckPairs_32 : decode cX11_stuckPairs 32 = .ok (.istore_n 3, 1) := by decide +kernel
theorem dX11_stuckPairs_33 : decode cX11_stuckPairs 33 = .ok (.iload_n 3, 1) := by decide +kernel
theorem dX11_stuckPairs_34 : decode cX11_stuckPairs 34 = .ok (.aload_n 0, 1) := by decide +kernel
theorem dX11_stuckPairs_35 : decode cX11_stuckPairs 35 = .ok (.getfield 80, 3) := by decide +kernel
theorem dX11_stuckPairs_38 : decode cX11_stuckPairs 38 = .ok (.getfield 99, 3) := by decide +kernel
theorem dX11_stuckPairs_41 : decode cX11_stuckPairs 41 = .ok (.if_icmp .ge 42, 3) := by decide +kernel
theorem dX11_stuckPairs_44 : decode cX11_stuckPairs 44 = .ok (.aload_n 0, 1) := by decide +kernel
theorem dX11_stuckPairs_45 : decode cX11_stuckPairs 45 = .ok (.getfield 23, 3) := by decide +kernel
theorem dX11_stuckPairs_48 : decode cX11_stuckPairs 48 = .ok (.iload_n 2, 1) := by decide +kernel
theorem dX11_stuckPairs_49 : decode cX11_stuckPairs 49 = .ok (.putfield 140, 3) := by decide +kernel
theorem dX11_stuckPairs_52 : decode cX11_stuckPairs 52 = .ok (.aload_n 0, 1) := by decide +kernel
theorem dX11_stuckPairs_53 : decode cX11_stuckPairs 53 = .ok (.getfield 23, 3) := by decide +kernel
theorem dX11_stuckPairs_56 : decode cX11_stuckPairs 56 = .ok (.iload_n 3, 1) := by decide +kernel
theorem dX11_stuckPairs_57 : decode cX11_stuckPairs 57 = .ok (.putfield 143, 3) := by decide +kernel
theorem dX11_stuckPairs_60 : decode cX11_stuckPairs 60 = .ok (.aload_n 0, 1) := by decide +kernel
theorem dX11_stuckPairs_61 : decode cX11_stuckPairs 61 = .ok (.getfield 80, 3) := by decide +kernel
theorem dX11_stuckPairs_64 : decode cX11_stuckPairs 64 = .ok (.aload_n 0, 1) := by decide +kernel
theorem dX11_stuckPairs_65 : decode cX11_stuckPairs 65 = .ok (.getfield 23, 3) := by decide +kernel
theorem dX11_stuckPairs_68 : decode cX11_stuckPairs 68 = .ok (.invokevirtual 214, 3) := by decide +kernel
theorem dX11_stuckPairs_71 : decode cX11_stuckPairs 71 = .ok (.ifCond .ne 6, 3) := by decide +kernel
theorem dX11_stuckPairs_74 : decode cX11_stuckPairs 74 = .ok (.iinc 1 1, 3) := by decide +kernel
theorem dX11_stuckPairs_77 : decode cX11_stuckPairs 77 = .ok (.iinc 3 1, 3) := by decide +kernel
theorem dX11_stuckPairs_80 : decode cX11_stuckPairs 80 = .ok (.goto (-47), 3) := by decide +kernel
theorem dX11_stuckPairs_83 : decode cX11_stuckPairs 83 = .ok (.iinc 2 1, 3) := by decide +kernel
theorem dX11_stuckPairs_86 : decode cX11_stuckPairs 86 = .ok (.goto (-68), 3) := by decide +kernel
theorem dX11_stuckPairs_89 : decode cX11_stuckPairs 89 = .ok (.iload_n 1, 1) := by decide +kernel
theorem dX11_stuckPairs_90 : decode cX11_stuckPairs 90 = .ok (.ireturn, 1) := by decide +kernel
theorem dX11_tryFrom_0 : decode cX11_tryFrom 0 = .ok (.iload_n 3, 1) := by decide +kernel
theorem dX11_tryFrom_1 : decode cX11_tryFrom 1 = .ok (.iload_n 2, 1) := by decide +kernel
theorem dX11_tryFrom_2 : decode cX11_tryFrom 2 = .ok (.iadd, 1) := by decide +kernel
theorem dX11_tryFrom_3 : decode cX11_tryFrom 3 = .ok (.iload_n 1, 1) := by decide +kernel
theorem dX11_tryFrom_4 : decode cX11_tryFrom 4 = .ok (.isub, 1) := by decide +kernel
theorem dX11_tryFrom_5 : decode cX11_tryFrom 5 = .ok (.aload_n 0, 1) := by decide +kernel
theorem dX11_tryFrom_6 : decode cX11_tryFrom 6 = .ok (.getfield 38, 3) := by decide +kernel
theorem dX11_tryFrom_9 : decode cX11_tryFrom 9 = .ok (.if_icmp .gt 4, 3) := by decide +kernel
theorem dX11_tryFrom_12 : decode cX11_tryFrom 12 = .ok (.return_, 1) := by decide +kernel
theorem dX11_tryFrom_13 : decode cX11_tryFrom 13 = .ok (.iload_n 1, 1) := by decide +kernel
theorem dX11_tryFrom_14 : decode cX11_tryFrom 14 = .ok (.iload_n 2, 1) := by decide +kernel
theorem dX11_tryFrom_15 : decode cX11_tryFrom 15 = .ok (.if_icmp .ge 8, 3) := by decide +kernel
theorem dX11_tryFrom_18 : decode cX11_tryFrom 18 = .ok (.iload_n 1, 1) := by decide +kernel
theorem dX11_tryFrom_19 : decode cX11_tryFrom 19 = .ok (.iconst 4, 1) := by decide +kernel
theorem dX11_tryFrom_20 : decode cX11_tryFrom 20 = .ok (.if_icmp .lt 23, 3) := by decide +kernel
theorem dX11_tryFrom_23 : decode cX11_tryFrom 23 = .ok (.aload_n 0, 1) := by decide +kernel
theorem dX11_tryFrom_24 : decode cX11_tryFrom 24 = .ok (.iload_n 3, 1) := by decide +kernel
theorem dX11_tryFrom_25 : decode cX11_tryFrom 25 = .ok (.putfield 38, 3) := by decide +kernel
theorem dX11_tryFrom_28 : decode cX11_tryFrom 28 = .ok (.aload_n 0, 1) := by decide +kernel
theorem dX11_tryFrom_29 : decode cX11_tryFrom 29 = .ok (.getfield 31, 3) := by decide +kernel
theorem dX11_tryFrom_32 : decode cX11_tryFrom 32 = .ok (.iconst 0, 1) := by decide +kernel
theorem dX11_tryFrom_33 : decode cX11_tryFrom 33 = .ok (.aload_n 0, 1) := by decide +kernel
theorem dX11_tryFrom_34 : decode cX11_tryFrom 34 = .ok (.getfield 35, 3) := by decide +kernel
theorem dX11_tryFrom_37 : decode cX11_tryFrom 37 = .ok (.iconst 0, 1) := by decide +kernel
theorem dX11_tryFrom_38 : decode cX11_tryFrom 38 = .ok (.iconst 4, 1) := by decide +kernel
theorem dX11_tryFrom_39 : decode cX11_tryFrom 39 = .ok (.invokestatic 316, 3) := by decide +kernel
theorem dX11_tryFrom_42 : decode cX11_tryFrom 42 = .ok (.return_, 1) := by decide +kernel
theorem dX11_tryFrom_43 : decode cX11_tryFrom 43 = .ok (.iconst 0, 1) := by decide +kernel
theorem dX11_tryFrom_44 : decode cX11_tryFrom 44 = .ok (.istore 4, 2) := by decide +kernel
theorem dX11_tryFrom_46 : decode cX11_tryFrom 46 = .ok (.iconst 0, 1) := by decide +kernel
theorem dX11_tryFrom_47 : decode cX11_tryFrom 47 = .ok (.istore 5, 2) := by decide +kernel
theorem dX11_tryFrom_49 : decode cX11_tryFrom 49 = .ok (.iload 5, 2) := by decide +kernel
theorem dX11_tryFrom_51 : decode cX11_tryFrom 51 = .ok (.bipush 8, 2) := by decide +kernel
theorem dX11_tryFrom_53 : decode cX11_tryFrom 53 = .ok (.if_icmp .gt 164, 3) := by decide +kernel
theorem dX11_tryFrom_56 : decode cX11_tryFrom 56 = .ok (.iload 5, 2) := by decide +kernel
theorem dX11_tryFrom_58 : decode cX11_tryFrom 58 = .ok (.bipush 8, 2) := by decide +kernel
theorem dX11_tryFrom_60 : decode cX11_tryFrom 60 = .ok (.if_icmp .ge 20, 3) := by decide +kernel
theorem dX11_tryFrom_63 : decode cX11_tryFrom 63 = .ok (.aload_n 0, 1) := by decide +kernel
theorem dX11_tryFrom_64 : decode cX11_tryFrom 64 = .ok (.getfield 27, 3) := by decide +kernel
theorem dX11_tryFrom_67 : decode cX11_tryFrom 67 = .ok (.iload_n 1, 1) := by decide +kernel
theorem dX11_tryFrom_68 : decode cX11_tryFrom 68 = .ok (.aaload, 1) := by decide +kernel
theorem dX11_tryFrom_69 : decode cX11_tryFrom 69 = .ok (.iload 5, 2) := by decide +kernel
theorem dX11_tryFrom_71 : decode cX11_tryFrom 71 = .ok (.invokevirtual 150, 3) := by decide +kernel
theorem dX11_tryFrom_74 : decode cX11_tryFrom 74 = .ok (.ifCond .eq 6, 3) := by decide +kernel
theorem dX11_tryFrom_77 : decode cX11_tryFrom 77 = .ok (.goto 134, 3) := by decide +kernel
theorem dX11_tryFrom_80 : decode cX11_tryFrom 80 = .ok (.aload_n 0, 1) := by decide +kernel
theorem dX11_tryFrom_81 : decode cX11_tryFrom 81 = .ok (.getfield 27, 3) := by decide +kernel
theorem dX11_tryFrom_84 : decode cX11_tryFrom 84 = .ok (.iload_n 1, 1) := by decide +kernel
theorem dX11_tryFrom_85 : decode cX11_tryFrom 85 = .ok (.iconst 1, 1) := by decide +kernel
theorem dX11_tryFrom_86 : decode cX11_tryFrom 86 = .ok (.iadd, 1) := by decide +kernel
theorem dX11_tryFrom_87 : decode cX11_tryFrom 87 = .ok (.aaload, 1) := by decide +kernel
theorem dX11_tryFrom_88 : decode cX11_tryFrom 88 = .ok (.astore 6, 2) := by decide +kernel
theorem dX11_tryFrom_90 : decode cX11_tryFrom 90 = .ok (.aload 6, 2) := by decide +kernel
theorem dX11_tryFrom_92 : decode cX11_tryFrom 92 = .ok (.aload_n 0, 1) := by decide +kernel
theorem dX11_tryFrom_93 : decode cX11_tryFrom 93 = .ok (.getfield 27, 3) := by decide +kernel
theorem dX11_tryFrom_96 : decode cX11_tryFrom 96 = .ok (.iload_n 1, 1) := by decide +kernel
theorem dX11_tryFrom_97 : decode cX11_tryFrom 97 = .ok (.aaload, 1) := by decide +kernel
theorem dX11_tryFrom_98 : decode cX11_tryFrom 98 = .ok (.invokevirtual 211, 3) := by decide +kernel
theorem dX11_tryFrom_101 : decode cX11_tryFrom 101 = .ok (.iload 5, 2) := by decide +kernel
theorem dX11_tryFrom_103 : decode cX11_tryFrom 103 = .ok (.bipush 8, 2) := by decide +kernel
theorem dX11_tryFrom_105 : decode cX11_tryFrom 105 = .ok (.if_icmp .ge 17, 3) := by decide +kernel
theorem dX11_tryFrom_108 : decode cX11_tryFrom 108 = .ok (.aload_n 0, 1) := by decide +kernel
theorem dX11_tryFrom_109 : decode cX11_tryFrom 109 = .ok (.getfield 80, 3) := by decide +kernel
theorem dX11_tryFrom_112 : decode cX11_tryFrom 112 = .ok (.aload 6, 2) := by decide +kernel
theorem dX11_tryFrom_114 : decode cX11_tryFrom 114 = .ok (.iload 5, 2) := by decide +kernel
theorem dX11_tryFrom_116 : decode cX11_tryFrom 116 = .ok (.invokevirtual 157, 3) := by decide +kernel
theorem dX11_tryFrom_119 : decode cX11_tryFrom 119 = .ok (.goto 4, 3) := by decide +kernel
theorem dX11_tryFrom_122 : decode cX11_tryFrom 122 = .ok (.iconst 0, 1) := by decide +kernel
theorem dX11_tryFrom_123 : decode cX11_tryFrom 123 = .ok (.istore 7, 2) := by decide +kernel
theorem dX11_tryFrom_125 : decode cX11_tryFrom 125 = .ok (.iload 7, 2) := by decide +kernel
theorem dX11_tryFrom_127 : decode cX11_tryFrom 127 = .ok (.iconst 3, 1) := by decide +kernel
theorem dX11_tryFrom_128 : decode cX11_tryFrom 128 = .ok (.if_icmp .eq 10, 3) := by decide +kernel
theorem dX11_tryFrom_131 : decode cX11_tryFrom 131 = .ok (.iload 5, 2) := by decide +kernel
theorem dX11_tryFrom_133 : decode cX11_tryFrom 133 = .ok (.bipush 8, 2) := by decide +kernel
theorem dX11_tryFrom_135 : decode cX11_tryFrom 135 = .ok (.if_icmp .ne 7, 3) := by decide +kernel
theorem dX11_tryFrom_138 : decode cX11_tryFrom 138 = .ok (.iconst 0, 1) := by decide +kernel
theorem dX11_tryFrom_139 : decode cX11_tryFrom 139 = .ok (.goto 13, 3) := by decide +kernel
theorem dX11_tryFrom_142 : decode cX11_tryFrom 142 = .ok (.iload 7, 2) := by decide +kernel
theorem dX11_tryFrom_144 : decode cX11_tryFrom 144 = .ok (.ifCond .ne 7, 3) := by decide +kernel
theorem dX11_tryFrom_147 : decode cX11_tryFrom 147 = .ok (.iconst 1, 1) := by decide +kernel
theorem dX11_tryFrom_148 : decode cX11_tryFrom 148 = .ok (.goto 4, 3) := by decide +kernel
theorem dX11_tryFrom_151 : decode cX11_tryFrom 151 = .ok (.iconst 2, 1) := by decide +kernel
theorem dX11_tryFrom_152 : decode cX11_tryFrom 152 = .ok (.istore 8, 2) := by decide +kernel
theorem dX11_tryFrom_154 : decode cX11_tryFrom 154 = .ok (.iload 4, 2) := by decide +kernel
theorem dX11_tryFrom_156 : decode cX11_tryFrom 156 = .ok (.iload 8, 2) := by decide +kernel
theorem dX11_tryFrom_158 : decode cX11_tryFrom 158 = .ok (.iand, 1) := by decide +kernel
theorem dX11_tryFrom_159 : decode cX11_tryFrom 159 = .ok (.ifCond .eq 6, 3) := by decide +kernel
theorem dX11_tryFrom_162 : decode cX11_tryFrom 162 = .ok (.goto 49, 3) := by decide +kernel
theorem dX11_tryFrom_165 : decode cX11_tryFrom 165 = .ok (.iload 4, 2) := by decide +kernel
theorem dX11_tryFrom_167 : decode cX11_tryFrom 167 = .ok (.iload 8, 2) := by decide +kernel
theorem dX11_tryFrom_169 : decode cX11_tryFrom 169 = .ok (.ior, 1) := by decide +kernel
theorem dX11_tryFrom_170 : decode cX11_tryFrom 170 = .ok (.istore 4, 2) := by decide +kernel
theorem dX11_tryFrom_172 : decode cX11_tryFrom 172 = .ok (.aload_n 0, 1) := by decide +kernel
theorem dX11_tryFrom_173 : decode cX11_tryFrom 173 = .ok (.getfield 31, 3) := by decide +kernel
theorem dX11_tryFrom_176 : decode cX11_tryFrom 176 = .ok (.iload_n 1, 1) := by decide +kernel
theorem dX11_tryFrom_177 : decode cX11_tryFrom 177 = .ok (.iload 5, 2) := by decide +kernel
theorem dX11_tryFrom_179 : decode cX11_tryFrom 179 = .ok (.iastore, 1) := by decide +kernel
theorem dX11_tryFrom_180 : decode cX11_tryFrom 180 = .ok (.aload_n 0, 1) := by decide +kernel
theorem dX11_tryFrom_181 : decode cX11_tryFrom 181 = .ok (.getfield 80, 3) := by decide +kernel
theorem dX11_tryFrom_184 : decode cX11_tryFrom 184 = .ok (.aload 6, 2) := by decide +kernel
theorem dX11_tryFrom_186 : decode cX11_tryFrom 186 = .ok (.iconst 1, 1) := by decide +kernel
theorem dX11_tryFrom_187 : decode cX11_tryFrom 187 = .ok (.invokevirtual 161, 3) := by decide +kernel
theorem dX11_tryFrom_190 : decode cX11_tryFrom 190 = .ok (.aload_n 0, 1) := by decide +kernel
theorem dX11_tryFrom_191 : decode cX11_tryFrom 191 = .ok (.iload_n 1, 1) := by decide +kernel
theorem dX11_tryFrom_192 : decode cX11_tryFrom 192 = .ok (.iconst 1, 1) := by decide +kernel
theorem dX11_tryFrom_193 : decode cX11_tryFrom 193 = .ok (.iadd, 1) := by decide +kernel
theorem dX11_tryFrom_194 : decode cX11_tryFrom 194 = .ok (.iload_n 2, 1) := by decide +kernel
theorem dX11_tryFrom_195 : decode cX11_tryFrom 195 = .ok (.iload 7, 2) := by decide +kernel
theorem dX11_tryFrom_197 : decode cX11_tryFrom 197 = .ok (.iconst 3, 1) := by decide +kernel
theorem dX11_tryFrom_198 : decode cX11_tryFrom 198 = .ok (.if_icmp .ne 9, 3) := by decide +kernel
theorem dX11_tryFrom_201 : decode cX11_tryFrom 201 = .ok (.iload_n 3, 1) := by decide +kernel
theorem dX11_tryFrom_202 : decode cX11_tryFrom 202 = .ok (.iconst 1, 1) := by decide +kernel
theorem dX11_tryFrom_203 : decode cX11_tryFrom 203 = .ok (.iadd, 1) := by decide +kernel
theorem dX11_tryFrom_204 : decode cX11_tryFrom 204 = .ok (.goto 4, 3) := by decide +kernel
theorem dX11_tryFrom_207 : decode cX11_tryFrom 207 = .ok (.iload_n 3, 1) := by decide +kernel
theorem dX11_tryFrom_208 : decode cX11_tryFrom 208 = .ok (.invokevirtual 224, 3) := by decide +kernel
theorem dX11_tryFrom_211 : decode cX11_tryFrom 211 = .ok (.iinc 5 1, 3) := by decide +kernel
theorem dX11_tryFrom_214 : decode cX11_tryFrom 214 = .ok (.goto (-165), 3) := by decide +kernel
theorem dX11_tryFrom_217 : decode cX11_tryFrom 217 = .ok (.return_, 1) := by decide +kernel
theorem dX11_kindsThatFit_0 : decode cX11_kindsThatFit 0 = .ok (.iconst 0, 1) := by decide +kernel
theorem dX11_kindsThatFit_1 : decode cX11_kindsThatFit 1 = .ok (.istore_n 2, 1) := by decide +kernel
theorem dX11_kindsThatFit_2 : decode cX11_kindsThatFit 2 = .ok (.iconst 0, 1) := by decide +kernel
theorem dX11_kindsThatFit_3 : decode cX11_kindsThatFit 3 = .ok (.istore_n 3, 1) := by decide +kernel
theorem dX11_kindsThatFit_4 : decode cX11_kindsThatFit 4 = .ok (.iload_n 3, 1) := by decide +kernel
theorem dX11_kindsThatFit_5 : decode cX11_kindsThatFit 5 = .ok (.bipush 6, 2) := by decide +kernel
theorem dX11_kindsThatFit_7 : decode cX11_kindsThatFit 7 = .ok (.if_icmp .ge 27, 3) := by decide +kernel
theorem dX11_kindsThatFit_10 : decode cX11_kindsThatFit 10 = .ok (.aload_n 0, 1) := by decide +kernel
theorem dX11_kindsThatFit_11 : decode cX11_kindsThatFit 11 = .ok (.getfield 80, 3) := by decide +kernel
theorem dX11_kindsThatFit_14 : decode cX11_kindsThatFit 14 = .ok (.iload_n 1, 1) := by decide +kernel
theorem dX11_kindsThatFit_15 : decode cX11_kindsThatFit 15 = .ok (.iload_n 3, 1) := by decide +kernel
theorem dX11_kindsThatFit_16 : decode cX11_kindsThatFit 16 = .ok (.invokevirtual 261, 3) := by decide +kernel
theorem dX11_kindsThatFit_19 : decode cX11_kindsThatFit 19 = .ok (.ifCond .eq 9, 3) := by decide +kernel
theorem dX11_kindsThatFit_22 : decode cX11_kindsThatFit 22 = .ok (.iload_n 2, 1) := by decide +kernel
theorem dX11_kindsThatFit_23 : decode cX11_kindsThatFit 23 = .ok (.iconst 1, 1) := by decide +kernel
theorem dX11_kindsThatFit_24 : decode cX11_kindsThatFit 24 = .ok (.iload_n 3, 1) := by decide +kernel
theorem dX11_kindsThatFit_25 : decode cX11_kindsThatFit 25 = .ok (.ishl, 1) := by decide +kernel
theorem dX11_kindsThatFit_26 : decode cX11_kindsThatFit 26 = .ok (.ior, 1) := by decide +kernel
theorem dX11_kindsThatFit_27 : decode cX11_kindsThatFit 27 = .ok (.istore_n 2, 1) := by decide +kernel
theorem dX11_kindsThatFit_28 : decode cX11_kindsThatFit 28 = .ok (.iinc 3 1, 3) := by decide +kernel
theorem dX11_kindsThatFit_31 : decode cX11_kindsThatFit 31 = .ok (.goto (-27), 3) := by decide +kernel
theorem dX11_kindsThatFit_34 : decode cX11_kindsThatFit 34 = .ok (.iload_n 2, 1) := by decide +kernel
theorem dX11_kindsThatFit_35 : decode cX11_kindsThatFit 35 = .ok (.ireturn, 1) := by decide +kernel
theorem dX11_gain_0 : decode cX11_gain 0 = .ok (.iload_n 2, 1) := by decide +kernel
theorem dX11_gain_1 : decode cX11_gain 1 = .ok (.ifCond .eq 32, 3) := by decide +kernel
theorem dX11_gain_4 : decode cX11_gain 4 = .ok (.iload_n 3, 1) := by decide +kernel
theorem dX11_gain_5 : decode cX11_gain 5 = .ok (.ifCond .eq 28, 3) := by decide +kernel
theorem dX11_gain_8 : decode cX11_gain 8 = .ok (.aload_n 0, 1) := by decide +kernel
theorem dX11_gain_9 : decode cX11_gain 9 = .ok (.iload_n 1, 1) := by decide +kernel
theorem dX11_gain_10 : decode cX11_gain 10 = .ok (.invokevirtual 322, 3) := by decide +kernel
theorem dX11_gain_13 : decode cX11_gain 13 = .ok (.ifCond .eq 5, 3) := by decide +kernel
theorem dX11_gain_16 : decode cX11_gain 16 = .ok (.iconst 2, 1) := by decide +kernel
theorem dX11_gain_17 : decode cX11_gain 17 = .ok (.ireturn, 1) := by decide +kernel
theorem dX11_gain_18 : decode cX11_gain 18 = .ok (.aload_n 0, 1) := by decide +kernel
theorem dX11_gain_19 : decode cX11_gain 19 = .ok (.iload_n 1, 1) := by decide +kernel
theorem dX11_gain_20 : decode cX11_gain 20 = .ok (.invokevirtual 325, 3) := by decide +kernel
theorem dX11_gain_23 : decode cX11_gain 23 = .ok (.ifCond .eq 8, 3) := by decide +kernel
theorem dX11_gain_26 : decode cX11_gain 26 = .ok (.bipush (-2), 2) := by decide +kernel
theorem dX11_gain_28 : decode cX11_gain 28 = .ok (.goto 4, 3) := by decide +kernel
theorem dX11_gain_31 : decode cX11_gain 31 = .ok (.iconst 0, 1) := by decide +kernel
theorem dX11_gain_32 : decode cX11_gain 32 = .ok (.ireturn, 1) := by decide +kernel
theorem dX11_gain_33 : decode cX11_gain 33 = .ok (.iload_n 2, 1) := by decide +kernel
theorem dX11_gain_34 : decode cX11_gain 34 = .ok (.ifCond .eq 5, 3) := by decide +kernel
theorem dX11_gain_37 : decode cX11_gain 37 = .ok (.iconst (-1), 1) := by decide +kernel
theorem dX11_gain_38 : decode cX11_gain 38 = .ok (.ireturn, 1) := by decide +kernel
theorem dX11_gain_39 : decode cX11_gain 39 = .ok (.iload_n 3, 1) := by decide +kernel
theorem dX11_gain_40 : decode cX11_gain 40 = .ok (.ifCond .eq 7, 3) := by decide +kernel
theorem dX11_gain_43 : decode cX11_gain 43 = .ok (.iconst 1, 1) := by decide +kernel
theorem dX11_gain_44 : decode cX11_gain 44 = .ok (.goto 4, 3) := by decide +kernel
theorem dX11_gain_47 : decode cX11_gain 47 = .ok (.iconst 0, 1) := by decide +kernel
theorem dX11_gain_48 : decode cX11_gain 48 = .ok (.ireturn, 1) := by decide +kernel
theorem dX11_setFraction_0 : decode cX11_setFraction 0 = .ok (.iload_n 2, 1) := by decide +kernel
theorem dX11_setFraction_1 : decode cX11_setFraction 1 = .ok (.istore_n 3, 1) := by decide +kernel
theorem dX11_setFraction_2 : decode cX11_setFraction 2 = .ok (.iload_n 1, 1) := by decide +kernel
theorem dX11_setFraction_3 : decode cX11_setFraction 3 = .ok (.istore 4, 2) := by decide +kernel
theorem dX11_setFraction_5 : decode cX11_setFraction 5 = .ok (.iconst 0, 1) := by decide +kernel
theorem dX11_setFraction_6 : decode cX11_setFraction 6 = .ok (.istore 5, 2) := by decide +kernel
theorem dX11_setFraction_8 : decode cX11_setFraction 8 = .ok (.iload 5, 2) := by decide +kernel
theorem dX11_setFraction_10 : decode cX11_setFraction 10 = .ok (.bipush 100, 2) := by decide +kernel
theorem dX11_setFraction_12 : decode cX11_setFraction 12 = .ok (.if_icmp .ge 27, 3) := by decide +kernel
theorem dX11_setFraction_15 : decode cX11_setFraction 15 = .ok (.iload 4, 2) := by decide +kernel
theorem dX11_setFraction_17 : decode cX11_setFraction 17 = .ok (.ifCond .le 22, 3) := by decide +kernel
theorem dX11_setFraction_20 : decode cX11_setFraction 20 = .ok (.iload_n 3, 1) := by decide +kernel
theorem dX11_setFraction_21 : decode cX11_setFraction 21 = .ok (.iload 4, 2) := by decide +kernel
theorem dX11_setFraction_23 : decode cX11_setFraction 23 = .ok (.irem, 1) := by decide +kernel
theorem dX11_setFraction_24 : decode cX11_setFraction 24 = .ok (.istore 6, 2) := by decide +kernel
theorem dX11_setFraction_26 : decode cX11_setFraction 26 = .ok (.iload 4, 2) := by decide +kernel
theorem dX11_setFraction_28 : decode cX11_setFraction 28 = .ok (.istore_n 3, 1) := by decide +kernel
theorem dX11_setFraction_29 : decode cX11_setFraction 29 = .ok (.iload 6, 2) := by decide +kernel
theorem dX11_setFraction_31 : decode cX11_setFraction 31 = .ok (.istore 4, 2) := by decide +kernel
theorem dX11_setFraction_33 : decode cX11_setFraction 33 = .ok (.iinc 5 1, 3) := by decide +kernel
theorem dX11_setFraction_36 : decode cX11_setFraction 36 = .ok (.goto (-28), 3) := by decide +kernel
theorem dX11_setFraction_39 : decode cX11_setFraction 39 = .ok (.iload_n 3, 1) := by decide +kernel
theorem dX11_setFraction_40 : decode cX11_setFraction 40 = .ok (.ifCond .gt 4, 3) := by decide +kernel
theorem dX11_setFraction_43 : decode cX11_setFraction 43 = .ok (.return_, 1) := by decide +kernel
theorem dX11_setFraction_44 : decode cX11_setFraction 44 = .ok (.aload_n 0, 1) := by decide +kernel
theorem dX11_setFraction_45 : decode cX11_setFraction 45 = .ok (.iload_n 1, 1) := by decide +kernel
theorem dX11_setFraction_46 : decode cX11_setFraction 46 = .ok (.iload_n 3, 1) := by decide +kernel
theorem dX11_setFraction_47 : decode cX11_setFraction 47 = .ok (.idiv, 1) := by decide +kernel
theorem dX11_setFraction_48 : decode cX11_setFraction 48 = .ok (.putfield 42, 3) := by decide +kernel
theorem dX11_setFraction_51 : decode cX11_setFraction 51 = .ok (.aload_n 0, 1) := by decide +kernel
theorem dX11_setFraction_52 : decode cX11_setFraction 52 = .ok (.iload_n 2, 1) := by decide +kernel
theorem dX11_setFraction_53 : decode cX11_setFraction 53 = .ok (.iload_n 3, 1) := by decide +kernel
theorem dX11_setFraction_54 : decode cX11_setFraction 54 = .ok (.idiv, 1) := by decide +kernel
theorem dX11_setFraction_55 : decode cX11_setFraction 55 = .ok (.putfield 45, 3) := by decide +kernel
theorem dX11_setFraction_58 : decode cX11_setFraction 58 = .ok (.return_, 1) := by decide +kernel
theorem dX11_howMany_0 : decode cX11_howMany 0 = .ok (.iload_n 1, 1) := by decide +kernel
theorem dX11_howMany_1 : decode cX11_howMany 1 = .ok (.tableswitch 99 0 5 #[39, 47, 58, 69, 83, 91], 39) := by decide +kernel
theorem dX11_howMany_40 : decode cX11_howMany 40 = .ok (.aload_n 0, 1) := by decide +kernel
theorem dX11_howMany_41 : decode cX11_howMany 41 = .ok (.getfield 80, 3) := by decide +kernel
theorem dX11_howMany_44 : decode cX11_howMany 44 = .ok (.getfield 99, 3) := by decide +kernel
theorem dX11_howMany_47 : decode cX11_howMany 47 = .ok (.ireturn, 1) := by decide +kernel
theorem dX11_howMany_48 : decode cX11_howMany 48 = .ok (.aload_n 0, 1) := by decide +kernel
theorem dX11_howMany_49 : decode cX11_howMany 49 = .ok (.getfield 80, 3) := by decide +kernel
theorem dX11_howMany_52 : decode cX11_howMany 52 = .ok (.getfield 137, 3) := by decide +kernel
theorem dX11_howMany_55 : decode cX11_howMany 55 = .ok (.getfield 177, 3) := by decide +kernel
theorem dX11_howMany_58 : decode cX11_howMany 58 = .ok (.ireturn, 1) := by decide +kernel
theorem dX11_howMany_59 : decode cX11_howMany 59 = .ok (.aload_n 0, 1) := by decide +kernel
theorem dX11_howMany_60 : decode cX11_howMany 60 = .ok (.getfield 80, 3) := by decide +kernel
theorem dX11_howMany_63 : decode cX11_howMany 63 = .ok (.getfield 137, 3) := by decide +kernel
theorem dX11_howMany_66 : decode cX11_howMany 66 = .ok (.getfield 165, 3) := by decide +kernel
theorem dX11_howMany_69 : decode cX11_howMany 69 = .ok (.ireturn, 1) := by decide +kernel
theorem dX11_howMany_70 : decode cX11_howMany 70 = .ok (.aload_n 0, 1) := by decide +kernel
theorem dX11_howMany_71 : decode cX11_howMany 71 = .ok (.getfield 80, 3) := by decide +kernel
theorem dX11_howMany_74 : decode cX11_howMany 74 = .ok (.getfield 137, 3) := by decide +kernel
theorem dX11_howMany_77 : decode cX11_howMany 77 = .ok (.getfield 295, 3) := by decide +kernel
theorem dX11_howMany_80 : decode cX11_howMany 80 = .ok (.invokestatic 264, 3) := by decide +kernel
theorem dX11_howMany_83 : decode cX11_howMany 83 = .ok (.ireturn, 1) := by decide +kernel
theorem dX11_howMany_84 : decode cX11_howMany 84 = .ok (.aload_n 0, 1) := by decide +kernel
theorem dX11_howMany_85 : decode cX11_howMany 85 = .ok (.getfield 80, 3) := by decide +kernel
theorem dX11_howMany_88 : decode cX11_howMany 88 = .ok (.getfield 241, 3) := by decide +kernel
theorem dX11_howMany_91 : decode cX11_howMany 91 = .ok (.ireturn, 1) := by decide +kernel
theorem dX11_howMany_92 : decode cX11_howMany 92 = .ok (.aload_n 0, 1) := by decide +kernel
theorem dX11_howMany_93 : decode cX11_howMany 93 = .ok (.getfield 80, 3) := by decide +kernel
theorem dX11_howMany_96 : decode cX11_howMany 96 = .ok (.getfield 171, 3) := by decide +kernel
theorem dX11_howMany_99 : decode cX11_howMany 99 = .ok (.ireturn, 1) := by decide +kernel
theorem dX11_howMany_100 : decode cX11_howMany 100 = .ok (.aload_n 0, 1) := by decide +kernel
theorem dX11_howMany_101 : decode cX11_howMany 101 = .ok (.getfield 16, 3) := by decide +kernel
theorem dX11_howMany_104 : decode cX11_howMany 104 = .ok (.getfield 113, 3) := by decide +kernel
theorem dX11_howMany_107 : decode cX11_howMany 107 = .ok (.ireturn, 1) := by decide +kernel
theorem dX12_bad_0 : decode cX12_bad 0 = .ok (.aload_n 0, 1) := by decide +kernel
theorem dX12_bad_1 : decode cX12_bad 1 = .ok (.getfield 1, 3) := by decide +kernel
theorem dX12_bad_4 : decode cX12_bad 4 = .ok (.iconst 0, 1) := by decide +kernel
theorem dX12_bad_5 : decode cX12_bad 5 = .ok (.dup2, 1) := by decide +kernel
theorem dX12_bad_6 : decode cX12_bad 6 = .ok (.iaload, 1) := by decide +kernel
theorem dX12_bad_7 : decode cX12_bad 7 = .ok (.iconst 1, 1) := by decide +kernel
theorem dX12_bad_8 : decode cX12_bad 8 = .ok (.iadd, 1) := by decide +kernel
theorem dX12_bad_9 : decode cX12_bad 9 = .ok (.iastore, 1) := by decide +kernel
theorem dX12_bad_10 : decode cX12_bad 10 = .ok (.bipush (-2), 2) := by decide +kernel
theorem dX12_bad_12 : decode cX12_bad 12 = .ok (.ireturn, 1) := by decide +kernel
theorem dX12_ten_0 : decode cX12_ten 0 = .ok (.aload_n 0, 1) := by decide +kernel
theorem dX12_ten_1 : decode cX12_ten 1 = .ok (.getfield 1, 3) := by decide +kernel
theorem dX12_ten_4 : decode cX12_ten 4 = .ok (.iconst 0, 1) := by decide +kernel
theorem dX12_ten_5 : decode cX12_ten 5 = .ok (.dup2, 1) := by decide +kernel
theorem dX12_ten_6 : decode cX12_ten 6 = .ok (.iaload, 1) := by decide +kernel
theorem dX12_ten_7 : decode cX12_ten 7 = .ok (.iconst 1, 1) := by decide +kernel
theorem dX12_ten_8 : decode cX12_ten 8 = .ok (.iadd, 1) := by decide +kernel
theorem dX12_ten_9 : decode cX12_ten 9 = .ok (.iastore, 1) := by decide +kernel
theorem dX12_ten_10 : decode cX12_ten 10 = .ok (.bipush (-10), 2) := by decide +kernel
theorem dX12_ten_12 : decode cX12_ten 12 = .ok (.ireturn, 1) := by decide +kernel
theorem dX12_no_0 : decode cX12_no 0 = .ok (.aload_n 0, 1) := by decide +kernel
theorem dX12_no_1 : decode cX12_no 1 = .ok (.getfield 1, 3) := by decide +kernel
theorem dX12_no_4 : decode cX12_no 4 = .ok (.iconst 1, 1) := by decide +kernel
theorem dX12_no_5 : decode cX12_no 5 = .ok (.dup2, 1) := by decide +kernel
theorem dX12_no_6 : decode cX12_no 6 = .ok (.iaload, 1) := by decide +kernel
theorem dX12_no_7 : decode cX12_no 7 = .ok (.iconst 1, 1) := by decide +kernel
theorem dX12_no_8 : decode cX12_no 8 = .ok (.iadd, 1) := by decide +kernel
theorem dX12_no_9 : decode cX12_no 9 = .ok (.iastore, 1) := by decide +kernel
theorem dX12_no_10 : decode cX12_no 10 = .ok (.bipush (-3), 2) := by decide +kernel
theorem dX12_no_12 : decode cX12_no 12 = .ok (.ireturn, 1) := by decide +kernel
theorem dX12_full_0 : decode cX12_full 0 = .ok (.aload_n 0, 1) := by decide +kernel
theorem dX12_full_1 : decode cX12_full 1 = .ok (.getfield 1, 3) := by decide +kernel
theorem dX12_full_4 : decode cX12_full 4 = .ok (.iconst 2, 1) := by decide +kernel
theorem dX12_full_5 : decode cX12_full 5 = .ok (.dup2, 1) := by decide +kernel
theorem dX12_full_6 : decode cX12_full 6 = .ok (.iaload, 1) := by decide +kernel
theorem dX12_full_7 : decode cX12_full 7 = .ok (.iconst 1, 1) := by decide +kernel
theorem dX12_full_8 : decode cX12_full 8 = .ok (.iadd, 1) := by decide +kernel
theorem dX12_full_9 : decode cX12_full 9 = .ok (.iastore, 1) := by decide +kernel
theorem dX12_full_10 : decode cX12_full 10 = .ok (.bipush (-4), 2) := by decide +kernel
theorem dX12_full_12 : decode cX12_full 12 = .ok (.ireturn, 1) := by decide +kernel
theorem dX12_in_0 : decode cX12_in 0 = .ok (.iload_n 0, 1) := by decide +kernel
theorem dX12_in_1 : decode cX12_in 1 = .ok (.iload_n 1, 1) := by decide +kernel
theorem dX12_in_2 : decode cX12_in 2 = .ok (.if_icmp .lt 12, 3) := by decide +kernel
theorem dX12_in_5 : decode cX12_in 5 = .ok (.iload_n 0, 1) := by decide +kernel
theorem dX12_in_6 : decode cX12_in 6 = .ok (.iload_n 2, 1) := by decide +kernel
theorem dX12_in_7 : decode cX12_in 7 = .ok (.if_icmp .gt 7, 3) := by decide +kernel
theorem dX12_in_10 : decode cX12_in 10 = .ok (.iconst 1, 1) := by decide +kernel
theorem dX12_in_11 : decode cX12_in 11 = .ok (.goto 4, 3) := by decide +kernel
theorem dX12_in_14 : decode cX12_in 14 = .ok (.iconst 0, 1) := by decide +kernel
theorem dX12_in_15 : decode cX12_in 15 = .ok (.ireturn, 1) := by decide +kernel
theorem dX12_has_0 : decode cX12_has 0 = .ok (.iload_n 0, 1) := by decide +kernel
theorem dX12_has_1 : decode cX12_has 1 = .ok (.iload_n 1, 1) := by decide +kernel
theorem dX12_has_2 : decode cX12_has 2 = .ok (.ishr, 1) := by decide +kernel
theorem dX12_has_3 : decode cX12_has 3 = .ok (.iconst 1, 1) := by decide +kernel
theorem dX12_has_4 : decode cX12_has 4 = .ok (.iand, 1) := by decide +kernel
theorem dX12_has_5 : decode cX12_has 5 = .ok (.iconst 1, 1) := by decide +kernel
theorem dX12_has_6 : decode cX12_has 6 = .ok (.if_icmp .ne 7, 3) := by decide +kernel
theorem dX12_has_9 : decode cX12_has 9 = .ok (.iconst 1, 1) := by decide +kernel
theorem dX12_has_10 : decode cX12_has 10 = .ok (.goto 4, 3) := by decide +kernel
theorem dX12_has_13 : decode cX12_has 13 = .ok (.iconst 0, 1) := by decide +kernel
theorem dX12_has_14 : decode cX12_has 14 = .ok (.ireturn, 1) := by decide +kernel
theorem dX12_bits_0 : decode cX12_bits 0 = .ok (.iconst 0, 1) := by decide +kernel
theorem dX12_bits_1 : decode cX12_bits 1 = .ok (.istore_n 1, 1) := by decide +kernel
theorem dX12_bits_2 : decode cX12_bits 2 = .ok (.iconst 0, 1) := by decide +kernel
theorem dX12_bits_3 : decode cX12_bits 3 = .ok (.istore_n 2, 1) := by decide +kernel
theorem dX12_bits_4 : decode cX12_bits 4 = .ok (.iload_n 2, 1) := by decide +kernel
theorem dX12_bits_5 : decode cX12_bits 5 = .ok (.bipush 8, 2) := by decide +kernel
theorem dX12_bits_7 : decode cX12_bits 7 = .ok (.if_icmp .ge 17, 3) := by decide +kernel
theorem dX12_bits_10 : decode cX12_bits 10 = .ok (.iload_n 1, 1) := by decide +kernel
theorem dX12_bits_11 : decode cX12_bits 11 = .ok (.iload_n 0, 1) := by decide +kernel
theorem dX12_bits_12 : decode cX12_bits 12 = .ok (.iload_n 2, 1) := by decide +kernel
theorem dX12_bits_13 : decode cX12_bits 13 = .ok (.ishr, 1) := by decide +kernel
theorem dX12_bits_14 : decode cX12_bits 14 = .ok (.iconst 1, 1) := by decide +kernel
theorem dX12_bits_15 : decode cX12_bits 15 = .ok (.iand, 1) := by decide +kernel
theorem dX12_bits_16 : decode cX12_bits 16 = .ok (.iadd, 1) := by decide +kernel
theorem dX12_bits_17 : decode cX12_bits 17 = .ok (.istore_n 1, 1) := by decide +kernel
theorem dX12_bits_18 : decode cX12_bits 18 = .ok (.iinc 2 1, 3) := by decide +kernel
theorem dX12_bits_21 : decode cX12_bits 21 = .ok (.goto (-17), 3) := by decide +kernel
theorem dX12_bits_24 : decode cX12_bits 24 = .ok (.iload_n 1, 1) := by decide +kernel
theorem dX12_bits_25 : decode cX12_bits 25 = .ok (.ireturn, 1) := by decide +kernel
theorem dX12_kept_0 : decode cX12_kept 0 = .ok (.iload_n 0, 1) := by decide +kernel
theorem dX12_kept_1 : decode cX12_kept 1 = .ok (.ifCond .ge 7, 3) := by decide +kernel
theorem dX12_kept_4 : decode cX12_kept 4 = .ok (.iconst 0, 1) := by decide +kernel
theorem dX12_kept_5 : decode cX12_kept 5 = .ok (.goto 15, 3) := by decide +kernel
theorem dX12_kept_8 : decode cX12_kept 8 = .ok (.iload_n 0, 1) := by decide +kernel
theorem dX12_kept_9 : decode cX12_kept 9 = .ok (.bipush 99, 2) := by decide +kernel
theorem dX12_kept_11 : decode cX12_kept 11 = .ok (.if_icmp .le 8, 3) := by decide +kernel
theorem dX12_kept_14 : decode cX12_kept 14 = .ok (.bipush 99, 2) := by decide +kernel
theorem dX12_kept_16 : decode cX12_kept 16 = .ok (.goto 4, 3) := by decide +kernel
theorem dX12_kept_19 : decode cX12_kept 19 = .ok (.iload_n 0, 1) := by decide +kernel
theorem dX12_kept_20 : decode cX12_kept 20 = .ok (.ireturn, 1) := by decide +kernel
theorem dX12_init_0 : decode cX12_init 0 = .ok (.aload_n 0, 1) := by decide +kernel
theorem dX12_init_1 : decode cX12_init 1 = .ok (.invokespecial 7, 3) := by decide +kernel
theorem dX12_init_4 : decode cX12_init 4 = .ok (.aload_n 0, 1) := by decide +kernel
theorem dX12_init_5 : decode cX12_init 5 = .ok (.iconst 3, 1) := by decide +kernel
theorem dX12_init_6 : decode cX12_init 6 = .ok (.newarray .int, 2) := by decide +kernel
theorem dX12_init_8 : decode cX12_init 8 = .ok (.putfield 1, 3) := by decide +kernel
theorem dX12_init_11 : decode cX12_init 11 = .ok (.aload_n 0, 1) := by decide +kernel
theorem dX12_init_12 : decode cX12_init 12 = .ok (.bipush 50, 2) := by decide +kernel
theorem dX12_init_14 : decode cX12_init 14 = .ok (.putfield 13, 3) := by decide +kernel
theorem dX12_init_17 : decode cX12_init 17 = .ok (.aload_n 0, 1) := by decide +kernel
theorem dX12_init_18 : decode cX12_init 18 = .ok (.iconst (-1), 1) := by decide +kernel
theorem dX12_init_19 : decode cX12_init 19 = .ok (.putfield 17, 3) := by decide +kernel
theorem dX12_init_22 : decode cX12_init 22 = .ok (.aload_n 0, 1) := by decide +kernel
theorem dX12_init_23 : decode cX12_init 23 = .ok (.iconst (-1), 1) := by decide +kernel
theorem dX12_init_24 : decode cX12_init 24 = .ok (.putfield 20, 3) := by decide +kernel
theorem dX12_init_27 : decode cX12_init 27 = .ok (.aload_n 0, 1) := by decide +kernel
theorem dX12_init_28 : decode cX12_init 28 = .ok (.bipush 6, 2) := by decide +kernel
theorem dX12_init_30 : decode cX12_init 30 = .ok (.newarray .int, 2) := by decide +kernel
theorem dX12_init_32 : decode cX12_init 32 = .ok (.putfield 23, 3) := by decide +kernel
theorem dX12_init_35 : decode cX12_init 35 = .ok (.aload_n 0, 1) := by decide +kernel
theorem dX12_init_36 : decode cX12_init 36 = .ok (.bipush 6, 2) := by decide +kernel
theorem dX12_init_38 : decode cX12_init 38 = .ok (.newarray .int, 2) := by decide +kernel
theorem dX12_init_40 : decode cX12_init 40 = .ok (.putfield 26, 3) := by decide +kernel
theorem dX12_init_43 : decode cX12_init 43 = .ok (.aload_n 0, 1) := by decide +kernel
theorem dX12_init_44 : decode cX12_init 44 = .ok (.bipush 6, 2) := by decide +kernel
theorem dX12_init_46 : decode cX12_init 46 = .ok (.newarray .int, 2) := by decide +kernel
theorem dX12_init_48 : decode cX12_init 48 = .ok (.putfield 29, 3) := by decide +kernel
theorem dX12_init_51 : decode cX12_init 51 = .ok (.aload_n 0, 1) := by decide +kernel
theorem dX12_init_52 : decode cX12_init 52 = .ok (.bipush 6, 2) := by decide +kernel
theorem dX12_init_54 : decode cX12_init 54 = .ok (.newarray .int, 2) := by decide +kernel
theorem dX12_init_56 : decode cX12_init 56 = .ok (.putfield 32, 3) := by decide +kernel
theorem dX12_init_59 : decode cX12_init 59 = .ok (.aload_n 0, 1) := by decide +kernel
theorem dX12_init_60 : decode cX12_init 60 = .ok (.bipush 6, 2) := by decide +kernel
theorem dX12_init_62 : decode cX12_init 62 = .ok (.newarray .int, 2) := by decide +kernel
theorem dX12_init_64 : decode cX12_init 64 = .ok (.putfield 35, 3) := by decide +kernel
theorem dX12_init_67 : decode cX12_init 67 = .ok (.aload_n 0, 1) := by decide +kernel
theorem dX12_init_68 : decode cX12_init 68 = .ok (.bipush 6, 2) := by decide +kernel
theorem dX12_init_70 : decode cX12_init 70 = .ok (.newarray .int, 2) := by decide +kernel
theorem dX12_init_72 : decode cX12_init 72 = .ok (.putfield 38, 3) := by decide +kernel
theorem dX12_init_75 : decode cX12_init 75 = .ok (.aload_n 0, 1) := by decide +kernel
theorem dX12_init_76 : decode cX12_init 76 = .ok (.bipush 6, 2) := by decide +kernel
theorem dX12_init_78 : decode cX12_init 78 = .ok (.newarray .int, 2) := by decide +kernel
theorem dX12_init_80 : decode cX12_init 80 = .ok (.putfield 41, 3) := by decide +kernel
theorem dX12_init_83 : decode cX12_init 83 = .ok (.aload_n 0, 1) := by decide +kernel
theorem dX12_init_84 : decode cX12_init 84 = .ok (.bipush 6, 2) := by decide +kernel
theorem dX12_init_86 : decode cX12_init 86 = .ok (.newarray .int, 2) := by decide +kernel
theorem dX12_init_88 : decode cX12_init 88 = .ok (.putfield 44, 3) := by decide +kernel
theorem dX12_init_91 : decode cX12_init 91 = .ok (.aload_n 0, 1) := by decide +kernel
theorem dX12_init_92 : decode cX12_init 92 = .ok (.bipush 6, 2) := by decide +kernel
theorem dX12_init_94 : decode cX12_init 94 = .ok (.newarray .int, 2) := by decide +kernel
theorem dX12_init_96 : decode cX12_init 96 = .ok (.putfield 47, 3) := by decide +kernel
theorem dX12_init_99 : decode cX12_init 99 = .ok (.aload_n 0, 1) := by decide +kernel
theorem dX12_init_100 : decode cX12_init 100 = .ok (.sipush 150, 3) := by decide +kernel
theorem dX12_init_103 : decode cX12_init 103 = .ok (.newarray .int, 2) := by decide +kernel
theorem dX12_init_105 : decode cX12_init 105 = .ok (.putfield 50, 3) := by decide +kernel
theorem dX12_init_108 : decode cX12_init 108 = .ok (.aload_n 0, 1) := by decide +kernel
theorem dX12_init_109 : decode cX12_init 109 = .ok (.bipush 24, 2) := by decide +kernel
theorem dX12_init_111 : decode cX12_init 111 = .ok (.newarray .int, 2) := by decide +kernel
theorem dX12_init_113 : decode cX12_init 113 = .ok (.putfield 53, 3) := by decide +kernel
theorem dX12_init_116 : decode cX12_init 116 = .ok (.aload_n 0, 1) := by decide +kernel
theorem dX12_init_117 : decode cX12_init 117 = .ok (.bipush 40, 2) := by decide +kernel
theorem dX12_init_119 : decode cX12_init 119 = .ok (.newarray .int, 2) := by decide +kernel
theorem dX12_init_121 : decode cX12_init 121 = .ok (.putfield 56, 3) := by decide +kernel
theorem dX12_init_124 : decode cX12_init 124 = .ok (.aload_n 0, 1) := by decide +kernel
theorem dX12_init_125 : decode cX12_init 125 = .ok (.iconst 5, 1) := by decide +kernel
theorem dX12_init_126 : decode cX12_init 126 = .ok (.newarray .int, 2) := by decide +kernel
theorem dX12_init_128 : decode cX12_init 128 = .ok (.putfield 59, 3) := by decide +kernel
theorem dX12_init_131 : decode cX12_init 131 = .ok (.aload_n 0, 1) := by decide +kernel
theorem dX12_init_132 : decode cX12_init 132 = .ok (.iconst 4, 1) := by decide +kernel
theorem dX12_init_133 : decode cX12_init 133 = .ok (.newarray .int, 2) := by decide +kernel
theorem dX12_init_135 : decode cX12_init 135 = .ok (.putfield 62, 3) := by decide +kernel
theorem dX12_init_138 : decode cX12_init 138 = .ok (.aload_n 0, 1) := by decide +kernel
theorem dX12_init_139 : decode cX12_init 139 = .ok (.iconst 4, 1) := by decide +kernel
theorem dX12_init_140 : decode cX12_init 140 = .ok (.newarray .int, 2) := by decide +kernel
theorem dX12_init_142 : decode cX12_init 142 = .ok (.putfield 65, 3) := by decide +kernel
theorem dX12_init_145 : decode cX12_init 145 = .ok (.aload_n 0, 1) := by decide +kernel
theorem dX12_init_146 : decode cX12_init 146 = .ok (.lconst 1, 1) := by decide +kernel
theorem dX12_init_147 : decode cX12_init 147 = .ok (.putfield 68, 3) := by decide +kernel
theorem dX12_init_150 : decode cX12_init 150 = .ok (.aload_n 0, 1) := by decide +kernel
theorem dX12_init_151 : decode cX12_init 151 = .ok (.sipush 204, 3) := by decide +kernel
theorem dX12_init_154 : decode cX12_init 154 = .ok (.newarray .int, 2) := by decide +kernel
theorem dX12_init_156 : decode cX12_init 156 = .ok (.putfield 72, 3) := by decide +kernel
theorem dX12_init_159 : decode cX12_init 159 = .ok (.aload_n 0, 1) := by decide +kernel
theorem dX12_init_160 : decode cX12_init 160 = .ok (.iconst 2, 1) := by decide +kernel
theorem dX12_init_161 : decode cX12_init 161 = .ok (.newarray .int, 2) := by decide +kernel
theorem dX12_init_163 : decode cX12_init 163 = .ok (.putfield 75, 3) := by decide +kernel
theorem dX12_init_166 : decode cX12_init 166 = .ok (.aload_n 0, 1) := by decide +kernel
theorem dX12_init_167 : decode cX12_init 167 = .ok (.bipush 50, 2) := by decide +kernel
theorem dX12_init_169 : decode cX12_init 169 = .ok (.invokevirtual 78, 3) := by decide +kernel
theorem dX12_init_172 : decode cX12_init 172 = .ok (.return_, 1) := by decide +kernel
theorem dX12_begin_0 : decode cX12_begin 0 = .ok (.aload_n 0, 1) := by decide +kernel
theorem dX12_begin_1 : decode cX12_begin 1 = .ok (.iload_n 1, 1) := by decide +kernel
theorem dX12_begin_2 : decode cX12_begin 2 = .ok (.putfield 13, 3) := by decide +kernel
theorem dX12_begin_5 : decode cX12_begin 5 = .ok (.aload_n 0, 1) := by decide +kernel
theorem dX12_begin_6 : decode cX12_begin 6 = .ok (.iconst 0, 1) := by decide +kernel
theorem dX12_begin_7 : decode cX12_begin 7 = .ok (.putfield 82, 3) := by decide +kernel
theorem dX12_begin_10 : decode cX12_begin 10 = .ok (.aload_n 0, 1) := by decide +kernel
theorem dX12_begin_11 : decode cX12_begin 11 = .ok (.iconst 0, 1) := by decide +kernel
theorem dX12_begin_12 : decode cX12_begin 12 = .ok (.putfield 85, 3) := by decide +kernel
theorem dX12_begin_15 : decode cX12_begin 15 = .ok (.aload_n 0, 1) := by decide +kernel
theorem dX12_begin_16 : decode cX12_begin 16 = .ok (.iconst 0, 1) := by decide +kernel
theorem dX12_begin_17 : decode cX12_begin 17 = .ok (.putfield 88, 3) := by decide +kernel
theorem dX12_begin_20 : decode cX12_begin 20 = .ok (.aload_n 0, 1) := by decide +kernel
theorem dX12_begin_21 : decode cX12_begin 21 = .ok (.iconst (-1), 1) := by decide +kernel
theorem dX12_begin_22 : decode cX12_begin 22 = .ok (.putfield 17, 3) := by decide +kernel
theorem dX12_begin_25 : decode cX12_begin 25 = .ok (.aload_n 0, 1) := by decide +kernel
theorem dX12_begin_26 : decode cX12_begin 26 = .ok (.iconst (-1), 1) := by decide +kernel
theorem dX12_begin_27 : decode cX12_begin 27 = .ok (.putfield 20, 3) := by decide +kernel
theorem dX12_begin_30 : decode cX12_begin 30 = .ok (.aload_n 0, 1) := by decide +kernel
theorem dX12_begin_31 : decode cX12_begin 31 = .ok (.iconst 0, 1) := by decide +kernel
theorem dX12_begin_32 : decode cX12_begin 32 = .ok (.putfield 91, 3) := by decide +kernel
theorem dX12_begin_35 : decode cX12_begin 35 = .ok (.aload_n 0, 1) := by decide +kernel
theorem dX12_begin_36 : decode cX12_begin 36 = .ok (.iconst 0, 1) := by decide +kernel
theorem dX12_begin_37 : decode cX12_begin 37 = .ok (.putfield 94, 3) := by decide +kernel
theorem dX12_begin_40 : decode cX12_begin 40 = .ok (.return_, 1) := by decide +kernel
theorem dX12_isHeir_0 : decode cX12_isHeir 0 = .ok (.iload_n 1, 1) := by decide +kernel
theorem dX12_isHeir_1 : decode cX12_isHeir 1 = .ok (.iconst 0, 1) := by decide +kernel
theorem dX12_isHeir_2 : decode cX12_isHeir 2 = .ok (.aload_n 0, 1) := by decide +kernel
theorem dX12_isHeir_3 : decode cX12_isHeir 3 = .ok (.getfield 82, 3) := by decide +kernel
theorem dX12_isHeir_6 : decode cX12_isHeir 6 = .ok (.iconst 1, 1) := by decide +kernel
theorem dX12_isHeir_7 : decode cX12_isHeir 7 = .ok (.isub, 1) := by decide +kernel
theorem dX12_isHeir_8 : decode cX12_isHeir 8 = .ok (.invokestatic 97, 3) := by decide +kernel
theorem dX12_isHeir_11 : decode cX12_isHeir 11 = .ok (.ireturn, 1) := by decide +kernel
theorem dX12_isAct_0 : decode cX12_isAct 0 = .ok (.iload_n 0, 1) := by decide +kernel
theorem dX12_isAct_1 : decode cX12_isAct 1 = .ok (.iconst 0, 1) := by decide +kernel
theorem dX12_isAct_2 : decode cX12_isAct 2 = .ok (.bipush 7, 2) := by decide +kernel
theorem dX12_isAct_4 : decode cX12_isAct 4 = .ok (.invokestatic 97, 3) := by decide +kernel
theorem dX12_isAct_7 : decode cX12_isAct 7 = .ok (.ireturn, 1) := by decide +kernel
theorem dX12_isPair_0 : decode cX12_isPair 0 = .ok (.aload_n 0, 1) := by decide +kernel
theorem dX12_isPair_1 : decode cX12_isPair 1 = .ok (.getfield 17, 3) := by decide +kernel
theorem dX12_isPair_4 : decode cX12_isPair 4 = .ok (.iconst (-1), 1) := by decide +kernel
theorem dX12_isPair_5 : decode cX12_isPair 5 = .ok (.if_icmp .eq 7, 3) := by decide +kernel
theorem dX12_isPair_8 : decode cX12_isPair 8 = .ok (.iconst 1, 1) := by decide +kernel
theorem dX12_isPair_9 : decode cX12_isPair 9 = .ok (.goto 4, 3) := by decide +kernel
theorem dX12_isPair_12 : decode cX12_isPair 12 = .ok (.iconst 0, 1) := by decide +kernel
theorem dX12_isPair_13 : decode cX12_isPair 13 = .ok (.ireturn, 1) := by decide +kernel
theorem dX12_court_0 : decode cX12_court 0 = .ok (.iload_n 1, 1) := by decide +kernel
theorem dX12_court_1 : decode cX12_court 1 = .ok (.iconst 0, 1) := by decide +kernel
theorem dX12_court_2 : decode cX12_court 2 = .ok (.bipush 99, 2) := by decide +kernel
theorem dX12_court_4 : decode cX12_court 4 = .ok (.invokestatic 97, 3) := by decide +kernel
theorem dX12_court_7 : decode cX12_court 7 = .ok (.ifCond .ne 8, 3) := by decide +kernel
theorem dX12_court_10 : decode cX12_court 10 = .ok (.aload_n 0, 1) := by decide +kernel
theorem dX12_court_11 : decode cX12_court 11 = .ok (.invokevirtual 101, 3) := by decide +kernel
theorem dX12_court_14 : decode cX12_court 14 = .ok (.ireturn, 1) := by decide +kernel
theorem dX12_court_15 : decode cX12_court 15 = .ok (.aload_n 0, 1) := by decide +kernel
theorem dX12_court_16 : decode cX12_court 16 = .ok (.getfield 82, 3) := by decide +kernel
theorem dX12_court_19 : decode cX12_court 19 = .ok (.istore_n 2, 1) := by decide +kernel
theorem dX12_court_20 : decode cX12_court 20 = .ok (.aload_n 0, 1) := by decide +kernel
theorem dX12_court_21 : decode cX12_court 21 = .ok (.iload_n 1, 1) := by decide +kernel
theorem dX12_court_22 : decode cX12_court 22 = .ok (.invokevirtual 78, 3) := by decide +kernel
theorem dX12_court_25 : decode cX12_court 25 = .ok (.iload_n 2, 1) := by decide +kernel
theorem dX12_court_26 : decode cX12_court 26 = .ok (.ireturn, 1) := by decide +kernel
theorem dX12_addHeir_0 : decode cX12_addHeir 0 = .ok (.aload_n 0, 1) := by decide +kernel
theorem dX12_addHeir_1 : decode cX12_addHeir 1 = .ok (.getfield 23, 3) := by decide +kernel
theorem dX12_addHeir_4 : decode cX12_addHeir 4 = .ok (.aload_n 0, 1) := by decide +kernel
theorem dX12_addHeir_5 : decode cX12_addHeir 5 = .ok (.getfield 82, 3) := by decide +kernel
theorem dX12_addHeir_8 : decode cX12_addHeir 8 = .ok (.iload_n 1, 1) := by decide +kernel
theorem dX12_addHeir_9 : decode cX12_addHeir 9 = .ok (.iastore, 1) := by decide +kernel
theorem dX12_addHeir_10 : decode cX12_addHeir 10 = .ok (.aload_n 0, 1) := by decide +kernel
theorem dX12_addHeir_11 : decode cX12_addHeir 11 = .ok (.getfield 26, 3) := by decide +kernel
theorem dX12_addHeir_14 : decode cX12_addHeir 14 = .ok (.aload_n 0, 1) := by decide +kernel
theorem dX12_addHeir_15 : decode cX12_addHeir 15 = .ok (.getfield 82, 3) := by decide +kernel
theorem dX12_addHeir_18 : decode cX12_addHeir 18 = .ok (.iload_n 2, 1) := by decide +kernel
theorem dX12_addHeir_19 : decode cX12_addHeir 19 = .ok (.iastore, 1) := by decide +kernel
theorem dX12_addHeir_20 : decode cX12_addHeir 20 = .ok (.aload_n 0, 1) := by decide +kernel
theorem dX12_addHeir_21 : decode cX12_addHeir 21 = .ok (.getfield 29, 3) := by decide +kernel
theorem dX12_addHeir_24 : decode cX12_addHeir 24 = .ok (.aload_n 0, 1) := by decide +kernel
theorem dX12_addHeir_25 : decode cX12_addHeir 25 = .ok (.getfield 82, 3) := by decide +kernel
theorem dX12_addHeir_28 : decode cX12_addHeir 28 = .ok (.iload_n 3, 1) := by decide +kernel
theorem dX12_addHeir_29 : decode cX12_addHeir 29 = .ok (.iastore, 1) := by decide +kernel
theorem dX12_addHeir_30 : decode cX12_addHeir 30 = .ok (.aload_n 0, 1) := by decide +kernel
theorem dX12_addHeir_31 : decode cX12_addHeir 31 = .ok (.getfield 32, 3) := by decide +kernel
theorem dX12_addHeir_34 : decode cX12_addHeir 34 = .ok (.aload_n 0, 1) := by decide +kernel
theorem dX12_addHeir_35 : decode cX12_addHeir 35 = .ok (.getfield 82, 3) := by decide +kernel
theorem dX12_addHeir_38 : decode cX12_addHeir 38 = .ok (.iload 4, 2) := by decide +kernel
theorem dX12_addHeir_40 : decode cX12_addHeir 40 = .ok (.iastore, 1) := by decide +kernel
theorem dX12_addHeir_41 : decode cX12_addHeir 41 = .ok (.aload_n 0, 1) := by decide +kernel
theorem dX12_addHeir_42 : decode cX12_addHeir 42 = .ok (.dup, 1) := by decide +kernel
theorem dX12_addHeir_43 : decode cX12_addHeir 43 = .ok (.getfield 82, 3) := by decide +kernel
theorem dX12_addHeir_46 : decode cX12_addHeir 46 = .ok (.iconst 1, 1) := by decide +kernel
theorem dX12_addHeir_47 : decode cX12_addHeir 47 = .ok (.iadd, 1) := by decide +kernel
theorem dX12_addHeir_48 : decode cX12_addHeir 48 = .ok (.putfield 82, 3) := by decide +kernel
theorem dX12_addHeir_51 : decode cX12_addHeir 51 = .ok (.aload_n 0, 1) := by decide +kernel
theorem dX12_addHeir_52 : decode cX12_addHeir 52 = .ok (.iconst 0, 1) := by decide +kernel
theorem dX12_addHeir_53 : decode cX12_addHeir 53 = .ok (.putfield 94, 3) := by decide +kernel
theorem dX12_addHeir_56 : decode cX12_addHeir 56 = .ok (.aload_n 0, 1) := by decide +kernel
theorem dX12_addHeir_57 : decode cX12_addHeir 57 = .ok (.getfield 82, 3) := by decide +kernel
theorem dX12_addHeir_60 : decode cX12_addHeir 60 = .ok (.iconst 1, 1) := by decide +kernel
theorem dX12_addHeir_61 : decode cX12_addHeir 61 = .ok (.isub, 1) := by decide +kernel
theorem dX12_addHeir_62 : decode cX12_addHeir 62 = .ok (.ireturn, 1) := by decide +kernel
theorem dX12_heir_0 : decode cX12_heir 0 = .ok (.iload_n 1, 1) := by decide +kernel
theorem dX12_heir_1 : decode cX12_heir 1 = .ok (.iconst 0, 1) := by decide +kernel
theorem dX12_heir_2 : decode cX12_heir 2 = .ok (.iconst 5, 1) := by decide +kernel
theorem dX12_heir_3 : decode cX12_heir 3 = .ok (.invokestatic 97, 3) := by decide +kernel
theorem dX12_heir_6 : decode cX12_heir 6 = .ok (.ifCond .eq 36, 3) := by decide +kernel
theorem dX12_heir_9 : decode cX12_heir 9 = .ok (.iload_n 2, 1) := by decide +kernel
theorem dX12_heir_10 : decode cX12_heir 10 = .ok (.iconst 0, 1) := by decide +kernel
theorem dX12_heir_11 : decode cX12_heir 11 = .ok (.sipush 255, 3) := by decide +kernel
theorem dX12_heir_14 : decode cX12_heir 14 = .ok (.invokestatic 97, 3) := by decide +kernel
theorem dX12_heir_17 : decode cX12_heir 17 = .ok (.ifCond .eq 25, 3) := by decide +kernel
theorem dX12_heir_20 : decode cX12_heir 20 = .ok (.iload_n 3, 1) := by decide +kernel
theorem dX12_heir_21 : decode cX12_heir 21 = .ok (.iconst 0, 1) := by decide +kernel
theorem dX12_heir_22 : decode cX12_heir 22 = .ok (.sipush 255, 3) := by decide +kernel
theorem dX12_heir_25 : decode cX12_heir 25 = .ok (.invokestatic 97, 3) := by decide +kernel
theorem dX12_heir_28 : decode cX12_heir 28 = .ok (.ifCond .eq 14, 3) := by decide +kernel
theorem dX12_heir_31 : decode cX12_heir 31 = .ok (.iload 4, 2) := by decide +kernel
theorem dX12_heir_33 : decode cX12_heir 33 = .ok (.iconst 0, 1) := by decide +kernel
theorem dX12_heir_34 : decode cX12_heir 34 = .ok (.bipush 20, 2) := by decide +kernel
theorem dX12_heir_36 : decode cX12_heir 36 = .ok (.invokestatic 97, 3) := by decide +kernel
theorem dX12_heir_39 : decode cX12_heir 39 = .ok (.ifCond .ne 8, 3) := by decide +kernel
theorem dX12_heir_42 : decode cX12_heir 42 = .ok (.aload_n 0, 1) := by decide +kernel
theorem dX12_heir_43 : decode cX12_heir 43 = .ok (.invokevirtual 101, 3) := by decide +kernel
theorem dX12_heir_46 : decode cX12_heir 46 = .ok (.ireturn, 1) := by decide +kernel
theorem dX12_heir_47 : decode cX12_heir 47 = .ok (.aload_n 0, 1) := by decide +kernel
theorem dX12_heir_48 : decode cX12_heir 48 = .ok (.getfield 82, 3) := by decide +kernel
theorem dX12_heir_51 : decode cX12_heir 51 = .ok (.bipush 6, 2) := by decide +kernel
theorem dX12_heir_53 : decode cX12_heir 53 = .ok (.if_icmp .ne 10, 3) := by decide +kernel
theorem dX12_heir_56 : decode cX12_heir 56 = .ok (.aload_n 0, 1) := by decide +kernel
theorem dX12_heir_57 : decode cX12_heir 57 = .ok (.invokevirtual 105, 3) := by decide +kernel
theorem dX12_heir_60 : decode cX12_heir 60 = .ok (.goto 12, 3) := by decide +kernel
theorem dX12_heir_63 : decode cX12_heir 63 = .ok (.aload_n 0, 1) := by decide +kernel
theorem dX12_heir_64 : decode cX12_heir 64 = .ok (.iload_n 1, 1) := by decide +kernel
theorem dX12_heir_65 : decode cX12_heir 65 = .ok (.iload_n 2, 1) := by decide +kernel
theorem dX12_heir_66 : decode cX12_heir 66 = .ok (.iload_n 3, 1) := by decide +kernel
theorem dX12_heir_67 : decode cX12_heir 67 = .ok (.iload 4, 2) := by decide +kernel
theorem dX12_heir_69 : decode cX12_heir 69 = .ok (.invokevirtual 108, 3) := by decide +kernel
theorem dX12_heir_72 : decode cX12_heir 72 = .ok (.ireturn, 1) := by decide +kernel
theorem dX12_type_0 : decode cX12_type 0 = .ok (.iload_n 1, 1) := by decide +kernel
theorem dX12_type_1 : decode cX12_type 1 = .ok (.iconst 0, 1) := by decide +kernel
theorem dX12_type_2 : decode cX12_type 2 = .ok (.bipush 127, 2) := by decide +kernel
theorem dX12_type_4 : decode cX12_type 4 = .ok (.invokestatic 97, 3) := by decide +kernel
theorem dX12_type_7 : decode cX12_type 7 = .ok (.ifCond .ne 8, 3) := by decide +kernel
theorem dX12_type_10 : decode cX12_type 10 = .ok (.aload_n 0, 1) := by decide +kernel
theorem dX12_type_11 : decode cX12_type 11 = .ok (.invokevirtual 101, 3) := by decide +kernel
theorem dX12_type_14 : decode cX12_type 14 = .ok (.ireturn, 1) := by decide +kernel
theorem dX12_type_15 : decode cX12_type 15 = .ok (.aload_n 0, 1) := by decide +kernel
theorem dX12_type_16 : decode cX12_type 16 = .ok (.getfield 112, 3) := by decide +kernel
theorem dX12_type_19 : decode cX12_type 19 = .ok (.sipush 150, 3) := by decide +kernel
theorem dX12_type_22 : decode cX12_type 22 = .ok (.if_icmp .ne 8, 3) := by decide +kernel
theorem dX12_type_25 : decode cX12_type 25 = .ok (.aload_n 0, 1) := by decide +kernel
theorem dX12_type_26 : decode cX12_type 26 = .ok (.invokevirtual 105, 3) := by decide +kernel
theorem dX12_type_29 : decode cX12_type 29 = .ok (.ireturn, 1) := by decide +kernel
theorem dX12_type_30 : decode cX12_type 30 = .ok (.aload_n 0, 1) := by decide +kernel
theorem dX12_type_31 : decode cX12_type 31 = .ok (.getfield 50, 3) := by decide +kernel
theorem dX12_type_34 : decode cX12_type 34 = .ok (.aload_n 0, 1) := by decide +kernel
theorem dX12_type_35 : decode cX12_type 35 = .ok (.getfield 112, 3) := by decide +kernel
theorem dX12_type_38 : decode cX12_type 38 = .ok (.iload_n 1, 1) := by decide +kernel
theorem dX12_type_39 : decode cX12_type 39 = .ok (.iastore, 1) := by decide +kernel
theorem dX12_type_40 : decode cX12_type 40 = .ok (.aload_n 0, 1) := by decide +kernel
theorem dX12_type_41 : decode cX12_type 41 = .ok (.dup, 1) := by decide +kernel
theorem dX12_type_42 : decode cX12_type 42 = .ok (.getfield 112, 3) := by decide +kernel
theorem dX12_type_45 : decode cX12_type 45 = .ok (.iconst 1, 1) := by decide +kernel
theorem dX12_type_46 : decode cX12_type 46 = .ok (.iadd, 1) := by decide +kernel
theorem dX12_type_47 : decode cX12_type 47 = .ok (.putfield 112, 3) := by decide +kernel
theorem dX12_type_50 : decode cX12_type 50 = .ok (.aload_n 0, 1) := by decide +kernel
theorem dX12_type_51 : decode cX12_type 51 = .ok (.getfield 112, 3) := by decide +kernel
theorem dX12_type_54 : decode cX12_type 54 = .ok (.ireturn, 1) := by decide +kernel
theorem dX12_clear_0 : decode cX12_clear 0 = .ok (.aload_n 0, 1) := by decide +kernel
theorem dX12_clear_1 : decode cX12_clear 1 = .ok (.getfield 112, 3) := by decide +kernel
theorem dX12_clear_4 : decode cX12_clear 4 = .ok (.istore_n 1, 1) := by decide +kernel
theorem dX12_clear_5 : decode cX12_clear 5 = .ok (.aload_n 0, 1) := by decide +kernel
theorem dX12_clear_6 : decode cX12_clear 6 = .ok (.iconst 0, 1) := by decide +kernel
theorem dX12_clear_7 : decode cX12_clear 7 = .ok (.putfield 112, 3) := by decide +kernel
theorem dX12_clear_10 : decode cX12_clear 10 = .ok (.iload_n 1, 1) := by decide +kernel
theorem dX12_clear_11 : decode cX12_clear 11 = .ok (.ireturn, 1) := by decide +kernel
theorem dX12_here_0 : decode cX12_here 0 = .ok (.aload_n 0, 1) := by decide +kernel
theorem dX12_here_1 : decode cX12_here 1 = .ok (.getfield 115, 3) := by decide +kernel
theorem dX12_here_4 : decode cX12_here 4 = .ok (.aload_n 0, 1) := by decide +kernel
theorem dX12_here_5 : decode cX12_here 5 = .ok (.getfield 112, 3) := by decide +kernel
theorem dX12_here_8 : decode cX12_here 8 = .ok (.if_icmp .ge 15, 3) := by decide +kernel
theorem dX12_here_11 : decode cX12_here 11 = .ok (.aload_n 0, 1) := by decide +kernel
theorem dX12_here_12 : decode cX12_here 12 = .ok (.getfield 50, 3) := by decide +kernel
theorem dX12_here_15 : decode cX12_here 15 = .ok (.aload_n 0, 1) := by decide +kernel
theorem dX12_here_16 : decode cX12_here 16 = .ok (.getfield 115, 3) := by decide +kernel
theorem dX12_here_19 : decode cX12_here 19 = .ok (.iaload, 1) := by decide +kernel
theorem dX12_here_20 : decode cX12_here 20 = .ok (.goto 4, 3) := by decide +kernel
theorem dX12_here_23 : decode cX12_here 23 = .ok (.iconst (-1), 1) := by decide +kernel
theorem dX12_here_24 : decode cX12_here 24 = .ok (.ireturn, 1) := by decide +kernel
theorem dX12_skip_0 : decode cX12_skip 0 = .ok (.aload_n 0, 1) := by decide +kernel
theorem dX12_skip_1 : decode cX12_skip 1 = .ok (.invokevirtual 118, 3) := by decide +kernel
theorem dX12_skip_4 : decode cX12_skip 4 = .ok (.bipush 32, 2) := by decide +kernel
theorem dX12_skip_6 : decode cX12_skip 6 = .ok (.if_icmp .ne 16, 3) := by decide +kernel
theorem dX12_skip_9 : decode cX12_skip 9 = .ok (.aload_n 0, 1) := by decide +kernel
theorem dX12_skip_10 : decode cX12_skip 10 = .ok (.dup, 1) := by decide +kernel
theorem dX12_skip_11 : decode cX12_skip 11 = .ok (.getfield 115, 3) := by decide +kernel
theorem dX12_skip_14 : decode cX12_skip 14 = .ok (.iconst 1, 1) := by decide +kernel
theorem dX12_skip_15 : decode cX12_skip 15 = .ok (.iadd, 1) := by decide +kernel
theorem dX12_skip_16 : decode cX12_skip 16 = .ok (.putfield 115, 3) := by decide +kernel
theorem dX12_skip_19 : decode cX12_skip 19 = .ok (.goto (-19), 3) := by decide +kernel
theorem dX12_skip_22 : decode cX12_skip 22 = .ok (.return_, 1) := by decide +kernel
theorem dX12_isLetter_0 : decode cX12_isLetter 0 = .ok (.iload_n 0, 1) := by decide +kernel
theorem dX12_isLetter_1 : decode cX12_isLetter 1 = .ok (.bipush 97, 2) := by decide +kernel
theorem dX12_isLetter_3 : decode cX12_isLetter 3 = .ok (.bipush 122, 2) := by decide +kernel
theorem dX12_isLetter_5 : decode cX12_isLetter 5 = .ok (.invokestatic 97, 3) := by decide +kernel
theorem dX12_isLetter_8 : decode cX12_isLetter 8 = .ok (.ireturn, 1) := by decide +kernel
theorem dX12_isFigure_0 : decode cX12_isFigure 0 = .ok (.iload_n 0, 1) := by decide +kernel
theorem dX12_isFigure_1 : decode cX12_isFigure 1 = .ok (.bipush 48, 2) := by decide +kernel
theorem dX12_isFigure_3 : decode cX12_isFigure 3 = .ok (.bipush 57, 2) := by decide +kernel
theorem dX12_isFigure_5 : decode cX12_isFigure 5 = .ok (.invokestatic 97, 3) := by decide +kernel
theorem dX12_isFigure_8 : decode cX12_isFigure 8 = .ok (.ireturn, 1) := by decide +kernel
theorem dX12_wordSize_0 : decode cX12_wordSize 0 = .ok (.iconst 0, 1) := by decide +kernel
theorem dX12_wordSize_1 : decode cX12_wordSize 1 = .ok (.istore_n 1, 1) := by decide +kernel
theorem dX12_wordSize_2 : decode cX12_wordSize 2 = .ok (.aload_n 0, 1) := by decide +kernel
theorem dX12_wordSize_3 : decode cX12_wordSize 3 = .ok (.getfield 115, 3) := by decide +kernel
theorem dX12_wordSize_6 : decode cX12_wordSize 6 = .ok (.iload_n 1, 1) := by decide +kernel
theorem dX12_wordSize_7 : decode cX12_wordSize 7 = .ok (.iadd, 1) := by decide +kernel
theorem dX12_wordSize_8 : decode cX12_wordSize 8 = .ok (.aload_n 0, 1) := by decide +kernel
end
section
theorem dX12_wordSize_9 : decode cX12_wordSize 9 = .ok (.getfield 112, 3) := by decide +kernel
theorem dX12_wordSize_12 : decode cX12_wordSize 12 = .ok (.if_icmp .ge 26, 3) := by decide +kernel
theorem dX12_wordSize_15 : decode cX12_wordSize 15 = .ok (.aload_n 0, 1) := by decide +kernel
theorem dX12_wordSize_16 : decode cX12_wordSize 16 = .ok (.getfield 50, 3) := by decide +kernel
theorem dX12_wordSize_19 : decode cX12_wordSize 19 = .ok (.aload_n 0, 1) := by decide +kernel
theorem dX12_wordSize_20 : decode cX12_wordSize 20 = .ok (.getfield 115, 3) := by decide +kernel
theorem dX12_wordSize_23 : decode cX12_wordSize 23 = .ok (.iload_n 1, 1) := by decide +kernel
theorem dX12_wordSize_24 : decode cX12_wordSize 24 = .ok (.iadd, 1) := by decide +kernel
theorem dX12_wordSize_25 : decode cX12_wordSize 25 = .ok (.iaload, 1) := by decide +kernel
theorem dX12_wordSize_26 : decode cX12_wordSize 26 = .ok (.invokestatic 121, 3) := by decide +kernel
theorem dX12_wordSize_29 : decode cX12_wordSize 29 = .ok (.ifCond .eq 9, 3) := by decide +kernel
theorem dX12_wordSize_32 : decode cX12_wordSize 32 = .ok (.iinc 1 1, 3) := by decide +kernel
theorem dX12_wordSize_35 : decode cX12_wordSize 35 = .ok (.goto (-33), 3) := by decide +kernel
theorem dX12_wordSize_38 : decode cX12_wordSize 38 = .ok (.iload_n 1, 1) := by decide +kernel
theorem dX12_wordSize_39 : decode cX12_wordSize 39 = .ok (.ireturn, 1) := by decide +kernel
theorem dX12_letter_0 : decode cX12_letter 0 = .ok (.aload_n 0, 1) := by decide +kernel
theorem dX12_letter_1 : decode cX12_letter 1 = .ok (.getfield 50, 3) := by decide +kernel
theorem dX12_letter_4 : decode cX12_letter 4 = .ok (.aload_n 0, 1) := by decide +kernel
theorem dX12_letter_5 : decode cX12_letter 5 = .ok (.getfield 115, 3) := by decide +kernel
theorem dX12_letter_8 : decode cX12_letter 8 = .ok (.iload_n 1, 1) := by decide +kernel
theorem dX12_letter_9 : decode cX12_letter 9 = .ok (.iadd, 1) := by decide +kernel
theorem dX12_letter_10 : decode cX12_letter 10 = .ok (.iaload, 1) := by decide +kernel
theorem dX12_letter_11 : decode cX12_letter 11 = .ok (.ireturn, 1) := by decide +kernel
theorem dX12_spells_0 : decode cX12_spells 0 = .ok (.aload_n 0, 1) := by decide +kernel
theorem dX12_spells_1 : decode cX12_spells 1 = .ok (.invokevirtual 125, 3) := by decide +kernel
theorem dX12_spells_4 : decode cX12_spells 4 = .ok (.iconst 4, 1) := by decide +kernel
theorem dX12_spells_5 : decode cX12_spells 5 = .ok (.if_icmp .ne 44, 3) := by decide +kernel
theorem dX12_spells_8 : decode cX12_spells 8 = .ok (.aload_n 0, 1) := by decide +kernel
theorem dX12_spells_9 : decode cX12_spells 9 = .ok (.iconst 0, 1) := by decide +kernel
theorem dX12_spells_10 : decode cX12_spells 10 = .ok (.invokevirtual 128, 3) := by decide +kernel
theorem dX12_spells_13 : decode cX12_spells 13 = .ok (.iload_n 1, 1) := by decide +kernel
theorem dX12_spells_14 : decode cX12_spells 14 = .ok (.if_icmp .ne 35, 3) := by decide +kernel
theorem dX12_spells_17 : decode cX12_spells 17 = .ok (.aload_n 0, 1) := by decide +kernel
theorem dX12_spells_18 : decode cX12_spells 18 = .ok (.iconst 1, 1) := by decide +kernel
theorem dX12_spells_19 : decode cX12_spells 19 = .ok (.invokevirtual 128, 3) := by decide +kernel
theorem dX12_spells_22 : decode cX12_spells 22 = .ok (.iload_n 2, 1) := by decide +kernel
theorem dX12_spells_23 : decode cX12_spells 23 = .ok (.if_icmp .ne 26, 3) := by decide +kernel
theorem dX12_spells_26 : decode cX12_spells 26 = .ok (.aload_n 0, 1) := by decide +kernel
theorem dX12_spells_27 : decode cX12_spells 27 = .ok (.iconst 2, 1) := by decide +kernel
theorem dX12_spells_28 : decode cX12_spells 28 = .ok (.invokevirtual 128, 3) := by decide +kernel
theorem dX12_spells_31 : decode cX12_spells 31 = .ok (.iload_n 3, 1) := by decide +kernel
theorem dX12_spells_32 : decode cX12_spells 32 = .ok (.if_icmp .ne 17, 3) := by decide +kernel
theorem dX12_spells_35 : decode cX12_spells 35 = .ok (.aload_n 0, 1) := by decide +kernel
theorem dX12_spells_36 : decode cX12_spells 36 = .ok (.iconst 3, 1) := by decide +kernel
theorem dX12_spells_37 : decode cX12_spells 37 = .ok (.invokevirtual 128, 3) := by decide +kernel
theorem dX12_spells_40 : decode cX12_spells 40 = .ok (.iload 4, 2) := by decide +kernel
theorem dX12_spells_42 : decode cX12_spells 42 = .ok (.if_icmp .ne 7, 3) := by decide +kernel
theorem dX12_spells_45 : decode cX12_spells 45 = .ok (.iconst 1, 1) := by decide +kernel
theorem dX12_spells_46 : decode cX12_spells 46 = .ok (.goto 4, 3) := by decide +kernel
theorem dX12_spells_49 : decode cX12_spells 49 = .ok (.iconst 0, 1) := by decide +kernel
theorem dX12_spells_50 : decode cX12_spells 50 = .ok (.ireturn, 1) := by decide +kernel
theorem dX12_wordHere_0 : decode cX12_wordHere 0 = .ok (.aload_n 0, 1) := by decide +kernel
theorem dX12_wordHere_1 : decode cX12_wordHere 1 = .ok (.invokevirtual 125, 3) := by decide +kernel
theorem dX12_wordHere_4 : decode cX12_wordHere 4 = .ok (.iconst 5, 1) := by decide +kernel
theorem dX12_wordHere_5 : decode cX12_wordHere 5 = .ok (.if_icmp .ne 57, 3) := by decide +kernel
theorem dX12_wordHere_8 : decode cX12_wordHere 8 = .ok (.aload_n 0, 1) := by decide +kernel
theorem dX12_wordHere_9 : decode cX12_wordHere 9 = .ok (.iconst 0, 1) := by decide +kernel
theorem dX12_wordHere_10 : decode cX12_wordHere 10 = .ok (.invokevirtual 128, 3) := by decide +kernel
theorem dX12_wordHere_13 : decode cX12_wordHere 13 = .ok (.bipush 99, 2) := by decide +kernel
theorem dX12_wordHere_15 : decode cX12_wordHere 15 = .ok (.if_icmp .ne 47, 3) := by decide +kernel
theorem dX12_wordHere_18 : decode cX12_wordHere 18 = .ok (.aload_n 0, 1) := by decide +kernel
theorem dX12_wordHere_19 : decode cX12_wordHere 19 = .ok (.iconst 1, 1) := by decide +kernel
theorem dX12_wordHere_20 : decode cX12_wordHere 20 = .ok (.invokevirtual 128, 3) := by decide +kernel
theorem dX12_wordHere_23 : decode cX12_wordHere 23 = .ok (.bipush 111, 2) := by decide +kernel
theorem dX12_wordHere_25 : decode cX12_wordHere 25 = .ok (.if_icmp .ne 37, 3) := by decide +kernel
theorem dX12_wordHere_28 : decode cX12_wordHere 28 = .ok (.aload_n 0, 1) := by decide +kernel
theorem dX12_wordHere_29 : decode cX12_wordHere 29 = .ok (.iconst 2, 1) := by decide +kernel
theorem dX12_wordHere_30 : decode cX12_wordHere 30 = .ok (.invokevirtual 128, 3) := by decide +kernel
theorem dX12_wordHere_33 : decode cX12_wordHere 33 = .ok (.bipush 117, 2) := by decide +kernel
theorem dX12_wordHere_35 : decode cX12_wordHere 35 = .ok (.if_icmp .ne 27, 3) := by decide +kernel
theorem dX12_wordHere_38 : decode cX12_wordHere 38 = .ok (.aload_n 0, 1) := by decide +kernel
theorem dX12_wordHere_39 : decode cX12_wordHere 39 = .ok (.iconst 3, 1) := by decide +kernel
theorem dX12_wordHere_40 : decode cX12_wordHere 40 = .ok (.invokevirtual 128, 3) := by decide +kernel
theorem dX12_wordHere_43 : decode cX12_wordHere 43 = .ok (.bipush 114, 2) := by decide +kernel
theorem dX12_wordHere_45 : decode cX12_wordHere 45 = .ok (.if_icmp .ne 17, 3) := by decide +kernel
theorem dX12_wordHere_48 : decode cX12_wordHere 48 = .ok (.aload_n 0, 1) := by decide +kernel
theorem dX12_wordHere_49 : decode cX12_wordHere 49 = .ok (.iconst 4, 1) := by decide +kernel
theorem dX12_wordHere_50 : decode cX12_wordHere 50 = .ok (.invokevirtual 128, 3) := by decide +kernel
theorem dX12_wordHere_53 : decode cX12_wordHere 53 = .ok (.bipush 116, 2) := by decide +kernel
theorem dX12_wordHere_55 : decode cX12_wordHere 55 = .ok (.if_icmp .ne 7, 3) := by decide +kernel
theorem dX12_wordHere_58 : decode cX12_wordHere 58 = .ok (.iconst 1, 1) := by decide +kernel
theorem dX12_wordHere_59 : decode cX12_wordHere 59 = .ok (.goto 4, 3) := by decide +kernel
theorem dX12_wordHere_62 : decode cX12_wordHere 62 = .ok (.iconst 0, 1) := by decide +kernel
theorem dX12_wordHere_63 : decode cX12_wordHere 63 = .ok (.istore_n 1, 1) := by decide +kernel
theorem dX12_wordHere_64 : decode cX12_wordHere 64 = .ok (.iload_n 1, 1) := by decide +kernel
theorem dX12_wordHere_65 : decode cX12_wordHere 65 = .ok (.ifCond .eq 7, 3) := by decide +kernel
theorem dX12_wordHere_68 : decode cX12_wordHere 68 = .ok (.iconst 0, 1) := by decide +kernel
theorem dX12_wordHere_69 : decode cX12_wordHere 69 = .ok (.goto 80, 3) := by decide +kernel
theorem dX12_wordHere_72 : decode cX12_wordHere 72 = .ok (.aload_n 0, 1) := by decide +kernel
theorem dX12_wordHere_73 : decode cX12_wordHere 73 = .ok (.bipush 104, 2) := by decide +kernel
theorem dX12_wordHere_75 : decode cX12_wordHere 75 = .ok (.bipush 101, 2) := by decide +kernel
theorem dX12_wordHere_77 : decode cX12_wordHere 77 = .ok (.bipush 105, 2) := by decide +kernel
theorem dX12_wordHere_79 : decode cX12_wordHere 79 = .ok (.bipush 114, 2) := by decide +kernel
theorem dX12_wordHere_81 : decode cX12_wordHere 81 = .ok (.invokevirtual 132, 3) := by decide +kernel
theorem dX12_wordHere_84 : decode cX12_wordHere 84 = .ok (.ifCond .eq 7, 3) := by decide +kernel
theorem dX12_wordHere_87 : decode cX12_wordHere 87 = .ok (.iconst 1, 1) := by decide +kernel
theorem dX12_wordHere_88 : decode cX12_wordHere 88 = .ok (.goto 61, 3) := by decide +kernel
theorem dX12_wordHere_91 : decode cX12_wordHere 91 = .ok (.aload_n 0, 1) := by decide +kernel
theorem dX12_wordHere_92 : decode cX12_wordHere 92 = .ok (.bipush 108, 2) := by decide +kernel
theorem dX12_wordHere_94 : decode cX12_wordHere 94 = .ok (.bipush 105, 2) := by decide +kernel
theorem dX12_wordHere_96 : decode cX12_wordHere 96 = .ok (.bipush 107, 2) := by decide +kernel
theorem dX12_wordHere_98 : decode cX12_wordHere 98 = .ok (.bipush 101, 2) := by decide +kernel
theorem dX12_wordHere_100 : decode cX12_wordHere 100 = .ok (.invokevirtual 132, 3) := by decide +kernel
theorem dX12_wordHere_103 : decode cX12_wordHere 103 = .ok (.ifCond .eq 7, 3) := by decide +kernel
theorem dX12_wordHere_106 : decode cX12_wordHere 106 = .ok (.iconst 2, 1) := by decide +kernel
theorem dX12_wordHere_107 : decode cX12_wordHere 107 = .ok (.goto 42, 3) := by decide +kernel
theorem dX12_wordHere_110 : decode cX12_wordHere 110 = .ok (.aload_n 0, 1) := by decide +kernel
theorem dX12_wordHere_111 : decode cX12_wordHere 111 = .ok (.bipush 104, 2) := by decide +kernel
theorem dX12_wordHere_113 : decode cX12_wordHere 113 = .ok (.bipush 97, 2) := by decide +kernel
theorem dX12_wordHere_115 : decode cX12_wordHere 115 = .ok (.bipush 116, 2) := by decide +kernel
theorem dX12_wordHere_117 : decode cX12_wordHere 117 = .ok (.bipush 101, 2) := by decide +kernel
theorem dX12_wordHere_119 : decode cX12_wordHere 119 = .ok (.invokevirtual 132, 3) := by decide +kernel
theorem dX12_wordHere_122 : decode cX12_wordHere 122 = .ok (.ifCond .eq 7, 3) := by decide +kernel
theorem dX12_wordHere_125 : decode cX12_wordHere 125 = .ok (.iconst 3, 1) := by decide +kernel
theorem dX12_wordHere_126 : decode cX12_wordHere 126 = .ok (.goto 23, 3) := by decide +kernel
theorem dX12_wordHere_129 : decode cX12_wordHere 129 = .ok (.aload_n 0, 1) := by decide +kernel
theorem dX12_wordHere_130 : decode cX12_wordHere 130 = .ok (.bipush 112, 2) := by decide +kernel
theorem dX12_wordHere_132 : decode cX12_wordHere 132 = .ok (.bipush 97, 2) := by decide +kernel
theorem dX12_wordHere_134 : decode cX12_wordHere 134 = .ok (.bipush 105, 2) := by decide +kernel
theorem dX12_wordHere_136 : decode cX12_wordHere 136 = .ok (.bipush 114, 2) := by decide +kernel
theorem dX12_wordHere_138 : decode cX12_wordHere 138 = .ok (.invokevirtual 132, 3) := by decide +kernel
theorem dX12_wordHere_141 : decode cX12_wordHere 141 = .ok (.ifCond .eq 7, 3) := by decide +kernel
theorem dX12_wordHere_144 : decode cX12_wordHere 144 = .ok (.iconst 4, 1) := by decide +kernel
theorem dX12_wordHere_145 : decode cX12_wordHere 145 = .ok (.goto 4, 3) := by decide +kernel
theorem dX12_wordHere_148 : decode cX12_wordHere 148 = .ok (.iconst (-1), 1) := by decide +kernel
theorem dX12_wordHere_149 : decode cX12_wordHere 149 = .ok (.ireturn, 1) := by decide +kernel
theorem dX12_number_0 : decode cX12_number 0 = .ok (.aload_n 0, 1) := by decide +kernel
theorem dX12_number_1 : decode cX12_number 1 = .ok (.invokevirtual 136, 3) := by decide +kernel
theorem dX12_number_4 : decode cX12_number 4 = .ok (.iconst 0, 1) := by decide +kernel
theorem dX12_number_5 : decode cX12_number 5 = .ok (.istore_n 3, 1) := by decide +kernel
theorem dX12_number_6 : decode cX12_number 6 = .ok (.iconst 0, 1) := by decide +kernel
theorem dX12_number_7 : decode cX12_number 7 = .ok (.istore 4, 2) := by decide +kernel
theorem dX12_number_9 : decode cX12_number 9 = .ok (.aload_n 0, 1) := by decide +kernel
theorem dX12_number_10 : decode cX12_number 10 = .ok (.getfield 115, 3) := by decide +kernel
theorem dX12_number_13 : decode cX12_number 13 = .ok (.iload_n 3, 1) := by decide +kernel
theorem dX12_number_14 : decode cX12_number 14 = .ok (.iadd, 1) := by decide +kernel
theorem dX12_number_15 : decode cX12_number 15 = .ok (.aload_n 0, 1) := by decide +kernel
theorem dX12_number_16 : decode cX12_number 16 = .ok (.getfield 112, 3) := by decide +kernel
theorem dX12_number_19 : decode cX12_number 19 = .ok (.if_icmp .ge 58, 3) := by decide +kernel
theorem dX12_number_22 : decode cX12_number 22 = .ok (.aload_n 0, 1) := by decide +kernel
theorem dX12_number_23 : decode cX12_number 23 = .ok (.getfield 50, 3) := by decide +kernel
theorem dX12_number_26 : decode cX12_number 26 = .ok (.aload_n 0, 1) := by decide +kernel
theorem dX12_number_27 : decode cX12_number 27 = .ok (.getfield 115, 3) := by decide +kernel
theorem dX12_number_30 : decode cX12_number 30 = .ok (.iload_n 3, 1) := by decide +kernel
theorem dX12_number_31 : decode cX12_number 31 = .ok (.iadd, 1) := by decide +kernel
theorem dX12_number_32 : decode cX12_number 32 = .ok (.iaload, 1) := by decide +kernel
theorem dX12_number_33 : decode cX12_number 33 = .ok (.invokestatic 139, 3) := by decide +kernel
theorem dX12_number_36 : decode cX12_number 36 = .ok (.ifCond .eq 41, 3) := by decide +kernel
theorem dX12_number_39 : decode cX12_number 39 = .ok (.iload_n 3, 1) := by decide +kernel
theorem dX12_number_40 : decode cX12_number 40 = .ok (.iconst 2, 1) := by decide +kernel
theorem dX12_number_41 : decode cX12_number 41 = .ok (.if_icmp .ge 26, 3) := by decide +kernel
theorem dX12_number_44 : decode cX12_number 44 = .ok (.bipush 10, 2) := by decide +kernel
theorem dX12_number_46 : decode cX12_number 46 = .ok (.iload 4, 2) := by decide +kernel
theorem dX12_number_48 : decode cX12_number 48 = .ok (.imul, 1) := by decide +kernel
theorem dX12_number_49 : decode cX12_number 49 = .ok (.aload_n 0, 1) := by decide +kernel
theorem dX12_number_50 : decode cX12_number 50 = .ok (.getfield 50, 3) := by decide +kernel
theorem dX12_number_53 : decode cX12_number 53 = .ok (.aload_n 0, 1) := by decide +kernel
theorem dX12_number_54 : decode cX12_number 54 = .ok (.getfield 115, 3) := by decide +kernel
theorem dX12_number_57 : decode cX12_number 57 = .ok (.iload_n 3, 1) := by decide +kernel
theorem dX12_number_58 : decode cX12_number 58 = .ok (.iadd, 1) := by decide +kernel
theorem dX12_number_59 : decode cX12_number 59 = .ok (.iaload, 1) := by decide +kernel
theorem dX12_number_60 : decode cX12_number 60 = .ok (.iadd, 1) := by decide +kernel
theorem dX12_number_61 : decode cX12_number 61 = .ok (.bipush 48, 2) := by decide +kernel
theorem dX12_number_63 : decode cX12_number 63 = .ok (.isub, 1) := by decide +kernel
theorem dX12_number_64 : decode cX12_number 64 = .ok (.goto 5, 3) := by decide +kernel
theorem dX12_number_67 : decode cX12_number 67 = .ok (.iload 4, 2) := by decide +kernel
theorem dX12_number_69 : decode cX12_number 69 = .ok (.istore 4, 2) := by decide +kernel
theorem dX12_number_71 : decode cX12_number 71 = .ok (.iinc 3 1, 3) := by decide +kernel
theorem dX12_number_74 : decode cX12_number 74 = .ok (.goto (-65), 3) := by decide +kernel
theorem dX12_number_77 : decode cX12_number 77 = .ok (.iload_n 3, 1) := by decide +kernel
theorem dX12_number_78 : decode cX12_number 78 = .ok (.iconst 1, 1) := by decide +kernel
theorem dX12_number_79 : decode cX12_number 79 = .ok (.iconst 2, 1) := by decide +kernel
theorem dX12_number_80 : decode cX12_number 80 = .ok (.invokestatic 97, 3) := by decide +kernel
theorem dX12_number_83 : decode cX12_number 83 = .ok (.ifCond .eq 13, 3) := by decide +kernel
theorem dX12_number_86 : decode cX12_number 86 = .ok (.iload 4, 2) := by decide +kernel
theorem dX12_number_88 : decode cX12_number 88 = .ok (.iload_n 1, 1) := by decide +kernel
theorem dX12_number_89 : decode cX12_number 89 = .ok (.iload_n 2, 1) := by decide +kernel
theorem dX12_number_90 : decode cX12_number 90 = .ok (.invokestatic 97, 3) := by decide +kernel
theorem dX12_number_93 : decode cX12_number 93 = .ok (.ifCond .ne 5, 3) := by decide +kernel
theorem dX12_number_96 : decode cX12_number 96 = .ok (.iconst 0, 1) := by decide +kernel
theorem dX12_number_97 : decode cX12_number 97 = .ok (.ireturn, 1) := by decide +kernel
theorem dX12_number_98 : decode cX12_number 98 = .ok (.aload_n 0, 1) := by decide +kernel
theorem dX12_number_99 : decode cX12_number 99 = .ok (.iload 4, 2) := by decide +kernel
theorem dX12_number_101 : decode cX12_number 101 = .ok (.putfield 142, 3) := by decide +kernel
theorem dX12_number_104 : decode cX12_number 104 = .ok (.aload_n 0, 1) := by decide +kernel
theorem dX12_number_105 : decode cX12_number 105 = .ok (.dup, 1) := by decide +kernel
theorem dX12_number_106 : decode cX12_number 106 = .ok (.getfield 115, 3) := by decide +kernel
theorem dX12_number_109 : decode cX12_number 109 = .ok (.iload_n 3, 1) := by decide +kernel
theorem dX12_number_110 : decode cX12_number 110 = .ok (.iadd, 1) := by decide +kernel
theorem dX12_number_111 : decode cX12_number 111 = .ok (.putfield 115, 3) := by decide +kernel
theorem dX12_number_114 : decode cX12_number 114 = .ok (.iconst 1, 1) := by decide +kernel
theorem dX12_number_115 : decode cX12_number 115 = .ok (.ireturn, 1) := by decide +kernel
theorem dX12_ends_0 : decode cX12_ends 0 = .ok (.aload_n 0, 1) := by decide +kernel
theorem dX12_ends_1 : decode cX12_ends 1 = .ok (.invokevirtual 136, 3) := by decide +kernel
theorem dX12_ends_4 : decode cX12_ends 4 = .ok (.aload_n 0, 1) := by decide +kernel
theorem dX12_ends_5 : decode cX12_ends 5 = .ok (.invokevirtual 118, 3) := by decide +kernel
theorem dX12_ends_8 : decode cX12_ends 8 = .ok (.bipush 59, 2) := by decide +kernel
theorem dX12_ends_10 : decode cX12_ends 10 = .ok (.if_icmp .eq 5, 3) := by decide +kernel
theorem dX12_ends_13 : decode cX12_ends 13 = .ok (.iconst 0, 1) := by decide +kernel
theorem dX12_ends_14 : decode cX12_ends 14 = .ok (.ireturn, 1) := by decide +kernel
theorem dX12_ends_15 : decode cX12_ends 15 = .ok (.aload_n 0, 1) := by decide +kernel
theorem dX12_ends_16 : decode cX12_ends 16 = .ok (.dup, 1) := by decide +kernel
theorem dX12_ends_17 : decode cX12_ends 17 = .ok (.getfield 115, 3) := by decide +kernel
theorem dX12_ends_20 : decode cX12_ends 20 = .ok (.iconst 1, 1) := by decide +kernel
theorem dX12_ends_21 : decode cX12_ends 21 = .ok (.iadd, 1) := by decide +kernel
theorem dX12_ends_22 : decode cX12_ends 22 = .ok (.putfield 115, 3) := by decide +kernel
theorem dX12_ends_25 : decode cX12_ends 25 = .ok (.iconst 1, 1) := by decide +kernel
theorem dX12_ends_26 : decode cX12_ends 26 = .ok (.ireturn, 1) := by decide +kernel
theorem dX12_readsHeir_0 : decode cX12_readsHeir 0 = .ok (.aload_n 0, 1) := by decide +kernel
theorem dX12_readsHeir_1 : decode cX12_readsHeir 1 = .ok (.iconst 0, 1) := by decide +kernel
theorem dX12_readsHeir_2 : decode cX12_readsHeir 2 = .ok (.iconst 5, 1) := by decide +kernel
theorem dX12_readsHeir_3 : decode cX12_readsHeir 3 = .ok (.invokevirtual 145, 3) := by decide +kernel
theorem dX12_readsHeir_6 : decode cX12_readsHeir 6 = .ok (.ifCond .ne 5, 3) := by decide +kernel
theorem dX12_readsHeir_9 : decode cX12_readsHeir 9 = .ok (.iconst 0, 1) := by decide +kernel
theorem dX12_readsHeir_10 : decode cX12_readsHeir 10 = .ok (.ireturn, 1) := by decide +kernel
theorem dX12_readsHeir_11 : decode cX12_readsHeir 11 = .ok (.aload_n 0, 1) := by decide +kernel
theorem dX12_readsHeir_12 : decode cX12_readsHeir 12 = .ok (.getfield 142, 3) := by decide +kernel
theorem dX12_readsHeir_15 : decode cX12_readsHeir 15 = .ok (.istore_n 1, 1) := by decide +kernel
theorem dX12_readsHeir_16 : decode cX12_readsHeir 16 = .ok (.aload_n 0, 1) := by decide +kernel
theorem dX12_readsHeir_17 : decode cX12_readsHeir 17 = .ok (.iconst 0, 1) := by decide +kernel
theorem dX12_readsHeir_18 : decode cX12_readsHeir 18 = .ok (.bipush 20, 2) := by decide +kernel
theorem dX12_readsHeir_20 : decode cX12_readsHeir 20 = .ok (.invokevirtual 145, 3) := by decide +kernel
theorem dX12_readsHeir_23 : decode cX12_readsHeir 23 = .ok (.ifCond .ne 5, 3) := by decide +kernel
theorem dX12_readsHeir_26 : decode cX12_readsHeir 26 = .ok (.iconst 0, 1) := by decide +kernel
theorem dX12_readsHeir_27 : decode cX12_readsHeir 27 = .ok (.ireturn, 1) := by decide +kernel
theorem dX12_readsHeir_28 : decode cX12_readsHeir 28 = .ok (.iconst 4, 1) := by decide +kernel
theorem dX12_readsHeir_29 : decode cX12_readsHeir 29 = .ok (.aload_n 0, 1) := by decide +kernel
theorem dX12_readsHeir_30 : decode cX12_readsHeir 30 = .ok (.getfield 149, 3) := by decide +kernel
theorem dX12_readsHeir_33 : decode cX12_readsHeir 33 = .ok (.imul, 1) := by decide +kernel
theorem dX12_readsHeir_34 : decode cX12_readsHeir 34 = .ok (.istore_n 2, 1) := by decide +kernel
theorem dX12_readsHeir_35 : decode cX12_readsHeir 35 = .ok (.aload_n 0, 1) := by decide +kernel
theorem dX12_readsHeir_36 : decode cX12_readsHeir 36 = .ok (.getfield 53, 3) := by decide +kernel
theorem dX12_readsHeir_39 : decode cX12_readsHeir 39 = .ok (.iload_n 2, 1) := by decide +kernel
theorem dX12_readsHeir_40 : decode cX12_readsHeir 40 = .ok (.iload_n 1, 1) := by decide +kernel
theorem dX12_readsHeir_41 : decode cX12_readsHeir 41 = .ok (.iastore, 1) := by decide +kernel
theorem dX12_readsHeir_42 : decode cX12_readsHeir 42 = .ok (.aload_n 0, 1) := by decide +kernel
theorem dX12_readsHeir_43 : decode cX12_readsHeir 43 = .ok (.getfield 53, 3) := by decide +kernel
theorem dX12_readsHeir_46 : decode cX12_readsHeir 46 = .ok (.iload_n 2, 1) := by decide +kernel
theorem dX12_readsHeir_47 : decode cX12_readsHeir 47 = .ok (.iconst 1, 1) := by decide +kernel
theorem dX12_readsHeir_48 : decode cX12_readsHeir 48 = .ok (.iadd, 1) := by decide +kernel
theorem dX12_readsHeir_49 : decode cX12_readsHeir 49 = .ok (.iconst 0, 1) := by decide +kernel
theorem dX12_readsHeir_50 : decode cX12_readsHeir 50 = .ok (.iastore, 1) := by decide +kernel
theorem dX12_readsHeir_51 : decode cX12_readsHeir 51 = .ok (.aload_n 0, 1) := by decide +kernel
theorem dX12_readsHeir_52 : decode cX12_readsHeir 52 = .ok (.getfield 53, 3) := by decide +kernel
theorem dX12_readsHeir_55 : decode cX12_readsHeir 55 = .ok (.iload_n 2, 1) := by decide +kernel
theorem dX12_readsHeir_56 : decode cX12_readsHeir 56 = .ok (.iconst 2, 1) := by decide +kernel
theorem dX12_readsHeir_57 : decode cX12_readsHeir 57 = .ok (.iadd, 1) := by decide +kernel
theorem dX12_readsHeir_58 : decode cX12_readsHeir 58 = .ok (.iconst 0, 1) := by decide +kernel
theorem dX12_readsHeir_59 : decode cX12_readsHeir 59 = .ok (.iastore, 1) := by decide +kernel
theorem dX12_readsHeir_60 : decode cX12_readsHeir 60 = .ok (.aload_n 0, 1) := by decide +kernel
theorem dX12_readsHeir_61 : decode cX12_readsHeir 61 = .ok (.getfield 53, 3) := by decide +kernel
theorem dX12_readsHeir_64 : decode cX12_readsHeir 64 = .ok (.iload_n 2, 1) := by decide +kernel
theorem dX12_readsHeir_65 : decode cX12_readsHeir 65 = .ok (.iconst 3, 1) := by decide +kernel
theorem dX12_readsHeir_66 : decode cX12_readsHeir 66 = .ok (.iadd, 1) := by decide +kernel
theorem dX12_readsHeir_67 : decode cX12_readsHeir 67 = .ok (.aload_n 0, 1) := by decide +kernel
theorem dX12_readsHeir_68 : decode cX12_readsHeir 68 = .ok (.getfield 142, 3) := by decide +kernel
theorem dX12_readsHeir_71 : decode cX12_readsHeir 71 = .ok (.iastore, 1) := by decide +kernel
theorem dX12_readsHeir_72 : decode cX12_readsHeir 72 = .ok (.aload_n 0, 1) := by decide +kernel
theorem dX12_readsHeir_73 : decode cX12_readsHeir 73 = .ok (.dup, 1) := by decide +kernel
theorem dX12_readsHeir_74 : decode cX12_readsHeir 74 = .ok (.getfield 149, 3) := by decide +kernel
theorem dX12_readsHeir_77 : decode cX12_readsHeir 77 = .ok (.iconst 1, 1) := by decide +kernel
theorem dX12_readsHeir_78 : decode cX12_readsHeir 78 = .ok (.iadd, 1) := by decide +kernel
theorem dX12_readsHeir_79 : decode cX12_readsHeir 79 = .ok (.putfield 149, 3) := by decide +kernel
theorem dX12_readsHeir_82 : decode cX12_readsHeir 82 = .ok (.aload_n 0, 1) := by decide +kernel
theorem dX12_readsHeir_83 : decode cX12_readsHeir 83 = .ok (.invokevirtual 152, 3) := by decide +kernel
theorem dX12_readsHeir_86 : decode cX12_readsHeir 86 = .ok (.ireturn, 1) := by decide +kernel
theorem dX12_readsActs_0 : decode cX12_readsActs 0 = .ok (.aload_n 0, 1) := by decide +kernel
theorem dX12_readsActs_1 : decode cX12_readsActs 1 = .ok (.iconst 0, 1) := by decide +kernel
theorem dX12_readsActs_2 : decode cX12_readsActs 2 = .ok (.aload_n 0, 1) := by decide +kernel
theorem dX12_readsActs_3 : decode cX12_readsActs 3 = .ok (.getfield 149, 3) := by decide +kernel
theorem dX12_readsActs_6 : decode cX12_readsActs 6 = .ok (.iconst 1, 1) := by decide +kernel
theorem dX12_readsActs_7 : decode cX12_readsActs 7 = .ok (.isub, 1) := by decide +kernel
theorem dX12_readsActs_8 : decode cX12_readsActs 8 = .ok (.invokevirtual 145, 3) := by decide +kernel
theorem dX12_readsActs_11 : decode cX12_readsActs 11 = .ok (.ifCond .ne 5, 3) := by decide +kernel
theorem dX12_readsActs_14 : decode cX12_readsActs 14 = .ok (.iconst 0, 1) := by decide +kernel
theorem dX12_readsActs_15 : decode cX12_readsActs 15 = .ok (.ireturn, 1) := by decide +kernel
theorem dX12_readsActs_16 : decode cX12_readsActs 16 = .ok (.aload_n 0, 1) := by decide +kernel
theorem dX12_readsActs_17 : decode cX12_readsActs 17 = .ok (.getfield 142, 3) := by decide +kernel
theorem dX12_readsActs_20 : decode cX12_readsActs 20 = .ok (.istore_n 2, 1) := by decide +kernel
theorem dX12_readsActs_21 : decode cX12_readsActs 21 = .ok (.iconst 0, 1) := by decide +kernel
theorem dX12_readsActs_22 : decode cX12_readsActs 22 = .ok (.istore_n 3, 1) := by decide +kernel
theorem dX12_readsActs_23 : decode cX12_readsActs 23 = .ok (.aload_n 0, 1) := by decide +kernel
theorem dX12_readsActs_24 : decode cX12_readsActs 24 = .ok (.invokevirtual 136, 3) := by decide +kernel
theorem dX12_readsActs_27 : decode cX12_readsActs 27 = .ok (.aload_n 0, 1) := by decide +kernel
theorem dX12_readsActs_28 : decode cX12_readsActs 28 = .ok (.invokevirtual 118, 3) := by decide +kernel
theorem dX12_readsActs_31 : decode cX12_readsActs 31 = .ok (.invokestatic 139, 3) := by decide +kernel
theorem dX12_readsActs_34 : decode cX12_readsActs 34 = .ok (.ifCond .eq 31, 3) := by decide +kernel
theorem dX12_readsActs_37 : decode cX12_readsActs 37 = .ok (.aload_n 0, 1) := by decide +kernel
theorem dX12_readsActs_38 : decode cX12_readsActs 38 = .ok (.iconst 0, 1) := by decide +kernel
theorem dX12_readsActs_39 : decode cX12_readsActs 39 = .ok (.bipush 7, 2) := by decide +kernel
theorem dX12_readsActs_41 : decode cX12_readsActs 41 = .ok (.invokevirtual 145, 3) := by decide +kernel
theorem dX12_readsActs_44 : decode cX12_readsActs 44 = .ok (.ifCond .ne 5, 3) := by decide +kernel
theorem dX12_readsActs_47 : decode cX12_readsActs 47 = .ok (.iconst 0, 1) := by decide +kernel
theorem dX12_readsActs_48 : decode cX12_readsActs 48 = .ok (.ireturn, 1) := by decide +kernel
theorem dX12_readsActs_49 : decode cX12_readsActs 49 = .ok (.iload_n 3, 1) := by decide +kernel
theorem dX12_readsActs_50 : decode cX12_readsActs 50 = .ok (.iconst 1, 1) := by decide +kernel
theorem dX12_readsActs_51 : decode cX12_readsActs 51 = .ok (.aload_n 0, 1) := by decide +kernel
theorem dX12_readsActs_52 : decode cX12_readsActs 52 = .ok (.getfield 142, 3) := by decide +kernel
theorem dX12_readsActs_55 : decode cX12_readsActs 55 = .ok (.ishl, 1) := by decide +kernel
theorem dX12_readsActs_56 : decode cX12_readsActs 56 = .ok (.ior, 1) := by decide +kernel
theorem dX12_readsActs_57 : decode cX12_readsActs 57 = .ok (.istore_n 3, 1) := by decide +kernel
theorem dX12_readsActs_58 : decode cX12_readsActs 58 = .ok (.aload_n 0, 1) := by decide +kernel
theorem dX12_readsActs_59 : decode cX12_readsActs 59 = .ok (.invokevirtual 136, 3) := by decide +kernel
theorem dX12_readsActs_62 : decode cX12_readsActs 62 = .ok (.goto (-35), 3) := by decide +kernel
theorem dX12_readsActs_65 : decode cX12_readsActs 65 = .ok (.aload_n 0, 1) := by decide +kernel
theorem dX12_readsActs_66 : decode cX12_readsActs 66 = .ok (.getfield 53, 3) := by decide +kernel
theorem dX12_readsActs_69 : decode cX12_readsActs 69 = .ok (.iconst 4, 1) := by decide +kernel
theorem dX12_readsActs_70 : decode cX12_readsActs 70 = .ok (.iload_n 2, 1) := by decide +kernel
theorem dX12_readsActs_71 : decode cX12_readsActs 71 = .ok (.imul, 1) := by decide +kernel
theorem dX12_readsActs_72 : decode cX12_readsActs 72 = .ok (.iload_n 1, 1) := by decide +kernel
theorem dX12_readsActs_73 : decode cX12_readsActs 73 = .ok (.iadd, 1) := by decide +kernel
theorem dX12_readsActs_74 : decode cX12_readsActs 74 = .ok (.iload_n 3, 1) := by decide +kernel
theorem dX12_readsActs_75 : decode cX12_readsActs 75 = .ok (.iastore, 1) := by decide +kernel
theorem dX12_readsActs_76 : decode cX12_readsActs 76 = .ok (.aload_n 0, 1) := by decide +kernel
theorem dX12_readsActs_77 : decode cX12_readsActs 77 = .ok (.invokevirtual 152, 3) := by decide +kernel
theorem dX12_readsActs_80 : decode cX12_readsActs 80 = .ok (.ireturn, 1) := by decide +kernel
theorem dX12_readsPair_0 : decode cX12_readsPair 0 = .ok (.aload_n 0, 1) := by decide +kernel
theorem dX12_readsPair_1 : decode cX12_readsPair 1 = .ok (.iconst 0, 1) := by decide +kernel
theorem dX12_readsPair_2 : decode cX12_readsPair 2 = .ok (.aload_n 0, 1) := by decide +kernel
theorem dX12_readsPair_3 : decode cX12_readsPair 3 = .ok (.getfield 149, 3) := by decide +kernel
theorem dX12_readsPair_6 : decode cX12_readsPair 6 = .ok (.iconst 1, 1) := by decide +kernel
theorem dX12_readsPair_7 : decode cX12_readsPair 7 = .ok (.isub, 1) := by decide +kernel
theorem dX12_readsPair_8 : decode cX12_readsPair 8 = .ok (.invokevirtual 145, 3) := by decide +kernel
theorem dX12_readsPair_11 : decode cX12_readsPair 11 = .ok (.ifCond .ne 5, 3) := by decide +kernel
theorem dX12_readsPair_14 : decode cX12_readsPair 14 = .ok (.iconst 0, 1) := by decide +kernel
theorem dX12_readsPair_15 : decode cX12_readsPair 15 = .ok (.ireturn, 1) := by decide +kernel
theorem dX12_readsPair_16 : decode cX12_readsPair 16 = .ok (.aload_n 0, 1) := by decide +kernel
theorem dX12_readsPair_17 : decode cX12_readsPair 17 = .ok (.getfield 142, 3) := by decide +kernel
theorem dX12_readsPair_20 : decode cX12_readsPair 20 = .ok (.istore_n 1, 1) := by decide +kernel
theorem dX12_readsPair_21 : decode cX12_readsPair 21 = .ok (.aload_n 0, 1) := by decide +kernel
theorem dX12_readsPair_22 : decode cX12_readsPair 22 = .ok (.invokevirtual 136, 3) := by decide +kernel
theorem dX12_readsPair_25 : decode cX12_readsPair 25 = .ok (.aload_n 0, 1) := by decide +kernel
theorem dX12_readsPair_26 : decode cX12_readsPair 26 = .ok (.getfield 115, 3) := by decide +kernel
theorem dX12_readsPair_29 : decode cX12_readsPair 29 = .ok (.istore_n 2, 1) := by decide +kernel
theorem dX12_readsPair_30 : decode cX12_readsPair 30 = .ok (.aload_n 0, 1) := by decide +kernel
theorem dX12_readsPair_31 : decode cX12_readsPair 31 = .ok (.iconst 0, 1) := by decide +kernel
theorem dX12_readsPair_32 : decode cX12_readsPair 32 = .ok (.aload_n 0, 1) := by decide +kernel
theorem dX12_readsPair_33 : decode cX12_readsPair 33 = .ok (.getfield 149, 3) := by decide +kernel
theorem dX12_readsPair_36 : decode cX12_readsPair 36 = .ok (.iconst 1, 1) := by decide +kernel
theorem dX12_readsPair_37 : decode cX12_readsPair 37 = .ok (.isub, 1) := by decide +kernel
theorem dX12_readsPair_38 : decode cX12_readsPair 38 = .ok (.invokevirtual 145, 3) := by decide +kernel
theorem dX12_readsPair_41 : decode cX12_readsPair 41 = .ok (.ifCond .ne 5, 3) := by decide +kernel
theorem dX12_readsPair_44 : decode cX12_readsPair 44 = .ok (.iconst 0, 1) := by decide +kernel
theorem dX12_readsPair_45 : decode cX12_readsPair 45 = .ok (.ireturn, 1) := by decide +kernel
theorem dX12_readsPair_46 : decode cX12_readsPair 46 = .ok (.aload_n 0, 1) := by decide +kernel
theorem dX12_readsPair_47 : decode cX12_readsPair 47 = .ok (.getfield 142, 3) := by decide +kernel
theorem dX12_readsPair_50 : decode cX12_readsPair 50 = .ok (.iload_n 1, 1) := by decide +kernel
theorem dX12_readsPair_51 : decode cX12_readsPair 51 = .ok (.if_icmp .ne 10, 3) := by decide +kernel
theorem dX12_readsPair_54 : decode cX12_readsPair 54 = .ok (.aload_n 0, 1) := by decide +kernel
theorem dX12_readsPair_55 : decode cX12_readsPair 55 = .ok (.iload_n 2, 1) := by decide +kernel
theorem dX12_readsPair_56 : decode cX12_readsPair 56 = .ok (.putfield 115, 3) := by decide +kernel
theorem dX12_readsPair_59 : decode cX12_readsPair 59 = .ok (.iconst 0, 1) := by decide +kernel
theorem dX12_readsPair_60 : decode cX12_readsPair 60 = .ok (.ireturn, 1) := by decide +kernel
theorem dX12_readsPair_61 : decode cX12_readsPair 61 = .ok (.aload_n 0, 1) := by decide +kernel
theorem dX12_readsPair_62 : decode cX12_readsPair 62 = .ok (.iload_n 1, 1) := by decide +kernel
theorem dX12_readsPair_63 : decode cX12_readsPair 63 = .ok (.putfield 156, 3) := by decide +kernel
theorem dX12_readsPair_66 : decode cX12_readsPair 66 = .ok (.aload_n 0, 1) := by decide +kernel
theorem dX12_readsPair_67 : decode cX12_readsPair 67 = .ok (.aload_n 0, 1) := by decide +kernel
theorem dX12_readsPair_68 : decode cX12_readsPair 68 = .ok (.getfield 142, 3) := by decide +kernel
theorem dX12_readsPair_71 : decode cX12_readsPair 71 = .ok (.putfield 159, 3) := by decide +kernel
theorem dX12_readsPair_74 : decode cX12_readsPair 74 = .ok (.aload_n 0, 1) := by decide +kernel
theorem dX12_readsPair_75 : decode cX12_readsPair 75 = .ok (.invokevirtual 152, 3) := by decide +kernel
theorem dX12_readsPair_78 : decode cX12_readsPair 78 = .ok (.ireturn, 1) := by decide +kernel
theorem dX12_readsItem_0 : decode cX12_readsItem 0 = .ok (.aload_n 0, 1) := by decide +kernel
theorem dX12_readsItem_1 : decode cX12_readsItem 1 = .ok (.invokevirtual 162, 3) := by decide +kernel
theorem dX12_readsItem_4 : decode cX12_readsItem 4 = .ok (.istore_n 1, 1) := by decide +kernel
theorem dX12_readsItem_5 : decode cX12_readsItem 5 = .ok (.iload_n 1, 1) := by decide +kernel
theorem dX12_readsItem_6 : decode cX12_readsItem 6 = .ok (.iconst 1, 1) := by decide +kernel
theorem dX12_readsItem_7 : decode cX12_readsItem 7 = .ok (.if_icmp .lt 17, 3) := by decide +kernel
theorem dX12_readsItem_10 : decode cX12_readsItem 10 = .ok (.iload_n 1, 1) := by decide +kernel
theorem dX12_readsItem_11 : decode cX12_readsItem 11 = .ok (.iconst 1, 1) := by decide +kernel
theorem dX12_readsItem_12 : decode cX12_readsItem 12 = .ok (.if_icmp .ne 14, 3) := by decide +kernel
theorem dX12_readsItem_15 : decode cX12_readsItem 15 = .ok (.aload_n 0, 1) := by decide +kernel
theorem dX12_readsItem_16 : decode cX12_readsItem 16 = .ok (.getfield 149, 3) := by decide +kernel
theorem dX12_readsItem_19 : decode cX12_readsItem 19 = .ok (.bipush 6, 2) := by decide +kernel
theorem dX12_readsItem_21 : decode cX12_readsItem 21 = .ok (.if_icmp .ne 5, 3) := by decide +kernel
theorem dX12_readsItem_24 : decode cX12_readsItem 24 = .ok (.iconst 0, 1) := by decide +kernel
theorem dX12_readsItem_25 : decode cX12_readsItem 25 = .ok (.ireturn, 1) := by decide +kernel
theorem dX12_readsItem_26 : decode cX12_readsItem 26 = .ok (.aload_n 0, 1) := by decide +kernel
theorem dX12_readsItem_27 : decode cX12_readsItem 27 = .ok (.dup, 1) := by decide +kernel
theorem dX12_readsItem_28 : decode cX12_readsItem 28 = .ok (.getfield 115, 3) := by decide +kernel
theorem dX12_readsItem_31 : decode cX12_readsItem 31 = .ok (.iconst 4, 1) := by decide +kernel
theorem dX12_readsItem_32 : decode cX12_readsItem 32 = .ok (.iadd, 1) := by decide +kernel
theorem dX12_readsItem_33 : decode cX12_readsItem 33 = .ok (.putfield 115, 3) := by decide +kernel
theorem dX12_readsItem_36 : decode cX12_readsItem 36 = .ok (.iload_n 1, 1) := by decide +kernel
theorem dX12_readsItem_37 : decode cX12_readsItem 37 = .ok (.iconst 1, 1) := by decide +kernel
theorem dX12_readsItem_38 : decode cX12_readsItem 38 = .ok (.if_icmp .ne 10, 3) := by decide +kernel
theorem dX12_readsItem_41 : decode cX12_readsItem 41 = .ok (.aload_n 0, 1) := by decide +kernel
theorem dX12_readsItem_42 : decode cX12_readsItem 42 = .ok (.invokevirtual 165, 3) := by decide +kernel
theorem dX12_readsItem_45 : decode cX12_readsItem 45 = .ok (.goto 22, 3) := by decide +kernel
theorem dX12_readsItem_48 : decode cX12_readsItem 48 = .ok (.iload_n 1, 1) := by decide +kernel
theorem dX12_readsItem_49 : decode cX12_readsItem 49 = .ok (.iconst 4, 1) := by decide +kernel
theorem dX12_readsItem_50 : decode cX12_readsItem 50 = .ok (.if_icmp .ne 10, 3) := by decide +kernel
theorem dX12_readsItem_53 : decode cX12_readsItem 53 = .ok (.aload_n 0, 1) := by decide +kernel
theorem dX12_readsItem_54 : decode cX12_readsItem 54 = .ok (.invokevirtual 168, 3) := by decide +kernel
theorem dX12_readsItem_57 : decode cX12_readsItem 57 = .ok (.goto 10, 3) := by decide +kernel
theorem dX12_readsItem_60 : decode cX12_readsItem 60 = .ok (.aload_n 0, 1) := by decide +kernel
theorem dX12_readsItem_61 : decode cX12_readsItem 61 = .ok (.iload_n 1, 1) := by decide +kernel
theorem dX12_readsItem_62 : decode cX12_readsItem 62 = .ok (.iconst 1, 1) := by decide +kernel
theorem dX12_readsItem_63 : decode cX12_readsItem 63 = .ok (.isub, 1) := by decide +kernel
theorem dX12_readsItem_64 : decode cX12_readsItem 64 = .ok (.invokevirtual 171, 3) := by decide +kernel
theorem dX12_readsItem_67 : decode cX12_readsItem 67 = .ok (.ireturn, 1) := by decide +kernel
theorem dX12_readsFirst_0 : decode cX12_readsFirst 0 = .ok (.aload_n 0, 1) := by decide +kernel
theorem dX12_readsFirst_1 : decode cX12_readsFirst 1 = .ok (.invokevirtual 136, 3) := by decide +kernel
theorem dX12_readsFirst_4 : decode cX12_readsFirst 4 = .ok (.aload_n 0, 1) := by decide +kernel
theorem dX12_readsFirst_5 : decode cX12_readsFirst 5 = .ok (.invokevirtual 162, 3) := by decide +kernel
theorem dX12_readsFirst_8 : decode cX12_readsFirst 8 = .ok (.ifCond .eq 5, 3) := by decide +kernel
theorem dX12_readsFirst_11 : decode cX12_readsFirst 11 = .ok (.iconst 0, 1) := by decide +kernel
theorem dX12_readsFirst_12 : decode cX12_readsFirst 12 = .ok (.ireturn, 1) := by decide +kernel
theorem dX12_readsFirst_13 : decode cX12_readsFirst 13 = .ok (.aload_n 0, 1) := by decide +kernel
theorem dX12_readsFirst_14 : decode cX12_readsFirst 14 = .ok (.dup, 1) := by decide +kernel
theorem dX12_readsFirst_15 : decode cX12_readsFirst 15 = .ok (.getfield 115, 3) := by decide +kernel
theorem dX12_readsFirst_18 : decode cX12_readsFirst 18 = .ok (.iconst 5, 1) := by decide +kernel
theorem dX12_readsFirst_19 : decode cX12_readsFirst 19 = .ok (.iadd, 1) := by decide +kernel
theorem dX12_readsFirst_20 : decode cX12_readsFirst 20 = .ok (.putfield 115, 3) := by decide +kernel
theorem dX12_readsFirst_23 : decode cX12_readsFirst 23 = .ok (.aload_n 0, 1) := by decide +kernel
theorem dX12_readsFirst_24 : decode cX12_readsFirst 24 = .ok (.iconst 0, 1) := by decide +kernel
theorem dX12_readsFirst_25 : decode cX12_readsFirst 25 = .ok (.bipush 99, 2) := by decide +kernel
theorem dX12_readsFirst_27 : decode cX12_readsFirst 27 = .ok (.invokevirtual 145, 3) := by decide +kernel
theorem dX12_readsFirst_30 : decode cX12_readsFirst 30 = .ok (.ifCond .ne 5, 3) := by decide +kernel
theorem dX12_readsFirst_33 : decode cX12_readsFirst 33 = .ok (.iconst 0, 1) := by decide +kernel
theorem dX12_readsFirst_34 : decode cX12_readsFirst 34 = .ok (.ireturn, 1) := by decide +kernel
theorem dX12_readsFirst_35 : decode cX12_readsFirst 35 = .ok (.aload_n 0, 1) := by decide +kernel
theorem dX12_readsFirst_36 : decode cX12_readsFirst 36 = .ok (.aload_n 0, 1) := by decide +kernel
theorem dX12_readsFirst_37 : decode cX12_readsFirst 37 = .ok (.getfield 142, 3) := by decide +kernel
theorem dX12_readsFirst_40 : decode cX12_readsFirst 40 = .ok (.putfield 174, 3) := by decide +kernel
theorem dX12_readsFirst_43 : decode cX12_readsFirst 43 = .ok (.aload_n 0, 1) := by decide +kernel
theorem dX12_readsFirst_44 : decode cX12_readsFirst 44 = .ok (.invokevirtual 152, 3) := by decide +kernel
theorem dX12_readsFirst_47 : decode cX12_readsFirst 47 = .ok (.ireturn, 1) := by decide +kernel
theorem dX12_readsCourt_0 : decode cX12_readsCourt 0 = .ok (.aload_n 0, 1) := by decide +kernel
theorem dX12_readsCourt_1 : decode cX12_readsCourt 1 = .ok (.iconst 0, 1) := by decide +kernel
theorem dX12_readsCourt_2 : decode cX12_readsCourt 2 = .ok (.putfield 115, 3) := by decide +kernel
theorem dX12_readsCourt_5 : decode cX12_readsCourt 5 = .ok (.aload_n 0, 1) := by decide +kernel
theorem dX12_readsCourt_6 : decode cX12_readsCourt 6 = .ok (.iconst 0, 1) := by decide +kernel
theorem dX12_readsCourt_7 : decode cX12_readsCourt 7 = .ok (.putfield 149, 3) := by decide +kernel
theorem dX12_readsCourt_10 : decode cX12_readsCourt 10 = .ok (.aload_n 0, 1) := by decide +kernel
theorem dX12_readsCourt_11 : decode cX12_readsCourt 11 = .ok (.iconst (-1), 1) := by decide +kernel
theorem dX12_readsCourt_12 : decode cX12_readsCourt 12 = .ok (.putfield 156, 3) := by decide +kernel
theorem dX12_readsCourt_15 : decode cX12_readsCourt 15 = .ok (.aload_n 0, 1) := by decide +kernel
theorem dX12_readsCourt_16 : decode cX12_readsCourt 16 = .ok (.iconst (-1), 1) := by decide +kernel
theorem dX12_readsCourt_17 : decode cX12_readsCourt 17 = .ok (.putfield 159, 3) := by decide +kernel
theorem dX12_readsCourt_20 : decode cX12_readsCourt 20 = .ok (.aload_n 0, 1) := by decide +kernel
theorem dX12_readsCourt_21 : decode cX12_readsCourt 21 = .ok (.invokevirtual 177, 3) := by decide +kernel
theorem dX12_readsCourt_24 : decode cX12_readsCourt 24 = .ok (.ifCond .ne 5, 3) := by decide +kernel
theorem dX12_readsCourt_27 : decode cX12_readsCourt 27 = .ok (.iconst (-1), 1) := by decide +kernel
theorem dX12_readsCourt_28 : decode cX12_readsCourt 28 = .ok (.ireturn, 1) := by decide +kernel
theorem dX12_readsCourt_29 : decode cX12_readsCourt 29 = .ok (.iconst 1, 1) := by decide +kernel
theorem dX12_readsCourt_30 : decode cX12_readsCourt 30 = .ok (.istore_n 1, 1) := by decide +kernel
theorem dX12_readsCourt_31 : decode cX12_readsCourt 31 = .ok (.aload_n 0, 1) := by decide +kernel
theorem dX12_readsCourt_32 : decode cX12_readsCourt 32 = .ok (.invokevirtual 136, 3) := by decide +kernel
theorem dX12_readsCourt_35 : decode cX12_readsCourt 35 = .ok (.aload_n 0, 1) := by decide +kernel
theorem dX12_readsCourt_36 : decode cX12_readsCourt 36 = .ok (.getfield 115, 3) := by decide +kernel
theorem dX12_readsCourt_39 : decode cX12_readsCourt 39 = .ok (.aload_n 0, 1) := by decide +kernel
theorem dX12_readsCourt_40 : decode cX12_readsCourt 40 = .ok (.getfield 112, 3) := by decide +kernel
theorem dX12_readsCourt_43 : decode cX12_readsCourt 43 = .ok (.if_icmp .ge 22, 3) := by decide +kernel
theorem dX12_readsCourt_46 : decode cX12_readsCourt 46 = .ok (.aload_n 0, 1) := by decide +kernel
theorem dX12_readsCourt_47 : decode cX12_readsCourt 47 = .ok (.invokevirtual 180, 3) := by decide +kernel
theorem dX12_readsCourt_50 : decode cX12_readsCourt 50 = .ok (.ifCond .ne 5, 3) := by decide +kernel
theorem dX12_readsCourt_53 : decode cX12_readsCourt 53 = .ok (.iconst (-1), 1) := by decide +kernel
theorem dX12_readsCourt_54 : decode cX12_readsCourt 54 = .ok (.ireturn, 1) := by decide +kernel
theorem dX12_readsCourt_55 : decode cX12_readsCourt 55 = .ok (.iinc 1 1, 3) := by decide +kernel
theorem dX12_readsCourt_58 : decode cX12_readsCourt 58 = .ok (.aload_n 0, 1) := by decide +kernel
theorem dX12_readsCourt_59 : decode cX12_readsCourt 59 = .ok (.invokevirtual 136, 3) := by decide +kernel
theorem dX12_readsCourt_62 : decode cX12_readsCourt 62 = .ok (.goto (-27), 3) := by decide +kernel
theorem dX12_readsCourt_65 : decode cX12_readsCourt 65 = .ok (.iload_n 1, 1) := by decide +kernel
theorem dX12_readsCourt_66 : decode cX12_readsCourt 66 = .ok (.ireturn, 1) := by decide +kernel
theorem dX12_read_0 : decode cX12_read 0 = .ok (.aload_n 0, 1) := by decide +kernel
theorem dX12_read_1 : decode cX12_read 1 = .ok (.invokevirtual 183, 3) := by decide +kernel
theorem dX12_read_4 : decode cX12_read 4 = .ok (.istore_n 1, 1) := by decide +kernel
theorem dX12_read_5 : decode cX12_read 5 = .ok (.iload_n 1, 1) := by decide +kernel
theorem dX12_read_6 : decode cX12_read 6 = .ok (.ifCond .ge 11, 3) := by decide +kernel
theorem dX12_read_9 : decode cX12_read 9 = .ok (.bipush (-10), 2) := by decide +kernel
theorem dX12_read_11 : decode cX12_read 11 = .ok (.aload_n 0, 1) := by decide +kernel
theorem dX12_read_12 : decode cX12_read 12 = .ok (.getfield 115, 3) := by decide +kernel
theorem dX12_read_15 : decode cX12_read 15 = .ok (.isub, 1) := by decide +kernel
theorem dX12_read_16 : decode cX12_read 16 = .ok (.ireturn, 1) := by decide +kernel
theorem dX12_read_17 : decode cX12_read 17 = .ok (.aload_n 0, 1) := by decide +kernel
theorem dX12_read_18 : decode cX12_read 18 = .ok (.aload_n 0, 1) := by decide +kernel
theorem dX12_read_19 : decode cX12_read 19 = .ok (.getfield 174, 3) := by decide +kernel
theorem dX12_read_22 : decode cX12_read 22 = .ok (.invokevirtual 78, 3) := by decide +kernel
theorem dX12_read_25 : decode cX12_read 25 = .ok (.iconst 0, 1) := by decide +kernel
theorem dX12_read_26 : decode cX12_read 26 = .ok (.istore_n 2, 1) := by decide +kernel
theorem dX12_read_27 : decode cX12_read 27 = .ok (.iload_n 2, 1) := by decide +kernel
theorem dX12_read_28 : decode cX12_read 28 = .ok (.aload_n 0, 1) := by decide +kernel
theorem dX12_read_29 : decode cX12_read 29 = .ok (.getfield 149, 3) := by decide +kernel
theorem dX12_read_32 : decode cX12_read 32 = .ok (.if_icmp .ge 52, 3) := by decide +kernel
theorem dX12_read_35 : decode cX12_read 35 = .ok (.aload_n 0, 1) := by decide +kernel
theorem dX12_read_36 : decode cX12_read 36 = .ok (.aload_n 0, 1) := by decide +kernel
theorem dX12_read_37 : decode cX12_read 37 = .ok (.getfield 53, 3) := by decide +kernel
theorem dX12_read_40 : decode cX12_read 40 = .ok (.iconst 4, 1) := by decide +kernel
theorem dX12_read_41 : decode cX12_read 41 = .ok (.iload_n 2, 1) := by decide +kernel
theorem dX12_read_42 : decode cX12_read 42 = .ok (.imul, 1) := by decide +kernel
theorem dX12_read_43 : decode cX12_read 43 = .ok (.iaload, 1) := by decide +kernel
theorem dX12_read_44 : decode cX12_read 44 = .ok (.aload_n 0, 1) := by decide +kernel
theorem dX12_read_45 : decode cX12_read 45 = .ok (.getfield 53, 3) := by decide +kernel
theorem dX12_read_48 : decode cX12_read 48 = .ok (.iconst 4, 1) := by decide +kernel
theorem dX12_read_49 : decode cX12_read 49 = .ok (.iload_n 2, 1) := by decide +kernel
theorem dX12_read_50 : decode cX12_read 50 = .ok (.imul, 1) := by decide +kernel
theorem dX12_read_51 : decode cX12_read 51 = .ok (.iconst 1, 1) := by decide +kernel
theorem dX12_read_52 : decode cX12_read 52 = .ok (.iadd, 1) := by decide +kernel
theorem dX12_read_53 : decode cX12_read 53 = .ok (.iaload, 1) := by decide +kernel
theorem dX12_read_54 : decode cX12_read 54 = .ok (.aload_n 0, 1) := by decide +kernel
theorem dX12_read_55 : decode cX12_read 55 = .ok (.getfield 53, 3) := by decide +kernel
theorem dX12_read_58 : decode cX12_read 58 = .ok (.iconst 4, 1) := by decide +kernel
theorem dX12_read_59 : decode cX12_read 59 = .ok (.iload_n 2, 1) := by decide +kernel
theorem dX12_read_60 : decode cX12_read 60 = .ok (.imul, 1) := by decide +kernel
theorem dX12_read_61 : decode cX12_read 61 = .ok (.iconst 2, 1) := by decide +kernel
theorem dX12_read_62 : decode cX12_read 62 = .ok (.iadd, 1) := by decide +kernel
theorem dX12_read_63 : decode cX12_read 63 = .ok (.iaload, 1) := by decide +kernel
theorem dX12_read_64 : decode cX12_read 64 = .ok (.aload_n 0, 1) := by decide +kernel
theorem dX12_read_65 : decode cX12_read 65 = .ok (.getfield 53, 3) := by decide +kernel
theorem dX12_read_68 : decode cX12_read 68 = .ok (.iconst 4, 1) := by decide +kernel
theorem dX12_read_69 : decode cX12_read 69 = .ok (.iload_n 2, 1) := by decide +kernel
theorem dX12_read_70 : decode cX12_read 70 = .ok (.imul, 1) := by decide +kernel
theorem dX12_read_71 : decode cX12_read 71 = .ok (.iconst 3, 1) := by decide +kernel
theorem dX12_read_72 : decode cX12_read 72 = .ok (.iadd, 1) := by decide +kernel
theorem dX12_read_73 : decode cX12_read 73 = .ok (.iaload, 1) := by decide +kernel
theorem dX12_read_74 : decode cX12_read 74 = .ok (.invokevirtual 108, 3) := by decide +kernel
theorem dX12_read_77 : decode cX12_read 77 = .ok (.pop, 1) := by decide +kernel
theorem dX12_read_78 : decode cX12_read 78 = .ok (.iinc 2 1, 3) := by decide +kernel
theorem dX12_read_81 : decode cX12_read 81 = .ok (.goto (-54), 3) := by decide +kernel
theorem dX12_read_84 : decode cX12_read 84 = .ok (.aload_n 0, 1) := by decide +kernel
theorem dX12_read_85 : decode cX12_read 85 = .ok (.aload_n 0, 1) := by decide +kernel
theorem dX12_read_86 : decode cX12_read 86 = .ok (.getfield 156, 3) := by decide +kernel
theorem dX12_read_89 : decode cX12_read 89 = .ok (.putfield 17, 3) := by decide +kernel
theorem dX12_read_92 : decode cX12_read 92 = .ok (.aload_n 0, 1) := by decide +kernel
theorem dX12_read_93 : decode cX12_read 93 = .ok (.aload_n 0, 1) := by decide +kernel
theorem dX12_read_94 : decode cX12_read 94 = .ok (.getfield 159, 3) := by decide +kernel
theorem dX12_read_97 : decode cX12_read 97 = .ok (.putfield 20, 3) := by decide +kernel
theorem dX12_read_100 : decode cX12_read 100 = .ok (.iload_n 1, 1) := by decide +kernel
theorem dX12_read_101 : decode cX12_read 101 = .ok (.ireturn, 1) := by decide +kernel
theorem dX12_heartOf_0 : decode cX12_heartOf 0 = .ok (.aload_n 0, 1) := by decide +kernel
theorem dX12_heartOf_1 : decode cX12_heartOf 1 = .ok (.getfield 26, 3) := by decide +kernel
theorem dX12_heartOf_4 : decode cX12_heartOf 4 = .ok (.iload_n 1, 1) := by decide +kernel
theorem dX12_heartOf_5 : decode cX12_heartOf 5 = .ok (.iaload, 1) := by decide +kernel
theorem dX12_heartOf_6 : decode cX12_heartOf 6 = .ok (.iload_n 2, 1) := by decide +kernel
theorem dX12_heartOf_7 : decode cX12_heartOf 7 = .ok (.invokestatic 186, 3) := by decide +kernel
theorem dX12_heartOf_10 : decode cX12_heartOf 10 = .ok (.istore_n 3, 1) := by decide +kernel
theorem dX12_heartOf_11 : decode cX12_heartOf 11 = .ok (.aload_n 0, 1) := by decide +kernel
theorem dX12_heartOf_12 : decode cX12_heartOf 12 = .ok (.getfield 29, 3) := by decide +kernel
theorem dX12_heartOf_15 : decode cX12_heartOf 15 = .ok (.iload_n 1, 1) := by decide +kernel
theorem dX12_heartOf_16 : decode cX12_heartOf 16 = .ok (.iaload, 1) := by decide +kernel
theorem dX12_heartOf_17 : decode cX12_heartOf 17 = .ok (.iload_n 2, 1) := by decide +kernel
theorem dX12_heartOf_18 : decode cX12_heartOf 18 = .ok (.invokestatic 186, 3) := by decide +kernel
theorem dX12_heartOf_21 : decode cX12_heartOf 21 = .ok (.istore 4, 2) := by decide +kernel
theorem dX12_heartOf_23 : decode cX12_heartOf 23 = .ok (.iload_n 3, 1) := by decide +kernel
theorem dX12_heartOf_24 : decode cX12_heartOf 24 = .ok (.ifCond .eq 12, 3) := by decide +kernel
theorem dX12_heartOf_27 : decode cX12_heartOf 27 = .ok (.iload 4, 2) := by decide +kernel
theorem dX12_heartOf_29 : decode cX12_heartOf 29 = .ok (.ifCond .ne 7, 3) := by decide +kernel
theorem dX12_heartOf_32 : decode cX12_heartOf 32 = .ok (.iconst 0, 1) := by decide +kernel
theorem dX12_heartOf_33 : decode cX12_heartOf 33 = .ok (.goto 17, 3) := by decide +kernel
theorem dX12_heartOf_36 : decode cX12_heartOf 36 = .ok (.iload 4, 2) := by decide +kernel
theorem dX12_heartOf_38 : decode cX12_heartOf 38 = .ok (.ifCond .eq 11, 3) := by decide +kernel
theorem dX12_heartOf_41 : decode cX12_heartOf 41 = .ok (.iload_n 3, 1) := by decide +kernel
theorem dX12_heartOf_42 : decode cX12_heartOf 42 = .ok (.ifCond .ne 7, 3) := by decide +kernel
theorem dX12_heartOf_45 : decode cX12_heartOf 45 = .ok (.iconst 1, 1) := by decide +kernel
theorem dX12_heartOf_46 : decode cX12_heartOf 46 = .ok (.goto 4, 3) := by decide +kernel
theorem dX12_heartOf_49 : decode cX12_heartOf 49 = .ok (.iconst 2, 1) := by decide +kernel
theorem dX12_heartOf_50 : decode cX12_heartOf 50 = .ok (.ireturn, 1) := by decide +kernel
theorem dX12_liftsBy_0 : decode cX12_liftsBy 0 = .ok (.iload_n 1, 1) := by decide +kernel
theorem dX12_liftsBy_1 : decode cX12_liftsBy 1 = .ok (.ifCond .eq 14, 3) := by decide +kernel
theorem dX12_liftsBy_4 : decode cX12_liftsBy 4 = .ok (.iload_n 1, 1) := by decide +kernel
theorem dX12_liftsBy_5 : decode cX12_liftsBy 5 = .ok (.iconst 2, 1) := by decide +kernel
theorem dX12_liftsBy_6 : decode cX12_liftsBy 6 = .ok (.if_icmp .ne 13, 3) := by decide +kernel
theorem dX12_liftsBy_9 : decode cX12_liftsBy 9 = .ok (.iload_n 2, 1) := by decide +kernel
theorem dX12_liftsBy_10 : decode cX12_liftsBy 10 = .ok (.bipush 60, 2) := by decide +kernel
theorem dX12_liftsBy_12 : decode cX12_liftsBy 12 = .ok (.if_icmp .ge 7, 3) := by decide +kernel
theorem dX12_liftsBy_15 : decode cX12_liftsBy 15 = .ok (.iconst 1, 1) := by decide +kernel
theorem dX12_liftsBy_16 : decode cX12_liftsBy 16 = .ok (.goto 4, 3) := by decide +kernel
theorem dX12_liftsBy_19 : decode cX12_liftsBy 19 = .ok (.iconst 0, 1) := by decide +kernel
theorem dX12_liftsBy_20 : decode cX12_liftsBy 20 = .ok (.istore 4, 2) := by decide +kernel
theorem dX12_liftsBy_22 : decode cX12_liftsBy 22 = .ok (.iload 4, 2) := by decide +kernel
theorem dX12_liftsBy_24 : decode cX12_liftsBy 24 = .ok (.ifCond .eq 13, 3) := by decide +kernel
theorem dX12_liftsBy_27 : decode cX12_liftsBy 27 = .ok (.iload_n 2, 1) := by decide +kernel
theorem dX12_liftsBy_28 : decode cX12_liftsBy 28 = .ok (.bipush 80, 2) := by decide +kernel
theorem dX12_liftsBy_30 : decode cX12_liftsBy 30 = .ok (.if_icmp .ge 7, 3) := by decide +kernel
theorem dX12_liftsBy_33 : decode cX12_liftsBy 33 = .ok (.iconst 1, 1) := by decide +kernel
theorem dX12_liftsBy_34 : decode cX12_liftsBy 34 = .ok (.goto 4, 3) := by decide +kernel
theorem dX12_liftsBy_37 : decode cX12_liftsBy 37 = .ok (.iconst 0, 1) := by decide +kernel
theorem dX12_liftsBy_38 : decode cX12_liftsBy 38 = .ok (.istore 5, 2) := by decide +kernel
theorem dX12_liftsBy_40 : decode cX12_liftsBy 40 = .ok (.iload_n 0, 1) := by decide +kernel
theorem dX12_liftsBy_41 : decode cX12_liftsBy 41 = .ok (.tableswitch 83 1 5 #[35, 83, 38, 48, 66], 35) := by decide +kernel
theorem dX12_liftsBy_76 : decode cX12_liftsBy 76 = .ok (.iload 5, 2) := by decide +kernel
theorem dX12_liftsBy_78 : decode cX12_liftsBy 78 = .ok (.ireturn, 1) := by decide +kernel
theorem dX12_liftsBy_79 : decode cX12_liftsBy 79 = .ok (.iload_n 1, 1) := by decide +kernel
theorem dX12_liftsBy_80 : decode cX12_liftsBy 80 = .ok (.ifCond .ne 7, 3) := by decide +kernel
theorem dX12_liftsBy_83 : decode cX12_liftsBy 83 = .ok (.iconst 1, 1) := by decide +kernel
theorem dX12_liftsBy_84 : decode cX12_liftsBy 84 = .ok (.goto 4, 3) := by decide +kernel
theorem dX12_liftsBy_87 : decode cX12_liftsBy 87 = .ok (.iconst 0, 1) := by decide +kernel
theorem dX12_liftsBy_88 : decode cX12_liftsBy 88 = .ok (.ireturn, 1) := by decide +kernel
theorem dX12_liftsBy_89 : decode cX12_liftsBy 89 = .ok (.iload 5, 2) := by decide +kernel
theorem dX12_liftsBy_91 : decode cX12_liftsBy 91 = .ok (.ifCond .ne 10, 3) := by decide +kernel
theorem dX12_liftsBy_94 : decode cX12_liftsBy 94 = .ok (.iload_n 3, 1) := by decide +kernel
theorem dX12_liftsBy_95 : decode cX12_liftsBy 95 = .ok (.bipush 7, 2) := by decide +kernel
theorem dX12_liftsBy_97 : decode cX12_liftsBy 97 = .ok (.irem, 1) := by decide +kernel
theorem dX12_liftsBy_98 : decode cX12_liftsBy 98 = .ok (.ifCond .ne 7, 3) := by decide +kernel
theorem dX12_liftsBy_101 : decode cX12_liftsBy 101 = .ok (.iconst 1, 1) := by decide +kernel
theorem dX12_liftsBy_102 : decode cX12_liftsBy 102 = .ok (.goto 4, 3) := by decide +kernel
theorem dX12_liftsBy_105 : decode cX12_liftsBy 105 = .ok (.iconst 0, 1) := by decide +kernel
theorem dX12_liftsBy_106 : decode cX12_liftsBy 106 = .ok (.ireturn, 1) := by decide +kernel
theorem dX12_liftsBy_107 : decode cX12_liftsBy 107 = .ok (.iload 4, 2) := by decide +kernel
theorem dX12_liftsBy_109 : decode cX12_liftsBy 109 = .ok (.ifCond .ne 9, 3) := by decide +kernel
theorem dX12_liftsBy_112 : decode cX12_liftsBy 112 = .ok (.iload_n 2, 1) := by decide +kernel
theorem dX12_liftsBy_113 : decode cX12_liftsBy 113 = .ok (.bipush 30, 2) := by decide +kernel
theorem dX12_liftsBy_115 : decode cX12_liftsBy 115 = .ok (.if_icmp .ge 7, 3) := by decide +kernel
theorem dX12_liftsBy_118 : decode cX12_liftsBy 118 = .ok (.iconst 1, 1) := by decide +kernel
theorem dX12_liftsBy_119 : decode cX12_liftsBy 119 = .ok (.goto 4, 3) := by decide +kernel
theorem dX12_liftsBy_122 : decode cX12_liftsBy 122 = .ok (.iconst 0, 1) := by decide +kernel
theorem dX12_liftsBy_123 : decode cX12_liftsBy 123 = .ok (.ireturn, 1) := by decide +kernel
theorem dX12_liftsBy_124 : decode cX12_liftsBy 124 = .ok (.iload 4, 2) := by decide +kernel
theorem dX12_liftsBy_126 : decode cX12_liftsBy 126 = .ok (.ireturn, 1) := by decide +kernel
theorem dX12_lifts_0 : decode cX12_lifts 0 = .ok (.aload_n 0, 1) := by decide +kernel
theorem dX12_lifts_1 : decode cX12_lifts 1 = .ok (.getfield 23, 3) := by decide +kernel
theorem dX12_lifts_4 : decode cX12_lifts 4 = .ok (.iload_n 1, 1) := by decide +kernel
theorem dX12_lifts_5 : decode cX12_lifts 5 = .ok (.iaload, 1) := by decide +kernel
theorem dX12_lifts_6 : decode cX12_lifts 6 = .ok (.aload_n 0, 1) := by decide +kernel
theorem dX12_lifts_7 : decode cX12_lifts 7 = .ok (.iload_n 1, 1) := by decide +kernel
theorem dX12_lifts_8 : decode cX12_lifts 8 = .ok (.iload_n 2, 1) := by decide +kernel
theorem dX12_lifts_9 : decode cX12_lifts 9 = .ok (.invokevirtual 189, 3) := by decide +kernel
theorem dX12_lifts_12 : decode cX12_lifts 12 = .ok (.aload_n 0, 1) := by decide +kernel
theorem dX12_lifts_13 : decode cX12_lifts 13 = .ok (.getfield 13, 3) := by decide +kernel
theorem dX12_lifts_16 : decode cX12_lifts 16 = .ok (.aload_n 0, 1) := by decide +kernel
theorem dX12_lifts_17 : decode cX12_lifts 17 = .ok (.getfield 85, 3) := by decide +kernel
theorem dX12_lifts_20 : decode cX12_lifts 20 = .ok (.invokestatic 193, 3) := by decide +kernel
theorem dX12_lifts_23 : decode cX12_lifts 23 = .ok (.ireturn, 1) := by decide +kernel
theorem dX12_makesOf_0 : decode cX12_makesOf 0 = .ok (.aload_n 0, 1) := by decide +kernel
theorem dX12_makesOf_1 : decode cX12_makesOf 1 = .ok (.getfield 32, 3) := by decide +kernel
theorem dX12_makesOf_4 : decode cX12_makesOf 4 = .ok (.iload_n 1, 1) := by decide +kernel
theorem dX12_makesOf_5 : decode cX12_makesOf 5 = .ok (.iaload, 1) := by decide +kernel
theorem dX12_makesOf_6 : decode cX12_makesOf 6 = .ok (.iconst 5, 1) := by decide +kernel
theorem dX12_makesOf_7 : decode cX12_makesOf 7 = .ok (.idiv, 1) := by decide +kernel
theorem dX12_makesOf_8 : decode cX12_makesOf 8 = .ok (.istore_n 2, 1) := by decide +kernel
theorem dX12_makesOf_9 : decode cX12_makesOf 9 = .ok (.aload_n 0, 1) := by decide +kernel
theorem dX12_makesOf_10 : decode cX12_makesOf 10 = .ok (.getfield 23, 3) := by decide +kernel
theorem dX12_makesOf_13 : decode cX12_makesOf 13 = .ok (.iload_n 1, 1) := by decide +kernel
theorem dX12_makesOf_14 : decode cX12_makesOf 14 = .ok (.iaload, 1) := by decide +kernel
theorem dX12_makesOf_15 : decode cX12_makesOf 15 = .ok (.tableswitch 53 1 5 #[33, 37, 53, 41, 47], 33) := by decide +kernel
theorem dX12_makesOf_48 : decode cX12_makesOf 48 = .ok (.iload_n 2, 1) := by decide +kernel
theorem dX12_makesOf_49 : decode cX12_makesOf 49 = .ok (.iconst 1, 1) := by decide +kernel
theorem dX12_makesOf_50 : decode cX12_makesOf 50 = .ok (.iadd, 1) := by decide +kernel
theorem dX12_makesOf_51 : decode cX12_makesOf 51 = .ok (.ireturn, 1) := by decide +kernel
theorem dX12_makesOf_52 : decode cX12_makesOf 52 = .ok (.iload_n 2, 1) := by decide +kernel
theorem dX12_makesOf_53 : decode cX12_makesOf 53 = .ok (.iconst 3, 1) := by decide +kernel
theorem dX12_makesOf_54 : decode cX12_makesOf 54 = .ok (.isub, 1) := by decide +kernel
theorem dX12_makesOf_55 : decode cX12_makesOf 55 = .ok (.ireturn, 1) := by decide +kernel
theorem dX12_makesOf_56 : decode cX12_makesOf 56 = .ok (.iload_n 2, 1) := by decide +kernel
theorem dX12_makesOf_57 : decode cX12_makesOf 57 = .ok (.iconst 1, 1) := by decide +kernel
theorem dX12_makesOf_58 : decode cX12_makesOf 58 = .ok (.iadd, 1) := by decide +kernel
theorem dX12_makesOf_59 : decode cX12_makesOf 59 = .ok (.iconst 2, 1) := by decide +kernel
theorem dX12_makesOf_60 : decode cX12_makesOf 60 = .ok (.idiv, 1) := by decide +kernel
theorem dX12_makesOf_61 : decode cX12_makesOf 61 = .ok (.ireturn, 1) := by decide +kernel
theorem dX12_makesOf_62 : decode cX12_makesOf 62 = .ok (.iconst 2, 1) := by decide +kernel
theorem dX12_makesOf_63 : decode cX12_makesOf 63 = .ok (.iload_n 2, 1) := by decide +kernel
theorem dX12_makesOf_64 : decode cX12_makesOf 64 = .ok (.iconst 3, 1) := by decide +kernel
theorem dX12_makesOf_65 : decode cX12_makesOf 65 = .ok (.isub, 1) := by decide +kernel
theorem dX12_makesOf_66 : decode cX12_makesOf 66 = .ok (.imul, 1) := by decide +kernel
theorem dX12_makesOf_67 : decode cX12_makesOf 67 = .ok (.ireturn, 1) := by decide +kernel
theorem dX12_makesOf_68 : decode cX12_makesOf 68 = .ok (.iload_n 2, 1) := by decide +kernel
theorem dX12_makesOf_69 : decode cX12_makesOf 69 = .ok (.ireturn, 1) := by decide +kernel
theorem dX12_growth_0 : decode cX12_growth 0 = .ok (.aload_n 0, 1) := by decide +kernel
theorem dX12_growth_1 : decode cX12_growth 1 = .ok (.invokevirtual 196, 3) := by decide +kernel
theorem dX12_growth_4 : decode cX12_growth 4 = .ok (.ifCond .eq 23, 3) := by decide +kernel
theorem dX12_growth_7 : decode cX12_growth 7 = .ok (.aload_n 0, 1) := by decide +kernel
theorem dX12_growth_8 : decode cX12_growth 8 = .ok (.aload_n 0, 1) := by decide +kernel
theorem dX12_growth_9 : decode cX12_growth 9 = .ok (.getfield 17, 3) := by decide +kernel
theorem dX12_growth_12 : decode cX12_growth 12 = .ok (.invokevirtual 199, 3) := by decide +kernel
theorem dX12_growth_15 : decode cX12_growth 15 = .ok (.aload_n 0, 1) := by decide +kernel
theorem dX12_growth_16 : decode cX12_growth 16 = .ok (.aload_n 0, 1) := by decide +kernel
theorem dX12_growth_17 : decode cX12_growth 17 = .ok (.getfield 20, 3) := by decide +kernel
theorem dX12_growth_20 : decode cX12_growth 20 = .ok (.invokevirtual 199, 3) := by decide +kernel
theorem dX12_growth_23 : decode cX12_growth 23 = .ok (.iadd, 1) := by decide +kernel
theorem dX12_growth_24 : decode cX12_growth 24 = .ok (.goto 4, 3) := by decide +kernel
theorem dX12_growth_27 : decode cX12_growth 27 = .ok (.iconst 0, 1) := by decide +kernel
theorem dX12_growth_28 : decode cX12_growth 28 = .ok (.iconst 2, 1) := by decide +kernel
theorem dX12_growth_29 : decode cX12_growth 29 = .ok (.isub, 1) := by decide +kernel
theorem dX12_growth_30 : decode cX12_growth 30 = .ok (.ireturn, 1) := by decide +kernel
theorem dX12_pass_0 : decode cX12_pass 0 = .ok (.aload_n 0, 1) := by decide +kernel
theorem dX12_pass_1 : decode cX12_pass 1 = .ok (.aload_n 0, 1) := by decide +kernel
theorem dX12_pass_2 : decode cX12_pass 2 = .ok (.getfield 13, 3) := by decide +kernel
theorem dX12_pass_5 : decode cX12_pass 5 = .ok (.aload_n 0, 1) := by decide +kernel
theorem dX12_pass_6 : decode cX12_pass 6 = .ok (.invokevirtual 202, 3) := by decide +kernel
theorem dX12_pass_9 : decode cX12_pass 9 = .ok (.iadd, 1) := by decide +kernel
theorem dX12_pass_10 : decode cX12_pass 10 = .ok (.invokestatic 205, 3) := by decide +kernel
theorem dX12_pass_13 : decode cX12_pass 13 = .ok (.putfield 13, 3) := by decide +kernel
theorem dX12_pass_16 : decode cX12_pass 16 = .ok (.aload_n 0, 1) := by decide +kernel
theorem dX12_pass_17 : decode cX12_pass 17 = .ok (.dup, 1) := by decide +kernel
theorem dX12_pass_18 : decode cX12_pass 18 = .ok (.getfield 85, 3) := by decide +kernel
theorem dX12_pass_21 : decode cX12_pass 21 = .ok (.iconst 1, 1) := by decide +kernel
theorem dX12_pass_22 : decode cX12_pass 22 = .ok (.iadd, 1) := by decide +kernel
theorem dX12_pass_23 : decode cX12_pass 23 = .ok (.putfield 85, 3) := by decide +kernel
theorem dX12_pass_26 : decode cX12_pass 26 = .ok (.return_, 1) := by decide +kernel
theorem dX12_lifting_0 : decode cX12_lifting 0 = .ok (.aload_n 0, 1) := by decide +kernel
theorem dX12_lifting_1 : decode cX12_lifting 1 = .ok (.aload_n 0, 1) := by decide +kernel
theorem dX12_lifting_2 : decode cX12_lifting 2 = .ok (.getfield 17, 3) := by decide +kernel
theorem dX12_lifting_5 : decode cX12_lifting 5 = .ok (.iload_n 1, 1) := by decide +kernel
theorem dX12_lifting_6 : decode cX12_lifting 6 = .ok (.invokevirtual 208, 3) := by decide +kernel
theorem dX12_lifting_9 : decode cX12_lifting 9 = .ok (.ifCond .eq 7, 3) := by decide +kernel
theorem dX12_lifting_12 : decode cX12_lifting 12 = .ok (.iconst 1, 1) := by decide +kernel
theorem dX12_lifting_13 : decode cX12_lifting 13 = .ok (.goto 4, 3) := by decide +kernel
theorem dX12_lifting_16 : decode cX12_lifting 16 = .ok (.iconst 0, 1) := by decide +kernel
theorem dX12_lifting_17 : decode cX12_lifting 17 = .ok (.aload_n 0, 1) := by decide +kernel
theorem dX12_lifting_18 : decode cX12_lifting 18 = .ok (.aload_n 0, 1) := by decide +kernel
theorem dX12_lifting_19 : decode cX12_lifting 19 = .ok (.getfield 20, 3) := by decide +kernel
theorem dX12_lifting_22 : decode cX12_lifting 22 = .ok (.iload_n 1, 1) := by decide +kernel
theorem dX12_lifting_23 : decode cX12_lifting 23 = .ok (.invokevirtual 208, 3) := by decide +kernel
theorem dX12_lifting_26 : decode cX12_lifting 26 = .ok (.ifCond .eq 7, 3) := by decide +kernel
theorem dX12_lifting_29 : decode cX12_lifting 29 = .ok (.iconst 2, 1) := by decide +kernel
theorem dX12_lifting_30 : decode cX12_lifting 30 = .ok (.goto 4, 3) := by decide +kernel
theorem dX12_lifting_33 : decode cX12_lifting 33 = .ok (.iconst 0, 1) := by decide +kernel
theorem dX12_lifting_34 : decode cX12_lifting 34 = .ok (.ior, 1) := by decide +kernel
theorem dX12_lifting_35 : decode cX12_lifting 35 = .ok (.ireturn, 1) := by decide +kernel
theorem dX12_asks_0 : decode cX12_asks 0 = .ok (.aload_n 0, 1) := by decide +kernel
theorem dX12_asks_1 : decode cX12_asks 1 = .ok (.iload_n 1, 1) := by decide +kernel
theorem dX12_asks_2 : decode cX12_asks 2 = .ok (.invokevirtual 211, 3) := by decide +kernel
theorem dX12_asks_5 : decode cX12_asks 5 = .ok (.istore_n 2, 1) := by decide +kernel
theorem dX12_asks_6 : decode cX12_asks 6 = .ok (.aload_n 0, 1) := by decide +kernel
theorem dX12_asks_7 : decode cX12_asks 7 = .ok (.dup, 1) := by decide +kernel
theorem dX12_asks_8 : decode cX12_asks 8 = .ok (.getfield 88, 3) := by decide +kernel
theorem dX12_asks_11 : decode cX12_asks 11 = .ok (.iload_n 2, 1) := by decide +kernel
theorem dX12_asks_12 : decode cX12_asks 12 = .ok (.iconst 3, 1) := by decide +kernel
theorem dX12_asks_13 : decode cX12_asks 13 = .ok (.if_icmp .ne 9, 3) := by decide +kernel
theorem dX12_asks_16 : decode cX12_asks 16 = .ok (.iconst 1, 1) := by decide +kernel
theorem dX12_asks_17 : decode cX12_asks 17 = .ok (.iload_n 1, 1) := by decide +kernel
theorem dX12_asks_18 : decode cX12_asks 18 = .ok (.ishl, 1) := by decide +kernel
theorem dX12_asks_19 : decode cX12_asks 19 = .ok (.goto 4, 3) := by decide +kernel
theorem dX12_asks_22 : decode cX12_asks 22 = .ok (.iconst 0, 1) := by decide +kernel
theorem dX12_asks_23 : decode cX12_asks 23 = .ok (.ior, 1) := by decide +kernel
theorem dX12_asks_24 : decode cX12_asks 24 = .ok (.putfield 88, 3) := by decide +kernel
theorem dX12_asks_27 : decode cX12_asks 27 = .ok (.aload_n 0, 1) := by decide +kernel
theorem dX12_asks_28 : decode cX12_asks 28 = .ok (.aload_n 0, 1) := by decide +kernel
theorem dX12_asks_29 : decode cX12_asks 29 = .ok (.getfield 13, 3) := by decide +kernel
theorem dX12_asks_32 : decode cX12_asks 32 = .ok (.iload_n 2, 1) := by decide +kernel
theorem dX12_asks_33 : decode cX12_asks 33 = .ok (.iconst 3, 1) := by decide +kernel
theorem dX12_asks_34 : decode cX12_asks 34 = .ok (.if_icmp .ne 8, 3) := by decide +kernel
theorem dX12_asks_37 : decode cX12_asks 37 = .ok (.bipush (-2), 2) := by decide +kernel
theorem dX12_asks_39 : decode cX12_asks 39 = .ok (.goto 12, 3) := by decide +kernel
theorem dX12_asks_42 : decode cX12_asks 42 = .ok (.iload_n 2, 1) := by decide +kernel
theorem dX12_asks_43 : decode cX12_asks 43 = .ok (.ifCond .ne 7, 3) := by decide +kernel
theorem dX12_asks_46 : decode cX12_asks 46 = .ok (.iconst 1, 1) := by decide +kernel
theorem dX12_asks_47 : decode cX12_asks 47 = .ok (.goto 4, 3) := by decide +kernel
theorem dX12_asks_50 : decode cX12_asks 50 = .ok (.iconst 5, 1) := by decide +kernel
theorem dX12_asks_51 : decode cX12_asks 51 = .ok (.iadd, 1) := by decide +kernel
theorem dX12_asks_52 : decode cX12_asks 52 = .ok (.invokestatic 205, 3) := by decide +kernel
theorem dX12_asks_55 : decode cX12_asks 55 = .ok (.putfield 13, 3) := by decide +kernel
theorem dX12_asks_58 : decode cX12_asks 58 = .ok (.iload_n 2, 1) := by decide +kernel
theorem dX12_asks_59 : decode cX12_asks 59 = .ok (.ireturn, 1) := by decide +kernel
theorem dX12_lays_0 : decode cX12_lays 0 = .ok (.aload_n 1, 1) := by decide +kernel
theorem dX12_lays_1 : decode cX12_lays 1 = .ok (.iload_n 2, 1) := by decide +kernel
theorem dX12_lays_2 : decode cX12_lays 2 = .ok (.aload_n 0, 1) := by decide +kernel
theorem dX12_lays_3 : decode cX12_lays 3 = .ok (.getfield 13, 3) := by decide +kernel
theorem dX12_lays_6 : decode cX12_lays 6 = .ok (.iastore, 1) := by decide +kernel
theorem dX12_lays_7 : decode cX12_lays 7 = .ok (.aload_n 1, 1) := by decide +kernel
theorem dX12_lays_8 : decode cX12_lays 8 = .ok (.iload_n 2, 1) := by decide +kernel
theorem dX12_lays_9 : decode cX12_lays 9 = .ok (.iconst 1, 1) := by decide +kernel
theorem dX12_lays_10 : decode cX12_lays 10 = .ok (.iadd, 1) := by decide +kernel
theorem dX12_lays_11 : decode cX12_lays 11 = .ok (.aload_n 0, 1) := by decide +kernel
theorem dX12_lays_12 : decode cX12_lays 12 = .ok (.getfield 85, 3) := by decide +kernel
theorem dX12_lays_15 : decode cX12_lays 15 = .ok (.iastore, 1) := by decide +kernel
theorem dX12_lays_16 : decode cX12_lays 16 = .ok (.aload_n 1, 1) := by decide +kernel
theorem dX12_lays_17 : decode cX12_lays 17 = .ok (.iload_n 2, 1) := by decide +kernel
theorem dX12_lays_18 : decode cX12_lays 18 = .ok (.iconst 2, 1) := by decide +kernel
theorem dX12_lays_19 : decode cX12_lays 19 = .ok (.iadd, 1) := by decide +kernel
theorem dX12_lays_20 : decode cX12_lays 20 = .ok (.aload_n 0, 1) := by decide +kernel
theorem dX12_lays_21 : decode cX12_lays 21 = .ok (.getfield 88, 3) := by decide +kernel
theorem dX12_lays_24 : decode cX12_lays 24 = .ok (.iastore, 1) := by decide +kernel
theorem dX12_lays_25 : decode cX12_lays 25 = .ok (.aload_n 1, 1) := by decide +kernel
theorem dX12_lays_26 : decode cX12_lays 26 = .ok (.iload_n 2, 1) := by decide +kernel
theorem dX12_lays_27 : decode cX12_lays 27 = .ok (.iconst 3, 1) := by decide +kernel
theorem dX12_lays_28 : decode cX12_lays 28 = .ok (.iadd, 1) := by decide +kernel
theorem dX12_lays_29 : decode cX12_lays 29 = .ok (.aload_n 0, 1) := by decide +kernel
theorem dX12_lays_30 : decode cX12_lays 30 = .ok (.getfield 17, 3) := by decide +kernel
theorem dX12_lays_33 : decode cX12_lays 33 = .ok (.iastore, 1) := by decide +kernel
theorem dX12_lays_34 : decode cX12_lays 34 = .ok (.aload_n 1, 1) := by decide +kernel
theorem dX12_lays_35 : decode cX12_lays 35 = .ok (.iload_n 2, 1) := by decide +kernel
theorem dX12_lays_36 : decode cX12_lays 36 = .ok (.iconst 4, 1) := by decide +kernel
theorem dX12_lays_37 : decode cX12_lays 37 = .ok (.iadd, 1) := by decide +kernel
theorem dX12_lays_38 : decode cX12_lays 38 = .ok (.aload_n 0, 1) := by decide +kernel
theorem dX12_lays_39 : decode cX12_lays 39 = .ok (.getfield 20, 3) := by decide +kernel
theorem dX12_lays_42 : decode cX12_lays 42 = .ok (.iastore, 1) := by decide +kernel
theorem dX12_lays_43 : decode cX12_lays 43 = .ok (.return_, 1) := by decide +kernel
theorem dX12_takes_0 : decode cX12_takes 0 = .ok (.aload_n 0, 1) := by decide +kernel
theorem dX12_takes_1 : decode cX12_takes 1 = .ok (.aload_n 1, 1) := by decide +kernel
theorem dX12_takes_2 : decode cX12_takes 2 = .ok (.iload_n 2, 1) := by decide +kernel
theorem dX12_takes_3 : decode cX12_takes 3 = .ok (.iaload, 1) := by decide +kernel
theorem dX12_takes_4 : decode cX12_takes 4 = .ok (.putfield 13, 3) := by decide +kernel
theorem dX12_takes_7 : decode cX12_takes 7 = .ok (.aload_n 0, 1) := by decide +kernel
theorem dX12_takes_8 : decode cX12_takes 8 = .ok (.aload_n 1, 1) := by decide +kernel
theorem dX12_takes_9 : decode cX12_takes 9 = .ok (.iload_n 2, 1) := by decide +kernel
theorem dX12_takes_10 : decode cX12_takes 10 = .ok (.iconst 1, 1) := by decide +kernel
theorem dX12_takes_11 : decode cX12_takes 11 = .ok (.iadd, 1) := by decide +kernel
theorem dX12_takes_12 : decode cX12_takes 12 = .ok (.iaload, 1) := by decide +kernel
theorem dX12_takes_13 : decode cX12_takes 13 = .ok (.putfield 85, 3) := by decide +kernel
theorem dX12_takes_16 : decode cX12_takes 16 = .ok (.aload_n 0, 1) := by decide +kernel
theorem dX12_takes_17 : decode cX12_takes 17 = .ok (.aload_n 1, 1) := by decide +kernel
theorem dX12_takes_18 : decode cX12_takes 18 = .ok (.iload_n 2, 1) := by decide +kernel
theorem dX12_takes_19 : decode cX12_takes 19 = .ok (.iconst 2, 1) := by decide +kernel
theorem dX12_takes_20 : decode cX12_takes 20 = .ok (.iadd, 1) := by decide +kernel
theorem dX12_takes_21 : decode cX12_takes 21 = .ok (.iaload, 1) := by decide +kernel
theorem dX12_takes_22 : decode cX12_takes 22 = .ok (.putfield 88, 3) := by decide +kernel
theorem dX12_takes_25 : decode cX12_takes 25 = .ok (.aload_n 0, 1) := by decide +kernel
theorem dX12_takes_26 : decode cX12_takes 26 = .ok (.aload_n 1, 1) := by decide +kernel
theorem dX12_takes_27 : decode cX12_takes 27 = .ok (.iload_n 2, 1) := by decide +kernel
theorem dX12_takes_28 : decode cX12_takes 28 = .ok (.iconst 3, 1) := by decide +kernel
theorem dX12_takes_29 : decode cX12_takes 29 = .ok (.iadd, 1) := by decide +kernel
theorem dX12_takes_30 : decode cX12_takes 30 = .ok (.iaload, 1) := by decide +kernel
theorem dX12_takes_31 : decode cX12_takes 31 = .ok (.putfield 17, 3) := by decide +kernel
theorem dX12_takes_34 : decode cX12_takes 34 = .ok (.aload_n 0, 1) := by decide +kernel
theorem dX12_takes_35 : decode cX12_takes 35 = .ok (.aload_n 1, 1) := by decide +kernel
theorem dX12_takes_36 : decode cX12_takes 36 = .ok (.iload_n 2, 1) := by decide +kernel
theorem dX12_takes_37 : decode cX12_takes 37 = .ok (.iconst 4, 1) := by decide +kernel
theorem dX12_takes_38 : decode cX12_takes 38 = .ok (.iadd, 1) := by decide +kernel
theorem dX12_takes_39 : decode cX12_takes 39 = .ok (.iaload, 1) := by decide +kernel
theorem dX12_takes_40 : decode cX12_takes 40 = .ok (.putfield 20, 3) := by decide +kernel
theorem dX12_takes_43 : decode cX12_takes 43 = .ok (.return_, 1) := by decide +kernel
theorem dX12_notes_0 : decode cX12_notes 0 = .ok (.aload_n 0, 1) := by decide +kernel
theorem dX12_notes_1 : decode cX12_notes 1 = .ok (.getfield 94, 3) := by decide +kernel
theorem dX12_notes_4 : decode cX12_notes 4 = .ok (.bipush 8, 2) := by decide +kernel
theorem dX12_notes_6 : decode cX12_notes 6 = .ok (.if_icmp .ne 41, 3) := by decide +kernel
theorem dX12_notes_9 : decode cX12_notes 9 = .ok (.iconst 0, 1) := by decide +kernel
theorem dX12_notes_10 : decode cX12_notes 10 = .ok (.istore_n 1, 1) := by decide +kernel
theorem dX12_notes_11 : decode cX12_notes 11 = .ok (.iload_n 1, 1) := by decide +kernel
theorem dX12_notes_12 : decode cX12_notes 12 = .ok (.bipush 35, 2) := by decide +kernel
theorem dX12_notes_14 : decode cX12_notes 14 = .ok (.if_icmp .ge 23, 3) := by decide +kernel
theorem dX12_notes_17 : decode cX12_notes 17 = .ok (.aload_n 0, 1) := by decide +kernel
theorem dX12_notes_18 : decode cX12_notes 18 = .ok (.getfield 56, 3) := by decide +kernel
theorem dX12_notes_21 : decode cX12_notes 21 = .ok (.iload_n 1, 1) := by decide +kernel
theorem dX12_notes_22 : decode cX12_notes 22 = .ok (.aload_n 0, 1) := by decide +kernel
theorem dX12_notes_23 : decode cX12_notes 23 = .ok (.getfield 56, 3) := by decide +kernel
theorem dX12_notes_26 : decode cX12_notes 26 = .ok (.iload_n 1, 1) := by decide +kernel
theorem dX12_notes_27 : decode cX12_notes 27 = .ok (.iconst 5, 1) := by decide +kernel
theorem dX12_notes_28 : decode cX12_notes 28 = .ok (.iadd, 1) := by decide +kernel
theorem dX12_notes_29 : decode cX12_notes 29 = .ok (.iaload, 1) := by decide +kernel
theorem dX12_notes_30 : decode cX12_notes 30 = .ok (.iastore, 1) := by decide +kernel
theorem dX12_notes_31 : decode cX12_notes 31 = .ok (.iinc 1 1, 3) := by decide +kernel
theorem dX12_notes_34 : decode cX12_notes 34 = .ok (.goto (-23), 3) := by decide +kernel
theorem dX12_notes_37 : decode cX12_notes 37 = .ok (.aload_n 0, 1) := by decide +kernel
theorem dX12_notes_38 : decode cX12_notes 38 = .ok (.dup, 1) := by decide +kernel
theorem dX12_notes_39 : decode cX12_notes 39 = .ok (.getfield 94, 3) := by decide +kernel
theorem dX12_notes_42 : decode cX12_notes 42 = .ok (.iconst 1, 1) := by decide +kernel
theorem dX12_notes_43 : decode cX12_notes 43 = .ok (.isub, 1) := by decide +kernel
theorem dX12_notes_44 : decode cX12_notes 44 = .ok (.putfield 94, 3) := by decide +kernel
theorem dX12_notes_47 : decode cX12_notes 47 = .ok (.aload_n 0, 1) := by decide +kernel
theorem dX12_notes_48 : decode cX12_notes 48 = .ok (.aload_n 0, 1) := by decide +kernel
theorem dX12_notes_49 : decode cX12_notes 49 = .ok (.getfield 56, 3) := by decide +kernel
theorem dX12_notes_52 : decode cX12_notes 52 = .ok (.iconst 5, 1) := by decide +kernel
theorem dX12_notes_53 : decode cX12_notes 53 = .ok (.aload_n 0, 1) := by decide +kernel
theorem dX12_notes_54 : decode cX12_notes 54 = .ok (.getfield 94, 3) := by decide +kernel
theorem dX12_notes_57 : decode cX12_notes 57 = .ok (.imul, 1) := by decide +kernel
theorem dX12_notes_58 : decode cX12_notes 58 = .ok (.invokevirtual 214, 3) := by decide +kernel
theorem dX12_notes_61 : decode cX12_notes 61 = .ok (.aload_n 0, 1) := by decide +kernel
theorem dX12_notes_62 : decode cX12_notes 62 = .ok (.dup, 1) := by decide +kernel
theorem dX12_notes_63 : decode cX12_notes 63 = .ok (.getfield 94, 3) := by decide +kernel
theorem dX12_notes_66 : decode cX12_notes 66 = .ok (.iconst 1, 1) := by decide +kernel
theorem dX12_notes_67 : decode cX12_notes 67 = .ok (.iadd, 1) := by decide +kernel
theorem dX12_notes_68 : decode cX12_notes 68 = .ok (.putfield 94, 3) := by decide +kernel
theorem dX12_notes_71 : decode cX12_notes 71 = .ok (.return_, 1) := by decide +kernel
theorem dX12_puts_0 : decode cX12_puts 0 = .ok (.aload_n 0, 1) := by decide +kernel
theorem dX12_puts_1 : decode cX12_puts 1 = .ok (.aload_n 0, 1) := by decide +kernel
theorem dX12_puts_2 : decode cX12_puts 2 = .ok (.getfield 59, 3) := by decide +kernel
theorem dX12_puts_5 : decode cX12_puts 5 = .ok (.iconst 0, 1) := by decide +kernel
theorem dX12_puts_6 : decode cX12_puts 6 = .ok (.invokevirtual 214, 3) := by decide +kernel
theorem dX12_puts_9 : decode cX12_puts 9 = .ok (.return_, 1) := by decide +kernel
theorem dX12_back_0 : decode cX12_back 0 = .ok (.aload_n 0, 1) := by decide +kernel
theorem dX12_back_1 : decode cX12_back 1 = .ok (.aload_n 0, 1) := by decide +kernel
theorem dX12_back_2 : decode cX12_back 2 = .ok (.getfield 59, 3) := by decide +kernel
theorem dX12_back_5 : decode cX12_back 5 = .ok (.iconst 0, 1) := by decide +kernel
theorem dX12_back_6 : decode cX12_back 6 = .ok (.invokevirtual 218, 3) := by decide +kernel
theorem dX12_back_9 : decode cX12_back 9 = .ok (.return_, 1) := by decide +kernel
theorem dX12_pair_0 : decode cX12_pair 0 = .ok (.aload_n 0, 1) := by decide +kernel
theorem dX12_pair_1 : decode cX12_pair 1 = .ok (.iload_n 1, 1) := by decide +kernel
theorem dX12_pair_2 : decode cX12_pair 2 = .ok (.invokevirtual 221, 3) := by decide +kernel
theorem dX12_pair_5 : decode cX12_pair 5 = .ok (.ifCond .eq 16, 3) := by decide +kernel
theorem dX12_pair_8 : decode cX12_pair 8 = .ok (.aload_n 0, 1) := by decide +kernel
theorem dX12_pair_9 : decode cX12_pair 9 = .ok (.iload_n 2, 1) := by decide +kernel
theorem dX12_pair_10 : decode cX12_pair 10 = .ok (.invokevirtual 221, 3) := by decide +kernel
theorem dX12_pair_13 : decode cX12_pair 13 = .ok (.ifCond .eq 8, 3) := by decide +kernel
theorem dX12_pair_16 : decode cX12_pair 16 = .ok (.iload_n 1, 1) := by decide +kernel
theorem dX12_pair_17 : decode cX12_pair 17 = .ok (.iload_n 2, 1) := by decide +kernel
theorem dX12_pair_18 : decode cX12_pair 18 = .ok (.if_icmp .ne 8, 3) := by decide +kernel
theorem dX12_pair_21 : decode cX12_pair 21 = .ok (.aload_n 0, 1) := by decide +kernel
theorem dX12_pair_22 : decode cX12_pair 22 = .ok (.invokevirtual 101, 3) := by decide +kernel
theorem dX12_pair_25 : decode cX12_pair 25 = .ok (.ireturn, 1) := by decide +kernel
theorem dX12_pair_26 : decode cX12_pair 26 = .ok (.aload_n 0, 1) := by decide +kernel
theorem dX12_pair_27 : decode cX12_pair 27 = .ok (.invokevirtual 224, 3) := by decide +kernel
theorem dX12_pair_30 : decode cX12_pair 30 = .ok (.aload_n 0, 1) := by decide +kernel
theorem dX12_pair_31 : decode cX12_pair 31 = .ok (.iload_n 1, 1) := by decide +kernel
theorem dX12_pair_32 : decode cX12_pair 32 = .ok (.putfield 17, 3) := by decide +kernel
theorem dX12_pair_35 : decode cX12_pair 35 = .ok (.aload_n 0, 1) := by decide +kernel
theorem dX12_pair_36 : decode cX12_pair 36 = .ok (.iload_n 2, 1) := by decide +kernel
theorem dX12_pair_37 : decode cX12_pair 37 = .ok (.putfield 20, 3) := by decide +kernel
theorem dX12_pair_40 : decode cX12_pair 40 = .ok (.iconst 1, 1) := by decide +kernel
theorem dX12_pair_41 : decode cX12_pair 41 = .ok (.ireturn, 1) := by decide +kernel
theorem dX12_ask_0 : decode cX12_ask 0 = .ok (.iload_n 1, 1) := by decide +kernel
theorem dX12_ask_1 : decode cX12_ask 1 = .ok (.invokestatic 227, 3) := by decide +kernel
theorem dX12_ask_4 : decode cX12_ask 4 = .ok (.ifCond .ne 8, 3) := by decide +kernel
theorem dX12_ask_7 : decode cX12_ask 7 = .ok (.aload_n 0, 1) := by decide +kernel
theorem dX12_ask_8 : decode cX12_ask 8 = .ok (.invokevirtual 101, 3) := by decide +kernel
theorem dX12_ask_11 : decode cX12_ask 11 = .ok (.ireturn, 1) := by decide +kernel
theorem dX12_ask_12 : decode cX12_ask 12 = .ok (.aload_n 0, 1) := by decide +kernel
theorem dX12_ask_13 : decode cX12_ask 13 = .ok (.invokevirtual 196, 3) := by decide +kernel
theorem dX12_ask_16 : decode cX12_ask 16 = .ok (.ifCond .eq 14, 3) := by decide +kernel
theorem dX12_ask_19 : decode cX12_ask 19 = .ok (.aload_n 0, 1) := by decide +kernel
theorem dX12_ask_20 : decode cX12_ask 20 = .ok (.getfield 88, 3) := by decide +kernel
theorem dX12_ask_23 : decode cX12_ask 23 = .ok (.iload_n 1, 1) := by decide +kernel
theorem dX12_ask_24 : decode cX12_ask 24 = .ok (.invokestatic 186, 3) := by decide +kernel
theorem dX12_ask_27 : decode cX12_ask 27 = .ok (.ifCond .eq 8, 3) := by decide +kernel
theorem dX12_ask_30 : decode cX12_ask 30 = .ok (.aload_n 0, 1) := by decide +kernel
theorem dX12_ask_31 : decode cX12_ask 31 = .ok (.invokevirtual 230, 3) := by decide +kernel
theorem dX12_ask_34 : decode cX12_ask 34 = .ok (.ireturn, 1) := by decide +kernel
theorem dX12_ask_35 : decode cX12_ask 35 = .ok (.aload_n 0, 1) := by decide +kernel
theorem dX12_ask_36 : decode cX12_ask 36 = .ok (.invokevirtual 224, 3) := by decide +kernel
theorem dX12_ask_39 : decode cX12_ask 39 = .ok (.aload_n 0, 1) := by decide +kernel
theorem dX12_ask_40 : decode cX12_ask 40 = .ok (.iload_n 1, 1) := by decide +kernel
theorem dX12_ask_41 : decode cX12_ask 41 = .ok (.invokevirtual 233, 3) := by decide +kernel
theorem dX12_ask_44 : decode cX12_ask 44 = .ok (.ireturn, 1) := by decide +kernel
theorem dX12_day_0 : decode cX12_day 0 = .ok (.iload_n 1, 1) := by decide +kernel
theorem dX12_day_1 : decode cX12_day 1 = .ok (.iconst 1, 1) := by decide +kernel
theorem dX12_day_2 : decode cX12_day 2 = .ok (.bipush 60, 2) := by decide +kernel
theorem dX12_day_4 : decode cX12_day 4 = .ok (.invokestatic 97, 3) := by decide +kernel
theorem dX12_day_7 : decode cX12_day 7 = .ok (.ifCond .ne 8, 3) := by decide +kernel
theorem dX12_day_10 : decode cX12_day 10 = .ok (.aload_n 0, 1) := by decide +kernel
theorem dX12_day_11 : decode cX12_day 11 = .ok (.invokevirtual 101, 3) := by decide +kernel
theorem dX12_day_14 : decode cX12_day 14 = .ok (.ireturn, 1) := by decide +kernel
theorem dX12_day_15 : decode cX12_day 15 = .ok (.aload_n 0, 1) := by decide +kernel
theorem dX12_day_16 : decode cX12_day 16 = .ok (.invokevirtual 224, 3) := by decide +kernel
theorem dX12_day_19 : decode cX12_day 19 = .ok (.iconst 0, 1) := by decide +kernel
theorem dX12_day_20 : decode cX12_day 20 = .ok (.istore_n 2, 1) := by decide +kernel
theorem dX12_day_21 : decode cX12_day 21 = .ok (.iload_n 2, 1) := by decide +kernel
theorem dX12_day_22 : decode cX12_day 22 = .ok (.iload_n 1, 1) := by decide +kernel
theorem dX12_day_23 : decode cX12_day 23 = .ok (.if_icmp .ge 13, 3) := by decide +kernel
theorem dX12_day_26 : decode cX12_day 26 = .ok (.aload_n 0, 1) := by decide +kernel
theorem dX12_day_27 : decode cX12_day 27 = .ok (.invokevirtual 236, 3) := by decide +kernel
theorem dX12_day_30 : decode cX12_day 30 = .ok (.iinc 2 1, 3) := by decide +kernel
theorem dX12_day_33 : decode cX12_day 33 = .ok (.goto (-12), 3) := by decide +kernel
theorem dX12_day_36 : decode cX12_day 36 = .ok (.aload_n 0, 1) := by decide +kernel
theorem dX12_day_37 : decode cX12_day 37 = .ok (.getfield 13, 3) := by decide +kernel
theorem dX12_day_40 : decode cX12_day 40 = .ok (.ireturn, 1) := by decide +kernel
theorem dX12_feed_0 : decode cX12_feed 0 = .ok (.iload_n 1, 1) := by decide +kernel
theorem dX12_feed_1 : decode cX12_feed 1 = .ok (.iconst 1, 1) := by decide +kernel
theorem dX12_feed_2 : decode cX12_feed 2 = .ok (.bipush 20, 2) := by decide +kernel
theorem dX12_feed_4 : decode cX12_feed 4 = .ok (.invokestatic 97, 3) := by decide +kernel
theorem dX12_feed_7 : decode cX12_feed 7 = .ok (.ifCond .ne 8, 3) := by decide +kernel
theorem dX12_feed_10 : decode cX12_feed 10 = .ok (.aload_n 0, 1) := by decide +kernel
theorem dX12_feed_11 : decode cX12_feed 11 = .ok (.invokevirtual 101, 3) := by decide +kernel
theorem dX12_feed_14 : decode cX12_feed 14 = .ok (.ireturn, 1) := by decide +kernel
theorem dX12_feed_15 : decode cX12_feed 15 = .ok (.aload_n 0, 1) := by decide +kernel
theorem dX12_feed_16 : decode cX12_feed 16 = .ok (.invokevirtual 224, 3) := by decide +kernel
theorem dX12_feed_19 : decode cX12_feed 19 = .ok (.aload_n 0, 1) := by decide +kernel
theorem dX12_feed_20 : decode cX12_feed 20 = .ok (.aload_n 0, 1) := by decide +kernel
theorem dX12_feed_21 : decode cX12_feed 21 = .ok (.getfield 13, 3) := by decide +kernel
theorem dX12_feed_24 : decode cX12_feed 24 = .ok (.iload_n 1, 1) := by decide +kernel
theorem dX12_feed_25 : decode cX12_feed 25 = .ok (.iadd, 1) := by decide +kernel
theorem dX12_feed_26 : decode cX12_feed 26 = .ok (.invokestatic 205, 3) := by decide +kernel
theorem dX12_feed_29 : decode cX12_feed 29 = .ok (.putfield 13, 3) := by decide +kernel
theorem dX12_feed_32 : decode cX12_feed 32 = .ok (.aload_n 0, 1) := by decide +kernel
theorem dX12_feed_33 : decode cX12_feed 33 = .ok (.getfield 13, 3) := by decide +kernel
theorem dX12_feed_36 : decode cX12_feed 36 = .ok (.ireturn, 1) := by decide +kernel
theorem dX12_undo_0 : decode cX12_undo 0 = .ok (.aload_n 0, 1) := by decide +kernel
theorem dX12_undo_1 : decode cX12_undo 1 = .ok (.getfield 94, 3) := by decide +kernel
theorem dX12_undo_4 : decode cX12_undo 4 = .ok (.ifCond .ne 8, 3) := by decide +kernel
theorem dX12_undo_7 : decode cX12_undo 7 = .ok (.aload_n 0, 1) := by decide +kernel
theorem dX12_undo_8 : decode cX12_undo 8 = .ok (.invokevirtual 230, 3) := by decide +kernel
theorem dX12_undo_11 : decode cX12_undo 11 = .ok (.ireturn, 1) := by decide +kernel
theorem dX12_undo_12 : decode cX12_undo 12 = .ok (.aload_n 0, 1) := by decide +kernel
theorem dX12_undo_13 : decode cX12_undo 13 = .ok (.dup, 1) := by decide +kernel
theorem dX12_undo_14 : decode cX12_undo 14 = .ok (.getfield 94, 3) := by decide +kernel
theorem dX12_undo_17 : decode cX12_undo 17 = .ok (.iconst 1, 1) := by decide +kernel
theorem dX12_undo_18 : decode cX12_undo 18 = .ok (.isub, 1) := by decide +kernel
theorem dX12_undo_19 : decode cX12_undo 19 = .ok (.putfield 94, 3) := by decide +kernel
theorem dX12_undo_22 : decode cX12_undo 22 = .ok (.aload_n 0, 1) := by decide +kernel
theorem dX12_undo_23 : decode cX12_undo 23 = .ok (.aload_n 0, 1) := by decide +kernel
theorem dX12_undo_24 : decode cX12_undo 24 = .ok (.getfield 56, 3) := by decide +kernel
theorem dX12_undo_27 : decode cX12_undo 27 = .ok (.iconst 5, 1) := by decide +kernel
theorem dX12_undo_28 : decode cX12_undo 28 = .ok (.aload_n 0, 1) := by decide +kernel
theorem dX12_undo_29 : decode cX12_undo 29 = .ok (.getfield 94, 3) := by decide +kernel
theorem dX12_undo_32 : decode cX12_undo 32 = .ok (.imul, 1) := by decide +kernel
theorem dX12_undo_33 : decode cX12_undo 33 = .ok (.invokevirtual 218, 3) := by decide +kernel
theorem dX12_undo_36 : decode cX12_undo 36 = .ok (.aload_n 0, 1) := by decide +kernel
theorem dX12_undo_37 : decode cX12_undo 37 = .ok (.getfield 85, 3) := by decide +kernel
theorem dX12_undo_40 : decode cX12_undo 40 = .ok (.ireturn, 1) := by decide +kernel
theorem dX12_of_0 : decode cX12_of 0 = .ok (.aload_n 0, 1) := by decide +kernel
theorem dX12_of_1 : decode cX12_of 1 = .ok (.iload_n 1, 1) := by decide +kernel
theorem dX12_of_2 : decode cX12_of 2 = .ok (.invokevirtual 221, 3) := by decide +kernel
theorem dX12_of_5 : decode cX12_of 5 = .ok (.ifCond .eq 12, 3) := by decide +kernel
theorem dX12_of_8 : decode cX12_of 8 = .ok (.iload_n 2, 1) := by decide +kernel
theorem dX12_of_9 : decode cX12_of 9 = .ok (.iconst 0, 1) := by decide +kernel
theorem dX12_of_10 : decode cX12_of 10 = .ok (.iconst 4, 1) := by decide +kernel
theorem dX12_of_11 : decode cX12_of 11 = .ok (.invokestatic 97, 3) := by decide +kernel
theorem dX12_of_14 : decode cX12_of 14 = .ok (.ifCond .ne 8, 3) := by decide +kernel
theorem dX12_of_17 : decode cX12_of 17 = .ok (.aload_n 0, 1) := by decide +kernel
theorem dX12_of_18 : decode cX12_of 18 = .ok (.invokevirtual 101, 3) := by decide +kernel
theorem dX12_of_21 : decode cX12_of 21 = .ok (.ireturn, 1) := by decide +kernel
theorem dX12_of_22 : decode cX12_of 22 = .ok (.iload_n 2, 1) := by decide +kernel
theorem dX12_of_23 : decode cX12_of 23 = .ok (.tableswitch 57 0 3 #[29, 36, 43, 50], 29) := by decide +kernel
theorem dX12_of_52 : decode cX12_of 52 = .ok (.aload_n 0, 1) := by decide +kernel
theorem dX12_of_53 : decode cX12_of 53 = .ok (.getfield 23, 3) := by decide +kernel
theorem dX12_of_56 : decode cX12_of 56 = .ok (.iload_n 1, 1) := by decide +kernel
theorem dX12_of_57 : decode cX12_of 57 = .ok (.iaload, 1) := by decide +kernel
theorem dX12_of_58 : decode cX12_of 58 = .ok (.ireturn, 1) := by decide +kernel
theorem dX12_of_59 : decode cX12_of 59 = .ok (.aload_n 0, 1) := by decide +kernel
theorem dX12_of_60 : decode cX12_of 60 = .ok (.getfield 26, 3) := by decide +kernel
theorem dX12_of_63 : decode cX12_of 63 = .ok (.iload_n 1, 1) := by decide +kernel
theorem dX12_of_64 : decode cX12_of 64 = .ok (.iaload, 1) := by decide +kernel
theorem dX12_of_65 : decode cX12_of 65 = .ok (.ireturn, 1) := by decide +kernel
theorem dX12_of_66 : decode cX12_of 66 = .ok (.aload_n 0, 1) := by decide +kernel
theorem dX12_of_67 : decode cX12_of 67 = .ok (.getfield 29, 3) := by decide +kernel
theorem dX12_of_70 : decode cX12_of 70 = .ok (.iload_n 1, 1) := by decide +kernel
theorem dX12_of_71 : decode cX12_of 71 = .ok (.iaload, 1) := by decide +kernel
theorem dX12_of_72 : decode cX12_of 72 = .ok (.ireturn, 1) := by decide +kernel
theorem dX12_of_73 : decode cX12_of 73 = .ok (.aload_n 0, 1) := by decide +kernel
theorem dX12_of_74 : decode cX12_of 74 = .ok (.getfield 32, 3) := by decide +kernel
theorem dX12_of_77 : decode cX12_of 77 = .ok (.iload_n 1, 1) := by decide +kernel
theorem dX12_of_78 : decode cX12_of 78 = .ok (.iaload, 1) := by decide +kernel
theorem dX12_of_79 : decode cX12_of 79 = .ok (.ireturn, 1) := by decide +kernel
theorem dX12_of_80 : decode cX12_of 80 = .ok (.iload_n 1, 1) := by decide +kernel
theorem dX12_of_81 : decode cX12_of 81 = .ok (.aload_n 0, 1) := by decide +kernel
theorem dX12_of_82 : decode cX12_of 82 = .ok (.getfield 17, 3) := by decide +kernel
theorem dX12_of_85 : decode cX12_of 85 = .ok (.if_icmp .ne 7, 3) := by decide +kernel
theorem dX12_of_88 : decode cX12_of 88 = .ok (.iconst 1, 1) := by decide +kernel
theorem dX12_of_89 : decode cX12_of 89 = .ok (.goto 16, 3) := by decide +kernel
theorem dX12_of_92 : decode cX12_of 92 = .ok (.iload_n 1, 1) := by decide +kernel
theorem dX12_of_93 : decode cX12_of 93 = .ok (.aload_n 0, 1) := by decide +kernel
theorem dX12_of_94 : decode cX12_of 94 = .ok (.getfield 20, 3) := by decide +kernel
theorem dX12_of_97 : decode cX12_of 97 = .ok (.if_icmp .ne 7, 3) := by decide +kernel
theorem dX12_of_100 : decode cX12_of 100 = .ok (.iconst 2, 1) := by decide +kernel
theorem dX12_of_101 : decode cX12_of 101 = .ok (.goto 4, 3) := by decide +kernel
theorem dX12_of_104 : decode cX12_of 104 = .ok (.iconst 0, 1) := by decide +kernel
theorem dX12_of_105 : decode cX12_of 105 = .ok (.ireturn, 1) := by decide +kernel
theorem dX12_makes_0 : decode cX12_makes 0 = .ok (.aload_n 0, 1) := by decide +kernel
theorem dX12_makes_1 : decode cX12_makes 1 = .ok (.iload_n 1, 1) := by decide +kernel
theorem dX12_makes_2 : decode cX12_makes 2 = .ok (.invokevirtual 221, 3) := by decide +kernel
theorem dX12_makes_5 : decode cX12_makes 5 = .ok (.ifCond .ne 16, 3) := by decide +kernel
theorem dX12_makes_8 : decode cX12_makes 8 = .ok (.aload_n 0, 1) := by decide +kernel
theorem dX12_makes_9 : decode cX12_makes 9 = .ok (.getfield 1, 3) := by decide +kernel
theorem dX12_makes_12 : decode cX12_makes 12 = .ok (.iconst 0, 1) := by decide +kernel
theorem dX12_makes_13 : decode cX12_makes 13 = .ok (.dup2, 1) := by decide +kernel
theorem dX12_makes_14 : decode cX12_makes 14 = .ok (.iaload, 1) := by decide +kernel
theorem dX12_makes_15 : decode cX12_makes 15 = .ok (.iconst 1, 1) := by decide +kernel
theorem dX12_makes_16 : decode cX12_makes 16 = .ok (.iadd, 1) := by decide +kernel
theorem dX12_makes_17 : decode cX12_makes 17 = .ok (.iastore, 1) := by decide +kernel
theorem dX12_makes_18 : decode cX12_makes 18 = .ok (.bipush (-100), 2) := by decide +kernel
theorem dX12_makes_20 : decode cX12_makes 20 = .ok (.ireturn, 1) := by decide +kernel
theorem dX12_makes_21 : decode cX12_makes 21 = .ok (.aload_n 0, 1) := by decide +kernel
theorem dX12_makes_22 : decode cX12_makes 22 = .ok (.iload_n 1, 1) := by decide +kernel
theorem dX12_makes_23 : decode cX12_makes 23 = .ok (.invokevirtual 199, 3) := by decide +kernel
theorem dX12_makes_26 : decode cX12_makes 26 = .ok (.ireturn, 1) := by decide +kernel
theorem dX12_lift_0 : decode cX12_lift 0 = .ok (.iload_n 1, 1) := by decide +kernel
theorem dX12_lift_1 : decode cX12_lift 1 = .ok (.invokestatic 227, 3) := by decide +kernel
theorem dX12_lift_4 : decode cX12_lift 4 = .ok (.ifCond .ne 8, 3) := by decide +kernel
theorem dX12_lift_7 : decode cX12_lift 7 = .ok (.aload_n 0, 1) := by decide +kernel
theorem dX12_lift_8 : decode cX12_lift 8 = .ok (.invokevirtual 101, 3) := by decide +kernel
theorem dX12_lift_11 : decode cX12_lift 11 = .ok (.ireturn, 1) := by decide +kernel
theorem dX12_lift_12 : decode cX12_lift 12 = .ok (.aload_n 0, 1) := by decide +kernel
theorem dX12_lift_13 : decode cX12_lift 13 = .ok (.invokevirtual 196, 3) := by decide +kernel
theorem dX12_lift_16 : decode cX12_lift 16 = .ok (.ifCond .eq 11, 3) := by decide +kernel
theorem dX12_lift_19 : decode cX12_lift 19 = .ok (.aload_n 0, 1) := by decide +kernel
theorem dX12_lift_20 : decode cX12_lift 20 = .ok (.iload_n 1, 1) := by decide +kernel
theorem dX12_lift_21 : decode cX12_lift 21 = .ok (.invokevirtual 211, 3) := by decide +kernel
theorem dX12_lift_24 : decode cX12_lift 24 = .ok (.goto 7, 3) := by decide +kernel
theorem dX12_lift_27 : decode cX12_lift 27 = .ok (.aload_n 0, 1) := by decide +kernel
theorem dX12_lift_28 : decode cX12_lift 28 = .ok (.invokevirtual 230, 3) := by decide +kernel
theorem dX12_lift_31 : decode cX12_lift 31 = .ok (.ireturn, 1) := by decide +kernel
theorem dX12_bothSet_0 : decode cX12_bothSet 0 = .ok (.iconst 0, 1) := by decide +kernel
theorem dX12_bothSet_1 : decode cX12_bothSet 1 = .ok (.istore_n 1, 1) := by decide +kernel
theorem dX12_bothSet_2 : decode cX12_bothSet 2 = .ok (.iconst 0, 1) := by decide +kernel
theorem dX12_bothSet_3 : decode cX12_bothSet 3 = .ok (.istore_n 2, 1) := by decide +kernel
theorem dX12_bothSet_4 : decode cX12_bothSet 4 = .ok (.iload_n 2, 1) := by decide +kernel
theorem dX12_bothSet_5 : decode cX12_bothSet 5 = .ok (.bipush 8, 2) := by decide +kernel
theorem dX12_bothSet_7 : decode cX12_bothSet 7 = .ok (.if_icmp .ge 28, 3) := by decide +kernel
theorem dX12_bothSet_10 : decode cX12_bothSet 10 = .ok (.iload_n 1, 1) := by decide +kernel
theorem dX12_bothSet_11 : decode cX12_bothSet 11 = .ok (.aload_n 0, 1) := by decide +kernel
theorem dX12_bothSet_12 : decode cX12_bothSet 12 = .ok (.iload_n 2, 1) := by decide +kernel
theorem dX12_bothSet_13 : decode cX12_bothSet 13 = .ok (.invokevirtual 211, 3) := by decide +kernel
theorem dX12_bothSet_16 : decode cX12_bothSet 16 = .ok (.iconst 3, 1) := by decide +kernel
theorem dX12_bothSet_17 : decode cX12_bothSet 17 = .ok (.if_icmp .ne 9, 3) := by decide +kernel
theorem dX12_bothSet_20 : decode cX12_bothSet 20 = .ok (.iconst 1, 1) := by decide +kernel
theorem dX12_bothSet_21 : decode cX12_bothSet 21 = .ok (.iload_n 2, 1) := by decide +kernel
theorem dX12_bothSet_22 : decode cX12_bothSet 22 = .ok (.ishl, 1) := by decide +kernel
theorem dX12_bothSet_23 : decode cX12_bothSet 23 = .ok (.goto 4, 3) := by decide +kernel
theorem dX12_bothSet_26 : decode cX12_bothSet 26 = .ok (.iconst 0, 1) := by decide +kernel
theorem dX12_bothSet_27 : decode cX12_bothSet 27 = .ok (.ior, 1) := by decide +kernel
theorem dX12_bothSet_28 : decode cX12_bothSet 28 = .ok (.istore_n 1, 1) := by decide +kernel
theorem dX12_bothSet_29 : decode cX12_bothSet 29 = .ok (.iinc 2 1, 3) := by decide +kernel
theorem dX12_bothSet_32 : decode cX12_bothSet 32 = .ok (.goto (-28), 3) := by decide +kernel
theorem dX12_bothSet_35 : decode cX12_bothSet 35 = .ok (.iload_n 1, 1) := by decide +kernel
theorem dX12_bothSet_36 : decode cX12_bothSet 36 = .ok (.ireturn, 1) := by decide +kernel
theorem dX12_both_0 : decode cX12_both 0 = .ok (.iload_n 1, 1) := by decide +kernel
theorem dX12_both_1 : decode cX12_both 1 = .ok (.iconst 0, 1) := by decide +kernel
theorem dX12_both_2 : decode cX12_both 2 = .ok (.bipush 60, 2) := by decide +kernel
theorem dX12_both_4 : decode cX12_both 4 = .ok (.invokestatic 97, 3) := by decide +kernel
theorem dX12_both_7 : decode cX12_both 7 = .ok (.ifCond .ne 8, 3) := by decide +kernel
theorem dX12_both_10 : decode cX12_both 10 = .ok (.aload_n 0, 1) := by decide +kernel
theorem dX12_both_11 : decode cX12_both 11 = .ok (.invokevirtual 101, 3) := by decide +kernel
theorem dX12_both_14 : decode cX12_both 14 = .ok (.ireturn, 1) := by decide +kernel
theorem dX12_both_15 : decode cX12_both 15 = .ok (.aload_n 0, 1) := by decide +kernel
theorem dX12_both_16 : decode cX12_both 16 = .ok (.invokevirtual 196, 3) := by decide +kernel
theorem dX12_both_19 : decode cX12_both 19 = .ok (.ifCond .ne 8, 3) := by decide +kernel
theorem dX12_both_22 : decode cX12_both 22 = .ok (.aload_n 0, 1) := by decide +kernel
theorem dX12_both_23 : decode cX12_both 23 = .ok (.invokevirtual 230, 3) := by decide +kernel
theorem dX12_both_26 : decode cX12_both 26 = .ok (.ireturn, 1) := by decide +kernel
theorem dX12_both_27 : decode cX12_both 27 = .ok (.aload_n 0, 1) := by decide +kernel
theorem dX12_both_28 : decode cX12_both 28 = .ok (.invokevirtual 239, 3) := by decide +kernel
theorem dX12_both_31 : decode cX12_both 31 = .ok (.iconst 0, 1) := by decide +kernel
theorem dX12_both_32 : decode cX12_both 32 = .ok (.istore_n 2, 1) := by decide +kernel
theorem dX12_both_33 : decode cX12_both 33 = .ok (.iload_n 2, 1) := by decide +kernel
theorem dX12_both_34 : decode cX12_both 34 = .ok (.iload_n 1, 1) := by decide +kernel
theorem dX12_both_35 : decode cX12_both 35 = .ok (.if_icmp .ge 13, 3) := by decide +kernel
theorem dX12_both_38 : decode cX12_both 38 = .ok (.aload_n 0, 1) := by decide +kernel
theorem dX12_both_39 : decode cX12_both 39 = .ok (.invokevirtual 236, 3) := by decide +kernel
theorem dX12_both_42 : decode cX12_both 42 = .ok (.iinc 2 1, 3) := by decide +kernel
theorem dX12_both_45 : decode cX12_both 45 = .ok (.goto (-12), 3) := by decide +kernel
theorem dX12_both_48 : decode cX12_both 48 = .ok (.aload_n 0, 1) := by decide +kernel
theorem dX12_both_49 : decode cX12_both 49 = .ok (.invokevirtual 242, 3) := by decide +kernel
theorem dX12_both_52 : decode cX12_both 52 = .ok (.istore_n 2, 1) := by decide +kernel
theorem dX12_both_53 : decode cX12_both 53 = .ok (.aload_n 0, 1) := by decide +kernel
theorem dX12_both_54 : decode cX12_both 54 = .ok (.invokevirtual 245, 3) := by decide +kernel
theorem dX12_both_57 : decode cX12_both 57 = .ok (.iload_n 2, 1) := by decide +kernel
theorem dX12_both_58 : decode cX12_both 58 = .ok (.ireturn, 1) := by decide +kernel
theorem dX12_daysTill_0 : decode cX12_daysTill 0 = .ok (.aload_n 0, 1) := by decide +kernel
theorem dX12_daysTill_1 : decode cX12_daysTill 1 = .ok (.invokevirtual 239, 3) := by decide +kernel
theorem dX12_daysTill_4 : decode cX12_daysTill 4 = .ok (.iconst 0, 1) := by decide +kernel
theorem dX12_daysTill_5 : decode cX12_daysTill 5 = .ok (.istore_n 1, 1) := by decide +kernel
theorem dX12_daysTill_6 : decode cX12_daysTill 6 = .ok (.iload_n 1, 1) := by decide +kernel
theorem dX12_daysTill_7 : decode cX12_daysTill 7 = .ok (.bipush 90, 2) := by decide +kernel
theorem dX12_daysTill_9 : decode cX12_daysTill 9 = .ok (.if_icmp .gt 22, 3) := by decide +kernel
theorem dX12_daysTill_12 : decode cX12_daysTill 12 = .ok (.aload_n 0, 1) := by decide +kernel
theorem dX12_daysTill_13 : decode cX12_daysTill 13 = .ok (.getfield 13, 3) := by decide +kernel
theorem dX12_daysTill_16 : decode cX12_daysTill 16 = .ok (.bipush 10, 2) := by decide +kernel
theorem dX12_daysTill_18 : decode cX12_daysTill 18 = .ok (.if_icmp .lt 13, 3) := by decide +kernel
theorem dX12_daysTill_21 : decode cX12_daysTill 21 = .ok (.aload_n 0, 1) := by decide +kernel
theorem dX12_daysTill_22 : decode cX12_daysTill 22 = .ok (.invokevirtual 236, 3) := by decide +kernel
theorem dX12_daysTill_25 : decode cX12_daysTill 25 = .ok (.iinc 1 1, 3) := by decide +kernel
theorem dX12_daysTill_28 : decode cX12_daysTill 28 = .ok (.goto (-22), 3) := by decide +kernel
theorem dX12_daysTill_31 : decode cX12_daysTill 31 = .ok (.aload_n 0, 1) := by decide +kernel
theorem dX12_daysTill_32 : decode cX12_daysTill 32 = .ok (.invokevirtual 245, 3) := by decide +kernel
theorem dX12_daysTill_35 : decode cX12_daysTill 35 = .ok (.iload_n 1, 1) := by decide +kernel
theorem dX12_daysTill_36 : decode cX12_daysTill 36 = .ok (.ireturn, 1) := by decide +kernel
theorem dX12_friends_0 : decode cX12_friends 0 = .ok (.aload_n 0, 1) := by decide +kernel
theorem dX12_friends_1 : decode cX12_friends 1 = .ok (.invokevirtual 248, 3) := by decide +kernel
theorem dX12_friends_4 : decode cX12_friends 4 = .ok (.istore_n 1, 1) := by decide +kernel
theorem dX12_friends_5 : decode cX12_friends 5 = .ok (.iload_n 1, 1) := by decide +kernel
theorem dX12_friends_6 : decode cX12_friends 6 = .ok (.bipush 90, 2) := by decide +kernel
theorem dX12_friends_8 : decode cX12_friends 8 = .ok (.if_icmp .le 7, 3) := by decide +kernel
theorem dX12_friends_11 : decode cX12_friends 11 = .ok (.iconst (-1), 1) := by decide +kernel
theorem dX12_friends_12 : decode cX12_friends 12 = .ok (.goto 4, 3) := by decide +kernel
theorem dX12_friends_15 : decode cX12_friends 15 = .ok (.iload_n 1, 1) := by decide +kernel
theorem dX12_friends_16 : decode cX12_friends 16 = .ok (.ireturn, 1) := by decide +kernel
theorem dX12_then_0 : decode cX12_then 0 = .ok (.iload_n 1, 1) := by decide +kernel
theorem dX12_then_1 : decode cX12_then 1 = .ok (.iconst 0, 1) := by decide +kernel
theorem dX12_then_2 : decode cX12_then 2 = .ok (.bipush 90, 2) := by decide +kernel
theorem dX12_then_4 : decode cX12_then 4 = .ok (.invokestatic 97, 3) := by decide +kernel
theorem dX12_then_7 : decode cX12_then 7 = .ok (.ifCond .ne 8, 3) := by decide +kernel
theorem dX12_then_10 : decode cX12_then 10 = .ok (.aload_n 0, 1) := by decide +kernel
theorem dX12_then_11 : decode cX12_then 11 = .ok (.invokevirtual 101, 3) := by decide +kernel
theorem dX12_then_14 : decode cX12_then 14 = .ok (.ireturn, 1) := by decide +kernel
theorem dX12_then_15 : decode cX12_then 15 = .ok (.aload_n 0, 1) := by decide +kernel
theorem dX12_then_16 : decode cX12_then 16 = .ok (.invokevirtual 239, 3) := by decide +kernel
theorem dX12_then_19 : decode cX12_then 19 = .ok (.iconst 0, 1) := by decide +kernel
theorem dX12_then_20 : decode cX12_then 20 = .ok (.istore_n 2, 1) := by decide +kernel
theorem dX12_then_21 : decode cX12_then 21 = .ok (.iload_n 2, 1) := by decide +kernel
theorem dX12_then_22 : decode cX12_then 22 = .ok (.iload_n 1, 1) := by decide +kernel
theorem dX12_then_23 : decode cX12_then 23 = .ok (.if_icmp .ge 13, 3) := by decide +kernel
theorem dX12_then_26 : decode cX12_then 26 = .ok (.aload_n 0, 1) := by decide +kernel
theorem dX12_then_27 : decode cX12_then 27 = .ok (.invokevirtual 236, 3) := by decide +kernel
theorem dX12_then_30 : decode cX12_then 30 = .ok (.iinc 2 1, 3) := by decide +kernel
theorem dX12_then_33 : decode cX12_then 33 = .ok (.goto (-12), 3) := by decide +kernel
theorem dX12_then_36 : decode cX12_then 36 = .ok (.aload_n 0, 1) := by decide +kernel
theorem dX12_then_37 : decode cX12_then 37 = .ok (.getfield 13, 3) := by decide +kernel
theorem dX12_then_40 : decode cX12_then 40 = .ok (.istore_n 2, 1) := by decide +kernel
theorem dX12_then_41 : decode cX12_then 41 = .ok (.aload_n 0, 1) := by decide +kernel
theorem dX12_then_42 : decode cX12_then 42 = .ok (.invokevirtual 245, 3) := by decide +kernel
theorem dX12_then_45 : decode cX12_then 45 = .ok (.iload_n 2, 1) := by decide +kernel
theorem dX12_then_46 : decode cX12_then 46 = .ok (.ireturn, 1) := by decide +kernel
theorem dX12_doneBy_0 : decode cX12_doneBy 0 = .ok (.iload_n 1, 1) := by decide +kernel
theorem dX12_doneBy_1 : decode cX12_doneBy 1 = .ok (.istore_n 3, 1) := by decide +kernel
theorem dX12_doneBy_2 : decode cX12_doneBy 2 = .ok (.iload_n 2, 1) := by decide +kernel
theorem dX12_doneBy_3 : decode cX12_doneBy 3 = .ok (.iconst 1, 1) := by decide +kernel
theorem dX12_doneBy_4 : decode cX12_doneBy 4 = .ok (.isub, 1) := by decide +kernel
theorem dX12_doneBy_5 : decode cX12_doneBy 5 = .ok (.istore 4, 2) := by decide +kernel
theorem dX12_doneBy_7 : decode cX12_doneBy 7 = .ok (.iload 4, 2) := by decide +kernel
theorem dX12_doneBy_9 : decode cX12_doneBy 9 = .ok (.ifCond .lt 25, 3) := by decide +kernel
theorem dX12_doneBy_12 : decode cX12_doneBy 12 = .ok (.aload_n 0, 1) := by decide +kernel
theorem dX12_doneBy_13 : decode cX12_doneBy 13 = .ok (.getfield 62, 3) := by decide +kernel
theorem dX12_doneBy_16 : decode cX12_doneBy 16 = .ok (.iload 4, 2) := by decide +kernel
theorem dX12_doneBy_18 : decode cX12_doneBy 18 = .ok (.iload_n 3, 1) := by decide +kernel
theorem dX12_doneBy_19 : decode cX12_doneBy 19 = .ok (.bipush 9, 2) := by decide +kernel
theorem dX12_doneBy_21 : decode cX12_doneBy 21 = .ok (.irem, 1) := by decide +kernel
theorem dX12_doneBy_22 : decode cX12_doneBy 22 = .ok (.iastore, 1) := by decide +kernel
theorem dX12_doneBy_23 : decode cX12_doneBy 23 = .ok (.iload_n 3, 1) := by decide +kernel
theorem dX12_doneBy_24 : decode cX12_doneBy 24 = .ok (.bipush 9, 2) := by decide +kernel
theorem dX12_doneBy_26 : decode cX12_doneBy 26 = .ok (.idiv, 1) := by decide +kernel
theorem dX12_doneBy_27 : decode cX12_doneBy 27 = .ok (.istore_n 3, 1) := by decide +kernel
theorem dX12_doneBy_28 : decode cX12_doneBy 28 = .ok (.iinc 4 (-1), 3) := by decide +kernel
theorem dX12_doneBy_31 : decode cX12_doneBy 31 = .ok (.goto (-24), 3) := by decide +kernel
theorem dX12_doneBy_34 : decode cX12_doneBy 34 = .ok (.aload_n 0, 1) := by decide +kernel
theorem dX12_doneBy_35 : decode cX12_doneBy 35 = .ok (.invokevirtual 239, 3) := by decide +kernel
theorem dX12_doneBy_38 : decode cX12_doneBy 38 = .ok (.aload_n 0, 1) := by decide +kernel
theorem dX12_doneBy_39 : decode cX12_doneBy 39 = .ok (.getfield 88, 3) := by decide +kernel
theorem dX12_doneBy_42 : decode cX12_doneBy 42 = .ok (.invokestatic 251, 3) := by decide +kernel
theorem dX12_doneBy_45 : decode cX12_doneBy 45 = .ok (.istore 4, 2) := by decide +kernel
theorem dX12_doneBy_47 : decode cX12_doneBy 47 = .ok (.iconst 1, 1) := by decide +kernel
theorem dX12_doneBy_48 : decode cX12_doneBy 48 = .ok (.istore 5, 2) := by decide +kernel
theorem dX12_doneBy_50 : decode cX12_doneBy 50 = .ok (.iconst 0, 1) := by decide +kernel
theorem dX12_doneBy_51 : decode cX12_doneBy 51 = .ok (.istore 6, 2) := by decide +kernel
theorem dX12_doneBy_53 : decode cX12_doneBy 53 = .ok (.iload 6, 2) := by decide +kernel
theorem dX12_doneBy_55 : decode cX12_doneBy 55 = .ok (.iload_n 2, 1) := by decide +kernel
theorem dX12_doneBy_56 : decode cX12_doneBy 56 = .ok (.if_icmp .ge 66, 3) := by decide +kernel
theorem dX12_doneBy_59 : decode cX12_doneBy 59 = .ok (.iload 5, 2) := by decide +kernel
theorem dX12_doneBy_61 : decode cX12_doneBy 61 = .ok (.ifCond .eq 61, 3) := by decide +kernel
theorem dX12_doneBy_64 : decode cX12_doneBy 64 = .ok (.aload_n 0, 1) := by decide +kernel
theorem dX12_doneBy_65 : decode cX12_doneBy 65 = .ok (.getfield 62, 3) := by decide +kernel
theorem dX12_doneBy_68 : decode cX12_doneBy 68 = .ok (.iload 6, 2) := by decide +kernel
theorem dX12_doneBy_70 : decode cX12_doneBy 70 = .ok (.iaload, 1) := by decide +kernel
theorem dX12_doneBy_71 : decode cX12_doneBy 71 = .ok (.bipush 8, 2) := by decide +kernel
theorem dX12_doneBy_73 : decode cX12_doneBy 73 = .ok (.if_icmp .ge 39, 3) := by decide +kernel
theorem dX12_doneBy_76 : decode cX12_doneBy 76 = .ok (.aload_n 0, 1) := by decide +kernel
theorem dX12_doneBy_77 : decode cX12_doneBy 77 = .ok (.getfield 88, 3) := by decide +kernel
theorem dX12_doneBy_80 : decode cX12_doneBy 80 = .ok (.aload_n 0, 1) := by decide +kernel
theorem dX12_doneBy_81 : decode cX12_doneBy 81 = .ok (.getfield 62, 3) := by decide +kernel
theorem dX12_doneBy_84 : decode cX12_doneBy 84 = .ok (.iload 6, 2) := by decide +kernel
theorem dX12_doneBy_86 : decode cX12_doneBy 86 = .ok (.iaload, 1) := by decide +kernel
theorem dX12_doneBy_87 : decode cX12_doneBy 87 = .ok (.invokestatic 186, 3) := by decide +kernel
theorem dX12_doneBy_90 : decode cX12_doneBy 90 = .ok (.ifCond .ne 7, 3) := by decide +kernel
theorem dX12_doneBy_93 : decode cX12_doneBy 93 = .ok (.iconst 1, 1) := by decide +kernel
theorem dX12_doneBy_94 : decode cX12_doneBy 94 = .ok (.goto 4, 3) := by decide +kernel
theorem dX12_doneBy_97 : decode cX12_doneBy 97 = .ok (.iconst 0, 1) := by decide +kernel
theorem dX12_doneBy_98 : decode cX12_doneBy 98 = .ok (.istore 5, 2) := by decide +kernel
theorem dX12_doneBy_100 : decode cX12_doneBy 100 = .ok (.aload_n 0, 1) := by decide +kernel
theorem dX12_doneBy_101 : decode cX12_doneBy 101 = .ok (.aload_n 0, 1) := by decide +kernel
theorem dX12_doneBy_102 : decode cX12_doneBy 102 = .ok (.getfield 62, 3) := by decide +kernel
theorem dX12_doneBy_105 : decode cX12_doneBy 105 = .ok (.iload 6, 2) := by decide +kernel
theorem dX12_doneBy_107 : decode cX12_doneBy 107 = .ok (.iaload, 1) := by decide +kernel
theorem dX12_doneBy_108 : decode cX12_doneBy 108 = .ok (.invokevirtual 233, 3) := by decide +kernel
theorem dX12_doneBy_111 : decode cX12_doneBy 111 = .ok (.pop, 1) := by decide +kernel
theorem dX12_doneBy_112 : decode cX12_doneBy 112 = .ok (.aload_n 0, 1) := by decide +kernel
theorem dX12_doneBy_113 : decode cX12_doneBy 113 = .ok (.invokevirtual 236, 3) := by decide +kernel
theorem dX12_doneBy_116 : decode cX12_doneBy 116 = .ok (.iinc 6 1, 3) := by decide +kernel
theorem dX12_doneBy_119 : decode cX12_doneBy 119 = .ok (.goto (-66), 3) := by decide +kernel
theorem dX12_doneBy_122 : decode cX12_doneBy 122 = .ok (.aload_n 0, 1) := by decide +kernel
theorem dX12_doneBy_123 : decode cX12_doneBy 123 = .ok (.getfield 88, 3) := by decide +kernel
theorem dX12_doneBy_126 : decode cX12_doneBy 126 = .ok (.invokestatic 251, 3) := by decide +kernel
theorem dX12_doneBy_129 : decode cX12_doneBy 129 = .ok (.iload 4, 2) := by decide +kernel
theorem dX12_doneBy_131 : decode cX12_doneBy 131 = .ok (.isub, 1) := by decide +kernel
theorem dX12_doneBy_132 : decode cX12_doneBy 132 = .ok (.istore 6, 2) := by decide +kernel
theorem dX12_doneBy_134 : decode cX12_doneBy 134 = .ok (.aload_n 0, 1) := by decide +kernel
theorem dX12_doneBy_135 : decode cX12_doneBy 135 = .ok (.invokevirtual 245, 3) := by decide +kernel
theorem dX12_doneBy_138 : decode cX12_doneBy 138 = .ok (.iload 5, 2) := by decide +kernel
theorem dX12_doneBy_140 : decode cX12_doneBy 140 = .ok (.ifCond .eq 8, 3) := by decide +kernel
theorem dX12_doneBy_143 : decode cX12_doneBy 143 = .ok (.iload 6, 2) := by decide +kernel
theorem dX12_doneBy_145 : decode cX12_doneBy 145 = .ok (.goto 4, 3) := by decide +kernel
theorem dX12_doneBy_148 : decode cX12_doneBy 148 = .ok (.iconst (-1), 1) := by decide +kernel
theorem dX12_doneBy_149 : decode cX12_doneBy 149 = .ok (.ireturn, 1) := by decide +kernel
theorem dX12_most_0 : decode cX12_most 0 = .ok (.iload_n 1, 1) := by decide +kernel
theorem dX12_most_1 : decode cX12_most 1 = .ok (.iconst 1, 1) := by decide +kernel
theorem dX12_most_2 : decode cX12_most 2 = .ok (.iconst 4, 1) := by decide +kernel
theorem dX12_most_3 : decode cX12_most 3 = .ok (.invokestatic 97, 3) := by decide +kernel
theorem dX12_most_6 : decode cX12_most 6 = .ok (.ifCond .eq 8, 3) := by decide +kernel
theorem dX12_most_9 : decode cX12_most 9 = .ok (.iload_n 2, 1) := by decide +kernel
theorem dX12_most_10 : decode cX12_most 10 = .ok (.iconst (-1), 1) := by decide +kernel
theorem dX12_most_11 : decode cX12_most 11 = .ok (.if_icmp .ge 8, 3) := by decide +kernel
theorem dX12_most_14 : decode cX12_most 14 = .ok (.aload_n 0, 1) := by decide +kernel
theorem dX12_most_15 : decode cX12_most 15 = .ok (.invokevirtual 254, 3) := by decide +kernel
theorem dX12_most_18 : decode cX12_most 18 = .ok (.ireturn, 1) := by decide +kernel
theorem dX12_most_19 : decode cX12_most 19 = .ok (.aload_n 0, 1) := by decide +kernel
theorem dX12_most_20 : decode cX12_most 20 = .ok (.invokevirtual 196, 3) := by decide +kernel
theorem dX12_most_23 : decode cX12_most 23 = .ok (.ifCond .ne 8, 3) := by decide +kernel
theorem dX12_most_26 : decode cX12_most 26 = .ok (.aload_n 0, 1) := by decide +kernel
theorem dX12_most_27 : decode cX12_most 27 = .ok (.invokevirtual 230, 3) := by decide +kernel
theorem dX12_most_30 : decode cX12_most 30 = .ok (.ireturn, 1) := by decide +kernel
theorem dX12_most_31 : decode cX12_most 31 = .ok (.iload_n 2, 1) := by decide +kernel
theorem dX12_most_32 : decode cX12_most 32 = .ok (.iload_n 1, 1) := by decide +kernel
theorem dX12_most_33 : decode cX12_most 33 = .ok (.if_icmp .lt 6, 3) := by decide +kernel
theorem dX12_most_36 : decode cX12_most 36 = .ok (.bipush (-5), 2) := by decide +kernel
theorem dX12_most_38 : decode cX12_most 38 = .ok (.ireturn, 1) := by decide +kernel
theorem dX12_most_39 : decode cX12_most 39 = .ok (.iconst 1, 1) := by decide +kernel
theorem dX12_most_40 : decode cX12_most 40 = .ok (.istore_n 3, 1) := by decide +kernel
theorem dX12_most_41 : decode cX12_most 41 = .ok (.iconst 0, 1) := by decide +kernel
theorem dX12_most_42 : decode cX12_most 42 = .ok (.istore 4, 2) := by decide +kernel
theorem dX12_most_44 : decode cX12_most 44 = .ok (.iload 4, 2) := by decide +kernel
theorem dX12_most_46 : decode cX12_most 46 = .ok (.iload_n 1, 1) := by decide +kernel
theorem dX12_most_47 : decode cX12_most 47 = .ok (.if_icmp .ge 14, 3) := by decide +kernel
theorem dX12_most_50 : decode cX12_most 50 = .ok (.iload_n 3, 1) := by decide +kernel
theorem dX12_most_51 : decode cX12_most 51 = .ok (.bipush 9, 2) := by decide +kernel
theorem dX12_most_53 : decode cX12_most 53 = .ok (.imul, 1) := by decide +kernel
theorem dX12_most_54 : decode cX12_most 54 = .ok (.istore_n 3, 1) := by decide +kernel
theorem dX12_most_55 : decode cX12_most 55 = .ok (.iinc 4 1, 3) := by decide +kernel
theorem dX12_most_58 : decode cX12_most 58 = .ok (.goto (-14), 3) := by decide +kernel
theorem dX12_most_61 : decode cX12_most 61 = .ok (.iconst (-1), 1) := by decide +kernel
theorem dX12_most_62 : decode cX12_most 62 = .ok (.istore 4, 2) := by decide +kernel
theorem dX12_most_64 : decode cX12_most 64 = .ok (.iconst 0, 1) := by decide +kernel
theorem dX12_most_65 : decode cX12_most 65 = .ok (.istore 5, 2) := by decide +kernel
theorem dX12_most_67 : decode cX12_most 67 = .ok (.iload 5, 2) := by decide +kernel
theorem dX12_most_69 : decode cX12_most 69 = .ok (.iload_n 3, 1) := by decide +kernel
theorem dX12_most_70 : decode cX12_most 70 = .ok (.if_icmp .ge 70, 3) := by decide +kernel
theorem dX12_most_73 : decode cX12_most 73 = .ok (.aload_n 0, 1) := by decide +kernel
theorem dX12_most_74 : decode cX12_most 74 = .ok (.iload 5, 2) := by decide +kernel
theorem dX12_most_76 : decode cX12_most 76 = .ok (.iload_n 1, 1) := by decide +kernel
theorem dX12_most_77 : decode cX12_most 77 = .ok (.invokevirtual 257, 3) := by decide +kernel
theorem dX12_most_80 : decode cX12_most 80 = .ok (.istore 6, 2) := by decide +kernel
theorem dX12_most_82 : decode cX12_most 82 = .ok (.iconst 0, 1) := by decide +kernel
theorem dX12_most_83 : decode cX12_most 83 = .ok (.istore 7, 2) := by decide +kernel
theorem dX12_most_85 : decode cX12_most 85 = .ok (.iload 7, 2) := by decide +kernel
theorem dX12_most_87 : decode cX12_most 87 = .ok (.iload_n 1, 1) := by decide +kernel
theorem dX12_most_88 : decode cX12_most 88 = .ok (.if_icmp .ge 30, 3) := by decide +kernel
theorem dX12_most_91 : decode cX12_most 91 = .ok (.iload 6, 2) := by decide +kernel
theorem dX12_most_93 : decode cX12_most 93 = .ok (.iload 4, 2) := by decide +kernel
theorem dX12_most_95 : decode cX12_most 95 = .ok (.if_icmp .le 23, 3) := by decide +kernel
theorem dX12_most_98 : decode cX12_most 98 = .ok (.aload_n 0, 1) := by decide +kernel
theorem dX12_most_99 : decode cX12_most 99 = .ok (.getfield 65, 3) := by decide +kernel
theorem dX12_most_102 : decode cX12_most 102 = .ok (.iload 7, 2) := by decide +kernel
theorem dX12_most_104 : decode cX12_most 104 = .ok (.aload_n 0, 1) := by decide +kernel
theorem dX12_most_105 : decode cX12_most 105 = .ok (.getfield 62, 3) := by decide +kernel
theorem dX12_most_108 : decode cX12_most 108 = .ok (.iload 7, 2) := by decide +kernel
theorem dX12_most_110 : decode cX12_most 110 = .ok (.iaload, 1) := by decide +kernel
theorem dX12_most_111 : decode cX12_most 111 = .ok (.iastore, 1) := by decide +kernel
theorem dX12_most_112 : decode cX12_most 112 = .ok (.iinc 7 1, 3) := by decide +kernel
theorem dX12_most_115 : decode cX12_most 115 = .ok (.goto (-30), 3) := by decide +kernel
theorem dX12_most_118 : decode cX12_most 118 = .ok (.iload 6, 2) := by decide +kernel
theorem dX12_most_120 : decode cX12_most 120 = .ok (.iload 4, 2) := by decide +kernel
theorem dX12_most_122 : decode cX12_most 122 = .ok (.if_icmp .le 8, 3) := by decide +kernel
theorem dX12_most_125 : decode cX12_most 125 = .ok (.iload 6, 2) := by decide +kernel
theorem dX12_most_127 : decode cX12_most 127 = .ok (.goto 5, 3) := by decide +kernel
theorem dX12_most_130 : decode cX12_most 130 = .ok (.iload 4, 2) := by decide +kernel
theorem dX12_most_132 : decode cX12_most 132 = .ok (.istore 4, 2) := by decide +kernel
theorem dX12_most_134 : decode cX12_most 134 = .ok (.iinc 5 1, 3) := by decide +kernel
theorem dX12_most_137 : decode cX12_most 137 = .ok (.goto (-70), 3) := by decide +kernel
theorem dX12_most_140 : decode cX12_most 140 = .ok (.iload_n 2, 1) := by decide +kernel
theorem dX12_most_141 : decode cX12_most 141 = .ok (.iconst (-1), 1) := by decide +kernel
theorem dX12_most_142 : decode cX12_most 142 = .ok (.if_icmp .ne 8, 3) := by decide +kernel
theorem dX12_most_145 : decode cX12_most 145 = .ok (.iload 4, 2) := by decide +kernel
theorem dX12_most_147 : decode cX12_most 147 = .ok (.goto 9, 3) := by decide +kernel
theorem dX12_most_150 : decode cX12_most 150 = .ok (.aload_n 0, 1) := by decide +kernel
theorem dX12_most_151 : decode cX12_most 151 = .ok (.getfield 65, 3) := by decide +kernel
theorem dX12_most_154 : decode cX12_most 154 = .ok (.iload_n 2, 1) := by decide +kernel
theorem dX12_most_155 : decode cX12_most 155 = .ok (.iaload, 1) := by decide +kernel
theorem dX12_most_156 : decode cX12_most 156 = .ok (.ireturn, 1) := by decide +kernel
theorem dX12_keep_0 : decode cX12_keep 0 = .ok (.iload_n 1, 1) := by decide +kernel
theorem dX12_keep_1 : decode cX12_keep 1 = .ok (.iconst 1, 1) := by decide +kernel
theorem dX12_keep_2 : decode cX12_keep 2 = .ok (.bipush 60, 2) := by decide +kernel
theorem dX12_keep_4 : decode cX12_keep 4 = .ok (.invokestatic 97, 3) := by decide +kernel
theorem dX12_keep_7 : decode cX12_keep 7 = .ok (.ifCond .ne 8, 3) := by decide +kernel
theorem dX12_keep_10 : decode cX12_keep 10 = .ok (.aload_n 0, 1) := by decide +kernel
theorem dX12_keep_11 : decode cX12_keep 11 = .ok (.invokevirtual 101, 3) := by decide +kernel
theorem dX12_keep_14 : decode cX12_keep 14 = .ok (.ireturn, 1) := by decide +kernel
theorem dX12_keep_15 : decode cX12_keep 15 = .ok (.aload_n 0, 1) := by decide +kernel
theorem dX12_keep_16 : decode cX12_keep 16 = .ok (.getfield 13, 3) := by decide +kernel
theorem dX12_keep_19 : decode cX12_keep 19 = .ok (.istore_n 2, 1) := by decide +kernel
theorem dX12_keep_20 : decode cX12_keep 20 = .ok (.iconst (-1), 1) := by decide +kernel
theorem dX12_keep_21 : decode cX12_keep 21 = .ok (.istore_n 3, 1) := by decide +kernel
theorem dX12_keep_22 : decode cX12_keep 22 = .ok (.iconst 0, 1) := by decide +kernel
theorem dX12_keep_23 : decode cX12_keep 23 = .ok (.istore 4, 2) := by decide +kernel
theorem dX12_keep_25 : decode cX12_keep 25 = .ok (.iload 4, 2) := by decide +kernel
theorem dX12_keep_27 : decode cX12_keep 27 = .ok (.bipush 99, 2) := by decide +kernel
theorem dX12_keep_29 : decode cX12_keep 29 = .ok (.if_icmp .gt 45, 3) := by decide +kernel
theorem dX12_keep_32 : decode cX12_keep 32 = .ok (.iload_n 3, 1) := by decide +kernel
theorem dX12_keep_33 : decode cX12_keep 33 = .ok (.iconst (-1), 1) := by decide +kernel
theorem dX12_keep_34 : decode cX12_keep 34 = .ok (.if_icmp .ne 40, 3) := by decide +kernel
theorem dX12_keep_37 : decode cX12_keep 37 = .ok (.aload_n 0, 1) := by decide +kernel
theorem dX12_keep_38 : decode cX12_keep 38 = .ok (.iload_n 2, 1) := by decide +kernel
theorem dX12_keep_39 : decode cX12_keep 39 = .ok (.iload 4, 2) := by decide +kernel
theorem dX12_keep_41 : decode cX12_keep 41 = .ok (.iadd, 1) := by decide +kernel
theorem dX12_keep_42 : decode cX12_keep 42 = .ok (.invokestatic 205, 3) := by decide +kernel
theorem dX12_keep_45 : decode cX12_keep 45 = .ok (.putfield 13, 3) := by decide +kernel
theorem dX12_keep_48 : decode cX12_keep 48 = .ok (.aload_n 0, 1) := by decide +kernel
theorem dX12_keep_49 : decode cX12_keep 49 = .ok (.invokevirtual 248, 3) := by decide +kernel
theorem dX12_keep_52 : decode cX12_keep 52 = .ok (.iload_n 1, 1) := by decide +kernel
theorem dX12_keep_53 : decode cX12_keep 53 = .ok (.if_icmp .le 8, 3) := by decide +kernel
theorem dX12_keep_56 : decode cX12_keep 56 = .ok (.iload 4, 2) := by decide +kernel
theorem dX12_keep_58 : decode cX12_keep 58 = .ok (.goto 4, 3) := by decide +kernel
theorem dX12_keep_61 : decode cX12_keep 61 = .ok (.iload_n 3, 1) := by decide +kernel
theorem dX12_keep_62 : decode cX12_keep 62 = .ok (.istore_n 3, 1) := by decide +kernel
theorem dX12_keep_63 : decode cX12_keep 63 = .ok (.aload_n 0, 1) := by decide +kernel
theorem dX12_keep_64 : decode cX12_keep 64 = .ok (.iload_n 2, 1) := by decide +kernel
theorem dX12_keep_65 : decode cX12_keep 65 = .ok (.putfield 13, 3) := by decide +kernel
theorem dX12_keep_68 : decode cX12_keep 68 = .ok (.iinc 4 1, 3) := by decide +kernel
theorem dX12_keep_71 : decode cX12_keep 71 = .ok (.goto (-46), 3) := by decide +kernel
theorem dX12_keep_74 : decode cX12_keep 74 = .ok (.iload_n 3, 1) := by decide +kernel
theorem dX12_keep_75 : decode cX12_keep 75 = .ok (.ireturn, 1) := by decide +kernel
theorem dX12_lastsOf_0 : decode cX12_lastsOf 0 = .ok (.aload_n 0, 1) := by decide +kernel
theorem dX12_lastsOf_1 : decode cX12_lastsOf 1 = .ok (.getfield 17, 3) := by decide +kernel
theorem dX12_lastsOf_4 : decode cX12_lastsOf 4 = .ok (.istore_n 3, 1) := by decide +kernel
theorem dX12_lastsOf_5 : decode cX12_lastsOf 5 = .ok (.aload_n 0, 1) := by decide +kernel
theorem dX12_lastsOf_6 : decode cX12_lastsOf 6 = .ok (.getfield 20, 3) := by decide +kernel
theorem dX12_lastsOf_9 : decode cX12_lastsOf 9 = .ok (.istore 4, 2) := by decide +kernel
theorem dX12_lastsOf_11 : decode cX12_lastsOf 11 = .ok (.aload_n 0, 1) := by decide +kernel
theorem dX12_lastsOf_12 : decode cX12_lastsOf 12 = .ok (.iload_n 1, 1) := by decide +kernel
theorem dX12_lastsOf_13 : decode cX12_lastsOf 13 = .ok (.putfield 17, 3) := by decide +kernel
theorem dX12_lastsOf_16 : decode cX12_lastsOf 16 = .ok (.aload_n 0, 1) := by decide +kernel
theorem dX12_lastsOf_17 : decode cX12_lastsOf 17 = .ok (.iload_n 2, 1) := by decide +kernel
theorem dX12_lastsOf_18 : decode cX12_lastsOf 18 = .ok (.putfield 20, 3) := by decide +kernel
theorem dX12_lastsOf_21 : decode cX12_lastsOf 21 = .ok (.aload_n 0, 1) := by decide +kernel
theorem dX12_lastsOf_22 : decode cX12_lastsOf 22 = .ok (.invokevirtual 248, 3) := by decide +kernel
theorem dX12_lastsOf_25 : decode cX12_lastsOf 25 = .ok (.istore 5, 2) := by decide +kernel
theorem dX12_lastsOf_27 : decode cX12_lastsOf 27 = .ok (.aload_n 0, 1) := by decide +kernel
theorem dX12_lastsOf_28 : decode cX12_lastsOf 28 = .ok (.iload_n 3, 1) := by decide +kernel
theorem dX12_lastsOf_29 : decode cX12_lastsOf 29 = .ok (.putfield 17, 3) := by decide +kernel
theorem dX12_lastsOf_32 : decode cX12_lastsOf 32 = .ok (.aload_n 0, 1) := by decide +kernel
theorem dX12_lastsOf_33 : decode cX12_lastsOf 33 = .ok (.iload 4, 2) := by decide +kernel
theorem dX12_lastsOf_35 : decode cX12_lastsOf 35 = .ok (.putfield 20, 3) := by decide +kernel
theorem dX12_lastsOf_38 : decode cX12_lastsOf 38 = .ok (.iload 5, 2) := by decide +kernel
theorem dX12_lastsOf_40 : decode cX12_lastsOf 40 = .ok (.ireturn, 1) := by decide +kernel
theorem dX12_lasts_0 : decode cX12_lasts 0 = .ok (.aload_n 0, 1) := by decide +kernel
theorem dX12_lasts_1 : decode cX12_lasts 1 = .ok (.iload_n 1, 1) := by decide +kernel
theorem dX12_lasts_2 : decode cX12_lasts 2 = .ok (.invokevirtual 221, 3) := by decide +kernel
theorem dX12_lasts_5 : decode cX12_lasts 5 = .ok (.ifCond .eq 25, 3) := by decide +kernel
theorem dX12_lasts_8 : decode cX12_lasts 8 = .ok (.aload_n 0, 1) := by decide +kernel
theorem dX12_lasts_9 : decode cX12_lasts 9 = .ok (.iload_n 2, 1) := by decide +kernel
theorem dX12_lasts_10 : decode cX12_lasts 10 = .ok (.invokevirtual 221, 3) := by decide +kernel
theorem dX12_lasts_13 : decode cX12_lasts 13 = .ok (.ifCond .eq 17, 3) := by decide +kernel
theorem dX12_lasts_16 : decode cX12_lasts 16 = .ok (.iload_n 1, 1) := by decide +kernel
theorem dX12_lasts_17 : decode cX12_lasts 17 = .ok (.iload_n 2, 1) := by decide +kernel
theorem dX12_lasts_18 : decode cX12_lasts 18 = .ok (.if_icmp .eq 12, 3) := by decide +kernel
theorem dX12_lasts_21 : decode cX12_lasts 21 = .ok (.aload_n 0, 1) := by decide +kernel
theorem dX12_lasts_22 : decode cX12_lasts 22 = .ok (.iload_n 1, 1) := by decide +kernel
theorem dX12_lasts_23 : decode cX12_lasts 23 = .ok (.iload_n 2, 1) := by decide +kernel
theorem dX12_lasts_24 : decode cX12_lasts 24 = .ok (.invokevirtual 260, 3) := by decide +kernel
theorem dX12_lasts_27 : decode cX12_lasts 27 = .ok (.goto 7, 3) := by decide +kernel
theorem dX12_lasts_30 : decode cX12_lasts 30 = .ok (.aload_n 0, 1) := by decide +kernel
theorem dX12_lasts_31 : decode cX12_lasts 31 = .ok (.invokevirtual 101, 3) := by decide +kernel
theorem dX12_lasts_34 : decode cX12_lasts 34 = .ok (.ireturn, 1) := by decide +kernel
theorem dX12_areStuck_0 : decode cX12_areStuck 0 = .ok (.iconst 1, 1) := by decide +kernel
theorem dX12_areStuck_1 : decode cX12_areStuck 1 = .ok (.istore_n 3, 1) := by decide +kernel
theorem dX12_areStuck_2 : decode cX12_areStuck 2 = .ok (.iconst 0, 1) := by decide +kernel
theorem dX12_areStuck_3 : decode cX12_areStuck 3 = .ok (.istore 4, 2) := by decide +kernel
theorem dX12_areStuck_5 : decode cX12_areStuck 5 = .ok (.iload 4, 2) := by decide +kernel
theorem dX12_areStuck_7 : decode cX12_areStuck 7 = .ok (.bipush 8, 2) := by decide +kernel
theorem dX12_areStuck_9 : decode cX12_areStuck 9 = .ok (.if_icmp .ge 39, 3) := by decide +kernel
theorem dX12_areStuck_12 : decode cX12_areStuck 12 = .ok (.iload_n 3, 1) := by decide +kernel
theorem dX12_areStuck_13 : decode cX12_areStuck 13 = .ok (.ifCond .eq 27, 3) := by decide +kernel
theorem dX12_areStuck_16 : decode cX12_areStuck 16 = .ok (.aload_n 0, 1) := by decide +kernel
theorem dX12_areStuck_17 : decode cX12_areStuck 17 = .ok (.iload_n 1, 1) := by decide +kernel
theorem dX12_areStuck_18 : decode cX12_areStuck 18 = .ok (.iload 4, 2) := by decide +kernel
theorem dX12_areStuck_20 : decode cX12_areStuck 20 = .ok (.invokevirtual 208, 3) := by decide +kernel
theorem dX12_areStuck_23 : decode cX12_areStuck 23 = .ok (.ifCond .eq 13, 3) := by decide +kernel
theorem dX12_areStuck_26 : decode cX12_areStuck 26 = .ok (.aload_n 0, 1) := by decide +kernel
theorem dX12_areStuck_27 : decode cX12_areStuck 27 = .ok (.iload_n 2, 1) := by decide +kernel
theorem dX12_areStuck_28 : decode cX12_areStuck 28 = .ok (.iload 4, 2) := by decide +kernel
theorem dX12_areStuck_30 : decode cX12_areStuck 30 = .ok (.invokevirtual 208, 3) := by decide +kernel
theorem dX12_areStuck_33 : decode cX12_areStuck 33 = .ok (.ifCond .ne 7, 3) := by decide +kernel
theorem dX12_areStuck_36 : decode cX12_areStuck 36 = .ok (.iconst 1, 1) := by decide +kernel
theorem dX12_areStuck_37 : decode cX12_areStuck 37 = .ok (.goto 4, 3) := by decide +kernel
theorem dX12_areStuck_40 : decode cX12_areStuck 40 = .ok (.iconst 0, 1) := by decide +kernel
theorem dX12_areStuck_41 : decode cX12_areStuck 41 = .ok (.istore_n 3, 1) := by decide +kernel
theorem dX12_areStuck_42 : decode cX12_areStuck 42 = .ok (.iinc 4 1, 3) := by decide +kernel
theorem dX12_areStuck_45 : decode cX12_areStuck 45 = .ok (.goto (-40), 3) := by decide +kernel
theorem dX12_areStuck_48 : decode cX12_areStuck 48 = .ok (.iload_n 3, 1) := by decide +kernel
theorem dX12_areStuck_49 : decode cX12_areStuck 49 = .ok (.ireturn, 1) := by decide +kernel
theorem dX12_pairs_0 : decode cX12_pairs 0 = .ok (.iload_n 1, 1) := by decide +kernel
theorem dX12_pairs_1 : decode cX12_pairs 1 = .ok (.iconst 0, 1) := by decide +kernel
theorem dX12_pairs_2 : decode cX12_pairs 2 = .ok (.iconst 1, 1) := by decide +kernel
theorem dX12_pairs_3 : decode cX12_pairs 3 = .ok (.invokestatic 97, 3) := by decide +kernel
theorem dX12_pairs_6 : decode cX12_pairs 6 = .ok (.ifCond .ne 8, 3) := by decide +kernel
theorem dX12_pairs_9 : decode cX12_pairs 9 = .ok (.aload_n 0, 1) := by decide +kernel
theorem dX12_pairs_10 : decode cX12_pairs 10 = .ok (.invokevirtual 101, 3) := by decide +kernel
theorem dX12_pairs_13 : decode cX12_pairs 13 = .ok (.ireturn, 1) := by decide +kernel
theorem dX12_pairs_14 : decode cX12_pairs 14 = .ok (.iconst (-1), 1) := by decide +kernel
theorem dX12_pairs_15 : decode cX12_pairs 15 = .ok (.istore_n 2, 1) := by decide +kernel
theorem dX12_pairs_16 : decode cX12_pairs 16 = .ok (.iconst (-1), 1) := by decide +kernel
theorem dX12_pairs_17 : decode cX12_pairs 17 = .ok (.istore_n 3, 1) := by decide +kernel
theorem dX12_pairs_18 : decode cX12_pairs 18 = .ok (.iconst 0, 1) := by decide +kernel
theorem dX12_pairs_19 : decode cX12_pairs 19 = .ok (.istore 4, 2) := by decide +kernel
theorem dX12_pairs_21 : decode cX12_pairs 21 = .ok (.iconst 0, 1) := by decide +kernel
theorem dX12_pairs_22 : decode cX12_pairs 22 = .ok (.istore 5, 2) := by decide +kernel
theorem dX12_pairs_24 : decode cX12_pairs 24 = .ok (.iload 5, 2) := by decide +kernel
theorem dX12_pairs_26 : decode cX12_pairs 26 = .ok (.aload_n 0, 1) := by decide +kernel
theorem dX12_pairs_27 : decode cX12_pairs 27 = .ok (.getfield 82, 3) := by decide +kernel
theorem dX12_pairs_30 : decode cX12_pairs 30 = .ok (.if_icmp .ge 93, 3) := by decide +kernel
theorem dX12_pairs_33 : decode cX12_pairs 33 = .ok (.iload 5, 2) := by decide +kernel
theorem dX12_pairs_35 : decode cX12_pairs 35 = .ok (.iconst 1, 1) := by decide +kernel
theorem dX12_pairs_36 : decode cX12_pairs 36 = .ok (.iadd, 1) := by decide +kernel
theorem dX12_pairs_37 : decode cX12_pairs 37 = .ok (.istore 6, 2) := by decide +kernel
theorem dX12_pairs_39 : decode cX12_pairs 39 = .ok (.iload 6, 2) := by decide +kernel
theorem dX12_pairs_41 : decode cX12_pairs 41 = .ok (.aload_n 0, 1) := by decide +kernel
theorem dX12_pairs_42 : decode cX12_pairs 42 = .ok (.getfield 82, 3) := by decide +kernel
theorem dX12_pairs_45 : decode cX12_pairs 45 = .ok (.if_icmp .ge 72, 3) := by decide +kernel
theorem dX12_pairs_48 : decode cX12_pairs 48 = .ok (.aload_n 0, 1) := by decide +kernel
theorem dX12_pairs_49 : decode cX12_pairs 49 = .ok (.iload 5, 2) := by decide +kernel
theorem dX12_pairs_51 : decode cX12_pairs 51 = .ok (.iload 6, 2) := by decide +kernel
theorem dX12_pairs_53 : decode cX12_pairs 53 = .ok (.invokevirtual 260, 3) := by decide +kernel
theorem dX12_pairs_56 : decode cX12_pairs 56 = .ok (.istore 7, 2) := by decide +kernel
theorem dX12_pairs_58 : decode cX12_pairs 58 = .ok (.iload 7, 2) := by decide +kernel
theorem dX12_pairs_60 : decode cX12_pairs 60 = .ok (.iload_n 3, 1) := by decide +kernel
theorem dX12_pairs_61 : decode cX12_pairs 61 = .ok (.if_icmp .le 14, 3) := by decide +kernel
theorem dX12_pairs_64 : decode cX12_pairs 64 = .ok (.bipush 10, 2) := by decide +kernel
theorem dX12_pairs_66 : decode cX12_pairs 66 = .ok (.iload 5, 2) := by decide +kernel
theorem dX12_pairs_68 : decode cX12_pairs 68 = .ok (.imul, 1) := by decide +kernel
theorem dX12_pairs_69 : decode cX12_pairs 69 = .ok (.iload 6, 2) := by decide +kernel
theorem dX12_pairs_71 : decode cX12_pairs 71 = .ok (.iadd, 1) := by decide +kernel
theorem dX12_pairs_72 : decode cX12_pairs 72 = .ok (.goto 4, 3) := by decide +kernel
theorem dX12_pairs_75 : decode cX12_pairs 75 = .ok (.iload_n 2, 1) := by decide +kernel
theorem dX12_pairs_76 : decode cX12_pairs 76 = .ok (.istore_n 2, 1) := by decide +kernel
theorem dX12_pairs_77 : decode cX12_pairs 77 = .ok (.iload 7, 2) := by decide +kernel
theorem dX12_pairs_79 : decode cX12_pairs 79 = .ok (.iload_n 3, 1) := by decide +kernel
theorem dX12_pairs_80 : decode cX12_pairs 80 = .ok (.if_icmp .le 8, 3) := by decide +kernel
theorem dX12_pairs_83 : decode cX12_pairs 83 = .ok (.iload 7, 2) := by decide +kernel
theorem dX12_pairs_85 : decode cX12_pairs 85 = .ok (.goto 4, 3) := by decide +kernel
theorem dX12_pairs_88 : decode cX12_pairs 88 = .ok (.iload_n 3, 1) := by decide +kernel
theorem dX12_pairs_89 : decode cX12_pairs 89 = .ok (.istore_n 3, 1) := by decide +kernel
theorem dX12_pairs_90 : decode cX12_pairs 90 = .ok (.iload 4, 2) := by decide +kernel
theorem dX12_pairs_92 : decode cX12_pairs 92 = .ok (.aload_n 0, 1) := by decide +kernel
theorem dX12_pairs_93 : decode cX12_pairs 93 = .ok (.iload 5, 2) := by decide +kernel
theorem dX12_pairs_95 : decode cX12_pairs 95 = .ok (.iload 6, 2) := by decide +kernel
theorem dX12_pairs_97 : decode cX12_pairs 97 = .ok (.invokevirtual 263, 3) := by decide +kernel
theorem dX12_pairs_100 : decode cX12_pairs 100 = .ok (.ifCond .eq 7, 3) := by decide +kernel
theorem dX12_pairs_103 : decode cX12_pairs 103 = .ok (.iconst 1, 1) := by decide +kernel
theorem dX12_pairs_104 : decode cX12_pairs 104 = .ok (.goto 4, 3) := by decide +kernel
theorem dX12_pairs_107 : decode cX12_pairs 107 = .ok (.iconst 0, 1) := by decide +kernel
theorem dX12_pairs_108 : decode cX12_pairs 108 = .ok (.iadd, 1) := by decide +kernel
theorem dX12_pairs_109 : decode cX12_pairs 109 = .ok (.istore 4, 2) := by decide +kernel
theorem dX12_pairs_111 : decode cX12_pairs 111 = .ok (.iinc 6 1, 3) := by decide +kernel
theorem dX12_pairs_114 : decode cX12_pairs 114 = .ok (.goto (-75), 3) := by decide +kernel
theorem dX12_pairs_117 : decode cX12_pairs 117 = .ok (.iinc 5 1, 3) := by decide +kernel
theorem dX12_pairs_120 : decode cX12_pairs 120 = .ok (.goto (-96), 3) := by decide +kernel
theorem dX12_pairs_123 : decode cX12_pairs 123 = .ok (.iload_n 1, 1) := by decide +kernel
theorem dX12_pairs_124 : decode cX12_pairs 124 = .ok (.ifCond .ne 7, 3) := by decide +kernel
theorem dX12_pairs_127 : decode cX12_pairs 127 = .ok (.iload_n 2, 1) := by decide +kernel
theorem dX12_pairs_128 : decode cX12_pairs 128 = .ok (.goto 5, 3) := by decide +kernel
theorem dX12_pairs_131 : decode cX12_pairs 131 = .ok (.iload 4, 2) := by decide +kernel
theorem dX12_pairs_133 : decode cX12_pairs 133 = .ok (.ireturn, 1) := by decide +kernel
theorem dX12_note_0 : decode cX12_note 0 = .ok (.aload_n 0, 1) := by decide +kernel
theorem dX12_note_1 : decode cX12_note 1 = .ok (.iload_n 1, 1) := by decide +kernel
theorem dX12_note_2 : decode cX12_note 2 = .ok (.invokevirtual 221, 3) := by decide +kernel
theorem dX12_note_5 : decode cX12_note 5 = .ok (.ifCond .eq 41, 3) := by decide +kernel
theorem dX12_note_8 : decode cX12_note 8 = .ok (.iload_n 2, 1) := by decide +kernel
theorem dX12_note_9 : decode cX12_note 9 = .ok (.invokestatic 227, 3) := by decide +kernel
theorem dX12_note_12 : decode cX12_note 12 = .ok (.ifCond .eq 34, 3) := by decide +kernel
theorem dX12_note_15 : decode cX12_note 15 = .ok (.iload_n 3, 1) := by decide +kernel
theorem dX12_note_16 : decode cX12_note 16 = .ok (.iconst 0, 1) := by decide +kernel
theorem dX12_note_17 : decode cX12_note 17 = .ok (.bipush 99, 2) := by decide +kernel
theorem dX12_note_19 : decode cX12_note 19 = .ok (.invokestatic 97, 3) := by decide +kernel
theorem dX12_note_22 : decode cX12_note 22 = .ok (.ifCond .eq 24, 3) := by decide +kernel
theorem dX12_note_25 : decode cX12_note 25 = .ok (.iload 4, 2) := by decide +kernel
theorem dX12_note_27 : decode cX12_note 27 = .ok (.iconst 0, 1) := by decide +kernel
theorem dX12_note_28 : decode cX12_note 28 = .ok (.bipush 99, 2) := by decide +kernel
theorem dX12_note_30 : decode cX12_note 30 = .ok (.invokestatic 97, 3) := by decide +kernel
theorem dX12_note_33 : decode cX12_note 33 = .ok (.ifCond .eq 13, 3) := by decide +kernel
theorem dX12_note_36 : decode cX12_note 36 = .ok (.iload 5, 2) := by decide +kernel
theorem dX12_note_38 : decode cX12_note 38 = .ok (.iconst 0, 1) := by decide +kernel
theorem dX12_note_39 : decode cX12_note 39 = .ok (.iconst 1, 1) := by decide +kernel
theorem dX12_note_40 : decode cX12_note 40 = .ok (.invokestatic 97, 3) := by decide +kernel
theorem dX12_note_43 : decode cX12_note 43 = .ok (.ifCond .ne 8, 3) := by decide +kernel
theorem dX12_note_46 : decode cX12_note 46 = .ok (.aload_n 0, 1) := by decide +kernel
theorem dX12_note_47 : decode cX12_note 47 = .ok (.invokevirtual 101, 3) := by decide +kernel
theorem dX12_note_50 : decode cX12_note 50 = .ok (.ireturn, 1) := by decide +kernel
theorem dX12_note_51 : decode cX12_note 51 = .ok (.aload_n 0, 1) := by decide +kernel
theorem dX12_note_52 : decode cX12_note 52 = .ok (.getfield 91, 3) := by decide +kernel
theorem dX12_note_55 : decode cX12_note 55 = .ok (.bipush 6, 2) := by decide +kernel
theorem dX12_note_57 : decode cX12_note 57 = .ok (.if_icmp .ne 8, 3) := by decide +kernel
theorem dX12_note_60 : decode cX12_note 60 = .ok (.aload_n 0, 1) := by decide +kernel
theorem dX12_note_61 : decode cX12_note 61 = .ok (.invokevirtual 105, 3) := by decide +kernel
theorem dX12_note_64 : decode cX12_note 64 = .ok (.ireturn, 1) := by decide +kernel
theorem dX12_note_65 : decode cX12_note 65 = .ok (.aload_n 0, 1) := by decide +kernel
theorem dX12_note_66 : decode cX12_note 66 = .ok (.getfield 35, 3) := by decide +kernel
theorem dX12_note_69 : decode cX12_note 69 = .ok (.aload_n 0, 1) := by decide +kernel
theorem dX12_note_70 : decode cX12_note 70 = .ok (.getfield 91, 3) := by decide +kernel
theorem dX12_note_73 : decode cX12_note 73 = .ok (.iload_n 1, 1) := by decide +kernel
theorem dX12_note_74 : decode cX12_note 74 = .ok (.iastore, 1) := by decide +kernel
theorem dX12_note_75 : decode cX12_note 75 = .ok (.aload_n 0, 1) := by decide +kernel
theorem dX12_note_76 : decode cX12_note 76 = .ok (.getfield 38, 3) := by decide +kernel
theorem dX12_note_79 : decode cX12_note 79 = .ok (.aload_n 0, 1) := by decide +kernel
theorem dX12_note_80 : decode cX12_note 80 = .ok (.getfield 91, 3) := by decide +kernel
theorem dX12_note_83 : decode cX12_note 83 = .ok (.iload_n 2, 1) := by decide +kernel
theorem dX12_note_84 : decode cX12_note 84 = .ok (.iastore, 1) := by decide +kernel
theorem dX12_note_85 : decode cX12_note 85 = .ok (.aload_n 0, 1) := by decide +kernel
theorem dX12_note_86 : decode cX12_note 86 = .ok (.getfield 41, 3) := by decide +kernel
theorem dX12_note_89 : decode cX12_note 89 = .ok (.aload_n 0, 1) := by decide +kernel
theorem dX12_note_90 : decode cX12_note 90 = .ok (.getfield 91, 3) := by decide +kernel
theorem dX12_note_93 : decode cX12_note 93 = .ok (.iload_n 3, 1) := by decide +kernel
theorem dX12_note_94 : decode cX12_note 94 = .ok (.iastore, 1) := by decide +kernel
theorem dX12_note_95 : decode cX12_note 95 = .ok (.aload_n 0, 1) := by decide +kernel
theorem dX12_note_96 : decode cX12_note 96 = .ok (.getfield 44, 3) := by decide +kernel
theorem dX12_note_99 : decode cX12_note 99 = .ok (.aload_n 0, 1) := by decide +kernel
theorem dX12_note_100 : decode cX12_note 100 = .ok (.getfield 91, 3) := by decide +kernel
theorem dX12_note_103 : decode cX12_note 103 = .ok (.iload 4, 2) := by decide +kernel
theorem dX12_note_105 : decode cX12_note 105 = .ok (.iastore, 1) := by decide +kernel
theorem dX12_note_106 : decode cX12_note 106 = .ok (.aload_n 0, 1) := by decide +kernel
theorem dX12_note_107 : decode cX12_note 107 = .ok (.getfield 47, 3) := by decide +kernel
theorem dX12_note_110 : decode cX12_note 110 = .ok (.aload_n 0, 1) := by decide +kernel
theorem dX12_note_111 : decode cX12_note 111 = .ok (.getfield 91, 3) := by decide +kernel
theorem dX12_note_114 : decode cX12_note 114 = .ok (.iload 5, 2) := by decide +kernel
theorem dX12_note_116 : decode cX12_note 116 = .ok (.iastore, 1) := by decide +kernel
theorem dX12_note_117 : decode cX12_note 117 = .ok (.aload_n 0, 1) := by decide +kernel
theorem dX12_note_118 : decode cX12_note 118 = .ok (.dup, 1) := by decide +kernel
theorem dX12_note_119 : decode cX12_note 119 = .ok (.getfield 91, 3) := by decide +kernel
theorem dX12_note_122 : decode cX12_note 122 = .ok (.iconst 1, 1) := by decide +kernel
theorem dX12_note_123 : decode cX12_note 123 = .ok (.iadd, 1) := by decide +kernel
theorem dX12_note_124 : decode cX12_note 124 = .ok (.putfield 91, 3) := by decide +kernel
theorem dX12_note_127 : decode cX12_note 127 = .ok (.aload_n 0, 1) := by decide +kernel
theorem dX12_note_128 : decode cX12_note 128 = .ok (.getfield 91, 3) := by decide +kernel
theorem dX12_note_131 : decode cX12_note 131 = .ok (.ireturn, 1) := by decide +kernel
theorem dX12_forget_0 : decode cX12_forget 0 = .ok (.aload_n 0, 1) := by decide +kernel
theorem dX12_forget_1 : decode cX12_forget 1 = .ok (.getfield 91, 3) := by decide +kernel
theorem dX12_forget_4 : decode cX12_forget 4 = .ok (.istore_n 1, 1) := by decide +kernel
theorem dX12_forget_5 : decode cX12_forget 5 = .ok (.aload_n 0, 1) := by decide +kernel
theorem dX12_forget_6 : decode cX12_forget 6 = .ok (.iconst 0, 1) := by decide +kernel
theorem dX12_forget_7 : decode cX12_forget 7 = .ok (.putfield 91, 3) := by decide +kernel
theorem dX12_forget_10 : decode cX12_forget 10 = .ok (.iload_n 1, 1) := by decide +kernel
theorem dX12_forget_11 : decode cX12_forget 11 = .ok (.ireturn, 1) := by decide +kernel
theorem dX12_isSo_0 : decode cX12_isSo 0 = .ok (.iconst 1, 1) := by decide +kernel
theorem dX12_isSo_1 : decode cX12_isSo 1 = .ok (.istore 5, 2) := by decide +kernel
theorem dX12_isSo_3 : decode cX12_isSo 3 = .ok (.iconst 0, 1) := by decide +kernel
theorem dX12_isSo_4 : decode cX12_isSo 4 = .ok (.istore 6, 2) := by decide +kernel
theorem dX12_isSo_6 : decode cX12_isSo 6 = .ok (.iload 6, 2) := by decide +kernel
theorem dX12_isSo_8 : decode cX12_isSo 8 = .ok (.aload_n 0, 1) := by decide +kernel
theorem dX12_isSo_9 : decode cX12_isSo 9 = .ok (.getfield 91, 3) := by decide +kernel
theorem dX12_isSo_12 : decode cX12_isSo 12 = .ok (.if_icmp .ge 101, 3) := by decide +kernel
theorem dX12_isSo_15 : decode cX12_isSo 15 = .ok (.aload_n 0, 1) := by decide +kernel
theorem dX12_isSo_16 : decode cX12_isSo 16 = .ok (.getfield 35, 3) := by decide +kernel
theorem dX12_isSo_19 : decode cX12_isSo 19 = .ok (.iload 6, 2) := by decide +kernel
theorem dX12_isSo_21 : decode cX12_isSo 21 = .ok (.iaload, 1) := by decide +kernel
theorem dX12_isSo_22 : decode cX12_isSo 22 = .ok (.iload_n 1, 1) := by decide +kernel
theorem dX12_isSo_23 : decode cX12_isSo 23 = .ok (.if_icmp .ne 84, 3) := by decide +kernel
theorem dX12_isSo_26 : decode cX12_isSo 26 = .ok (.aload_n 0, 1) := by decide +kernel
theorem dX12_isSo_27 : decode cX12_isSo 27 = .ok (.getfield 38, 3) := by decide +kernel
theorem dX12_isSo_30 : decode cX12_isSo 30 = .ok (.iload 6, 2) := by decide +kernel
theorem dX12_isSo_32 : decode cX12_isSo 32 = .ok (.iaload, 1) := by decide +kernel
theorem dX12_isSo_33 : decode cX12_isSo 33 = .ok (.iload_n 3, 1) := by decide +kernel
theorem dX12_isSo_34 : decode cX12_isSo 34 = .ok (.if_icmp .ne 8, 3) := by decide +kernel
theorem dX12_isSo_37 : decode cX12_isSo 37 = .ok (.iload 4, 2) := by decide +kernel
theorem dX12_isSo_39 : decode cX12_isSo 39 = .ok (.goto 15, 3) := by decide +kernel
theorem dX12_isSo_42 : decode cX12_isSo 42 = .ok (.aload_n 0, 1) := by decide +kernel
theorem dX12_isSo_43 : decode cX12_isSo 43 = .ok (.iload_n 1, 1) := by decide +kernel
theorem dX12_isSo_44 : decode cX12_isSo 44 = .ok (.aload_n 0, 1) := by decide +kernel
theorem dX12_isSo_45 : decode cX12_isSo 45 = .ok (.getfield 38, 3) := by decide +kernel
theorem dX12_isSo_48 : decode cX12_isSo 48 = .ok (.iload 6, 2) := by decide +kernel
theorem dX12_isSo_50 : decode cX12_isSo 50 = .ok (.iaload, 1) := by decide +kernel
theorem dX12_isSo_51 : decode cX12_isSo 51 = .ok (.invokevirtual 189, 3) := by decide +kernel
theorem dX12_isSo_54 : decode cX12_isSo 54 = .ok (.istore 7, 2) := by decide +kernel
theorem dX12_isSo_56 : decode cX12_isSo 56 = .ok (.iload 5, 2) := by decide +kernel
theorem dX12_isSo_58 : decode cX12_isSo 58 = .ok (.ifCond .eq 46, 3) := by decide +kernel
theorem dX12_isSo_61 : decode cX12_isSo 61 = .ok (.iload_n 2, 1) := by decide +kernel
theorem dX12_isSo_62 : decode cX12_isSo 62 = .ok (.iload 7, 2) := by decide +kernel
theorem dX12_isSo_64 : decode cX12_isSo 64 = .ok (.aload_n 0, 1) := by decide +kernel
theorem dX12_isSo_65 : decode cX12_isSo 65 = .ok (.getfield 41, 3) := by decide +kernel
theorem dX12_isSo_68 : decode cX12_isSo 68 = .ok (.iload 6, 2) := by decide +kernel
theorem dX12_isSo_70 : decode cX12_isSo 70 = .ok (.iaload, 1) := by decide +kernel
theorem dX12_isSo_71 : decode cX12_isSo 71 = .ok (.aload_n 0, 1) := by decide +kernel
theorem dX12_isSo_72 : decode cX12_isSo 72 = .ok (.getfield 44, 3) := by decide +kernel
theorem dX12_isSo_75 : decode cX12_isSo 75 = .ok (.iload 6, 2) := by decide +kernel
theorem dX12_isSo_77 : decode cX12_isSo 77 = .ok (.iaload, 1) := by decide +kernel
theorem dX12_isSo_78 : decode cX12_isSo 78 = .ok (.invokestatic 193, 3) := by decide +kernel
theorem dX12_isSo_81 : decode cX12_isSo 81 = .ok (.aload_n 0, 1) := by decide +kernel
theorem dX12_isSo_82 : decode cX12_isSo 82 = .ok (.getfield 47, 3) := by decide +kernel
theorem dX12_isSo_85 : decode cX12_isSo 85 = .ok (.iload 6, 2) := by decide +kernel
theorem dX12_isSo_87 : decode cX12_isSo 87 = .ok (.iaload, 1) := by decide +kernel
theorem dX12_isSo_88 : decode cX12_isSo 88 = .ok (.iconst 1, 1) := by decide +kernel
theorem dX12_isSo_89 : decode cX12_isSo 89 = .ok (.if_icmp .ne 7, 3) := by decide +kernel
theorem dX12_isSo_92 : decode cX12_isSo 92 = .ok (.iconst 1, 1) := by decide +kernel
theorem dX12_isSo_93 : decode cX12_isSo 93 = .ok (.goto 4, 3) := by decide +kernel
theorem dX12_isSo_96 : decode cX12_isSo 96 = .ok (.iconst 0, 1) := by decide +kernel
theorem dX12_isSo_97 : decode cX12_isSo 97 = .ok (.if_icmp .ne 7, 3) := by decide +kernel
theorem dX12_isSo_100 : decode cX12_isSo 100 = .ok (.iconst 1, 1) := by decide +kernel
theorem dX12_isSo_101 : decode cX12_isSo 101 = .ok (.goto 4, 3) := by decide +kernel
theorem dX12_isSo_104 : decode cX12_isSo 104 = .ok (.iconst 0, 1) := by decide +kernel
theorem dX12_isSo_105 : decode cX12_isSo 105 = .ok (.istore 5, 2) := by decide +kernel
theorem dX12_isSo_107 : decode cX12_isSo 107 = .ok (.iinc 6 1, 3) := by decide +kernel
theorem dX12_isSo_110 : decode cX12_isSo 110 = .ok (.goto (-104), 3) := by decide +kernel
theorem dX12_isSo_113 : decode cX12_isSo 113 = .ok (.iload 5, 2) := by decide +kernel
theorem dX12_isSo_115 : decode cX12_isSo 115 = .ok (.ireturn, 1) := by decide +kernel
theorem dX12_kindsOf_0 : decode cX12_kindsOf 0 = .ok (.iconst 0, 1) := by decide +kernel
theorem dX12_kindsOf_1 : decode cX12_kindsOf 1 = .ok (.istore_n 2, 1) := by decide +kernel
theorem dX12_kindsOf_2 : decode cX12_kindsOf 2 = .ok (.iconst 0, 1) := by decide +kernel
theorem dX12_kindsOf_3 : decode cX12_kindsOf 3 = .ok (.istore_n 3, 1) := by decide +kernel
theorem dX12_kindsOf_4 : decode cX12_kindsOf 4 = .ok (.iload_n 3, 1) := by decide +kernel
theorem dX12_kindsOf_5 : decode cX12_kindsOf 5 = .ok (.iconst 5, 1) := by decide +kernel
theorem dX12_kindsOf_6 : decode cX12_kindsOf 6 = .ok (.if_icmp .gt 30, 3) := by decide +kernel
theorem dX12_kindsOf_9 : decode cX12_kindsOf 9 = .ok (.iload_n 2, 1) := by decide +kernel
theorem dX12_kindsOf_10 : decode cX12_kindsOf 10 = .ok (.aload_n 0, 1) := by decide +kernel
theorem dX12_kindsOf_11 : decode cX12_kindsOf 11 = .ok (.iload_n 1, 1) := by decide +kernel
theorem dX12_kindsOf_12 : decode cX12_kindsOf 12 = .ok (.iload_n 3, 1) := by decide +kernel
theorem dX12_kindsOf_13 : decode cX12_kindsOf 13 = .ok (.iconst (-1), 1) := by decide +kernel
theorem dX12_kindsOf_14 : decode cX12_kindsOf 14 = .ok (.iconst 0, 1) := by decide +kernel
theorem dX12_kindsOf_15 : decode cX12_kindsOf 15 = .ok (.invokevirtual 266, 3) := by decide +kernel
theorem dX12_kindsOf_18 : decode cX12_kindsOf 18 = .ok (.ifCond .eq 9, 3) := by decide +kernel
theorem dX12_kindsOf_21 : decode cX12_kindsOf 21 = .ok (.iconst 1, 1) := by decide +kernel
theorem dX12_kindsOf_22 : decode cX12_kindsOf 22 = .ok (.iload_n 3, 1) := by decide +kernel
theorem dX12_kindsOf_23 : decode cX12_kindsOf 23 = .ok (.ishl, 1) := by decide +kernel
theorem dX12_kindsOf_24 : decode cX12_kindsOf 24 = .ok (.goto 4, 3) := by decide +kernel
theorem dX12_kindsOf_27 : decode cX12_kindsOf 27 = .ok (.iconst 0, 1) := by decide +kernel
theorem dX12_kindsOf_28 : decode cX12_kindsOf 28 = .ok (.ior, 1) := by decide +kernel
theorem dX12_kindsOf_29 : decode cX12_kindsOf 29 = .ok (.istore_n 2, 1) := by decide +kernel
theorem dX12_kindsOf_30 : decode cX12_kindsOf 30 = .ok (.iinc 3 1, 3) := by decide +kernel
theorem dX12_kindsOf_33 : decode cX12_kindsOf 33 = .ok (.goto (-29), 3) := by decide +kernel
theorem dX12_kindsOf_36 : decode cX12_kindsOf 36 = .ok (.iload_n 2, 1) := by decide +kernel
theorem dX12_kindsOf_37 : decode cX12_kindsOf 37 = .ok (.ireturn, 1) := by decide +kernel
theorem dX12_is_0 : decode cX12_is 0 = .ok (.aload_n 0, 1) := by decide +kernel
theorem dX12_is_1 : decode cX12_is 1 = .ok (.iload_n 1, 1) := by decide +kernel
theorem dX12_is_2 : decode cX12_is 2 = .ok (.invokevirtual 221, 3) := by decide +kernel
theorem dX12_is_5 : decode cX12_is 5 = .ok (.ifCond .eq 11, 3) := by decide +kernel
theorem dX12_is_8 : decode cX12_is 8 = .ok (.aload_n 0, 1) := by decide +kernel
theorem dX12_is_9 : decode cX12_is 9 = .ok (.iload_n 1, 1) := by decide +kernel
theorem dX12_is_10 : decode cX12_is 10 = .ok (.invokevirtual 269, 3) := by decide +kernel
theorem dX12_is_13 : decode cX12_is 13 = .ok (.goto 7, 3) := by decide +kernel
theorem dX12_is_16 : decode cX12_is 16 = .ok (.aload_n 0, 1) := by decide +kernel
theorem dX12_is_17 : decode cX12_is 17 = .ok (.invokevirtual 101, 3) := by decide +kernel
theorem dX12_is_20 : decode cX12_is 20 = .ok (.ireturn, 1) := by decide +kernel
theorem dX12_heart_0 : decode cX12_heart 0 = .ok (.aload_n 0, 1) := by decide +kernel
theorem dX12_heart_1 : decode cX12_heart 1 = .ok (.iload_n 1, 1) := by decide +kernel
theorem dX12_heart_2 : decode cX12_heart 2 = .ok (.invokevirtual 221, 3) := by decide +kernel
theorem dX12_heart_5 : decode cX12_heart 5 = .ok (.ifCond .eq 10, 3) := by decide +kernel
theorem dX12_heart_8 : decode cX12_heart 8 = .ok (.iload_n 2, 1) := by decide +kernel
theorem dX12_heart_9 : decode cX12_heart 9 = .ok (.invokestatic 227, 3) := by decide +kernel
theorem dX12_heart_12 : decode cX12_heart 12 = .ok (.ifCond .ne 8, 3) := by decide +kernel
theorem dX12_heart_15 : decode cX12_heart 15 = .ok (.aload_n 0, 1) := by decide +kernel
theorem dX12_heart_16 : decode cX12_heart 16 = .ok (.invokevirtual 101, 3) := by decide +kernel
theorem dX12_heart_19 : decode cX12_heart 19 = .ok (.ireturn, 1) := by decide +kernel
theorem dX12_heart_20 : decode cX12_heart 20 = .ok (.iconst 0, 1) := by decide +kernel
theorem dX12_heart_21 : decode cX12_heart 21 = .ok (.istore_n 3, 1) := by decide +kernel
theorem dX12_heart_22 : decode cX12_heart 22 = .ok (.iconst 0, 1) := by decide +kernel
theorem dX12_heart_23 : decode cX12_heart 23 = .ok (.istore 4, 2) := by decide +kernel
theorem dX12_heart_25 : decode cX12_heart 25 = .ok (.iload 4, 2) := by decide +kernel
theorem dX12_heart_27 : decode cX12_heart 27 = .ok (.iconst 3, 1) := by decide +kernel
theorem dX12_heart_28 : decode cX12_heart 28 = .ok (.if_icmp .ge 37, 3) := by decide +kernel
theorem dX12_heart_31 : decode cX12_heart 31 = .ok (.iload_n 3, 1) := by decide +kernel
theorem dX12_heart_32 : decode cX12_heart 32 = .ok (.aload_n 0, 1) := by decide +kernel
theorem dX12_heart_33 : decode cX12_heart 33 = .ok (.iload_n 1, 1) := by decide +kernel
theorem dX12_heart_34 : decode cX12_heart 34 = .ok (.aload_n 0, 1) := by decide +kernel
theorem dX12_heart_35 : decode cX12_heart 35 = .ok (.getfield 23, 3) := by decide +kernel
theorem dX12_heart_38 : decode cX12_heart 38 = .ok (.iload_n 1, 1) := by decide +kernel
theorem dX12_heart_39 : decode cX12_heart 39 = .ok (.iaload, 1) := by decide +kernel
theorem dX12_heart_40 : decode cX12_heart 40 = .ok (.iload_n 2, 1) := by decide +kernel
theorem dX12_heart_41 : decode cX12_heart 41 = .ok (.iload 4, 2) := by decide +kernel
theorem dX12_heart_43 : decode cX12_heart 43 = .ok (.invokevirtual 266, 3) := by decide +kernel
theorem dX12_heart_46 : decode cX12_heart 46 = .ok (.ifCond .eq 10, 3) := by decide +kernel
theorem dX12_heart_49 : decode cX12_heart 49 = .ok (.iconst 1, 1) := by decide +kernel
theorem dX12_heart_50 : decode cX12_heart 50 = .ok (.iload 4, 2) := by decide +kernel
theorem dX12_heart_52 : decode cX12_heart 52 = .ok (.ishl, 1) := by decide +kernel
theorem dX12_heart_53 : decode cX12_heart 53 = .ok (.goto 4, 3) := by decide +kernel
theorem dX12_heart_56 : decode cX12_heart 56 = .ok (.iconst 0, 1) := by decide +kernel
theorem dX12_heart_57 : decode cX12_heart 57 = .ok (.ior, 1) := by decide +kernel
theorem dX12_heart_58 : decode cX12_heart 58 = .ok (.istore_n 3, 1) := by decide +kernel
theorem dX12_heart_59 : decode cX12_heart 59 = .ok (.iinc 4 1, 3) := by decide +kernel
theorem dX12_heart_62 : decode cX12_heart 62 = .ok (.goto (-37), 3) := by decide +kernel
theorem dX12_heart_65 : decode cX12_heart 65 = .ok (.iload_n 3, 1) := by decide +kernel
theorem dX12_heart_66 : decode cX12_heart 66 = .ok (.ireturn, 1) := by decide +kernel
theorem dX12_greaterPart_0 : decode cX12_greaterPart 0 = .ok (.iconst 0, 1) := by decide +kernel
theorem dX12_greaterPart_1 : decode cX12_greaterPart 1 = .ok (.istore 4, 2) := by decide +kernel
theorem dX12_greaterPart_3 : decode cX12_greaterPart 3 = .ok (.iconst 0, 1) := by decide +kernel
theorem dX12_greaterPart_4 : decode cX12_greaterPart 4 = .ok (.istore 5, 2) := by decide +kernel
theorem dX12_greaterPart_6 : decode cX12_greaterPart 6 = .ok (.iconst 0, 1) := by decide +kernel
theorem dX12_greaterPart_7 : decode cX12_greaterPart 7 = .ok (.istore 6, 2) := by decide +kernel
theorem dX12_greaterPart_9 : decode cX12_greaterPart 9 = .ok (.iload 6, 2) := by decide +kernel
theorem dX12_greaterPart_11 : decode cX12_greaterPart 11 = .ok (.iconst 5, 1) := by decide +kernel
theorem dX12_greaterPart_12 : decode cX12_greaterPart 12 = .ok (.if_icmp .gt 69, 3) := by decide +kernel
theorem dX12_greaterPart_15 : decode cX12_greaterPart 15 = .ok (.iload_n 3, 1) := by decide +kernel
theorem dX12_greaterPart_16 : decode cX12_greaterPart 16 = .ok (.iload 6, 2) := by decide +kernel
theorem dX12_greaterPart_18 : decode cX12_greaterPart 18 = .ok (.invokestatic 186, 3) := by decide +kernel
theorem dX12_greaterPart_21 : decode cX12_greaterPart 21 = .ok (.ifCond .eq 54, 3) := by decide +kernel
theorem dX12_greaterPart_24 : decode cX12_greaterPart 24 = .ok (.iload 6, 2) := by decide +kernel
theorem dX12_greaterPart_26 : decode cX12_greaterPart 26 = .ok (.aload_n 0, 1) := by decide +kernel
theorem dX12_greaterPart_27 : decode cX12_greaterPart 27 = .ok (.iload_n 1, 1) := by decide +kernel
theorem dX12_greaterPart_28 : decode cX12_greaterPart 28 = .ok (.iload_n 2, 1) := by decide +kernel
theorem dX12_greaterPart_29 : decode cX12_greaterPart 29 = .ok (.invokevirtual 189, 3) := by decide +kernel
theorem dX12_greaterPart_32 : decode cX12_greaterPart 32 = .ok (.aload_n 0, 1) := by decide +kernel
theorem dX12_greaterPart_33 : decode cX12_greaterPart 33 = .ok (.getfield 13, 3) := by decide +kernel
theorem dX12_greaterPart_36 : decode cX12_greaterPart 36 = .ok (.aload_n 0, 1) := by decide +kernel
theorem dX12_greaterPart_37 : decode cX12_greaterPart 37 = .ok (.getfield 85, 3) := by decide +kernel
theorem dX12_greaterPart_40 : decode cX12_greaterPart 40 = .ok (.invokestatic 193, 3) := by decide +kernel
theorem dX12_greaterPart_43 : decode cX12_greaterPart 43 = .ok (.istore 7, 2) := by decide +kernel
theorem dX12_greaterPart_45 : decode cX12_greaterPart 45 = .ok (.iload 4, 2) := by decide +kernel
theorem dX12_greaterPart_47 : decode cX12_greaterPart 47 = .ok (.iload 7, 2) := by decide +kernel
theorem dX12_greaterPart_49 : decode cX12_greaterPart 49 = .ok (.ifCond .eq 7, 3) := by decide +kernel
theorem dX12_greaterPart_52 : decode cX12_greaterPart 52 = .ok (.iconst 1, 1) := by decide +kernel
theorem dX12_greaterPart_53 : decode cX12_greaterPart 53 = .ok (.goto 4, 3) := by decide +kernel
theorem dX12_greaterPart_56 : decode cX12_greaterPart 56 = .ok (.iconst 0, 1) := by decide +kernel
theorem dX12_greaterPart_57 : decode cX12_greaterPart 57 = .ok (.iadd, 1) := by decide +kernel
theorem dX12_greaterPart_58 : decode cX12_greaterPart 58 = .ok (.istore 4, 2) := by decide +kernel
theorem dX12_greaterPart_60 : decode cX12_greaterPart 60 = .ok (.iload 5, 2) := by decide +kernel
theorem dX12_greaterPart_62 : decode cX12_greaterPart 62 = .ok (.iload 7, 2) := by decide +kernel
theorem dX12_greaterPart_64 : decode cX12_greaterPart 64 = .ok (.ifCond .eq 7, 3) := by decide +kernel
theorem dX12_greaterPart_67 : decode cX12_greaterPart 67 = .ok (.iconst 0, 1) := by decide +kernel
theorem dX12_greaterPart_68 : decode cX12_greaterPart 68 = .ok (.goto 4, 3) := by decide +kernel
theorem dX12_greaterPart_71 : decode cX12_greaterPart 71 = .ok (.iconst 1, 1) := by decide +kernel
theorem dX12_greaterPart_72 : decode cX12_greaterPart 72 = .ok (.iadd, 1) := by decide +kernel
theorem dX12_greaterPart_73 : decode cX12_greaterPart 73 = .ok (.istore 5, 2) := by decide +kernel
theorem dX12_greaterPart_75 : decode cX12_greaterPart 75 = .ok (.iinc 6 1, 3) := by decide +kernel
theorem dX12_greaterPart_78 : decode cX12_greaterPart 78 = .ok (.goto (-69), 3) := by decide +kernel
theorem dX12_greaterPart_81 : decode cX12_greaterPart 81 = .ok (.iload 4, 2) := by decide +kernel
theorem dX12_greaterPart_83 : decode cX12_greaterPart 83 = .ok (.iload 5, 2) := by decide +kernel
theorem dX12_greaterPart_85 : decode cX12_greaterPart 85 = .ok (.if_icmp .le 8, 3) := by decide +kernel
theorem dX12_greaterPart_88 : decode cX12_greaterPart 88 = .ok (.iload 4, 2) := by decide +kernel
theorem dX12_greaterPart_90 : decode cX12_greaterPart 90 = .ok (.goto 5, 3) := by decide +kernel
theorem dX12_greaterPart_93 : decode cX12_greaterPart 93 = .ok (.iload 5, 2) := by decide +kernel
theorem dX12_greaterPart_95 : decode cX12_greaterPart 95 = .ok (.ireturn, 1) := by decide +kernel
theorem dX12_next_0 : decode cX12_next 0 = .ok (.aload_n 0, 1) := by decide +kernel
theorem dX12_next_1 : decode cX12_next 1 = .ok (.iload_n 1, 1) := by decide +kernel
theorem dX12_next_2 : decode cX12_next 2 = .ok (.invokevirtual 221, 3) := by decide +kernel
theorem dX12_next_5 : decode cX12_next 5 = .ok (.ifCond .ne 8, 3) := by decide +kernel
theorem dX12_next_8 : decode cX12_next 8 = .ok (.aload_n 0, 1) := by decide +kernel
theorem dX12_next_9 : decode cX12_next 9 = .ok (.invokevirtual 101, 3) := by decide +kernel
theorem dX12_next_12 : decode cX12_next 12 = .ok (.ireturn, 1) := by decide +kernel
theorem dX12_next_13 : decode cX12_next 13 = .ok (.aload_n 0, 1) := by decide +kernel
theorem dX12_next_14 : decode cX12_next 14 = .ok (.iload_n 1, 1) := by decide +kernel
theorem dX12_next_15 : decode cX12_next 15 = .ok (.invokevirtual 269, 3) := by decide +kernel
theorem dX12_next_18 : decode cX12_next 18 = .ok (.istore_n 2, 1) := by decide +kernel
theorem dX12_next_19 : decode cX12_next 19 = .ok (.iload_n 2, 1) := by decide +kernel
theorem dX12_next_20 : decode cX12_next 20 = .ok (.ifCond .ne 7, 3) := by decide +kernel
theorem dX12_next_23 : decode cX12_next 23 = .ok (.iconst (-1), 1) := by decide +kernel
theorem dX12_next_24 : decode cX12_next 24 = .ok (.goto 4, 3) := by decide +kernel
theorem dX12_next_27 : decode cX12_next 27 = .ok (.iconst 0, 1) := by decide +kernel
theorem dX12_next_28 : decode cX12_next 28 = .ok (.istore_n 3, 1) := by decide +kernel
theorem dX12_next_29 : decode cX12_next 29 = .ok (.iconst 1, 1) := by decide +kernel
theorem dX12_next_30 : decode cX12_next 30 = .ok (.istore 4, 2) := by decide +kernel
theorem dX12_next_32 : decode cX12_next 32 = .ok (.iload 4, 2) := by decide +kernel
theorem dX12_next_34 : decode cX12_next 34 = .ok (.bipush 8, 2) := by decide +kernel
theorem dX12_next_36 : decode cX12_next 36 = .ok (.if_icmp .ge 38, 3) := by decide +kernel
theorem dX12_next_39 : decode cX12_next 39 = .ok (.iload_n 2, 1) := by decide +kernel
theorem dX12_next_40 : decode cX12_next 40 = .ok (.ifCond .eq 34, 3) := by decide +kernel
theorem dX12_next_43 : decode cX12_next 43 = .ok (.aload_n 0, 1) := by decide +kernel
theorem dX12_next_44 : decode cX12_next 44 = .ok (.iload_n 1, 1) := by decide +kernel
theorem dX12_next_45 : decode cX12_next 45 = .ok (.iload 4, 2) := by decide +kernel
theorem dX12_next_47 : decode cX12_next 47 = .ok (.iload_n 2, 1) := by decide +kernel
theorem dX12_next_48 : decode cX12_next 48 = .ok (.invokevirtual 272, 3) := by decide +kernel
theorem dX12_next_51 : decode cX12_next 51 = .ok (.aload_n 0, 1) := by decide +kernel
theorem dX12_next_52 : decode cX12_next 52 = .ok (.iload_n 1, 1) := by decide +kernel
theorem dX12_next_53 : decode cX12_next 53 = .ok (.iload_n 3, 1) := by decide +kernel
theorem dX12_next_54 : decode cX12_next 54 = .ok (.iload_n 2, 1) := by decide +kernel
theorem dX12_next_55 : decode cX12_next 55 = .ok (.invokevirtual 272, 3) := by decide +kernel
theorem dX12_next_58 : decode cX12_next 58 = .ok (.if_icmp .ge 8, 3) := by decide +kernel
theorem dX12_next_61 : decode cX12_next 61 = .ok (.iload 4, 2) := by decide +kernel
theorem dX12_next_63 : decode cX12_next 63 = .ok (.goto 4, 3) := by decide +kernel
theorem dX12_next_66 : decode cX12_next 66 = .ok (.iload_n 3, 1) := by decide +kernel
theorem dX12_next_67 : decode cX12_next 67 = .ok (.istore_n 3, 1) := by decide +kernel
theorem dX12_next_68 : decode cX12_next 68 = .ok (.iinc 4 1, 3) := by decide +kernel
theorem dX12_next_71 : decode cX12_next 71 = .ok (.goto (-39), 3) := by decide +kernel
theorem dX12_next_74 : decode cX12_next 74 = .ok (.iload_n 3, 1) := by decide +kernel
theorem dX12_next_75 : decode cX12_next 75 = .ok (.ireturn, 1) := by decide +kernel
theorem dX12_gets_0 : decode cX12_gets 0 = .ok (.aload_n 0, 1) := by decide +kernel
theorem dX12_gets_1 : decode cX12_gets 1 = .ok (.iload_n 1, 1) := by decide +kernel
theorem dX12_gets_2 : decode cX12_gets 2 = .ok (.iload_n 2, 1) := by decide +kernel
theorem dX12_gets_3 : decode cX12_gets 3 = .ok (.invokevirtual 189, 3) := by decide +kernel
theorem dX12_gets_6 : decode cX12_gets 6 = .ok (.istore 5, 2) := by decide +kernel
theorem dX12_gets_8 : decode cX12_gets 8 = .ok (.iload_n 3, 1) := by decide +kernel
theorem dX12_gets_9 : decode cX12_gets 9 = .ok (.ifCond .eq 32, 3) := by decide +kernel
theorem dX12_gets_12 : decode cX12_gets 12 = .ok (.iload 4, 2) := by decide +kernel
theorem dX12_gets_14 : decode cX12_gets 14 = .ok (.ifCond .eq 27, 3) := by decide +kernel
theorem dX12_gets_17 : decode cX12_gets 17 = .ok (.iload 5, 2) := by decide +kernel
theorem dX12_gets_19 : decode cX12_gets 19 = .ok (.ifCond .ne 7, 3) := by decide +kernel
theorem dX12_gets_22 : decode cX12_gets 22 = .ok (.iconst 2, 1) := by decide +kernel
theorem dX12_gets_23 : decode cX12_gets 23 = .ok (.goto 36, 3) := by decide +kernel
theorem dX12_gets_26 : decode cX12_gets 26 = .ok (.iload 5, 2) := by decide +kernel
theorem dX12_gets_28 : decode cX12_gets 28 = .ok (.iconst 1, 1) := by decide +kernel
theorem dX12_gets_29 : decode cX12_gets 29 = .ok (.if_icmp .ne 8, 3) := by decide +kernel
theorem dX12_gets_32 : decode cX12_gets 32 = .ok (.bipush (-2), 2) := by decide +kernel
theorem dX12_gets_34 : decode cX12_gets 34 = .ok (.goto 25, 3) := by decide +kernel
theorem dX12_gets_37 : decode cX12_gets 37 = .ok (.iconst 0, 1) := by decide +kernel
theorem dX12_gets_38 : decode cX12_gets 38 = .ok (.goto 21, 3) := by decide +kernel
theorem dX12_gets_41 : decode cX12_gets 41 = .ok (.iload_n 3, 1) := by decide +kernel
theorem dX12_gets_42 : decode cX12_gets 42 = .ok (.ifCond .eq 7, 3) := by decide +kernel
theorem dX12_gets_45 : decode cX12_gets 45 = .ok (.iconst (-1), 1) := by decide +kernel
theorem dX12_gets_46 : decode cX12_gets 46 = .ok (.goto 13, 3) := by decide +kernel
theorem dX12_gets_49 : decode cX12_gets 49 = .ok (.iload 4, 2) := by decide +kernel
theorem dX12_gets_51 : decode cX12_gets 51 = .ok (.ifCond .eq 7, 3) := by decide +kernel
theorem dX12_gets_54 : decode cX12_gets 54 = .ok (.iconst 1, 1) := by decide +kernel
theorem dX12_gets_55 : decode cX12_gets 55 = .ok (.goto 4, 3) := by decide +kernel
theorem dX12_gets_58 : decode cX12_gets 58 = .ok (.iconst 0, 1) := by decide +kernel
theorem dX12_gets_59 : decode cX12_gets 59 = .ok (.ireturn, 1) := by decide +kernel
theorem dX12_spite_0 : decode cX12_spite 0 = .ok (.iload_n 1, 1) := by decide +kernel
theorem dX12_spite_1 : decode cX12_spite 1 = .ok (.invokestatic 227, 3) := by decide +kernel
theorem dX12_spite_4 : decode cX12_spite 4 = .ok (.ifCond .ne 8, 3) := by decide +kernel
theorem dX12_spite_7 : decode cX12_spite 7 = .ok (.aload_n 0, 1) := by decide +kernel
theorem dX12_spite_8 : decode cX12_spite 8 = .ok (.invokevirtual 101, 3) := by decide +kernel
theorem dX12_spite_11 : decode cX12_spite 11 = .ok (.ireturn, 1) := by decide +kernel
theorem dX12_spite_12 : decode cX12_spite 12 = .ok (.aload_n 0, 1) := by decide +kernel
theorem dX12_spite_13 : decode cX12_spite 13 = .ok (.invokevirtual 196, 3) := by decide +kernel
theorem dX12_spite_16 : decode cX12_spite 16 = .ok (.ifCond .ne 8, 3) := by decide +kernel
theorem dX12_spite_19 : decode cX12_spite 19 = .ok (.aload_n 0, 1) := by decide +kernel
theorem dX12_spite_20 : decode cX12_spite 20 = .ok (.invokevirtual 230, 3) := by decide +kernel
theorem dX12_spite_23 : decode cX12_spite 23 = .ok (.ireturn, 1) := by decide +kernel
theorem dX12_spite_24 : decode cX12_spite 24 = .ok (.iconst 0, 1) := by decide +kernel
theorem dX12_spite_25 : decode cX12_spite 25 = .ok (.istore_n 2, 1) := by decide +kernel
theorem dX12_spite_26 : decode cX12_spite 26 = .ok (.iconst 0, 1) := by decide +kernel
theorem dX12_spite_27 : decode cX12_spite 27 = .ok (.istore_n 3, 1) := by decide +kernel
theorem dX12_spite_28 : decode cX12_spite 28 = .ok (.iload_n 3, 1) := by decide +kernel
theorem dX12_spite_29 : decode cX12_spite 29 = .ok (.iconst 4, 1) := by decide +kernel
theorem dX12_spite_30 : decode cX12_spite 30 = .ok (.if_icmp .ge 131, 3) := by decide +kernel
theorem dX12_spite_33 : decode cX12_spite 33 = .ok (.iload_n 3, 1) := by decide +kernel
theorem dX12_spite_34 : decode cX12_spite 34 = .ok (.iconst 2, 1) := by decide +kernel
theorem dX12_spite_35 : decode cX12_spite 35 = .ok (.irem, 1) := by decide +kernel
theorem dX12_spite_36 : decode cX12_spite 36 = .ok (.iconst 1, 1) := by decide +kernel
theorem dX12_spite_37 : decode cX12_spite 37 = .ok (.if_icmp .ne 7, 3) := by decide +kernel
theorem dX12_spite_40 : decode cX12_spite 40 = .ok (.iconst 1, 1) := by decide +kernel
theorem dX12_spite_41 : decode cX12_spite 41 = .ok (.goto 4, 3) := by decide +kernel
theorem dX12_spite_44 : decode cX12_spite 44 = .ok (.iconst 0, 1) := by decide +kernel
theorem dX12_spite_45 : decode cX12_spite 45 = .ok (.istore 4, 2) := by decide +kernel
theorem dX12_spite_47 : decode cX12_spite 47 = .ok (.iload_n 3, 1) := by decide +kernel
theorem dX12_spite_48 : decode cX12_spite 48 = .ok (.iconst 1, 1) := by decide +kernel
theorem dX12_spite_49 : decode cX12_spite 49 = .ok (.if_icmp .le 7, 3) := by decide +kernel
theorem dX12_spite_52 : decode cX12_spite 52 = .ok (.iconst 1, 1) := by decide +kernel
theorem dX12_spite_53 : decode cX12_spite 53 = .ok (.goto 4, 3) := by decide +kernel
theorem dX12_spite_56 : decode cX12_spite 56 = .ok (.iconst 0, 1) := by decide +kernel
theorem dX12_spite_57 : decode cX12_spite 57 = .ok (.istore 5, 2) := by decide +kernel
theorem dX12_spite_59 : decode cX12_spite 59 = .ok (.aload_n 0, 1) := by decide +kernel
theorem dX12_spite_60 : decode cX12_spite 60 = .ok (.aload_n 0, 1) := by decide +kernel
theorem dX12_spite_61 : decode cX12_spite 61 = .ok (.getfield 17, 3) := by decide +kernel
theorem dX12_spite_64 : decode cX12_spite 64 = .ok (.iload_n 1, 1) := by decide +kernel
theorem dX12_spite_65 : decode cX12_spite 65 = .ok (.iload 4, 2) := by decide +kernel
theorem dX12_spite_67 : decode cX12_spite 67 = .ok (.iload 5, 2) := by decide +kernel
theorem dX12_spite_69 : decode cX12_spite 69 = .ok (.invokevirtual 276, 3) := by decide +kernel
theorem dX12_spite_72 : decode cX12_spite 72 = .ok (.aload_n 0, 1) := by decide +kernel
theorem dX12_spite_73 : decode cX12_spite 73 = .ok (.aload_n 0, 1) := by decide +kernel
theorem dX12_spite_74 : decode cX12_spite 74 = .ok (.getfield 17, 3) := by decide +kernel
theorem dX12_spite_77 : decode cX12_spite 77 = .ok (.iload_n 1, 1) := by decide +kernel
theorem dX12_spite_78 : decode cX12_spite 78 = .ok (.iload 4, 2) := by decide +kernel
theorem dX12_spite_80 : decode cX12_spite 80 = .ok (.ifCond .ne 7, 3) := by decide +kernel
theorem dX12_spite_83 : decode cX12_spite 83 = .ok (.iconst 1, 1) := by decide +kernel
theorem dX12_spite_84 : decode cX12_spite 84 = .ok (.goto 4, 3) := by decide +kernel
theorem dX12_spite_87 : decode cX12_spite 87 = .ok (.iconst 0, 1) := by decide +kernel
theorem dX12_spite_88 : decode cX12_spite 88 = .ok (.iload 5, 2) := by decide +kernel
theorem dX12_spite_90 : decode cX12_spite 90 = .ok (.invokevirtual 276, 3) := by decide +kernel
theorem dX12_spite_93 : decode cX12_spite 93 = .ok (.if_icmp .lt 44, 3) := by decide +kernel
theorem dX12_spite_96 : decode cX12_spite 96 = .ok (.aload_n 0, 1) := by decide +kernel
theorem dX12_spite_97 : decode cX12_spite 97 = .ok (.aload_n 0, 1) := by decide +kernel
theorem dX12_spite_98 : decode cX12_spite 98 = .ok (.getfield 20, 3) := by decide +kernel
theorem dX12_spite_101 : decode cX12_spite 101 = .ok (.iload_n 1, 1) := by decide +kernel
theorem dX12_spite_102 : decode cX12_spite 102 = .ok (.iload 5, 2) := by decide +kernel
theorem dX12_spite_104 : decode cX12_spite 104 = .ok (.iload 4, 2) := by decide +kernel
theorem dX12_spite_106 : decode cX12_spite 106 = .ok (.invokevirtual 276, 3) := by decide +kernel
theorem dX12_spite_109 : decode cX12_spite 109 = .ok (.aload_n 0, 1) := by decide +kernel
theorem dX12_spite_110 : decode cX12_spite 110 = .ok (.aload_n 0, 1) := by decide +kernel
theorem dX12_spite_111 : decode cX12_spite 111 = .ok (.getfield 20, 3) := by decide +kernel
theorem dX12_spite_114 : decode cX12_spite 114 = .ok (.iload_n 1, 1) := by decide +kernel
theorem dX12_spite_115 : decode cX12_spite 115 = .ok (.iload 5, 2) := by decide +kernel
theorem dX12_spite_117 : decode cX12_spite 117 = .ok (.ifCond .ne 7, 3) := by decide +kernel
theorem dX12_spite_120 : decode cX12_spite 120 = .ok (.iconst 1, 1) := by decide +kernel
theorem dX12_spite_121 : decode cX12_spite 121 = .ok (.goto 4, 3) := by decide +kernel
theorem dX12_spite_124 : decode cX12_spite 124 = .ok (.iconst 0, 1) := by decide +kernel
theorem dX12_spite_125 : decode cX12_spite 125 = .ok (.iload 4, 2) := by decide +kernel
theorem dX12_spite_127 : decode cX12_spite 127 = .ok (.invokevirtual 276, 3) := by decide +kernel
theorem dX12_spite_130 : decode cX12_spite 130 = .ok (.if_icmp .lt 7, 3) := by decide +kernel
theorem dX12_spite_133 : decode cX12_spite 133 = .ok (.iconst 1, 1) := by decide +kernel
theorem dX12_spite_134 : decode cX12_spite 134 = .ok (.goto 4, 3) := by decide +kernel
theorem dX12_spite_137 : decode cX12_spite 137 = .ok (.iconst 0, 1) := by decide +kernel
theorem dX12_spite_138 : decode cX12_spite 138 = .ok (.istore 6, 2) := by decide +kernel
theorem dX12_spite_140 : decode cX12_spite 140 = .ok (.iload_n 2, 1) := by decide +kernel
theorem dX12_spite_141 : decode cX12_spite 141 = .ok (.iload 6, 2) := by decide +kernel
theorem dX12_spite_143 : decode cX12_spite 143 = .ok (.ifCond .eq 9, 3) := by decide +kernel
theorem dX12_spite_146 : decode cX12_spite 146 = .ok (.iconst 1, 1) := by decide +kernel
theorem dX12_spite_147 : decode cX12_spite 147 = .ok (.iload_n 3, 1) := by decide +kernel
theorem dX12_spite_148 : decode cX12_spite 148 = .ok (.ishl, 1) := by decide +kernel
theorem dX12_spite_149 : decode cX12_spite 149 = .ok (.goto 4, 3) := by decide +kernel
theorem dX12_spite_152 : decode cX12_spite 152 = .ok (.iconst 0, 1) := by decide +kernel
theorem dX12_spite_153 : decode cX12_spite 153 = .ok (.ior, 1) := by decide +kernel
theorem dX12_spite_154 : decode cX12_spite 154 = .ok (.istore_n 2, 1) := by decide +kernel
theorem dX12_spite_155 : decode cX12_spite 155 = .ok (.iinc 3 1, 3) := by decide +kernel
theorem dX12_spite_158 : decode cX12_spite 158 = .ok (.goto (-130), 3) := by decide +kernel
theorem dX12_spite_161 : decode cX12_spite 161 = .ok (.iload_n 2, 1) := by decide +kernel
theorem dX12_spite_162 : decode cX12_spite 162 = .ok (.ireturn, 1) := by decide +kernel
theorem dX12_lay_0 : decode cX12_lay 0 = .ok (.lload_n 1, 1) := by decide +kernel
theorem dX12_lay_1 : decode cX12_lay 1 = .ok (.lstore 5, 2) := by decide +kernel
theorem dX12_lay_3 : decode cX12_lay 3 = .ok (.lload_n 3, 1) := by decide +kernel
theorem dX12_lay_4 : decode cX12_lay 4 = .ok (.lstore 7, 2) := by decide +kernel
theorem dX12_lay_6 : decode cX12_lay 6 = .ok (.lload 7, 2) := by decide +kernel
theorem dX12_lay_8 : decode cX12_lay 8 = .ok (.lconst 0, 1) := by decide +kernel
theorem dX12_lay_9 : decode cX12_lay 9 = .ok (.lcmp, 1) := by decide +kernel
theorem dX12_lay_10 : decode cX12_lay 10 = .ok (.ifCond .eq 21, 3) := by decide +kernel
theorem dX12_lay_13 : decode cX12_lay 13 = .ok (.lload 5, 2) := by decide +kernel
theorem dX12_lay_15 : decode cX12_lay 15 = .ok (.lload 7, 2) := by decide +kernel
theorem dX12_lay_17 : decode cX12_lay 17 = .ok (.lrem, 1) := by decide +kernel
theorem dX12_lay_18 : decode cX12_lay 18 = .ok (.lstore 9, 2) := by decide +kernel
theorem dX12_lay_20 : decode cX12_lay 20 = .ok (.lload 7, 2) := by decide +kernel
theorem dX12_lay_22 : decode cX12_lay 22 = .ok (.lstore 5, 2) := by decide +kernel
theorem dX12_lay_24 : decode cX12_lay 24 = .ok (.lload 9, 2) := by decide +kernel
theorem dX12_lay_26 : decode cX12_lay 26 = .ok (.lstore 7, 2) := by decide +kernel
theorem dX12_lay_28 : decode cX12_lay 28 = .ok (.goto (-22), 3) := by decide +kernel
theorem dX12_lay_31 : decode cX12_lay 31 = .ok (.aload_n 0, 1) := by decide +kernel
theorem dX12_lay_32 : decode cX12_lay 32 = .ok (.lload_n 1, 1) := by decide +kernel
theorem dX12_lay_33 : decode cX12_lay 33 = .ok (.lload 5, 2) := by decide +kernel
theorem dX12_lay_35 : decode cX12_lay 35 = .ok (.ldiv, 1) := by decide +kernel
theorem dX12_lay_36 : decode cX12_lay 36 = .ok (.putfield 280, 3) := by decide +kernel
theorem dX12_lay_39 : decode cX12_lay 39 = .ok (.aload_n 0, 1) := by decide +kernel
theorem dX12_lay_40 : decode cX12_lay 40 = .ok (.lload_n 3, 1) := by decide +kernel
theorem dX12_lay_41 : decode cX12_lay 41 = .ok (.lload 5, 2) := by decide +kernel
theorem dX12_lay_43 : decode cX12_lay 43 = .ok (.ldiv, 1) := by decide +kernel
theorem dX12_lay_44 : decode cX12_lay 44 = .ok (.putfield 68, 3) := by decide +kernel
theorem dX12_lay_47 : decode cX12_lay 47 = .ok (.return_, 1) := by decide +kernel
theorem dX12_slips_0 : decode cX12_slips 0 = .ok (.iload_n 1, 1) := by decide +kernel
theorem dX12_slips_1 : decode cX12_slips 1 = .ok (.invokestatic 227, 3) := by decide +kernel
theorem dX12_slips_4 : decode cX12_slips 4 = .ok (.ifCond .eq 13, 3) := by decide +kernel
theorem dX12_slips_7 : decode cX12_slips 7 = .ok (.iload_n 2, 1) := by decide +kernel
theorem dX12_slips_8 : decode cX12_slips 8 = .ok (.iconst 0, 1) := by decide +kernel
theorem dX12_slips_9 : decode cX12_slips 9 = .ok (.bipush 10, 2) := by decide +kernel
theorem dX12_slips_11 : decode cX12_slips 11 = .ok (.invokestatic 97, 3) := by decide +kernel
theorem dX12_slips_14 : decode cX12_slips 14 = .ok (.ifCond .ne 8, 3) := by decide +kernel
theorem dX12_slips_17 : decode cX12_slips 17 = .ok (.aload_n 0, 1) := by decide +kernel
theorem dX12_slips_18 : decode cX12_slips 18 = .ok (.invokevirtual 101, 3) := by decide +kernel
theorem dX12_slips_21 : decode cX12_slips 21 = .ok (.ireturn, 1) := by decide +kernel
theorem dX12_slips_22 : decode cX12_slips 22 = .ok (.aload_n 0, 1) := by decide +kernel
theorem dX12_slips_23 : decode cX12_slips 23 = .ok (.invokevirtual 196, 3) := by decide +kernel
theorem dX12_slips_26 : decode cX12_slips 26 = .ok (.ifCond .ne 8, 3) := by decide +kernel
theorem dX12_slips_29 : decode cX12_slips 29 = .ok (.aload_n 0, 1) := by decide +kernel
theorem dX12_slips_30 : decode cX12_slips 30 = .ok (.invokevirtual 230, 3) := by decide +kernel
theorem dX12_slips_33 : decode cX12_slips 33 = .ok (.ireturn, 1) := by decide +kernel
theorem dX12_slips_34 : decode cX12_slips 34 = .ok (.aload_n 0, 1) := by decide +kernel
theorem dX12_slips_35 : decode cX12_slips 35 = .ok (.aload_n 0, 1) := by decide +kernel
theorem dX12_slips_36 : decode cX12_slips 36 = .ok (.getfield 17, 3) := by decide +kernel
theorem dX12_slips_39 : decode cX12_slips 39 = .ok (.iload_n 1, 1) := by decide +kernel
theorem dX12_slips_40 : decode cX12_slips 40 = .ok (.invokevirtual 208, 3) := by decide +kernel
theorem dX12_slips_43 : decode cX12_slips 43 = .ok (.ifCond .eq 10, 3) := by decide +kernel
theorem dX12_slips_46 : decode cX12_slips 46 = .ok (.bipush 10, 2) := by decide +kernel
theorem dX12_slips_48 : decode cX12_slips 48 = .ok (.iload_n 2, 1) := by decide +kernel
theorem dX12_slips_49 : decode cX12_slips 49 = .ok (.isub, 1) := by decide +kernel
theorem dX12_slips_50 : decode cX12_slips 50 = .ok (.goto 4, 3) := by decide +kernel
theorem dX12_slips_53 : decode cX12_slips 53 = .ok (.iload_n 2, 1) := by decide +kernel
theorem dX12_slips_54 : decode cX12_slips 54 = .ok (.istore_n 3, 1) := by decide +kernel
theorem dX12_slips_55 : decode cX12_slips 55 = .ok (.aload_n 0, 1) := by decide +kernel
theorem dX12_slips_56 : decode cX12_slips 56 = .ok (.aload_n 0, 1) := by decide +kernel
theorem dX12_slips_57 : decode cX12_slips 57 = .ok (.getfield 20, 3) := by decide +kernel
theorem dX12_slips_60 : decode cX12_slips 60 = .ok (.iload_n 1, 1) := by decide +kernel
theorem dX12_slips_61 : decode cX12_slips 61 = .ok (.invokevirtual 208, 3) := by decide +kernel
theorem dX12_slips_64 : decode cX12_slips 64 = .ok (.ifCond .eq 10, 3) := by decide +kernel
theorem dX12_slips_67 : decode cX12_slips 67 = .ok (.bipush 10, 2) := by decide +kernel
theorem dX12_slips_69 : decode cX12_slips 69 = .ok (.iload_n 2, 1) := by decide +kernel
theorem dX12_slips_70 : decode cX12_slips 70 = .ok (.isub, 1) := by decide +kernel
theorem dX12_slips_71 : decode cX12_slips 71 = .ok (.goto 4, 3) := by decide +kernel
theorem dX12_slips_74 : decode cX12_slips 74 = .ok (.iload_n 2, 1) := by decide +kernel
theorem dX12_slips_75 : decode cX12_slips 75 = .ok (.istore 4, 2) := by decide +kernel
theorem dX12_slips_77 : decode cX12_slips 77 = .ok (.aload_n 0, 1) := by decide +kernel
theorem dX12_slips_78 : decode cX12_slips 78 = .ok (.iload_n 3, 1) := by decide +kernel
theorem dX12_slips_79 : decode cX12_slips 79 = .ok (.iload 4, 2) := by decide +kernel
theorem dX12_slips_81 : decode cX12_slips 81 = .ok (.imul, 1) := by decide +kernel
theorem dX12_slips_82 : decode cX12_slips 82 = .ok (.i2l, 1) := by decide +kernel
theorem dX12_slips_83 : decode cX12_slips 83 = .ok (.ldc2_w 283, 3) := by decide +kernel
theorem dX12_slips_86 : decode cX12_slips 86 = .ok (.invokevirtual 285, 3) := by decide +kernel
theorem dX12_slips_89 : decode cX12_slips 89 = .ok (.iconst 1, 1) := by decide +kernel
theorem dX12_slips_90 : decode cX12_slips 90 = .ok (.ireturn, 1) := by decide +kernel
theorem dX12_reigns_0 : decode cX12_reigns 0 = .ok (.iload_n 1, 1) := by decide +kernel
theorem dX12_reigns_1 : decode cX12_reigns 1 = .ok (.iconst 0, 1) := by decide +kernel
theorem dX12_reigns_2 : decode cX12_reigns 2 = .ok (.ldc_w 289, 3) := by decide +kernel
theorem dX12_reigns_5 : decode cX12_reigns 5 = .ok (.invokestatic 97, 3) := by decide +kernel
theorem dX12_reigns_8 : decode cX12_reigns 8 = .ok (.ifCond .eq 13, 3) := by decide +kernel
theorem dX12_reigns_11 : decode cX12_reigns 11 = .ok (.iload_n 2, 1) := by decide +kernel
theorem dX12_reigns_12 : decode cX12_reigns 12 = .ok (.iconst 0, 1) := by decide +kernel
theorem dX12_reigns_13 : decode cX12_reigns 13 = .ok (.bipush 60, 2) := by decide +kernel
theorem dX12_reigns_15 : decode cX12_reigns 15 = .ok (.invokestatic 97, 3) := by decide +kernel
theorem dX12_reigns_18 : decode cX12_reigns 18 = .ok (.ifCond .ne 8, 3) := by decide +kernel
theorem dX12_reigns_21 : decode cX12_reigns 21 = .ok (.aload_n 0, 1) := by decide +kernel
theorem dX12_reigns_22 : decode cX12_reigns 22 = .ok (.invokevirtual 101, 3) := by decide +kernel
theorem dX12_reigns_25 : decode cX12_reigns 25 = .ok (.ireturn, 1) := by decide +kernel
theorem dX12_reigns_26 : decode cX12_reigns 26 = .ok (.aload_n 0, 1) := by decide +kernel
theorem dX12_reigns_27 : decode cX12_reigns 27 = .ok (.invokevirtual 196, 3) := by decide +kernel
theorem dX12_reigns_30 : decode cX12_reigns 30 = .ok (.ifCond .ne 8, 3) := by decide +kernel
theorem dX12_reigns_33 : decode cX12_reigns 33 = .ok (.aload_n 0, 1) := by decide +kernel
theorem dX12_reigns_34 : decode cX12_reigns 34 = .ok (.invokevirtual 230, 3) := by decide +kernel
theorem dX12_reigns_37 : decode cX12_reigns 37 = .ok (.ireturn, 1) := by decide +kernel
theorem dX12_reigns_38 : decode cX12_reigns 38 = .ok (.aload_n 0, 1) := by decide +kernel
theorem dX12_reigns_39 : decode cX12_reigns 39 = .ok (.invokevirtual 239, 3) := by decide +kernel
theorem dX12_reigns_42 : decode cX12_reigns 42 = .ok (.iload_n 1, 1) := by decide +kernel
theorem dX12_reigns_43 : decode cX12_reigns 43 = .ok (.i2l, 1) := by decide +kernel
theorem dX12_reigns_44 : decode cX12_reigns 44 = .ok (.lstore_n 3, 1) := by decide +kernel
theorem dX12_reigns_45 : decode cX12_reigns 45 = .ok (.iconst 0, 1) := by decide +kernel
theorem dX12_reigns_46 : decode cX12_reigns 46 = .ok (.istore 5, 2) := by decide +kernel
theorem dX12_reigns_48 : decode cX12_reigns 48 = .ok (.iload 5, 2) := by decide +kernel
theorem dX12_reigns_50 : decode cX12_reigns 50 = .ok (.iload_n 2, 1) := by decide +kernel
theorem dX12_reigns_51 : decode cX12_reigns 51 = .ok (.if_icmp .ge 58, 3) := by decide +kernel
theorem dX12_reigns_54 : decode cX12_reigns 54 = .ok (.lload_n 3, 1) := by decide +kernel
theorem dX12_reigns_55 : decode cX12_reigns 55 = .ok (.ldc2_w 290, 3) := by decide +kernel
theorem dX12_reigns_58 : decode cX12_reigns 58 = .ok (.lmul, 1) := by decide +kernel
theorem dX12_reigns_59 : decode cX12_reigns 59 = .ok (.ldc2_w 292, 3) := by decide +kernel
theorem dX12_reigns_62 : decode cX12_reigns 62 = .ok (.ladd, 1) := by decide +kernel
theorem dX12_reigns_63 : decode cX12_reigns 63 = .ok (.ldc2_w 294, 3) := by decide +kernel
theorem dX12_reigns_66 : decode cX12_reigns 66 = .ok (.lrem, 1) := by decide +kernel
theorem dX12_reigns_67 : decode cX12_reigns 67 = .ok (.lstore_n 3, 1) := by decide +kernel
theorem dX12_reigns_68 : decode cX12_reigns 68 = .ok (.lload_n 3, 1) := by decide +kernel
theorem dX12_reigns_69 : decode cX12_reigns 69 = .ok (.ldc2_w 296, 3) := by decide +kernel
theorem dX12_reigns_72 : decode cX12_reigns 72 = .ok (.ldiv, 1) := by decide +kernel
theorem dX12_reigns_73 : decode cX12_reigns 73 = .ok (.ldc2_w 298, 3) := by decide +kernel
theorem dX12_reigns_76 : decode cX12_reigns 76 = .ok (.lrem, 1) := by decide +kernel
theorem dX12_reigns_77 : decode cX12_reigns 77 = .ok (.l2i, 1) := by decide +kernel
theorem dX12_reigns_78 : decode cX12_reigns 78 = .ok (.istore 6, 2) := by decide +kernel
theorem dX12_reigns_80 : decode cX12_reigns 80 = .ok (.aload_n 0, 1) := by decide +kernel
theorem dX12_reigns_81 : decode cX12_reigns 81 = .ok (.getfield 88, 3) := by decide +kernel
theorem dX12_reigns_84 : decode cX12_reigns 84 = .ok (.iload 6, 2) := by decide +kernel
theorem dX12_reigns_86 : decode cX12_reigns 86 = .ok (.invokestatic 186, 3) := by decide +kernel
theorem dX12_reigns_89 : decode cX12_reigns 89 = .ok (.ifCond .ne 10, 3) := by decide +kernel
theorem dX12_reigns_92 : decode cX12_reigns 92 = .ok (.aload_n 0, 1) := by decide +kernel
theorem dX12_reigns_93 : decode cX12_reigns 93 = .ok (.iload 6, 2) := by decide +kernel
theorem dX12_reigns_95 : decode cX12_reigns 95 = .ok (.invokevirtual 233, 3) := by decide +kernel
theorem dX12_reigns_98 : decode cX12_reigns 98 = .ok (.pop, 1) := by decide +kernel
theorem dX12_reigns_99 : decode cX12_reigns 99 = .ok (.aload_n 0, 1) := by decide +kernel
theorem dX12_reigns_100 : decode cX12_reigns 100 = .ok (.invokevirtual 236, 3) := by decide +kernel
theorem dX12_reigns_103 : decode cX12_reigns 103 = .ok (.iinc 5 1, 3) := by decide +kernel
theorem dX12_reigns_106 : decode cX12_reigns 106 = .ok (.goto (-58), 3) := by decide +kernel
theorem dX12_reigns_109 : decode cX12_reigns 109 = .ok (.aload_n 0, 1) := by decide +kernel
theorem dX12_reigns_110 : decode cX12_reigns 110 = .ok (.getfield 88, 3) := by decide +kernel
theorem dX12_reigns_113 : decode cX12_reigns 113 = .ok (.invokestatic 251, 3) := by decide +kernel
theorem dX12_reigns_116 : decode cX12_reigns 116 = .ok (.istore 5, 2) := by decide +kernel
theorem dX12_reigns_118 : decode cX12_reigns 118 = .ok (.aload_n 0, 1) := by decide +kernel
theorem dX12_reigns_119 : decode cX12_reigns 119 = .ok (.invokevirtual 245, 3) := by decide +kernel
theorem dX12_reigns_122 : decode cX12_reigns 122 = .ok (.iload 5, 2) := by decide +kernel
theorem dX12_reigns_124 : decode cX12_reigns 124 = .ok (.ireturn, 1) := by decide +kernel
theorem dX12_part_0 : decode cX12_part 0 = .ok (.iload_n 1, 1) := by decide +kernel
theorem dX12_part_1 : decode cX12_part 1 = .ok (.ifCond .ne 10, 3) := by decide +kernel
theorem dX12_part_4 : decode cX12_part 4 = .ok (.aload_n 0, 1) := by decide +kernel
theorem dX12_part_5 : decode cX12_part 5 = .ok (.getfield 280, 3) := by decide +kernel
theorem dX12_part_8 : decode cX12_part 8 = .ok (.goto 20, 3) := by decide +kernel
theorem dX12_part_11 : decode cX12_part 11 = .ok (.iload_n 1, 1) := by decide +kernel
theorem dX12_part_12 : decode cX12_part 12 = .ok (.iconst 1, 1) := by decide +kernel
theorem dX12_part_13 : decode cX12_part 13 = .ok (.if_icmp .ne 10, 3) := by decide +kernel
theorem dX12_part_16 : decode cX12_part 16 = .ok (.aload_n 0, 1) := by decide +kernel
theorem dX12_part_17 : decode cX12_part 17 = .ok (.getfield 68, 3) := by decide +kernel
theorem dX12_part_20 : decode cX12_part 20 = .ok (.goto 8, 3) := by decide +kernel
theorem dX12_part_23 : decode cX12_part 23 = .ok (.aload_n 0, 1) := by decide +kernel
theorem dX12_part_24 : decode cX12_part 24 = .ok (.invokevirtual 101, 3) := by decide +kernel
theorem dX12_part_27 : decode cX12_part 27 = .ok (.i2l, 1) := by decide +kernel
theorem dX12_part_28 : decode cX12_part 28 = .ok (.lreturn, 1) := by decide +kernel
theorem dX12_image_0 : decode cX12_image 0 = .ok (.iload_n 1, 1) := by decide +kernel
theorem dX12_image_1 : decode cX12_image 1 = .ok (.iconst 0, 1) := by decide +kernel
theorem dX12_image_2 : decode cX12_image 2 = .ok (.iconst 1, 1) := by decide +kernel
theorem dX12_image_3 : decode cX12_image 3 = .ok (.invokestatic 97, 3) := by decide +kernel
theorem dX12_image_6 : decode cX12_image 6 = .ok (.ifCond .ne 8, 3) := by decide +kernel
theorem dX12_image_9 : decode cX12_image 9 = .ok (.aload_n 0, 1) := by decide +kernel
theorem dX12_image_10 : decode cX12_image 10 = .ok (.invokevirtual 101, 3) := by decide +kernel
theorem dX12_image_13 : decode cX12_image 13 = .ok (.ireturn, 1) := by decide +kernel
theorem dX12_image_14 : decode cX12_image 14 = .ok (.bipush 102, 2) := by decide +kernel
theorem dX12_image_16 : decode cX12_image 16 = .ok (.iload_n 1, 1) := by decide +kernel
theorem dX12_image_17 : decode cX12_image 17 = .ok (.imul, 1) := by decide +kernel
theorem dX12_image_18 : decode cX12_image 18 = .ok (.istore_n 2, 1) := by decide +kernel
theorem dX12_image_19 : decode cX12_image 19 = .ok (.aload_n 0, 1) := by decide +kernel
theorem dX12_image_20 : decode cX12_image 20 = .ok (.getfield 75, 3) := by decide +kernel
theorem dX12_image_23 : decode cX12_image 23 = .ok (.iload_n 1, 1) := by decide +kernel
theorem dX12_image_24 : decode cX12_image 24 = .ok (.iconst 1, 1) := by decide +kernel
theorem dX12_image_25 : decode cX12_image 25 = .ok (.iastore, 1) := by decide +kernel
theorem dX12_image_26 : decode cX12_image 26 = .ok (.aload_n 0, 1) := by decide +kernel
theorem dX12_image_27 : decode cX12_image 27 = .ok (.getfield 72, 3) := by decide +kernel
theorem dX12_image_30 : decode cX12_image 30 = .ok (.iload_n 2, 1) := by decide +kernel
theorem dX12_image_31 : decode cX12_image 31 = .ok (.aload_n 0, 1) := by decide +kernel
theorem dX12_image_32 : decode cX12_image 32 = .ok (.getfield 82, 3) := by decide +kernel
theorem dX12_image_35 : decode cX12_image 35 = .ok (.iastore, 1) := by decide +kernel
theorem dX12_image_36 : decode cX12_image 36 = .ok (.aload_n 0, 1) := by decide +kernel
theorem dX12_image_37 : decode cX12_image 37 = .ok (.getfield 72, 3) := by decide +kernel
theorem dX12_image_40 : decode cX12_image 40 = .ok (.iload_n 2, 1) := by decide +kernel
theorem dX12_image_41 : decode cX12_image 41 = .ok (.iconst 1, 1) := by decide +kernel
theorem dX12_image_42 : decode cX12_image 42 = .ok (.iadd, 1) := by decide +kernel
theorem dX12_image_43 : decode cX12_image 43 = .ok (.aload_n 0, 1) := by decide +kernel
theorem dX12_image_44 : decode cX12_image 44 = .ok (.getfield 91, 3) := by decide +kernel
theorem dX12_image_47 : decode cX12_image 47 = .ok (.iastore, 1) := by decide +kernel
theorem dX12_image_48 : decode cX12_image 48 = .ok (.aload_n 0, 1) := by decide +kernel
theorem dX12_image_49 : decode cX12_image 49 = .ok (.getfield 72, 3) := by decide +kernel
theorem dX12_image_52 : decode cX12_image 52 = .ok (.iload_n 2, 1) := by decide +kernel
theorem dX12_image_53 : decode cX12_image 53 = .ok (.iconst 2, 1) := by decide +kernel
theorem dX12_image_54 : decode cX12_image 54 = .ok (.iadd, 1) := by decide +kernel
theorem dX12_image_55 : decode cX12_image 55 = .ok (.aload_n 0, 1) := by decide +kernel
theorem dX12_image_56 : decode cX12_image 56 = .ok (.getfield 94, 3) := by decide +kernel
theorem dX12_image_59 : decode cX12_image 59 = .ok (.iastore, 1) := by decide +kernel
theorem dX12_image_60 : decode cX12_image 60 = .ok (.aload_n 0, 1) := by decide +kernel
theorem dX12_image_61 : decode cX12_image 61 = .ok (.aload_n 0, 1) := by decide +kernel
theorem dX12_image_62 : decode cX12_image 62 = .ok (.getfield 72, 3) := by decide +kernel
theorem dX12_image_65 : decode cX12_image 65 = .ok (.iload_n 2, 1) := by decide +kernel
theorem dX12_image_66 : decode cX12_image 66 = .ok (.iconst 3, 1) := by decide +kernel
theorem dX12_image_67 : decode cX12_image 67 = .ok (.iadd, 1) := by decide +kernel
theorem dX12_image_68 : decode cX12_image 68 = .ok (.invokevirtual 214, 3) := by decide +kernel
theorem dX12_image_71 : decode cX12_image 71 = .ok (.iconst 0, 1) := by decide +kernel
theorem dX12_image_72 : decode cX12_image 72 = .ok (.istore_n 3, 1) := by decide +kernel
theorem dX12_image_73 : decode cX12_image 73 = .ok (.iload_n 3, 1) := by decide +kernel
theorem dX12_image_74 : decode cX12_image 74 = .ok (.bipush 6, 2) := by decide +kernel
theorem dX12_image_76 : decode cX12_image 76 = .ok (.if_icmp .ge 162, 3) := by decide +kernel
theorem dX12_image_79 : decode cX12_image 79 = .ok (.aload_n 0, 1) := by decide +kernel
theorem dX12_image_80 : decode cX12_image 80 = .ok (.getfield 72, 3) := by decide +kernel
theorem dX12_image_83 : decode cX12_image 83 = .ok (.iload_n 2, 1) := by decide +kernel
theorem dX12_image_84 : decode cX12_image 84 = .ok (.bipush 8, 2) := by decide +kernel
theorem dX12_image_86 : decode cX12_image 86 = .ok (.iadd, 1) := by decide +kernel
theorem dX12_image_87 : decode cX12_image 87 = .ok (.iload_n 3, 1) := by decide +kernel
theorem dX12_image_88 : decode cX12_image 88 = .ok (.iadd, 1) := by decide +kernel
theorem dX12_image_89 : decode cX12_image 89 = .ok (.aload_n 0, 1) := by decide +kernel
theorem dX12_image_90 : decode cX12_image 90 = .ok (.getfield 23, 3) := by decide +kernel
theorem dX12_image_93 : decode cX12_image 93 = .ok (.iload_n 3, 1) := by decide +kernel
theorem dX12_image_94 : decode cX12_image 94 = .ok (.iaload, 1) := by decide +kernel
theorem dX12_image_95 : decode cX12_image 95 = .ok (.iastore, 1) := by decide +kernel
theorem dX12_image_96 : decode cX12_image 96 = .ok (.aload_n 0, 1) := by decide +kernel
theorem dX12_image_97 : decode cX12_image 97 = .ok (.getfield 72, 3) := by decide +kernel
theorem dX12_image_100 : decode cX12_image 100 = .ok (.iload_n 2, 1) := by decide +kernel
theorem dX12_image_101 : decode cX12_image 101 = .ok (.bipush 14, 2) := by decide +kernel
theorem dX12_image_103 : decode cX12_image 103 = .ok (.iadd, 1) := by decide +kernel
theorem dX12_image_104 : decode cX12_image 104 = .ok (.iload_n 3, 1) := by decide +kernel
theorem dX12_image_105 : decode cX12_image 105 = .ok (.iadd, 1) := by decide +kernel
theorem dX12_image_106 : decode cX12_image 106 = .ok (.aload_n 0, 1) := by decide +kernel
theorem dX12_image_107 : decode cX12_image 107 = .ok (.getfield 26, 3) := by decide +kernel
theorem dX12_image_110 : decode cX12_image 110 = .ok (.iload_n 3, 1) := by decide +kernel
theorem dX12_image_111 : decode cX12_image 111 = .ok (.iaload, 1) := by decide +kernel
theorem dX12_image_112 : decode cX12_image 112 = .ok (.iastore, 1) := by decide +kernel
theorem dX12_image_113 : decode cX12_image 113 = .ok (.aload_n 0, 1) := by decide +kernel
theorem dX12_image_114 : decode cX12_image 114 = .ok (.getfield 72, 3) := by decide +kernel
theorem dX12_image_117 : decode cX12_image 117 = .ok (.iload_n 2, 1) := by decide +kernel
theorem dX12_image_118 : decode cX12_image 118 = .ok (.bipush 20, 2) := by decide +kernel
theorem dX12_image_120 : decode cX12_image 120 = .ok (.iadd, 1) := by decide +kernel
theorem dX12_image_121 : decode cX12_image 121 = .ok (.iload_n 3, 1) := by decide +kernel
theorem dX12_image_122 : decode cX12_image 122 = .ok (.iadd, 1) := by decide +kernel
theorem dX12_image_123 : decode cX12_image 123 = .ok (.aload_n 0, 1) := by decide +kernel
theorem dX12_image_124 : decode cX12_image 124 = .ok (.getfield 29, 3) := by decide +kernel
theorem dX12_image_127 : decode cX12_image 127 = .ok (.iload_n 3, 1) := by decide +kernel
theorem dX12_image_128 : decode cX12_image 128 = .ok (.iaload, 1) := by decide +kernel
theorem dX12_image_129 : decode cX12_image 129 = .ok (.iastore, 1) := by decide +kernel
theorem dX12_image_130 : decode cX12_image 130 = .ok (.aload_n 0, 1) := by decide +kernel
theorem dX12_image_131 : decode cX12_image 131 = .ok (.getfield 72, 3) := by decide +kernel
theorem dX12_image_134 : decode cX12_image 134 = .ok (.iload_n 2, 1) := by decide +kernel
theorem dX12_image_135 : decode cX12_image 135 = .ok (.bipush 26, 2) := by decide +kernel
theorem dX12_image_137 : decode cX12_image 137 = .ok (.iadd, 1) := by decide +kernel
theorem dX12_image_138 : decode cX12_image 138 = .ok (.iload_n 3, 1) := by decide +kernel
theorem dX12_image_139 : decode cX12_image 139 = .ok (.iadd, 1) := by decide +kernel
theorem dX12_image_140 : decode cX12_image 140 = .ok (.aload_n 0, 1) := by decide +kernel
theorem dX12_image_141 : decode cX12_image 141 = .ok (.getfield 32, 3) := by decide +kernel
theorem dX12_image_144 : decode cX12_image 144 = .ok (.iload_n 3, 1) := by decide +kernel
theorem dX12_image_145 : decode cX12_image 145 = .ok (.iaload, 1) := by decide +kernel
theorem dX12_image_146 : decode cX12_image 146 = .ok (.iastore, 1) := by decide +kernel
theorem dX12_image_147 : decode cX12_image 147 = .ok (.aload_n 0, 1) := by decide +kernel
theorem dX12_image_148 : decode cX12_image 148 = .ok (.getfield 72, 3) := by decide +kernel
theorem dX12_image_151 : decode cX12_image 151 = .ok (.iload_n 2, 1) := by decide +kernel
theorem dX12_image_152 : decode cX12_image 152 = .ok (.bipush 32, 2) := by decide +kernel
theorem dX12_image_154 : decode cX12_image 154 = .ok (.iadd, 1) := by decide +kernel
theorem dX12_image_155 : decode cX12_image 155 = .ok (.iload_n 3, 1) := by decide +kernel
theorem dX12_image_156 : decode cX12_image 156 = .ok (.iadd, 1) := by decide +kernel
theorem dX12_image_157 : decode cX12_image 157 = .ok (.aload_n 0, 1) := by decide +kernel
theorem dX12_image_158 : decode cX12_image 158 = .ok (.getfield 35, 3) := by decide +kernel
theorem dX12_image_161 : decode cX12_image 161 = .ok (.iload_n 3, 1) := by decide +kernel
theorem dX12_image_162 : decode cX12_image 162 = .ok (.iaload, 1) := by decide +kernel
theorem dX12_image_163 : decode cX12_image 163 = .ok (.iastore, 1) := by decide +kernel
theorem dX12_image_164 : decode cX12_image 164 = .ok (.aload_n 0, 1) := by decide +kernel
theorem dX12_image_165 : decode cX12_image 165 = .ok (.getfield 72, 3) := by decide +kernel
theorem dX12_image_168 : decode cX12_image 168 = .ok (.iload_n 2, 1) := by decide +kernel
theorem dX12_image_169 : decode cX12_image 169 = .ok (.bipush 38, 2) := by decide +kernel
theorem dX12_image_171 : decode cX12_image 171 = .ok (.iadd, 1) := by decide +kernel
theorem dX12_image_172 : decode cX12_image 172 = .ok (.iload_n 3, 1) := by decide +kernel
theorem dX12_image_173 : decode cX12_image 173 = .ok (.iadd, 1) := by decide +kernel
theorem dX12_image_174 : decode cX12_image 174 = .ok (.aload_n 0, 1) := by decide +kernel
theorem dX12_image_175 : decode cX12_image 175 = .ok (.getfield 38, 3) := by decide +kernel
theorem dX12_image_178 : decode cX12_image 178 = .ok (.iload_n 3, 1) := by decide +kernel
theorem dX12_image_179 : decode cX12_image 179 = .ok (.iaload, 1) := by decide +kernel
theorem dX12_image_180 : decode cX12_image 180 = .ok (.iastore, 1) := by decide +kernel
theorem dX12_image_181 : decode cX12_image 181 = .ok (.aload_n 0, 1) := by decide +kernel
theorem dX12_image_182 : decode cX12_image 182 = .ok (.getfield 72, 3) := by decide +kernel
theorem dX12_image_185 : decode cX12_image 185 = .ok (.iload_n 2, 1) := by decide +kernel
theorem dX12_image_186 : decode cX12_image 186 = .ok (.bipush 44, 2) := by decide +kernel
theorem dX12_image_188 : decode cX12_image 188 = .ok (.iadd, 1) := by decide +kernel
theorem dX12_image_189 : decode cX12_image 189 = .ok (.iload_n 3, 1) := by decide +kernel
theorem dX12_image_190 : decode cX12_image 190 = .ok (.iadd, 1) := by decide +kernel
theorem dX12_image_191 : decode cX12_image 191 = .ok (.aload_n 0, 1) := by decide +kernel
theorem dX12_image_192 : decode cX12_image 192 = .ok (.getfield 41, 3) := by decide +kernel
theorem dX12_image_195 : decode cX12_image 195 = .ok (.iload_n 3, 1) := by decide +kernel
theorem dX12_image_196 : decode cX12_image 196 = .ok (.iaload, 1) := by decide +kernel
theorem dX12_image_197 : decode cX12_image 197 = .ok (.iastore, 1) := by decide +kernel
theorem dX12_image_198 : decode cX12_image 198 = .ok (.aload_n 0, 1) := by decide +kernel
theorem dX12_image_199 : decode cX12_image 199 = .ok (.getfield 72, 3) := by decide +kernel
theorem dX12_image_202 : decode cX12_image 202 = .ok (.iload_n 2, 1) := by decide +kernel
theorem dX12_image_203 : decode cX12_image 203 = .ok (.bipush 50, 2) := by decide +kernel
theorem dX12_image_205 : decode cX12_image 205 = .ok (.iadd, 1) := by decide +kernel
theorem dX12_image_206 : decode cX12_image 206 = .ok (.iload_n 3, 1) := by decide +kernel
theorem dX12_image_207 : decode cX12_image 207 = .ok (.iadd, 1) := by decide +kernel
theorem dX12_image_208 : decode cX12_image 208 = .ok (.aload_n 0, 1) := by decide +kernel
theorem dX12_image_209 : decode cX12_image 209 = .ok (.getfield 44, 3) := by decide +kernel
theorem dX12_image_212 : decode cX12_image 212 = .ok (.iload_n 3, 1) := by decide +kernel
theorem dX12_image_213 : decode cX12_image 213 = .ok (.iaload, 1) := by decide +kernel
theorem dX12_image_214 : decode cX12_image 214 = .ok (.iastore, 1) := by decide +kernel
theorem dX12_image_215 : decode cX12_image 215 = .ok (.aload_n 0, 1) := by decide +kernel
theorem dX12_image_216 : decode cX12_image 216 = .ok (.getfield 72, 3) := by decide +kernel
theorem dX12_image_219 : decode cX12_image 219 = .ok (.iload_n 2, 1) := by decide +kernel
theorem dX12_image_220 : decode cX12_image 220 = .ok (.bipush 56, 2) := by decide +kernel
theorem dX12_image_222 : decode cX12_image 222 = .ok (.iadd, 1) := by decide +kernel
theorem dX12_image_223 : decode cX12_image 223 = .ok (.iload_n 3, 1) := by decide +kernel
theorem dX12_image_224 : decode cX12_image 224 = .ok (.iadd, 1) := by decide +kernel
theorem dX12_image_225 : decode cX12_image 225 = .ok (.aload_n 0, 1) := by decide +kernel
theorem dX12_image_226 : decode cX12_image 226 = .ok (.getfield 47, 3) := by decide +kernel
theorem dX12_image_229 : decode cX12_image 229 = .ok (.iload_n 3, 1) := by decide +kernel
theorem dX12_image_230 : decode cX12_image 230 = .ok (.iaload, 1) := by decide +kernel
theorem dX12_image_231 : decode cX12_image 231 = .ok (.iastore, 1) := by decide +kernel
theorem dX12_image_232 : decode cX12_image 232 = .ok (.iinc 3 1, 3) := by decide +kernel
theorem dX12_image_235 : decode cX12_image 235 = .ok (.goto (-162), 3) := by decide +kernel
theorem dX12_image_238 : decode cX12_image 238 = .ok (.iconst 0, 1) := by decide +kernel
theorem dX12_image_239 : decode cX12_image 239 = .ok (.istore_n 3, 1) := by decide +kernel
theorem dX12_image_240 : decode cX12_image 240 = .ok (.iload_n 3, 1) := by decide +kernel
theorem dX12_image_241 : decode cX12_image 241 = .ok (.bipush 40, 2) := by decide +kernel
theorem dX12_image_243 : decode cX12_image 243 = .ok (.if_icmp .ge 26, 3) := by decide +kernel
theorem dX12_image_246 : decode cX12_image 246 = .ok (.aload_n 0, 1) := by decide +kernel
theorem dX12_image_247 : decode cX12_image 247 = .ok (.getfield 72, 3) := by decide +kernel
theorem dX12_image_250 : decode cX12_image 250 = .ok (.iload_n 2, 1) := by decide +kernel
theorem dX12_image_251 : decode cX12_image 251 = .ok (.bipush 62, 2) := by decide +kernel
theorem dX12_image_253 : decode cX12_image 253 = .ok (.iadd, 1) := by decide +kernel
theorem dX12_image_254 : decode cX12_image 254 = .ok (.iload_n 3, 1) := by decide +kernel
theorem dX12_image_255 : decode cX12_image 255 = .ok (.iadd, 1) := by decide +kernel
theorem dX12_image_256 : decode cX12_image 256 = .ok (.aload_n 0, 1) := by decide +kernel
theorem dX12_image_257 : decode cX12_image 257 = .ok (.getfield 56, 3) := by decide +kernel
theorem dX12_image_260 : decode cX12_image 260 = .ok (.iload_n 3, 1) := by decide +kernel
theorem dX12_image_261 : decode cX12_image 261 = .ok (.iaload, 1) := by decide +kernel
theorem dX12_image_262 : decode cX12_image 262 = .ok (.iastore, 1) := by decide +kernel
theorem dX12_image_263 : decode cX12_image 263 = .ok (.iinc 3 1, 3) := by decide +kernel
theorem dX12_image_266 : decode cX12_image 266 = .ok (.goto (-26), 3) := by decide +kernel
theorem dX12_image_269 : decode cX12_image 269 = .ok (.iconst 1, 1) := by decide +kernel
theorem dX12_image_270 : decode cX12_image 270 = .ok (.ireturn, 1) := by decide +kernel
theorem dX12_from_0 : decode cX12_from 0 = .ok (.iload_n 1, 1) := by decide +kernel
theorem dX12_from_1 : decode cX12_from 1 = .ok (.iconst 0, 1) := by decide +kernel
theorem dX12_from_2 : decode cX12_from 2 = .ok (.iconst 1, 1) := by decide +kernel
theorem dX12_from_3 : decode cX12_from 3 = .ok (.invokestatic 97, 3) := by decide +kernel
theorem dX12_from_6 : decode cX12_from 6 = .ok (.ifCond .ne 8, 3) := by decide +kernel
theorem dX12_from_9 : decode cX12_from 9 = .ok (.aload_n 0, 1) := by decide +kernel
theorem dX12_from_10 : decode cX12_from 10 = .ok (.invokevirtual 101, 3) := by decide +kernel
theorem dX12_from_13 : decode cX12_from 13 = .ok (.ireturn, 1) := by decide +kernel
theorem dX12_from_14 : decode cX12_from 14 = .ok (.aload_n 0, 1) := by decide +kernel
theorem dX12_from_15 : decode cX12_from 15 = .ok (.getfield 75, 3) := by decide +kernel
theorem dX12_from_18 : decode cX12_from 18 = .ok (.iload_n 1, 1) := by decide +kernel
theorem dX12_from_19 : decode cX12_from 19 = .ok (.iaload, 1) := by decide +kernel
theorem dX12_from_20 : decode cX12_from 20 = .ok (.ifCond .ne 8, 3) := by decide +kernel
theorem dX12_from_23 : decode cX12_from 23 = .ok (.aload_n 0, 1) := by decide +kernel
theorem dX12_from_24 : decode cX12_from 24 = .ok (.invokevirtual 230, 3) := by decide +kernel
theorem dX12_from_27 : decode cX12_from 27 = .ok (.ireturn, 1) := by decide +kernel
theorem dX12_from_28 : decode cX12_from 28 = .ok (.bipush 102, 2) := by decide +kernel
theorem dX12_from_30 : decode cX12_from 30 = .ok (.iload_n 1, 1) := by decide +kernel
theorem dX12_from_31 : decode cX12_from 31 = .ok (.imul, 1) := by decide +kernel
theorem dX12_from_32 : decode cX12_from 32 = .ok (.istore_n 2, 1) := by decide +kernel
theorem dX12_from_33 : decode cX12_from 33 = .ok (.aload_n 0, 1) := by decide +kernel
theorem dX12_from_34 : decode cX12_from 34 = .ok (.aload_n 0, 1) := by decide +kernel
theorem dX12_from_35 : decode cX12_from 35 = .ok (.getfield 72, 3) := by decide +kernel
theorem dX12_from_38 : decode cX12_from 38 = .ok (.iload_n 2, 1) := by decide +kernel
theorem dX12_from_39 : decode cX12_from 39 = .ok (.iaload, 1) := by decide +kernel
theorem dX12_from_40 : decode cX12_from 40 = .ok (.putfield 82, 3) := by decide +kernel
theorem dX12_from_43 : decode cX12_from 43 = .ok (.aload_n 0, 1) := by decide +kernel
theorem dX12_from_44 : decode cX12_from 44 = .ok (.aload_n 0, 1) := by decide +kernel
theorem dX12_from_45 : decode cX12_from 45 = .ok (.getfield 72, 3) := by decide +kernel
theorem dX12_from_48 : decode cX12_from 48 = .ok (.iload_n 2, 1) := by decide +kernel
theorem dX12_from_49 : decode cX12_from 49 = .ok (.iconst 1, 1) := by decide +kernel
theorem dX12_from_50 : decode cX12_from 50 = .ok (.iadd, 1) := by decide +kernel
theorem dX12_from_51 : decode cX12_from 51 = .ok (.iaload, 1) := by decide +kernel
theorem dX12_from_52 : decode cX12_from 52 = .ok (.putfield 91, 3) := by decide +kernel
theorem dX12_from_55 : decode cX12_from 55 = .ok (.aload_n 0, 1) := by decide +kernel
theorem dX12_from_56 : decode cX12_from 56 = .ok (.aload_n 0, 1) := by decide +kernel
theorem dX12_from_57 : decode cX12_from 57 = .ok (.getfield 72, 3) := by decide +kernel
theorem dX12_from_60 : decode cX12_from 60 = .ok (.iload_n 2, 1) := by decide +kernel
theorem dX12_from_61 : decode cX12_from 61 = .ok (.iconst 2, 1) := by decide +kernel
theorem dX12_from_62 : decode cX12_from 62 = .ok (.iadd, 1) := by decide +kernel
theorem dX12_from_63 : decode cX12_from 63 = .ok (.iaload, 1) := by decide +kernel
theorem dX12_from_64 : decode cX12_from 64 = .ok (.putfield 94, 3) := by decide +kernel
theorem dX12_from_67 : decode cX12_from 67 = .ok (.aload_n 0, 1) := by decide +kernel
theorem dX12_from_68 : decode cX12_from 68 = .ok (.aload_n 0, 1) := by decide +kernel
theorem dX12_from_69 : decode cX12_from 69 = .ok (.getfield 72, 3) := by decide +kernel
theorem dX12_from_72 : decode cX12_from 72 = .ok (.iload_n 2, 1) := by decide +kernel
theorem dX12_from_73 : decode cX12_from 73 = .ok (.iconst 3, 1) := by decide +kernel
theorem dX12_from_74 : decode cX12_from 74 = .ok (.iadd, 1) := by decide +kernel
theorem dX12_from_75 : decode cX12_from 75 = .ok (.invokevirtual 218, 3) := by decide +kernel
theorem dX12_from_78 : decode cX12_from 78 = .ok (.iconst 0, 1) := by decide +kernel
theorem dX12_from_79 : decode cX12_from 79 = .ok (.istore_n 3, 1) := by decide +kernel
theorem dX12_from_80 : decode cX12_from 80 = .ok (.iload_n 3, 1) := by decide +kernel
theorem dX12_from_81 : decode cX12_from 81 = .ok (.bipush 6, 2) := by decide +kernel
theorem dX12_from_83 : decode cX12_from 83 = .ok (.if_icmp .ge 162, 3) := by decide +kernel
theorem dX12_from_86 : decode cX12_from 86 = .ok (.aload_n 0, 1) := by decide +kernel
theorem dX12_from_87 : decode cX12_from 87 = .ok (.getfield 23, 3) := by decide +kernel
theorem dX12_from_90 : decode cX12_from 90 = .ok (.iload_n 3, 1) := by decide +kernel
theorem dX12_from_91 : decode cX12_from 91 = .ok (.aload_n 0, 1) := by decide +kernel
theorem dX12_from_92 : decode cX12_from 92 = .ok (.getfield 72, 3) := by decide +kernel
theorem dX12_from_95 : decode cX12_from 95 = .ok (.iload_n 2, 1) := by decide +kernel
theorem dX12_from_96 : decode cX12_from 96 = .ok (.bipush 8, 2) := by decide +kernel
theorem dX12_from_98 : decode cX12_from 98 = .ok (.iadd, 1) := by decide +kernel
theorem dX12_from_99 : decode cX12_from 99 = .ok (.iload_n 3, 1) := by decide +kernel
theorem dX12_from_100 : decode cX12_from 100 = .ok (.iadd, 1) := by decide +kernel
theorem dX12_from_101 : decode cX12_from 101 = .ok (.iaload, 1) := by decide +kernel
theorem dX12_from_102 : decode cX12_from 102 = .ok (.iastore, 1) := by decide +kernel
theorem dX12_from_103 : decode cX12_from 103 = .ok (.aload_n 0, 1) := by decide +kernel
theorem dX12_from_104 : decode cX12_from 104 = .ok (.getfield 26, 3) := by decide +kernel
theorem dX12_from_107 : decode cX12_from 107 = .ok (.iload_n 3, 1) := by decide +kernel
theorem dX12_from_108 : decode cX12_from 108 = .ok (.aload_n 0, 1) := by decide +kernel
theorem dX12_from_109 : decode cX12_from 109 = .ok (.getfield 72, 3) := by decide +kernel
theorem dX12_from_112 : decode cX12_from 112 = .ok (.iload_n 2, 1) := by decide +kernel
theorem dX12_from_113 : decode cX12_from 113 = .ok (.bipush 14, 2) := by decide +kernel
theorem dX12_from_115 : decode cX12_from 115 = .ok (.iadd, 1) := by decide +kernel
theorem dX12_from_116 : decode cX12_from 116 = .ok (.iload_n 3, 1) := by decide +kernel
theorem dX12_from_117 : decode cX12_from 117 = .ok (.iadd, 1) := by decide +kernel
theorem dX12_from_118 : decode cX12_from 118 = .ok (.iaload, 1) := by decide +kernel
theorem dX12_from_119 : decode cX12_from 119 = .ok (.iastore, 1) := by decide +kernel
theorem dX12_from_120 : decode cX12_from 120 = .ok (.aload_n 0, 1) := by decide +kernel
theorem dX12_from_121 : decode cX12_from 121 = .ok (.getfield 29, 3) := by decide +kernel
theorem dX12_from_124 : decode cX12_from 124 = .ok (.iload_n 3, 1) := by decide +kernel
theorem dX12_from_125 : decode cX12_from 125 = .ok (.aload_n 0, 1) := by decide +kernel
theorem dX12_from_126 : decode cX12_from 126 = .ok (.getfield 72, 3) := by decide +kernel
theorem dX12_from_129 : decode cX12_from 129 = .ok (.iload_n 2, 1) := by decide +kernel
theorem dX12_from_130 : decode cX12_from 130 = .ok (.bipush 20, 2) := by decide +kernel
theorem dX12_from_132 : decode cX12_from 132 = .ok (.iadd, 1) := by decide +kernel
theorem dX12_from_133 : decode cX12_from 133 = .ok (.iload_n 3, 1) := by decide +kernel
theorem dX12_from_134 : decode cX12_from 134 = .ok (.iadd, 1) := by decide +kernel
theorem dX12_from_135 : decode cX12_from 135 = .ok (.iaload, 1) := by decide +kernel
theorem dX12_from_136 : decode cX12_from 136 = .ok (.iastore, 1) := by decide +kernel
theorem dX12_from_137 : decode cX12_from 137 = .ok (.aload_n 0, 1) := by decide +kernel
theorem dX12_from_138 : decode cX12_from 138 = .ok (.getfield 32, 3) := by decide +kernel
theorem dX12_from_141 : decode cX12_from 141 = .ok (.iload_n 3, 1) := by decide +kernel
theorem dX12_from_142 : decode cX12_from 142 = .ok (.aload_n 0, 1) := by decide +kernel
theorem dX12_from_143 : decode cX12_from 143 = .ok (.getfield 72, 3) := by decide +kernel
theorem dX12_from_146 : decode cX12_from 146 = .ok (.iload_n 2, 1) := by decide +kernel
theorem dX12_from_147 : decode cX12_from 147 = .ok (.bipush 26, 2) := by decide +kernel
theorem dX12_from_149 : decode cX12_from 149 = .ok (.iadd, 1) := by decide +kernel
theorem dX12_from_150 : decode cX12_from 150 = .ok (.iload_n 3, 1) := by decide +kernel
theorem dX12_from_151 : decode cX12_from 151 = .ok (.iadd, 1) := by decide +kernel
theorem dX12_from_152 : decode cX12_from 152 = .ok (.iaload, 1) := by decide +kernel
theorem dX12_from_153 : decode cX12_from 153 = .ok (.iastore, 1) := by decide +kernel
theorem dX12_from_154 : decode cX12_from 154 = .ok (.aload_n 0, 1) := by decide +kernel
theorem dX12_from_155 : decode cX12_from 155 = .ok (.getfield 35, 3) := by decide +kernel
theorem dX12_from_158 : decode cX12_from 158 = .ok (.iload_n 3, 1) := by decide +kernel
theorem dX12_from_159 : decode cX12_from 159 = .ok (.aload_n 0, 1) := by decide +kernel
theorem dX12_from_160 : decode cX12_from 160 = .ok (.getfield 72, 3) := by decide +kernel
theorem dX12_from_163 : decode cX12_from 163 = .ok (.iload_n 2, 1) := by decide +kernel
theorem dX12_from_164 : decode cX12_from 164 = .ok (.bipush 32, 2) := by decide +kernel
theorem dX12_from_166 : decode cX12_from 166 = .ok (.iadd, 1) := by decide +kernel
theorem dX12_from_167 : decode cX12_from 167 = .ok (.iload_n 3, 1) := by decide +kernel
theorem dX12_from_168 : decode cX12_from 168 = .ok (.iadd, 1) := by decide +kernel
theorem dX12_from_169 : decode cX12_from 169 = .ok (.iaload, 1) := by decide +kernel
theorem dX12_from_170 : decode cX12_from 170 = .ok (.iastore, 1) := by decide +kernel
theorem dX12_from_171 : decode cX12_from 171 = .ok (.aload_n 0, 1) := by decide +kernel
theorem dX12_from_172 : decode cX12_from 172 = .ok (.getfield 38, 3) := by decide +kernel
theorem dX12_from_175 : decode cX12_from 175 = .ok (.iload_n 3, 1) := by decide +kernel
theorem dX12_from_176 : decode cX12_from 176 = .ok (.aload_n 0, 1) := by decide +kernel
theorem dX12_from_177 : decode cX12_from 177 = .ok (.getfield 72, 3) := by decide +kernel
theorem dX12_from_180 : decode cX12_from 180 = .ok (.iload_n 2, 1) := by decide +kernel
theorem dX12_from_181 : decode cX12_from 181 = .ok (.bipush 38, 2) := by decide +kernel
theorem dX12_from_183 : decode cX12_from 183 = .ok (.iadd, 1) := by decide +kernel
theorem dX12_from_184 : decode cX12_from 184 = .ok (.iload_n 3, 1) := by decide +kernel
theorem dX12_from_185 : decode cX12_from 185 = .ok (.iadd, 1) := by decide +kernel
theorem dX12_from_186 : decode cX12_from 186 = .ok (.iaload, 1) := by decide +kernel
theorem dX12_from_187 : decode cX12_from 187 = .ok (.iastore, 1) := by decide +kernel
theorem dX12_from_188 : decode cX12_from 188 = .ok (.aload_n 0, 1) := by decide +kernel
theorem dX12_from_189 : decode cX12_from 189 = .ok (.getfield 41, 3) := by decide +kernel
theorem dX12_from_192 : decode cX12_from 192 = .ok (.iload_n 3, 1) := by decide +kernel
theorem dX12_from_193 : decode cX12_from 193 = .ok (.aload_n 0, 1) := by decide +kernel
theorem dX12_from_194 : decode cX12_from 194 = .ok (.getfield 72, 3) := by decide +kernel
theorem dX12_from_197 : decode cX12_from 197 = .ok (.iload_n 2, 1) := by decide +kernel
theorem dX12_from_198 : decode cX12_from 198 = .ok (.bipush 44, 2) := by decide +kernel
theorem dX12_from_200 : decode cX12_from 200 = .ok (.iadd, 1) := by decide +kernel
theorem dX12_from_201 : decode cX12_from 201 = .ok (.iload_n 3, 1) := by decide +kernel
theorem dX12_from_202 : decode cX12_from 202 = .ok (.iadd, 1) := by decide +kernel
theorem dX12_from_203 : decode cX12_from 203 = .ok (.iaload, 1) := by decide +kernel
theorem dX12_from_204 : decode cX12_from 204 = .ok (.iastore, 1) := by decide +kernel
theorem dX12_from_205 : decode cX12_from 205 = .ok (.aload_n 0, 1) := by decide +kernel
theorem dX12_from_206 : decode cX12_from 206 = .ok (.getfield 44, 3) := by decide +kernel
theorem dX12_from_209 : decode cX12_from 209 = .ok (.iload_n 3, 1) := by decide +kernel
theorem dX12_from_210 : decode cX12_from 210 = .ok (.aload_n 0, 1) := by decide +kernel
theorem dX12_from_211 : decode cX12_from 211 = .ok (.getfield 72, 3) := by decide +kernel
theorem dX12_from_214 : decode cX12_from 214 = .ok (.iload_n 2, 1) := by decide +kernel
theorem dX12_from_215 : decode cX12_from 215 = .ok (.bipush 50, 2) := by decide +kernel
theorem dX12_from_217 : decode cX12_from 217 = .ok (.iadd, 1) := by decide +kernel
theorem dX12_from_218 : decode cX12_from 218 = .ok (.iload_n 3, 1) := by decide +kernel
theorem dX12_from_219 : decode cX12_from 219 = .ok (.iadd, 1) := by decide +kernel
theorem dX12_from_220 : decode cX12_from 220 = .ok (.iaload, 1) := by decide +kernel
theorem dX12_from_221 : decode cX12_from 221 = .ok (.iastore, 1) := by decide +kernel
theorem dX12_from_222 : decode cX12_from 222 = .ok (.aload_n 0, 1) := by decide +kernel
theorem dX12_from_223 : decode cX12_from 223 = .ok (.getfield 47, 3) := by decide +kernel
theorem dX12_from_226 : decode cX12_from 226 = .ok (.iload_n 3, 1) := by decide +kernel
theorem dX12_from_227 : decode cX12_from 227 = .ok (.aload_n 0, 1) := by decide +kernel
theorem dX12_from_228 : decode cX12_from 228 = .ok (.getfield 72, 3) := by decide +kernel
theorem dX12_from_231 : decode cX12_from 231 = .ok (.iload_n 2, 1) := by decide +kernel
theorem dX12_from_232 : decode cX12_from 232 = .ok (.bipush 56, 2) := by decide +kernel
theorem dX12_from_234 : decode cX12_from 234 = .ok (.iadd, 1) := by decide +kernel
theorem dX12_from_235 : decode cX12_from 235 = .ok (.iload_n 3, 1) := by decide +kernel
theorem dX12_from_236 : decode cX12_from 236 = .ok (.iadd, 1) := by decide +kernel
theorem dX12_from_237 : decode cX12_from 237 = .ok (.iaload, 1) := by decide +kernel
theorem dX12_from_238 : decode cX12_from 238 = .ok (.iastore, 1) := by decide +kernel
theorem dX12_from_239 : decode cX12_from 239 = .ok (.iinc 3 1, 3) := by decide +kernel
theorem dX12_from_242 : decode cX12_from 242 = .ok (.goto (-162), 3) := by decide +kernel
theorem dX12_from_245 : decode cX12_from 245 = .ok (.iconst 0, 1) := by decide +kernel
theorem dX12_from_246 : decode cX12_from 246 = .ok (.istore_n 3, 1) := by decide +kernel
theorem dX12_from_247 : decode cX12_from 247 = .ok (.iload_n 3, 1) := by decide +kernel
theorem dX12_from_248 : decode cX12_from 248 = .ok (.bipush 40, 2) := by decide +kernel
theorem dX12_from_250 : decode cX12_from 250 = .ok (.if_icmp .ge 26, 3) := by decide +kernel
theorem dX12_from_253 : decode cX12_from 253 = .ok (.aload_n 0, 1) := by decide +kernel
theorem dX12_from_254 : decode cX12_from 254 = .ok (.getfield 56, 3) := by decide +kernel
theorem dX12_from_257 : decode cX12_from 257 = .ok (.iload_n 3, 1) := by decide +kernel
theorem dX12_from_258 : decode cX12_from 258 = .ok (.aload_n 0, 1) := by decide +kernel
theorem dX12_from_259 : decode cX12_from 259 = .ok (.getfield 72, 3) := by decide +kernel
theorem dX12_from_262 : decode cX12_from 262 = .ok (.iload_n 2, 1) := by decide +kernel
theorem dX12_from_263 : decode cX12_from 263 = .ok (.bipush 62, 2) := by decide +kernel
theorem dX12_from_265 : decode cX12_from 265 = .ok (.iadd, 1) := by decide +kernel
theorem dX12_from_266 : decode cX12_from 266 = .ok (.iload_n 3, 1) := by decide +kernel
theorem dX12_from_267 : decode cX12_from 267 = .ok (.iadd, 1) := by decide +kernel
theorem dX12_from_268 : decode cX12_from 268 = .ok (.iaload, 1) := by decide +kernel
theorem dX12_from_269 : decode cX12_from 269 = .ok (.iastore, 1) := by decide +kernel
theorem dX12_from_270 : decode cX12_from 270 = .ok (.iinc 3 1, 3) := by decide +kernel
theorem dX12_from_273 : decode cX12_from 273 = .ok (.goto (-26), 3) := by decide +kernel
theorem dX12_from_276 : decode cX12_from 276 = .ok (.iconst 1, 1) := by decide +kernel
theorem dX12_from_277 : decode cX12_from 277 = .ok (.ireturn, 1) := by decide +kernel
theorem dX12_status_0 : decode cX12_status 0 = .ok (.iload_n 1, 1) := by decide +kernel
theorem dX12_status_1 : decode cX12_status 1 = .ok (.iconst 0, 1) := by decide +kernel
theorem dX12_status_2 : decode cX12_status 2 = .ok (.iconst 2, 1) := by decide +kernel
theorem dX12_status_3 : decode cX12_status 3 = .ok (.invokestatic 97, 3) := by decide +kernel
theorem dX12_status_6 : decode cX12_status 6 = .ok (.ifCond .ne 15, 3) := by decide +kernel
theorem dX12_status_9 : decode cX12_status 9 = .ok (.aload_n 0, 1) := by decide +kernel
theorem dX12_status_10 : decode cX12_status 10 = .ok (.getfield 1, 3) := by decide +kernel
theorem dX12_status_13 : decode cX12_status 13 = .ok (.iconst 0, 1) := by decide +kernel
theorem dX12_status_14 : decode cX12_status 14 = .ok (.dup2, 1) := by decide +kernel
theorem dX12_status_15 : decode cX12_status 15 = .ok (.iaload, 1) := by decide +kernel
theorem dX12_status_16 : decode cX12_status 16 = .ok (.iconst 1, 1) := by decide +kernel
theorem dX12_status_17 : decode cX12_status 17 = .ok (.iadd, 1) := by decide +kernel
theorem dX12_status_18 : decode cX12_status 18 = .ok (.iastore, 1) := by decide +kernel
theorem dX12_status_19 : decode cX12_status 19 = .ok (.iconst (-1), 1) := by decide +kernel
theorem dX12_status_20 : decode cX12_status 20 = .ok (.ireturn, 1) := by decide +kernel
theorem dX12_status_21 : decode cX12_status 21 = .ok (.aload_n 0, 1) := by decide +kernel
theorem dX12_status_22 : decode cX12_status 22 = .ok (.getfield 1, 3) := by decide +kernel
theorem dX12_status_25 : decode cX12_status 25 = .ok (.iload_n 1, 1) := by decide +kernel
theorem dX12_status_26 : decode cX12_status 26 = .ok (.iaload, 1) := by decide +kernel
theorem dX12_status_27 : decode cX12_status 27 = .ok (.ireturn, 1) := by decide +kernel
theorem dX12_countOf_0 : decode cX12_countOf 0 = .ok (.iload_n 1, 1) := by decide +kernel
theorem dX12_countOf_1 : decode cX12_countOf 1 = .ok (.tableswitch 72 0 5 #[39, 44, 49, 54, 62, 67], 39) := by decide +kernel
theorem dX12_countOf_40 : decode cX12_countOf 40 = .ok (.aload_n 0, 1) := by decide +kernel
theorem dX12_countOf_41 : decode cX12_countOf 41 = .ok (.getfield 82, 3) := by decide +kernel
theorem dX12_countOf_44 : decode cX12_countOf 44 = .ok (.ireturn, 1) := by decide +kernel
theorem dX12_countOf_45 : decode cX12_countOf 45 = .ok (.aload_n 0, 1) := by decide +kernel
theorem dX12_countOf_46 : decode cX12_countOf 46 = .ok (.getfield 85, 3) := by decide +kernel
theorem dX12_countOf_49 : decode cX12_countOf 49 = .ok (.ireturn, 1) := by decide +kernel
theorem dX12_countOf_50 : decode cX12_countOf 50 = .ok (.aload_n 0, 1) := by decide +kernel
theorem dX12_countOf_51 : decode cX12_countOf 51 = .ok (.getfield 13, 3) := by decide +kernel
theorem dX12_countOf_54 : decode cX12_countOf 54 = .ok (.ireturn, 1) := by decide +kernel
theorem dX12_countOf_55 : decode cX12_countOf 55 = .ok (.aload_n 0, 1) := by decide +kernel
theorem dX12_countOf_56 : decode cX12_countOf 56 = .ok (.getfield 88, 3) := by decide +kernel
theorem dX12_countOf_59 : decode cX12_countOf 59 = .ok (.invokestatic 251, 3) := by decide +kernel
theorem dX12_countOf_62 : decode cX12_countOf 62 = .ok (.ireturn, 1) := by decide +kernel
theorem dX12_countOf_63 : decode cX12_countOf 63 = .ok (.aload_n 0, 1) := by decide +kernel
theorem dX12_countOf_64 : decode cX12_countOf 64 = .ok (.getfield 91, 3) := by decide +kernel
theorem dX12_countOf_67 : decode cX12_countOf 67 = .ok (.ireturn, 1) := by decide +kernel
theorem dX12_countOf_68 : decode cX12_countOf 68 = .ok (.aload_n 0, 1) := by decide +kernel
theorem dX12_countOf_69 : decode cX12_countOf 69 = .ok (.getfield 94, 3) := by decide +kernel
theorem dX12_countOf_72 : decode cX12_countOf 72 = .ok (.ireturn, 1) := by decide +kernel
theorem dX12_countOf_73 : decode cX12_countOf 73 = .ok (.aload_n 0, 1) := by decide +kernel
theorem dX12_countOf_74 : decode cX12_countOf 74 = .ok (.getfield 112, 3) := by decide +kernel
theorem dX12_countOf_77 : decode cX12_countOf 77 = .ok (.ireturn, 1) := by decide +kernel
theorem dX12_count_0 : decode cX12_count 0 = .ok (.iload_n 1, 1) := by decide +kernel
theorem dX12_count_1 : decode cX12_count 1 = .ok (.iconst 0, 1) := by decide +kernel
theorem dX12_count_2 : decode cX12_count 2 = .ok (.bipush 6, 2) := by decide +kernel
theorem dX12_count_4 : decode cX12_count 4 = .ok (.invokestatic 97, 3) := by decide +kernel
theorem dX12_count_7 : decode cX12_count 7 = .ok (.ifCond .eq 11, 3) := by decide +kernel
theorem dX12_count_10 : decode cX12_count 10 = .ok (.aload_n 0, 1) := by decide +kernel
theorem dX12_count_11 : decode cX12_count 11 = .ok (.iload_n 1, 1) := by decide +kernel
theorem dX12_count_12 : decode cX12_count 12 = .ok (.invokevirtual 300, 3) := by decide +kernel
theorem dX12_count_15 : decode cX12_count 15 = .ok (.goto 7, 3) := by decide +kernel
theorem dX12_count_18 : decode cX12_count 18 = .ok (.aload_n 0, 1) := by decide +kernel
theorem dX12_count_19 : decode cX12_count 19 = .ok (.invokevirtual 101, 3) := by decide +kernel
theorem dX12_count_22 : decode cX12_count 22 = .ok (.ireturn, 1) := by decide +kernel
theorem dX12_mix_0 : decode cX12_mix 0 = .ok (.aload_n 0, 1) := by decide +kernel
theorem dX12_mix_1 : decode cX12_mix 1 = .ok (.ldc2_w 303, 3) := by decide +kernel
theorem dX12_mix_4 : decode cX12_mix 4 = .ok (.aload_n 0, 1) := by decide +kernel
theorem dX12_mix_5 : decode cX12_mix 5 = .ok (.getfield 305, 3) := by decide +kernel
theorem dX12_mix_8 : decode cX12_mix 8 = .ok (.lmul, 1) := by decide +kernel
theorem dX12_mix_9 : decode cX12_mix 9 = .ok (.lload_n 1, 1) := by decide +kernel
theorem dX12_mix_10 : decode cX12_mix 10 = .ok (.ladd, 1) := by decide +kernel
theorem dX12_mix_11 : decode cX12_mix 11 = .ok (.putfield 305, 3) := by decide +kernel
theorem dX12_mix_14 : decode cX12_mix 14 = .ok (.return_, 1) := by decide +kernel
theorem dX12_digest_0 : decode cX12_digest 0 = .ok (.aload_n 0, 1) := by decide +kernel
theorem dX12_digest_1 : decode cX12_digest 1 = .ok (.ldc2_w 308, 3) := by decide +kernel
theorem dX12_digest_4 : decode cX12_digest 4 = .ok (.putfield 305, 3) := by decide +kernel
theorem dX12_digest_7 : decode cX12_digest 7 = .ok (.iconst 0, 1) := by decide +kernel
theorem dX12_digest_8 : decode cX12_digest 8 = .ok (.istore_n 1, 1) := by decide +kernel
theorem dX12_digest_9 : decode cX12_digest 9 = .ok (.iload_n 1, 1) := by decide +kernel
theorem dX12_digest_10 : decode cX12_digest 10 = .ok (.bipush 6, 2) := by decide +kernel
theorem dX12_digest_12 : decode cX12_digest 12 = .ok (.if_icmp .gt 19, 3) := by decide +kernel
theorem dX12_digest_15 : decode cX12_digest 15 = .ok (.aload_n 0, 1) := by decide +kernel
theorem dX12_digest_16 : decode cX12_digest 16 = .ok (.aload_n 0, 1) := by decide +kernel
theorem dX12_digest_17 : decode cX12_digest 17 = .ok (.iload_n 1, 1) := by decide +kernel
theorem dX12_digest_18 : decode cX12_digest 18 = .ok (.invokevirtual 300, 3) := by decide +kernel
theorem dX12_digest_21 : decode cX12_digest 21 = .ok (.i2l, 1) := by decide +kernel
theorem dX12_digest_22 : decode cX12_digest 22 = .ok (.invokevirtual 310, 3) := by decide +kernel
theorem dX12_digest_25 : decode cX12_digest 25 = .ok (.iinc 1 1, 3) := by decide +kernel
theorem dX12_digest_28 : decode cX12_digest 28 = .ok (.goto (-19), 3) := by decide +kernel
theorem dX12_digest_31 : decode cX12_digest 31 = .ok (.aload_n 0, 1) := by decide +kernel
theorem dX12_digest_32 : decode cX12_digest 32 = .ok (.aload_n 0, 1) := by decide +kernel
theorem dX12_digest_33 : decode cX12_digest 33 = .ok (.getfield 88, 3) := by decide +kernel
theorem dX12_digest_36 : decode cX12_digest 36 = .ok (.i2l, 1) := by decide +kernel
theorem dX12_digest_37 : decode cX12_digest 37 = .ok (.invokevirtual 310, 3) := by decide +kernel
theorem dX12_digest_40 : decode cX12_digest 40 = .ok (.aload_n 0, 1) := by decide +kernel
theorem dX12_digest_41 : decode cX12_digest 41 = .ok (.aload_n 0, 1) := by decide +kernel
theorem dX12_digest_42 : decode cX12_digest 42 = .ok (.getfield 17, 3) := by decide +kernel
theorem dX12_digest_45 : decode cX12_digest 45 = .ok (.i2l, 1) := by decide +kernel
theorem dX12_digest_46 : decode cX12_digest 46 = .ok (.invokevirtual 310, 3) := by decide +kernel
theorem dX12_digest_49 : decode cX12_digest 49 = .ok (.aload_n 0, 1) := by decide +kernel
theorem dX12_digest_50 : decode cX12_digest 50 = .ok (.aload_n 0, 1) := by decide +kernel
theorem dX12_digest_51 : decode cX12_digest 51 = .ok (.getfield 20, 3) := by decide +kernel
theorem dX12_digest_54 : decode cX12_digest 54 = .ok (.i2l, 1) := by decide +kernel
theorem dX12_digest_55 : decode cX12_digest 55 = .ok (.invokevirtual 310, 3) := by decide +kernel
theorem dX12_digest_58 : decode cX12_digest 58 = .ok (.iconst 0, 1) := by decide +kernel
theorem dX12_digest_59 : decode cX12_digest 59 = .ok (.istore_n 1, 1) := by decide +kernel
theorem dX12_digest_60 : decode cX12_digest 60 = .ok (.iload_n 1, 1) := by decide +kernel
theorem dX12_digest_61 : decode cX12_digest 61 = .ok (.aload_n 0, 1) := by decide +kernel
theorem dX12_digest_62 : decode cX12_digest 62 = .ok (.getfield 82, 3) := by decide +kernel
theorem dX12_digest_65 : decode cX12_digest 65 = .ok (.if_icmp .ge 53, 3) := by decide +kernel
theorem dX12_digest_68 : decode cX12_digest 68 = .ok (.aload_n 0, 1) := by decide +kernel
theorem dX12_digest_69 : decode cX12_digest 69 = .ok (.aload_n 0, 1) := by decide +kernel
theorem dX12_digest_70 : decode cX12_digest 70 = .ok (.getfield 23, 3) := by decide +kernel
theorem dX12_digest_73 : decode cX12_digest 73 = .ok (.iload_n 1, 1) := by decide +kernel
theorem dX12_digest_74 : decode cX12_digest 74 = .ok (.iaload, 1) := by decide +kernel
theorem dX12_digest_75 : decode cX12_digest 75 = .ok (.i2l, 1) := by decide +kernel
theorem dX12_digest_76 : decode cX12_digest 76 = .ok (.invokevirtual 310, 3) := by decide +kernel
theorem dX12_digest_79 : decode cX12_digest 79 = .ok (.aload_n 0, 1) := by decide +kernel
theorem dX12_digest_80 : decode cX12_digest 80 = .ok (.aload_n 0, 1) := by decide +kernel
theorem dX12_digest_81 : decode cX12_digest 81 = .ok (.getfield 26, 3) := by decide +kernel
theorem dX12_digest_84 : decode cX12_digest 84 = .ok (.iload_n 1, 1) := by decide +kernel
theorem dX12_digest_85 : decode cX12_digest 85 = .ok (.iaload, 1) := by decide +kernel
theorem dX12_digest_86 : decode cX12_digest 86 = .ok (.i2l, 1) := by decide +kernel
theorem dX12_digest_87 : decode cX12_digest 87 = .ok (.invokevirtual 310, 3) := by decide +kernel
theorem dX12_digest_90 : decode cX12_digest 90 = .ok (.aload_n 0, 1) := by decide +kernel
theorem dX12_digest_91 : decode cX12_digest 91 = .ok (.aload_n 0, 1) := by decide +kernel
theorem dX12_digest_92 : decode cX12_digest 92 = .ok (.getfield 29, 3) := by decide +kernel
theorem dX12_digest_95 : decode cX12_digest 95 = .ok (.iload_n 1, 1) := by decide +kernel
theorem dX12_digest_96 : decode cX12_digest 96 = .ok (.iaload, 1) := by decide +kernel
theorem dX12_digest_97 : decode cX12_digest 97 = .ok (.i2l, 1) := by decide +kernel
theorem dX12_digest_98 : decode cX12_digest 98 = .ok (.invokevirtual 310, 3) := by decide +kernel
theorem dX12_digest_101 : decode cX12_digest 101 = .ok (.aload_n 0, 1) := by decide +kernel
theorem dX12_digest_102 : decode cX12_digest 102 = .ok (.aload_n 0, 1) := by decide +kernel
theorem dX12_digest_103 : decode cX12_digest 103 = .ok (.getfield 32, 3) := by decide +kernel
theorem dX12_digest_106 : decode cX12_digest 106 = .ok (.iload_n 1, 1) := by decide +kernel
theorem dX12_digest_107 : decode cX12_digest 107 = .ok (.iaload, 1) := by decide +kernel
theorem dX12_digest_108 : decode cX12_digest 108 = .ok (.i2l, 1) := by decide +kernel
theorem dX12_digest_109 : decode cX12_digest 109 = .ok (.invokevirtual 310, 3) := by decide +kernel
theorem dX12_digest_112 : decode cX12_digest 112 = .ok (.iinc 1 1, 3) := by decide +kernel
theorem dX12_digest_115 : decode cX12_digest 115 = .ok (.goto (-55), 3) := by decide +kernel
theorem dX12_digest_118 : decode cX12_digest 118 = .ok (.iconst 0, 1) := by decide +kernel
theorem dX12_digest_119 : decode cX12_digest 119 = .ok (.istore_n 1, 1) := by decide +kernel
theorem dX12_digest_120 : decode cX12_digest 120 = .ok (.iload_n 1, 1) := by decide +kernel
theorem dX12_digest_121 : decode cX12_digest 121 = .ok (.aload_n 0, 1) := by decide +kernel
theorem dX12_digest_122 : decode cX12_digest 122 = .ok (.getfield 91, 3) := by decide +kernel
theorem dX12_digest_125 : decode cX12_digest 125 = .ok (.if_icmp .ge 64, 3) := by decide +kernel
theorem dX12_digest_128 : decode cX12_digest 128 = .ok (.aload_n 0, 1) := by decide +kernel
theorem dX12_digest_129 : decode cX12_digest 129 = .ok (.aload_n 0, 1) := by decide +kernel
theorem dX12_digest_130 : decode cX12_digest 130 = .ok (.getfield 35, 3) := by decide +kernel
theorem dX12_digest_133 : decode cX12_digest 133 = .ok (.iload_n 1, 1) := by decide +kernel
theorem dX12_digest_134 : decode cX12_digest 134 = .ok (.iaload, 1) := by decide +kernel
theorem dX12_digest_135 : decode cX12_digest 135 = .ok (.i2l, 1) := by decide +kernel
theorem dX12_digest_136 : decode cX12_digest 136 = .ok (.invokevirtual 310, 3) := by decide +kernel
theorem dX12_digest_139 : decode cX12_digest 139 = .ok (.aload_n 0, 1) := by decide +kernel
theorem dX12_digest_140 : decode cX12_digest 140 = .ok (.aload_n 0, 1) := by decide +kernel
theorem dX12_digest_141 : decode cX12_digest 141 = .ok (.getfield 38, 3) := by decide +kernel
theorem dX12_digest_144 : decode cX12_digest 144 = .ok (.iload_n 1, 1) := by decide +kernel
theorem dX12_digest_145 : decode cX12_digest 145 = .ok (.iaload, 1) := by decide +kernel
theorem dX12_digest_146 : decode cX12_digest 146 = .ok (.i2l, 1) := by decide +kernel
theorem dX12_digest_147 : decode cX12_digest 147 = .ok (.invokevirtual 310, 3) := by decide +kernel
theorem dX12_digest_150 : decode cX12_digest 150 = .ok (.aload_n 0, 1) := by decide +kernel
theorem dX12_digest_151 : decode cX12_digest 151 = .ok (.aload_n 0, 1) := by decide +kernel
theorem dX12_digest_152 : decode cX12_digest 152 = .ok (.getfield 41, 3) := by decide +kernel
theorem dX12_digest_155 : decode cX12_digest 155 = .ok (.iload_n 1, 1) := by decide +kernel
theorem dX12_digest_156 : decode cX12_digest 156 = .ok (.iaload, 1) := by decide +kernel
theorem dX12_digest_157 : decode cX12_digest 157 = .ok (.i2l, 1) := by decide +kernel
theorem dX12_digest_158 : decode cX12_digest 158 = .ok (.invokevirtual 310, 3) := by decide +kernel
theorem dX12_digest_161 : decode cX12_digest 161 = .ok (.aload_n 0, 1) := by decide +kernel
theorem dX12_digest_162 : decode cX12_digest 162 = .ok (.aload_n 0, 1) := by decide +kernel
theorem dX12_digest_163 : decode cX12_digest 163 = .ok (.getfield 44, 3) := by decide +kernel
theorem dX12_digest_166 : decode cX12_digest 166 = .ok (.iload_n 1, 1) := by decide +kernel
theorem dX12_digest_167 : decode cX12_digest 167 = .ok (.iaload, 1) := by decide +kernel
theorem dX12_digest_168 : decode cX12_digest 168 = .ok (.i2l, 1) := by decide +kernel
theorem dX12_digest_169 : decode cX12_digest 169 = .ok (.invokevirtual 310, 3) := by decide +kernel
theorem dX12_digest_172 : decode cX12_digest 172 = .ok (.aload_n 0, 1) := by decide +kernel
theorem dX12_digest_173 : decode cX12_digest 173 = .ok (.aload_n 0, 1) := by decide +kernel
theorem dX12_digest_174 : decode cX12_digest 174 = .ok (.getfield 47, 3) := by decide +kernel
theorem dX12_digest_177 : decode cX12_digest 177 = .ok (.iload_n 1, 1) := by decide +kernel
theorem dX12_digest_178 : decode cX12_digest 178 = .ok (.iaload, 1) := by decide +kernel
theorem dX12_digest_179 : decode cX12_digest 179 = .ok (.i2l, 1) := by decide +kernel
theorem dX12_digest_180 : decode cX12_digest 180 = .ok (.invokevirtual 310, 3) := by decide +kernel
theorem dX12_digest_183 : decode cX12_digest 183 = .ok (.iinc 1 1, 3) := by decide +kernel
theorem dX12_digest_186 : decode cX12_digest 186 = .ok (.goto (-66), 3) := by decide +kernel
theorem dX12_digest_189 : decode cX12_digest 189 = .ok (.aload_n 0, 1) := by decide +kernel
theorem dX12_digest_190 : decode cX12_digest 190 = .ok (.aload_n 0, 1) := by decide +kernel
theorem dX12_digest_191 : decode cX12_digest 191 = .ok (.getfield 280, 3) := by decide +kernel
theorem dX12_digest_194 : decode cX12_digest 194 = .ok (.invokevirtual 310, 3) := by decide +kernel
theorem dX12_digest_197 : decode cX12_digest 197 = .ok (.aload_n 0, 1) := by decide +kernel
theorem dX12_digest_198 : decode cX12_digest 198 = .ok (.aload_n 0, 1) := by decide +kernel
theorem dX12_digest_199 : decode cX12_digest 199 = .ok (.getfield 68, 3) := by decide +kernel
theorem dX12_digest_202 : decode cX12_digest 202 = .ok (.invokevirtual 310, 3) := by decide +kernel
theorem dX12_digest_205 : decode cX12_digest 205 = .ok (.aload_n 0, 1) := by decide +kernel
theorem dX12_digest_206 : decode cX12_digest 206 = .ok (.getfield 305, 3) := by decide +kernel
theorem dX12_digest_209 : decode cX12_digest 209 = .ok (.lreturn, 1) := by decide +kernel
theorem dJ6_bitCount_0f7a4_0 : decode cJ6_bitCount_0f7a4 0 = .ok (.iload_n 0, 1) := by decide +kernel
theorem dJ6_bitCount_0f7a4_1 : decode cJ6_bitCount_0f7a4 1 = .ok (.iload_n 0, 1) := by decide +kernel
theorem dJ6_bitCount_0f7a4_2 : decode cJ6_bitCount_0f7a4 2 = .ok (.iconst 1, 1) := by decide +kernel
theorem dJ6_bitCount_0f7a4_3 : decode cJ6_bitCount_0f7a4 3 = .ok (.iushr, 1) := by decide +kernel
theorem dJ6_bitCount_0f7a4_4 : decode cJ6_bitCount_0f7a4 4 = .ok (.ldc_w 265, 3) := by decide +kernel
theorem dJ6_bitCount_0f7a4_7 : decode cJ6_bitCount_0f7a4 7 = .ok (.iand, 1) := by decide +kernel
theorem dJ6_bitCount_0f7a4_8 : decode cJ6_bitCount_0f7a4 8 = .ok (.isub, 1) := by decide +kernel
theorem dJ6_bitCount_0f7a4_9 : decode cJ6_bitCount_0f7a4 9 = .ok (.istore_n 0, 1) := by decide +kernel
theorem dJ6_bitCount_0f7a4_10 : decode cJ6_bitCount_0f7a4 10 = .ok (.iload_n 0, 1) := by decide +kernel
theorem dJ6_bitCount_0f7a4_11 : decode cJ6_bitCount_0f7a4 11 = .ok (.ldc_w 266, 3) := by decide +kernel
theorem dJ6_bitCount_0f7a4_14 : decode cJ6_bitCount_0f7a4 14 = .ok (.iand, 1) := by decide +kernel
theorem dJ6_bitCount_0f7a4_15 : decode cJ6_bitCount_0f7a4 15 = .ok (.iload_n 0, 1) := by decide +kernel
theorem dJ6_bitCount_0f7a4_16 : decode cJ6_bitCount_0f7a4 16 = .ok (.iconst 2, 1) := by decide +kernel
theorem dJ6_bitCount_0f7a4_17 : decode cJ6_bitCount_0f7a4 17 = .ok (.iushr, 1) := by decide +kernel
theorem dJ6_bitCount_0f7a4_18 : decode cJ6_bitCount_0f7a4 18 = .ok (.ldc_w 266, 3) := by decide +kernel
theorem dJ6_bitCount_0f7a4_21 : decode cJ6_bitCount_0f7a4 21 = .ok (.iand, 1) := by decide +kernel
theorem dJ6_bitCount_0f7a4_22 : decode cJ6_bitCount_0f7a4 22 = .ok (.iadd, 1) := by decide +kernel
theorem dJ6_bitCount_0f7a4_23 : decode cJ6_bitCount_0f7a4 23 = .ok (.istore_n 0, 1) := by decide +kernel
theorem dJ6_bitCount_0f7a4_24 : decode cJ6_bitCount_0f7a4 24 = .ok (.iload_n 0, 1) := by decide +kernel
theorem dJ6_bitCount_0f7a4_25 : decode cJ6_bitCount_0f7a4 25 = .ok (.iload_n 0, 1) := by decide +kernel
theorem dJ6_bitCount_0f7a4_26 : decode cJ6_bitCount_0f7a4 26 = .ok (.iconst 4, 1) := by decide +kernel
theorem dJ6_bitCount_0f7a4_27 : decode cJ6_bitCount_0f7a4 27 = .ok (.iushr, 1) := by decide +kernel
theorem dJ6_bitCount_0f7a4_28 : decode cJ6_bitCount_0f7a4 28 = .ok (.iadd, 1) := by decide +kernel
theorem dJ6_bitCount_0f7a4_29 : decode cJ6_bitCount_0f7a4 29 = .ok (.ldc_w 267, 3) := by decide +kernel
theorem dJ6_bitCount_0f7a4_32 : decode cJ6_bitCount_0f7a4 32 = .ok (.iand, 1) := by decide +kernel
theorem dJ6_bitCount_0f7a4_33 : decode cJ6_bitCount_0f7a4 33 = .ok (.istore_n 0, 1) := by decide +kernel
theorem dJ6_bitCount_0f7a4_34 : decode cJ6_bitCount_0f7a4 34 = .ok (.iload_n 0, 1) := by decide +kernel
theorem dJ6_bitCount_0f7a4_35 : decode cJ6_bitCount_0f7a4 35 = .ok (.iload_n 0, 1) := by decide +kernel
theorem dJ6_bitCount_0f7a4_36 : decode cJ6_bitCount_0f7a4 36 = .ok (.bipush 8, 2) := by decide +kernel
theorem dJ6_bitCount_0f7a4_38 : decode cJ6_bitCount_0f7a4 38 = .ok (.iushr, 1) := by decide +kernel
theorem dJ6_bitCount_0f7a4_39 : decode cJ6_bitCount_0f7a4 39 = .ok (.iadd, 1) := by decide +kernel
theorem dJ6_bitCount_0f7a4_40 : decode cJ6_bitCount_0f7a4 40 = .ok (.istore_n 0, 1) := by decide +kernel
theorem dJ6_bitCount_0f7a4_41 : decode cJ6_bitCount_0f7a4 41 = .ok (.iload_n 0, 1) := by decide +kernel
theorem dJ6_bitCount_0f7a4_42 : decode cJ6_bitCount_0f7a4 42 = .ok (.iload_n 0, 1) := by decide +kernel
theorem dJ6_bitCount_0f7a4_43 : decode cJ6_bitCount_0f7a4 43 = .ok (.bipush 16, 2) := by decide +kernel
theorem dJ6_bitCount_0f7a4_45 : decode cJ6_bitCount_0f7a4 45 = .ok (.iushr, 1) := by decide +kernel
theorem dJ6_bitCount_0f7a4_46 : decode cJ6_bitCount_0f7a4 46 = .ok (.iadd, 1) := by decide +kernel
theorem dJ6_bitCount_0f7a4_47 : decode cJ6_bitCount_0f7a4 47 = .ok (.istore_n 0, 1) := by decide +kernel
theorem dJ6_bitCount_0f7a4_48 : decode cJ6_bitCount_0f7a4 48 = .ok (.iload_n 0, 1) := by decide +kernel
theorem dJ6_bitCount_0f7a4_49 : decode cJ6_bitCount_0f7a4 49 = .ok (.bipush 63, 2) := by decide +kernel
theorem dJ6_bitCount_0f7a4_51 : decode cJ6_bitCount_0f7a4 51 = .ok (.iand, 1) := by decide +kernel
theorem dJ6_bitCount_0f7a4_52 : decode cJ6_bitCount_0f7a4 52 = .ok (.ireturn, 1) := by decide +kernel
theorem dJ9_max_7cf53_0 : decode cJ9_max_7cf53 0 = .ok (.iload_n 0, 1) := by decide +kernel
theorem dJ9_max_7cf53_1 : decode cJ9_max_7cf53 1 = .ok (.iload_n 1, 1) := by decide +kernel
theorem dJ9_max_7cf53_2 : decode cJ9_max_7cf53 2 = .ok (.if_icmp .lt 7, 3) := by decide +kernel
theorem dJ9_max_7cf53_5 : decode cJ9_max_7cf53 5 = .ok (.iload_n 0, 1) := by decide +kernel
theorem dJ9_max_7cf53_6 : decode cJ9_max_7cf53 6 = .ok (.goto 4, 3) := by decide +kernel
theorem dJ9_max_7cf53_9 : decode cJ9_max_7cf53 9 = .ok (.iload_n 1, 1) := by decide +kernel
theorem dJ9_max_7cf53_10 : decode cJ9_max_7cf53 10 = .ok (.ireturn, 1) := by decide +kernel
theorem dJ9_min_7cf53_0 : decode cJ9_min_7cf53 0 = .ok (.iload_n 0, 1) := by decide +kernel
theorem dJ9_min_7cf53_1 : decode cJ9_min_7cf53 1 = .ok (.iload_n 1, 1) := by decide +kernel
theorem dJ9_min_7cf53_2 : decode cJ9_min_7cf53 2 = .ok (.if_icmp .gt 7, 3) := by decide +kernel
theorem dJ9_min_7cf53_5 : decode cJ9_min_7cf53 5 = .ok (.iload_n 0, 1) := by decide +kernel
theorem dJ9_min_7cf53_6 : decode cJ9_min_7cf53 6 = .ok (.goto 4, 3) := by decide +kernel
theorem dJ9_min_7cf53_9 : decode cJ9_min_7cf53 9 = .ok (.iload_n 1, 1) := by decide +kernel
theorem dJ9_min_7cf53_10 : decode cJ9_min_7cf53 10 = .ok (.ireturn, 1) := by decide +kernel
theorem dJ0_length_8abf5_0 : decode cJ0_length_8abf5 0 = .ok (.aload_n 0, 1) := by decide +kernel
theorem dJ0_length_8abf5_1 : decode cJ0_length_8abf5 1 = .ok (.getfield 9, 3) := by decide +kernel
theorem dJ0_length_8abf5_4 : decode cJ0_length_8abf5 4 = .ok (.arraylength, 1) := by decide +kernel
theorem dJ0_length_8abf5_5 : decode cJ0_length_8abf5 5 = .ok (.aload_n 0, 1) := by decide +kernel
theorem dJ0_length_8abf5_6 : decode cJ0_length_8abf5 6 = .ok (.invokevirtual 335, 3) := by decide +kernel
theorem dJ0_length_8abf5_9 : decode cJ0_length_8abf5 9 = .ok (.ishr, 1) := by decide +kernel
theorem dJ0_length_8abf5_10 : decode cJ0_length_8abf5 10 = .ok (.ireturn, 1) := by decide +kernel
theorem dJ0_charAt_5068e_0 : decode cJ0_charAt_5068e 0 = .ok (.aload_n 0, 1) := by decide +kernel
theorem dJ0_charAt_5068e_1 : decode cJ0_charAt_5068e 1 = .ok (.invokevirtual 492, 3) := by decide +kernel
theorem dJ0_charAt_5068e_4 : decode cJ0_charAt_5068e 4 = .ok (.ifCond .eq 12, 3) := by decide +kernel
theorem dJ0_charAt_5068e_7 : decode cJ0_charAt_5068e 7 = .ok (.aload_n 0, 1) := by decide +kernel
theorem dJ0_charAt_5068e_8 : decode cJ0_charAt_5068e 8 = .ok (.getfield 9, 3) := by decide +kernel
theorem dJ0_charAt_5068e_11 : decode cJ0_charAt_5068e 11 = .ok (.iload_n 1, 1) := by decide +kernel
theorem dJ0_charAt_5068e_12 : decode cJ0_charAt_5068e 12 = .ok (.invokestatic 495, 3) := by decide +kernel
theorem dJ0_charAt_5068e_15 : decode cJ0_charAt_5068e 15 = .ok (.ireturn, 1) := by decide +kernel
theorem dJ0_charAt_5068e_16 : decode cJ0_charAt_5068e 16 = .ok (.aload_n 0, 1) := by decide +kernel
theorem dJ0_charAt_5068e_17 : decode cJ0_charAt_5068e 17 = .ok (.getfield 9, 3) := by decide +kernel
theorem dJ0_charAt_5068e_20 : decode cJ0_charAt_5068e 20 = .ok (.iload_n 1, 1) := by decide +kernel
theorem dJ0_charAt_5068e_21 : decode cJ0_charAt_5068e 21 = .ok (.invokestatic 498, 3) := by decide +kernel
theorem dJ0_charAt_5068e_24 : decode cJ0_charAt_5068e 24 = .ok (.ireturn, 1) := by decide +kernel
theorem dJ0_coder_7d493_0 : decode cJ0_coder_7d493 0 = .ok (.getstatic 38, 3) := by decide +kernel
theorem dJ0_coder_7d493_3 : decode cJ0_coder_7d493 3 = .ok (.ifCond .eq 10, 3) := by decide +kernel
theorem dJ0_coder_7d493_6 : decode cJ0_coder_7d493 6 = .ok (.aload_n 0, 1) := by decide +kernel
theorem dJ0_coder_7d493_7 : decode cJ0_coder_7d493 7 = .ok (.getfield 15, 3) := by decide +kernel
theorem dJ0_coder_7d493_10 : decode cJ0_coder_7d493 10 = .ok (.goto 4, 3) := by decide +kernel
theorem dJ0_coder_7d493_13 : decode cJ0_coder_7d493 13 = .ok (.iconst 1, 1) := by decide +kernel
theorem dJ0_coder_7d493_14 : decode cJ0_coder_7d493 14 = .ok (.ireturn, 1) := by decide +kernel
theorem dJ0_isLatin1_aae02_0 : decode cJ0_isLatin1_aae02 0 = .ok (.getstatic 38, 3) := by decide +kernel
theorem dJ0_isLatin1_aae02_3 : decode cJ0_isLatin1_aae02 3 = .ok (.ifCond .eq 14, 3) := by decide +kernel
theorem dJ0_isLatin1_aae02_6 : decode cJ0_isLatin1_aae02 6 = .ok (.aload_n 0, 1) := by decide +kernel
theorem dJ0_isLatin1_aae02_7 : decode cJ0_isLatin1_aae02 7 = .ok (.getfield 15, 3) := by decide +kernel
theorem dJ0_isLatin1_aae02_10 : decode cJ0_isLatin1_aae02 10 = .ok (.ifCond .ne 7, 3) := by decide +kernel
theorem dJ0_isLatin1_aae02_13 : decode cJ0_isLatin1_aae02 13 = .ok (.iconst 1, 1) := by decide +kernel
theorem dJ0_isLatin1_aae02_14 : decode cJ0_isLatin1_aae02 14 = .ok (.goto 4, 3) := by decide +kernel
theorem dJ0_isLatin1_aae02_17 : decode cJ0_isLatin1_aae02 17 = .ok (.iconst 0, 1) := by decide +kernel
theorem dJ0_isLatin1_aae02_18 : decode cJ0_isLatin1_aae02 18 = .ok (.ireturn, 1) := by decide +kernel
theorem dJ0_checkIndex_df160_0 : decode cJ0_checkIndex_df160 0 = .ok (.iload_n 0, 1) := by decide +kernel
theorem dJ0_checkIndex_df160_1 : decode cJ0_checkIndex_df160 1 = .ok (.iload_n 1, 1) := by decide +kernel
theorem dJ0_checkIndex_df160_2 : decode cJ0_checkIndex_df160 2 = .ok (.getstatic 1053, 3) := by decide +kernel
theorem dJ0_checkIndex_df160_5 : decode cJ0_checkIndex_df160 5 = .ok (.invokestatic 1059, 3) := by decide +kernel
theorem dJ0_checkIndex_df160_8 : decode cJ0_checkIndex_df160 8 = .ok (.pop, 1) := by decide +kernel
theorem dJ0_checkIndex_df160_9 : decode cJ0_checkIndex_df160 9 = .ok (.return_, 1) := by decide +kernel
theorem dJ1_charAt_3b067_0 : decode cJ1_charAt_3b067 0 = .ok (.iload_n 1, 1) := by decide +kernel
theorem dJ1_charAt_3b067_1 : decode cJ1_charAt_3b067 1 = .ok (.aload_n 0, 1) := by decide +kernel
theorem dJ1_charAt_3b067_2 : decode cJ1_charAt_3b067 2 = .ok (.arraylength, 1) := by decide +kernel
theorem dJ1_charAt_3b067_3 : decode cJ1_charAt_3b067 3 = .ok (.invokestatic 9, 3) := by decide +kernel
theorem dJ1_charAt_3b067_6 : decode cJ1_charAt_3b067 6 = .ok (.aload_n 0, 1) := by decide +kernel
theorem dJ1_charAt_3b067_7 : decode cJ1_charAt_3b067 7 = .ok (.iload_n 1, 1) := by decide +kernel
theorem dJ1_charAt_3b067_8 : decode cJ1_charAt_3b067 8 = .ok (.baload, 1) := by decide +kernel
theorem dJ1_charAt_3b067_9 : decode cJ1_charAt_3b067 9 = .ok (.sipush 255, 3) := by decide +kernel
theorem dJ1_charAt_3b067_12 : decode cJ1_charAt_3b067 12 = .ok (.iand, 1) := by decide +kernel
theorem dJ1_charAt_3b067_13 : decode cJ1_charAt_3b067 13 = .ok (.i2c, 1) := by decide +kernel
theorem dJ1_charAt_3b067_14 : decode cJ1_charAt_3b067 14 = .ok (.ireturn, 1) := by decide +kernel
theorem dJ2_getChar_3b067_0 : decode cJ2_getChar_3b067 0 = .ok (.getstatic 44, 3) := by decide +kernel
theorem dJ2_getChar_3b067_3 : decode cJ2_getChar_3b067 3 = .ok (.ifCond .ne 25, 3) := by decide +kernel
theorem dJ2_getChar_3b067_6 : decode cJ2_getChar_3b067 6 = .ok (.iload_n 1, 1) := by decide +kernel
theorem dJ2_getChar_3b067_7 : decode cJ2_getChar_3b067 7 = .ok (.ifCond .lt 11, 3) := by decide +kernel
theorem dJ2_getChar_3b067_10 : decode cJ2_getChar_3b067 10 = .ok (.iload_n 1, 1) := by decide +kernel
theorem dJ2_getChar_3b067_11 : decode cJ2_getChar_3b067 11 = .ok (.aload_n 0, 1) := by decide +kernel
theorem dJ2_getChar_3b067_12 : decode cJ2_getChar_3b067 12 = .ok (.invokestatic 48, 3) := by decide +kernel
theorem dJ2_getChar_3b067_15 : decode cJ2_getChar_3b067 15 = .ok (.if_icmp .lt 13, 3) := by decide +kernel
theorem dJ2_getChar_3b067_18 : decode cJ2_getChar_3b067 18 = .ok (.new 52, 3) := by decide +kernel
theorem dJ2_getChar_3b067_21 : decode cJ2_getChar_3b067 21 = .ok (.dup, 1) := by decide +kernel
theorem dJ2_getChar_3b067_22 : decode cJ2_getChar_3b067 22 = .ok (.ldc 54, 2) := by decide +kernel
theorem dJ2_getChar_3b067_24 : decode cJ2_getChar_3b067 24 = .ok (.invokespecial 56, 3) := by decide +kernel
theorem dJ2_getChar_3b067_27 : decode cJ2_getChar_3b067 27 = .ok (.athrow, 1) := by decide +kernel
theorem dJ2_getChar_3b067_28 : decode cJ2_getChar_3b067 28 = .ok (.iload_n 1, 1) := by decide +kernel
theorem dJ2_getChar_3b067_29 : decode cJ2_getChar_3b067 29 = .ok (.iconst 1, 1) := by decide +kernel
theorem dJ2_getChar_3b067_30 : decode cJ2_getChar_3b067 30 = .ok (.ishl, 1) := by decide +kernel
theorem dJ2_getChar_3b067_31 : decode cJ2_getChar_3b067 31 = .ok (.istore_n 1, 1) := by decide +kernel
theorem dJ2_getChar_3b067_32 : decode cJ2_getChar_3b067 32 = .ok (.aload_n 0, 1) := by decide +kernel
theorem dJ2_getChar_3b067_33 : decode cJ2_getChar_3b067 33 = .ok (.iload_n 1, 1) := by decide +kernel
theorem dJ2_getChar_3b067_34 : decode cJ2_getChar_3b067 34 = .ok (.iinc 1 1, 3) := by decide +kernel
theorem dJ2_getChar_3b067_37 : decode cJ2_getChar_3b067 37 = .ok (.baload, 1) := by decide +kernel
theorem dJ2_getChar_3b067_38 : decode cJ2_getChar_3b067 38 = .ok (.sipush 255, 3) := by decide +kernel
theorem dJ2_getChar_3b067_41 : decode cJ2_getChar_3b067 41 = .ok (.iand, 1) := by decide +kernel
theorem dJ2_getChar_3b067_42 : decode cJ2_getChar_3b067 42 = .ok (.getstatic 59, 3) := by decide +kernel
theorem dJ2_getChar_3b067_45 : decode cJ2_getChar_3b067 45 = .ok (.ishl, 1) := by decide +kernel
theorem dJ2_getChar_3b067_46 : decode cJ2_getChar_3b067 46 = .ok (.aload_n 0, 1) := by decide +kernel
theorem dJ2_getChar_3b067_47 : decode cJ2_getChar_3b067 47 = .ok (.iload_n 1, 1) := by decide +kernel
theorem dJ2_getChar_3b067_48 : decode cJ2_getChar_3b067 48 = .ok (.baload, 1) := by decide +kernel
theorem dJ2_getChar_3b067_49 : decode cJ2_getChar_3b067 49 = .ok (.sipush 255, 3) := by decide +kernel
theorem dJ2_getChar_3b067_52 : decode cJ2_getChar_3b067 52 = .ok (.iand, 1) := by decide +kernel
theorem dJ2_getChar_3b067_53 : decode cJ2_getChar_3b067 53 = .ok (.getstatic 63, 3) := by decide +kernel
theorem dJ2_getChar_3b067_56 : decode cJ2_getChar_3b067 56 = .ok (.ishl, 1) := by decide +kernel
theorem dJ2_getChar_3b067_57 : decode cJ2_getChar_3b067 57 = .ok (.ior, 1) := by decide +kernel
theorem dJ2_getChar_3b067_58 : decode cJ2_getChar_3b067 58 = .ok (.i2c, 1) := by decide +kernel
theorem dJ2_getChar_3b067_59 : decode cJ2_getChar_3b067 59 = .ok (.ireturn, 1) := by decide +kernel
theorem dJ2_length_9d52b_0 : decode cJ2_length_9d52b 0 = .ok (.aload_n 0, 1) := by decide +kernel
theorem dJ2_length_9d52b_1 : decode cJ2_length_9d52b 1 = .ok (.arraylength, 1) := by decide +kernel
theorem dJ2_length_9d52b_2 : decode cJ2_length_9d52b 2 = .ok (.iconst 1, 1) := by decide +kernel
theorem dJ2_length_9d52b_3 : decode cJ2_length_9d52b 3 = .ok (.ishr, 1) := by decide +kernel
theorem dJ2_length_9d52b_4 : decode cJ2_length_9d52b 4 = .ok (.ireturn, 1) := by decide +kernel
theorem dJ2_charAt_3b067_0 : decode cJ2_charAt_3b067 0 = .ok (.iload_n 1, 1) := by decide +kernel
theorem dJ2_charAt_3b067_1 : decode cJ2_charAt_3b067 1 = .ok (.aload_n 0, 1) := by decide +kernel
theorem dJ2_charAt_3b067_2 : decode cJ2_charAt_3b067 2 = .ok (.invokestatic 67, 3) := by decide +kernel
theorem dJ2_charAt_3b067_5 : decode cJ2_charAt_3b067 5 = .ok (.aload_n 0, 1) := by decide +kernel
theorem dJ2_charAt_3b067_6 : decode cJ2_charAt_3b067 6 = .ok (.iload_n 1, 1) := by decide +kernel
theorem dJ2_charAt_3b067_7 : decode cJ2_charAt_3b067 7 = .ok (.invokestatic 71, 3) := by decide +kernel
theorem dJ2_charAt_3b067_10 : decode cJ2_charAt_3b067 10 = .ok (.ireturn, 1) := by decide +kernel
theorem dJ2_checkIndex_2214a_0 : decode cJ2_checkIndex_2214a 0 = .ok (.iload_n 0, 1) := by decide +kernel
theorem dJ2_checkIndex_2214a_1 : decode cJ2_checkIndex_2214a 1 = .ok (.aload_n 1, 1) := by decide +kernel
theorem dJ2_checkIndex_2214a_2 : decode cJ2_checkIndex_2214a 2 = .ok (.invokestatic 48, 3) := by decide +kernel
theorem dJ2_checkIndex_2214a_5 : decode cJ2_checkIndex_2214a 5 = .ok (.invokestatic 414, 3) := by decide +kernel
theorem dJ2_checkIndex_2214a_8 : decode cJ2_checkIndex_2214a 8 = .ok (.return_, 1) := by decide +kernel
theorem dJ3_checkIndex_8e157_0 : decode cJ3_checkIndex_8e157 0 = .ok (.iload_n 0, 1) := by decide +kernel
theorem dJ3_checkIndex_8e157_1 : decode cJ3_checkIndex_8e157 1 = .ok (.ifCond .lt 8, 3) := by decide +kernel
theorem dJ3_checkIndex_8e157_4 : decode cJ3_checkIndex_8e157 4 = .ok (.iload_n 0, 1) := by decide +kernel
theorem dJ3_checkIndex_8e157_5 : decode cJ3_checkIndex_8e157 5 = .ok (.iload_n 1, 1) := by decide +kernel
theorem dJ3_checkIndex_8e157_6 : decode cJ3_checkIndex_8e157 6 = .ok (.if_icmp .lt 10, 3) := by decide +kernel
theorem dJ3_checkIndex_8e157_9 : decode cJ3_checkIndex_8e157 9 = .ok (.aload_n 2, 1) := by decide +kernel
theorem dJ3_checkIndex_8e157_10 : decode cJ3_checkIndex_8e157 10 = .ok (.iload_n 0, 1) := by decide +kernel
theorem dJ3_checkIndex_8e157_11 : decode cJ3_checkIndex_8e157 11 = .ok (.iload_n 1, 1) := by decide +kernel
theorem dJ3_checkIndex_8e157_12 : decode cJ3_checkIndex_8e157 12 = .ok (.invokestatic 95, 3) := by decide +kernel
theorem dJ3_checkIndex_8e157_15 : decode cJ3_checkIndex_8e157 15 = .ok (.athrow, 1) := by decide +kernel
theorem dJ3_checkIndex_8e157_16 : decode cJ3_checkIndex_8e157 16 = .ok (.iload_n 0, 1) := by decide +kernel
theorem dJ3_checkIndex_8e157_17 : decode cJ3_checkIndex_8e157 17 = .ok (.ireturn, 1) := by decide +kernel
theorem dL_law_0 : decode code 0 = .ok (.new 7, 3) := by decide +kernel
theorem dL_law_3 : decode code 3 = .ok (.dup, 1) := by decide +kernel
theorem dL_law_4 : decode code 4 = .ok (.invokespecial 9, 3) := by decide +kernel
theorem dL_law_7 : decode code 7 = .ok (.astore_n 1, 1) := by decide +kernel
theorem dL_law_8 : decode code 8 = .ok (.new 10, 3) := by decide +kernel
theorem dL_law_11 : decode code 11 = .ok (.dup, 1) := by decide +kernel
theorem dL_law_12 : decode code 12 = .ok (.invokespecial 12, 3) := by decide +kernel
theorem dL_law_15 : decode code 15 = .ok (.astore_n 2, 1) := by decide +kernel
theorem dL_law_16 : decode code 16 = .ok (.iconst 0, 1) := by decide +kernel
theorem dL_law_17 : decode code 17 = .ok (.istore_n 3, 1) := by decide +kernel
theorem dL_law_18 : decode code 18 = .ok (.iload_n 3, 1) := by decide +kernel
theorem dL_law_19 : decode code 19 = .ok (.aload_n 0, 1) := by decide +kernel
theorem dL_law_20 : decode code 20 = .ok (.arraylength, 1) := by decide +kernel
theorem dL_law_21 : decode code 21 = .ok (.bipush 6, 2) := by decide +kernel
theorem dL_law_23 : decode code 23 = .ok (.isub, 1) := by decide +kernel
theorem dL_law_24 : decode code 24 = .ok (.if_icmp .gt 1030, 3) := by decide +kernel
theorem dL_law_27 : decode code 27 = .ok (.aload_n 0, 1) := by decide +kernel
theorem dL_law_28 : decode code 28 = .ok (.iload_n 3, 1) := by decide +kernel
theorem dL_law_29 : decode code 29 = .ok (.iaload, 1) := by decide +kernel
theorem dL_law_30 : decode code 30 = .ok (.bipush 63, 2) := by decide +kernel
theorem dL_law_32 : decode code 32 = .ok (.iand, 1) := by decide +kernel
theorem dL_law_33 : decode code 33 = .ok (.tableswitch 1015 0 33 #[151, 174, 227, 250, 263, 276, 309, 332, 355, 378, 391, 424, 447, 470, 493, 506, 529, 562, 585, 618, 641, 704, 717, 740, 773, 796, 819, 852, 885, 909, 932, 955, 978, 1001], 151) := by decide +kernel
theorem dL_law_184 : decode code 184 = .ok (.aload_n 1, 1) := by decide +kernel
theorem dL_law_185 : decode code 185 = .ok (.aload_n 0, 1) := by decide +kernel
theorem dL_law_186 : decode code 186 = .ok (.iload_n 3, 1) := by decide +kernel
theorem dL_law_187 : decode code 187 = .ok (.iconst 1, 1) := by decide +kernel
theorem dL_law_188 : decode code 188 = .ok (.iadd, 1) := by decide +kernel
theorem dL_law_189 : decode code 189 = .ok (.iaload, 1) := by decide +kernel
theorem dL_law_190 : decode code 190 = .ok (.invokevirtual 13, 3) := by decide +kernel
theorem dL_law_193 : decode code 193 = .ok (.aload_n 2, 1) := by decide +kernel
theorem dL_law_194 : decode code 194 = .ok (.aload_n 0, 1) := by decide +kernel
theorem dL_law_195 : decode code 195 = .ok (.iload_n 3, 1) := by decide +kernel
theorem dL_law_196 : decode code 196 = .ok (.iconst 1, 1) := by decide +kernel
theorem dL_law_197 : decode code 197 = .ok (.iadd, 1) := by decide +kernel
theorem dL_law_198 : decode code 198 = .ok (.iaload, 1) := by decide +kernel
theorem dL_law_199 : decode code 199 = .ok (.invokevirtual 17, 3) := by decide +kernel
theorem dL_law_202 : decode code 202 = .ok (.if_icmp .eq 846, 3) := by decide +kernel
theorem dL_law_205 : decode code 205 = .ok (.iconst 0, 1) := by decide +kernel
theorem dL_law_206 : decode code 206 = .ok (.ireturn, 1) := by decide +kernel
theorem dL_law_207 : decode code 207 = .ok (.aload_n 1, 1) := by decide +kernel
theorem dL_law_208 : decode code 208 = .ok (.aload_n 0, 1) := by decide +kernel
theorem dL_law_209 : decode code 209 = .ok (.iload_n 3, 1) := by decide +kernel
theorem dL_law_210 : decode code 210 = .ok (.iconst 1, 1) := by decide +kernel
theorem dL_law_211 : decode code 211 = .ok (.iadd, 1) := by decide +kernel
theorem dL_law_212 : decode code 212 = .ok (.iaload, 1) := by decide +kernel
theorem dL_law_213 : decode code 213 = .ok (.aload_n 0, 1) := by decide +kernel
theorem dL_law_214 : decode code 214 = .ok (.iload_n 3, 1) := by decide +kernel
theorem dL_law_215 : decode code 215 = .ok (.iconst 2, 1) := by decide +kernel
theorem dL_law_216 : decode code 216 = .ok (.iadd, 1) := by decide +kernel
theorem dL_law_217 : decode code 217 = .ok (.iaload, 1) := by decide +kernel
theorem dL_law_218 : decode code 218 = .ok (.aload_n 0, 1) := by decide +kernel
theorem dL_law_219 : decode code 219 = .ok (.iload_n 3, 1) := by decide +kernel
theorem dL_law_220 : decode code 220 = .ok (.iconst 3, 1) := by decide +kernel
theorem dL_law_221 : decode code 221 = .ok (.iadd, 1) := by decide +kernel
theorem dL_law_222 : decode code 222 = .ok (.iaload, 1) := by decide +kernel
theorem dL_law_223 : decode code 223 = .ok (.aload_n 0, 1) := by decide +kernel
theorem dL_law_224 : decode code 224 = .ok (.iload_n 3, 1) := by decide +kernel
theorem dL_law_225 : decode code 225 = .ok (.iconst 4, 1) := by decide +kernel
theorem dL_law_226 : decode code 226 = .ok (.iadd, 1) := by decide +kernel
theorem dL_law_227 : decode code 227 = .ok (.iaload, 1) := by decide +kernel
theorem dL_law_228 : decode code 228 = .ok (.invokevirtual 18, 3) := by decide +kernel
theorem dL_law_231 : decode code 231 = .ok (.aload_n 2, 1) := by decide +kernel
theorem dL_law_232 : decode code 232 = .ok (.aload_n 0, 1) := by decide +kernel
theorem dL_law_233 : decode code 233 = .ok (.iload_n 3, 1) := by decide +kernel
theorem dL_law_234 : decode code 234 = .ok (.iconst 1, 1) := by decide +kernel
theorem dL_law_235 : decode code 235 = .ok (.iadd, 1) := by decide +kernel
theorem dL_law_236 : decode code 236 = .ok (.iaload, 1) := by decide +kernel
theorem dL_law_237 : decode code 237 = .ok (.aload_n 0, 1) := by decide +kernel
theorem dL_law_238 : decode code 238 = .ok (.iload_n 3, 1) := by decide +kernel
theorem dL_law_239 : decode code 239 = .ok (.iconst 2, 1) := by decide +kernel
theorem dL_law_240 : decode code 240 = .ok (.iadd, 1) := by decide +kernel
theorem dL_law_241 : decode code 241 = .ok (.iaload, 1) := by decide +kernel
theorem dL_law_242 : decode code 242 = .ok (.aload_n 0, 1) := by decide +kernel
theorem dL_law_243 : decode code 243 = .ok (.iload_n 3, 1) := by decide +kernel
theorem dL_law_244 : decode code 244 = .ok (.iconst 3, 1) := by decide +kernel
theorem dL_law_245 : decode code 245 = .ok (.iadd, 1) := by decide +kernel
theorem dL_law_246 : decode code 246 = .ok (.iaload, 1) := by decide +kernel
theorem dL_law_247 : decode code 247 = .ok (.aload_n 0, 1) := by decide +kernel
theorem dL_law_248 : decode code 248 = .ok (.iload_n 3, 1) := by decide +kernel
theorem dL_law_249 : decode code 249 = .ok (.iconst 4, 1) := by decide +kernel
theorem dL_law_250 : decode code 250 = .ok (.iadd, 1) := by decide +kernel
theorem dL_law_251 : decode code 251 = .ok (.iaload, 1) := by decide +kernel
theorem dL_law_252 : decode code 252 = .ok (.invokevirtual 22, 3) := by decide +kernel
theorem dL_law_255 : decode code 255 = .ok (.if_icmp .eq 793, 3) := by decide +kernel
theorem dL_law_258 : decode code 258 = .ok (.iconst 0, 1) := by decide +kernel
theorem dL_law_259 : decode code 259 = .ok (.ireturn, 1) := by decide +kernel
theorem dL_law_260 : decode code 260 = .ok (.aload_n 1, 1) := by decide +kernel
theorem dL_law_261 : decode code 261 = .ok (.aload_n 0, 1) := by decide +kernel
theorem dL_law_262 : decode code 262 = .ok (.iload_n 3, 1) := by decide +kernel
theorem dL_law_263 : decode code 263 = .ok (.iconst 1, 1) := by decide +kernel
theorem dL_law_264 : decode code 264 = .ok (.iadd, 1) := by decide +kernel
theorem dL_law_265 : decode code 265 = .ok (.iaload, 1) := by decide +kernel
theorem dL_law_266 : decode code 266 = .ok (.invokevirtual 23, 3) := by decide +kernel
theorem dL_law_269 : decode code 269 = .ok (.aload_n 2, 1) := by decide +kernel
theorem dL_law_270 : decode code 270 = .ok (.aload_n 0, 1) := by decide +kernel
theorem dL_law_271 : decode code 271 = .ok (.iload_n 3, 1) := by decide +kernel
theorem dL_law_272 : decode code 272 = .ok (.iconst 1, 1) := by decide +kernel
theorem dL_law_273 : decode code 273 = .ok (.iadd, 1) := by decide +kernel
theorem dL_law_274 : decode code 274 = .ok (.iaload, 1) := by decide +kernel
theorem dL_law_275 : decode code 275 = .ok (.invokevirtual 26, 3) := by decide +kernel
theorem dL_law_278 : decode code 278 = .ok (.if_icmp .eq 770, 3) := by decide +kernel
theorem dL_law_281 : decode code 281 = .ok (.iconst 0, 1) := by decide +kernel
theorem dL_law_282 : decode code 282 = .ok (.ireturn, 1) := by decide +kernel
theorem dL_law_283 : decode code 283 = .ok (.aload_n 1, 1) := by decide +kernel
theorem dL_law_284 : decode code 284 = .ok (.invokevirtual 27, 3) := by decide +kernel
theorem dL_law_287 : decode code 287 = .ok (.aload_n 2, 1) := by decide +kernel
theorem dL_law_288 : decode code 288 = .ok (.invokevirtual 31, 3) := by decide +kernel
theorem dL_law_291 : decode code 291 = .ok (.if_icmp .eq 757, 3) := by decide +kernel
theorem dL_law_294 : decode code 294 = .ok (.iconst 0, 1) := by decide +kernel
theorem dL_law_295 : decode code 295 = .ok (.ireturn, 1) := by decide +kernel
theorem dL_law_296 : decode code 296 = .ok (.aload_n 1, 1) := by decide +kernel
theorem dL_law_297 : decode code 297 = .ok (.invokevirtual 32, 3) := by decide +kernel
theorem dL_law_300 : decode code 300 = .ok (.aload_n 2, 1) := by decide +kernel
theorem dL_law_301 : decode code 301 = .ok (.invokevirtual 35, 3) := by decide +kernel
theorem dL_law_304 : decode code 304 = .ok (.if_icmp .eq 744, 3) := by decide +kernel
theorem dL_law_307 : decode code 307 = .ok (.iconst 0, 1) := by decide +kernel
theorem dL_law_308 : decode code 308 = .ok (.ireturn, 1) := by decide +kernel
theorem dL_law_309 : decode code 309 = .ok (.aload_n 1, 1) := by decide +kernel
theorem dL_law_310 : decode code 310 = .ok (.aload_n 0, 1) := by decide +kernel
theorem dL_law_311 : decode code 311 = .ok (.iload_n 3, 1) := by decide +kernel
theorem dL_law_312 : decode code 312 = .ok (.iconst 1, 1) := by decide +kernel
theorem dL_law_313 : decode code 313 = .ok (.iadd, 1) := by decide +kernel
theorem dL_law_314 : decode code 314 = .ok (.iaload, 1) := by decide +kernel
theorem dL_law_315 : decode code 315 = .ok (.aload_n 0, 1) := by decide +kernel
theorem dL_law_316 : decode code 316 = .ok (.iload_n 3, 1) := by decide +kernel
theorem dL_law_317 : decode code 317 = .ok (.iconst 2, 1) := by decide +kernel
theorem dL_law_318 : decode code 318 = .ok (.iadd, 1) := by decide +kernel
theorem dL_law_319 : decode code 319 = .ok (.iaload, 1) := by decide +kernel
theorem dL_law_320 : decode code 320 = .ok (.invokevirtual 36, 3) := by decide +kernel
theorem dL_law_323 : decode code 323 = .ok (.aload_n 2, 1) := by decide +kernel
theorem dL_law_324 : decode code 324 = .ok (.aload_n 0, 1) := by decide +kernel
theorem dL_law_325 : decode code 325 = .ok (.iload_n 3, 1) := by decide +kernel
theorem dL_law_326 : decode code 326 = .ok (.iconst 1, 1) := by decide +kernel
theorem dL_law_327 : decode code 327 = .ok (.iadd, 1) := by decide +kernel
theorem dL_law_328 : decode code 328 = .ok (.iaload, 1) := by decide +kernel
theorem dL_law_329 : decode code 329 = .ok (.aload_n 0, 1) := by decide +kernel
theorem dL_law_330 : decode code 330 = .ok (.iload_n 3, 1) := by decide +kernel
theorem dL_law_331 : decode code 331 = .ok (.iconst 2, 1) := by decide +kernel
theorem dL_law_332 : decode code 332 = .ok (.iadd, 1) := by decide +kernel
theorem dL_law_333 : decode code 333 = .ok (.iaload, 1) := by decide +kernel
theorem dL_law_334 : decode code 334 = .ok (.invokevirtual 40, 3) := by decide +kernel
theorem dL_law_337 : decode code 337 = .ok (.if_icmp .eq 711, 3) := by decide +kernel
theorem dL_law_340 : decode code 340 = .ok (.iconst 0, 1) := by decide +kernel
theorem dL_law_341 : decode code 341 = .ok (.ireturn, 1) := by decide +kernel
theorem dL_law_342 : decode code 342 = .ok (.aload_n 1, 1) := by decide +kernel
theorem dL_law_343 : decode code 343 = .ok (.aload_n 0, 1) := by decide +kernel
theorem dL_law_344 : decode code 344 = .ok (.iload_n 3, 1) := by decide +kernel
theorem dL_law_345 : decode code 345 = .ok (.iconst 1, 1) := by decide +kernel
theorem dL_law_346 : decode code 346 = .ok (.iadd, 1) := by decide +kernel
theorem dL_law_347 : decode code 347 = .ok (.iaload, 1) := by decide +kernel
theorem dL_law_348 : decode code 348 = .ok (.invokevirtual 41, 3) := by decide +kernel
theorem dL_law_351 : decode code 351 = .ok (.aload_n 2, 1) := by decide +kernel
theorem dL_law_352 : decode code 352 = .ok (.aload_n 0, 1) := by decide +kernel
theorem dL_law_353 : decode code 353 = .ok (.iload_n 3, 1) := by decide +kernel
theorem dL_law_354 : decode code 354 = .ok (.iconst 1, 1) := by decide +kernel
theorem dL_law_355 : decode code 355 = .ok (.iadd, 1) := by decide +kernel
theorem dL_law_356 : decode code 356 = .ok (.iaload, 1) := by decide +kernel
theorem dL_law_357 : decode code 357 = .ok (.invokevirtual 44, 3) := by decide +kernel
theorem dL_law_360 : decode code 360 = .ok (.if_icmp .eq 688, 3) := by decide +kernel
theorem dL_law_363 : decode code 363 = .ok (.iconst 0, 1) := by decide +kernel
theorem dL_law_364 : decode code 364 = .ok (.ireturn, 1) := by decide +kernel
theorem dL_law_365 : decode code 365 = .ok (.aload_n 1, 1) := by decide +kernel
theorem dL_law_366 : decode code 366 = .ok (.aload_n 0, 1) := by decide +kernel
theorem dL_law_367 : decode code 367 = .ok (.iload_n 3, 1) := by decide +kernel
theorem dL_law_368 : decode code 368 = .ok (.iconst 1, 1) := by decide +kernel
theorem dL_law_369 : decode code 369 = .ok (.iadd, 1) := by decide +kernel
theorem dL_law_370 : decode code 370 = .ok (.iaload, 1) := by decide +kernel
theorem dL_law_371 : decode code 371 = .ok (.invokevirtual 45, 3) := by decide +kernel
theorem dL_law_374 : decode code 374 = .ok (.aload_n 2, 1) := by decide +kernel
theorem dL_law_375 : decode code 375 = .ok (.aload_n 0, 1) := by decide +kernel
theorem dL_law_376 : decode code 376 = .ok (.iload_n 3, 1) := by decide +kernel
theorem dL_law_377 : decode code 377 = .ok (.iconst 1, 1) := by decide +kernel
theorem dL_law_378 : decode code 378 = .ok (.iadd, 1) := by decide +kernel
theorem dL_law_379 : decode code 379 = .ok (.iaload, 1) := by decide +kernel
theorem dL_law_380 : decode code 380 = .ok (.invokevirtual 48, 3) := by decide +kernel
theorem dL_law_383 : decode code 383 = .ok (.if_icmp .eq 665, 3) := by decide +kernel
theorem dL_law_386 : decode code 386 = .ok (.iconst 0, 1) := by decide +kernel
theorem dL_law_387 : decode code 387 = .ok (.ireturn, 1) := by decide +kernel
theorem dL_law_388 : decode code 388 = .ok (.aload_n 1, 1) := by decide +kernel
theorem dL_law_389 : decode code 389 = .ok (.aload_n 0, 1) := by decide +kernel
theorem dL_law_390 : decode code 390 = .ok (.iload_n 3, 1) := by decide +kernel
theorem dL_law_391 : decode code 391 = .ok (.iconst 1, 1) := by decide +kernel
theorem dL_law_392 : decode code 392 = .ok (.iadd, 1) := by decide +kernel
theorem dL_law_393 : decode code 393 = .ok (.iaload, 1) := by decide +kernel
theorem dL_law_394 : decode code 394 = .ok (.invokevirtual 49, 3) := by decide +kernel
theorem dL_law_397 : decode code 397 = .ok (.aload_n 2, 1) := by decide +kernel
theorem dL_law_398 : decode code 398 = .ok (.aload_n 0, 1) := by decide +kernel
theorem dL_law_399 : decode code 399 = .ok (.iload_n 3, 1) := by decide +kernel
theorem dL_law_400 : decode code 400 = .ok (.iconst 1, 1) := by decide +kernel
theorem dL_law_401 : decode code 401 = .ok (.iadd, 1) := by decide +kernel
theorem dL_law_402 : decode code 402 = .ok (.iaload, 1) := by decide +kernel
theorem dL_law_403 : decode code 403 = .ok (.invokevirtual 52, 3) := by decide +kernel
theorem dL_law_406 : decode code 406 = .ok (.if_icmp .eq 642, 3) := by decide +kernel
theorem dL_law_409 : decode code 409 = .ok (.iconst 0, 1) := by decide +kernel
theorem dL_law_410 : decode code 410 = .ok (.ireturn, 1) := by decide +kernel
theorem dL_law_411 : decode code 411 = .ok (.aload_n 1, 1) := by decide +kernel
theorem dL_law_412 : decode code 412 = .ok (.invokevirtual 53, 3) := by decide +kernel
theorem dL_law_415 : decode code 415 = .ok (.aload_n 2, 1) := by decide +kernel
theorem dL_law_416 : decode code 416 = .ok (.invokevirtual 56, 3) := by decide +kernel
theorem dL_law_419 : decode code 419 = .ok (.if_icmp .eq 629, 3) := by decide +kernel
theorem dL_law_422 : decode code 422 = .ok (.iconst 0, 1) := by decide +kernel
theorem dL_law_423 : decode code 423 = .ok (.ireturn, 1) := by decide +kernel
theorem dL_law_424 : decode code 424 = .ok (.aload_n 1, 1) := by decide +kernel
theorem dL_law_425 : decode code 425 = .ok (.aload_n 0, 1) := by decide +kernel
theorem dL_law_426 : decode code 426 = .ok (.iload_n 3, 1) := by decide +kernel
theorem dL_law_427 : decode code 427 = .ok (.iconst 1, 1) := by decide +kernel
theorem dL_law_428 : decode code 428 = .ok (.iadd, 1) := by decide +kernel
theorem dL_law_429 : decode code 429 = .ok (.iaload, 1) := by decide +kernel
theorem dL_law_430 : decode code 430 = .ok (.aload_n 0, 1) := by decide +kernel
theorem dL_law_431 : decode code 431 = .ok (.iload_n 3, 1) := by decide +kernel
theorem dL_law_432 : decode code 432 = .ok (.iconst 2, 1) := by decide +kernel
theorem dL_law_433 : decode code 433 = .ok (.iadd, 1) := by decide +kernel
theorem dL_law_434 : decode code 434 = .ok (.iaload, 1) := by decide +kernel
theorem dL_law_435 : decode code 435 = .ok (.invokevirtual 57, 3) := by decide +kernel
theorem dL_law_438 : decode code 438 = .ok (.aload_n 2, 1) := by decide +kernel
theorem dL_law_439 : decode code 439 = .ok (.aload_n 0, 1) := by decide +kernel
theorem dL_law_440 : decode code 440 = .ok (.iload_n 3, 1) := by decide +kernel
theorem dL_law_441 : decode code 441 = .ok (.iconst 1, 1) := by decide +kernel
theorem dL_law_442 : decode code 442 = .ok (.iadd, 1) := by decide +kernel
theorem dL_law_443 : decode code 443 = .ok (.iaload, 1) := by decide +kernel
theorem dL_law_444 : decode code 444 = .ok (.aload_n 0, 1) := by decide +kernel
theorem dL_law_445 : decode code 445 = .ok (.iload_n 3, 1) := by decide +kernel
theorem dL_law_446 : decode code 446 = .ok (.iconst 2, 1) := by decide +kernel
theorem dL_law_447 : decode code 447 = .ok (.iadd, 1) := by decide +kernel
theorem dL_law_448 : decode code 448 = .ok (.iaload, 1) := by decide +kernel
theorem dL_law_449 : decode code 449 = .ok (.invokevirtual 60, 3) := by decide +kernel
theorem dL_law_452 : decode code 452 = .ok (.if_icmp .eq 596, 3) := by decide +kernel
theorem dL_law_455 : decode code 455 = .ok (.iconst 0, 1) := by decide +kernel
theorem dL_law_456 : decode code 456 = .ok (.ireturn, 1) := by decide +kernel
theorem dL_law_457 : decode code 457 = .ok (.aload_n 1, 1) := by decide +kernel
theorem dL_law_458 : decode code 458 = .ok (.aload_n 0, 1) := by decide +kernel
theorem dL_law_459 : decode code 459 = .ok (.iload_n 3, 1) := by decide +kernel
theorem dL_law_460 : decode code 460 = .ok (.iconst 1, 1) := by decide +kernel
theorem dL_law_461 : decode code 461 = .ok (.iadd, 1) := by decide +kernel
theorem dL_law_462 : decode code 462 = .ok (.iaload, 1) := by decide +kernel
theorem dL_law_463 : decode code 463 = .ok (.invokevirtual 61, 3) := by decide +kernel
theorem dL_law_466 : decode code 466 = .ok (.aload_n 2, 1) := by decide +kernel
theorem dL_law_467 : decode code 467 = .ok (.aload_n 0, 1) := by decide +kernel
theorem dL_law_468 : decode code 468 = .ok (.iload_n 3, 1) := by decide +kernel
theorem dL_law_469 : decode code 469 = .ok (.iconst 1, 1) := by decide +kernel
theorem dL_law_470 : decode code 470 = .ok (.iadd, 1) := by decide +kernel
theorem dL_law_471 : decode code 471 = .ok (.iaload, 1) := by decide +kernel
theorem dL_law_472 : decode code 472 = .ok (.invokevirtual 64, 3) := by decide +kernel
theorem dL_law_475 : decode code 475 = .ok (.if_icmp .eq 573, 3) := by decide +kernel
theorem dL_law_478 : decode code 478 = .ok (.iconst 0, 1) := by decide +kernel
theorem dL_law_479 : decode code 479 = .ok (.ireturn, 1) := by decide +kernel
theorem dL_law_480 : decode code 480 = .ok (.aload_n 1, 1) := by decide +kernel
theorem dL_law_481 : decode code 481 = .ok (.aload_n 0, 1) := by decide +kernel
theorem dL_law_482 : decode code 482 = .ok (.iload_n 3, 1) := by decide +kernel
theorem dL_law_483 : decode code 483 = .ok (.iconst 1, 1) := by decide +kernel
theorem dL_law_484 : decode code 484 = .ok (.iadd, 1) := by decide +kernel
theorem dL_law_485 : decode code 485 = .ok (.iaload, 1) := by decide +kernel
theorem dL_law_486 : decode code 486 = .ok (.invokevirtual 65, 3) := by decide +kernel
theorem dL_law_489 : decode code 489 = .ok (.aload_n 2, 1) := by decide +kernel
theorem dL_law_490 : decode code 490 = .ok (.aload_n 0, 1) := by decide +kernel
theorem dL_law_491 : decode code 491 = .ok (.iload_n 3, 1) := by decide +kernel
theorem dL_law_492 : decode code 492 = .ok (.iconst 1, 1) := by decide +kernel
theorem dL_law_493 : decode code 493 = .ok (.iadd, 1) := by decide +kernel
theorem dL_law_494 : decode code 494 = .ok (.iaload, 1) := by decide +kernel
theorem dL_law_495 : decode code 495 = .ok (.invokevirtual 68, 3) := by decide +kernel
theorem dL_law_498 : decode code 498 = .ok (.if_icmp .eq 550, 3) := by decide +kernel
theorem dL_law_501 : decode code 501 = .ok (.iconst 0, 1) := by decide +kernel
theorem dL_law_502 : decode code 502 = .ok (.ireturn, 1) := by decide +kernel
theorem dL_law_503 : decode code 503 = .ok (.aload_n 1, 1) := by decide +kernel
theorem dL_law_504 : decode code 504 = .ok (.aload_n 0, 1) := by decide +kernel
theorem dL_law_505 : decode code 505 = .ok (.iload_n 3, 1) := by decide +kernel
theorem dL_law_506 : decode code 506 = .ok (.iconst 1, 1) := by decide +kernel
theorem dL_law_507 : decode code 507 = .ok (.iadd, 1) := by decide +kernel
theorem dL_law_508 : decode code 508 = .ok (.iaload, 1) := by decide +kernel
theorem dL_law_509 : decode code 509 = .ok (.invokevirtual 69, 3) := by decide +kernel
theorem dL_law_512 : decode code 512 = .ok (.aload_n 2, 1) := by decide +kernel
theorem dL_law_513 : decode code 513 = .ok (.aload_n 0, 1) := by decide +kernel
theorem dL_law_514 : decode code 514 = .ok (.iload_n 3, 1) := by decide +kernel
theorem dL_law_515 : decode code 515 = .ok (.iconst 1, 1) := by decide +kernel
theorem dL_law_516 : decode code 516 = .ok (.iadd, 1) := by decide +kernel
theorem dL_law_517 : decode code 517 = .ok (.iaload, 1) := by decide +kernel
theorem dL_law_518 : decode code 518 = .ok (.invokevirtual 72, 3) := by decide +kernel
theorem dL_law_521 : decode code 521 = .ok (.if_icmp .eq 527, 3) := by decide +kernel
theorem dL_law_524 : decode code 524 = .ok (.iconst 0, 1) := by decide +kernel
theorem dL_law_525 : decode code 525 = .ok (.ireturn, 1) := by decide +kernel
theorem dL_law_526 : decode code 526 = .ok (.aload_n 1, 1) := by decide +kernel
theorem dL_law_527 : decode code 527 = .ok (.invokevirtual 73, 3) := by decide +kernel
theorem dL_law_530 : decode code 530 = .ok (.aload_n 2, 1) := by decide +kernel
theorem dL_law_531 : decode code 531 = .ok (.invokevirtual 76, 3) := by decide +kernel
theorem dL_law_534 : decode code 534 = .ok (.if_icmp .eq 514, 3) := by decide +kernel
theorem dL_law_537 : decode code 537 = .ok (.iconst 0, 1) := by decide +kernel
theorem dL_law_538 : decode code 538 = .ok (.ireturn, 1) := by decide +kernel
theorem dL_law_539 : decode code 539 = .ok (.aload_n 1, 1) := by decide +kernel
theorem dL_law_540 : decode code 540 = .ok (.aload_n 0, 1) := by decide +kernel
theorem dL_law_541 : decode code 541 = .ok (.iload_n 3, 1) := by decide +kernel
theorem dL_law_542 : decode code 542 = .ok (.iconst 1, 1) := by decide +kernel
theorem dL_law_543 : decode code 543 = .ok (.iadd, 1) := by decide +kernel
theorem dL_law_544 : decode code 544 = .ok (.iaload, 1) := by decide +kernel
theorem dL_law_545 : decode code 545 = .ok (.invokevirtual 77, 3) := by decide +kernel
theorem dL_law_548 : decode code 548 = .ok (.aload_n 2, 1) := by decide +kernel
theorem dL_law_549 : decode code 549 = .ok (.aload_n 0, 1) := by decide +kernel
theorem dL_law_550 : decode code 550 = .ok (.iload_n 3, 1) := by decide +kernel
theorem dL_law_551 : decode code 551 = .ok (.iconst 1, 1) := by decide +kernel
theorem dL_law_552 : decode code 552 = .ok (.iadd, 1) := by decide +kernel
theorem dL_law_553 : decode code 553 = .ok (.iaload, 1) := by decide +kernel
theorem dL_law_554 : decode code 554 = .ok (.invokevirtual 80, 3) := by decide +kernel
theorem dL_law_557 : decode code 557 = .ok (.if_icmp .eq 491, 3) := by decide +kernel
theorem dL_law_560 : decode code 560 = .ok (.iconst 0, 1) := by decide +kernel
theorem dL_law_561 : decode code 561 = .ok (.ireturn, 1) := by decide +kernel
theorem dL_law_562 : decode code 562 = .ok (.aload_n 1, 1) := by decide +kernel
theorem dL_law_563 : decode code 563 = .ok (.aload_n 0, 1) := by decide +kernel
theorem dL_law_564 : decode code 564 = .ok (.iload_n 3, 1) := by decide +kernel
theorem dL_law_565 : decode code 565 = .ok (.iconst 1, 1) := by decide +kernel
theorem dL_law_566 : decode code 566 = .ok (.iadd, 1) := by decide +kernel
theorem dL_law_567 : decode code 567 = .ok (.iaload, 1) := by decide +kernel
theorem dL_law_568 : decode code 568 = .ok (.aload_n 0, 1) := by decide +kernel
theorem dL_law_569 : decode code 569 = .ok (.iload_n 3, 1) := by decide +kernel
theorem dL_law_570 : decode code 570 = .ok (.iconst 2, 1) := by decide +kernel
theorem dL_law_571 : decode code 571 = .ok (.iadd, 1) := by decide +kernel
theorem dL_law_572 : decode code 572 = .ok (.iaload, 1) := by decide +kernel
theorem dL_law_573 : decode code 573 = .ok (.invokevirtual 81, 3) := by decide +kernel
theorem dL_law_576 : decode code 576 = .ok (.aload_n 2, 1) := by decide +kernel
theorem dL_law_577 : decode code 577 = .ok (.aload_n 0, 1) := by decide +kernel
theorem dL_law_578 : decode code 578 = .ok (.iload_n 3, 1) := by decide +kernel
theorem dL_law_579 : decode code 579 = .ok (.iconst 1, 1) := by decide +kernel
theorem dL_law_580 : decode code 580 = .ok (.iadd, 1) := by decide +kernel
theorem dL_law_581 : decode code 581 = .ok (.iaload, 1) := by decide +kernel
theorem dL_law_582 : decode code 582 = .ok (.aload_n 0, 1) := by decide +kernel
theorem dL_law_583 : decode code 583 = .ok (.iload_n 3, 1) := by decide +kernel
theorem dL_law_584 : decode code 584 = .ok (.iconst 2, 1) := by decide +kernel
theorem dL_law_585 : decode code 585 = .ok (.iadd, 1) := by decide +kernel
theorem dL_law_586 : decode code 586 = .ok (.iaload, 1) := by decide +kernel
theorem dL_law_587 : decode code 587 = .ok (.invokevirtual 84, 3) := by decide +kernel
theorem dL_law_590 : decode code 590 = .ok (.if_icmp .eq 458, 3) := by decide +kernel
theorem dL_law_593 : decode code 593 = .ok (.iconst 0, 1) := by decide +kernel
theorem dL_law_594 : decode code 594 = .ok (.ireturn, 1) := by decide +kernel
theorem dL_law_595 : decode code 595 = .ok (.aload_n 1, 1) := by decide +kernel
theorem dL_law_596 : decode code 596 = .ok (.aload_n 0, 1) := by decide +kernel
theorem dL_law_597 : decode code 597 = .ok (.iload_n 3, 1) := by decide +kernel
theorem dL_law_598 : decode code 598 = .ok (.iconst 1, 1) := by decide +kernel
theorem dL_law_599 : decode code 599 = .ok (.iadd, 1) := by decide +kernel
theorem dL_law_600 : decode code 600 = .ok (.iaload, 1) := by decide +kernel
theorem dL_law_601 : decode code 601 = .ok (.invokevirtual 85, 3) := by decide +kernel
theorem dL_law_604 : decode code 604 = .ok (.aload_n 2, 1) := by decide +kernel
theorem dL_law_605 : decode code 605 = .ok (.aload_n 0, 1) := by decide +kernel
theorem dL_law_606 : decode code 606 = .ok (.iload_n 3, 1) := by decide +kernel
theorem dL_law_607 : decode code 607 = .ok (.iconst 1, 1) := by decide +kernel
theorem dL_law_608 : decode code 608 = .ok (.iadd, 1) := by decide +kernel
theorem dL_law_609 : decode code 609 = .ok (.iaload, 1) := by decide +kernel
theorem dL_law_610 : decode code 610 = .ok (.invokevirtual 88, 3) := by decide +kernel
theorem dL_law_613 : decode code 613 = .ok (.if_icmp .eq 435, 3) := by decide +kernel
theorem dL_law_616 : decode code 616 = .ok (.iconst 0, 1) := by decide +kernel
theorem dL_law_617 : decode code 617 = .ok (.ireturn, 1) := by decide +kernel
theorem dL_law_618 : decode code 618 = .ok (.aload_n 1, 1) := by decide +kernel
theorem dL_law_619 : decode code 619 = .ok (.aload_n 0, 1) := by decide +kernel
theorem dL_law_620 : decode code 620 = .ok (.iload_n 3, 1) := by decide +kernel
theorem dL_law_621 : decode code 621 = .ok (.iconst 1, 1) := by decide +kernel
theorem dL_law_622 : decode code 622 = .ok (.iadd, 1) := by decide +kernel
theorem dL_law_623 : decode code 623 = .ok (.iaload, 1) := by decide +kernel
theorem dL_law_624 : decode code 624 = .ok (.aload_n 0, 1) := by decide +kernel
theorem dL_law_625 : decode code 625 = .ok (.iload_n 3, 1) := by decide +kernel
theorem dL_law_626 : decode code 626 = .ok (.iconst 2, 1) := by decide +kernel
theorem dL_law_627 : decode code 627 = .ok (.iadd, 1) := by decide +kernel
theorem dL_law_628 : decode code 628 = .ok (.iaload, 1) := by decide +kernel
theorem dL_law_629 : decode code 629 = .ok (.invokevirtual 89, 3) := by decide +kernel
theorem dL_law_632 : decode code 632 = .ok (.aload_n 2, 1) := by decide +kernel
theorem dL_law_633 : decode code 633 = .ok (.aload_n 0, 1) := by decide +kernel
theorem dL_law_634 : decode code 634 = .ok (.iload_n 3, 1) := by decide +kernel
theorem dL_law_635 : decode code 635 = .ok (.iconst 1, 1) := by decide +kernel
theorem dL_law_636 : decode code 636 = .ok (.iadd, 1) := by decide +kernel
theorem dL_law_637 : decode code 637 = .ok (.iaload, 1) := by decide +kernel
theorem dL_law_638 : decode code 638 = .ok (.aload_n 0, 1) := by decide +kernel
theorem dL_law_639 : decode code 639 = .ok (.iload_n 3, 1) := by decide +kernel
theorem dL_law_640 : decode code 640 = .ok (.iconst 2, 1) := by decide +kernel
theorem dL_law_641 : decode code 641 = .ok (.iadd, 1) := by decide +kernel
theorem dL_law_642 : decode code 642 = .ok (.iaload, 1) := by decide +kernel
theorem dL_law_643 : decode code 643 = .ok (.invokevirtual 92, 3) := by decide +kernel
theorem dL_law_646 : decode code 646 = .ok (.if_icmp .eq 402, 3) := by decide +kernel
theorem dL_law_649 : decode code 649 = .ok (.iconst 0, 1) := by decide +kernel
theorem dL_law_650 : decode code 650 = .ok (.ireturn, 1) := by decide +kernel
theorem dL_law_651 : decode code 651 = .ok (.aload_n 1, 1) := by decide +kernel
theorem dL_law_652 : decode code 652 = .ok (.aload_n 0, 1) := by decide +kernel
theorem dL_law_653 : decode code 653 = .ok (.iload_n 3, 1) := by decide +kernel
theorem dL_law_654 : decode code 654 = .ok (.iconst 1, 1) := by decide +kernel
theorem dL_law_655 : decode code 655 = .ok (.iadd, 1) := by decide +kernel
theorem dL_law_656 : decode code 656 = .ok (.iaload, 1) := by decide +kernel
theorem dL_law_657 : decode code 657 = .ok (.invokevirtual 93, 3) := by decide +kernel
theorem dL_law_660 : decode code 660 = .ok (.aload_n 2, 1) := by decide +kernel
theorem dL_law_661 : decode code 661 = .ok (.aload_n 0, 1) := by decide +kernel
theorem dL_law_662 : decode code 662 = .ok (.iload_n 3, 1) := by decide +kernel
theorem dL_law_663 : decode code 663 = .ok (.iconst 1, 1) := by decide +kernel
theorem dL_law_664 : decode code 664 = .ok (.iadd, 1) := by decide +kernel
theorem dL_law_665 : decode code 665 = .ok (.iaload, 1) := by decide +kernel
theorem dL_law_666 : decode code 666 = .ok (.invokevirtual 96, 3) := by decide +kernel
theorem dL_law_669 : decode code 669 = .ok (.if_icmp .eq 379, 3) := by decide +kernel
theorem dL_law_672 : decode code 672 = .ok (.iconst 0, 1) := by decide +kernel
theorem dL_law_673 : decode code 673 = .ok (.ireturn, 1) := by decide +kernel
theorem dL_law_674 : decode code 674 = .ok (.aload_n 1, 1) := by decide +kernel
theorem dL_law_675 : decode code 675 = .ok (.aload_n 0, 1) := by decide +kernel
theorem dL_law_676 : decode code 676 = .ok (.iload_n 3, 1) := by decide +kernel
theorem dL_law_677 : decode code 677 = .ok (.iconst 1, 1) := by decide +kernel
theorem dL_law_678 : decode code 678 = .ok (.iadd, 1) := by decide +kernel
theorem dL_law_679 : decode code 679 = .ok (.iaload, 1) := by decide +kernel
theorem dL_law_680 : decode code 680 = .ok (.aload_n 0, 1) := by decide +kernel
theorem dL_law_681 : decode code 681 = .ok (.iload_n 3, 1) := by decide +kernel
theorem dL_law_682 : decode code 682 = .ok (.iconst 2, 1) := by decide +kernel
theorem dL_law_683 : decode code 683 = .ok (.iadd, 1) := by decide +kernel
theorem dL_law_684 : decode code 684 = .ok (.iaload, 1) := by decide +kernel
theorem dL_law_685 : decode code 685 = .ok (.aload_n 0, 1) := by decide +kernel
theorem dL_law_686 : decode code 686 = .ok (.iload_n 3, 1) := by decide +kernel
theorem dL_law_687 : decode code 687 = .ok (.iconst 3, 1) := by decide +kernel
theorem dL_law_688 : decode code 688 = .ok (.iadd, 1) := by decide +kernel
theorem dL_law_689 : decode code 689 = .ok (.iaload, 1) := by decide +kernel
theorem dL_law_690 : decode code 690 = .ok (.aload_n 0, 1) := by decide +kernel
theorem dL_law_691 : decode code 691 = .ok (.iload_n 3, 1) := by decide +kernel
theorem dL_law_692 : decode code 692 = .ok (.iconst 4, 1) := by decide +kernel
theorem dL_law_693 : decode code 693 = .ok (.iadd, 1) := by decide +kernel
theorem dL_law_694 : decode code 694 = .ok (.iaload, 1) := by decide +kernel
theorem dL_law_695 : decode code 695 = .ok (.aload_n 0, 1) := by decide +kernel
theorem dL_law_696 : decode code 696 = .ok (.iload_n 3, 1) := by decide +kernel
theorem dL_law_697 : decode code 697 = .ok (.iconst 5, 1) := by decide +kernel
theorem dL_law_698 : decode code 698 = .ok (.iadd, 1) := by decide +kernel
theorem dL_law_699 : decode code 699 = .ok (.iaload, 1) := by decide +kernel
theorem dL_law_700 : decode code 700 = .ok (.invokevirtual 97, 3) := by decide +kernel
theorem dL_law_703 : decode code 703 = .ok (.aload_n 2, 1) := by decide +kernel
theorem dL_law_704 : decode code 704 = .ok (.aload_n 0, 1) := by decide +kernel
theorem dL_law_705 : decode code 705 = .ok (.iload_n 3, 1) := by decide +kernel
theorem dL_law_706 : decode code 706 = .ok (.iconst 1, 1) := by decide +kernel
theorem dL_law_707 : decode code 707 = .ok (.iadd, 1) := by decide +kernel
theorem dL_law_708 : decode code 708 = .ok (.iaload, 1) := by decide +kernel
theorem dL_law_709 : decode code 709 = .ok (.aload_n 0, 1) := by decide +kernel
theorem dL_law_710 : decode code 710 = .ok (.iload_n 3, 1) := by decide +kernel
theorem dL_law_711 : decode code 711 = .ok (.iconst 2, 1) := by decide +kernel
theorem dL_law_712 : decode code 712 = .ok (.iadd, 1) := by decide +kernel
theorem dL_law_713 : decode code 713 = .ok (.iaload, 1) := by decide +kernel
theorem dL_law_714 : decode code 714 = .ok (.aload_n 0, 1) := by decide +kernel
theorem dL_law_715 : decode code 715 = .ok (.iload_n 3, 1) := by decide +kernel
theorem dL_law_716 : decode code 716 = .ok (.iconst 3, 1) := by decide +kernel
theorem dL_law_717 : decode code 717 = .ok (.iadd, 1) := by decide +kernel
theorem dL_law_718 : decode code 718 = .ok (.iaload, 1) := by decide +kernel
theorem dL_law_719 : decode code 719 = .ok (.aload_n 0, 1) := by decide +kernel
theorem dL_law_720 : decode code 720 = .ok (.iload_n 3, 1) := by decide +kernel
theorem dL_law_721 : decode code 721 = .ok (.iconst 4, 1) := by decide +kernel
theorem dL_law_722 : decode code 722 = .ok (.iadd, 1) := by decide +kernel
theorem dL_law_723 : decode code 723 = .ok (.iaload, 1) := by decide +kernel
theorem dL_law_724 : decode code 724 = .ok (.aload_n 0, 1) := by decide +kernel
theorem dL_law_725 : decode code 725 = .ok (.iload_n 3, 1) := by decide +kernel
theorem dL_law_726 : decode code 726 = .ok (.iconst 5, 1) := by decide +kernel
theorem dL_law_727 : decode code 727 = .ok (.iadd, 1) := by decide +kernel
theorem dL_law_728 : decode code 728 = .ok (.iaload, 1) := by decide +kernel
theorem dL_law_729 : decode code 729 = .ok (.invokevirtual 101, 3) := by decide +kernel
theorem dL_law_732 : decode code 732 = .ok (.if_icmp .eq 316, 3) := by decide +kernel
theorem dL_law_735 : decode code 735 = .ok (.iconst 0, 1) := by decide +kernel
theorem dL_law_736 : decode code 736 = .ok (.ireturn, 1) := by decide +kernel
theorem dL_law_737 : decode code 737 = .ok (.aload_n 1, 1) := by decide +kernel
theorem dL_law_738 : decode code 738 = .ok (.invokevirtual 102, 3) := by decide +kernel
theorem dL_law_741 : decode code 741 = .ok (.aload_n 2, 1) := by decide +kernel
theorem dL_law_742 : decode code 742 = .ok (.invokevirtual 105, 3) := by decide +kernel
theorem dL_law_745 : decode code 745 = .ok (.if_icmp .eq 303, 3) := by decide +kernel
theorem dL_law_748 : decode code 748 = .ok (.iconst 0, 1) := by decide +kernel
theorem dL_law_749 : decode code 749 = .ok (.ireturn, 1) := by decide +kernel
theorem dL_law_750 : decode code 750 = .ok (.aload_n 1, 1) := by decide +kernel
theorem dL_law_751 : decode code 751 = .ok (.aload_n 0, 1) := by decide +kernel
theorem dL_law_752 : decode code 752 = .ok (.iload_n 3, 1) := by decide +kernel
theorem dL_law_753 : decode code 753 = .ok (.iconst 1, 1) := by decide +kernel
theorem dL_law_754 : decode code 754 = .ok (.iadd, 1) := by decide +kernel
theorem dL_law_755 : decode code 755 = .ok (.iaload, 1) := by decide +kernel
theorem dL_law_756 : decode code 756 = .ok (.invokevirtual 106, 3) := by decide +kernel
theorem dL_law_759 : decode code 759 = .ok (.aload_n 2, 1) := by decide +kernel
theorem dL_law_760 : decode code 760 = .ok (.aload_n 0, 1) := by decide +kernel
theorem dL_law_761 : decode code 761 = .ok (.iload_n 3, 1) := by decide +kernel
theorem dL_law_762 : decode code 762 = .ok (.iconst 1, 1) := by decide +kernel
theorem dL_law_763 : decode code 763 = .ok (.iadd, 1) := by decide +kernel
theorem dL_law_764 : decode code 764 = .ok (.iaload, 1) := by decide +kernel
theorem dL_law_765 : decode code 765 = .ok (.invokevirtual 109, 3) := by decide +kernel
theorem dL_law_768 : decode code 768 = .ok (.if_icmp .eq 280, 3) := by decide +kernel
theorem dL_law_771 : decode code 771 = .ok (.iconst 0, 1) := by decide +kernel
theorem dL_law_772 : decode code 772 = .ok (.ireturn, 1) := by decide +kernel
theorem dL_law_773 : decode code 773 = .ok (.aload_n 1, 1) := by decide +kernel
theorem dL_law_774 : decode code 774 = .ok (.aload_n 0, 1) := by decide +kernel
theorem dL_law_775 : decode code 775 = .ok (.iload_n 3, 1) := by decide +kernel
theorem dL_law_776 : decode code 776 = .ok (.iconst 1, 1) := by decide +kernel
theorem dL_law_777 : decode code 777 = .ok (.iadd, 1) := by decide +kernel
theorem dL_law_778 : decode code 778 = .ok (.iaload, 1) := by decide +kernel
theorem dL_law_779 : decode code 779 = .ok (.aload_n 0, 1) := by decide +kernel
theorem dL_law_780 : decode code 780 = .ok (.iload_n 3, 1) := by decide +kernel
theorem dL_law_781 : decode code 781 = .ok (.iconst 2, 1) := by decide +kernel
theorem dL_law_782 : decode code 782 = .ok (.iadd, 1) := by decide +kernel
theorem dL_law_783 : decode code 783 = .ok (.iaload, 1) := by decide +kernel
theorem dL_law_784 : decode code 784 = .ok (.invokevirtual 110, 3) := by decide +kernel
theorem dL_law_787 : decode code 787 = .ok (.aload_n 2, 1) := by decide +kernel
theorem dL_law_788 : decode code 788 = .ok (.aload_n 0, 1) := by decide +kernel
theorem dL_law_789 : decode code 789 = .ok (.iload_n 3, 1) := by decide +kernel
theorem dL_law_790 : decode code 790 = .ok (.iconst 1, 1) := by decide +kernel
theorem dL_law_791 : decode code 791 = .ok (.iadd, 1) := by decide +kernel
theorem dL_law_792 : decode code 792 = .ok (.iaload, 1) := by decide +kernel
theorem dL_law_793 : decode code 793 = .ok (.aload_n 0, 1) := by decide +kernel
theorem dL_law_794 : decode code 794 = .ok (.iload_n 3, 1) := by decide +kernel
theorem dL_law_795 : decode code 795 = .ok (.iconst 2, 1) := by decide +kernel
theorem dL_law_796 : decode code 796 = .ok (.iadd, 1) := by decide +kernel
theorem dL_law_797 : decode code 797 = .ok (.iaload, 1) := by decide +kernel
theorem dL_law_798 : decode code 798 = .ok (.invokevirtual 113, 3) := by decide +kernel
theorem dL_law_801 : decode code 801 = .ok (.if_icmp .eq 247, 3) := by decide +kernel
theorem dL_law_804 : decode code 804 = .ok (.iconst 0, 1) := by decide +kernel
theorem dL_law_805 : decode code 805 = .ok (.ireturn, 1) := by decide +kernel
theorem dL_law_806 : decode code 806 = .ok (.aload_n 1, 1) := by decide +kernel
theorem dL_law_807 : decode code 807 = .ok (.aload_n 0, 1) := by decide +kernel
theorem dL_law_808 : decode code 808 = .ok (.iload_n 3, 1) := by decide +kernel
theorem dL_law_809 : decode code 809 = .ok (.iconst 1, 1) := by decide +kernel
theorem dL_law_810 : decode code 810 = .ok (.iadd, 1) := by decide +kernel
theorem dL_law_811 : decode code 811 = .ok (.iaload, 1) := by decide +kernel
theorem dL_law_812 : decode code 812 = .ok (.invokevirtual 114, 3) := by decide +kernel
theorem dL_law_815 : decode code 815 = .ok (.aload_n 2, 1) := by decide +kernel
theorem dL_law_816 : decode code 816 = .ok (.aload_n 0, 1) := by decide +kernel
theorem dL_law_817 : decode code 817 = .ok (.iload_n 3, 1) := by decide +kernel
theorem dL_law_818 : decode code 818 = .ok (.iconst 1, 1) := by decide +kernel
theorem dL_law_819 : decode code 819 = .ok (.iadd, 1) := by decide +kernel
theorem dL_law_820 : decode code 820 = .ok (.iaload, 1) := by decide +kernel
theorem dL_law_821 : decode code 821 = .ok (.invokevirtual 117, 3) := by decide +kernel
theorem dL_law_824 : decode code 824 = .ok (.if_icmp .eq 224, 3) := by decide +kernel
theorem dL_law_827 : decode code 827 = .ok (.iconst 0, 1) := by decide +kernel
theorem dL_law_828 : decode code 828 = .ok (.ireturn, 1) := by decide +kernel
theorem dL_law_829 : decode code 829 = .ok (.aload_n 1, 1) := by decide +kernel
theorem dL_law_830 : decode code 830 = .ok (.aload_n 0, 1) := by decide +kernel
theorem dL_law_831 : decode code 831 = .ok (.iload_n 3, 1) := by decide +kernel
theorem dL_law_832 : decode code 832 = .ok (.iconst 1, 1) := by decide +kernel
theorem dL_law_833 : decode code 833 = .ok (.iadd, 1) := by decide +kernel
theorem dL_law_834 : decode code 834 = .ok (.iaload, 1) := by decide +kernel
theorem dL_law_835 : decode code 835 = .ok (.invokevirtual 118, 3) := by decide +kernel
theorem dL_law_838 : decode code 838 = .ok (.aload_n 2, 1) := by decide +kernel
theorem dL_law_839 : decode code 839 = .ok (.aload_n 0, 1) := by decide +kernel
theorem dL_law_840 : decode code 840 = .ok (.iload_n 3, 1) := by decide +kernel
theorem dL_law_841 : decode code 841 = .ok (.iconst 1, 1) := by decide +kernel
theorem dL_law_842 : decode code 842 = .ok (.iadd, 1) := by decide +kernel
theorem dL_law_843 : decode code 843 = .ok (.iaload, 1) := by decide +kernel
theorem dL_law_844 : decode code 844 = .ok (.invokevirtual 121, 3) := by decide +kernel
theorem dL_law_847 : decode code 847 = .ok (.if_icmp .eq 201, 3) := by decide +kernel
theorem dL_law_850 : decode code 850 = .ok (.iconst 0, 1) := by decide +kernel
theorem dL_law_851 : decode code 851 = .ok (.ireturn, 1) := by decide +kernel
theorem dL_law_852 : decode code 852 = .ok (.aload_n 1, 1) := by decide +kernel
theorem dL_law_853 : decode code 853 = .ok (.aload_n 0, 1) := by decide +kernel
theorem dL_law_854 : decode code 854 = .ok (.iload_n 3, 1) := by decide +kernel
theorem dL_law_855 : decode code 855 = .ok (.iconst 1, 1) := by decide +kernel
theorem dL_law_856 : decode code 856 = .ok (.iadd, 1) := by decide +kernel
theorem dL_law_857 : decode code 857 = .ok (.iaload, 1) := by decide +kernel
theorem dL_law_858 : decode code 858 = .ok (.aload_n 0, 1) := by decide +kernel
theorem dL_law_859 : decode code 859 = .ok (.iload_n 3, 1) := by decide +kernel
theorem dL_law_860 : decode code 860 = .ok (.iconst 2, 1) := by decide +kernel
theorem dL_law_861 : decode code 861 = .ok (.iadd, 1) := by decide +kernel
theorem dL_law_862 : decode code 862 = .ok (.iaload, 1) := by decide +kernel
theorem dL_law_863 : decode code 863 = .ok (.invokevirtual 122, 3) := by decide +kernel
theorem dL_law_866 : decode code 866 = .ok (.aload_n 2, 1) := by decide +kernel
theorem dL_law_867 : decode code 867 = .ok (.aload_n 0, 1) := by decide +kernel
theorem dL_law_868 : decode code 868 = .ok (.iload_n 3, 1) := by decide +kernel
theorem dL_law_869 : decode code 869 = .ok (.iconst 1, 1) := by decide +kernel
theorem dL_law_870 : decode code 870 = .ok (.iadd, 1) := by decide +kernel
theorem dL_law_871 : decode code 871 = .ok (.iaload, 1) := by decide +kernel
theorem dL_law_872 : decode code 872 = .ok (.aload_n 0, 1) := by decide +kernel
theorem dL_law_873 : decode code 873 = .ok (.iload_n 3, 1) := by decide +kernel
theorem dL_law_874 : decode code 874 = .ok (.iconst 2, 1) := by decide +kernel
theorem dL_law_875 : decode code 875 = .ok (.iadd, 1) := by decide +kernel
theorem dL_law_876 : decode code 876 = .ok (.iaload, 1) := by decide +kernel
theorem dL_law_877 : decode code 877 = .ok (.invokevirtual 125, 3) := by decide +kernel
theorem dL_law_880 : decode code 880 = .ok (.if_icmp .eq 168, 3) := by decide +kernel
theorem dL_law_883 : decode code 883 = .ok (.iconst 0, 1) := by decide +kernel
theorem dL_law_884 : decode code 884 = .ok (.ireturn, 1) := by decide +kernel
theorem dL_law_885 : decode code 885 = .ok (.aload_n 1, 1) := by decide +kernel
theorem dL_law_886 : decode code 886 = .ok (.aload_n 0, 1) := by decide +kernel
theorem dL_law_887 : decode code 887 = .ok (.iload_n 3, 1) := by decide +kernel
theorem dL_law_888 : decode code 888 = .ok (.iconst 1, 1) := by decide +kernel
theorem dL_law_889 : decode code 889 = .ok (.iadd, 1) := by decide +kernel
theorem dL_law_890 : decode code 890 = .ok (.iaload, 1) := by decide +kernel
theorem dL_law_891 : decode code 891 = .ok (.aload_n 0, 1) := by decide +kernel
theorem dL_law_892 : decode code 892 = .ok (.iload_n 3, 1) := by decide +kernel
theorem dL_law_893 : decode code 893 = .ok (.iconst 2, 1) := by decide +kernel
theorem dL_law_894 : decode code 894 = .ok (.iadd, 1) := by decide +kernel
theorem dL_law_895 : decode code 895 = .ok (.iaload, 1) := by decide +kernel
theorem dL_law_896 : decode code 896 = .ok (.invokevirtual 126, 3) := by decide +kernel
theorem dL_law_899 : decode code 899 = .ok (.aload_n 2, 1) := by decide +kernel
theorem dL_law_900 : decode code 900 = .ok (.aload_n 0, 1) := by decide +kernel
theorem dL_law_901 : decode code 901 = .ok (.iload_n 3, 1) := by decide +kernel
theorem dL_law_902 : decode code 902 = .ok (.iconst 1, 1) := by decide +kernel
theorem dL_law_903 : decode code 903 = .ok (.iadd, 1) := by decide +kernel
theorem dL_law_904 : decode code 904 = .ok (.iaload, 1) := by decide +kernel
theorem dL_law_905 : decode code 905 = .ok (.aload_n 0, 1) := by decide +kernel
theorem dL_law_906 : decode code 906 = .ok (.iload_n 3, 1) := by decide +kernel
theorem dL_law_907 : decode code 907 = .ok (.iconst 2, 1) := by decide +kernel
theorem dL_law_908 : decode code 908 = .ok (.iadd, 1) := by decide +kernel
theorem dL_law_909 : decode code 909 = .ok (.iaload, 1) := by decide +kernel
theorem dL_law_910 : decode code 910 = .ok (.invokevirtual 129, 3) := by decide +kernel
theorem dL_law_913 : decode code 913 = .ok (.if_icmp .eq 135, 3) := by decide +kernel
theorem dL_law_916 : decode code 916 = .ok (.iconst 0, 1) := by decide +kernel
theorem dL_law_917 : decode code 917 = .ok (.ireturn, 1) := by decide +kernel
theorem dL_law_918 : decode code 918 = .ok (.aload_n 1, 1) := by decide +kernel
theorem dL_law_919 : decode code 919 = .ok (.aload_n 0, 1) := by decide +kernel
theorem dL_law_920 : decode code 920 = .ok (.iload_n 3, 1) := by decide +kernel
theorem dL_law_921 : decode code 921 = .ok (.iconst 1, 1) := by decide +kernel
theorem dL_law_922 : decode code 922 = .ok (.iadd, 1) := by decide +kernel
theorem dL_law_923 : decode code 923 = .ok (.iaload, 1) := by decide +kernel
theorem dL_law_924 : decode code 924 = .ok (.invokevirtual 130, 3) := by decide +kernel
theorem dL_law_927 : decode code 927 = .ok (.aload_n 2, 1) := by decide +kernel
theorem dL_law_928 : decode code 928 = .ok (.aload_n 0, 1) := by decide +kernel
theorem dL_law_929 : decode code 929 = .ok (.iload_n 3, 1) := by decide +kernel
theorem dL_law_930 : decode code 930 = .ok (.iconst 1, 1) := by decide +kernel
theorem dL_law_931 : decode code 931 = .ok (.iadd, 1) := by decide +kernel
theorem dL_law_932 : decode code 932 = .ok (.iaload, 1) := by decide +kernel
theorem dL_law_933 : decode code 933 = .ok (.invokevirtual 134, 3) := by decide +kernel
theorem dL_law_936 : decode code 936 = .ok (.lcmp, 1) := by decide +kernel
theorem dL_law_937 : decode code 937 = .ok (.ifCond .eq 111, 3) := by decide +kernel
theorem dL_law_940 : decode code 940 = .ok (.iconst 0, 1) := by decide +kernel
theorem dL_law_941 : decode code 941 = .ok (.ireturn, 1) := by decide +kernel
theorem dL_law_942 : decode code 942 = .ok (.aload_n 1, 1) := by decide +kernel
theorem dL_law_943 : decode code 943 = .ok (.aload_n 0, 1) := by decide +kernel
theorem dL_law_944 : decode code 944 = .ok (.iload_n 3, 1) := by decide +kernel
theorem dL_law_945 : decode code 945 = .ok (.iconst 1, 1) := by decide +kernel
theorem dL_law_946 : decode code 946 = .ok (.iadd, 1) := by decide +kernel
theorem dL_law_947 : decode code 947 = .ok (.iaload, 1) := by decide +kernel
theorem dL_law_948 : decode code 948 = .ok (.invokevirtual 135, 3) := by decide +kernel
theorem dL_law_951 : decode code 951 = .ok (.aload_n 2, 1) := by decide +kernel
theorem dL_law_952 : decode code 952 = .ok (.aload_n 0, 1) := by decide +kernel
theorem dL_law_953 : decode code 953 = .ok (.iload_n 3, 1) := by decide +kernel
theorem dL_law_954 : decode code 954 = .ok (.iconst 1, 1) := by decide +kernel
theorem dL_law_955 : decode code 955 = .ok (.iadd, 1) := by decide +kernel
theorem dL_law_956 : decode code 956 = .ok (.iaload, 1) := by decide +kernel
theorem dL_law_957 : decode code 957 = .ok (.invokevirtual 138, 3) := by decide +kernel
theorem dL_law_960 : decode code 960 = .ok (.if_icmp .eq 88, 3) := by decide +kernel
theorem dL_law_963 : decode code 963 = .ok (.iconst 0, 1) := by decide +kernel
theorem dL_law_964 : decode code 964 = .ok (.ireturn, 1) := by decide +kernel
theorem dL_law_965 : decode code 965 = .ok (.aload_n 1, 1) := by decide +kernel
theorem dL_law_966 : decode code 966 = .ok (.aload_n 0, 1) := by decide +kernel
theorem dL_law_967 : decode code 967 = .ok (.iload_n 3, 1) := by decide +kernel
theorem dL_law_968 : decode code 968 = .ok (.iconst 1, 1) := by decide +kernel
theorem dL_law_969 : decode code 969 = .ok (.iadd, 1) := by decide +kernel
theorem dL_law_970 : decode code 970 = .ok (.iaload, 1) := by decide +kernel
theorem dL_law_971 : decode code 971 = .ok (.invokevirtual 139, 3) := by decide +kernel
theorem dL_law_974 : decode code 974 = .ok (.aload_n 2, 1) := by decide +kernel
theorem dL_law_975 : decode code 975 = .ok (.aload_n 0, 1) := by decide +kernel
theorem dL_law_976 : decode code 976 = .ok (.iload_n 3, 1) := by decide +kernel
theorem dL_law_977 : decode code 977 = .ok (.iconst 1, 1) := by decide +kernel
theorem dL_law_978 : decode code 978 = .ok (.iadd, 1) := by decide +kernel
theorem dL_law_979 : decode code 979 = .ok (.iaload, 1) := by decide +kernel
theorem dL_law_980 : decode code 980 = .ok (.invokevirtual 142, 3) := by decide +kernel
theorem dL_law_983 : decode code 983 = .ok (.if_icmp .eq 65, 3) := by decide +kernel
theorem dL_law_986 : decode code 986 = .ok (.iconst 0, 1) := by decide +kernel
theorem dL_law_987 : decode code 987 = .ok (.ireturn, 1) := by decide +kernel
theorem dL_law_988 : decode code 988 = .ok (.aload_n 1, 1) := by decide +kernel
theorem dL_law_989 : decode code 989 = .ok (.aload_n 0, 1) := by decide +kernel
theorem dL_law_990 : decode code 990 = .ok (.iload_n 3, 1) := by decide +kernel
theorem dL_law_991 : decode code 991 = .ok (.iconst 1, 1) := by decide +kernel
theorem dL_law_992 : decode code 992 = .ok (.iadd, 1) := by decide +kernel
theorem dL_law_993 : decode code 993 = .ok (.iaload, 1) := by decide +kernel
theorem dL_law_994 : decode code 994 = .ok (.invokevirtual 143, 3) := by decide +kernel
theorem dL_law_997 : decode code 997 = .ok (.aload_n 2, 1) := by decide +kernel
theorem dL_law_998 : decode code 998 = .ok (.aload_n 0, 1) := by decide +kernel
theorem dL_law_999 : decode code 999 = .ok (.iload_n 3, 1) := by decide +kernel
theorem dL_law_1000 : decode code 1000 = .ok (.iconst 1, 1) := by decide +kernel
theorem dL_law_1001 : decode code 1001 = .ok (.iadd, 1) := by decide +kernel
theorem dL_law_1002 : decode code 1002 = .ok (.iaload, 1) := by decide +kernel
theorem dL_law_1003 : decode code 1003 = .ok (.invokevirtual 146, 3) := by decide +kernel
theorem dL_law_1006 : decode code 1006 = .ok (.if_icmp .eq 42, 3) := by decide +kernel
theorem dL_law_1009 : decode code 1009 = .ok (.iconst 0, 1) := by decide +kernel
theorem dL_law_1010 : decode code 1010 = .ok (.ireturn, 1) := by decide +kernel
theorem dL_law_1011 : decode code 1011 = .ok (.aload_n 1, 1) := by decide +kernel
theorem dL_law_1012 : decode code 1012 = .ok (.aload_n 0, 1) := by decide +kernel
theorem dL_law_1013 : decode code 1013 = .ok (.iload_n 3, 1) := by decide +kernel
theorem dL_law_1014 : decode code 1014 = .ok (.iconst 1, 1) := by decide +kernel
theorem dL_law_1015 : decode code 1015 = .ok (.iadd, 1) := by decide +kernel
theorem dL_law_1016 : decode code 1016 = .ok (.iaload, 1) := by decide +kernel
theorem dL_law_1017 : decode code 1017 = .ok (.invokevirtual 147, 3) := by decide +kernel
theorem dL_law_1020 : decode code 1020 = .ok (.aload_n 2, 1) := by decide +kernel
theorem dL_law_1021 : decode code 1021 = .ok (.aload_n 0, 1) := by decide +kernel
theorem dL_law_1022 : decode code 1022 = .ok (.iload_n 3, 1) := by decide +kernel
theorem dL_law_1023 : decode code 1023 = .ok (.iconst 1, 1) := by decide +kernel
theorem dL_law_1024 : decode code 1024 = .ok (.iadd, 1) := by decide +kernel
theorem dL_law_1025 : decode code 1025 = .ok (.iaload, 1) := by decide +kernel
theorem dL_law_1026 : decode code 1026 = .ok (.invokevirtual 150, 3) := by decide +kernel
theorem dL_law_1029 : decode code 1029 = .ok (.if_icmp .eq 19, 3) := by decide +kernel
theorem dL_law_1032 : decode code 1032 = .ok (.iconst 0, 1) := by decide +kernel
theorem dL_law_1033 : decode code 1033 = .ok (.ireturn, 1) := by decide +kernel
theorem dL_law_1034 : decode code 1034 = .ok (.aload_n 1, 1) := by decide +kernel
theorem dL_law_1035 : decode code 1035 = .ok (.invokevirtual 151, 3) := by decide +kernel
theorem dL_law_1038 : decode code 1038 = .ok (.aload_n 2, 1) := by decide +kernel
theorem dL_law_1039 : decode code 1039 = .ok (.invokevirtual 155, 3) := by decide +kernel
theorem dL_law_1042 : decode code 1042 = .ok (.lcmp, 1) := by decide +kernel
theorem dL_law_1043 : decode code 1043 = .ok (.ifCond .eq 5, 3) := by decide +kernel
theorem dL_law_1046 : decode code 1046 = .ok (.iconst 0, 1) := by decide +kernel
theorem dL_law_1047 : decode code 1047 = .ok (.ireturn, 1) := by decide +kernel
theorem dL_law_1048 : decode code 1048 = .ok (.iinc 3 6, 3) := by decide +kernel
theorem dL_law_1051 : decode code 1051 = .ok (.goto (-1033), 3) := by decide +kernel
theorem dL_law_1054 : decode code 1054 = .ok (.iconst 1, 1) := by decide +kernel
theorem dL_law_1055 : decode code 1055 = .ok (.ireturn, 1) := by decide +kernel
end
section
/-! The world: all objects of the class and of the reference, by kind and number; their int slots are one store, the reference's long slots another. -/
abbrev Sto : Type := Nat → Nat → Nat → Int32
abbrev Lng : Type := Nat → Int64
def st (σ : Sto) (k i s : Nat) (v : Int32) : Sto := fun k' i' s' => if k' = k ∧ i' = i ∧ s' = s then v else σ k' i' s'
def stl (L : Lng) (s : Nat) (v : Int64) : Lng := fun s' => if s' = s then v else L s'
/-- all of one row put anew -/
def str (σ : Sto) (k i : Nat) (f : Nat → Int32) : Sto := fun k' i' s' => if k' = k ∧ i' = i then f s' else σ k' i' s'
def cmb (σ μ : Sto) : Sto := fun k => if k < 17 then σ k else μ k
theorem cmb_C {σ μ : Sto} {k : Nat} (h : k < 17) : cmb σ μ k = σ k := if_pos h
theorem cmb_M {σ μ : Sto} {k : Nat} (h : ¬ k < 17) : cmb σ μ k = μ k := if_neg h
theorem cmb_stC {σ μ : Sto} {k i s : Nat} {v : Int32} (h : k < 17) : cmb (st σ k i s v) μ = st (cmb σ μ) k i s v := by
  funext k' i' s'
  unfold cmb st
  by_cases h1 : k' < 17
  · simp [h1]
  · have h2 : ¬ k' = k := fun e => h1 (by omega)
    simp [h1, h2]
theorem cmb_stM {σ μ : Sto} {k i s : Nat} {v : Int32} (h : ¬ k < 17) : cmb σ (st μ k i s v) = st (cmb σ μ) k i s v := by
  funext k' i' s'
  unfold cmb st
  by_cases h1 : k' < 17
  · have h2 : ¬ k' = k := fun e => h (by omega)
    simp [h1, h2]
  · simp [h1]
theorem cmb_strC {σ μ : Sto} {k i : Nat} {f : Nat → Int32} (h : k < 17) : cmb (str σ k i f) μ = str (cmb σ μ) k i f := by
  funext k' i' s'
  unfold cmb str
  by_cases h1 : k' < 17
  · simp [h1]
  · have h2 : ¬ k' = k := fun e => h1 (by omega)
    simp [h1, h2]
theorem st_row (σ : Sto) (k i s : Nat) (v : Int32) : st σ k i s v = str σ k i (upd (σ k i) s v) := by
  funext k' i' s'
  unfold st str upd
  by_cases h1 : k' = k
  · by_cases h2 : i' = i
    · subst h1; subst h2; by_cases h3 : s' = s <;> simp [h3]
    · simp [h2]
  · simp [h1]
/-- how many of a kind; the first place of a kind -/
def nK (k : Nat) : Nat := if k = 1 then 4 else if k = 2 then 24 else if k = 3 then 24 else if k = 4 then 42 else if k = 6 then 6 else if k = 8 then 4 else if k = 9 then 4 else if k = 10 then 4 else if k < 36 then 1 else 0
def offK (k : Nat) : Nat := [0, 1, 5, 29, 53, 95, 96, 102, 103, 107, 111, 115, 116, 117, 118, 119, 120].getD k (104 + k)
def plc (k i : Nat) : Nat := offK k + i
def kiOf (n : Nat) : Nat × Nat := if n < 1 then (0, n) else if n < 5 then (1, n - 1) else if n < 29 then (2, n - 5) else if n < 53 then (3, n - 29) else if n < 95 then (4, n - 53) else if n < 96 then (5, n - 95) else if n < 102 then (6, n - 96) else if n < 103 then (7, n - 102) else if n < 107 then (8, n - 103) else if n < 111 then (9, n - 107) else if n < 115 then (10, n - 111) else (n - 104, 0)
def V (k i : Nat) : Prop := i < nK k
theorem nK_big {k : Nat} (h : 36 ≤ k) : nK k = 0 := by
  unfold nK
  rw [if_neg (by omega), if_neg (by omega), if_neg (by omega), if_neg (by omega), if_neg (by omega), if_neg (by omega), if_neg (by omega), if_neg (by omega), if_neg (by omega)]
theorem V_k {k i : Nat} (h : V k i) : k < 36 := by
  unfold V at h
  rcases Nat.lt_or_ge k 36 with g | g
  · exact g
  · rw [nK_big g] at h; omega
theorem ki_all : ∀ k, k < 36 → ∀ i, i < nK k → kiOf (plc k i) = (k, i) ∧ plc k i < 140 := by decide +kernel
theorem ki_plc {k i : Nat} (h : V k i) : kiOf (plc k i) = (k, i) := (ki_all k (V_k h) i h).1
theorem plc_lt {k i : Nat} (h : V k i) : plc k i < 140 := (ki_all k (V_k h) i h).2
theorem plc_ki : ∀ n, n < 140 → plc (kiOf n).1 (kiOf n).2 = n := by decide +kernel
/-- what is fixed for a run: classes, array classes, addresses, the first new address, the text constants' addresses -/
abbrev Gb : Type := va_G × (Nat → ClassId) × (Nat → Nat) × Nat × (Nat → Nat) × (Nat → Nat)
def ad (G : Gb) (k i : Nat) : Nat := G.2.2.1 (plc k i)
def AB (G : Gb) : Nat → Prop := fun q => G.2.2.2.1 ≤ q
def GA (G : Gb) : Prop := (∀ a b, a < 140 → b < 140 → G.2.2.1 a = G.2.2.1 b → a = b) ∧ ∀ a, a < 140 → G.2.2.2.1 ≤ G.2.2.1 a
def tys (G : Gb) : List (ClassId × FieldType) := [(G.2.1 0, .int), (G.2.1 1, .boolean), (G.2.1 2, .object "CrownTwo$Plain"), (G.2.1 3, .object "CrownTwo$Heir"), (G.2.1 4, .object "CrownTwo$Note"), (G.2.1 5, .object "CrownTwo$Moment"), (G.2.1 6, .object "CrownTwo$Court")]
def arI (G : Gb) (n : Nat) (f : Nat → Int32) : va_E := .inl (G.2.1 0, n, .inl f)
def arZ (G : Gb) (n : Nat) (f : Nat → Int32) : va_E := .inl (G.2.1 1, n, .inl f)
def arQ (G : Gb) (c n : Nat) (f : Nat → Option Nat) : va_E := .inl (G.2.1 c, n, .inr (.inr (.inr (.inr f))))
/-- the class of a kind of heirs -/
def kdc (i : Nat) : Nat := [7, 9, 4, 8, 10, 2].getD i 7
/-- the place of a Moment: of a court now, of its past, the trial, the steps -/
def cel (G : Gb) (k i : Nat) (f : Nat → Int32) (L : Lng) : va_E := match k with
  | 0 => .inr (11, [.ref (ad G 1 0), .ref (ad G 1 1), .ref (ad G 11 0), .ref (ad G 12 0), .ref (ad G 5 0), .ref (ad G 4 36), .ref (ad G 13 0), .ref (ad G 14 0), .ref (ad G 15 0), .int (f 9), .int (f 10), .int (f 11), .int (f 12), .int (f 13), .int (f 14)])
  | 1 => .inr (0, [.ref (ad G 7 0), .ref (ad G 8 i), .ref (ad G 9 i), .ref (ad G 10 i), .ref (ad G 4 i), .int (f 5), .int (f 6), .int (f 7)])
  | 2 => .inr (3, [.int (f 0), .int (f 1), .int (f 2), .int (f 3)])
  | 3 => .inr (6, [.int (f 0), .int (f 1), .int (f 2), .int (f 3), .int (f 4)])
  | 4 => .inr (5, [.int (f 0), .int (f 1), .int (f 2), .int (f 3), .int (f 4)])
  | 5 => .inr (1, [.ref (ad G 16 0), .int (f 1), .int (f 2), .int (f 3), .int (f 4), .int (f 5)])
  | 6 => .inr (kdc i, [])
  | 7 => arQ G 2 6 (fun j => some (ad G 6 j))
  | 8 => arQ G 3 6 (fun j => some (ad G 2 (6 * i + j)))
  | 9 => arQ G 4 6 (fun j => some (ad G 3 (6 * i + j)))
  | 10 => arQ G 5 8 (fun j => some (ad G 4 (4 + 8 * i + j)))
  | 11 => arQ G 6 2 (fun j => some (ad G 1 (2 + j)))
  | 12 => arZ G 2 f
  | 13 => arQ G 5 5 (fun j => some (ad G 4 (37 + j)))
  | 14 => arI G 4 f
  | 15 => arI G 4 f
  | 16 => arI G 150 f
  | 17 => .inr (12, [.ref (ad G 18 0), .int (f 1), .int (f 2), .int (f 3), .int (f 4), .int (f 5), .int (f 6), .int (f 7), .ref (ad G 19 0), .ref (ad G 20 0), .ref (ad G 21 0), .ref (ad G 22 0), .ref (ad G 23 0), .ref (ad G 24 0), .ref (ad G 25 0), .ref (ad G 26 0), .ref (ad G 27 0), .ref (ad G 28 0), .int (f 18), .int (f 19), .int (f 20), .int (f 21), .int (f 22), .int (f 23), .ref (ad G 29 0), .int (f 25), .ref (ad G 30 0), .int (f 27), .ref (ad G 31 0), .ref (ad G 32 0), .ref (ad G 33 0), .long (L 31), .long (L 32), .ref (ad G 34 0), .ref (ad G 35 0), .long (L 35)])
  | 18 => arI G 3 f
  | 28 => arI G 150 f
  | 29 => arI G 24 f
  | 30 => arI G 40 f
  | 31 => arI G 5 f
  | 32 => arI G 4 f
  | 33 => arI G 4 f
  | 34 => arI G 204 f
  | 35 => arI G 2 f
  | _ => arI G 6 f
def WS (G : Gb) (τ : Sto) (L : Lng) : va_W := (List.range 140).map (fun n => (G.2.2.1 n, cel G (kiOf n).1 (kiOf n).2 (τ (kiOf n).1 (kiOf n).2) L))
theorem WS_n {G : Gb} {τ : Sto} {L : Lng} {n : Nat} (h : n < 140) : (WS G τ L)[n]? = some (G.2.2.1 n, cel G (kiOf n).1 (kiOf n).2 (τ (kiOf n).1 (kiOf n).2) L) := by
  unfold WS
  rw [List.getElem?_map, List.getElem?_range h]
  rfl
theorem WS_len {G : Gb} {τ : Sto} {L : Lng} : (WS G τ L).length = 140 := by simp [WS]
theorem WS_get {G : Gb} {τ : Sto} {L : Lng} {k i : Nat} (h : V k i) : (WS G τ L)[plc k i]? = some (ad G k i, cel G k i (τ k i) L) := by
  rw [WS_n (plc_lt h), ki_plc h]
  rfl
theorem WS_set {G : Gb} {τ : Sto} {L : Lng} {k i : Nat} (h : V k i) (f : Nat → Int32) : (WS G τ L).set (plc k i) (ad G k i, cel G k i f L) = WS G (str τ k i f) L := by
  apply List.ext_getElem?
  intro n
  rcases Nat.lt_or_ge n 140 with hn | hn
  · rw [WS_n hn]
    by_cases e : plc k i = n
    · subst e
      rw [List.getElem?_set_self (by rw [WS_len]; exact plc_lt h), ki_plc h]
      have e2 : str τ k i f k i = f := by funext s'; simp [str]
      rw [e2]
      rfl
    · rw [List.getElem?_set_ne e, WS_n hn]
      have : str τ k i f (kiOf n).1 (kiOf n).2 = τ (kiOf n).1 (kiOf n).2 := by
        funext s'
        unfold str
        rw [if_neg]
        rintro ⟨a, b⟩
        apply e
        have := plc_ki n hn
        rw [a, b] at this
        exact this
      rw [this]
  · rw [List.getElem?_eq_none (by rw [List.length_set, WS_len]; exact hn), List.getElem?_eq_none (by rw [WS_len]; exact hn)]
/-- only the reference's own cell holds longs -/
theorem cel_L {G : Gb} {k i : Nat} {f : Nat → Int32} {L L' : Lng} (h : ¬ k = 17) : cel G k i f L = cel G k i f L' := by
  unfold cel
  split <;> first | rfl | exact absurd rfl h
theorem WS_setL {G : Gb} {τ : Sto} {L L' : Lng} : (WS G τ L).set (plc 17 0) (ad G 17 0, cel G 17 0 (τ 17 0) L') = WS G τ L' := by
  apply List.ext_getElem?
  intro n
  have h : V 17 0 := show 0 < nK 17 by decide +kernel
  rcases Nat.lt_or_ge n 140 with hn | hn
  · rw [WS_n hn]
    by_cases e : plc 17 0 = n
    · subst e
      rw [List.getElem?_set_self (by rw [WS_len]; exact plc_lt h), ki_plc h]
      rfl
    · rw [List.getElem?_set_ne e, WS_n hn, cel_L]
      intro a
      apply e
      have h2 := plc_ki n hn
      rw [a] at h2
      have : (kiOf n).2 = 0 := by
        have : ∀ n, n < 140 → (kiOf n).1 = 17 → (kiOf n).2 = 0 := by decide +kernel
        exact this n hn a
      rw [this] at h2
      exact h2
  · rw [List.getElem?_eq_none (by rw [List.length_set, WS_len]; exact hn), List.getElem?_eq_none (by rw [WS_len]; exact hn)]
theorem WS_D {G : Gb} (hG : GA G) (τ : Sto) (L : Lng) : va_D (AB G) (WS G τ L) := by
  have key : ∀ (n : Nat) (q : Nat × va_E), (WS G τ L)[n]? = some q → n < 140 ∧ q.1 = G.2.2.1 n := by
    intro n q hq
    have hn : n < 140 := by
      have := (List.getElem?_eq_some_iff.mp hq).1
      rwa [WS_len] at this
    rw [WS_n hn] at hq
    cases hq
    exact ⟨hn, rfl⟩
  refine ⟨fun i j p q hi hj e => ?_, fun k q hk => ?_⟩
  · obtain ⟨a1, a2⟩ := key i p hi
    obtain ⟨b1, b2⟩ := key j q hj
    exact hG.1 i j a1 b1 (by rw [← a2, ← b2]; exact e)
  · obtain ⟨a1, a2⟩ := key k q hk
    show G.2.2.2.1 ≤ q.1
    rw [a2]
    exact hG.2 k a1
def HP (G : Gb) (p : Sto × Lng) (H : Heap) : Prop := va_P G.1 vwCl (WS G p.1 p.2) H
def EC (μ : Sto) (L : Lng) : Sto → Sto × Lng := fun σ => (cmb σ μ, L)
def EM (σ : Sto) (L : Lng) : Sto → Sto × Lng := fun μ => (cmb σ μ, L)
def EL (σ : Sto) : Sto × Lng → Sto × Lng := fun q => (cmb σ q.1, q.2)
end
section

/-- text constants of CourtText: their places in its pool, their texts -/
def sIdx (i : Nat) : Nat := [47, 61, 66, 72, 74].getD i 0
def sTxt (i : Nat) : String := ["court", "heir", "like", "hate", "pair"].getD i ""
def sLen : List Nat := [5, 4, 4, 4, 4]
def sByt : List (List Int32) := [[99, 111, 117, 114, 116], [104, 101, 105, 114], [108, 105, 107, 101], [104, 97, 116, 101], [112, 97, 105, 114]]
/-- what a state knows: the classes, the text constants, their texts' links, a flag of String -/
def KS (G : Gb) (U : State) : Prop := va_K G.1 vwCl (tys G) U ∧ vk_S 5 sLen sByt G.2.2.2.2.1 G.2.2.2.2.2 (AB G) U U.heap ∧ (∀ i, i < 5 → vk_R "CrownTwo$CourtText" (sIdx i) (sTxt i) (G.2.2.2.2.1 i) U) ∧ va_Z "java/lang/String" "COMPACT_STRINGS" "Z" (.int 1) (AB G) U U.heap ∧ G.2.2.2.1 ≤ U.heap.size
theorem KS.call {G : Gb} {s U : State} {H : Heap} {locs : List Loc} (h : KS G s) (hS : va_S (AB G) s.heap H locs) (hH : U.heap = H) (hW : s.WarmedH U.vm) : KS G U := by
  obtain ⟨h1, h2, h3, h4, h5⟩ := h
  subst hH
  exact ⟨va_K.moved hW.alike h1, vk_S.moved hW.alike (h2.kept hS.2.1), fun i hi => (h3 i hi).warm hW, va_Z.moved hW.alike (h4.kept hS.2.1), Nat.le_trans h5 hS.1⟩
theorem KS.calling {G : Gb} {U : State} {g : JFrame} {mk : MethodId} {a : Array Value} (h : KS G U) : KS G (U.calling g mk a) := by
  obtain ⟨h1, h2, h3, h4, h5⟩ := h
  exact ⟨va_K.moved (u := U) (U := U.calling g mk a) (Vm.Alike.refl U.vm) h1, vk_S.moved (u := U) (U := U.calling g mk a) (Vm.Alike.refl U.vm) h2, fun i hi => (h3 i hi).same rfl, va_Z.moved (u := U) (U := U.calling g mk a) (Vm.Alike.refl U.vm) h4, h5⟩
abbrev CX : Type := Program × Launch × Env × Room × State × MethodId × Array Value × List Frame × Method × Code
abbrev CX.p (X : CX) : Program := X.1
abbrev CX.l (X : CX) : Launch := X.2.1
abbrev CX.e (X : CX) : Env := X.2.2.1
abbrev CX.R (X : CX) : Room := X.2.2.2.1
abbrev CX.s (X : CX) : State := X.2.2.2.2.1
abbrev CX.m (X : CX) : MethodId := X.2.2.2.2.2.1
abbrev CX.args (X : CX) : Array Value := X.2.2.2.2.2.2.1
abbrev CX.below (X : CX) : List Frame := X.2.2.2.2.2.2.2.1
abbrev CX.meth (X : CX) : Method := X.2.2.2.2.2.2.2.2.1
abbrev CX.c (X : CX) : Code := X.2.2.2.2.2.2.2.2.2
def QZ {S : Type} (G : Gb) (E : S → Sto × Lng) (v : Option Value) (σ : S) : Array Value → State → Outcome → State → Prop := fun _ st oc t => (oc = .returned v ∧ HP G (E σ) t.heap) ∧ va_F (AB G) st t
/-- from here the method comes to its end, with the answer and the store that 'res' says, if it says any -/
def ZR {S ρ : Type} (G : Gb) (X : CX) (E : S → Sto × Lng) (pv : ρ → Option Value) (ps : ρ → S) (nL : Nat) (σ : S) (ls : List (Nat × Value)) (stk : List Value) (pc : Nat) (res : Option ρ) : Prop :=
  ∀ r, res = some r → ∀ (H : Heap) (locs : List Loc) (la : Array Slot), HP G (E σ) H → va_S (AB G) X.s.heap H locs → lv_has la nL ls → W X.p X.l X.e X.R X.s X.m X.args X.below X.meth X.c H locs 0 0 (MQ X.below (QZ G E (pv r) (ps r)) X.args X.s 0 0 (AB G)) (F0 X.m pc la stk)
/-- what holds in a method's body: its code, class, answer's type, frames and locals left -/
def OX (G : Gb) (X : CX) (l : Launch) (cc : ByteArray) (nL : Nat) (own : String) (ret : Option FieldType) (fr lo : Nat) : Prop :=
  X.p.tables.exec = Jvm.exec ∧ X.c.code = cc ∧ X.c.maxLocals = nL ∧ X.s.vm.findClass own = some X.m.cls ∧ (∀ w ∈ gw, w.before X.args X.s = true) ∧ X.meth.sig.returnType = ret ∧ X.meth.locks = false ∧ KS G X.s ∧ GA G ∧ X.R = { frames := fr, cells := 0, slots := 0, locals := lo } ∧ X.l = l
/-- a method's contract -/
def CT {S ρ : Type} (G : Gb) (l : Launch) (E : S → Sto × Lng) (pv : ρ → Option Value) (ps : ρ → S) (y : MethodName) (bytes : ByteArray) (maxL : Nat) (ret : Option FieldType) (fr lo : Nat) (args : List Value) (σ : S) (res : Option ρ) : Prop :=
  ∀ r, res = some r → Met l y (.code y bytes maxL ret :: gw) { frames := fr, cells := 0, slots := 0, locals := lo } (va_Pc args (fun U => KS G U ∧ HP G (E σ) U.heap)) (QZ G E (pv r) (ps r)) 0 0 (AB G)
theorem CT.of {S ρ : Type} {G : Gb} {l : Launch} {E : S → Sto × Lng} {pv : ρ → Option Value} {ps : ρ → S} {y : MethodName} {bytes : ByteArray} {maxL : Nat} {ret : Option FieldType} {fr lo : Nat} {args : List Value} {σ : S} {res : Option ρ} (hG : GA G)
    (hy : plainName y.cls = true) (hlen : (lg_sl args).length ≤ maxL) (h : ∀ X : CX, OX G X l bytes maxL y.cls ret fr lo → ZR G X E pv ps maxL σ (lv_args 0 args) [] 0 res) : CT G l E pv ps y bytes maxL ret fr lo args σ res := by
  intro r hr
  refine Met.ofW (cc := bytes) (maxL := maxL) (ret := ret) hy rfl ?_
  intro p e s m as below meth c s₁ B hml hv
  obtain ⟨rfl, hK, hH⟩ := hv
  have hts := atoms_spec (ws := .code y bytes maxL ret :: gw) B.pre
  have hX : OX G (p, l, e, (headSpec (.code y bytes maxL ret :: gw) { frames := fr, cells := 0, slots := 0, locals := lo }).room, s, m, args.toArray, below, meth, c) l bytes maxL y.cls ret fr lo :=
    ⟨B.exec, B.bytes, hml, findClass_of_methodNamed B.named, fun w hw => hts w (List.mem_cons_of_mem _ hw), B.returns, B.notSynchronized, hK, hG, rfl, rfl⟩
  have hl := lv_entry args (n := maxL) hlen
  rw [lg_entry_eq]
  exact h _ hX r hr s.heap [] _ hH va_S.rf hl
theorem GoodIn.cons {big ws : List Cond} {w : Cond} (h : w ∈ big) (g : goodWord w = true) (hs : GoodIn big ws) : GoodIn big (w :: ws) := fun v hv => by
  rcases List.mem_cons.mp hv with e | e
  · subst e; exact ⟨h, good_of_word g⟩
  · exact hs v e
theorem gw_self : GoodIn gw gw := gw_good (fun _ h => h)
theorem gw_code {y : MethodName} {bytes : ByteArray} {maxL : Nat} {ret : Option FieldType} (h : Cond.code y bytes maxL ret ∈ gw) : GoodIn gw (.code y bytes maxL ret :: gw) := GoodIn.cons h rfl gw_self
/-! combinators of the read-off programs -/
def bI {S ρ : Type} (x : Option (Int32 × S)) (k : Int32 → S → Option ρ) : Option ρ := x.bind (fun p => k p.1 p.2)
def bP {ρ : Type} (x : Option Int32) (k : Int32 → Option ρ) : Option ρ := x.bind k
def bV {S ρ : Type} (x : Option S) (k : S → Option ρ) : Option ρ := x.bind k
def bL {ρ : Type} (x : Option Int64) (k : Int64 → Option ρ) : Option ρ := x.bind k
def bM {S ρ : Type} (x : Option (Int64 × S)) (k : Int64 → S → Option ρ) : Option ρ := x.bind (fun p => k p.1 p.2)
def lt {α β : Type} (x : α) (k : α → β) : β := k x
def jn {α β : Type} (k : α) (f : α → β) : β := f k
def fx {α : Type} : Nat → (α → α) → α → α
  | 0, _, b => b
  | n + 1, F, b => F (fx n F b)
def pvI {S : Type} : Int32 × S → Option Value := fun r => some (.int r.1)
def psI {S : Type} : Int32 × S → S := fun r => r.2
def pvP : Int32 → Option Value := fun r => some (.int r)
def psP {S : Type} (σ : S) {ρ : Type} : ρ → S := fun _ => σ
def pvV {S : Type} : S → Option Value := fun _ => none
def psV {S : Type} : S → S := fun s => s
def pvL : Int64 → Option Value := fun r => some (.long r)
def pvM {S : Type} : Int64 × S → Option Value := fun r => some (.long r.1)
def psM {S : Type} : Int64 × S → S := fun r => r.2
theorem fx_P {α : Type} {F : α → α} {b : α} (P : α → Prop) (h0 : P b) (hs : ∀ rec, P rec → P (F rec)) : ∀ n, P (fx n F b)
  | 0 => h0
  | n + 1 => hs _ (fx_P P h0 hs n)
section ZROWS
variable {S ρ : Type} {G : Gb} {X : CX} {l : Launch} {E : S → Sto × Lng} {pv : ρ → Option Value} {ps : ρ → S} {nL : Nat} {σ : S} {ls : List (Nat × Value)} {stk : List Value} {res : Option ρ} {cc : ByteArray} {own : String} {ret : Option FieldType} {fr lo : Nat}
theorem z_none {pc : Nat} : ZR G X E pv ps nL σ ls stk pc none := fun r h => by cases h
theorem z_jn {α : Type} {k : α} {f : α → Option ρ} {pc : Nat} (P : α → Prop) (h1 : P k) (h2 : ∀ j, P j → ZR G X E pv ps nL σ ls stk pc (f j)) : ZR G X E pv ps nL σ ls stk pc (jn k f) := h2 k h1
theorem z_ls {pc : Nat} {ls' : List (Nat × Value)} (ks : List Nat) (h : lv_pick ls ks = ls') (kk : ZR G X E pv ps nL σ ls' stk pc res) : ZR G X E pv ps nL σ ls stk pc res := fun r hr H locs la hH hS hl => kk r hr H locs la hH hS (lv_sub hl ks h)
theorem z_lti {pc : Nat} {x : Int32} {k : Int32 → Option ρ} (kk : ∀ y, ZR G X E pv ps nL σ ls (.int y :: stk) pc (k y)) : ZR G X E pv ps nL σ ls (.int x :: stk) pc (lt x k) := kk x
theorem z_ltl {pc : Nat} {x : Int64} {k : Int64 → Option ρ} (kk : ∀ y, ZR G X E pv ps nL σ ls (.long y :: stk) pc (k y)) : ZR G X E pv ps nL σ ls (.long x :: stk) pc (lt x k) := kk x
theorem z_lts {pc : Nat} {k : S → Option ρ} (kk : ∀ τ, ZR G X E pv ps nL τ ls stk pc (k τ)) : ZR G X E pv ps nL σ ls stk pc (lt σ k) := kk σ

theorem z_iconst (hX : OX G X l cc nL own ret fr lo) {n : Int} {v : Int32} {pc : Nat} (hd : decode cc pc = .ok (.iconst n, 1)) (hv : Int32.ofInt n = v) (kk : ZR G X E pv ps nL σ ls (.int v :: stk) (pc + 1) res) : ZR G X E pv ps nL σ ls stk pc res :=
  fun r hr H locs la hH hS hl => lv_iconst hX.1 hX.2.1 hd hv (kk r hr H locs la hH hS hl)
theorem z_bipush (hX : OX G X l cc nL own ret fr lo) {n : Int} {v : Int32} {pc : Nat} (hd : decode cc pc = .ok (.bipush n, 2)) (hv : (Int8.ofInt n).toInt32 = v) (kk : ZR G X E pv ps nL σ ls (.int v :: stk) (pc + 2) res) : ZR G X E pv ps nL σ ls stk pc res :=
  fun r hr H locs la hH hS hl => lv_bipush hX.1 hX.2.1 hd hv (kk r hr H locs la hH hS hl)
theorem z_sipush (hX : OX G X l cc nL own ret fr lo) {n : Int} {v : Int32} {pc : Nat} (hd : decode cc pc = .ok (.sipush n, 3)) (hv : (Int16.ofInt n).toInt32 = v) (kk : ZR G X E pv ps nL σ ls (.int v :: stk) (pc + 3) res) : ZR G X E pv ps nL σ ls stk pc res :=
  fun r hr H locs la hH hS hl => lv_sipush hX.1 hX.2.1 hd hv (kk r hr H locs la hH hS hl)
theorem z_lconst (hX : OX G X l cc nL own ret fr lo) {n : Fin 2} {v : Int64} {pc : Nat} (hd : decode cc pc = .ok (.lconst n, 1)) (hv : Int64.ofNat (n : Nat) = v) (kk : ZR G X E pv ps nL σ ls (.long v :: stk) (pc + 1) res) : ZR G X E pv ps nL σ ls stk pc res :=
  fun r hr H locs la hH hS hl => lv_lconst hX.1 hX.2.1 hd hv (kk r hr H locs la hH hS hl)
theorem z_ldc (hX : OX G X l cc nL own ret fr lo) {index : Nat} {v : Int32} {pc : Nat} (hq : Jvm.Cond.constant own index v ∈ gw) (hd : decode cc pc = .ok (.ldc index, 2)) (kk : ZR G X E pv ps nL σ ls (.int v :: stk) (pc + 2) res) : ZR G X E pv ps nL σ ls stk pc res :=
  fun r hr H locs la hH hS hl => lv_ldc hX.1 hX.2.1 hX.2.2.2.1 (hX.2.2.2.2.1 _ hq) hd (kk r hr H locs la hH hS hl)
theorem z_ldcw (hX : OX G X l cc nL own ret fr lo) {index : Nat} {v : Int32} {pc : Nat} (hq : Jvm.Cond.constant own index v ∈ gw) (hd : decode cc pc = .ok (.ldc_w index, 3)) (kk : ZR G X E pv ps nL σ ls (.int v :: stk) (pc + 3) res) : ZR G X E pv ps nL σ ls stk pc res :=
  fun r hr H locs la hH hS hl => lv_ldcw hX.1 hX.2.1 hX.2.2.2.1 (hX.2.2.2.2.1 _ hq) hd (kk r hr H locs la hH hS hl)
theorem z_ldc2 (hX : OX G X l cc nL own ret fr lo) {index : Nat} {v : Int64} {pc : Nat} (hq : Jvm.Cond.constantLong own index v ∈ gw) (hd : decode cc pc = .ok (.ldc2_w index, 3)) (kk : ZR G X E pv ps nL σ ls (.long v :: stk) (pc + 3) res) : ZR G X E pv ps nL σ ls stk pc res :=
  fun r hr H locs la hH hS hl => lv_ldc2 hX.1 hX.2.1 hX.2.2.2.1 (hX.2.2.2.2.1 _ hq) hd (kk r hr H locs la hH hS hl)
theorem z_iload_n (hX : OX G X l cc nL own ret fr lo) {k : Fin 4} {i : Nat} {x : Int32} {pc : Nat} (hd : decode cc pc = .ok (.iload_n k, 1)) (hi : (k : Nat) = i) (n : Nat) (hn : ls[n]? = some (i, .int x)) (kk : ZR G X E pv ps nL σ ls (.int x :: stk) (pc + 1) res) : ZR G X E pv ps nL σ ls stk pc res :=
  fun r hr H locs la hH hS hl => lv_iload_n hX.1 hX.2.1 hd hi (lv_at hl n hn) (kk r hr H locs la hH hS hl)
theorem z_iload (hX : OX G X l cc nL own ret fr lo) {i : Nat} {x : Int32} {pc : Nat} (hd : decode cc pc = .ok (.iload i, 2)) (n : Nat) (hn : ls[n]? = some (i, .int x)) (kk : ZR G X E pv ps nL σ ls (.int x :: stk) (pc + 2) res) : ZR G X E pv ps nL σ ls stk pc res :=
  fun r hr H locs la hH hS hl => lv_iload hX.1 hX.2.1 hd (lv_at hl n hn) (kk r hr H locs la hH hS hl)
theorem z_istore_n (hX : OX G X l cc nL own ret fr lo) {k : Fin 4} {i : Nat} {x : Int32} {pc : Nat} {ls' : List (Nat × Value)} (hd : decode cc pc = .ok (.istore_n k, 1)) (hi : (k : Nat) = i) (hn : i < nL) (hf : (i, Value.int x) :: ls.filter (fun q => !(q.1 == i) && !(q.1 + 1 == i && q.2.category == 2)) = ls') (kk : ZR G X E pv ps nL σ ls' stk (pc + 1) res) : ZR G X E pv ps nL σ ls (.int x :: stk) pc res :=
  fun r hr H locs la hH hS hl => lv_istore_n hX.1 hX.2.1 hd hi hl hn hf (fun la hl => kk r hr H locs la hH hS hl)
theorem z_istore (hX : OX G X l cc nL own ret fr lo) {i : Nat} {x : Int32} {pc : Nat} {ls' : List (Nat × Value)} (hd : decode cc pc = .ok (.istore i, 2)) (hn : i < nL) (hf : (i, Value.int x) :: ls.filter (fun q => !(q.1 == i) && !(q.1 + 1 == i && q.2.category == 2)) = ls') (kk : ZR G X E pv ps nL σ ls' stk (pc + 2) res) : ZR G X E pv ps nL σ ls (.int x :: stk) pc res :=
  fun r hr H locs la hH hS hl => lv_istore hX.1 hX.2.1 hd hl hn hf (fun la hl => kk r hr H locs la hH hS hl)
theorem z_lload_n (hX : OX G X l cc nL own ret fr lo) {k : Fin 4} {i : Nat} {x : Int64} {pc : Nat} (hd : decode cc pc = .ok (.lload_n k, 1)) (hi : (k : Nat) = i) (n : Nat) (hn : ls[n]? = some (i, .long x)) (kk : ZR G X E pv ps nL σ ls (.long x :: stk) (pc + 1) res) : ZR G X E pv ps nL σ ls stk pc res :=
  fun r hr H locs la hH hS hl => lv_lload_n hX.1 hX.2.1 hd hi (lv_at hl n hn) (kk r hr H locs la hH hS hl)
theorem z_lload (hX : OX G X l cc nL own ret fr lo) {i : Nat} {x : Int64} {pc : Nat} (hd : decode cc pc = .ok (.lload i, 2)) (n : Nat) (hn : ls[n]? = some (i, .long x)) (kk : ZR G X E pv ps nL σ ls (.long x :: stk) (pc + 2) res) : ZR G X E pv ps nL σ ls stk pc res :=
  fun r hr H locs la hH hS hl => lv_lload hX.1 hX.2.1 hd (lv_at hl n hn) (kk r hr H locs la hH hS hl)
theorem z_lstore_n (hX : OX G X l cc nL own ret fr lo) {k : Fin 4} {i : Nat} {x : Int64} {pc : Nat} {ls' : List (Nat × Value)} (hd : decode cc pc = .ok (.lstore_n k, 1)) (hi : (k : Nat) = i) (hn : i + 1 < nL) (hf : (i, Value.long x) :: ls.filter (fun q => !(q.1 == i) && (!(q.1 == i + 1) && !(q.1 + 1 == i && q.2.category == 2))) = ls') (kk : ZR G X E pv ps nL σ ls' stk (pc + 1) res) : ZR G X E pv ps nL σ ls (.long x :: stk) pc res :=
  fun r hr H locs la hH hS hl => lv_lstore_n hX.1 hX.2.1 hd hi hl hn hf (fun la hl => kk r hr H locs la hH hS hl)
theorem z_lstore (hX : OX G X l cc nL own ret fr lo) {i : Nat} {x : Int64} {pc : Nat} {ls' : List (Nat × Value)} (hd : decode cc pc = .ok (.lstore i, 2)) (hn : i + 1 < nL) (hf : (i, Value.long x) :: ls.filter (fun q => !(q.1 == i) && (!(q.1 == i + 1) && !(q.1 + 1 == i && q.2.category == 2))) = ls') (kk : ZR G X E pv ps nL σ ls' stk (pc + 2) res) : ZR G X E pv ps nL σ ls (.long x :: stk) pc res :=
  fun r hr H locs la hH hS hl => lv_lstore hX.1 hX.2.1 hd hl hn hf (fun la hl => kk r hr H locs la hH hS hl)
theorem z_aload_n (hX : OX G X l cc nL own ret fr lo) {k : Fin 4} {i : Nat} {x : Nat} {pc : Nat} (hd : decode cc pc = .ok (.aload_n k, 1)) (hi : (k : Nat) = i) (n : Nat) (hn : ls[n]? = some (i, .ref x)) (kk : ZR G X E pv ps nL σ ls (.ref x :: stk) (pc + 1) res) : ZR G X E pv ps nL σ ls stk pc res :=
  fun r hr H locs la hH hS hl => lv_aload_n hX.1 hX.2.1 hd hi (lv_at hl n hn) (kk r hr H locs la hH hS hl)
theorem z_aload (hX : OX G X l cc nL own ret fr lo) {i : Nat} {x : Nat} {pc : Nat} (hd : decode cc pc = .ok (.aload i, 2)) (n : Nat) (hn : ls[n]? = some (i, .ref x)) (kk : ZR G X E pv ps nL σ ls (.ref x :: stk) (pc + 2) res) : ZR G X E pv ps nL σ ls stk pc res :=
  fun r hr H locs la hH hS hl => lv_aload hX.1 hX.2.1 hd (lv_at hl n hn) (kk r hr H locs la hH hS hl)
theorem z_astore_n (hX : OX G X l cc nL own ret fr lo) {k : Fin 4} {i : Nat} {x : Nat} {pc : Nat} {ls' : List (Nat × Value)} (hd : decode cc pc = .ok (.astore_n k, 1)) (hi : (k : Nat) = i) (hn : i < nL) (hf : (i, Value.ref x) :: ls.filter (fun q => !(q.1 == i) && !(q.1 + 1 == i && q.2.category == 2)) = ls') (kk : ZR G X E pv ps nL σ ls' stk (pc + 1) res) : ZR G X E pv ps nL σ ls (.ref x :: stk) pc res :=
  fun r hr H locs la hH hS hl => lv_astore_n hX.1 hX.2.1 hd hi hl hn hf (fun la hl => kk r hr H locs la hH hS hl)
theorem z_astore (hX : OX G X l cc nL own ret fr lo) {i : Nat} {x : Nat} {pc : Nat} {ls' : List (Nat × Value)} (hd : decode cc pc = .ok (.astore i, 2)) (hn : i < nL) (hf : (i, Value.ref x) :: ls.filter (fun q => !(q.1 == i) && !(q.1 + 1 == i && q.2.category == 2)) = ls') (kk : ZR G X E pv ps nL σ ls' stk (pc + 2) res) : ZR G X E pv ps nL σ ls (.ref x :: stk) pc res :=
  fun r hr H locs la hH hS hl => lv_astore hX.1 hX.2.1 hd hl hn hf (fun la hl => kk r hr H locs la hH hS hl)
theorem z_iinc (hX : OX G X l cc nL own ret fr lo) {i n : Nat} {d : Int} {x v : Int32} {pc : Nat} {ls' : List (Nat × Value)} (hd : decode cc pc = .ok (.iinc i d, 3)) (hk : ls[n]? = some (i, .int x)) (hv : x + Int32.ofInt d = v) (hn : i < nL) (hf : (i, Value.int v) :: ls.filter (fun q => !(q.1 == i) && !(q.1 + 1 == i && q.2.category == 2)) = ls') (kk : ZR G X E pv ps nL σ ls' stk (pc + 3) res) : ZR G X E pv ps nL σ ls stk pc res :=
  fun r hr H locs la hH hS hl => lv_iinc hX.1 hX.2.1 hd hl hk hv hn hf (fun la hl => kk r hr H locs la hH hS hl)
theorem z_iadd (hX : OX G X l cc nL own ret fr lo) {x y : Int32} {pc : Nat} (hd : decode cc pc = .ok (.iadd, 1)) (kk : ZR G X E pv ps nL σ ls (.int (x + y) :: stk) (pc + 1) res) : ZR G X E pv ps nL σ ls (.int y :: .int x :: stk) pc res :=
  fun r hr H locs la hH hS hl => lv_iadd hX.1 hX.2.1 hd (kk r hr H locs la hH hS hl)
theorem z_isub (hX : OX G X l cc nL own ret fr lo) {x y : Int32} {pc : Nat} (hd : decode cc pc = .ok (.isub, 1)) (kk : ZR G X E pv ps nL σ ls (.int (x - y) :: stk) (pc + 1) res) : ZR G X E pv ps nL σ ls (.int y :: .int x :: stk) pc res :=
  fun r hr H locs la hH hS hl => lv_isub hX.1 hX.2.1 hd (kk r hr H locs la hH hS hl)
theorem z_imul (hX : OX G X l cc nL own ret fr lo) {x y : Int32} {pc : Nat} (hd : decode cc pc = .ok (.imul, 1)) (kk : ZR G X E pv ps nL σ ls (.int (x * y) :: stk) (pc + 1) res) : ZR G X E pv ps nL σ ls (.int y :: .int x :: stk) pc res :=
  fun r hr H locs la hH hS hl => lv_imul hX.1 hX.2.1 hd (kk r hr H locs la hH hS hl)
theorem z_iand (hX : OX G X l cc nL own ret fr lo) {x y : Int32} {pc : Nat} (hd : decode cc pc = .ok (.iand, 1)) (kk : ZR G X E pv ps nL σ ls (.int (x &&& y) :: stk) (pc + 1) res) : ZR G X E pv ps nL σ ls (.int y :: .int x :: stk) pc res :=
  fun r hr H locs la hH hS hl => lv_iand hX.1 hX.2.1 hd (kk r hr H locs la hH hS hl)
theorem z_ior (hX : OX G X l cc nL own ret fr lo) {x y : Int32} {pc : Nat} (hd : decode cc pc = .ok (.ior, 1)) (kk : ZR G X E pv ps nL σ ls (.int (x ||| y) :: stk) (pc + 1) res) : ZR G X E pv ps nL σ ls (.int y :: .int x :: stk) pc res :=
  fun r hr H locs la hH hS hl => lv_ior hX.1 hX.2.1 hd (kk r hr H locs la hH hS hl)
theorem z_ixor (hX : OX G X l cc nL own ret fr lo) {x y : Int32} {pc : Nat} (hd : decode cc pc = .ok (.ixor, 1)) (kk : ZR G X E pv ps nL σ ls (.int (x ^^^ y) :: stk) (pc + 1) res) : ZR G X E pv ps nL σ ls (.int y :: .int x :: stk) pc res :=
  fun r hr H locs la hH hS hl => lv_ixor hX.1 hX.2.1 hd (kk r hr H locs la hH hS hl)
theorem z_ishl (hX : OX G X l cc nL own ret fr lo) {x y : Int32} {pc : Nat} (hd : decode cc pc = .ok (.ishl, 1)) (kk : ZR G X E pv ps nL σ ls (.int (x <<< (y &&& 31)) :: stk) (pc + 1) res) : ZR G X E pv ps nL σ ls (.int y :: .int x :: stk) pc res :=
  fun r hr H locs la hH hS hl => lv_ishl hX.1 hX.2.1 hd (kk r hr H locs la hH hS hl)
theorem z_ishr (hX : OX G X l cc nL own ret fr lo) {x y : Int32} {pc : Nat} (hd : decode cc pc = .ok (.ishr, 1)) (kk : ZR G X E pv ps nL σ ls (.int (x >>> (y &&& 31)) :: stk) (pc + 1) res) : ZR G X E pv ps nL σ ls (.int y :: .int x :: stk) pc res :=
  fun r hr H locs la hH hS hl => lv_ishr hX.1 hX.2.1 hd (kk r hr H locs la hH hS hl)
theorem z_ladd (hX : OX G X l cc nL own ret fr lo) {x y : Int64} {pc : Nat} (hd : decode cc pc = .ok (.ladd, 1)) (kk : ZR G X E pv ps nL σ ls (.long (x + y) :: stk) (pc + 1) res) : ZR G X E pv ps nL σ ls (.long y :: .long x :: stk) pc res :=
  fun r hr H locs la hH hS hl => lv_ladd hX.1 hX.2.1 hd (kk r hr H locs la hH hS hl)
theorem z_lsub (hX : OX G X l cc nL own ret fr lo) {x y : Int64} {pc : Nat} (hd : decode cc pc = .ok (.lsub, 1)) (kk : ZR G X E pv ps nL σ ls (.long (x - y) :: stk) (pc + 1) res) : ZR G X E pv ps nL σ ls (.long y :: .long x :: stk) pc res :=
  fun r hr H locs la hH hS hl => lv_lsub hX.1 hX.2.1 hd (kk r hr H locs la hH hS hl)
theorem z_lmul (hX : OX G X l cc nL own ret fr lo) {x y : Int64} {pc : Nat} (hd : decode cc pc = .ok (.lmul, 1)) (kk : ZR G X E pv ps nL σ ls (.long (x * y) :: stk) (pc + 1) res) : ZR G X E pv ps nL σ ls (.long y :: .long x :: stk) pc res :=
  fun r hr H locs la hH hS hl => lv_lmul hX.1 hX.2.1 hd (kk r hr H locs la hH hS hl)
theorem z_iushr (hX : OX G X l cc nL own ret fr lo) {x y : Int32} {pc : Nat} (hd : decode cc pc = .ok (.iushr, 1)) (kk : ZR G X E pv ps nL σ ls (.int ((x.toUInt32 >>> (y.toUInt32 &&& Int32.toUInt32 31)).toInt32) :: stk) (pc + 1) res) : ZR G X E pv ps nL σ ls (.int y :: .int x :: stk) pc res :=
  fun r hr H locs la hH hS hl => lv_iushr hX.1 hX.2.1 hd rfl (kk r hr H locs la hH hS hl)
theorem z_idiv (hX : OX G X l cc nL own ret fr lo) {x y : Int32} {pc : Nat} (hd : decode cc pc = .ok (.idiv, 1)) (kk : ZR G X E pv ps nL σ ls (.int (x / y) :: stk) (pc + 1) res) : ZR G X E pv ps nL σ ls (.int y :: .int x :: stk) pc (if ¬ y = 0 then res else none) :=
  by
  intro r hr H locs la hH hS hl
  by_cases h : y = 0
  · rw [if_neg (not_not_intro h)] at hr; cases hr
  · rw [if_pos h] at hr; exact lv_idiv hX.1 hX.2.1 hd h (kk r hr H locs la hH hS hl)
theorem z_idivc (hX : OX G X l cc nL own ret fr lo) {x y : Int32} {pc : Nat} (hd : decode cc pc = .ok (.idiv, 1)) (hy : ¬ y = 0) (kk : ZR G X E pv ps nL σ ls (.int (x / y) :: stk) (pc + 1) res) : ZR G X E pv ps nL σ ls (.int y :: .int x :: stk) pc res :=
  fun r hr H locs la hH hS hl => lv_idiv hX.1 hX.2.1 hd hy (kk r hr H locs la hH hS hl)
theorem z_irem (hX : OX G X l cc nL own ret fr lo) {x y : Int32} {pc : Nat} (hd : decode cc pc = .ok (.irem, 1)) (kk : ZR G X E pv ps nL σ ls (.int (x - x / y * y) :: stk) (pc + 1) res) : ZR G X E pv ps nL σ ls (.int y :: .int x :: stk) pc (if ¬ y = 0 then res else none) :=
  by
  intro r hr H locs la hH hS hl
  by_cases h : y = 0
  · rw [if_neg (not_not_intro h)] at hr; cases hr
  · rw [if_pos h] at hr; exact lv_irem hX.1 hX.2.1 hd h (kk r hr H locs la hH hS hl)
theorem z_iremc (hX : OX G X l cc nL own ret fr lo) {x y : Int32} {pc : Nat} (hd : decode cc pc = .ok (.irem, 1)) (hy : ¬ y = 0) (kk : ZR G X E pv ps nL σ ls (.int (x - x / y * y) :: stk) (pc + 1) res) : ZR G X E pv ps nL σ ls (.int y :: .int x :: stk) pc res :=
  fun r hr H locs la hH hS hl => lv_irem hX.1 hX.2.1 hd hy (kk r hr H locs la hH hS hl)
theorem z_ldiv (hX : OX G X l cc nL own ret fr lo) {x y : Int64} {pc : Nat} (hd : decode cc pc = .ok (.ldiv, 1)) (kk : ZR G X E pv ps nL σ ls (.long (x / y) :: stk) (pc + 1) res) : ZR G X E pv ps nL σ ls (.long y :: .long x :: stk) pc (if ¬ y = 0 then res else none) :=
  by
  intro r hr H locs la hH hS hl
  by_cases h : y = 0
  · rw [if_neg (not_not_intro h)] at hr; cases hr
  · rw [if_pos h] at hr; exact lv_ldiv hX.1 hX.2.1 hd h (kk r hr H locs la hH hS hl)
theorem z_ldivc (hX : OX G X l cc nL own ret fr lo) {x y : Int64} {pc : Nat} (hd : decode cc pc = .ok (.ldiv, 1)) (hy : ¬ y = 0) (kk : ZR G X E pv ps nL σ ls (.long (x / y) :: stk) (pc + 1) res) : ZR G X E pv ps nL σ ls (.long y :: .long x :: stk) pc res :=
  fun r hr H locs la hH hS hl => lv_ldiv hX.1 hX.2.1 hd hy (kk r hr H locs la hH hS hl)
theorem z_lrem (hX : OX G X l cc nL own ret fr lo) {x y : Int64} {pc : Nat} (hd : decode cc pc = .ok (.lrem, 1)) (kk : ZR G X E pv ps nL σ ls (.long (x - x / y * y) :: stk) (pc + 1) res) : ZR G X E pv ps nL σ ls (.long y :: .long x :: stk) pc (if ¬ y = 0 then res else none) :=
  by
  intro r hr H locs la hH hS hl
  by_cases h : y = 0
  · rw [if_neg (not_not_intro h)] at hr; cases hr
  · rw [if_pos h] at hr; exact lv_lrem hX.1 hX.2.1 hd h (kk r hr H locs la hH hS hl)
theorem z_lremc (hX : OX G X l cc nL own ret fr lo) {x y : Int64} {pc : Nat} (hd : decode cc pc = .ok (.lrem, 1)) (hy : ¬ y = 0) (kk : ZR G X E pv ps nL σ ls (.long (x - x / y * y) :: stk) (pc + 1) res) : ZR G X E pv ps nL σ ls (.long y :: .long x :: stk) pc res :=
  fun r hr H locs la hH hS hl => lv_lrem hX.1 hX.2.1 hd hy (kk r hr H locs la hH hS hl)
theorem z_lcmp (hX : OX G X l cc nL own ret fr lo) {x y : Int64} {pc : Nat} (hd : decode cc pc = .ok (.lcmp, 1)) (kk : ZR G X E pv ps nL σ ls (.int (lg_cmp x y) :: stk) (pc + 1) res) : ZR G X E pv ps nL σ ls (.long y :: .long x :: stk) pc res :=
  fun r hr H locs la hH hS hl => W.lcmp hX.1 hX.2.1 hd (kk r hr H locs la hH hS hl)
theorem z_i2l (hX : OX G X l cc nL own ret fr lo) {x : Int32} {pc : Nat} (hd : decode cc pc = .ok (.i2l, 1)) (kk : ZR G X E pv ps nL σ ls (.long x.toInt64 :: stk) (pc + 1) res) : ZR G X E pv ps nL σ ls (.int x :: stk) pc res :=
  fun r hr H locs la hH hS hl => lv_i2l hX.1 hX.2.1 hd rfl (kk r hr H locs la hH hS hl)
theorem z_l2i (hX : OX G X l cc nL own ret fr lo) {x : Int64} {pc : Nat} (hd : decode cc pc = .ok (.l2i, 1)) (kk : ZR G X E pv ps nL σ ls (.int x.toInt32 :: stk) (pc + 1) res) : ZR G X E pv ps nL σ ls (.long x :: stk) pc res :=
  fun r hr H locs la hH hS hl => lv_l2i hX.1 hX.2.1 hd rfl (kk r hr H locs la hH hS hl)
theorem z_dup (hX : OX G X l cc nL own ret fr lo) {v : Value} {pc : Nat} (hd : decode cc pc = .ok (.dup, 1)) (hv : v.category = 1) (kk : ZR G X E pv ps nL σ ls (v :: v :: stk) (pc + 1) res) : ZR G X E pv ps nL σ ls (v :: stk) pc res :=
  fun r hr H locs la hH hS hl => lv_dup hX.1 hX.2.1 hd hv (kk r hr H locs la hH hS hl)
theorem z_pop (hX : OX G X l cc nL own ret fr lo) {v : Value} {pc : Nat} (hd : decode cc pc = .ok (.pop, 1)) (hv : v.category = 1) (kk : ZR G X E pv ps nL σ ls stk (pc + 1) res) : ZR G X E pv ps nL σ ls (v :: stk) pc res :=
  fun r hr H locs la hH hS hl => lv_pop hX.1 hX.2.1 hd hv (kk r hr H locs la hH hS hl)
theorem z_dup2 (hX : OX G X l cc nL own ret fr lo) {v w : Value} {pc : Nat} (hd : decode cc pc = .ok (.dup2, 1)) (hv : v.category = 1) (hw : w.category = 1) (kk : ZR G X E pv ps nL σ ls (v :: w :: v :: w :: stk) (pc + 1) res) : ZR G X E pv ps nL σ ls (v :: w :: stk) pc res :=
  fun r hr H locs la hH hS hl => lv_dup2_11 hX.1 hX.2.1 hd hv hw (kk r hr H locs la hH hS hl)
theorem z_icmp_ne (hX : OX G X l cc nL own ret fr lo) {x y : Int32} {off : Int} {tgt pc : Nat} {r1 r2 : Option ρ} (hd : decode cc pc = .ok (.if_icmp .ne off, 3)) (ht : (pc : Int) + off = (tgt : Int)) (k1 : ZR G X E pv ps nL σ ls stk tgt r1) (k2 : ZR G X E pv ps nL σ ls stk (pc + 3) r2) : ZR G X E pv ps nL σ ls (.int y :: .int x :: stk) pc (if x = y then r2 else r1) := by
  intro r hr H locs la hH hS hl
  refine lv_icmp_ne hX.1 hX.2.1 hd ht (fun h => ?_) (fun h => ?_)
  · rw [if_neg h] at hr; exact k1 r hr H locs la hH hS hl
  · rw [if_pos h] at hr; exact k2 r hr H locs la hH hS hl
theorem z_if_ne (hX : OX G X l cc nL own ret fr lo) {x : Int32} {off : Int} {tgt pc : Nat} {r1 r2 : Option ρ} (hd : decode cc pc = .ok (.ifCond .ne off, 3)) (ht : (pc : Int) + off = (tgt : Int)) (k1 : ZR G X E pv ps nL σ ls stk tgt r1) (k2 : ZR G X E pv ps nL σ ls stk (pc + 3) r2) : ZR G X E pv ps nL σ ls (.int x :: stk) pc (if x = 0 then r2 else r1) := by
  intro r hr H locs la hH hS hl
  refine lv_if_ne hX.1 hX.2.1 hd ht (fun h => ?_) (fun h => ?_)
  · rw [if_neg h] at hr; exact k1 r hr H locs la hH hS hl
  · rw [if_pos h] at hr; exact k2 r hr H locs la hH hS hl
theorem z_icmp_eq (hX : OX G X l cc nL own ret fr lo) {x y : Int32} {off : Int} {tgt pc : Nat} {r1 r2 : Option ρ} (hd : decode cc pc = .ok (.if_icmp .eq off, 3)) (ht : (pc : Int) + off = (tgt : Int)) (k1 : ZR G X E pv ps nL σ ls stk tgt r1) (k2 : ZR G X E pv ps nL σ ls stk (pc + 3) r2) : ZR G X E pv ps nL σ ls (.int y :: .int x :: stk) pc (if x = y then r1 else r2) := by
  intro r hr H locs la hH hS hl
  refine lv_icmp_eq hX.1 hX.2.1 hd ht (fun h => ?_) (fun h => ?_)
  · rw [if_pos h] at hr; exact k1 r hr H locs la hH hS hl
  · rw [if_neg h] at hr; exact k2 r hr H locs la hH hS hl
theorem z_icmp_lt (hX : OX G X l cc nL own ret fr lo) {x y : Int32} {off : Int} {tgt pc : Nat} {r1 r2 : Option ρ} (hd : decode cc pc = .ok (.if_icmp .lt off, 3)) (ht : (pc : Int) + off = (tgt : Int)) (k1 : ZR G X E pv ps nL σ ls stk tgt r1) (k2 : ZR G X E pv ps nL σ ls stk (pc + 3) r2) : ZR G X E pv ps nL σ ls (.int y :: .int x :: stk) pc (if x < y then r1 else r2) := by
  intro r hr H locs la hH hS hl
  refine lv_icmp_lt hX.1 hX.2.1 hd ht (fun h => ?_) (fun h => ?_)
  · rw [if_pos h] at hr; exact k1 r hr H locs la hH hS hl
  · rw [if_neg h] at hr; exact k2 r hr H locs la hH hS hl
theorem z_icmp_ge (hX : OX G X l cc nL own ret fr lo) {x y : Int32} {off : Int} {tgt pc : Nat} {r1 r2 : Option ρ} (hd : decode cc pc = .ok (.if_icmp .ge off, 3)) (ht : (pc : Int) + off = (tgt : Int)) (k1 : ZR G X E pv ps nL σ ls stk tgt r1) (k2 : ZR G X E pv ps nL σ ls stk (pc + 3) r2) : ZR G X E pv ps nL σ ls (.int y :: .int x :: stk) pc (if y ≤ x then r1 else r2) := by
  intro r hr H locs la hH hS hl
  refine lv_icmp_ge hX.1 hX.2.1 hd ht (fun h => ?_) (fun h => ?_)
  · rw [if_pos h] at hr; exact k1 r hr H locs la hH hS hl
  · rw [if_neg h] at hr; exact k2 r hr H locs la hH hS hl
theorem z_icmp_gt (hX : OX G X l cc nL own ret fr lo) {x y : Int32} {off : Int} {tgt pc : Nat} {r1 r2 : Option ρ} (hd : decode cc pc = .ok (.if_icmp .gt off, 3)) (ht : (pc : Int) + off = (tgt : Int)) (k1 : ZR G X E pv ps nL σ ls stk tgt r1) (k2 : ZR G X E pv ps nL σ ls stk (pc + 3) r2) : ZR G X E pv ps nL σ ls (.int y :: .int x :: stk) pc (if y < x then r1 else r2) := by
  intro r hr H locs la hH hS hl
  refine lv_icmp_gt hX.1 hX.2.1 hd ht (fun h => ?_) (fun h => ?_)
  · rw [if_pos h] at hr; exact k1 r hr H locs la hH hS hl
  · rw [if_neg h] at hr; exact k2 r hr H locs la hH hS hl
theorem z_icmp_le (hX : OX G X l cc nL own ret fr lo) {x y : Int32} {off : Int} {tgt pc : Nat} {r1 r2 : Option ρ} (hd : decode cc pc = .ok (.if_icmp .le off, 3)) (ht : (pc : Int) + off = (tgt : Int)) (k1 : ZR G X E pv ps nL σ ls stk tgt r1) (k2 : ZR G X E pv ps nL σ ls stk (pc + 3) r2) : ZR G X E pv ps nL σ ls (.int y :: .int x :: stk) pc (if x ≤ y then r1 else r2) := by
  intro r hr H locs la hH hS hl
  refine lv_icmp_le hX.1 hX.2.1 hd ht (fun h => ?_) (fun h => ?_)
  · rw [if_pos h] at hr; exact k1 r hr H locs la hH hS hl
  · rw [if_neg h] at hr; exact k2 r hr H locs la hH hS hl
theorem z_if_eq (hX : OX G X l cc nL own ret fr lo) {x : Int32} {off : Int} {tgt pc : Nat} {r1 r2 : Option ρ} (hd : decode cc pc = .ok (.ifCond .eq off, 3)) (ht : (pc : Int) + off = (tgt : Int)) (k1 : ZR G X E pv ps nL σ ls stk tgt r1) (k2 : ZR G X E pv ps nL σ ls stk (pc + 3) r2) : ZR G X E pv ps nL σ ls (.int x :: stk) pc (if x = 0 then r1 else r2) := by
  intro r hr H locs la hH hS hl
  refine lv_if_eq hX.1 hX.2.1 hd ht (fun h => ?_) (fun h => ?_)
  · rw [if_pos h] at hr; exact k1 r hr H locs la hH hS hl
  · rw [if_neg h] at hr; exact k2 r hr H locs la hH hS hl
theorem z_if_lt (hX : OX G X l cc nL own ret fr lo) {x : Int32} {off : Int} {tgt pc : Nat} {r1 r2 : Option ρ} (hd : decode cc pc = .ok (.ifCond .lt off, 3)) (ht : (pc : Int) + off = (tgt : Int)) (k1 : ZR G X E pv ps nL σ ls stk tgt r1) (k2 : ZR G X E pv ps nL σ ls stk (pc + 3) r2) : ZR G X E pv ps nL σ ls (.int x :: stk) pc (if x < 0 then r1 else r2) := by
  intro r hr H locs la hH hS hl
  refine lv_if_lt hX.1 hX.2.1 hd ht (fun h => ?_) (fun h => ?_)
  · rw [if_pos h] at hr; exact k1 r hr H locs la hH hS hl
  · rw [if_neg h] at hr; exact k2 r hr H locs la hH hS hl
theorem z_if_ge (hX : OX G X l cc nL own ret fr lo) {x : Int32} {off : Int} {tgt pc : Nat} {r1 r2 : Option ρ} (hd : decode cc pc = .ok (.ifCond .ge off, 3)) (ht : (pc : Int) + off = (tgt : Int)) (k1 : ZR G X E pv ps nL σ ls stk tgt r1) (k2 : ZR G X E pv ps nL σ ls stk (pc + 3) r2) : ZR G X E pv ps nL σ ls (.int x :: stk) pc (if 0 ≤ x then r1 else r2) := by
  intro r hr H locs la hH hS hl
  refine lv_if_ge hX.1 hX.2.1 hd ht (fun h => ?_) (fun h => ?_)
  · rw [if_pos h] at hr; exact k1 r hr H locs la hH hS hl
  · rw [if_neg h] at hr; exact k2 r hr H locs la hH hS hl
theorem z_if_gt (hX : OX G X l cc nL own ret fr lo) {x : Int32} {off : Int} {tgt pc : Nat} {r1 r2 : Option ρ} (hd : decode cc pc = .ok (.ifCond .gt off, 3)) (ht : (pc : Int) + off = (tgt : Int)) (k1 : ZR G X E pv ps nL σ ls stk tgt r1) (k2 : ZR G X E pv ps nL σ ls stk (pc + 3) r2) : ZR G X E pv ps nL σ ls (.int x :: stk) pc (if 0 < x then r1 else r2) := by
  intro r hr H locs la hH hS hl
  refine lv_if_gt hX.1 hX.2.1 hd ht (fun h => ?_) (fun h => ?_)
  · rw [if_pos h] at hr; exact k1 r hr H locs la hH hS hl
  · rw [if_neg h] at hr; exact k2 r hr H locs la hH hS hl
theorem z_if_le (hX : OX G X l cc nL own ret fr lo) {x : Int32} {off : Int} {tgt pc : Nat} {r1 r2 : Option ρ} (hd : decode cc pc = .ok (.ifCond .le off, 3)) (ht : (pc : Int) + off = (tgt : Int)) (k1 : ZR G X E pv ps nL σ ls stk tgt r1) (k2 : ZR G X E pv ps nL σ ls stk (pc + 3) r2) : ZR G X E pv ps nL σ ls (.int x :: stk) pc (if x ≤ 0 then r1 else r2) := by
  intro r hr H locs la hH hS hl
  refine lv_if_le hX.1 hX.2.1 hd ht (fun h => ?_) (fun h => ?_)
  · rw [if_pos h] at hr; exact k1 r hr H locs la hH hS hl
  · rw [if_neg h] at hr; exact k2 r hr H locs la hH hS hl
theorem z_goto (hX : OX G X l cc nL own ret fr lo) {off : Int} {tgt pc : Nat} (hd : decode cc pc = .ok (.goto off, 3)) (ht : (pc : Int) + off = (tgt : Int)) (kk : ZR G X E pv ps nL σ ls stk tgt res) : ZR G X E pv ps nL σ ls stk pc res := fun r hr H locs la hH hS hl => lv_goto hX.1 hX.2.1 hd ht (kk r hr H locs la hH hS hl)
theorem z_retI (hX : OX G X l cc nL own (some .int) fr lo) {x : Int32} {pc : Nat} (hd : decode cc pc = .ok (.ireturn, 1)) : ZR G X E pvI psI nL σ ls [.int x] pc (some (x, σ)) := by
  intro r hr H locs la hH hS hl
  cases hr
  exact W.iret hX.1 hX.2.1 hX.2.2.2.2.2.1 (fun t ht hW => ⟨⟨rfl, by rw [ht]; exact hH⟩, hS.F ht⟩) hS.2.2 hd hX.2.2.2.2.2.2.1
theorem z_retP (hX : OX G X l cc nL own (some .int) fr lo) {x : Int32} {pc : Nat} (hd : decode cc pc = .ok (.ireturn, 1)) : ZR G X E pvP (psP σ) nL σ ls [.int x] pc (some x) := by
  intro r hr H locs la hH hS hl
  cases hr
  exact W.iret hX.1 hX.2.1 hX.2.2.2.2.2.1 (fun t ht hW => ⟨⟨rfl, by rw [ht]; exact hH⟩, hS.F ht⟩) hS.2.2 hd hX.2.2.2.2.2.2.1
theorem nar_b {x : Int32} (h : x = 0 ∨ x = 1) : narrow .boolean (.int x) = .int x := by rcases h with rfl | rfl <;> decide +kernel
theorem z_retIz (hX : OX G X l cc nL own (some .boolean) fr lo) {x : Int32} {pc : Nat} (hd : decode cc pc = .ok (.ireturn, 1)) : ZR G X E pvI psI nL σ ls [.int x] pc (if x = 0 ∨ x = 1 then some (x, σ) else none) := by
  intro r hr H locs la hH hS hl
  by_cases h : x = 0 ∨ x = 1
  · rw [if_pos h] at hr
    cases hr
    exact W.zret hX.1 hX.2.1 hX.2.2.2.2.2.1 (nar_b h) (fun t ht hW => ⟨⟨rfl, by rw [ht]; exact hH⟩, hS.F ht⟩) hS.2.2 hd hX.2.2.2.2.2.2.1
  · rw [if_neg h] at hr; cases hr
theorem z_retPz (hX : OX G X l cc nL own (some .boolean) fr lo) {x : Int32} {pc : Nat} (hd : decode cc pc = .ok (.ireturn, 1)) : ZR G X E pvP (psP σ) nL σ ls [.int x] pc (if x = 0 ∨ x = 1 then some x else none) := by
  intro r hr H locs la hH hS hl
  by_cases h : x = 0 ∨ x = 1
  · rw [if_pos h] at hr
    cases hr
    exact W.zret hX.1 hX.2.1 hX.2.2.2.2.2.1 (nar_b h) (fun t ht hW => ⟨⟨rfl, by rw [ht]; exact hH⟩, hS.F ht⟩) hS.2.2 hd hX.2.2.2.2.2.2.1
  · rw [if_neg h] at hr; cases hr
theorem z_retIc (hX : OX G X l cc nL own (some .boolean) fr lo) {x : Int32} {pc : Nat} (hd : decode cc pc = .ok (.ireturn, 1)) (h : x = 0 ∨ x = 1) : ZR G X E pvI psI nL σ ls [.int x] pc (some (x, σ)) := by
  intro r hr H locs la hH hS hl
  cases hr
  exact W.zret hX.1 hX.2.1 hX.2.2.2.2.2.1 (nar_b h) (fun t ht hW => ⟨⟨rfl, by rw [ht]; exact hH⟩, hS.F ht⟩) hS.2.2 hd hX.2.2.2.2.2.2.1
theorem z_retPc (hX : OX G X l cc nL own (some .boolean) fr lo) {x : Int32} {pc : Nat} (hd : decode cc pc = .ok (.ireturn, 1)) (h : x = 0 ∨ x = 1) : ZR G X E pvP (psP σ) nL σ ls [.int x] pc (some x) := by
  intro r hr H locs la hH hS hl
  cases hr
  exact W.zret hX.1 hX.2.1 hX.2.2.2.2.2.1 (nar_b h) (fun t ht hW => ⟨⟨rfl, by rw [ht]; exact hH⟩, hS.F ht⟩) hS.2.2 hd hX.2.2.2.2.2.2.1
theorem z_retV (hX : OX G X l cc nL own none fr lo) {pc : Nat} (hd : decode cc pc = .ok (.return_, 1)) : ZR G X E pvV psV nL σ ls [] pc (some σ) := by
  intro r hr H locs la hH hS hl
  cases hr
  exact W.vret hX.1 hX.2.1 hX.2.2.2.2.2.1 (fun t ht hW => ⟨⟨rfl, by rw [ht]; exact hH⟩, hS.F ht⟩) hS.2.2 hd hX.2.2.2.2.2.2.1
theorem z_retL (hX : OX G X l cc nL own (some .long) fr lo) {x : Int64} {pc : Nat} (hd : decode cc pc = .ok (.lreturn, 1)) : ZR G X E pvL (psP σ) nL σ ls [.long x] pc (some x) := by
  intro r hr H locs la hH hS hl
  cases hr
  exact W.lret hX.1 hX.2.1 hX.2.2.2.2.2.1 (fun t ht hW => ⟨⟨rfl, by rw [ht]; exact hH⟩, hS.F ht⟩) hS.2.2 hd hX.2.2.2.2.2.2.1
theorem z_retM (hX : OX G X l cc nL own (some .long) fr lo) {x : Int64} {pc : Nat} (hd : decode cc pc = .ok (.lreturn, 1)) : ZR G X E pvM psM nL σ ls [.long x] pc (some (x, σ)) := by
  intro r hr H locs la hH hS hl
  cases hr
  exact W.lret hX.1 hX.2.1 hX.2.2.2.2.2.1 (fun t ht hW => ⟨⟨rfl, by rw [ht]; exact hH⟩, hS.F ht⟩) hS.2.2 hd hX.2.2.2.2.2.2.1
/-- a switch: one case after the other, then the rest -/
theorem z_tab1 (hX : OX G X l cc nL own ret fr lo) {dflt lo' hi : Int} {offs : Array Int} {len : Nat} {x : Int32} {v : Int32} {off : Int} {tgt pc : Nat} {r1 r2 : Option ρ} (hd : decode cc pc = .ok (.tableswitch dflt lo' hi offs, len)) (h1 : ¬ v.toInt < lo') (h2 : ¬ hi < v.toInt) (ho : offs[(v.toInt - lo').toNat]? = some off) (ht : (pc : Int) + off = (tgt : Int))
    (k1 : ZR G X E pv ps nL σ ls stk tgt r1) (k2 : ¬ x = v → ZR G X E pv ps nL σ ls (.int x :: stk) pc r2) : ZR G X E pv ps nL σ ls (.int x :: stk) pc (if x = v then r1 else r2) := by
  intro r hr H locs la hH hS hl
  by_cases h : x = v
  · rw [if_pos h] at hr
    subst h
    exact lv_tableIn hX.1 hX.2.1 hd h1 h2 ho ht (k1 r hr H locs la hH hS hl)
  · rw [if_neg h] at hr
    exact k2 h r hr H locs la hH hS hl
theorem z_tab0 (hX : OX G X l cc nL own ret fr lo) {dflt lo' hi : Int} {offs : Array Int} {len : Nat} {x : Int32} {tgt pc : Nat} (hd : decode cc pc = .ok (.tableswitch dflt lo' hi offs, len)) (h : x.toInt < lo' ∨ hi < x.toInt) (ht : (pc : Int) + dflt = (tgt : Int)) (kk : ZR G X E pv ps nL σ ls stk tgt res) : ZR G X E pv ps nL σ ls (.int x :: stk) pc res :=
  fun r hr H locs la hH hS hl => lv_tableOut hX.1 hX.2.1 hd h ht (kk r hr H locs la hH hS hl)


theorem pre_blind {S : Type} {G : Gb} {E : S → Sto × Lng} {σ : S} {args : List Value} : FrameBlind (va_Pc args (fun U => KS G U ∧ HP G (E σ) U.heap)) := fun _ _ _ _ q => ⟨q.1, q.2.1.calling, q.2.2⟩
/-- what a call needs of the tables and of the room -/
def CW (own : String) (index : Nat) (y : MethodName) (bytes : ByteArray) (maxL : Nat) (ret : Option FieldType) : Prop := Cond.methodLink own index y ∈ gw ∧ Cond.code y bytes maxL ret ∈ gw ∧ Cond.initialized y.cls ∈ gw
theorem z_cb {S' ρ' : Type} (hX : OX G X l cc nL own ret fr lo) {y : MethodName} {bytes : ByteArray} {maxL : Nat} {rt : Option FieldType} {fr' lo' index n : Nat} (hw : CW own index y bytes maxL rt) (hd : y.cls ≠ "java/lang/invoke/MethodHandle" ∧ y.cls ≠ "java/lang/invoke/VarHandle" ∧ (parseMethodDescriptor y.desc).map (fun d => d.parameters.length) = some n) (hR : fr' + 1 ≤ fr ∧ 8 + (maxL + 11) + lo' ≤ lo) :
    CallB X.R X.s X.args own index y bytes maxL rt (.code y bytes maxL rt :: gw) { frames := fr', cells := 0, slots := 0, locals := lo' } 0 0 n :=
  callB_of n hX.2.2.2.2.1 (gw_code hw.2.1) rfl rfl rfl (hX.2.2.2.2.1 _ hw.2.2) (hX.2.2.2.2.1 _ hw.1) hd (by rw [hX.2.2.2.2.2.2.2.2.2.1]; exact hR)

def RUN {S ρ' : Type} (G : Gb) (X : CX) (E : S → Sto × Lng) (pv' : ρ' → Option Value) (ps' : ρ' → S) (nL : Nat) (σ : S) (ls : List (Nat × Value)) (stk0 stk : List Value) (pc : Nat) (a : Array Value) (x : Option ρ') : Prop :=
  ∀ r', x = some r' → ∀ (H : Heap) (locs : List Loc) (la : Array Slot), HP G (E σ) H → va_S (AB G) X.s.heap H locs → lv_has la nL ls → va_Run X.p X.l X.e X.R X.s X.m X.args X.below X.meth X.c H locs 0 0 0 0 (F0 X.m pc la stk0) stk (QZ G E (pv' r') (ps' r') a) (AB G)
theorem z_run {ρ' : Type} {pv' : ρ' → Option Value} {ps' : ρ' → S} {x : Option ρ'} {k : ρ' → Option ρ} {pc : Nat} {stk0 : List Value} {a : Array Value} (h : RUN G X E pv' ps' nL σ ls stk0 stk pc a x) (kk : ∀ r', ZR G X E pv ps nL (ps' r') ls ((pv' r').toList ++ stk) (pc + 3) (k r')) : ZR G X E pv ps nL σ ls stk0 pc (x.bind k) := by
  intro r hr H locs la hH hS hl
  cases hx : x with
  | none => rw [hx] at hr; cases hr
  | some r' =>
    rw [hx] at hr
    have hr : k r' = some r := hr
    intro T hT Y
    obtain ⟨v, st₀, t, T', L, h0, X', hL, e1, e2, ⟨⟨hv, hb⟩, hz, hk⟩, stp⟩ := h r' hx H locs la hH hS hl T hT Y
    cases hv
    rw [h0] at hz hk
    obtain ⟨t2, a1, b1⟩ := kk r' r hr T'.heap (locs ++ L) la (by rw [e1]; exact hb) ⟨Nat.le_trans hS.1 (by rw [e1]; exact hz), fun q h1 h2 => by rw [e1, hk q (Nat.lt_of_lt_of_le h1 hS.1) h2]; exact hS.2.1 q h1 h2, fun q hq => by
      rcases List.mem_append.mp hq with g | g
      · exact hS.2.2 q g
      · exact hL q g⟩ hl T' rfl X'
    exact ⟨t2, stp t2 a1, b1⟩
theorem z_rI {x : Option (Int32 × S)} {k : Int32 → S → Option ρ} {pc : Nat} {stk0 : List Value} {a : Array Value} (h : RUN G X E pvI psI nL σ ls stk0 stk pc a x) (kk : ∀ r τ, ZR G X E pv ps nL τ ls (.int r :: stk) (pc + 3) (k r τ)) : ZR G X E pv ps nL σ ls stk0 pc (bI x k) := z_run h (fun r' => kk r'.1 r'.2)
theorem z_rP {x : Option Int32} {k : Int32 → Option ρ} {pc : Nat} {stk0 : List Value} {a : Array Value} (h : RUN G X E pvP (psP σ) nL σ ls stk0 stk pc a x) (kk : ∀ r, ZR G X E pv ps nL σ ls (.int r :: stk) (pc + 3) (k r)) : ZR G X E pv ps nL σ ls stk0 pc (bP x k) := z_run h (fun r' => kk r')
theorem z_rV {x : Option S} {k : S → Option ρ} {pc : Nat} {stk0 : List Value} {a : Array Value} (h : RUN G X E pvV psV nL σ ls stk0 stk pc a x) (kk : ∀ τ, ZR G X E pv ps nL τ ls stk (pc + 3) (k τ)) : ZR G X E pv ps nL σ ls stk0 pc (bV x k) := z_run h (fun r' => kk r')
theorem z_rL {x : Option Int64} {k : Int64 → Option ρ} {pc : Nat} {stk0 : List Value} {a : Array Value} (h : RUN G X E pvL (psP σ) nL σ ls stk0 stk pc a x) (kk : ∀ r, ZR G X E pv ps nL σ ls (.long r :: stk) (pc + 3) (k r)) : ZR G X E pv ps nL σ ls stk0 pc (bL x k) := z_run h (fun r' => kk r')
theorem z_rM {x : Option (Int64 × S)} {k : Int64 → S → Option ρ} {pc : Nat} {stk0 : List Value} {a : Array Value} (h : RUN G X E pvM psM nL σ ls stk0 stk pc a x) (kk : ∀ r τ, ZR G X E pv ps nL τ ls (.long r :: stk) (pc + 3) (k r τ)) : ZR G X E pv ps nL σ ls stk0 pc (bM x k) := z_run h (fun r' => kk r'.1 r'.2)
/-- the receiver is of class C -/
def RC (G : Gb) (k i : Nat) (C : String) : Prop := V k i ∧ ∃ (ci : Nat) (T : u_T) (N : Nat), vwCl[ci]? = some (C, T, N) ∧ ∀ f L, ∃ fs, cel G k i f L = .inr (ci, fs)
theorem rc_cell (hX : OX G X l cc nL own ret fr lo) {k i : Nat} {C : String} (h : RC G k i C) {H : Heap} (hH : HP G (E σ) H) : ∃ cell : Cell, H[ad G k i]? = some cell ∧ cell.vm.isStatics = false ∧ X.s.vm.findClass C = some cell.cls := by
  obtain ⟨hV, ci, T, N, hc, hf⟩ := h
  obtain ⟨fs, hfs⟩ := hf ((E σ).1 k i) (E σ).2
  exact va_recv hX.2.2.2.2.2.2.2.1.1 hH hc (q0 := plc k i) (by rw [WS_get hV, hfs])
theorem run_V {ρ' : Type} {pv' : ρ' → Option Value} {ps' : ρ' → S} {x : Option ρ'} (hX : OX G X l cc nL own ret fr lo) {k i : Nat} {C : String} (hr : RC G k i C) {y : MethodName} {bytes : ByteArray} {maxL fr' lo' index n pc : Nat} {rt : Option FieldType} {As stk0 : List Value} (hw : CW own index y bytes maxL rt) (hi : Cond.instanceMethod y ∈ gw) (hs : Cond.selects C y y ∈ gw)
    (hd : y.cls ≠ "java/lang/invoke/MethodHandle" ∧ y.cls ≠ "java/lang/invoke/VarHandle" ∧ (parseMethodDescriptor y.desc).map (fun d => d.parameters.length) = some n) (hR : fr' + 1 ≤ fr ∧ 8 + (maxL + 11) + lo' ≤ lo) (hC : CT G l E pv' ps' y bytes maxL rt fr' lo' (.ref (ad G k i) :: As) σ x) (hn : As.length = n) (hst : stk0 = As.reverse ++ .ref (ad G k i) :: stk) (hW : (stk.map fun v => v.category).sum ≤ 8) (hdg : decode cc pc = .ok (.invokevirtual index, 3)) :
    RUN G X E pv' ps' nL σ ls stk0 stk pc (Value.ref (ad G k i) :: As).toArray x := by
  intro r' hx H locs la hH hS hl
  have hMM := hC r' hx
  rw [← hX.2.2.2.2.2.2.2.2.2.2] at hMM
  exact va_runV (Ts := gw) ⟨hX.1, hX.2.1, hX.2.2.1, hX.2.2.2.1, hX.2.2.2.2.1⟩ hMM ⟨z_cb (S' := S) (ρ' := ρ') hX hw hd hR, hX.2.2.2.2.1 _ hi, hX.2.2.2.2.1 _ hs⟩ ⟨pre_blind, rc_cell hX hr hH, fun U hU hWm => ⟨rfl, hX.2.2.2.2.2.2.2.1.call hS hU hWm, by rw [hU]; exact hH⟩⟩ rfl hn hl.1 hst (lv_room hW) hdg ⟨by rw [hX.2.2.2.2.2.2.2.2.2.1]; exact Nat.le_refl 0, by rw [hX.2.2.2.2.2.2.2.2.2.1]; exact Nat.le_refl 0⟩
theorem run_S {ρ' : Type} {pv' : ρ' → Option Value} {ps' : ρ' → S} {x : Option ρ'} (hX : OX G X l cc nL own ret fr lo) {y : MethodName} {bytes : ByteArray} {maxL fr' lo' index n pc : Nat} {rt : Option FieldType} {As stk0 : List Value} (hw : CW own index y bytes maxL rt) (hs : Cond.static y ∈ gw)
    (hd : y.cls ≠ "java/lang/invoke/MethodHandle" ∧ y.cls ≠ "java/lang/invoke/VarHandle" ∧ (parseMethodDescriptor y.desc).map (fun d => d.parameters.length) = some n) (hR : fr' + 1 ≤ fr ∧ 8 + (maxL + 11) + lo' ≤ lo) (hC : CT G l E pv' ps' y bytes maxL rt fr' lo' As σ x) (hn : As.length = n) (hst : stk0 = As.reverse ++ stk) (hW : (stk.map fun v => v.category).sum ≤ 8) (hdg : decode cc pc = .ok (.invokestatic index, 3)) :
    RUN G X E pv' ps' nL σ ls stk0 stk pc As.toArray x := by
  intro r' hx H locs la hH hS hl
  have hMM := hC r' hx
  rw [← hX.2.2.2.2.2.2.2.2.2.2] at hMM
  exact va_runS (Ts := gw) ⟨hX.1, hX.2.1, hX.2.2.1, hX.2.2.2.1, hX.2.2.2.2.1⟩ hMM ⟨z_cb (S' := S) (ρ' := ρ') hX hw hd hR, hX.2.2.2.2.1 _ hs⟩ ⟨pre_blind, fun U hU hWm => ⟨rfl, hX.2.2.2.2.2.2.2.1.call hS hU hWm, by rw [hU]; exact hH⟩⟩ rfl hn hl.1 hst (lv_room hW) hdg ⟨by rw [hX.2.2.2.2.2.2.2.2.2.1]; exact Nat.le_refl 0, by rw [hX.2.2.2.2.2.2.2.2.2.1]; exact Nat.le_refl 0⟩
/-! memory -/
abbrev inb (x : Int32) (n : Nat) : Prop := 0 ≤ x.toInt ∧ x.toInt < n
abbrev ix (x : Int32) : Nat := x.toNatClampNeg
theorem inb_ix {x : Int32} {n : Nat} (h : inb x n) : ix x < n := by
  have := h.1; have := h.2
  show x.toInt.toNat < n
  omega
theorem z_getf (hX : OX G X l cc nL own ret fr lo) {k i ci slot N index pc : Nat} {C ref : String} {T : u_T} {fs : List Value} {v : Value} (hV : V k i) (he : cel G k i ((E σ).1 k i) (E σ).2 = .inr (ci, fs)) (hc : vwCl[ci]? = some (C, T, N)) (hin : ∀ w ∈ u_ws C T N, w ∈ gw) (hs : slot < N) (hr : (T slot).1 = ref) (hv : fs[slot]? = some v)
    (hq : Cond.fieldLink own index ref (T slot).2.1 (T slot).2.2.1 ∈ gw) (hd : decode cc pc = .ok (.getfield index, 3)) (kk : ZR G X E pv ps nL σ ls (v :: stk) (pc + 3) res) : ZR G X E pv ps nL σ ls (.ref (ad G k i) :: stk) pc res :=
  fun r hr2 H locs la hH hS hl => va_get (ref := ref) hX.1 hX.2.1 hX.2.2.2.2.1 hin hX.2.2.2.1 hX.2.2.2.2.2.2.2.1.1 hH (plc k i) (by rw [WS_get hV, he]) hc slot hs (hX.2.2.2.2.1 _ hq) (by rw [hr]; exact fun _ h => h) hv hd (kk r hr2 H locs la hH hS hl)
theorem z_putf (hX : OX G X l cc nL own ret fr lo) {k i ci slot N index pc : Nat} {C ref : String} {T : u_T} {fs : List Value} {x : Int32} {σ' : S} (hV : V k i) (he : cel G k i ((E σ).1 k i) (E σ).2 = .inr (ci, fs)) (he2 : cel G k i (upd ((E σ).1 k i) slot x) (E σ).2 = .inr (ci, fs.set slot (.int x))) (hE : E σ' = (st (E σ).1 k i slot x, (E σ).2)) (hc : vwCl[ci]? = some (C, T, N)) (hin : ∀ w ∈ u_ws C T N, w ∈ gw) (ty : Nat → FieldType) (hty : ∀ k, k < N → parseFieldDescriptor (T k).2.2.1 = some (ty k)) (hnm : ∀ a, a < N → ∀ b, b < N → a ≠ b → (T a).2.1 ≠ (T b).2.1) (hs : slot < N) (hr : (T slot).1 = ref) (hf : (T slot).2.2.2 = false) (hI : parseFieldDescriptor (T slot).2.2.1 = some .int) (hl0 : slot < fs.length)
    (hq : Cond.fieldLink own index ref (T slot).2.1 (T slot).2.2.1 ∈ gw) (hd : decode cc pc = .ok (.putfield index, 3)) (kk : ZR G X E pv ps nL σ' ls stk (pc + 3) res) : ZR G X E pv ps nL σ ls (.int x :: .ref (ad G k i) :: stk) pc res := by
  intro r hr2 H locs la hH hS hl
  refine va_put (ref := ref) (ty := .int) hX.1 hX.2.1 hX.2.2.2.2.1 hin ty hty hnm hX.2.2.2.1 hX.2.2.2.2.2.2.2.1.1 hH (WS_D hX.2.2.2.2.2.2.2.2.1 _ _) hS (plc k i) (by rw [WS_get hV, he]) hc slot hs (hX.2.2.2.2.1 _ hq) (by rw [hr]; exact fun _ h => h) hf hI rfl rfl hl0 hd (fun H1 locs1 hP1 _ hS1 => ?_)
  refine kk r hr2 H1 locs1 la ?_ hS1 hl
  rw [← he2, WS_set hV, ← st_row] at hP1
  rw [hE]
  exact hP1
theorem z_putl (hX : OX G X l cc nL own ret fr lo) {ci slot N index pc : Nat} {C ref : String} {T : u_T} {fs : List Value} {x : Int64} {σ' : S} (he : cel G 17 0 ((E σ).1 17 0) (E σ).2 = .inr (ci, fs)) (he2 : cel G 17 0 ((E σ).1 17 0) (stl (E σ).2 slot x) = .inr (ci, fs.set slot (.long x))) (hE : E σ' = ((E σ).1, stl (E σ).2 slot x)) (hc : vwCl[ci]? = some (C, T, N)) (hin : ∀ w ∈ u_ws C T N, w ∈ gw) (ty : Nat → FieldType) (hty : ∀ k, k < N → parseFieldDescriptor (T k).2.2.1 = some (ty k)) (hnm : ∀ a, a < N → ∀ b, b < N → a ≠ b → (T a).2.1 ≠ (T b).2.1) (hs : slot < N) (hr : (T slot).1 = ref) (hf : (T slot).2.2.2 = false) (hI : parseFieldDescriptor (T slot).2.2.1 = some .long) (hl0 : slot < fs.length)
    (hq : Cond.fieldLink own index ref (T slot).2.1 (T slot).2.2.1 ∈ gw) (hd : decode cc pc = .ok (.putfield index, 3)) (kk : ZR G X E pv ps nL σ' ls stk (pc + 3) res) : ZR G X E pv ps nL σ ls (.long x :: .ref (ad G 17 0) :: stk) pc res := by
  intro r hr2 H locs la hH hS hl
  refine va_put (ref := ref) (ty := .long) hX.1 hX.2.1 hX.2.2.2.2.1 hin ty hty hnm hX.2.2.2.1 hX.2.2.2.2.2.2.2.1.1 hH (WS_D hX.2.2.2.2.2.2.2.2.1 _ _) hS (plc 17 0) (by rw [WS_get (show V 17 0 from show 0 < nK 17 by decide +kernel), he]) hc slot hs (hX.2.2.2.2.1 _ hq) (by rw [hr]; exact fun _ h => h) hf hI rfl rfl hl0 hd (fun H1 locs1 hP1 _ hS1 => ?_)
  refine kk r hr2 H1 locs1 la ?_ hS1 hl
  rw [← he2, WS_setL] at hP1
  rw [hE]
  exact hP1
theorem z_iald (hX : OX G X l cc nL own ret fr lo) {k i n pc : Nat} {f : Nat → Int32} {x : Int32} (hV : V k i) (he : cel G k i ((E σ).1 k i) (E σ).2 = arI G n f) (hd : decode cc pc = .ok (.iaload, 1)) (kk : ZR G X E pv ps nL σ ls (.int (f (ix x)) :: stk) (pc + 1) res) : ZR G X E pv ps nL σ ls (.int x :: .ref (ad G k i) :: stk) pc (if inb x n then res else none) := by
  intro r hr H locs la hH hS hl
  by_cases h : inb x n
  · rw [if_pos h] at hr
    exact va_iald hX.1 hX.2.1 hX.2.2.2.2.2.2.2.1.1 hH (plc k i) 0 (by rw [WS_get hV, he]; rfl) rfl (vp_in_iff.mpr h) hd (kk r hr H locs la hH hS hl)
  · rw [if_neg h] at hr; cases hr
theorem z_zald (hX : OX G X l cc nL own ret fr lo) {k i n pc : Nat} {f : Nat → Int32} {x : Int32} (hV : V k i) (he : cel G k i ((E σ).1 k i) (E σ).2 = arZ G n f) (hd : decode cc pc = .ok (.baload, 1)) (kk : ZR G X E pv ps nL σ ls (.int (f (ix x)) :: stk) (pc + 1) res) : ZR G X E pv ps nL σ ls (.int x :: .ref (ad G k i) :: stk) pc (if inb x n then res else none) := by
  intro r hr H locs la hH hS hl
  by_cases h : inb x n
  · rw [if_pos h] at hr
    exact va_zald hX.1 hX.2.1 hX.2.2.2.2.2.2.2.1.1 hH (plc k i) 1 (by rw [WS_get hV, he]; rfl) rfl (vp_in_iff.mpr h) hd (kk r hr H locs la hH hS hl)
  · rw [if_neg h] at hr; cases hr
theorem z_iast (hX : OX G X l cc nL own ret fr lo) {k i n pc : Nat} {f : Nat → Int32} {x y : Int32} {σ' : S} (hV : V k i) (he : cel G k i ((E σ).1 k i) (E σ).2 = arI G n f) (he2 : cel G k i (upd ((E σ).1 k i) (ix x) y) (E σ).2 = arI G n (upd f (ix x) y)) (hE : E σ' = (st (E σ).1 k i (ix x) y, (E σ).2)) (hd : decode cc pc = .ok (.iastore, 1)) (kk : ZR G X E pv ps nL σ' ls stk (pc + 1) res) : ZR G X E pv ps nL σ ls (.int y :: .int x :: .ref (ad G k i) :: stk) pc (if inb x n then res else none) := by
  intro r hr H locs la hH hS hl
  by_cases h : inb x n
  · rw [if_pos h] at hr
    refine va_iast hX.1 hX.2.1 hX.2.2.2.2.2.2.2.1.1 hH (WS_D hX.2.2.2.2.2.2.2.2.1 _ _) hS (plc k i) 0 (by rw [WS_get hV, he]; rfl) rfl (vp_in_iff.mpr h) hd (fun H1 locs1 hP1 _ hS1 => ?_)
    refine kk r hr H1 locs1 la ?_ hS1 hl
    have e : (Sum.inl (G.2.1 0, n, .inl (upd f (ix x) y)) : va_E) = cel G k i (upd ((E σ).1 k i) (ix x) y) (E σ).2 := he2.symm
    rw [e, WS_set hV, ← st_row] at hP1
    rw [hE]
    exact hP1
  · rw [if_neg h] at hr; cases hr
theorem z_zast1 (hX : OX G X l cc nL own ret fr lo) {k i n pc : Nat} {f : Nat → Int32} {x : Int32} {σ' : S} (hV : V k i) (he : cel G k i ((E σ).1 k i) (E σ).2 = arZ G n f) (he2 : cel G k i (upd ((E σ).1 k i) (ix x) 1) (E σ).2 = arZ G n (upd f (ix x) 1)) (hE : E σ' = (st (E σ).1 k i (ix x) 1, (E σ).2)) (hd : decode cc pc = .ok (.bastore, 1)) (kk : ZR G X E pv ps nL σ' ls stk (pc + 1) res) : ZR G X E pv ps nL σ ls (.int 1 :: .int x :: .ref (ad G k i) :: stk) pc (if inb x n then res else none) := by
  intro r hr H locs la hH hS hl
  by_cases h : inb x n
  · rw [if_pos h] at hr
    refine va_zast hX.1 hX.2.1 hX.2.2.2.2.2.2.2.1.1 hH (WS_D hX.2.2.2.2.2.2.2.2.1 _ _) hS (plc k i) 1 (by rw [WS_get hV, he]; rfl) rfl (vp_in_iff.mpr h) hd (fun H1 locs1 hP1 _ hS1 => ?_)
    refine kk r hr H1 locs1 la ?_ hS1 hl
    have e1 : vp_nar .boolean 1 = 1 := by decide +kernel
    rw [e1] at hP1
    have e : (Sum.inl (G.2.1 1, n, .inl (upd f (ix x) 1)) : va_E) = cel G k i (upd ((E σ).1 k i) (ix x) 1) (E σ).2 := he2.symm
    rw [e, WS_set hV, ← st_row] at hP1
    rw [hE]
    exact hP1
  · rw [if_neg h] at hr; cases hr
theorem z_aald (hX : OX G X l cc nL own ret fr lo) {k i n pc c t : Nat} {C : String} {f : Nat → Option Nat} {a : Nat} {x : Int32} (hV : V k i) (he : cel G k i ((E σ).1 k i) (E σ).2 = arQ G c n f) (ht : (tys G)[t]? = some (G.2.1 c, .object C)) (ha : f (ix x) = some a) (hd : decode cc pc = .ok (.aaload, 1)) (kk : inb x n → ZR G X E pv ps nL σ ls (.ref a :: stk) (pc + 1) res) : ZR G X E pv ps nL σ ls (.int x :: .ref (ad G k i) :: stk) pc (if inb x n then res else none) := by
  intro r hr H locs la hH hS hl
  by_cases h : inb x n
  · rw [if_pos h] at hr
    refine va_aldq hX.1 hX.2.1 hX.2.2.2.2.2.2.2.1.1 hH (plc k i) t (by rw [WS_get hV, he]; rfl) ht (vp_in_iff.mpr h) hd ?_
    rw [show f x.toNatClampNeg = some a from ha]
    exact kk h r hr H locs la hH hS hl
  · rw [if_neg h] at hr; cases hr
theorem z_alenq (hX : OX G X l cc nL own ret fr lo) {k i n pc c t : Nat} {C : String} {f : Nat → Option Nat} {v : Int32} (hV : V k i) (he : cel G k i ((E σ).1 k i) (E σ).2 = arQ G c n f) (ht : (tys G)[t]? = some (G.2.1 c, .object C)) (hv : Int32.ofNat n = v) (hd : decode cc pc = .ok (.arraylength, 1)) (kk : ZR G X E pv ps nL σ ls (.int v :: stk) (pc + 1) res) : ZR G X E pv ps nL σ ls (.ref (ad G k i) :: stk) pc res :=
  fun r hr H locs la hH hS hl => va_alen hX.1 hX.2.1 hX.2.2.2.2.2.2.2.1.1 hH (plc k i) t (by rw [WS_get hV, he]; rfl) ht hv hd (kk r hr H locs la hH hS hl)
theorem z_max (hX : OX G X l cc nL own ret fr lo) {index pc : Nat} {x y : Int32} (hq : Cond.methodLink own index Lib.Math.max.name ∈ gw) (h1 : Cond.static Lib.Math.max.name ∈ gw) (h2 : Cond.initialized "java/lang/Math" ∈ gw) (h3 : Cond.code Lib.Math.max.name Lib.Math.max.code 2 (some .int) ∈ gw) (hf : 1 ≤ fr) (hlo : (stk.map fun v => v.category).sum + 13 ≤ lo) (hd : decode cc pc = .ok (.invokestatic index, 3)) (kk : ZR G X E pv ps nL σ ls (.int (if x < y then y else x) :: stk) (pc + 3) res) : ZR G X E pv ps nL σ ls (.int y :: .int x :: stk) pc res :=
  fun r hr H locs la hH hS hl => va_mmax hX.1 hX.2.1 (hX.2.2.1.trans hl.1.symm) hX.2.2.2.1 (hX.2.2.2.2.1 _ hq) (hX.2.2.2.2.1 _ h1) (hX.2.2.2.2.1 _ h2) (hX.2.2.2.2.1 _ h3) (by rw [hX.2.2.2.2.2.2.2.2.2.1]; exact hf) (by rw [hX.2.2.2.2.2.2.2.2.2.1]; exact hlo) (Nat.zero_le _) (Nat.zero_le _) hd (kk r hr H locs la hH hS hl)
theorem z_min (hX : OX G X l cc nL own ret fr lo) {index pc : Nat} {x y : Int32} (hq : Cond.methodLink own index Lib.Math.min.name ∈ gw) (h1 : Cond.static Lib.Math.min.name ∈ gw) (h2 : Cond.initialized "java/lang/Math" ∈ gw) (h3 : Cond.code Lib.Math.min.name Lib.Math.min.code 2 (some .int) ∈ gw) (hf : 1 ≤ fr) (hlo : (stk.map fun v => v.category).sum + 13 ≤ lo) (hd : decode cc pc = .ok (.invokestatic index, 3)) (kk : ZR G X E pv ps nL σ ls (.int (if y < x then y else x) :: stk) (pc + 3) res) : ZR G X E pv ps nL σ ls (.int y :: .int x :: stk) pc res :=
  fun r hr H locs la hH hS hl => va_mmin hX.1 hX.2.1 (hX.2.2.1.trans hl.1.symm) hX.2.2.2.1 (hX.2.2.2.2.1 _ hq) (hX.2.2.2.2.1 _ h1) (hX.2.2.2.2.1 _ h2) (hX.2.2.2.2.1 _ h3) (by rw [hX.2.2.2.2.2.2.2.2.2.1]; exact hf) (by rw [hX.2.2.2.2.2.2.2.2.2.1]; exact hlo) (Nat.zero_le _) (Nat.zero_le _) hd (kk r hr H locs la hH hS hl)
end ZROWS
end
