/-- a private method of a class that the tables say can be made, by its rows of tables_1 -/
def lw_okq (q : MethodName × Nat) : Prop := (q.1.cls ≠ "java/lang/invoke/MethodHandle" ∧ q.1.cls ≠ "java/lang/invoke/VarHandle") ∧ Cond.instantiable q.1.cls q.2 ∈ tables_1 ∧ Cond.privateMethod q.1 ∈ tables_1 ∧ Cond.instanceMethod q.1 ∈ tables_1
theorem lw_p0 : lw_okq (⟨"GampLine$Reader", "step", "()V"⟩, 12) := ⟨⟨by decide +kernel, by decide +kernel⟩, List.mem_of_getElem? (i := 31) (by decide +kernel), List.mem_of_getElem? (i := 477) (by decide +kernel), List.mem_of_getElem? (i := 478) (by decide +kernel)⟩
theorem lw_p1 : lw_okq (⟨"GampLine$Reader", "wordFrom", "(II)I"⟩, 12) := ⟨⟨by decide +kernel, by decide +kernel⟩, List.mem_of_getElem? (i := 31) (by decide +kernel), List.mem_of_getElem? (i := 484) (by decide +kernel), List.mem_of_getElem? (i := 485) (by decide +kernel)⟩
theorem lw_p2 : lw_okq (⟨"GampLine$Reader", "readDigits", "()V"⟩, 12) := ⟨⟨by decide +kernel, by decide +kernel⟩, List.mem_of_getElem? (i := 31) (by decide +kernel), List.mem_of_getElem? (i := 540) (by decide +kernel), List.mem_of_getElem? (i := 541) (by decide +kernel)⟩
theorem lw_p3 : lw_okq (⟨"GampLine$Reader", "fail", "(I)V"⟩, 12) := ⟨⟨by decide +kernel, by decide +kernel⟩, List.mem_of_getElem? (i := 31) (by decide +kernel), List.mem_of_getElem? (i := 544) (by decide +kernel), List.mem_of_getElem? (i := 545) (by decide +kernel)⟩
theorem lw_p4 : lw_okq (⟨"GampLine$Reader", "expect", "(I)V"⟩, 12) := ⟨⟨by decide +kernel, by decide +kernel⟩, List.mem_of_getElem? (i := 31) (by decide +kernel), List.mem_of_getElem? (i := 551) (by decide +kernel), List.mem_of_getElem? (i := 552) (by decide +kernel)⟩
theorem lw_p5 : lw_okq (⟨"GampLine$Reader", "readNumber", "(II)I"⟩, 12) := ⟨⟨by decide +kernel, by decide +kernel⟩, List.mem_of_getElem? (i := 31) (by decide +kernel), List.mem_of_getElem? (i := 555) (by decide +kernel), List.mem_of_getElem? (i := 556) (by decide +kernel)⟩
theorem lw_p6 : lw_okq (⟨"GampLine$Reader", "readThing", "()V"⟩, 12) := ⟨⟨by decide +kernel, by decide +kernel⟩, List.mem_of_getElem? (i := 31) (by decide +kernel), List.mem_of_getElem? (i := 567) (by decide +kernel), List.mem_of_getElem? (i := 568) (by decide +kernel)⟩
theorem lw_p7 : lw_okq (⟨"GampLine$Reader", "readPerson", "()V"⟩, 12) := ⟨⟨by decide +kernel, by decide +kernel⟩, List.mem_of_getElem? (i := 31) (by decide +kernel), List.mem_of_getElem? (i := 576) (by decide +kernel), List.mem_of_getElem? (i := 577) (by decide +kernel)⟩
theorem lw_p8 : lw_okq (⟨"GampLine$Reader", "readFlag", "(I)V"⟩, 12) := ⟨⟨by decide +kernel, by decide +kernel⟩, List.mem_of_getElem? (i := 31) (by decide +kernel), List.mem_of_getElem? (i := 584) (by decide +kernel), List.mem_of_getElem? (i := 585) (by decide +kernel)⟩
theorem lw_p9 : lw_okq (⟨"GampLine$Reader", "readLaw", "(Z)V"⟩, 12) := ⟨⟨by decide +kernel, by decide +kernel⟩, List.mem_of_getElem? (i := 31) (by decide +kernel), List.mem_of_getElem? (i := 600) (by decide +kernel), List.mem_of_getElem? (i := 601) (by decide +kernel)⟩
theorem lw_p10 : lw_okq (⟨"GampLine$Reader", "readSum", "()V"⟩, 12) := ⟨⟨by decide +kernel, by decide +kernel⟩, List.mem_of_getElem? (i := 31) (by decide +kernel), List.mem_of_getElem? (i := 604) (by decide +kernel), List.mem_of_getElem? (i := 605) (by decide +kernel)⟩
theorem lw_p11 : lw_okq (⟨"GampLine$Reader", "readTerm", "()V"⟩, 12) := ⟨⟨by decide +kernel, by decide +kernel⟩, List.mem_of_getElem? (i := 31) (by decide +kernel), List.mem_of_getElem? (i := 608) (by decide +kernel), List.mem_of_getElem? (i := 609) (by decide +kernel)⟩
theorem lw_p12 : lw_okq (⟨"GampLine$Reader", "readAtom", "()V"⟩, 12) := ⟨⟨by decide +kernel, by decide +kernel⟩, List.mem_of_getElem? (i := 31) (by decide +kernel), List.mem_of_getElem? (i := 612) (by decide +kernel), List.mem_of_getElem? (i := 613) (by decide +kernel)⟩
theorem lw_p13 : lw_okq (⟨"GampLine$Reader", "factOf", "(I)I"⟩, 12) := ⟨⟨by decide +kernel, by decide +kernel⟩, List.mem_of_getElem? (i := 31) (by decide +kernel), List.mem_of_getElem? (i := 616) (by decide +kernel), List.mem_of_getElem? (i := 617) (by decide +kernel)⟩
theorem lw_p14 : lw_okq (⟨"GampLine$Reader", "goesIn", "()Z"⟩, 12) := ⟨⟨by decide +kernel, by decide +kernel⟩, List.mem_of_getElem? (i := 31) (by decide +kernel), List.mem_of_getElem? (i := 624) (by decide +kernel), List.mem_of_getElem? (i := 625) (by decide +kernel)⟩
theorem lw_p15 : lw_okq (⟨"GampLine$Reader", "readChoice", "()V"⟩, 12) := ⟨⟨by decide +kernel, by decide +kernel⟩, List.mem_of_getElem? (i := 31) (by decide +kernel), List.mem_of_getElem? (i := 628) (by decide +kernel), List.mem_of_getElem? (i := 629) (by decide +kernel)⟩
def lw_privs_1 : List (MethodName × Nat) := [(⟨"GampLine$Reader", "step", "()V"⟩, 12), (⟨"GampLine$Reader", "wordFrom", "(II)I"⟩, 12), (⟨"GampLine$Reader", "readDigits", "()V"⟩, 12), (⟨"GampLine$Reader", "fail", "(I)V"⟩, 12), (⟨"GampLine$Reader", "expect", "(I)V"⟩, 12), (⟨"GampLine$Reader", "readNumber", "(II)I"⟩, 12), (⟨"GampLine$Reader", "readThing", "()V"⟩, 12), (⟨"GampLine$Reader", "readPerson", "()V"⟩, 12), (⟨"GampLine$Reader", "readFlag", "(I)V"⟩, 12), (⟨"GampLine$Reader", "readLaw", "(Z)V"⟩, 12), (⟨"GampLine$Reader", "readSum", "()V"⟩, 12), (⟨"GampLine$Reader", "readTerm", "()V"⟩, 12), (⟨"GampLine$Reader", "readAtom", "()V"⟩, 12), (⟨"GampLine$Reader", "factOf", "(I)I"⟩, 12), (⟨"GampLine$Reader", "goesIn", "()Z"⟩, 12), (⟨"GampLine$Reader", "readChoice", "()V"⟩, 12)]
theorem lw_r1 : ∀ q ∈ lw_privs_1, lw_okq q := List.forall_mem_cons.mpr ⟨lw_p0, List.forall_mem_cons.mpr ⟨lw_p1, List.forall_mem_cons.mpr ⟨lw_p2, List.forall_mem_cons.mpr ⟨lw_p3, List.forall_mem_cons.mpr ⟨lw_p4, List.forall_mem_cons.mpr ⟨lw_p5, List.forall_mem_cons.mpr ⟨lw_p6, List.forall_mem_cons.mpr ⟨lw_p7, List.forall_mem_cons.mpr ⟨lw_p8, List.forall_mem_cons.mpr ⟨lw_p9, List.forall_mem_cons.mpr ⟨lw_p10, List.forall_mem_cons.mpr ⟨lw_p11, List.forall_mem_cons.mpr ⟨lw_p12, List.forall_mem_cons.mpr ⟨lw_p13, List.forall_mem_cons.mpr ⟨lw_p14, List.forall_mem_cons.mpr ⟨lw_p15, fun _ h => absurd h List.not_mem_nil⟩⟩⟩⟩⟩⟩⟩⟩⟩⟩⟩⟩⟩⟩⟩⟩
theorem lw_p16 : lw_okq (⟨"GampLine$Reader", "readTruth", "()V"⟩, 12) := ⟨⟨by decide +kernel, by decide +kernel⟩, List.mem_of_getElem? (i := 31) (by decide +kernel), List.mem_of_getElem? (i := 632) (by decide +kernel), List.mem_of_getElem? (i := 633) (by decide +kernel)⟩
theorem lw_p17 : lw_okq (⟨"GampLine$Reader", "readBoth", "()V"⟩, 12) := ⟨⟨by decide +kernel, by decide +kernel⟩, List.mem_of_getElem? (i := 31) (by decide +kernel), List.mem_of_getElem? (i := 636) (by decide +kernel), List.mem_of_getElem? (i := 637) (by decide +kernel)⟩
theorem lw_p18 : lw_okq (⟨"GampLine$Reader", "readUnit", "()V"⟩, 12) := ⟨⟨by decide +kernel, by decide +kernel⟩, List.mem_of_getElem? (i := 31) (by decide +kernel), List.mem_of_getElem? (i := 640) (by decide +kernel), List.mem_of_getElem? (i := 641) (by decide +kernel)⟩
theorem lw_p19 : lw_okq (⟨"GampLine$Reader", "readComparison", "()V"⟩, 12) := ⟨⟨by decide +kernel, by decide +kernel⟩, List.mem_of_getElem? (i := 31) (by decide +kernel), List.mem_of_getElem? (i := 644) (by decide +kernel), List.mem_of_getElem? (i := 645) (by decide +kernel)⟩
theorem lw_p20 : lw_okq (⟨"GampLine", "forgetPast", "()V"⟩, 17) := ⟨⟨by decide +kernel, by decide +kernel⟩, List.mem_of_getElem? (i := 23) (by decide +kernel), List.mem_of_getElem? (i := 674) (by decide +kernel), List.mem_of_getElem? (i := 675) (by decide +kernel)⟩
theorem lw_p21 : lw_okq (⟨"GampLine$Line", "tellFacts", "(III)V"⟩, 13) := ⟨⟨by decide +kernel, by decide +kernel⟩, List.mem_of_getElem? (i := 37) (by decide +kernel), List.mem_of_getElem? (i := 706) (by decide +kernel), List.mem_of_getElem? (i := 707) (by decide +kernel)⟩
theorem lw_p22 : lw_okq (⟨"GampLine$Laws", "factAt", "(I)I"⟩, 8) := ⟨⟨by decide +kernel, by decide +kernel⟩, List.mem_of_getElem? (i := 43) (by decide +kernel), List.mem_of_getElem? (i := 714) (by decide +kernel), List.mem_of_getElem? (i := 715) (by decide +kernel)⟩
theorem lw_p23 : lw_okq (⟨"GampLine", "remember", "()V"⟩, 17) := ⟨⟨by decide +kernel, by decide +kernel⟩, List.mem_of_getElem? (i := 23) (by decide +kernel), List.mem_of_getElem? (i := 741) (by decide +kernel), List.mem_of_getElem? (i := 742) (by decide +kernel)⟩
theorem lw_p24 : lw_okq (⟨"GampLine", "agreed", "(I)I"⟩, 17) := ⟨⟨by decide +kernel, by decide +kernel⟩, List.mem_of_getElem? (i := 23) (by decide +kernel), List.mem_of_getElem? (i := 760) (by decide +kernel), List.mem_of_getElem? (i := 761) (by decide +kernel)⟩
theorem lw_p25 : lw_okq (⟨"GampLine$State", "draw", "()I"⟩, 8) := ⟨⟨by decide +kernel, by decide +kernel⟩, List.mem_of_getElem? (i := 198) (by decide +kernel), List.mem_of_getElem? (i := 824) (by decide +kernel), List.mem_of_getElem? (i := 825) (by decide +kernel)⟩
theorem lw_p26 : lw_okq (⟨"GampLine$State", "nextPlace", "(LGampLine$Line;II)I"⟩, 8) := ⟨⟨by decide +kernel, by decide +kernel⟩, List.mem_of_getElem? (i := 198) (by decide +kernel), List.mem_of_getElem? (i := 832) (by decide +kernel), List.mem_of_getElem? (i := 833) (by decide +kernel)⟩
theorem lw_p27 : lw_okq (⟨"GampLine", "hasTray", "(I)Z"⟩, 17) := ⟨⟨by decide +kernel, by decide +kernel⟩, List.mem_of_getElem? (i := 23) (by decide +kernel), List.mem_of_getElem? (i := 851) (by decide +kernel), List.mem_of_getElem? (i := 852) (by decide +kernel)⟩
theorem lw_p28 : lw_okq (⟨"GampLine", "trayCode", "(I)I"⟩, 17) := ⟨⟨by decide +kernel, by decide +kernel⟩, List.mem_of_getElem? (i := 23) (by decide +kernel), List.mem_of_getElem? (i := 894) (by decide +kernel), List.mem_of_getElem? (i := 895) (by decide +kernel)⟩
theorem lw_p29 : lw_okq (⟨"GampLine", "canBeLeft", "(II)Z"⟩, 17) := ⟨⟨by decide +kernel, by decide +kernel⟩, List.mem_of_getElem? (i := 23) (by decide +kernel), List.mem_of_getElem? (i := 910) (by decide +kernel), List.mem_of_getElem? (i := 911) (by decide +kernel)⟩
theorem lw_p30 : lw_okq (⟨"GampLine$Left", "arrives", "(LGampLine$Line;LGampLine$Claims;I)Z"⟩, 11) := ⟨⟨by decide +kernel, by decide +kernel⟩, List.mem_of_getElem? (i := 252) (by decide +kernel), List.mem_of_getElem? (i := 943) (by decide +kernel), List.mem_of_getElem? (i := 944) (by decide +kernel)⟩
theorem lw_p31 : lw_okq (⟨"GampLine", "planCode", "(I)I"⟩, 17) := ⟨⟨by decide +kernel, by decide +kernel⟩, List.mem_of_getElem? (i := 23) (by decide +kernel), List.mem_of_getElem? (i := 965) (by decide +kernel), List.mem_of_getElem? (i := 966) (by decide +kernel)⟩
def lw_privs_2 : List (MethodName × Nat) := [(⟨"GampLine$Reader", "readTruth", "()V"⟩, 12), (⟨"GampLine$Reader", "readBoth", "()V"⟩, 12), (⟨"GampLine$Reader", "readUnit", "()V"⟩, 12), (⟨"GampLine$Reader", "readComparison", "()V"⟩, 12), (⟨"GampLine", "forgetPast", "()V"⟩, 17), (⟨"GampLine$Line", "tellFacts", "(III)V"⟩, 13), (⟨"GampLine$Laws", "factAt", "(I)I"⟩, 8), (⟨"GampLine", "remember", "()V"⟩, 17), (⟨"GampLine", "agreed", "(I)I"⟩, 17), (⟨"GampLine$State", "draw", "()I"⟩, 8), (⟨"GampLine$State", "nextPlace", "(LGampLine$Line;II)I"⟩, 8), (⟨"GampLine", "hasTray", "(I)Z"⟩, 17), (⟨"GampLine", "trayCode", "(I)I"⟩, 17), (⟨"GampLine", "canBeLeft", "(II)Z"⟩, 17), (⟨"GampLine$Left", "arrives", "(LGampLine$Line;LGampLine$Claims;I)Z"⟩, 11), (⟨"GampLine", "planCode", "(I)I"⟩, 17)]
theorem lw_r2 : ∀ q ∈ lw_privs_2, lw_okq q := List.forall_mem_cons.mpr ⟨lw_p16, List.forall_mem_cons.mpr ⟨lw_p17, List.forall_mem_cons.mpr ⟨lw_p18, List.forall_mem_cons.mpr ⟨lw_p19, List.forall_mem_cons.mpr ⟨lw_p20, List.forall_mem_cons.mpr ⟨lw_p21, List.forall_mem_cons.mpr ⟨lw_p22, List.forall_mem_cons.mpr ⟨lw_p23, List.forall_mem_cons.mpr ⟨lw_p24, List.forall_mem_cons.mpr ⟨lw_p25, List.forall_mem_cons.mpr ⟨lw_p26, List.forall_mem_cons.mpr ⟨lw_p27, List.forall_mem_cons.mpr ⟨lw_p28, List.forall_mem_cons.mpr ⟨lw_p29, List.forall_mem_cons.mpr ⟨lw_p30, List.forall_mem_cons.mpr ⟨lw_p31, fun _ h => absurd h List.not_mem_nil⟩⟩⟩⟩⟩⟩⟩⟩⟩⟩⟩⟩⟩⟩⟩⟩
theorem lw_p32 : lw_okq (⟨"GampLine", "canPlan", "(LGampLine$Tray;I)Z"⟩, 17) := ⟨⟨by decide +kernel, by decide +kernel⟩, List.mem_of_getElem? (i := 23) (by decide +kernel), List.mem_of_getElem? (i := 969) (by decide +kernel), List.mem_of_getElem? (i := 970) (by decide +kernel)⟩
theorem lw_p33 : lw_okq (⟨"GampLine", "beginPlan", "(LGampLine$Tray;)V"⟩, 17) := ⟨⟨by decide +kernel, by decide +kernel⟩, List.mem_of_getElem? (i := 23) (by decide +kernel), List.mem_of_getElem? (i := 976) (by decide +kernel), List.mem_of_getElem? (i := 977) (by decide +kernel)⟩
theorem lw_p34 : lw_okq (⟨"GampLine$Left", "spell", "(II)V"⟩, 11) := ⟨⟨by decide +kernel, by decide +kernel⟩, List.mem_of_getElem? (i := 252) (by decide +kernel), List.mem_of_getElem? (i := 984) (by decide +kernel), List.mem_of_getElem? (i := 985) (by decide +kernel)⟩
theorem lw_p35 : lw_okq (⟨"GampLine$Left", "wouldDo", "(LGampLine$Line;LGampLine$Claims;)Z"⟩, 11) := ⟨⟨by decide +kernel, by decide +kernel⟩, List.mem_of_getElem? (i := 252) (by decide +kernel), List.mem_of_getElem? (i := 990) (by decide +kernel), List.mem_of_getElem? (i := 991) (by decide +kernel)⟩
theorem lw_p36 : lw_okq (⟨"GampLine$Whose", "sumWith", "(LGampLine$Claims;III)I"⟩, 1) := ⟨⟨by decide +kernel, by decide +kernel⟩, List.mem_of_getElem? (i := 296) (by decide +kernel), List.mem_of_getElem? (i := 1014) (by decide +kernel), List.mem_of_getElem? (i := 1015) (by decide +kernel)⟩
theorem lw_p37 : lw_okq (⟨"GampLine$Trades", "choice", "(LGampLine$Claims;II)I"⟩, 3) := ⟨⟨by decide +kernel, by decide +kernel⟩, List.mem_of_getElem? (i := 307) (by decide +kernel), List.mem_of_getElem? (i := 1060) (by decide +kernel), List.mem_of_getElem? (i := 1061) (by decide +kernel)⟩
theorem lw_p38 : lw_okq (⟨"GampLine$Trades", "settle", "(I)I"⟩, 3) := ⟨⟨by decide +kernel, by decide +kernel⟩, List.mem_of_getElem? (i := 307) (by decide +kernel), List.mem_of_getElem? (i := 1065) (by decide +kernel), List.mem_of_getElem? (i := 1066) (by decide +kernel)⟩
theorem lw_p39 : lw_okq (⟨"GampLine$Trades", "isOnRing", "(I)Z"⟩, 3) := ⟨⟨by decide +kernel, by decide +kernel⟩, List.mem_of_getElem? (i := 307) (by decide +kernel), List.mem_of_getElem? (i := 1069) (by decide +kernel), List.mem_of_getElem? (i := 1070) (by decide +kernel)⟩
theorem lw_p40 : lw_okq (⟨"GampLine", "bothGain", "(II)Z"⟩, 17) := ⟨⟨by decide +kernel, by decide +kernel⟩, List.mem_of_getElem? (i := 23) (by decide +kernel), List.mem_of_getElem? (i := 1085) (by decide +kernel), List.mem_of_getElem? (i := 1086) (by decide +kernel)⟩
theorem lw_p41 : lw_okq (⟨"GampLine", "openingCode", "(II)I"⟩, 17) := ⟨⟨by decide +kernel, by decide +kernel⟩, List.mem_of_getElem? (i := 23) (by decide +kernel), List.mem_of_getElem? (i := 1093) (by decide +kernel), List.mem_of_getElem? (i := 1094) (by decide +kernel)⟩
theorem lw_p42 : lw_okq (⟨"GampLine$Opener", "furtherDays", "(III)I"⟩, 9) := ⟨⟨by decide +kernel, by decide +kernel⟩, List.mem_of_getElem? (i := 325) (by decide +kernel), List.mem_of_getElem? (i := 1114) (by decide +kernel), List.mem_of_getElem? (i := 1115) (by decide +kernel)⟩
theorem lw_p43 : lw_okq (⟨"GampLine$Opener", "burdenAt", "(II)I"⟩, 9) := ⟨⟨by decide +kernel, by decide +kernel⟩, List.mem_of_getElem? (i := 325) (by decide +kernel), List.mem_of_getElem? (i := 1118) (by decide +kernel), List.mem_of_getElem? (i := 1119) (by decide +kernel)⟩
theorem lw_p44 : lw_okq (⟨"GampLine$Opener", "reachesBehind", "(II)Z"⟩, 9) := ⟨⟨by decide +kernel, by decide +kernel⟩, List.mem_of_getElem? (i := 325) (by decide +kernel), List.mem_of_getElem? (i := 1132) (by decide +kernel), List.mem_of_getElem? (i := 1133) (by decide +kernel)⟩
theorem lw_p45 : lw_okq (⟨"GampLine", "answersCode", "(II)I"⟩, 17) := ⟨⟨by decide +kernel, by decide +kernel⟩, List.mem_of_getElem? (i := 23) (by decide +kernel), List.mem_of_getElem? (i := 1153) (by decide +kernel), List.mem_of_getElem? (i := 1154) (by decide +kernel)⟩
theorem lw_p46 : lw_okq (⟨"GampLine", "marksBy", "(LGampLine$Tray;I)I"⟩, 17) := ⟨⟨by decide +kernel, by decide +kernel⟩, List.mem_of_getElem? (i := 23) (by decide +kernel), List.mem_of_getElem? (i := 1163) (by decide +kernel), List.mem_of_getElem? (i := 1164) (by decide +kernel)⟩
theorem lw_p47 : lw_okq (⟨"GampLine", "wouldAnswer", "(LGampLine$Tray;II)Z"⟩, 17) := ⟨⟨by decide +kernel, by decide +kernel⟩, List.mem_of_getElem? (i := 23) (by decide +kernel), List.mem_of_getElem? (i := 1167) (by decide +kernel), List.mem_of_getElem? (i := 1168) (by decide +kernel)⟩
def lw_privs_3 : List (MethodName × Nat) := [(⟨"GampLine", "canPlan", "(LGampLine$Tray;I)Z"⟩, 17), (⟨"GampLine", "beginPlan", "(LGampLine$Tray;)V"⟩, 17), (⟨"GampLine$Left", "spell", "(II)V"⟩, 11), (⟨"GampLine$Left", "wouldDo", "(LGampLine$Line;LGampLine$Claims;)Z"⟩, 11), (⟨"GampLine$Whose", "sumWith", "(LGampLine$Claims;III)I"⟩, 1), (⟨"GampLine$Trades", "choice", "(LGampLine$Claims;II)I"⟩, 3), (⟨"GampLine$Trades", "settle", "(I)I"⟩, 3), (⟨"GampLine$Trades", "isOnRing", "(I)Z"⟩, 3), (⟨"GampLine", "bothGain", "(II)Z"⟩, 17), (⟨"GampLine", "openingCode", "(II)I"⟩, 17), (⟨"GampLine$Opener", "furtherDays", "(III)I"⟩, 9), (⟨"GampLine$Opener", "burdenAt", "(II)I"⟩, 9), (⟨"GampLine$Opener", "reachesBehind", "(II)Z"⟩, 9), (⟨"GampLine", "answersCode", "(II)I"⟩, 17), (⟨"GampLine", "marksBy", "(LGampLine$Tray;I)I"⟩, 17), (⟨"GampLine", "wouldAnswer", "(LGampLine$Tray;II)Z"⟩, 17)]
theorem lw_r3 : ∀ q ∈ lw_privs_3, lw_okq q := List.forall_mem_cons.mpr ⟨lw_p32, List.forall_mem_cons.mpr ⟨lw_p33, List.forall_mem_cons.mpr ⟨lw_p34, List.forall_mem_cons.mpr ⟨lw_p35, List.forall_mem_cons.mpr ⟨lw_p36, List.forall_mem_cons.mpr ⟨lw_p37, List.forall_mem_cons.mpr ⟨lw_p38, List.forall_mem_cons.mpr ⟨lw_p39, List.forall_mem_cons.mpr ⟨lw_p40, List.forall_mem_cons.mpr ⟨lw_p41, List.forall_mem_cons.mpr ⟨lw_p42, List.forall_mem_cons.mpr ⟨lw_p43, List.forall_mem_cons.mpr ⟨lw_p44, List.forall_mem_cons.mpr ⟨lw_p45, List.forall_mem_cons.mpr ⟨lw_p46, List.forall_mem_cons.mpr ⟨lw_p47, fun _ h => absurd h List.not_mem_nil⟩⟩⟩⟩⟩⟩⟩⟩⟩⟩⟩⟩⟩⟩⟩⟩
theorem lw_p48 : lw_okq (⟨"GampLine", "canChoose", "(II)Z"⟩, 17) := ⟨⟨by decide +kernel, by decide +kernel⟩, List.mem_of_getElem? (i := 23) (by decide +kernel), List.mem_of_getElem? (i := 1179) (by decide +kernel), List.mem_of_getElem? (i := 1180) (by decide +kernel)⟩
theorem lw_p49 : lw_okq (⟨"GampLine$Whose", "bestTurn", "(LGampLine$Claims;III)I"⟩, 1) := ⟨⟨by decide +kernel, by decide +kernel⟩, List.mem_of_getElem? (i := 296) (by decide +kernel), List.mem_of_getElem? (i := 1188) (by decide +kernel), List.mem_of_getElem? (i := 1189) (by decide +kernel)⟩
theorem lw_p50 : lw_okq (⟨"GampLine", "chanceCode", "(II)I"⟩, 17) := ⟨⟨by decide +kernel, by decide +kernel⟩, List.mem_of_getElem? (i := 23) (by decide +kernel), List.mem_of_getElem? (i := 1202) (by decide +kernel), List.mem_of_getElem? (i := 1203) (by decide +kernel)⟩
theorem lw_p51 : lw_okq (⟨"GampLine$Odds", "add", "(IJ)V"⟩, 3) := ⟨⟨by decide +kernel, by decide +kernel⟩, List.mem_of_getElem? (i := 359) (by decide +kernel), List.mem_of_getElem? (i := 1216) (by decide +kernel), List.mem_of_getElem? (i := 1217) (by decide +kernel)⟩
theorem lw_p52 : lw_okq (⟨"GampLine$Tray", "cut", "(J)J"⟩, 3) := ⟨⟨by decide +kernel, by decide +kernel⟩, List.mem_of_getElem? (i := 376) (by decide +kernel), List.mem_of_getElem? (i := 1256) (by decide +kernel), List.mem_of_getElem? (i := 1257) (by decide +kernel)⟩
theorem lw_p53 : lw_okq (⟨"GampLineModel", "next", "()V"⟩, 42) := ⟨⟨by decide +kernel, by decide +kernel⟩, List.mem_of_getElem? (i := 1281) (by decide +kernel), List.mem_of_getElem? (i := 1429) (by decide +kernel), List.mem_of_getElem? (i := 1430) (by decide +kernel)⟩
theorem lw_p54 : lw_okq (⟨"GampLineModel", "see", "(I)I"⟩, 42) := ⟨⟨by decide +kernel, by decide +kernel⟩, List.mem_of_getElem? (i := 1281) (by decide +kernel), List.mem_of_getElem? (i := 1433) (by decide +kernel), List.mem_of_getElem? (i := 1434) (by decide +kernel)⟩
theorem lw_p55 : lw_okq (⟨"GampLineModel", "keyAt", "()I"⟩, 42) := ⟨⟨by decide +kernel, by decide +kernel⟩, List.mem_of_getElem? (i := 1281) (by decide +kernel), List.mem_of_getElem? (i := 1440) (by decide +kernel), List.mem_of_getElem? (i := 1441) (by decide +kernel)⟩
theorem lw_p56 : lw_okq (⟨"GampLineModel", "eats", "(I)Z"⟩, 42) := ⟨⟨by decide +kernel, by decide +kernel⟩, List.mem_of_getElem? (i := 1281) (by decide +kernel), List.mem_of_getElem? (i := 1451) (by decide +kernel), List.mem_of_getElem? (i := 1452) (by decide +kernel)⟩
theorem lw_p57 : lw_okq (⟨"GampLineModel", "is", "(I)Z"⟩, 42) := ⟨⟨by decide +kernel, by decide +kernel⟩, List.mem_of_getElem? (i := 1281) (by decide +kernel), List.mem_of_getElem? (i := 1455) (by decide +kernel), List.mem_of_getElem? (i := 1456) (by decide +kernel)⟩
theorem lw_p58 : lw_okq (⟨"GampLineModel", "fails", "(I)V"⟩, 42) := ⟨⟨by decide +kernel, by decide +kernel⟩, List.mem_of_getElem? (i := 1281) (by decide +kernel), List.mem_of_getElem? (i := 1459) (by decide +kernel), List.mem_of_getElem? (i := 1460) (by decide +kernel)⟩
theorem lw_p59 : lw_okq (⟨"GampLineModel", "takesN", "(II)I"⟩, 42) := ⟨⟨by decide +kernel, by decide +kernel⟩, List.mem_of_getElem? (i := 1281) (by decide +kernel), List.mem_of_getElem? (i := 1463) (by decide +kernel), List.mem_of_getElem? (i := 1464) (by decide +kernel)⟩
theorem lw_p60 : lw_okq (⟨"GampLineModel", "ends", "()V"⟩, 42) := ⟨⟨by decide +kernel, by decide +kernel⟩, List.mem_of_getElem? (i := 1281) (by decide +kernel), List.mem_of_getElem? (i := 1467) (by decide +kernel), List.mem_of_getElem? (i := 1468) (by decide +kernel)⟩
theorem lw_p61 : lw_okq (⟨"GampLineModel", "readLine", "()V"⟩, 42) := ⟨⟨by decide +kernel, by decide +kernel⟩, List.mem_of_getElem? (i := 1281) (by decide +kernel), List.mem_of_getElem? (i := 1471) (by decide +kernel), List.mem_of_getElem? (i := 1472) (by decide +kernel)⟩
theorem lw_p62 : lw_okq (⟨"GampLineModel", "readThing", "()V"⟩, 42) := ⟨⟨by decide +kernel, by decide +kernel⟩, List.mem_of_getElem? (i := 1281) (by decide +kernel), List.mem_of_getElem? (i := 1475) (by decide +kernel), List.mem_of_getElem? (i := 1476) (by decide +kernel)⟩
theorem lw_p63 : lw_okq (⟨"GampLineModel", "readPerson", "()V"⟩, 42) := ⟨⟨by decide +kernel, by decide +kernel⟩, List.mem_of_getElem? (i := 1281) (by decide +kernel), List.mem_of_getElem? (i := 1479) (by decide +kernel), List.mem_of_getElem? (i := 1480) (by decide +kernel)⟩
def lw_privs_4 : List (MethodName × Nat) := [(⟨"GampLine", "canChoose", "(II)Z"⟩, 17), (⟨"GampLine$Whose", "bestTurn", "(LGampLine$Claims;III)I"⟩, 1), (⟨"GampLine", "chanceCode", "(II)I"⟩, 17), (⟨"GampLine$Odds", "add", "(IJ)V"⟩, 3), (⟨"GampLine$Tray", "cut", "(J)J"⟩, 3), (⟨"GampLineModel", "next", "()V"⟩, 42), (⟨"GampLineModel", "see", "(I)I"⟩, 42), (⟨"GampLineModel", "keyAt", "()I"⟩, 42), (⟨"GampLineModel", "eats", "(I)Z"⟩, 42), (⟨"GampLineModel", "is", "(I)Z"⟩, 42), (⟨"GampLineModel", "fails", "(I)V"⟩, 42), (⟨"GampLineModel", "takesN", "(II)I"⟩, 42), (⟨"GampLineModel", "ends", "()V"⟩, 42), (⟨"GampLineModel", "readLine", "()V"⟩, 42), (⟨"GampLineModel", "readThing", "()V"⟩, 42), (⟨"GampLineModel", "readPerson", "()V"⟩, 42)]
theorem lw_r4 : ∀ q ∈ lw_privs_4, lw_okq q := List.forall_mem_cons.mpr ⟨lw_p48, List.forall_mem_cons.mpr ⟨lw_p49, List.forall_mem_cons.mpr ⟨lw_p50, List.forall_mem_cons.mpr ⟨lw_p51, List.forall_mem_cons.mpr ⟨lw_p52, List.forall_mem_cons.mpr ⟨lw_p53, List.forall_mem_cons.mpr ⟨lw_p54, List.forall_mem_cons.mpr ⟨lw_p55, List.forall_mem_cons.mpr ⟨lw_p56, List.forall_mem_cons.mpr ⟨lw_p57, List.forall_mem_cons.mpr ⟨lw_p58, List.forall_mem_cons.mpr ⟨lw_p59, List.forall_mem_cons.mpr ⟨lw_p60, List.forall_mem_cons.mpr ⟨lw_p61, List.forall_mem_cons.mpr ⟨lw_p62, List.forall_mem_cons.mpr ⟨lw_p63, fun _ h => absurd h List.not_mem_nil⟩⟩⟩⟩⟩⟩⟩⟩⟩⟩⟩⟩⟩⟩⟩⟩
theorem lw_p64 : lw_okq (⟨"GampLineModel", "readFlag", "(I)Z"⟩, 42) := ⟨⟨by decide +kernel, by decide +kernel⟩, List.mem_of_getElem? (i := 1281) (by decide +kernel), List.mem_of_getElem? (i := 1483) (by decide +kernel), List.mem_of_getElem? (i := 1484) (by decide +kernel)⟩
theorem lw_p65 : lw_okq (⟨"GampLineModel", "readHolds", "(I)V"⟩, 42) := ⟨⟨by decide +kernel, by decide +kernel⟩, List.mem_of_getElem? (i := 1281) (by decide +kernel), List.mem_of_getElem? (i := 1487) (by decide +kernel), List.mem_of_getElem? (i := 1488) (by decide +kernel)⟩
theorem lw_p66 : lw_okq (⟨"GampLineModel", "readLaw", "(I)V"⟩, 42) := ⟨⟨by decide +kernel, by decide +kernel⟩, List.mem_of_getElem? (i := 1281) (by decide +kernel), List.mem_of_getElem? (i := 1491) (by decide +kernel), List.mem_of_getElem? (i := 1492) (by decide +kernel)⟩
theorem lw_p67 : lw_okq (⟨"GampLineModel", "readSum", "(I)V"⟩, 42) := ⟨⟨by decide +kernel, by decide +kernel⟩, List.mem_of_getElem? (i := 1281) (by decide +kernel), List.mem_of_getElem? (i := 1495) (by decide +kernel), List.mem_of_getElem? (i := 1496) (by decide +kernel)⟩
theorem lw_p68 : lw_okq (⟨"GampLineModel", "readTerm", "(I)V"⟩, 42) := ⟨⟨by decide +kernel, by decide +kernel⟩, List.mem_of_getElem? (i := 1281) (by decide +kernel), List.mem_of_getElem? (i := 1499) (by decide +kernel), List.mem_of_getElem? (i := 1500) (by decide +kernel)⟩
theorem lw_p69 : lw_okq (⟨"GampLineModel", "readAtom", "(I)V"⟩, 42) := ⟨⟨by decide +kernel, by decide +kernel⟩, List.mem_of_getElem? (i := 1281) (by decide +kernel), List.mem_of_getElem? (i := 1503) (by decide +kernel), List.mem_of_getElem? (i := 1504) (by decide +kernel)⟩
theorem lw_p70 : lw_okq (⟨"GampLineModel", "codes", "(I)V"⟩, 42) := ⟨⟨by decide +kernel, by decide +kernel⟩, List.mem_of_getElem? (i := 1281) (by decide +kernel), List.mem_of_getElem? (i := 1507) (by decide +kernel), List.mem_of_getElem? (i := 1508) (by decide +kernel)⟩
theorem lw_p71 : lw_okq (⟨"GampLineModel", "wordOf", "(I)I"⟩, 42) := ⟨⟨by decide +kernel, by decide +kernel⟩, List.mem_of_getElem? (i := 1281) (by decide +kernel), List.mem_of_getElem? (i := 1511) (by decide +kernel), List.mem_of_getElem? (i := 1512) (by decide +kernel)⟩
theorem lw_p72 : lw_okq (⟨"GampLineModel", "goesIn", "(I)Z"⟩, 42) := ⟨⟨by decide +kernel, by decide +kernel⟩, List.mem_of_getElem? (i := 1281) (by decide +kernel), List.mem_of_getElem? (i := 1515) (by decide +kernel), List.mem_of_getElem? (i := 1516) (by decide +kernel)⟩
theorem lw_p73 : lw_okq (⟨"GampLineModel", "readIf", "(I)V"⟩, 42) := ⟨⟨by decide +kernel, by decide +kernel⟩, List.mem_of_getElem? (i := 1281) (by decide +kernel), List.mem_of_getElem? (i := 1519) (by decide +kernel), List.mem_of_getElem? (i := 1520) (by decide +kernel)⟩
theorem lw_p74 : lw_okq (⟨"GampLineModel", "readTruth", "(I)V"⟩, 42) := ⟨⟨by decide +kernel, by decide +kernel⟩, List.mem_of_getElem? (i := 1281) (by decide +kernel), List.mem_of_getElem? (i := 1523) (by decide +kernel), List.mem_of_getElem? (i := 1524) (by decide +kernel)⟩
theorem lw_p75 : lw_okq (⟨"GampLineModel", "readBoth", "(I)V"⟩, 42) := ⟨⟨by decide +kernel, by decide +kernel⟩, List.mem_of_getElem? (i := 1281) (by decide +kernel), List.mem_of_getElem? (i := 1527) (by decide +kernel), List.mem_of_getElem? (i := 1528) (by decide +kernel)⟩
theorem lw_p76 : lw_okq (⟨"GampLineModel", "readUnit", "(I)V"⟩, 42) := ⟨⟨by decide +kernel, by decide +kernel⟩, List.mem_of_getElem? (i := 1281) (by decide +kernel), List.mem_of_getElem? (i := 1531) (by decide +kernel), List.mem_of_getElem? (i := 1532) (by decide +kernel)⟩
theorem lw_p77 : lw_okq (⟨"GampLineModel", "isThing", "(J)Z"⟩, 42) := ⟨⟨by decide +kernel, by decide +kernel⟩, List.mem_of_getElem? (i := 1281) (by decide +kernel), List.mem_of_getElem? (i := 1543) (by decide +kernel), List.mem_of_getElem? (i := 1544) (by decide +kernel)⟩
theorem lw_p78 : lw_okq (⟨"GampLineModel", "isPerson", "(J)Z"⟩, 42) := ⟨⟨by decide +kernel, by decide +kernel⟩, List.mem_of_getElem? (i := 1281) (by decide +kernel), List.mem_of_getElem? (i := 1551) (by decide +kernel), List.mem_of_getElem? (i := 1552) (by decide +kernel)⟩
theorem lw_p79 : lw_okq (⟨"GampLineModel", "heldBy", "(I)I"⟩, 42) := ⟨⟨by decide +kernel, by decide +kernel⟩, List.mem_of_getElem? (i := 1281) (by decide +kernel), List.mem_of_getElem? (i := 1555) (by decide +kernel), List.mem_of_getElem? (i := 1556) (by decide +kernel)⟩
def lw_privs_5 : List (MethodName × Nat) := [(⟨"GampLineModel", "readFlag", "(I)Z"⟩, 42), (⟨"GampLineModel", "readHolds", "(I)V"⟩, 42), (⟨"GampLineModel", "readLaw", "(I)V"⟩, 42), (⟨"GampLineModel", "readSum", "(I)V"⟩, 42), (⟨"GampLineModel", "readTerm", "(I)V"⟩, 42), (⟨"GampLineModel", "readAtom", "(I)V"⟩, 42), (⟨"GampLineModel", "codes", "(I)V"⟩, 42), (⟨"GampLineModel", "wordOf", "(I)I"⟩, 42), (⟨"GampLineModel", "goesIn", "(I)Z"⟩, 42), (⟨"GampLineModel", "readIf", "(I)V"⟩, 42), (⟨"GampLineModel", "readTruth", "(I)V"⟩, 42), (⟨"GampLineModel", "readBoth", "(I)V"⟩, 42), (⟨"GampLineModel", "readUnit", "(I)V"⟩, 42), (⟨"GampLineModel", "isThing", "(J)Z"⟩, 42), (⟨"GampLineModel", "isPerson", "(J)Z"⟩, 42), (⟨"GampLineModel", "heldBy", "(I)I"⟩, 42)]
theorem lw_r5 : ∀ q ∈ lw_privs_5, lw_okq q := List.forall_mem_cons.mpr ⟨lw_p64, List.forall_mem_cons.mpr ⟨lw_p65, List.forall_mem_cons.mpr ⟨lw_p66, List.forall_mem_cons.mpr ⟨lw_p67, List.forall_mem_cons.mpr ⟨lw_p68, List.forall_mem_cons.mpr ⟨lw_p69, List.forall_mem_cons.mpr ⟨lw_p70, List.forall_mem_cons.mpr ⟨lw_p71, List.forall_mem_cons.mpr ⟨lw_p72, List.forall_mem_cons.mpr ⟨lw_p73, List.forall_mem_cons.mpr ⟨lw_p74, List.forall_mem_cons.mpr ⟨lw_p75, List.forall_mem_cons.mpr ⟨lw_p76, List.forall_mem_cons.mpr ⟨lw_p77, List.forall_mem_cons.mpr ⟨lw_p78, List.forall_mem_cons.mpr ⟨lw_p79, fun _ h => absurd h List.not_mem_nil⟩⟩⟩⟩⟩⟩⟩⟩⟩⟩⟩⟩⟩⟩⟩⟩
theorem lw_p80 : lw_okq (⟨"GampLineModel", "claimsOf", "(II)I"⟩, 42) := ⟨⟨by decide +kernel, by decide +kernel⟩, List.mem_of_getElem? (i := 1281) (by decide +kernel), List.mem_of_getElem? (i := 1563) (by decide +kernel), List.mem_of_getElem? (i := 1564) (by decide +kernel)⟩
theorem lw_p81 : lw_okq (⟨"GampLineModel", "reckons", "(III)I"⟩, 42) := ⟨⟨by decide +kernel, by decide +kernel⟩, List.mem_of_getElem? (i := 1281) (by decide +kernel), List.mem_of_getElem? (i := 1567) (by decide +kernel), List.mem_of_getElem? (i := 1568) (by decide +kernel)⟩
theorem lw_p82 : lw_okq (⟨"GampLineModel", "burdenNow", "(II)I"⟩, 42) := ⟨⟨by decide +kernel, by decide +kernel⟩, List.mem_of_getElem? (i := 1281) (by decide +kernel), List.mem_of_getElem? (i := 1581) (by decide +kernel), List.mem_of_getElem? (i := 1582) (by decide +kernel)⟩
theorem lw_p83 : lw_okq (⟨"GampLineModel", "burdenOf", "(IIII)I"⟩, 42) := ⟨⟨by decide +kernel, by decide +kernel⟩, List.mem_of_getElem? (i := 1281) (by decide +kernel), List.mem_of_getElem? (i := 1585) (by decide +kernel), List.mem_of_getElem? (i := 1586) (by decide +kernel)⟩
theorem lw_p84 : lw_okq (⟨"GampLineModel", "keeps", "()V"⟩, 42) := ⟨⟨by decide +kernel, by decide +kernel⟩, List.mem_of_getElem? (i := 1281) (by decide +kernel), List.mem_of_getElem? (i := 1593) (by decide +kernel), List.mem_of_getElem? (i := 1594) (by decide +kernel)⟩
theorem lw_p85 : lw_okq (⟨"GampLineModel", "notes", "()V"⟩, 42) := ⟨⟨by decide +kernel, by decide +kernel⟩, List.mem_of_getElem? (i := 1281) (by decide +kernel), List.mem_of_getElem? (i := 1597) (by decide +kernel), List.mem_of_getElem? (i := 1598) (by decide +kernel)⟩
theorem lw_p86 : lw_okq (⟨"GampLineModel", "whyHolds", "(J)I"⟩, 42) := ⟨⟨by decide +kernel, by decide +kernel⟩, List.mem_of_getElem? (i := 1281) (by decide +kernel), List.mem_of_getElem? (i := 1605) (by decide +kernel), List.mem_of_getElem? (i := 1606) (by decide +kernel)⟩
theorem lw_p87 : lw_okq (⟨"GampLineModel", "leaves", "(I)I"⟩, 42) := ⟨⟨by decide +kernel, by decide +kernel⟩, List.mem_of_getElem? (i := 1281) (by decide +kernel), List.mem_of_getElem? (i := 1609) (by decide +kernel), List.mem_of_getElem? (i := 1610) (by decide +kernel)⟩
theorem lw_p88 : lw_okq (⟨"GampLineModel", "whyFetch", "(JJ)I"⟩, 42) := ⟨⟨by decide +kernel, by decide +kernel⟩, List.mem_of_getElem? (i := 1281) (by decide +kernel), List.mem_of_getElem? (i := 1617) (by decide +kernel), List.mem_of_getElem? (i := 1618) (by decide +kernel)⟩
theorem lw_p89 : lw_okq (⟨"GampLineModel", "officeSet", "()I"⟩, 42) := ⟨⟨by decide +kernel, by decide +kernel⟩, List.mem_of_getElem? (i := 1281) (by decide +kernel), List.mem_of_getElem? (i := 1621) (by decide +kernel), List.mem_of_getElem? (i := 1622) (by decide +kernel)⟩
theorem lw_p90 : lw_okq (⟨"GampLineModel", "whyOpen", "(J)I"⟩, 42) := ⟨⟨by decide +kernel, by decide +kernel⟩, List.mem_of_getElem? (i := 1281) (by decide +kernel), List.mem_of_getElem? (i := 1632) (by decide +kernel), List.mem_of_getElem? (i := 1633) (by decide +kernel)⟩
theorem lw_p91 : lw_okq (⟨"GampLineModel", "opens1", "(I)V"⟩, 42) := ⟨⟨by decide +kernel, by decide +kernel⟩, List.mem_of_getElem? (i := 1281) (by decide +kernel), List.mem_of_getElem? (i := 1636) (by decide +kernel), List.mem_of_getElem? (i := 1637) (by decide +kernel)⟩
theorem lw_p92 : lw_okq (⟨"GampLineModel", "whySwap", "(JJ)I"⟩, 42) := ⟨⟨by decide +kernel, by decide +kernel⟩, List.mem_of_getElem? (i := 1281) (by decide +kernel), List.mem_of_getElem? (i := 1644) (by decide +kernel), List.mem_of_getElem? (i := 1645) (by decide +kernel)⟩
theorem lw_p93 : lw_okq (⟨"GampLineModel", "areTwo", "(JJ)Z"⟩, 42) := ⟨⟨by decide +kernel, by decide +kernel⟩, List.mem_of_getElem? (i := 1281) (by decide +kernel), List.mem_of_getElem? (i := 1648) (by decide +kernel), List.mem_of_getElem? (i := 1649) (by decide +kernel)⟩
theorem lw_p94 : lw_okq (⟨"GampLineModel", "swaps", "(II)V"⟩, 42) := ⟨⟨by decide +kernel, by decide +kernel⟩, List.mem_of_getElem? (i := 1281) (by decide +kernel), List.mem_of_getElem? (i := 1652) (by decide +kernel), List.mem_of_getElem? (i := 1653) (by decide +kernel)⟩
theorem lw_p95 : lw_okq (⟨"GampLineModel", "goesDay", "()I"⟩, 42) := ⟨⟨by decide +kernel, by decide +kernel⟩, List.mem_of_getElem? (i := 1281) (by decide +kernel), List.mem_of_getElem? (i := 1666) (by decide +kernel), List.mem_of_getElem? (i := 1667) (by decide +kernel)⟩
def lw_privs_6 : List (MethodName × Nat) := [(⟨"GampLineModel", "claimsOf", "(II)I"⟩, 42), (⟨"GampLineModel", "reckons", "(III)I"⟩, 42), (⟨"GampLineModel", "burdenNow", "(II)I"⟩, 42), (⟨"GampLineModel", "burdenOf", "(IIII)I"⟩, 42), (⟨"GampLineModel", "keeps", "()V"⟩, 42), (⟨"GampLineModel", "notes", "()V"⟩, 42), (⟨"GampLineModel", "whyHolds", "(J)I"⟩, 42), (⟨"GampLineModel", "leaves", "(I)I"⟩, 42), (⟨"GampLineModel", "whyFetch", "(JJ)I"⟩, 42), (⟨"GampLineModel", "officeSet", "()I"⟩, 42), (⟨"GampLineModel", "whyOpen", "(J)I"⟩, 42), (⟨"GampLineModel", "opens1", "(I)V"⟩, 42), (⟨"GampLineModel", "whySwap", "(JJ)I"⟩, 42), (⟨"GampLineModel", "areTwo", "(JJ)Z"⟩, 42), (⟨"GampLineModel", "swaps", "(II)V"⟩, 42), (⟨"GampLineModel", "goesDay", "()I"⟩, 42)]
theorem lw_r6 : ∀ q ∈ lw_privs_6, lw_okq q := List.forall_mem_cons.mpr ⟨lw_p80, List.forall_mem_cons.mpr ⟨lw_p81, List.forall_mem_cons.mpr ⟨lw_p82, List.forall_mem_cons.mpr ⟨lw_p83, List.forall_mem_cons.mpr ⟨lw_p84, List.forall_mem_cons.mpr ⟨lw_p85, List.forall_mem_cons.mpr ⟨lw_p86, List.forall_mem_cons.mpr ⟨lw_p87, List.forall_mem_cons.mpr ⟨lw_p88, List.forall_mem_cons.mpr ⟨lw_p89, List.forall_mem_cons.mpr ⟨lw_p90, List.forall_mem_cons.mpr ⟨lw_p91, List.forall_mem_cons.mpr ⟨lw_p92, List.forall_mem_cons.mpr ⟨lw_p93, List.forall_mem_cons.mpr ⟨lw_p94, List.forall_mem_cons.mpr ⟨lw_p95, fun _ h => absurd h List.not_mem_nil⟩⟩⟩⟩⟩⟩⟩⟩⟩⟩⟩⟩⟩⟩⟩⟩
theorem lw_p96 : lw_okq (⟨"GampLineModel", "draw", "(I)I"⟩, 42) := ⟨⟨by decide +kernel, by decide +kernel⟩, List.mem_of_getElem? (i := 1281) (by decide +kernel), List.mem_of_getElem? (i := 1670) (by decide +kernel), List.mem_of_getElem? (i := 1671) (by decide +kernel)⟩
theorem lw_p97 : lw_okq (⟨"GampLineModel", "rolls", "()I"⟩, 42) := ⟨⟨by decide +kernel, by decide +kernel⟩, List.mem_of_getElem? (i := 1281) (by decide +kernel), List.mem_of_getElem? (i := 1675) (by decide +kernel), List.mem_of_getElem? (i := 1676) (by decide +kernel)⟩
theorem lw_p98 : lw_okq (⟨"GampLineModel", "taker", "(II)I"⟩, 42) := ⟨⟨by decide +kernel, by decide +kernel⟩, List.mem_of_getElem? (i := 1281) (by decide +kernel), List.mem_of_getElem? (i := 1679) (by decide +kernel), List.mem_of_getElem? (i := 1680) (by decide +kernel)⟩
theorem lw_p99 : lw_okq (⟨"GampLineModel", "noTray", "(I)I"⟩, 42) := ⟨⟨by decide +kernel, by decide +kernel⟩, List.mem_of_getElem? (i := 1281) (by decide +kernel), List.mem_of_getElem? (i := 1693) (by decide +kernel), List.mem_of_getElem? (i := 1694) (by decide +kernel)⟩
theorem lw_p100 : lw_okq (⟨"GampLineModel", "tells", "(I)I"⟩, 42) := ⟨⟨by decide +kernel, by decide +kernel⟩, List.mem_of_getElem? (i := 1281) (by decide +kernel), List.mem_of_getElem? (i := 1697) (by decide +kernel), List.mem_of_getElem? (i := 1698) (by decide +kernel)⟩
theorem lw_p101 : lw_okq (⟨"GampLineModel", "whyNot", "(J)I"⟩, 42) := ⟨⟨by decide +kernel, by decide +kernel⟩, List.mem_of_getElem? (i := 1281) (by decide +kernel), List.mem_of_getElem? (i := 1701) (by decide +kernel), List.mem_of_getElem? (i := 1702) (by decide +kernel)⟩
theorem lw_p102 : lw_okq (⟨"GampLineModel", "does", "(I)V"⟩, 42) := ⟨⟨by decide +kernel, by decide +kernel⟩, List.mem_of_getElem? (i := 1281) (by decide +kernel), List.mem_of_getElem? (i := 1713) (by decide +kernel), List.mem_of_getElem? (i := 1714) (by decide +kernel)⟩
theorem lw_p103 : lw_okq (⟨"GampLineModel", "holders", "()I"⟩, 42) := ⟨⟨by decide +kernel, by decide +kernel⟩, List.mem_of_getElem? (i := 1281) (by decide +kernel), List.mem_of_getElem? (i := 1717) (by decide +kernel), List.mem_of_getElem? (i := 1718) (by decide +kernel)⟩
theorem lw_p104 : lw_okq (⟨"GampLineModel", "isAgain", "()V"⟩, 42) := ⟨⟨by decide +kernel, by decide +kernel⟩, List.mem_of_getElem? (i := 1281) (by decide +kernel), List.mem_of_getElem? (i := 1721) (by decide +kernel), List.mem_of_getElem? (i := 1722) (by decide +kernel)⟩
theorem lw_p105 : lw_okq (⟨"GampLineModel", "drawn", "()I"⟩, 42) := ⟨⟨by decide +kernel, by decide +kernel⟩, List.mem_of_getElem? (i := 1281) (by decide +kernel), List.mem_of_getElem? (i := 1734) (by decide +kernel), List.mem_of_getElem? (i := 1735) (by decide +kernel)⟩
theorem lw_p106 : lw_okq (⟨"GampLineModel", "isStation", "(J)Z"⟩, 42) := ⟨⟨by decide +kernel, by decide +kernel⟩, List.mem_of_getElem? (i := 1281) (by decide +kernel), List.mem_of_getElem? (i := 1742) (by decide +kernel), List.mem_of_getElem? (i := 1743) (by decide +kernel)⟩
theorem lw_p107 : lw_okq (⟨"GampLineModel", "goesTo", "(II)I"⟩, 42) := ⟨⟨by decide +kernel, by decide +kernel⟩, List.mem_of_getElem? (i := 1281) (by decide +kernel), List.mem_of_getElem? (i := 1746) (by decide +kernel), List.mem_of_getElem? (i := 1747) (by decide +kernel)⟩
theorem lw_p108 : lw_okq (⟨"GampLineModel", "clears", "()V"⟩, 42) := ⟨⟨by decide +kernel, by decide +kernel⟩, List.mem_of_getElem? (i := 1281) (by decide +kernel), List.mem_of_getElem? (i := 1750) (by decide +kernel), List.mem_of_getElem? (i := 1751) (by decide +kernel)⟩
theorem lw_p109 : lw_okq (⟨"GampLineModel", "noPlan", "(I)I"⟩, 42) := ⟨⟨by decide +kernel, by decide +kernel⟩, List.mem_of_getElem? (i := 1281) (by decide +kernel), List.mem_of_getElem? (i := 1766) (by decide +kernel), List.mem_of_getElem? (i := 1767) (by decide +kernel)⟩
theorem lw_p110 : lw_okq (⟨"GampLineModel", "rowsOf", "(I)I"⟩, 42) := ⟨⟨by decide +kernel, by decide +kernel⟩, List.mem_of_getElem? (i := 1281) (by decide +kernel), List.mem_of_getElem? (i := 1770) (by decide +kernel), List.mem_of_getElem? (i := 1771) (by decide +kernel)⟩
theorem lw_p111 : lw_okq (⟨"GampLineModel", "laysLeft", "(II)V"⟩, 42) := ⟨⟨by decide +kernel, by decide +kernel⟩, List.mem_of_getElem? (i := 1281) (by decide +kernel), List.mem_of_getElem? (i := 1774) (by decide +kernel), List.mem_of_getElem? (i := 1775) (by decide +kernel)⟩
def lw_privs_7 : List (MethodName × Nat) := [(⟨"GampLineModel", "draw", "(I)I"⟩, 42), (⟨"GampLineModel", "rolls", "()I"⟩, 42), (⟨"GampLineModel", "taker", "(II)I"⟩, 42), (⟨"GampLineModel", "noTray", "(I)I"⟩, 42), (⟨"GampLineModel", "tells", "(I)I"⟩, 42), (⟨"GampLineModel", "whyNot", "(J)I"⟩, 42), (⟨"GampLineModel", "does", "(I)V"⟩, 42), (⟨"GampLineModel", "holders", "()I"⟩, 42), (⟨"GampLineModel", "isAgain", "()V"⟩, 42), (⟨"GampLineModel", "drawn", "()I"⟩, 42), (⟨"GampLineModel", "isStation", "(J)Z"⟩, 42), (⟨"GampLineModel", "goesTo", "(II)I"⟩, 42), (⟨"GampLineModel", "clears", "()V"⟩, 42), (⟨"GampLineModel", "noPlan", "(I)I"⟩, 42), (⟨"GampLineModel", "rowsOf", "(I)I"⟩, 42), (⟨"GampLineModel", "laysLeft", "(II)V"⟩, 42)]
theorem lw_r7 : ∀ q ∈ lw_privs_7, lw_okq q := List.forall_mem_cons.mpr ⟨lw_p96, List.forall_mem_cons.mpr ⟨lw_p97, List.forall_mem_cons.mpr ⟨lw_p98, List.forall_mem_cons.mpr ⟨lw_p99, List.forall_mem_cons.mpr ⟨lw_p100, List.forall_mem_cons.mpr ⟨lw_p101, List.forall_mem_cons.mpr ⟨lw_p102, List.forall_mem_cons.mpr ⟨lw_p103, List.forall_mem_cons.mpr ⟨lw_p104, List.forall_mem_cons.mpr ⟨lw_p105, List.forall_mem_cons.mpr ⟨lw_p106, List.forall_mem_cons.mpr ⟨lw_p107, List.forall_mem_cons.mpr ⟨lw_p108, List.forall_mem_cons.mpr ⟨lw_p109, List.forall_mem_cons.mpr ⟨lw_p110, List.forall_mem_cons.mpr ⟨lw_p111, fun _ h => absurd h List.not_mem_nil⟩⟩⟩⟩⟩⟩⟩⟩⟩⟩⟩⟩⟩⟩⟩⟩
theorem lw_p112 : lw_okq (⟨"GampLineModel", "isPlan", "(I)Z"⟩, 42) := ⟨⟨by decide +kernel, by decide +kernel⟩, List.mem_of_getElem? (i := 1281) (by decide +kernel), List.mem_of_getElem? (i := 1778) (by decide +kernel), List.mem_of_getElem? (i := 1779) (by decide +kernel)⟩
theorem lw_p113 : lw_okq (⟨"GampLineModel", "laysMatching", "()V"⟩, 42) := ⟨⟨by decide +kernel, by decide +kernel⟩, List.mem_of_getElem? (i := 1281) (by decide +kernel), List.mem_of_getElem? (i := 1790) (by decide +kernel), List.mem_of_getElem? (i := 1791) (by decide +kernel)⟩
theorem lw_p114 : lw_okq (⟨"GampLineModel", "laysGiven", "(II)V"⟩, 42) := ⟨⟨by decide +kernel, by decide +kernel⟩, List.mem_of_getElem? (i := 1281) (by decide +kernel), List.mem_of_getElem? (i := 1794) (by decide +kernel), List.mem_of_getElem? (i := 1795) (by decide +kernel)⟩
theorem lw_p115 : lw_okq (⟨"GampLineModel", "claimed", "(III)I"⟩, 42) := ⟨⟨by decide +kernel, by decide +kernel⟩, List.mem_of_getElem? (i := 1281) (by decide +kernel), List.mem_of_getElem? (i := 1798) (by decide +kernel), List.mem_of_getElem? (i := 1799) (by decide +kernel)⟩
theorem lw_p116 : lw_okq (⟨"GampLineModel", "mostGiven", "(II)I"⟩, 42) := ⟨⟨by decide +kernel, by decide +kernel⟩, List.mem_of_getElem? (i := 1281) (by decide +kernel), List.mem_of_getElem? (i := 1813) (by decide +kernel), List.mem_of_getElem? (i := 1814) (by decide +kernel)⟩
theorem lw_p117 : lw_okq (⟨"GampLineModel", "laysTrade", "()V"⟩, 42) := ⟨⟨by decide +kernel, by decide +kernel⟩, List.mem_of_getElem? (i := 1281) (by decide +kernel), List.mem_of_getElem? (i := 1826) (by decide +kernel), List.mem_of_getElem? (i := 1827) (by decide +kernel)⟩
theorem lw_p118 : lw_okq (⟨"GampLineModel", "pointed", "(II)I"⟩, 42) := ⟨⟨by decide +kernel, by decide +kernel⟩, List.mem_of_getElem? (i := 1281) (by decide +kernel), List.mem_of_getElem? (i := 1830) (by decide +kernel), List.mem_of_getElem? (i := 1831) (by decide +kernel)⟩
theorem lw_p119 : lw_okq (⟨"GampLineModel", "isRing", "(I)Z"⟩, 42) := ⟨⟨by decide +kernel, by decide +kernel⟩, List.mem_of_getElem? (i := 1281) (by decide +kernel), List.mem_of_getElem? (i := 1835) (by decide +kernel), List.mem_of_getElem? (i := 1836) (by decide +kernel)⟩
theorem lw_p120 : lw_okq (⟨"GampLineModel", "isSet", "(I)Z"⟩, 42) := ⟨⟨by decide +kernel, by decide +kernel⟩, List.mem_of_getElem? (i := 1281) (by decide +kernel), List.mem_of_getElem? (i := 1855) (by decide +kernel), List.mem_of_getElem? (i := 1856) (by decide +kernel)⟩
theorem lw_p121 : lw_okq (⟨"GampLineModel", "laysOpening", "(II)I"⟩, 42) := ⟨⟨by decide +kernel, by decide +kernel⟩, List.mem_of_getElem? (i := 1281) (by decide +kernel), List.mem_of_getElem? (i := 1859) (by decide +kernel), List.mem_of_getElem? (i := 1860) (by decide +kernel)⟩
theorem lw_p122 : lw_okq (⟨"GampLineModel", "laysMore", "(II)V"⟩, 42) := ⟨⟨by decide +kernel, by decide +kernel⟩, List.mem_of_getElem? (i := 1281) (by decide +kernel), List.mem_of_getElem? (i := 1863) (by decide +kernel), List.mem_of_getElem? (i := 1864) (by decide +kernel)⟩
theorem lw_p123 : lw_okq (⟨"GampLineModel", "moreBy", "(IIII)I"⟩, 42) := ⟨⟨by decide +kernel, by decide +kernel⟩, List.mem_of_getElem? (i := 1281) (by decide +kernel), List.mem_of_getElem? (i := 1868) (by decide +kernel), List.mem_of_getElem? (i := 1869) (by decide +kernel)⟩
theorem lw_p124 : lw_okq (⟨"GampLineModel", "goesThing", "(III)Z"⟩, 42) := ⟨⟨by decide +kernel, by decide +kernel⟩, List.mem_of_getElem? (i := 1281) (by decide +kernel), List.mem_of_getElem? (i := 1872) (by decide +kernel), List.mem_of_getElem? (i := 1873) (by decide +kernel)⟩
theorem lw_p125 : lw_okq (⟨"GampLineModel", "noAnswers", "(II)I"⟩, 42) := ⟨⟨by decide +kernel, by decide +kernel⟩, List.mem_of_getElem? (i := 1281) (by decide +kernel), List.mem_of_getElem? (i := 1888) (by decide +kernel), List.mem_of_getElem? (i := 1889) (by decide +kernel)⟩
theorem lw_p126 : lw_okq (⟨"GampLineModel", "noRow", "(II)I"⟩, 42) := ⟨⟨by decide +kernel, by decide +kernel⟩, List.mem_of_getElem? (i := 1281) (by decide +kernel), List.mem_of_getElem? (i := 1892) (by decide +kernel), List.mem_of_getElem? (i := 1893) (by decide +kernel)⟩
theorem lw_p127 : lw_okq (⟨"GampLineModel", "marksOf", "(II)I"⟩, 42) := ⟨⟨by decide +kernel, by decide +kernel⟩, List.mem_of_getElem? (i := 1281) (by decide +kernel), List.mem_of_getElem? (i := 1896) (by decide +kernel), List.mem_of_getElem? (i := 1897) (by decide +kernel)⟩
def lw_privs_8 : List (MethodName × Nat) := [(⟨"GampLineModel", "isPlan", "(I)Z"⟩, 42), (⟨"GampLineModel", "laysMatching", "()V"⟩, 42), (⟨"GampLineModel", "laysGiven", "(II)V"⟩, 42), (⟨"GampLineModel", "claimed", "(III)I"⟩, 42), (⟨"GampLineModel", "mostGiven", "(II)I"⟩, 42), (⟨"GampLineModel", "laysTrade", "()V"⟩, 42), (⟨"GampLineModel", "pointed", "(II)I"⟩, 42), (⟨"GampLineModel", "isRing", "(I)Z"⟩, 42), (⟨"GampLineModel", "isSet", "(I)Z"⟩, 42), (⟨"GampLineModel", "laysOpening", "(II)I"⟩, 42), (⟨"GampLineModel", "laysMore", "(II)V"⟩, 42), (⟨"GampLineModel", "moreBy", "(IIII)I"⟩, 42), (⟨"GampLineModel", "goesThing", "(III)Z"⟩, 42), (⟨"GampLineModel", "noAnswers", "(II)I"⟩, 42), (⟨"GampLineModel", "noRow", "(II)I"⟩, 42), (⟨"GampLineModel", "marksOf", "(II)I"⟩, 42)]
theorem lw_r8 : ∀ q ∈ lw_privs_8, lw_okq q := List.forall_mem_cons.mpr ⟨lw_p112, List.forall_mem_cons.mpr ⟨lw_p113, List.forall_mem_cons.mpr ⟨lw_p114, List.forall_mem_cons.mpr ⟨lw_p115, List.forall_mem_cons.mpr ⟨lw_p116, List.forall_mem_cons.mpr ⟨lw_p117, List.forall_mem_cons.mpr ⟨lw_p118, List.forall_mem_cons.mpr ⟨lw_p119, List.forall_mem_cons.mpr ⟨lw_p120, List.forall_mem_cons.mpr ⟨lw_p121, List.forall_mem_cons.mpr ⟨lw_p122, List.forall_mem_cons.mpr ⟨lw_p123, List.forall_mem_cons.mpr ⟨lw_p124, List.forall_mem_cons.mpr ⟨lw_p125, List.forall_mem_cons.mpr ⟨lw_p126, List.forall_mem_cons.mpr ⟨lw_p127, fun _ h => absurd h List.not_mem_nil⟩⟩⟩⟩⟩⟩⟩⟩⟩⟩⟩⟩⟩⟩⟩⟩
theorem lw_p128 : lw_okq (⟨"GampLineModel", "claimsBy", "(III)Z"⟩, 42) := ⟨⟨by decide +kernel, by decide +kernel⟩, List.mem_of_getElem? (i := 1281) (by decide +kernel), List.mem_of_getElem? (i := 1900) (by decide +kernel), List.mem_of_getElem? (i := 1901) (by decide +kernel)⟩
theorem lw_p129 : lw_okq (⟨"GampLineModel", "laysGame", "(III)V"⟩, 42) := ⟨⟨by decide +kernel, by decide +kernel⟩, List.mem_of_getElem? (i := 1281) (by decide +kernel), List.mem_of_getElem? (i := 1914) (by decide +kernel), List.mem_of_getElem? (i := 1915) (by decide +kernel)⟩
theorem lw_p130 : lw_okq (⟨"GampLineModel", "chosen", "(IIIII)I"⟩, 42) := ⟨⟨by decide +kernel, by decide +kernel⟩, List.mem_of_getElem? (i := 1281) (by decide +kernel), List.mem_of_getElem? (i := 1918) (by decide +kernel), List.mem_of_getElem? (i := 1919) (by decide +kernel)⟩
theorem lw_p131 : lw_okq (⟨"GampLineModel", "noChance", "(II)I"⟩, 42) := ⟨⟨by decide +kernel, by decide +kernel⟩, List.mem_of_getElem? (i := 1281) (by decide +kernel), List.mem_of_getElem? (i := 1931) (by decide +kernel), List.mem_of_getElem? (i := 1932) (by decide +kernel)⟩
theorem lw_p132 : lw_okq (⟨"GampLineModel", "laysBorne", "(II)V"⟩, 42) := ⟨⟨by decide +kernel, by decide +kernel⟩, List.mem_of_getElem? (i := 1281) (by decide +kernel), List.mem_of_getElem? (i := 1935) (by decide +kernel), List.mem_of_getElem? (i := 1936) (by decide +kernel)⟩
theorem lw_p133 : lw_okq (⟨"GampLineModel", "heldSet", "()I"⟩, 42) := ⟨⟨by decide +kernel, by decide +kernel⟩, List.mem_of_getElem? (i := 1281) (by decide +kernel), List.mem_of_getElem? (i := 1977) (by decide +kernel), List.mem_of_getElem? (i := 1978) (by decide +kernel)⟩
def lw_privs_9 : List (MethodName × Nat) := [(⟨"GampLineModel", "claimsBy", "(III)Z"⟩, 42), (⟨"GampLineModel", "laysGame", "(III)V"⟩, 42), (⟨"GampLineModel", "chosen", "(IIIII)I"⟩, 42), (⟨"GampLineModel", "noChance", "(II)I"⟩, 42), (⟨"GampLineModel", "laysBorne", "(II)V"⟩, 42), (⟨"GampLineModel", "heldSet", "()I"⟩, 42)]
theorem lw_r9 : ∀ q ∈ lw_privs_9, lw_okq q := List.forall_mem_cons.mpr ⟨lw_p128, List.forall_mem_cons.mpr ⟨lw_p129, List.forall_mem_cons.mpr ⟨lw_p130, List.forall_mem_cons.mpr ⟨lw_p131, List.forall_mem_cons.mpr ⟨lw_p132, List.forall_mem_cons.mpr ⟨lw_p133, fun _ h => absurd h List.not_mem_nil⟩⟩⟩⟩⟩⟩
def lw_privs : List (MethodName × Nat) := lw_privs_1 ++ (lw_privs_2 ++ (lw_privs_3 ++ (lw_privs_4 ++ (lw_privs_5 ++ (lw_privs_6 ++ (lw_privs_7 ++ (lw_privs_8 ++ (lw_privs_9))))))))
def lw_tbl : List Cond := k2_sels lw_privs ++ tables_1
theorem lw_privs_ok : ∀ q ∈ lw_privs, lw_okq q := by
  show ∀ q ∈ lw_privs_1 ++ (lw_privs_2 ++ (lw_privs_3 ++ (lw_privs_4 ++ (lw_privs_5 ++ (lw_privs_6 ++ (lw_privs_7 ++ (lw_privs_8 ++ (lw_privs_9)))))))), lw_okq q
  exact List.forall_mem_append.mpr ⟨lw_r1, List.forall_mem_append.mpr ⟨lw_r2, List.forall_mem_append.mpr ⟨lw_r3, List.forall_mem_append.mpr ⟨lw_r4, List.forall_mem_append.mpr ⟨lw_r5, List.forall_mem_append.mpr ⟨lw_r6, List.forall_mem_append.mpr ⟨lw_r7, List.forall_mem_append.mpr ⟨lw_r8, lw_r9⟩⟩⟩⟩⟩⟩⟩⟩
def pm_ow (o : Nat) : String := ["GampLine$Claims", "GampLine$Laws", "GampLine$Left", "GampLine$Line", "GampLine$Odds", "GampLine$Opener", "GampLine$Reader", "GampLine$State", "GampLine$Trades", "GampLine$Tray", "GampLine$Whose", "GampLine", "GampLineModel", "GampLineLaw", "java/lang/Integer", "java/lang/Math", "java/util/Arrays"].getD o ""
def pm_FL : List (List (String × String × String × Bool)) := [[("GampLine$Claims", "table", "[I", true)],
  [("GampLine$Laws", "steps", "[I", true), ("GampLine$Laws", "stack", "[I", true), ("GampLine$Laws", "facts", "[I", true), ("GampLine$Laws", "size", "I", false), ("GampLine$Laws", "claimsFrom", "I", false), ("GampLine$Laws", "claimsTo", "I", false), ("GampLine$Laws", "opensFrom", "I", false), ("GampLine$Laws", "opensTo", "I", false)],
  [("GampLine$Left", "taker", "[I", true), ("GampLine$Left", "days", "[I", true), ("GampLine$Left", "wanted", "[I", true), ("GampLine$Left", "first", "[I", true), ("GampLine$Left", "what", "[I", true), ("GampLine$Left", "from", "[I", true), ("GampLine$Left", "place", "[I", true), ("GampLine$Left", "order", "[I", true), ("GampLine$Left", "size", "I", false), ("GampLine$Left", "freeAtFirst", "I", false), ("GampLine$Left", "free", "I", false)],
  [("GampLine$Line", "stations", "I", false), ("GampLine$Line", "things", "I", false), ("GampLine$Line", "people", "I", false), ("GampLine$Line", "lines", "I", false), ("GampLine$Line", "wetInTen", "I", false), ("GampLine$Line", "rack", "[I", true), ("GampLine$Line", "hue", "[I", true), ("GampLine$Line", "weight", "[I", true), ("GampLine$Line", "holder", "[I", true), ("GampLine$Line", "home", "[I", true), ("GampLine$Line", "firstMark", "[I", true), ("GampLine$Line", "bears", "[I", true), ("GampLine$Line", "laws", "LGampLine$Laws;", true)],
  [("GampLine$Odds", "ways", "J", false), ("GampLine$Odds", "chances", "[J", false), ("GampLine$Odds", "ahead", "[J", false)],
  [("GampLine$Opener", "order", "[I", true), ("GampLine$Opener", "known", "[I", true), ("GampLine$Opener", "burdens", "[I", true), ("GampLine$Opener", "reached", "[I", false), ("GampLine$Opener", "ahead", "[I", false), ("GampLine$Opener", "line", "LGampLine$Line;", false), ("GampLine$Opener", "mark", "I", false), ("GampLine$Opener", "person", "I", false), ("GampLine$Opener", "bears", "I", false)],
  [("GampLine$Reader", "told", "LGampLine$Line;", true), ("GampLine$Reader", "tapeSize", "I", false), ("GampLine$Reader", "fault", "I", false), ("GampLine$Reader", "faultAt", "I", false), ("GampLine$Reader", "tape", "[I", true), ("GampLine$Reader", "length", "I", false), ("GampLine$Reader", "at", "I", false), ("GampLine$Reader", "kind", "I", false), ("GampLine$Reader", "tokenAt", "I", false), ("GampLine$Reader", "value", "I", false), ("GampLine$Reader", "nested", "I", false), ("GampLine$Reader", "inOpens", "Z", false)],
  [("GampLine$State", "where", "[I", true), ("GampLine$State", "opened", "[I", true), ("GampLine$State", "mark", "[I", true), ("GampLine$State", "borne", "[I", true), ("GampLine$State", "wet", "I", false), ("GampLine$State", "day", "I", false), ("GampLine$State", "x", "I", false), ("GampLine$State", "why", "I", false)],
  [("GampLine$Trades", "has", "[I", true), ("GampLine$Trades", "held", "[I", true), ("GampLine$Trades", "pointsTo", "[I", true)],
  [("GampLine$Tray", "row", "[J", true), ("GampLine$Tray", "sort", "I", false), ("GampLine$Tray", "size", "I", false)],
  [("GampLine$Whose", "best", "[I", true)],
  [("GampLine", "reader", "LGampLine$Reader;", true), ("GampLine", "line", "LGampLine$Line;", true), ("GampLine", "now", "LGampLine$State;", true), ("GampLine", "trial", "LGampLine$State;", true), ("GampLine", "past", "[LGampLine$State;", true), ("GampLine", "pastNext", "I", false), ("GampLine", "pastCount", "I", false), ("GampLine", "trays", "[LGampLine$Tray;", true), ("GampLine", "imageLines", "[LGampLine$Line;", true), ("GampLine", "imageStates", "[LGampLine$State;", true), ("GampLine", "imagesMade", "I", false), ("GampLine", "claims", "LGampLine$Claims;", true), ("GampLine", "left", "LGampLine$Left;", true), ("GampLine", "whose", "LGampLine$Whose;", true), ("GampLine", "trades", "LGampLine$Trades;", true), ("GampLine", "opener", "LGampLine$Opener;", true), ("GampLine", "odds", "LGampLine$Odds;", true)],
  [("GampLineModel", "thrown", "I", false), ("GampLineModel", "all", "[I", true), ("GampLineModel", "hasImage", "[Z", true), ("GampLineModel", "tape", "[I", true), ("GampLineModel", "fresh", "[I", true), ("GampLineModel", "taped", "I", false), ("GampLineModel", "at", "I", false), ("GampLineModel", "behind", "I", false), ("GampLineModel", "size", "I", false), ("GampLineModel", "kind", "I", false), ("GampLineModel", "number", "I", false), ("GampLineModel", "wrong", "I", false), ("GampLineModel", "wrongAt", "I", false), ("GampLineModel", "faultKind", "I", false), ("GampLineModel", "faultPlace", "I", false), ("GampLineModel", "reading", "I", false), ("GampLineModel", "reckoned", "[I", true), ("GampLineModel", "words", "[I", true), ("GampLineModel", "was", "[I", true), ("GampLineModel", "toldWhy", "I", false), ("GampLineModel", "leftDays", "I", false), ("GampLineModel", "left", "[I", true), ("GampLineModel", "sums", "[I", true), ("GampLineModel", "most1", "[I", true), ("GampLineModel", "ways", "[I", true), ("GampLineModel", "claimRow", "[I", true), ("GampLineModel", "must", "I", false), ("GampLineModel", "pointsTo", "[I", true), ("GampLineModel", "has", "[I", true), ("GampLineModel", "roundsMany", "I", false), ("GampLineModel", "more", "[I", true), ("GampLineModel", "gone", "[I", true), ("GampLineModel", "goneThen", "[I", true), ("GampLineModel", "row", "[I", true), ("GampLineModel", "rowDays", "I", false), ("GampLineModel", "canBe", "[Z", true), ("GampLineModel", "comesTo", "[I", true), ("GampLineModel", "likely", "[J", true), ("GampLineModel", "likelyThen", "[J", true), ("GampLineModel", "rowSort", "[I", true), ("GampLineModel", "rowMany", "[I", true), ("GampLineModel", "numbers", "[J", true)]]
def pm_cT (c : Nat) : u_T := fun k => (pm_FL.getD c []).getD k ("", "", "", false)
def pm_cl : List vw_C := (List.range 13).map (fun c => (pm_ow c, pm_cT c, pm_nf c))
def pm_ty (c k : Nat) : FieldType := (parseFieldDescriptor (pm_cT c k).2.2.1).getD .int
def pm_fk (c k : Nat) : Nat := match pm_ty c k with
  | .int => 0
  | .long => 1
  | .boolean => 3
  | _ => 2
def lw_good : List Cond := lw_tbl.filter goodWord
def pm_tb (j : Nat) : List Cond := match j with
  | 0 => k2_sels lw_privs
  | 1 => tables_1_1
  | 2 => tables_1_2
  | 3 => tables_1_3
  | 4 => tables_1_4
  | 5 => tables_1_5
  | 6 => tables_1_6
  | 7 => tables_1_7
  | 8 => tables_1_8
  | _ => tables_1_9
def pm_has (i : Nat) (w : Cond) : Bool := decide ((pm_tb (i / 1000))[i % 1000]? = some w) && goodWord w
theorem pm_tb_in {j : Nat} {w : Cond} (h : w ∈ pm_tb j) : w ∈ lw_tbl := by
  unfold pm_tb at h
  unfold lw_tbl tables_1
  simp only [List.mem_append]
  split at h <;> simp only [h, true_or, or_true]
theorem pm_has_mem {i : Nat} {w : Cond} (h : pm_has i w = true) : w ∈ lw_good := by
  simp only [pm_has, Bool.and_eq_true, decide_eq_true_eq] at h
  exact List.mem_filter.mpr ⟨pm_tb_in (List.mem_of_getElem? h.1), h.2⟩
theorem pm_lookup_mem {α : Type} {l : List (Nat × α)} {k : Nat} {v : α} (h : l.lookup k = some v) : (k, v) ∈ l := by
  induction l with
  | nil => cases h
  | cons a l ih =>
    obtain ⟨a1, a2⟩ := a
    simp only [List.lookup] at h
    split at h
    · rename_i e
      have e : k = a1 := by simpa using e
      cases h
      rw [e]
      exact List.mem_cons_self
    · exact List.mem_cons_of_mem _ (ih h)
theorem pm_lk {α : Type} {LL : List (List (Nat × α))} {o k : Nat} {v : α} (h : (LL.getD o []).lookup k = some v) : o < LL.length ∧ (k, v) ∈ LL.getD o [] := by
  refine ⟨?_, pm_lookup_mem h⟩
  rcases Nat.lt_or_ge o LL.length with q | q
  · exact q
  · rw [List.getD_eq_getElem?_getD, List.getElem?_eq_none q] at h
    cases h
def pm_pla : List (List Nat) := [[2008], [1066, 1068, 1070, 1072, 1074, 1076, 1078, 1080], [2032, 2034, 2036, 2038, 2040, 2042, 2044, 2046, 2048, 2050, 2052], [1127, 1129, 1131, 1133, 1135, 1137, 1139, 1141, 1143, 1145, 1147, 1149, 1151], [2128, 2130, 2132], [2099, 2101, 2103, 2105, 2107, 2109, 2111, 2113, 2115], [1170, 1172, 1174, 1176, 1178, 1180, 1182, 1184, 1186, 1188, 1190, 1192], [1220, 1222, 1224, 1226, 1228, 1230, 1232, 1234], [2077, 2079, 2081], [2147, 2149, 2151], [2063], [2171, 2173, 2175, 2177, 2179, 2181, 2183, 2185, 2187, 2189, 2191, 2193, 2195, 2197, 2199, 2201, 2203], [6131, 6133, 6135, 6137, 6139, 6141, 6143, 6145, 6147, 6149, 6151, 6153, 6155, 6157, 6159, 6161, 6163, 6165, 6167, 6169, 6171, 6173, 6175, 6177, 6179, 6181, 6183, 6185, 6187, 6189, 6191, 6193, 6195, 6197, 6199, 6201, 6203, 6205, 6207, 6209, 6211, 6213]]
def pm_plc : List Nat := [2005, 4197, 4231, 5079, 5088, 1046, 2235, 3142, 3170, 3181, 3232, 3236, 3239, 4002, 2015, 4204, 4209, 4217, 4221, 4225, 5022, 5026, 5032, 1040, 2231, 3093, 3102, 3110, 3114, 3118, 3174, 3192, 3224, 3228, 4014, 4118, 5139, 2122, 6008, 6018, 6023, 6026, 6034, 2088, 5143, 5152, 5156, 5160, 5169, 5174, 5179, 5187, 1034, 2213, 2221, 2239, 3002, 3006, 3058, 3062, 3066, 3069, 3073, 3077, 3081, 3085, 3089, 3098, 3106, 3122, 3126, 3130, 3134, 3138, 3146, 3150, 3154, 3158, 3162, 3166, 1201, 3187, 3215, 4027, 4037, 4050, 4055, 4069, 4074, 4082, 4090, 4094, 4102, 4106, 4114, 4141, 4153, 4168, 4184, 4213, 6078, 2070, 5097, 5102, 5107, 5111, 2139, 4137, 4145, 4149, 5199, 6043, 6053, 6058, 2059, 5046, 5056, 5062, 5070, 5226, 5230, 1026, 2209, 2217, 3196, 3201, 3205, 3210, 3219, 4010, 4019, 4023, 4033, 4042, 4046, 4065, 4078, 4086, 4098, 4122, 4129, 4133, 4172, 4176, 4180, 4188, 4192, 4235, 4239, 5003, 5007, 5011, 5018, 5038, 5042, 5066, 5075, 5084, 5093, 5115, 5119, 5123, 5127, 5131, 5135, 5165, 5183, 5191, 5195, 5205, 5209, 5213, 5217, 5221, 5235, 5239, 6004, 6030, 6039, 6048, 6062, 6066, 6070, 6074, 6084, 6088, 6220, 6224, 6227, 6231, 6235, 6238, 7002, 7008, 7013, 7017, 7021, 7025, 7029, 7033, 7037, 7041, 7045, 7049, 7053, 7057, 7061, 7065, 7069, 7073, 7077, 7081, 7085, 7089, 7093, 7097, 7101, 7105, 7109, 7113, 7117, 7121, 7125, 7129, 7132, 7139, 7143, 7147, 7151, 7155, 7159, 7163, 7167, 7171, 7175, 7179, 7183, 7186, 7190, 7194, 7198, 7202, 7206, 7210, 7214, 7218, 7223, 7228, 7232, 7237, 8001, 8005, 8010, 8015, 8019, 8023, 8035, 8039, 8043, 8047, 8051, 8056, 8060, 8064, 8068, 8072, 8076, 8080, 8084, 8088, 8092, 8096, 8100, 8104, 8108, 8112, 8116, 8120, 8123, 8127, 8131, 8135, 8140, 8144, 8148, 8152, 8157, 8161, 8165, 8169, 8173, 8177, 8181, 8185, 8190, 8194, 8198, 8202, 8206, 8210, 8214, 8218, 8222, 8227, 8231, 8236, 9000, 9004, 9008, 9013, 9017, 9020, 9023, 9027, 9031, 9035, 9039, 9043, 9047, 9051, 9055, 9059, 4058, 2224, 2227, 4125, 4110, 5049, 5052, 6011]
def pm_pli : List Nat := [1006, 1004, 1007, 1003, 1011, 1010, 1002, 1005, 1009, 1012, 1008, 1001, 1013, 1000, 1020, 1014, 1021]
def pm_pin : List Nat := [2004, 4195, 4229, 5077, 5086, 1045, 2233, 3140, 3168, 3179, 3230, 3235, 3238, 4001, 2014, 4202, 4207, 4215, 4219, 4224, 5020, 5025, 5031, 1039, 2229, 3091, 3100, 3108, 3112, 3116, 3172, 3190, 3222, 3227, 4012, 4116, 5137, 2121, 6006, 6017, 6021, 6025, 6032, 2087, 5141, 5150, 5155, 5159, 5167, 5173, 5177, 5185, 1033, 2211, 2219, 2238, 3001, 3005, 3057, 3061, 3065, 3068, 3072, 3076, 3079, 3083, 3088, 3097, 3105, 3121, 3125, 3129, 3133, 3137, 3145, 3149, 3153, 3157, 3161, 3165, 1200, 3185, 3213, 4025, 4035, 4048, 4053, 4067, 4072, 4080, 4088, 4092, 4100, 4105, 4113, 4139, 4151, 4166, 4182, 4211, 6076, 2069, 5095, 5101, 5106, 5110, 2138, 4135, 4143, 4147, 5197, 6041, 6051, 6057, 2058, 5044, 5055, 5060, 5068, 5224, 5229, 1025, 2207, 2215, 3195, 3199, 3203, 3208, 3217, 4008, 4017, 4022, 4031, 4041, 4044, 4063, 4076, 4084, 4096, 4120, 4127, 4132, 4170, 4175, 4178, 4186, 4191, 4233, 4237, 5001, 5006, 5010, 5017, 5036, 5040, 5064, 5073, 5082, 5091, 5113, 5117, 5121, 5126, 5129, 5134, 5163, 5181, 5189, 5194, 5204, 5208, 5211, 5215, 5220, 5233, 5237, 6003, 6028, 6037, 6046, 6060, 6064, 6068, 6072, 6083, 6087, 6218, 6222, 6226, 6230, 6234, 6237, 7001, 7007, 7012, 7016, 7020, 7024, 7028, 7032, 7036, 7040, 7044, 7048, 7052, 7056, 7060, 7064, 7068, 7072, 7076, 7080, 7084, 7088, 7092, 7095, 7099, 7104, 7107, 7112, 7116, 7119, 7124, 7128, 7131, 7137, 7142, 7146, 7149, 7154, 7158, 7161, 7166, 7170, 7173, 7178, 7182, 7185, 7188, 7193, 7197, 7200, 7205, 7209, 7213, 7216, 7221, 7227, 7231, 7236, 8000, 8003, 8008, 8014, 8018, 8022, 8034, 8038, 8042, 8045, 8049, 8055, 8058, 8063, 8067, 8071, 8074, 8078, 8082, 8087, 8091, 8095, 8099, 8102, 8106, 8111, 8115, 8119, 8122, 8125, 8129, 8134, 8138, 8142, 8147, 8151, 8156, 8159, 8163, 8167, 8171, 8176, 8180, 8184, 8189, 8193, 8196, 8200, 8204, 8209, 8213, 8217, 8221, 8225, 8229, 8235, 8239, 9002, 9006, 9012, 9016, 9019, 9022, 9025, 9029, 9033, 9038, 9041, 9045, 9049, 9053, 9058, 4057, 2223, 2226, 4124, 4109, 5048, 5051, 6010]
def pm_pse : List Nat := [0, 4196, 4230, 5078, 5087, 0, 2234, 3141, 3169, 3180, 3231, 22, 0, 0, 0, 4203, 4208, 4216, 4220, 30, 5021, 34, 35, 0, 2230, 3092, 3101, 3109, 3113, 3117, 3173, 3191, 3223, 21, 4013, 4117, 5138, 0, 6007, 51, 6022, 0, 6033, 0, 5142, 5151, 42, 43, 5168, 44, 5178, 5186, 0, 2212, 2220, 0, 0, 1, 0, 2, 3, 0, 4, 5, 3080, 3084, 6, 7, 8, 9, 10, 11, 12, 13, 14, 15, 16, 17, 18, 19, 0, 3186, 3214, 4026, 4036, 4049, 4054, 4068, 4073, 4081, 4089, 4093, 4101, 25, 26, 4140, 4152, 4167, 4183, 4212, 6077, 0, 5096, 37, 38, 39, 0, 4136, 4144, 4148, 5198, 6042, 6052, 52, 0, 5045, 36, 5061, 5069, 5225, 49, 0, 2208, 2216, 20, 3200, 3204, 3209, 3218, 4009, 4018, 23, 4032, 24, 4045, 4064, 4077, 4085, 4097, 4121, 4128, 27, 4171, 28, 4179, 4187, 29, 4234, 4238, 5002, 31, 32, 33, 5037, 5041, 5065, 5074, 5083, 5092, 5114, 5118, 5122, 40, 5130, 41, 5164, 5182, 5190, 45, 46, 47, 5212, 5216, 48, 5234, 5238, 50, 6029, 6038, 6047, 6061, 6065, 6069, 6073, 0, 0, 6219, 6223, 0, 53, 54, 0, 55, 0, 56, 57, 58, 59, 60, 61, 62, 63, 64, 65, 66, 67, 68, 69, 70, 71, 72, 73, 74, 75, 76, 7096, 7100, 77, 7108, 78, 79, 7120, 80, 81, 0, 7138, 82, 83, 7150, 84, 85, 7162, 86, 87, 7174, 88, 89, 0, 7189, 90, 91, 7201, 92, 93, 94, 7217, 7222, 95, 96, 97, 98, 8004, 8009, 99, 100, 101, 102, 103, 104, 8046, 8050, 105, 8059, 106, 107, 108, 8075, 8079, 8083, 109, 110, 111, 112, 8103, 8107, 113, 114, 115, 0, 8126, 8130, 116, 8139, 8143, 117, 118, 119, 8160, 8164, 8168, 8172, 120, 121, 122, 123, 124, 8197, 8201, 8205, 125, 126, 127, 128, 8226, 8230, 129, 130, 9003, 9007, 131, 132, 0, 0, 9026, 9030, 9034, 0, 9042, 9046, 9050, 9054, 133, 0, 0, 0, 0, 0, 0, 0, 0]
def pm_pins : List Nat := [2002, 1043, 2012, 1037, 2119, 2085, 1031, 1198, 2067, 2136, 2056, 1023, 6081]
def pm_qfr : List (List (Nat × Nat)) := [
  [(9, 2007), (24, 1208)], 
  [(9, 1048), (15, 1049), (18, 1050), (21, 1052), (25, 1054), (28, 1057), (31, 1060), (34, 1063)], 
  [(9, 2017), (15, 2019), (18, 2021), (21, 2023), (24, 2025), (27, 2026), (30, 2027), (33, 2028), (36, 2029), (46, 2030), (53, 2031), (69, 1114), (78, 1086)], 
  [(9, 1084), (15, 1103), (19, 1105), (22, 1108), (25, 1111), (28, 1113), (31, 1117), (34, 1120), (40, 1125), (44, 1088), (47, 1093), (50, 1096), (53, 1099), (79, 1058), (82, 1055), (92, 1064), (95, 1061), (98, 1051)], 
  [(11, 2126), (15, 2127), (24, 2124), (28, 2144), (50, 1100)], 
  [(9, 2090), (15, 2091), (18, 2092), (21, 2093), (24, 2094), (27, 2095), (31, 2097), (41, 2096), (50, 1121), (59, 2098)], 
  [(12, 1154), (18, 1160), (22, 1162), (26, 1157), (38, 1163), (41, 1158), (44, 1164), (47, 1168), (63, 1085), (66, 1097), (69, 1165), (72, 1166), (94, 1167), (118, 1101), (121, 1090), (128, 1107), (131, 1110), (134, 1094), (143, 1119), (146, 1124), (156, 1169), (160, 1126), (164, 1053), (172, 1062), (175, 1065), (178, 1056), (181, 1059)], 
  [(9, 1203), (15, 1205), (18, 1207), (21, 1210), (30, 1212), (34, 1214), (37, 1216), (46, 1112), (49, 1104), (55, 1118), (65, 1116), (76, 1123), (108, 1218), (111, 2145), (135, 1102)], 
  [(9, 2072), (15, 2074), (18, 2076)], 
  [(9, 2141), (15, 2143), (19, 2142)], 
  [(9, 2061), (15, 1092), (27, 1089)], 
  [(10, 2154), (19, 2155), (26, 2156), (30, 2157), (33, 2158), (39, 2161), (43, 2162), (47, 2163), (53, 2165), (60, 2166), (67, 2167), (74, 2168), (81, 2169), (88, 2170), (93, 1156), (111, 1159), (114, 1155), (126, 1098), (129, 1161), (136, 1204), (140, 1106), (143, 1109), (146, 1206), (152, 1115), (155, 1209), (158, 1122), (165, 1211), (173, 1213), (180, 1217), (228, 2160), (231, 2159), (250, 1219), (266, 2018), (269, 2020), (282, 1087), (307, 2024), (313, 2062), (324, 1095), (327, 1091), (343, 2073), (346, 2075), (404, 2125), (424, 2146), (427, 2164), (433, 1215), (448, 2022)], 
  [(1, 6089), (13, 6090), (17, 6091), (21, 6092), (24, 6093), (27, 6103), (30, 6105), (33, 6106), (36, 6107), (39, 6110), (42, 6111), (45, 6112), (48, 6113), (51, 6114), (54, 6115), (57, 6116), (60, 6117), (63, 6119), (66, 6120), (69, 6121), (72, 6122), (75, 6124), (78, 6125), (81, 6126), (85, 6127), (88, 6128), (91, 6129), (94, 6130), (101, 6094), (104, 6097), (119, 6095), (122, 6096), (129, 6098), (142, 6099), (147, 6100), (150, 6101), (167, 6104), (228, 6102), (338, 6108), (369, 6109), (409, 6118), (425, 6123)], 
  [], 
  [], 
  [], 
  []]
def pm_qmv : List (List (Nat × Nat)) := [
  [(15, 4198), (21, 4199), (29, 4200), (33, 5080)], 
  [(49, 3233)], 
  [(40, 4205), (49, 4210), (56, 4222), (60, 4226), (66, 4227), (72, 4228), (81, 5023), (85, 5029), (103, 5033)], 
  [(56, 2232), (65, 3178), (75, 3111), (85, 3225), (89, 3229)], 
  [(34, 6012), (38, 6013), (44, 6014), (53, 6015)], 
  [(35, 5144), (44, 5145), (70, 5153), (79, 5170), (82, 5171), (86, 5157), (89, 5161)], 
  [(50, 2228), (53, 2236), (56, 3070), (60, 3074), (79, 3003), (85, 3059), (91, 3063), (108, 3086), (111, 3095), (114, 3119), (124, 3090), (137, 3099), (140, 3103), (149, 3107), (152, 3115), (169, 3123), (184, 3127), (187, 3139), (190, 3131), (193, 3135), (196, 3143), (200, 3147), (203, 3151), (206, 3167), (209, 3155), (212, 3159), (215, 3163)], 
  [(40, 3188), (52, 3189), (58, 6079), (62, 4038), (68, 4051), (72, 4070), (81, 4155), (91, 4159), (95, 4160), (98, 4161), (102, 4162), (105, 4163), (116, 4142), (120, 4150), (130, 4103), (144, 4111), (147, 4115)], 
  [(21, 5098), (27, 5099), (31, 5104), (34, 5103), (40, 5108)], 
  [(28, 4146), (34, 6055), (38, 5200), (42, 5201)], 
  [(30, 5053), (40, 5057), (51, 5227)], 
  [(97, 2210), (101, 2218), (104, 3078), (108, 3082), (117, 3171), (121, 3184), (123, 3193), (132, 3206), (149, 3211), (161, 3212), (169, 3221), (176, 4011), (183, 4020), (186, 4024), (189, 4034), (193, 4039), (196, 4047), (200, 4052), (209, 4066), (212, 4071), (215, 4079), (218, 4087), (221, 4091), (224, 4099), (240, 4130), (243, 4134), (246, 4138), (253, 4165), (256, 4173), (259, 4181), (262, 4189), (272, 4194), (276, 4201), (278, 4206), (285, 4214), (289, 4218), (293, 5004), (296, 5014), (299, 5015), (303, 5019), (310, 5043), (316, 5059), (320, 5067), (330, 5076), (333, 5085), (336, 5089), (339, 5094), (349, 5124), (352, 5132), (355, 5140), (358, 5149), (361, 5166), (364, 5176), (367, 5184), (370, 5192), (373, 5202), (380, 5218), (383, 5136), (387, 5223), (393, 6001), (396, 6005), (400, 6020), (412, 6031), (415, 6040), (420, 6050), (430, 6075), (436, 4193), (439, 5008), (443, 5012), (451, 5196), (454, 5206)], 
  [(125, 6232), (136, 6239), (153, 7014), (156, 6228), (159, 7018), (170, 7066), (173, 7070), (176, 7074), (179, 7054), (182, 7010), (185, 7078), (188, 7082), (191, 7062), (194, 7058), (197, 7090), (200, 7086), (203, 7022), (207, 7046), (210, 7042), (213, 7034), (216, 7038), (219, 7050), (222, 7026), (225, 7030), (231, 7110), (243, 7126), (246, 7144), (250, 7102), (253, 7114), (256, 7122), (260, 7140), (263, 7164), (267, 7207), (272, 7238), (275, 7229), (278, 7234), (281, 7152), (284, 7156), (287, 7168), (290, 7176), (294, 7180), (300, 7191), (303, 7195), (306, 7203), (309, 7211), (317, 7225), (341, 8020), (344, 8032), (349, 8012), (352, 8016), (355, 8036), (358, 8040), (363, 8053), (366, 8069), (372, 8061), (375, 8065), (378, 8085), (381, 8089), (384, 8093), (387, 8097), (394, 8113), (397, 8117), (400, 8109), (404, 8132), (412, 8149), (415, 8154), (418, 8145), (422, 8187), (428, 8182), (431, 8191), (435, 8174), (438, 8178), (441, 8211), (444, 8219), (449, 8207), (452, 8215), (455, 8237), (460, 8233), (470, 9010), (473, 9014), (488, 9056)], 
  [(13, 2206), (17, 6217), (18, 2214), (22, 6221), (23, 3198), (26, 7094), (27, 3202), (31, 7098), (32, 3207), (35, 7106), (36, 3216), (39, 7118), (40, 4007), (43, 7136), (44, 4016), (47, 7148), (48, 4030), (51, 7160), (52, 4043), (55, 7172), (56, 4062), (59, 7187), (60, 4075), (63, 7199), (64, 4083), (67, 7215), (68, 4095), (71, 7220), (72, 4119), (75, 8002), (76, 4126), (79, 8007), (80, 4169), (83, 8044), (84, 4177), (87, 8048), (88, 4185), (91, 8057), (92, 4232), (95, 8073), (96, 4236), (99, 8077), (100, 5000), (103, 8081), (104, 5035), (107, 8101), (108, 5039), (111, 8105), (112, 5063), (116, 8124), (117, 5072), (120, 8128), (121, 5081), (124, 8137), (125, 5090), (128, 8141), (129, 5112), (132, 8158), (133, 5116), (136, 8162), (137, 5120), (140, 8166), (141, 5128), (144, 8170), (145, 5162), (149, 8195), (150, 5180), (153, 8199), (154, 5188), (157, 8203), (158, 5210), (161, 8224), (162, 5214), (165, 8228), (166, 5232), (169, 9001), (170, 5236), (174, 9005), (175, 6027), (178, 9024), (179, 6036), (182, 9028), (185, 6045), (189, 9032), (190, 6059), (193, 9040), (194, 6063), (197, 9044), (198, 6067), (201, 9048), (202, 6071), (205, 9052)], 
  [], 
  [], 
  []]
def pm_qms : List (List (Nat × Nat)) := [
  [], 
  [(37, 3182), (53, 3237), (57, 4000)], 
  [(95, 5027), (100, 5028)], 
  [(69, 3094), (101, 4015)], 
  [(18, 6009)], 
  [(53, 5146), (61, 5147), (67, 5148), (74, 5175)], 
  [(29, 2222), (35, 2225), (75, 3000), (82, 3056), (88, 3067)], 
  [(124, 4164), (138, 4108)], 
  [], 
  [(22, 6044)], 
  [(21, 5047), (34, 5058), (45, 5071)], 
  [(204, 4056), (234, 4123), (377, 4029), (408, 6024)], 
  [(97, 6086), (132, 6236), (139, 7006), (163, 6225), (239, 7130), (297, 7184), (390, 8121), (464, 9021), (476, 9018), (482, 9037)], 
  [], 
  [], 
  [], 
  [(13, 5050)]]
def pm_qmi : List (List (Nat × Nat)) := [
  [], 
  [], 
  [], 
  [(39, 1044)], 
  [], 
  [], 
  [(11, 1038)], 
  [], 
  [], 
  [], 
  [], 
  [(9, 1032), (18, 1196), (25, 1199), (52, 2003), (59, 2013), (66, 2057), (73, 2068), (80, 2086), (87, 2120), (92, 2137)], 
  [], 
  [(9, 1024), (12, 6082)], 
  [], 
  [], 
  []]
def pm_qcn : List (List (Nat × Nat)) := [
  [], 
  [], 
  [], 
  [(37, 1042)], 
  [], 
  [], 
  [(9, 1036)], 
  [], 
  [], 
  [], 
  [], 
  [(7, 1030), (16, 1195), (23, 1197), (37, 1238), (50, 2001), (57, 2011), (64, 2055), (71, 2066), (78, 2084), (85, 2118)], 
  [], 
  [(7, 1022), (10, 6080)], 
  [], 
  [], 
  []]
def pm_qan : List (List (Nat × Nat)) := [
  [], 
  [], 
  [], 
  [], 
  [], 
  [], 
  [], 
  [], 
  [], 
  [], 
  [], 
  [(16, 1195), (23, 1197), (37, 1238)], 
  [], 
  [], 
  [], 
  [], 
  []]
def pm_qoi : List (List (Nat × Nat)) := [
  [(3, 2006)], 
  [(3, 1047)], 
  [(3, 2016)], 
  [(3, 1041)], 
  [(3, 2123)], 
  [(3, 2089)], 
  [(3, 1035)], 
  [(3, 1202)], 
  [(3, 2071)], 
  [(3, 2140)], 
  [(3, 2060)], 
  [(1, 1027)], 
  [(7, 6085)], 
  [], 
  [], 
  [], 
  []]
def pm_qac : List (List (Nat × Nat)) := [
  [], 
  [(43, 3183)], 
  [(89, 5034)], 
  [(59, 3175)], 
  [], 
  [], 
  [], 
  [(24, 4028)], 
  [], 
  [], 
  [], 
  [], 
  [], 
  [], 
  [], 
  [], 
  []]
def pm_qsv : List (List (Nat × Nat)) := [
  [], 
  [], 
  [], 
  [], 
  [], 
  [], 
  [(99, 3008), (104, 3018)], 
  [], 
  [], 
  [], 
  [], 
  [], 
  [(109, 7004), (115, 7005)], 
  [], 
  [], 
  [], 
  []]
def pm_qkc : List (List (Nat × Nat)) := [
  [], 
  [(63, 4004), (66, 4006)], 
  [], 
  [], 
  [], 
  [], 
  [], 
  [(134, 4107)], 
  [], 
  [], 
  [(54, 5231)], 
  [(168, 3220), (386, 5222)], 
  [(259, 7135), (271, 7233), (403, 8136), (421, 8186), (459, 8232)], 
  [], 
  [(265, 4059), (266, 4060), (267, 4061)], 
  [], 
  []]
def pm_qkl : List (List (Nat × Nat)) := [
  [], 
  [(61, 4003), (64, 4005)], 
  [], 
  [], 
  [(57, 6019), (59, 6035)], 
  [], 
  [], 
  [(79, 4154), (85, 4156), (87, 4157), (89, 4158)], 
  [], 
  [(32, 6054)], 
  [], 
  [(391, 6000), (418, 6049), (446, 5013)], 
  [(235, 7133), (237, 7134), (313, 7219), (315, 7224), (320, 8006), (322, 8024), (324, 8025), (326, 8026), (328, 8027), (330, 8028), (332, 8029), (334, 8030), (336, 8031), (347, 8011), (361, 8052), (407, 8153), (447, 8223), (468, 9009), (480, 9036), (486, 9060)], 
  [(183, 9061)], 
  [], 
  [], 
  []]
def pm_q (L : List (List (Nat × Nat))) (o ix : Nat) : Nat := ((L.getD o []).lookup ix).getD 0
set_option maxRecDepth 100000
theorem pm_k1 : ∀ c, c < 13 → ∀ k, k < pm_nf c → pm_has ((pm_pla.getD c []).getD k 0) (u_lay (pm_ow c) (pm_cT c) k) = true := by decide +kernel
theorem pm_k2 : ∀ c, c < 13 → ∀ k, k < pm_nf c → (parseFieldDescriptor (pm_cT c k).2.2.1).isSome = true ∧ (pm_cT c k).1 = pm_ow c := by decide +kernel
theorem pm_k3 : ∀ c, c < 13 → ∀ a, a < pm_nf c → ∀ b, b < pm_nf c → a ≠ b → (pm_cT c a).2.1 ≠ (pm_cT c b).2.1 := by decide +kernel
theorem pm_k4 : ∀ c, c < 13 → pm_has (pm_pins.getD c 0) (.instantiable (pm_ow c) (pm_nf c)) = true ∧ pm_has (pm_pli.getD c 0) (.initialized (pm_ow c)) = true := by decide +kernel
theorem pm_cw {j i : Nat} {w : Cond} (h : (pm_tb j)[i]? = some w) (g : goodWord w = true) : w ∈ lw_good := List.mem_filter.mpr ⟨pm_tb_in (List.mem_of_getElem? h), g⟩
def pm_cq (q : ByteArray × Nat × Option FieldType × Bool × Nat × Nat × MethodName) : Prop := Cond.code q.2.2.2.2.2.2 q.1 q.2.2.2.2.1 q.2.2.1 ∈ lw_good
theorem pm_c0 : pm_cq (prog_2_method_1_code, 0, none, true, 1, 0, ⟨"GampLine$Claims", "<init>", "()V"⟩) := pm_cw (j := 2) (i := 5) rfl rfl
theorem pm_c1 : pm_cq (prog_2_method_2_code, 0, none, false, 5, 2, ⟨"GampLine$Claims", "gather", "(LGampLine$Line;LGampLine$State;)V"⟩) := pm_cw (j := 4) (i := 197) rfl rfl
theorem pm_c2 : pm_cq (prog_2_method_3_code, 0, some .int, false, 3, 2, ⟨"GampLine$Claims", "of", "(II)I"⟩) := pm_cw (j := 4) (i := 231) rfl rfl
theorem pm_c3 : pm_cq (prog_2_method_4_code, 0, some .boolean, false, 4, 2, ⟨"GampLine$Claims", "someBy", "(II)Z"⟩) := pm_cw (j := 5) (i := 79) rfl rfl
theorem pm_c4 : pm_cq (prog_2_method_5_code, 0, some .int, false, 7, 3, ⟨"GampLine$Claims", "mostOf", "(III)I"⟩) := pm_cw (j := 5) (i := 88) rfl rfl
theorem pm_c5 : pm_cq (prog_3_method_1_code, 1, none, true, 1, 0, ⟨"GampLine$Laws", "<init>", "()V"⟩) := pm_cw (j := 1) (i := 46) rfl rfl
theorem pm_c6 : pm_cq (prog_3_method_2_code, 1, none, false, 1, 0, ⟨"GampLine$Laws", "clear", "()V"⟩) := pm_cw (j := 2) (i := 235) rfl rfl
theorem pm_c7 : pm_cq (prog_3_method_4_code, 1, some .int, false, 4, 2, ⟨"GampLine$Laws", "add", "(II)I"⟩) := pm_cw (j := 3) (i := 142) rfl rfl
theorem pm_c8 : pm_cq (prog_3_method_5_code, 1, none, false, 2, 1, ⟨"GampLine$Laws", "aimToEnd", "(I)V"⟩) := pm_cw (j := 3) (i := 170) rfl rfl
theorem pm_c9 : pm_cq (prog_3_method_3_code, 1, none, false, 2, 1, ⟨"GampLine$Laws", "become", "(LGampLine$Laws;)V"⟩) := pm_cw (j := 3) (i := 181) rfl rfl
theorem pm_c10 : pm_cq (prog_3_method_6_code, 1, some .int, false, 8, 2, ⟨"GampLine$Laws", "worth", "(II)I"⟩) := pm_cw (j := 3) (i := 232) rfl rfl
theorem pm_c11 : pm_cq (prog_3_method_7_code, 1, some .int, false, 2, 1, ⟨"GampLine$Laws", "factAt", "(I)I"⟩) := pm_cw (j := 3) (i := 236) rfl rfl
theorem pm_c12 : pm_cq (prog_3_method_8_code, 1, some .long, false, 5, 3, ⟨"GampLine$Laws", "joined", "(IJJ)J"⟩) := pm_cw (j := 3) (i := 239) rfl rfl
theorem pm_c13 : pm_cq (prog_3_method_9_code, 1, some .int, false, 2, 1, ⟨"GampLine$Laws", "bounded", "(J)I"⟩) := pm_cw (j := 4) (i := 2) rfl rfl
theorem pm_c14 : pm_cq (prog_4_method_1_code, 2, none, true, 1, 0, ⟨"GampLine$Left", "<init>", "()V"⟩) := pm_cw (j := 2) (i := 15) rfl rfl
theorem pm_c15 : pm_cq (prog_4_method_2_code, 2, none, false, 2, 1, ⟨"GampLine$Left", "begin", "(LGampLine$State;)V"⟩) := pm_cw (j := 4) (i := 204) rfl rfl
theorem pm_c16 : pm_cq (prog_4_method_3_code, 2, none, false, 5, 2, ⟨"GampLine$Left", "add", "(ILGampLine$State;)V"⟩) := pm_cw (j := 4) (i := 209) rfl rfl
theorem pm_c17 : pm_cq (prog_4_method_4_code, 2, none, false, 3, 2, ⟨"GampLine$Left", "start", "(II)V"⟩) := pm_cw (j := 4) (i := 217) rfl rfl
theorem pm_c18 : pm_cq (prog_4_method_5_code, 2, none, false, 7, 2, ⟨"GampLine$Left", "travel", "(LGampLine$Line;LGampLine$Claims;)V"⟩) := pm_cw (j := 4) (i := 221) rfl rfl
theorem pm_c19 : pm_cq (prog_4_method_6_code, 2, some .boolean, false, 6, 3, ⟨"GampLine$Left", "arrives", "(LGampLine$Line;LGampLine$Claims;I)Z"⟩) := pm_cw (j := 4) (i := 225) rfl rfl
theorem pm_c20 : pm_cq (prog_4_method_7_code, 2, some .int, false, 7, 3, ⟨"GampLine$Left", "searchPlans", "(LGampLine$Line;LGampLine$Claims;Z)I"⟩) := pm_cw (j := 5) (i := 22) rfl rfl
theorem pm_c21 : pm_cq (prog_4_method_8_code, 2, none, false, 5, 2, ⟨"GampLine$Left", "spell", "(II)V"⟩) := pm_cw (j := 5) (i := 26) rfl rfl
theorem pm_c22 : pm_cq (prog_4_method_9_code, 2, some .boolean, false, 4, 2, ⟨"GampLine$Left", "wouldDo", "(LGampLine$Line;LGampLine$Claims;)Z"⟩) := pm_cw (j := 5) (i := 32) rfl rfl
theorem pm_c23 : pm_cq (prog_5_method_1_code, 3, none, true, 1, 0, ⟨"GampLine$Line", "<init>", "()V"⟩) := pm_cw (j := 1) (i := 40) rfl rfl
def pm_T_0 : List (ByteArray × Nat × Option FieldType × Bool × Nat × Nat × MethodName) := [(prog_2_method_1_code, 0, none, true, 1, 0, ⟨"GampLine$Claims", "<init>", "()V"⟩),
  (prog_2_method_2_code, 0, none, false, 5, 2, ⟨"GampLine$Claims", "gather", "(LGampLine$Line;LGampLine$State;)V"⟩),
  (prog_2_method_3_code, 0, some .int, false, 3, 2, ⟨"GampLine$Claims", "of", "(II)I"⟩),
  (prog_2_method_4_code, 0, some .boolean, false, 4, 2, ⟨"GampLine$Claims", "someBy", "(II)Z"⟩),
  (prog_2_method_5_code, 0, some .int, false, 7, 3, ⟨"GampLine$Claims", "mostOf", "(III)I"⟩),
  (prog_3_method_1_code, 1, none, true, 1, 0, ⟨"GampLine$Laws", "<init>", "()V"⟩),
  (prog_3_method_2_code, 1, none, false, 1, 0, ⟨"GampLine$Laws", "clear", "()V"⟩),
  (prog_3_method_4_code, 1, some .int, false, 4, 2, ⟨"GampLine$Laws", "add", "(II)I"⟩),
  (prog_3_method_5_code, 1, none, false, 2, 1, ⟨"GampLine$Laws", "aimToEnd", "(I)V"⟩),
  (prog_3_method_3_code, 1, none, false, 2, 1, ⟨"GampLine$Laws", "become", "(LGampLine$Laws;)V"⟩),
  (prog_3_method_6_code, 1, some .int, false, 8, 2, ⟨"GampLine$Laws", "worth", "(II)I"⟩),
  (prog_3_method_7_code, 1, some .int, false, 2, 1, ⟨"GampLine$Laws", "factAt", "(I)I"⟩),
  (prog_3_method_8_code, 1, some .long, false, 5, 3, ⟨"GampLine$Laws", "joined", "(IJJ)J"⟩),
  (prog_3_method_9_code, 1, some .int, false, 2, 1, ⟨"GampLine$Laws", "bounded", "(J)I"⟩),
  (prog_4_method_1_code, 2, none, true, 1, 0, ⟨"GampLine$Left", "<init>", "()V"⟩),
  (prog_4_method_2_code, 2, none, false, 2, 1, ⟨"GampLine$Left", "begin", "(LGampLine$State;)V"⟩),
  (prog_4_method_3_code, 2, none, false, 5, 2, ⟨"GampLine$Left", "add", "(ILGampLine$State;)V"⟩),
  (prog_4_method_4_code, 2, none, false, 3, 2, ⟨"GampLine$Left", "start", "(II)V"⟩),
  (prog_4_method_5_code, 2, none, false, 7, 2, ⟨"GampLine$Left", "travel", "(LGampLine$Line;LGampLine$Claims;)V"⟩),
  (prog_4_method_6_code, 2, some .boolean, false, 6, 3, ⟨"GampLine$Left", "arrives", "(LGampLine$Line;LGampLine$Claims;I)Z"⟩),
  (prog_4_method_7_code, 2, some .int, false, 7, 3, ⟨"GampLine$Left", "searchPlans", "(LGampLine$Line;LGampLine$Claims;Z)I"⟩),
  (prog_4_method_8_code, 2, none, false, 5, 2, ⟨"GampLine$Left", "spell", "(II)V"⟩),
  (prog_4_method_9_code, 2, some .boolean, false, 4, 2, ⟨"GampLine$Left", "wouldDo", "(LGampLine$Line;LGampLine$Claims;)Z"⟩),
  (prog_5_method_1_code, 3, none, true, 1, 0, ⟨"GampLine$Line", "<init>", "()V"⟩)]
theorem pm_d0 : ∀ q ∈ pm_T_0, pm_cq q := List.forall_mem_cons.mpr ⟨pm_c0, List.forall_mem_cons.mpr ⟨pm_c1, List.forall_mem_cons.mpr ⟨pm_c2, List.forall_mem_cons.mpr ⟨pm_c3, List.forall_mem_cons.mpr ⟨pm_c4, List.forall_mem_cons.mpr ⟨pm_c5, List.forall_mem_cons.mpr ⟨pm_c6, List.forall_mem_cons.mpr ⟨pm_c7, List.forall_mem_cons.mpr ⟨pm_c8, List.forall_mem_cons.mpr ⟨pm_c9, List.forall_mem_cons.mpr ⟨pm_c10, List.forall_mem_cons.mpr ⟨pm_c11, List.forall_mem_cons.mpr ⟨pm_c12, List.forall_mem_cons.mpr ⟨pm_c13, List.forall_mem_cons.mpr ⟨pm_c14, List.forall_mem_cons.mpr ⟨pm_c15, List.forall_mem_cons.mpr ⟨pm_c16, List.forall_mem_cons.mpr ⟨pm_c17, List.forall_mem_cons.mpr ⟨pm_c18, List.forall_mem_cons.mpr ⟨pm_c19, List.forall_mem_cons.mpr ⟨pm_c20, List.forall_mem_cons.mpr ⟨pm_c21, List.forall_mem_cons.mpr ⟨pm_c22, List.forall_mem_cons.mpr ⟨pm_c23, fun _ h => absurd h List.not_mem_nil⟩⟩⟩⟩⟩⟩⟩⟩⟩⟩⟩⟩⟩⟩⟩⟩⟩⟩⟩⟩⟩⟩⟩⟩
theorem pm_c24 : pm_cq (prog_5_method_2_code, 3, none, false, 1, 0, ⟨"GampLine$Line", "clear", "()V"⟩) := pm_cw (j := 2) (i := 231) rfl rfl
theorem pm_c25 : pm_cq (prog_5_method_8_code, 3, some .int, false, 3, 1, ⟨"GampLine$Line", "addThing", "(I)I"⟩) := pm_cw (j := 3) (i := 93) rfl rfl
theorem pm_c26 : pm_cq (prog_5_method_9_code, 3, some .int, false, 3, 1, ⟨"GampLine$Line", "addPerson", "(I)I"⟩) := pm_cw (j := 3) (i := 102) rfl rfl
theorem pm_c27 : pm_cq (prog_5_method_10_code, 3, some .boolean, false, 2, 1, ⟨"GampLine$Line", "canBeHeld", "(I)Z"⟩) := pm_cw (j := 3) (i := 110) rfl rfl
theorem pm_c28 : pm_cq (prog_5_method_5_code, 3, some .boolean, false, 2, 1, ⟨"GampLine$Line", "hasThing", "(I)Z"⟩) := pm_cw (j := 3) (i := 114) rfl rfl
theorem pm_c29 : pm_cq (prog_5_method_11_code, 3, none, false, 4, 2, ⟨"GampLine$Line", "giveTo", "(II)V"⟩) := pm_cw (j := 3) (i := 118) rfl rfl
theorem pm_c30 : pm_cq (prog_5_method_3_code, 3, none, false, 2, 1, ⟨"GampLine$Line", "become", "(LGampLine$Line;)V"⟩) := pm_cw (j := 3) (i := 174) rfl rfl
theorem pm_c31 : pm_cq (prog_5_method_6_code, 3, some .boolean, false, 2, 1, ⟨"GampLine$Line", "hasPerson", "(I)Z"⟩) := pm_cw (j := 3) (i := 192) rfl rfl
theorem pm_c32 : pm_cq (prog_5_method_12_code, 3, some .int, false, 4, 3, ⟨"GampLine$Line", "claimBy", "(III)I"⟩) := pm_cw (j := 3) (i := 224) rfl rfl
theorem pm_c33 : pm_cq (prog_5_method_14_code, 3, none, false, 4, 3, ⟨"GampLine$Line", "tellFacts", "(III)V"⟩) := pm_cw (j := 3) (i := 228) rfl rfl
theorem pm_c34 : pm_cq (prog_5_method_13_code, 3, some .int, false, 6, 5, ⟨"GampLine$Line", "burdenOf", "(IIIII)I"⟩) := pm_cw (j := 4) (i := 14) rfl rfl
theorem pm_c35 : pm_cq (prog_5_method_4_code, 3, some .boolean, false, 2, 1, ⟨"GampLine$Line", "hasStation", "(I)Z"⟩) := pm_cw (j := 4) (i := 118) rfl rfl
theorem pm_c36 : pm_cq (prog_5_method_7_code, 3, some .boolean, false, 2, 1, ⟨"GampLine$Line", "hasSet", "(I)Z"⟩) := pm_cw (j := 5) (i := 139) rfl rfl
theorem pm_c37 : pm_cq (prog_6_method_1_code, 4, none, true, 1, 0, ⟨"GampLine$Odds", "<init>", "()V"⟩) := pm_cw (j := 2) (i := 122) rfl rfl
theorem pm_c38 : pm_cq (prog_6_method_2_code, 4, none, false, 9, 4, ⟨"GampLine$Odds", "spread", "(LGampLine$Line;LGampLine$State;LGampLine$Tray;I)V"⟩) := pm_cw (j := 6) (i := 8) rfl rfl
theorem pm_c39 : pm_cq (prog_6_method_3_code, 4, none, false, 4, 2, ⟨"GampLine$Odds", "add", "(IJ)V"⟩) := pm_cw (j := 6) (i := 18) rfl rfl
theorem pm_c40 : pm_cq (prog_6_method_4_code, 4, some .long, false, 5, 1, ⟨"GampLine$Odds", "waysUpTo", "(I)J"⟩) := pm_cw (j := 6) (i := 23) rfl rfl
theorem pm_c41 : pm_cq (prog_6_method_6_code, 4, some .long, false, 11, 2, ⟨"GampLine$Odds", "commonDivisor", "(JJ)J"⟩) := pm_cw (j := 6) (i := 26) rfl rfl
theorem pm_c42 : pm_cq (prog_6_method_5_code, 4, some .int, false, 5, 1, ⟨"GampLine$Odds", "leastFor", "(I)I"⟩) := pm_cw (j := 6) (i := 34) rfl rfl
theorem pm_c43 : pm_cq (prog_7_method_1_code, 5, none, true, 1, 0, ⟨"GampLine$Opener", "<init>", "()V"⟩) := pm_cw (j := 2) (i := 88) rfl rfl
theorem pm_c44 : pm_cq (prog_7_method_2_code, 5, none, false, 4, 3, ⟨"GampLine$Opener", "begin", "(LGampLine$Line;LGampLine$State;I)V"⟩) := pm_cw (j := 5) (i := 143) rfl rfl
theorem pm_c45 : pm_cq (prog_7_method_3_code, 5, some .int, false, 3, 1, ⟨"GampLine$Opener", "fewestDays", "(I)I"⟩) := pm_cw (j := 5) (i := 152) rfl rfl
theorem pm_c46 : pm_cq (prog_7_method_8_code, 5, some .int, false, 10, 3, ⟨"GampLine$Opener", "furtherDays", "(III)I"⟩) := pm_cw (j := 5) (i := 156) rfl rfl
theorem pm_c47 : pm_cq (prog_7_method_9_code, 5, some .int, false, 4, 2, ⟨"GampLine$Opener", "burdenAt", "(II)I"⟩) := pm_cw (j := 5) (i := 160) rfl rfl
def pm_T_1 : List (ByteArray × Nat × Option FieldType × Bool × Nat × Nat × MethodName) := [(prog_5_method_2_code, 3, none, false, 1, 0, ⟨"GampLine$Line", "clear", "()V"⟩),
  (prog_5_method_8_code, 3, some .int, false, 3, 1, ⟨"GampLine$Line", "addThing", "(I)I"⟩),
  (prog_5_method_9_code, 3, some .int, false, 3, 1, ⟨"GampLine$Line", "addPerson", "(I)I"⟩),
  (prog_5_method_10_code, 3, some .boolean, false, 2, 1, ⟨"GampLine$Line", "canBeHeld", "(I)Z"⟩),
  (prog_5_method_5_code, 3, some .boolean, false, 2, 1, ⟨"GampLine$Line", "hasThing", "(I)Z"⟩),
  (prog_5_method_11_code, 3, none, false, 4, 2, ⟨"GampLine$Line", "giveTo", "(II)V"⟩),
  (prog_5_method_3_code, 3, none, false, 2, 1, ⟨"GampLine$Line", "become", "(LGampLine$Line;)V"⟩),
  (prog_5_method_6_code, 3, some .boolean, false, 2, 1, ⟨"GampLine$Line", "hasPerson", "(I)Z"⟩),
  (prog_5_method_12_code, 3, some .int, false, 4, 3, ⟨"GampLine$Line", "claimBy", "(III)I"⟩),
  (prog_5_method_14_code, 3, none, false, 4, 3, ⟨"GampLine$Line", "tellFacts", "(III)V"⟩),
  (prog_5_method_13_code, 3, some .int, false, 6, 5, ⟨"GampLine$Line", "burdenOf", "(IIIII)I"⟩),
  (prog_5_method_4_code, 3, some .boolean, false, 2, 1, ⟨"GampLine$Line", "hasStation", "(I)Z"⟩),
  (prog_5_method_7_code, 3, some .boolean, false, 2, 1, ⟨"GampLine$Line", "hasSet", "(I)Z"⟩),
  (prog_6_method_1_code, 4, none, true, 1, 0, ⟨"GampLine$Odds", "<init>", "()V"⟩),
  (prog_6_method_2_code, 4, none, false, 9, 4, ⟨"GampLine$Odds", "spread", "(LGampLine$Line;LGampLine$State;LGampLine$Tray;I)V"⟩),
  (prog_6_method_3_code, 4, none, false, 4, 2, ⟨"GampLine$Odds", "add", "(IJ)V"⟩),
  (prog_6_method_4_code, 4, some .long, false, 5, 1, ⟨"GampLine$Odds", "waysUpTo", "(I)J"⟩),
  (prog_6_method_6_code, 4, some .long, false, 11, 2, ⟨"GampLine$Odds", "commonDivisor", "(JJ)J"⟩),
  (prog_6_method_5_code, 4, some .int, false, 5, 1, ⟨"GampLine$Odds", "leastFor", "(I)I"⟩),
  (prog_7_method_1_code, 5, none, true, 1, 0, ⟨"GampLine$Opener", "<init>", "()V"⟩),
  (prog_7_method_2_code, 5, none, false, 4, 3, ⟨"GampLine$Opener", "begin", "(LGampLine$Line;LGampLine$State;I)V"⟩),
  (prog_7_method_3_code, 5, some .int, false, 3, 1, ⟨"GampLine$Opener", "fewestDays", "(I)I"⟩),
  (prog_7_method_8_code, 5, some .int, false, 10, 3, ⟨"GampLine$Opener", "furtherDays", "(III)I"⟩),
  (prog_7_method_9_code, 5, some .int, false, 4, 2, ⟨"GampLine$Opener", "burdenAt", "(II)I"⟩)]
theorem pm_d1 : ∀ q ∈ pm_T_1, pm_cq q := List.forall_mem_cons.mpr ⟨pm_c24, List.forall_mem_cons.mpr ⟨pm_c25, List.forall_mem_cons.mpr ⟨pm_c26, List.forall_mem_cons.mpr ⟨pm_c27, List.forall_mem_cons.mpr ⟨pm_c28, List.forall_mem_cons.mpr ⟨pm_c29, List.forall_mem_cons.mpr ⟨pm_c30, List.forall_mem_cons.mpr ⟨pm_c31, List.forall_mem_cons.mpr ⟨pm_c32, List.forall_mem_cons.mpr ⟨pm_c33, List.forall_mem_cons.mpr ⟨pm_c34, List.forall_mem_cons.mpr ⟨pm_c35, List.forall_mem_cons.mpr ⟨pm_c36, List.forall_mem_cons.mpr ⟨pm_c37, List.forall_mem_cons.mpr ⟨pm_c38, List.forall_mem_cons.mpr ⟨pm_c39, List.forall_mem_cons.mpr ⟨pm_c40, List.forall_mem_cons.mpr ⟨pm_c41, List.forall_mem_cons.mpr ⟨pm_c42, List.forall_mem_cons.mpr ⟨pm_c43, List.forall_mem_cons.mpr ⟨pm_c44, List.forall_mem_cons.mpr ⟨pm_c45, List.forall_mem_cons.mpr ⟨pm_c46, List.forall_mem_cons.mpr ⟨pm_c47, fun _ h => absurd h List.not_mem_nil⟩⟩⟩⟩⟩⟩⟩⟩⟩⟩⟩⟩⟩⟩⟩⟩⟩⟩⟩⟩⟩⟩⟩⟩
theorem pm_c48 : pm_cq (prog_7_method_6_code, 5, some .int, false, 6, 1, ⟨"GampLine$Opener", "findOrder", "(I)I"⟩) := pm_cw (j := 5) (i := 169) rfl rfl
theorem pm_c49 : pm_cq (prog_7_method_7_code, 5, some .boolean, false, 9, 2, ⟨"GampLine$Opener", "reachesBehind", "(II)Z"⟩) := pm_cw (j := 5) (i := 174) rfl rfl
theorem pm_c50 : pm_cq (prog_7_method_5_code, 5, some .int, false, 2, 1, ⟨"GampLine$Opener", "orderAt", "(I)I"⟩) := pm_cw (j := 5) (i := 179) rfl rfl
theorem pm_c51 : pm_cq (prog_7_method_4_code, 5, some .int, false, 4, 1, ⟨"GampLine$Opener", "mostInADay", "(I)I"⟩) := pm_cw (j := 5) (i := 187) rfl rfl
theorem pm_c52 : pm_cq (prog_8_method_1_code, 6, none, true, 1, 0, ⟨"GampLine$Reader", "<init>", "()V"⟩) := pm_cw (j := 1) (i := 34) rfl rfl
theorem pm_c53 : pm_cq (prog_8_method_2_code, 6, none, false, 3, 1, ⟨"GampLine$Reader", "append", "(I)V"⟩) := pm_cw (j := 2) (i := 213) rfl rfl
theorem pm_c54 : pm_cq (prog_8_method_3_code, 6, none, false, 2, 1, ⟨"GampLine$Reader", "begin", "(I)V"⟩) := pm_cw (j := 2) (i := 221) rfl rfl
theorem pm_c55 : pm_cq (prog_8_method_6_code, 6, none, false, 1, 0, ⟨"GampLine$Reader", "step", "()V"⟩) := pm_cw (j := 2) (i := 239) rfl rfl
theorem pm_c56 : pm_cq (prog_8_method_7_code, 6, some .boolean, false, 1, 1, ⟨"GampLine$Reader", "isLetter", "(I)Z"⟩) := pm_cw (j := 3) (i := 2) rfl rfl
theorem pm_c57 : pm_cq (prog_8_method_11_code, 6, some .int, false, 8, 2, ⟨"GampLine$Reader", "wordFrom", "(II)I"⟩) := pm_cw (j := 3) (i := 6) rfl rfl
theorem pm_c58 : pm_cq (prog_8_method_8_code, 6, some .boolean, false, 1, 1, ⟨"GampLine$Reader", "isDigit", "(I)Z"⟩) := pm_cw (j := 3) (i := 58) rfl rfl
theorem pm_c59 : pm_cq (prog_8_method_10_code, 6, none, false, 1, 0, ⟨"GampLine$Reader", "readDigits", "()V"⟩) := pm_cw (j := 3) (i := 62) rfl rfl
theorem pm_c60 : pm_cq (prog_8_method_5_code, 6, none, false, 2, 1, ⟨"GampLine$Reader", "fail", "(I)V"⟩) := pm_cw (j := 3) (i := 66) rfl rfl
theorem pm_c61 : pm_cq (prog_8_method_9_code, 6, some .boolean, false, 1, 1, ⟨"GampLine$Reader", "isSign", "(I)Z"⟩) := pm_cw (j := 3) (i := 69) rfl rfl
theorem pm_c62 : pm_cq (prog_8_method_12_code, 6, none, false, 2, 1, ⟨"GampLine$Reader", "expect", "(I)V"⟩) := pm_cw (j := 3) (i := 73) rfl rfl
theorem pm_c63 : pm_cq (prog_8_method_13_code, 6, some .int, false, 4, 2, ⟨"GampLine$Reader", "readNumber", "(II)I"⟩) := pm_cw (j := 3) (i := 77) rfl rfl
theorem pm_c64 : pm_cq (prog_8_method_4_code, 6, some .boolean, false, 1, 0, ⟨"GampLine$Reader", "goesOn", "()Z"⟩) := pm_cw (j := 3) (i := 81) rfl rfl
theorem pm_c65 : pm_cq (prog_8_method_14_code, 6, none, false, 1, 0, ⟨"GampLine$Reader", "readLine", "()V"⟩) := pm_cw (j := 3) (i := 85) rfl rfl
theorem pm_c66 : pm_cq (prog_8_method_15_code, 6, none, false, 4, 0, ⟨"GampLine$Reader", "readThing", "()V"⟩) := pm_cw (j := 3) (i := 89) rfl rfl
theorem pm_c67 : pm_cq (prog_8_method_16_code, 6, none, false, 3, 0, ⟨"GampLine$Reader", "readPerson", "()V"⟩) := pm_cw (j := 3) (i := 98) rfl rfl
theorem pm_c68 : pm_cq (prog_8_method_17_code, 6, none, false, 3, 1, ⟨"GampLine$Reader", "readFlag", "(I)V"⟩) := pm_cw (j := 3) (i := 106) rfl rfl
theorem pm_c69 : pm_cq (prog_8_method_18_code, 6, none, false, 3, 1, ⟨"GampLine$Reader", "readLaw", "(Z)V"⟩) := pm_cw (j := 3) (i := 122) rfl rfl
theorem pm_c70 : pm_cq (prog_8_method_19_code, 6, none, false, 3, 0, ⟨"GampLine$Reader", "readSum", "()V"⟩) := pm_cw (j := 3) (i := 126) rfl rfl
theorem pm_c71 : pm_cq (prog_8_method_20_code, 6, none, false, 2, 0, ⟨"GampLine$Reader", "readTerm", "()V"⟩) := pm_cw (j := 3) (i := 130) rfl rfl
def pm_T_2 : List (ByteArray × Nat × Option FieldType × Bool × Nat × Nat × MethodName) := [(prog_7_method_6_code, 5, some .int, false, 6, 1, ⟨"GampLine$Opener", "findOrder", "(I)I"⟩),
  (prog_7_method_7_code, 5, some .boolean, false, 9, 2, ⟨"GampLine$Opener", "reachesBehind", "(II)Z"⟩),
  (prog_7_method_5_code, 5, some .int, false, 2, 1, ⟨"GampLine$Opener", "orderAt", "(I)I"⟩),
  (prog_7_method_4_code, 5, some .int, false, 4, 1, ⟨"GampLine$Opener", "mostInADay", "(I)I"⟩),
  (prog_8_method_1_code, 6, none, true, 1, 0, ⟨"GampLine$Reader", "<init>", "()V"⟩),
  (prog_8_method_2_code, 6, none, false, 3, 1, ⟨"GampLine$Reader", "append", "(I)V"⟩),
  (prog_8_method_3_code, 6, none, false, 2, 1, ⟨"GampLine$Reader", "begin", "(I)V"⟩),
  (prog_8_method_6_code, 6, none, false, 1, 0, ⟨"GampLine$Reader", "step", "()V"⟩),
  (prog_8_method_7_code, 6, some .boolean, false, 1, 1, ⟨"GampLine$Reader", "isLetter", "(I)Z"⟩),
  (prog_8_method_11_code, 6, some .int, false, 8, 2, ⟨"GampLine$Reader", "wordFrom", "(II)I"⟩),
  (prog_8_method_8_code, 6, some .boolean, false, 1, 1, ⟨"GampLine$Reader", "isDigit", "(I)Z"⟩),
  (prog_8_method_10_code, 6, none, false, 1, 0, ⟨"GampLine$Reader", "readDigits", "()V"⟩),
  (prog_8_method_5_code, 6, none, false, 2, 1, ⟨"GampLine$Reader", "fail", "(I)V"⟩),
  (prog_8_method_9_code, 6, some .boolean, false, 1, 1, ⟨"GampLine$Reader", "isSign", "(I)Z"⟩),
  (prog_8_method_12_code, 6, none, false, 2, 1, ⟨"GampLine$Reader", "expect", "(I)V"⟩),
  (prog_8_method_13_code, 6, some .int, false, 4, 2, ⟨"GampLine$Reader", "readNumber", "(II)I"⟩),
  (prog_8_method_4_code, 6, some .boolean, false, 1, 0, ⟨"GampLine$Reader", "goesOn", "()Z"⟩),
  (prog_8_method_14_code, 6, none, false, 1, 0, ⟨"GampLine$Reader", "readLine", "()V"⟩),
  (prog_8_method_15_code, 6, none, false, 4, 0, ⟨"GampLine$Reader", "readThing", "()V"⟩),
  (prog_8_method_16_code, 6, none, false, 3, 0, ⟨"GampLine$Reader", "readPerson", "()V"⟩),
  (prog_8_method_17_code, 6, none, false, 3, 1, ⟨"GampLine$Reader", "readFlag", "(I)V"⟩),
  (prog_8_method_18_code, 6, none, false, 3, 1, ⟨"GampLine$Reader", "readLaw", "(Z)V"⟩),
  (prog_8_method_19_code, 6, none, false, 3, 0, ⟨"GampLine$Reader", "readSum", "()V"⟩),
  (prog_8_method_20_code, 6, none, false, 2, 0, ⟨"GampLine$Reader", "readTerm", "()V"⟩)]
theorem pm_d2 : ∀ q ∈ pm_T_2, pm_cq q := List.forall_mem_cons.mpr ⟨pm_c48, List.forall_mem_cons.mpr ⟨pm_c49, List.forall_mem_cons.mpr ⟨pm_c50, List.forall_mem_cons.mpr ⟨pm_c51, List.forall_mem_cons.mpr ⟨pm_c52, List.forall_mem_cons.mpr ⟨pm_c53, List.forall_mem_cons.mpr ⟨pm_c54, List.forall_mem_cons.mpr ⟨pm_c55, List.forall_mem_cons.mpr ⟨pm_c56, List.forall_mem_cons.mpr ⟨pm_c57, List.forall_mem_cons.mpr ⟨pm_c58, List.forall_mem_cons.mpr ⟨pm_c59, List.forall_mem_cons.mpr ⟨pm_c60, List.forall_mem_cons.mpr ⟨pm_c61, List.forall_mem_cons.mpr ⟨pm_c62, List.forall_mem_cons.mpr ⟨pm_c63, List.forall_mem_cons.mpr ⟨pm_c64, List.forall_mem_cons.mpr ⟨pm_c65, List.forall_mem_cons.mpr ⟨pm_c66, List.forall_mem_cons.mpr ⟨pm_c67, List.forall_mem_cons.mpr ⟨pm_c68, List.forall_mem_cons.mpr ⟨pm_c69, List.forall_mem_cons.mpr ⟨pm_c70, List.forall_mem_cons.mpr ⟨pm_c71, fun _ h => absurd h List.not_mem_nil⟩⟩⟩⟩⟩⟩⟩⟩⟩⟩⟩⟩⟩⟩⟩⟩⟩⟩⟩⟩⟩⟩⟩⟩
theorem pm_c72 : pm_cq (prog_8_method_21_code, 6, none, false, 2, 0, ⟨"GampLine$Reader", "readAtom", "()V"⟩) := pm_cw (j := 3) (i := 134) rfl rfl
theorem pm_c73 : pm_cq (prog_8_method_22_code, 6, some .int, false, 2, 1, ⟨"GampLine$Reader", "factOf", "(I)I"⟩) := pm_cw (j := 3) (i := 138) rfl rfl
theorem pm_c74 : pm_cq (prog_8_method_23_code, 6, some .boolean, false, 1, 0, ⟨"GampLine$Reader", "goesIn", "()Z"⟩) := pm_cw (j := 3) (i := 146) rfl rfl
theorem pm_c75 : pm_cq (prog_8_method_24_code, 6, none, false, 3, 0, ⟨"GampLine$Reader", "readChoice", "()V"⟩) := pm_cw (j := 3) (i := 150) rfl rfl
theorem pm_c76 : pm_cq (prog_8_method_25_code, 6, none, false, 2, 0, ⟨"GampLine$Reader", "readTruth", "()V"⟩) := pm_cw (j := 3) (i := 154) rfl rfl
theorem pm_c77 : pm_cq (prog_8_method_26_code, 6, none, false, 2, 0, ⟨"GampLine$Reader", "readBoth", "()V"⟩) := pm_cw (j := 3) (i := 158) rfl rfl
theorem pm_c78 : pm_cq (prog_8_method_27_code, 6, none, false, 1, 0, ⟨"GampLine$Reader", "readUnit", "()V"⟩) := pm_cw (j := 3) (i := 162) rfl rfl
theorem pm_c79 : pm_cq (prog_8_method_28_code, 6, none, false, 2, 0, ⟨"GampLine$Reader", "readComparison", "()V"⟩) := pm_cw (j := 3) (i := 166) rfl rfl
theorem pm_c80 : pm_cq (prog_9_method_1_code, 7, none, true, 1, 0, ⟨"GampLine$State", "<init>", "()V"⟩) := pm_cw (j := 1) (i := 201) rfl rfl
theorem pm_c81 : pm_cq (prog_9_method_3_code, 7, none, false, 3, 1, ⟨"GampLine$State", "begin", "(LGampLine$Line;)V"⟩) := pm_cw (j := 3) (i := 187) rfl rfl
theorem pm_c82 : pm_cq (prog_9_method_4_code, 7, some .int, false, 3, 1, ⟨"GampLine$State", "heldThing", "(I)I"⟩) := pm_cw (j := 3) (i := 215) rfl rfl
theorem pm_c83 : pm_cq (prog_9_method_2_code, 7, none, false, 2, 1, ⟨"GampLine$State", "become", "(LGampLine$State;)V"⟩) := pm_cw (j := 4) (i := 27) rfl rfl
theorem pm_c84 : pm_cq (prog_9_method_11_code, 7, some .int, false, 4, 2, ⟨"GampLine$State", "tryLeave", "(LGampLine$Line;I)I"⟩) := pm_cw (j := 4) (i := 37) rfl rfl
theorem pm_c85 : pm_cq (prog_9_method_12_code, 7, some .int, false, 4, 3, ⟨"GampLine$State", "tryFetch", "(LGampLine$Line;II)I"⟩) := pm_cw (j := 4) (i := 50) rfl rfl
theorem pm_c86 : pm_cq (prog_9_method_8_code, 7, some .int, false, 3, 0, ⟨"GampLine$State", "officeBits", "()I"⟩) := pm_cw (j := 4) (i := 55) rfl rfl
theorem pm_c87 : pm_cq (prog_9_method_13_code, 7, some .int, false, 5, 2, ⟨"GampLine$State", "tryOpen", "(LGampLine$Line;I)I"⟩) := pm_cw (j := 4) (i := 69) rfl rfl
theorem pm_c88 : pm_cq (prog_9_method_7_code, 7, some .int, false, 2, 1, ⟨"GampLine$State", "borneBy", "(I)I"⟩) := pm_cw (j := 4) (i := 74) rfl rfl
theorem pm_c89 : pm_cq (prog_9_method_14_code, 7, some .int, false, 6, 3, ⟨"GampLine$State", "trySwap", "(LGampLine$Line;II)I"⟩) := pm_cw (j := 4) (i := 82) rfl rfl
theorem pm_c90 : pm_cq (prog_9_method_6_code, 7, some .int, false, 2, 1, ⟨"GampLine$State", "markOf", "(I)I"⟩) := pm_cw (j := 4) (i := 90) rfl rfl
theorem pm_c91 : pm_cq (prog_9_method_15_code, 7, some .int, false, 4, 3, ⟨"GampLine$State", "tryMark", "(LGampLine$Line;II)I"⟩) := pm_cw (j := 4) (i := 94) rfl rfl
theorem pm_c92 : pm_cq (prog_9_method_20_code, 7, some .int, false, 4, 1, ⟨"GampLine$State", "passDay", "(LGampLine$Line;)I"⟩) := pm_cw (j := 4) (i := 102) rfl rfl
theorem pm_c93 : pm_cq (prog_9_method_19_code, 7, some .int, false, 1, 0, ⟨"GampLine$State", "draw", "()I"⟩) := pm_cw (j := 4) (i := 106) rfl rfl
theorem pm_c94 : pm_cq (prog_9_method_21_code, 7, some .int, false, 8, 3, ⟨"GampLine$State", "nextPlace", "(LGampLine$Line;II)I"⟩) := pm_cw (j := 4) (i := 114) rfl rfl
theorem pm_c95 : pm_cq (prog_9_method_17_code, 7, some .int, false, 4, 2, ⟨"GampLine$State", "doAll", "(LGampLine$Line;LGampLine$Tray;)I"⟩) := pm_cw (j := 4) (i := 141) rfl rfl
def pm_T_3 : List (ByteArray × Nat × Option FieldType × Bool × Nat × Nat × MethodName) := [(prog_8_method_21_code, 6, none, false, 2, 0, ⟨"GampLine$Reader", "readAtom", "()V"⟩),
  (prog_8_method_22_code, 6, some .int, false, 2, 1, ⟨"GampLine$Reader", "factOf", "(I)I"⟩),
  (prog_8_method_23_code, 6, some .boolean, false, 1, 0, ⟨"GampLine$Reader", "goesIn", "()Z"⟩),
  (prog_8_method_24_code, 6, none, false, 3, 0, ⟨"GampLine$Reader", "readChoice", "()V"⟩),
  (prog_8_method_25_code, 6, none, false, 2, 0, ⟨"GampLine$Reader", "readTruth", "()V"⟩),
  (prog_8_method_26_code, 6, none, false, 2, 0, ⟨"GampLine$Reader", "readBoth", "()V"⟩),
  (prog_8_method_27_code, 6, none, false, 1, 0, ⟨"GampLine$Reader", "readUnit", "()V"⟩),
  (prog_8_method_28_code, 6, none, false, 2, 0, ⟨"GampLine$Reader", "readComparison", "()V"⟩),
  (prog_9_method_1_code, 7, none, true, 1, 0, ⟨"GampLine$State", "<init>", "()V"⟩),
  (prog_9_method_3_code, 7, none, false, 3, 1, ⟨"GampLine$State", "begin", "(LGampLine$Line;)V"⟩),
  (prog_9_method_4_code, 7, some .int, false, 3, 1, ⟨"GampLine$State", "heldThing", "(I)I"⟩),
  (prog_9_method_2_code, 7, none, false, 2, 1, ⟨"GampLine$State", "become", "(LGampLine$State;)V"⟩),
  (prog_9_method_11_code, 7, some .int, false, 4, 2, ⟨"GampLine$State", "tryLeave", "(LGampLine$Line;I)I"⟩),
  (prog_9_method_12_code, 7, some .int, false, 4, 3, ⟨"GampLine$State", "tryFetch", "(LGampLine$Line;II)I"⟩),
  (prog_9_method_8_code, 7, some .int, false, 3, 0, ⟨"GampLine$State", "officeBits", "()I"⟩),
  (prog_9_method_13_code, 7, some .int, false, 5, 2, ⟨"GampLine$State", "tryOpen", "(LGampLine$Line;I)I"⟩),
  (prog_9_method_7_code, 7, some .int, false, 2, 1, ⟨"GampLine$State", "borneBy", "(I)I"⟩),
  (prog_9_method_14_code, 7, some .int, false, 6, 3, ⟨"GampLine$State", "trySwap", "(LGampLine$Line;II)I"⟩),
  (prog_9_method_6_code, 7, some .int, false, 2, 1, ⟨"GampLine$State", "markOf", "(I)I"⟩),
  (prog_9_method_15_code, 7, some .int, false, 4, 3, ⟨"GampLine$State", "tryMark", "(LGampLine$Line;II)I"⟩),
  (prog_9_method_20_code, 7, some .int, false, 4, 1, ⟨"GampLine$State", "passDay", "(LGampLine$Line;)I"⟩),
  (prog_9_method_19_code, 7, some .int, false, 1, 0, ⟨"GampLine$State", "draw", "()I"⟩),
  (prog_9_method_21_code, 7, some .int, false, 8, 3, ⟨"GampLine$State", "nextPlace", "(LGampLine$Line;II)I"⟩),
  (prog_9_method_17_code, 7, some .int, false, 4, 2, ⟨"GampLine$State", "doAll", "(LGampLine$Line;LGampLine$Tray;)I"⟩)]
theorem pm_d3 : ∀ q ∈ pm_T_3, pm_cq q := List.forall_mem_cons.mpr ⟨pm_c72, List.forall_mem_cons.mpr ⟨pm_c73, List.forall_mem_cons.mpr ⟨pm_c74, List.forall_mem_cons.mpr ⟨pm_c75, List.forall_mem_cons.mpr ⟨pm_c76, List.forall_mem_cons.mpr ⟨pm_c77, List.forall_mem_cons.mpr ⟨pm_c78, List.forall_mem_cons.mpr ⟨pm_c79, List.forall_mem_cons.mpr ⟨pm_c80, List.forall_mem_cons.mpr ⟨pm_c81, List.forall_mem_cons.mpr ⟨pm_c82, List.forall_mem_cons.mpr ⟨pm_c83, List.forall_mem_cons.mpr ⟨pm_c84, List.forall_mem_cons.mpr ⟨pm_c85, List.forall_mem_cons.mpr ⟨pm_c86, List.forall_mem_cons.mpr ⟨pm_c87, List.forall_mem_cons.mpr ⟨pm_c88, List.forall_mem_cons.mpr ⟨pm_c89, List.forall_mem_cons.mpr ⟨pm_c90, List.forall_mem_cons.mpr ⟨pm_c91, List.forall_mem_cons.mpr ⟨pm_c92, List.forall_mem_cons.mpr ⟨pm_c93, List.forall_mem_cons.mpr ⟨pm_c94, List.forall_mem_cons.mpr ⟨pm_c95, fun _ h => absurd h List.not_mem_nil⟩⟩⟩⟩⟩⟩⟩⟩⟩⟩⟩⟩⟩⟩⟩⟩⟩⟩⟩⟩⟩⟩⟩⟩
theorem pm_c96 : pm_cq (prog_9_method_16_code, 7, some .int, false, 6, 2, ⟨"GampLine$State", "attempt", "(LGampLine$Line;J)I"⟩) := pm_cw (j := 4) (i := 153) rfl rfl
theorem pm_c97 : pm_cq (prog_9_method_10_code, 7, some .int, false, 3, 0, ⟨"GampLine$State", "holderBits", "()I"⟩) := pm_cw (j := 4) (i := 168) rfl rfl
theorem pm_c98 : pm_cq (prog_9_method_18_code, 7, some .int, false, 4, 1, ⟨"GampLine$State", "seasonDeed", "(LGampLine$Line;)I"⟩) := pm_cw (j := 4) (i := 184) rfl rfl
theorem pm_c99 : pm_cq (prog_9_method_5_code, 7, some .int, false, 2, 1, ⟨"GampLine$State", "holderOf", "(I)I"⟩) := pm_cw (j := 4) (i := 213) rfl rfl
theorem pm_c100 : pm_cq (prog_9_method_9_code, 7, some .int, false, 3, 0, ⟨"GampLine$State", "heldBits", "()I"⟩) := pm_cw (j := 6) (i := 78) rfl rfl
theorem pm_c101 : pm_cq (prog_10_method_1_code, 8, none, true, 1, 0, ⟨"GampLine$Trades", "<init>", "()V"⟩) := pm_cw (j := 2) (i := 70) rfl rfl
theorem pm_c102 : pm_cq (prog_10_method_2_code, 8, some .int, false, 8, 3, ⟨"GampLine$Trades", "run", "(LGampLine$Line;LGampLine$State;LGampLine$Claims;)I"⟩) := pm_cw (j := 5) (i := 97) rfl rfl
theorem pm_c103 : pm_cq (prog_10_method_3_code, 8, some .int, false, 8, 3, ⟨"GampLine$Trades", "choice", "(LGampLine$Claims;II)I"⟩) := pm_cw (j := 5) (i := 102) rfl rfl
theorem pm_c104 : pm_cq (prog_10_method_4_code, 8, some .int, false, 4, 1, ⟨"GampLine$Trades", "settle", "(I)I"⟩) := pm_cw (j := 5) (i := 107) rfl rfl
theorem pm_c105 : pm_cq (prog_10_method_5_code, 8, some .boolean, false, 4, 1, ⟨"GampLine$Trades", "isOnRing", "(I)Z"⟩) := pm_cw (j := 5) (i := 111) rfl rfl
theorem pm_c106 : pm_cq (prog_11_method_1_code, 9, none, true, 1, 0, ⟨"GampLine$Tray", "<init>", "()V"⟩) := pm_cw (j := 2) (i := 139) rfl rfl
theorem pm_c107 : pm_cq (prog_11_method_2_code, 9, some .boolean, false, 1, 0, ⟨"GampLine$Tray", "isMissing", "()Z"⟩) := pm_cw (j := 4) (i := 137) rfl rfl
theorem pm_c108 : pm_cq (prog_11_method_5_code, 9, some .long, false, 2, 1, ⟨"GampLine$Tray", "at", "(I)J"⟩) := pm_cw (j := 4) (i := 145) rfl rfl
theorem pm_c109 : pm_cq (prog_11_method_3_code, 9, some .boolean, false, 2, 1, ⟨"GampLine$Tray", "hasPlace", "(I)Z"⟩) := pm_cw (j := 4) (i := 149) rfl rfl
theorem pm_c110 : pm_cq (prog_11_method_8_code, 9, some .int, false, 4, 2, ⟨"GampLine$Tray", "codeForNumbers", "(II)I"⟩) := pm_cw (j := 5) (i := 199) rfl rfl
theorem pm_c111 : pm_cq (prog_11_method_4_code, 9, none, false, 3, 2, ⟨"GampLine$Tray", "beginAnew", "(II)V"⟩) := pm_cw (j := 6) (i := 43) rfl rfl
theorem pm_c112 : pm_cq (prog_11_method_6_code, 9, some .long, false, 4, 2, ⟨"GampLine$Tray", "put", "(IJ)J"⟩) := pm_cw (j := 6) (i := 53) rfl rfl
theorem pm_c113 : pm_cq (prog_11_method_7_code, 9, some .long, false, 3, 1, ⟨"GampLine$Tray", "cut", "(J)J"⟩) := pm_cw (j := 6) (i := 58) rfl rfl
theorem pm_c114 : pm_cq (prog_12_method_1_code, 10, none, true, 1, 0, ⟨"GampLine$Whose", "<init>", "()V"⟩) := pm_cw (j := 2) (i := 59) rfl rfl
theorem pm_c115 : pm_cq (prog_12_method_2_code, 10, none, false, 7, 2, ⟨"GampLine$Whose", "weighMatchings", "(LGampLine$Line;LGampLine$Claims;)V"⟩) := pm_cw (j := 5) (i := 46) rfl rfl
theorem pm_c116 : pm_cq (prog_12_method_3_code, 10, some .int, false, 5, 4, ⟨"GampLine$Whose", "sumWith", "(LGampLine$Claims;III)I"⟩) := pm_cw (j := 5) (i := 56) rfl rfl
theorem pm_c117 : pm_cq (prog_12_method_4_code, 10, some .int, false, 8, 3, ⟨"GampLine$Whose", "givenTo", "(ILGampLine$Line;LGampLine$Claims;)I"⟩) := pm_cw (j := 5) (i := 62) rfl rfl
theorem pm_c118 : pm_cq (prog_12_method_5_code, 10, some .int, false, 7, 2, ⟨"GampLine$Whose", "waysForAll", "(LGampLine$Line;LGampLine$Claims;)I"⟩) := pm_cw (j := 5) (i := 70) rfl rfl
theorem pm_c119 : pm_cq (prog_12_method_6_code, 10, none, false, 7, 4, ⟨"GampLine$Whose", "playOut", "(LGampLine$Claims;III)V"⟩) := pm_cw (j := 5) (i := 226) rfl rfl
def pm_T_4 : List (ByteArray × Nat × Option FieldType × Bool × Nat × Nat × MethodName) := [(prog_9_method_16_code, 7, some .int, false, 6, 2, ⟨"GampLine$State", "attempt", "(LGampLine$Line;J)I"⟩),
  (prog_9_method_10_code, 7, some .int, false, 3, 0, ⟨"GampLine$State", "holderBits", "()I"⟩),
  (prog_9_method_18_code, 7, some .int, false, 4, 1, ⟨"GampLine$State", "seasonDeed", "(LGampLine$Line;)I"⟩),
  (prog_9_method_5_code, 7, some .int, false, 2, 1, ⟨"GampLine$State", "holderOf", "(I)I"⟩),
  (prog_9_method_9_code, 7, some .int, false, 3, 0, ⟨"GampLine$State", "heldBits", "()I"⟩),
  (prog_10_method_1_code, 8, none, true, 1, 0, ⟨"GampLine$Trades", "<init>", "()V"⟩),
  (prog_10_method_2_code, 8, some .int, false, 8, 3, ⟨"GampLine$Trades", "run", "(LGampLine$Line;LGampLine$State;LGampLine$Claims;)I"⟩),
  (prog_10_method_3_code, 8, some .int, false, 8, 3, ⟨"GampLine$Trades", "choice", "(LGampLine$Claims;II)I"⟩),
  (prog_10_method_4_code, 8, some .int, false, 4, 1, ⟨"GampLine$Trades", "settle", "(I)I"⟩),
  (prog_10_method_5_code, 8, some .boolean, false, 4, 1, ⟨"GampLine$Trades", "isOnRing", "(I)Z"⟩),
  (prog_11_method_1_code, 9, none, true, 1, 0, ⟨"GampLine$Tray", "<init>", "()V"⟩),
  (prog_11_method_2_code, 9, some .boolean, false, 1, 0, ⟨"GampLine$Tray", "isMissing", "()Z"⟩),
  (prog_11_method_5_code, 9, some .long, false, 2, 1, ⟨"GampLine$Tray", "at", "(I)J"⟩),
  (prog_11_method_3_code, 9, some .boolean, false, 2, 1, ⟨"GampLine$Tray", "hasPlace", "(I)Z"⟩),
  (prog_11_method_8_code, 9, some .int, false, 4, 2, ⟨"GampLine$Tray", "codeForNumbers", "(II)I"⟩),
  (prog_11_method_4_code, 9, none, false, 3, 2, ⟨"GampLine$Tray", "beginAnew", "(II)V"⟩),
  (prog_11_method_6_code, 9, some .long, false, 4, 2, ⟨"GampLine$Tray", "put", "(IJ)J"⟩),
  (prog_11_method_7_code, 9, some .long, false, 3, 1, ⟨"GampLine$Tray", "cut", "(J)J"⟩),
  (prog_12_method_1_code, 10, none, true, 1, 0, ⟨"GampLine$Whose", "<init>", "()V"⟩),
  (prog_12_method_2_code, 10, none, false, 7, 2, ⟨"GampLine$Whose", "weighMatchings", "(LGampLine$Line;LGampLine$Claims;)V"⟩),
  (prog_12_method_3_code, 10, some .int, false, 5, 4, ⟨"GampLine$Whose", "sumWith", "(LGampLine$Claims;III)I"⟩),
  (prog_12_method_4_code, 10, some .int, false, 8, 3, ⟨"GampLine$Whose", "givenTo", "(ILGampLine$Line;LGampLine$Claims;)I"⟩),
  (prog_12_method_5_code, 10, some .int, false, 7, 2, ⟨"GampLine$Whose", "waysForAll", "(LGampLine$Line;LGampLine$Claims;)I"⟩),
  (prog_12_method_6_code, 10, none, false, 7, 4, ⟨"GampLine$Whose", "playOut", "(LGampLine$Claims;III)V"⟩)]
theorem pm_d4 : ∀ q ∈ pm_T_4, pm_cq q := List.forall_mem_cons.mpr ⟨pm_c96, List.forall_mem_cons.mpr ⟨pm_c97, List.forall_mem_cons.mpr ⟨pm_c98, List.forall_mem_cons.mpr ⟨pm_c99, List.forall_mem_cons.mpr ⟨pm_c100, List.forall_mem_cons.mpr ⟨pm_c101, List.forall_mem_cons.mpr ⟨pm_c102, List.forall_mem_cons.mpr ⟨pm_c103, List.forall_mem_cons.mpr ⟨pm_c104, List.forall_mem_cons.mpr ⟨pm_c105, List.forall_mem_cons.mpr ⟨pm_c106, List.forall_mem_cons.mpr ⟨pm_c107, List.forall_mem_cons.mpr ⟨pm_c108, List.forall_mem_cons.mpr ⟨pm_c109, List.forall_mem_cons.mpr ⟨pm_c110, List.forall_mem_cons.mpr ⟨pm_c111, List.forall_mem_cons.mpr ⟨pm_c112, List.forall_mem_cons.mpr ⟨pm_c113, List.forall_mem_cons.mpr ⟨pm_c114, List.forall_mem_cons.mpr ⟨pm_c115, List.forall_mem_cons.mpr ⟨pm_c116, List.forall_mem_cons.mpr ⟨pm_c117, List.forall_mem_cons.mpr ⟨pm_c118, List.forall_mem_cons.mpr ⟨pm_c119, fun _ h => absurd h List.not_mem_nil⟩⟩⟩⟩⟩⟩⟩⟩⟩⟩⟩⟩⟩⟩⟩⟩⟩⟩⟩⟩⟩⟩⟩⟩
theorem pm_c120 : pm_cq (prog_12_method_7_code, 10, some .int, false, 7, 4, ⟨"GampLine$Whose", "bestTurn", "(LGampLine$Claims;III)I"⟩) := pm_cw (j := 5) (i := 230) rfl rfl
theorem pm_c121 : pm_cq (prog_1_method_1_code, 11, none, true, 2, 0, ⟨"GampLine", "<init>", "()V"⟩) := pm_cw (j := 1) (i := 26) rfl rfl
theorem pm_c122 : pm_cq (prog_1_method_2_code, 11, some .int, false, 6, 5, ⟨"GampLine", "feed", "(IIIII)I"⟩) := pm_cw (j := 2) (i := 209) rfl rfl
theorem pm_c123 : pm_cq (prog_1_method_3_code, 11, some .int, false, 3, 1, ⟨"GampLine", "line", "(I)I"⟩) := pm_cw (j := 2) (i := 217) rfl rfl
theorem pm_c124 : pm_cq (prog_1_method_49_code, 11, none, false, 1, 0, ⟨"GampLine", "forgetPast", "()V"⟩) := pm_cw (j := 3) (i := 196) rfl rfl
theorem pm_c125 : pm_cq (prog_1_method_4_code, 11, some .int, false, 2, 1, ⟨"GampLine", "fault", "(I)I"⟩) := pm_cw (j := 3) (i := 201) rfl rfl
theorem pm_c126 : pm_cq (prog_1_method_5_code, 11, some .int, false, 3, 2, ⟨"GampLine", "thing", "(II)I"⟩) := pm_cw (j := 3) (i := 205) rfl rfl
theorem pm_c127 : pm_cq (prog_1_method_6_code, 11, some .int, false, 3, 2, ⟨"GampLine", "person", "(II)I"⟩) := pm_cw (j := 3) (i := 210) rfl rfl
theorem pm_c128 : pm_cq (prog_1_method_7_code, 11, some .int, false, 3, 2, ⟨"GampLine", "claims", "(II)I"⟩) := pm_cw (j := 3) (i := 219) rfl rfl
theorem pm_c129 : pm_cq (prog_1_method_8_code, 11, some .int, false, 3, 2, ⟨"GampLine", "burden", "(II)I"⟩) := pm_cw (j := 4) (i := 10) rfl rfl
theorem pm_c130 : pm_cq (prog_1_method_9_code, 11, some .int, false, 3, 1, ⟨"GampLine", "seed", "(I)I"⟩) := pm_cw (j := 4) (i := 19) rfl rfl
theorem pm_c131 : pm_cq (prog_1_method_48_code, 11, none, false, 1, 0, ⟨"GampLine", "remember", "()V"⟩) := pm_cw (j := 4) (i := 23) rfl rfl
theorem pm_c132 : pm_cq (prog_1_method_10_code, 11, some .int, false, 4, 1, ⟨"GampLine", "leave", "(I)I"⟩) := pm_cw (j := 4) (i := 33) rfl rfl
theorem pm_c133 : pm_cq (prog_1_method_50_code, 11, some .int, false, 2, 1, ⟨"GampLine", "agreed", "(I)I"⟩) := pm_cw (j := 4) (i := 42) rfl rfl
theorem pm_c134 : pm_cq (prog_1_method_11_code, 11, some .int, false, 4, 2, ⟨"GampLine", "fetch", "(II)I"⟩) := pm_cw (j := 4) (i := 46) rfl rfl
theorem pm_c135 : pm_cq (prog_1_method_12_code, 11, some .int, false, 3, 1, ⟨"GampLine", "open", "(I)I"⟩) := pm_cw (j := 4) (i := 65) rfl rfl
theorem pm_c136 : pm_cq (prog_1_method_13_code, 11, some .int, false, 4, 2, ⟨"GampLine", "swap", "(II)I"⟩) := pm_cw (j := 4) (i := 78) rfl rfl
theorem pm_c137 : pm_cq (prog_1_method_14_code, 11, some .int, false, 5, 2, ⟨"GampLine", "mark", "(II)I"⟩) := pm_cw (j := 4) (i := 86) rfl rfl
theorem pm_c138 : pm_cq (prog_1_method_15_code, 11, some .int, false, 4, 1, ⟨"GampLine", "days", "(I)I"⟩) := pm_cw (j := 4) (i := 98) rfl rfl
theorem pm_c139 : pm_cq (prog_1_method_16_code, 11, some .int, false, 2, 1, ⟨"GampLine", "undo", "(I)I"⟩) := pm_cw (j := 4) (i := 122) rfl rfl
theorem pm_c140 : pm_cq (prog_1_method_17_code, 11, some .int, false, 4, 2, ⟨"GampLine", "judge", "(II)I"⟩) := pm_cw (j := 4) (i := 129) rfl rfl
theorem pm_c141 : pm_cq (prog_1_method_51_code, 11, some .boolean, false, 2, 1, ⟨"GampLine", "hasTray", "(I)Z"⟩) := pm_cw (j := 4) (i := 133) rfl rfl
theorem pm_c142 : pm_cq (prog_1_method_18_code, 11, some .int, false, 4, 1, ⟨"GampLine", "perform", "(I)I"⟩) := pm_cw (j := 4) (i := 172) rfl rfl
theorem pm_c143 : pm_cq (prog_1_method_52_code, 11, some .int, false, 2, 1, ⟨"GampLine", "trayCode", "(I)I"⟩) := pm_cw (j := 4) (i := 176) rfl rfl
def pm_T_5 : List (ByteArray × Nat × Option FieldType × Bool × Nat × Nat × MethodName) := [(prog_12_method_7_code, 10, some .int, false, 7, 4, ⟨"GampLine$Whose", "bestTurn", "(LGampLine$Claims;III)I"⟩),
  (prog_1_method_1_code, 11, none, true, 2, 0, ⟨"GampLine", "<init>", "()V"⟩),
  (prog_1_method_2_code, 11, some .int, false, 6, 5, ⟨"GampLine", "feed", "(IIIII)I"⟩),
  (prog_1_method_3_code, 11, some .int, false, 3, 1, ⟨"GampLine", "line", "(I)I"⟩),
  (prog_1_method_49_code, 11, none, false, 1, 0, ⟨"GampLine", "forgetPast", "()V"⟩),
  (prog_1_method_4_code, 11, some .int, false, 2, 1, ⟨"GampLine", "fault", "(I)I"⟩),
  (prog_1_method_5_code, 11, some .int, false, 3, 2, ⟨"GampLine", "thing", "(II)I"⟩),
  (prog_1_method_6_code, 11, some .int, false, 3, 2, ⟨"GampLine", "person", "(II)I"⟩),
  (prog_1_method_7_code, 11, some .int, false, 3, 2, ⟨"GampLine", "claims", "(II)I"⟩),
  (prog_1_method_8_code, 11, some .int, false, 3, 2, ⟨"GampLine", "burden", "(II)I"⟩),
  (prog_1_method_9_code, 11, some .int, false, 3, 1, ⟨"GampLine", "seed", "(I)I"⟩),
  (prog_1_method_48_code, 11, none, false, 1, 0, ⟨"GampLine", "remember", "()V"⟩),
  (prog_1_method_10_code, 11, some .int, false, 4, 1, ⟨"GampLine", "leave", "(I)I"⟩),
  (prog_1_method_50_code, 11, some .int, false, 2, 1, ⟨"GampLine", "agreed", "(I)I"⟩),
  (prog_1_method_11_code, 11, some .int, false, 4, 2, ⟨"GampLine", "fetch", "(II)I"⟩),
  (prog_1_method_12_code, 11, some .int, false, 3, 1, ⟨"GampLine", "open", "(I)I"⟩),
  (prog_1_method_13_code, 11, some .int, false, 4, 2, ⟨"GampLine", "swap", "(II)I"⟩),
  (prog_1_method_14_code, 11, some .int, false, 5, 2, ⟨"GampLine", "mark", "(II)I"⟩),
  (prog_1_method_15_code, 11, some .int, false, 4, 1, ⟨"GampLine", "days", "(I)I"⟩),
  (prog_1_method_16_code, 11, some .int, false, 2, 1, ⟨"GampLine", "undo", "(I)I"⟩),
  (prog_1_method_17_code, 11, some .int, false, 4, 2, ⟨"GampLine", "judge", "(II)I"⟩),
  (prog_1_method_51_code, 11, some .boolean, false, 2, 1, ⟨"GampLine", "hasTray", "(I)Z"⟩),
  (prog_1_method_18_code, 11, some .int, false, 4, 1, ⟨"GampLine", "perform", "(I)I"⟩),
  (prog_1_method_52_code, 11, some .int, false, 2, 1, ⟨"GampLine", "trayCode", "(I)I"⟩)]
theorem pm_d5 : ∀ q ∈ pm_T_5, pm_cq q := List.forall_mem_cons.mpr ⟨pm_c120, List.forall_mem_cons.mpr ⟨pm_c121, List.forall_mem_cons.mpr ⟨pm_c122, List.forall_mem_cons.mpr ⟨pm_c123, List.forall_mem_cons.mpr ⟨pm_c124, List.forall_mem_cons.mpr ⟨pm_c125, List.forall_mem_cons.mpr ⟨pm_c126, List.forall_mem_cons.mpr ⟨pm_c127, List.forall_mem_cons.mpr ⟨pm_c128, List.forall_mem_cons.mpr ⟨pm_c129, List.forall_mem_cons.mpr ⟨pm_c130, List.forall_mem_cons.mpr ⟨pm_c131, List.forall_mem_cons.mpr ⟨pm_c132, List.forall_mem_cons.mpr ⟨pm_c133, List.forall_mem_cons.mpr ⟨pm_c134, List.forall_mem_cons.mpr ⟨pm_c135, List.forall_mem_cons.mpr ⟨pm_c136, List.forall_mem_cons.mpr ⟨pm_c137, List.forall_mem_cons.mpr ⟨pm_c138, List.forall_mem_cons.mpr ⟨pm_c139, List.forall_mem_cons.mpr ⟨pm_c140, List.forall_mem_cons.mpr ⟨pm_c141, List.forall_mem_cons.mpr ⟨pm_c142, List.forall_mem_cons.mpr ⟨pm_c143, fun _ h => absurd h List.not_mem_nil⟩⟩⟩⟩⟩⟩⟩⟩⟩⟩⟩⟩⟩⟩⟩⟩⟩⟩⟩⟩⟩⟩⟩⟩
theorem pm_c144 : pm_cq (prog_1_method_19_code, 11, some .int, false, 5, 2, ⟨"GampLine", "season", "(II)I"⟩) := pm_cw (j := 4) (i := 180) rfl rfl
theorem pm_c145 : pm_cq (prog_1_method_20_code, 11, some .int, false, 3, 2, ⟨"GampLine", "goes", "(II)I"⟩) := pm_cw (j := 4) (i := 188) rfl rfl
theorem pm_c146 : pm_cq (prog_1_method_53_code, 11, some .boolean, false, 3, 2, ⟨"GampLine", "canBeLeft", "(II)Z"⟩) := pm_cw (j := 4) (i := 192) rfl rfl
theorem pm_c147 : pm_cq (prog_1_method_21_code, 11, some .int, false, 3, 2, ⟨"GampLine", "takes", "(II)I"⟩) := pm_cw (j := 4) (i := 235) rfl rfl
theorem pm_c148 : pm_cq (prog_1_method_22_code, 11, some .int, false, 5, 2, ⟨"GampLine", "sources", "(II)I"⟩) := pm_cw (j := 4) (i := 239) rfl rfl
theorem pm_c149 : pm_cq (prog_1_method_23_code, 11, some .int, false, 4, 2, ⟨"GampLine", "plan", "(II)I"⟩) := pm_cw (j := 5) (i := 3) rfl rfl
theorem pm_c150 : pm_cq (prog_1_method_54_code, 11, some .int, false, 5, 1, ⟨"GampLine", "planCode", "(I)I"⟩) := pm_cw (j := 5) (i := 7) rfl rfl
theorem pm_c151 : pm_cq (prog_1_method_55_code, 11, some .boolean, false, 8, 2, ⟨"GampLine", "canPlan", "(LGampLine$Tray;I)Z"⟩) := pm_cw (j := 5) (i := 11) rfl rfl
theorem pm_c152 : pm_cq (prog_1_method_56_code, 11, none, false, 3, 1, ⟨"GampLine", "beginPlan", "(LGampLine$Tray;)V"⟩) := pm_cw (j := 5) (i := 18) rfl rfl
theorem pm_c153 : pm_cq (prog_1_method_24_code, 11, some .int, false, 3, 1, ⟨"GampLine", "plans", "(I)I"⟩) := pm_cw (j := 5) (i := 38) rfl rfl
theorem pm_c154 : pm_cq (prog_1_method_25_code, 11, some .int, false, 2, 1, ⟨"GampLine", "match", "(I)I"⟩) := pm_cw (j := 5) (i := 42) rfl rfl
theorem pm_c155 : pm_cq (prog_1_method_26_code, 11, some .int, false, 1, 0, ⟨"GampLine", "matchings", "()I"⟩) := pm_cw (j := 5) (i := 66) rfl rfl
theorem pm_c156 : pm_cq (prog_1_method_27_code, 11, some .int, false, 3, 0, ⟨"GampLine", "without", "()I"⟩) := pm_cw (j := 5) (i := 75) rfl rfl
theorem pm_c157 : pm_cq (prog_1_method_28_code, 11, some .int, false, 5, 2, ⟨"GampLine", "fetches", "(II)I"⟩) := pm_cw (j := 5) (i := 84) rfl rfl
theorem pm_c158 : pm_cq (prog_1_method_29_code, 11, some .int, false, 2, 1, ⟨"GampLine", "trade", "(I)I"⟩) := pm_cw (j := 5) (i := 93) rfl rfl
theorem pm_c159 : pm_cq (prog_1_method_30_code, 11, some .int, false, 1, 0, ⟨"GampLine", "rounds", "()I"⟩) := pm_cw (j := 5) (i := 115) rfl rfl
theorem pm_c160 : pm_cq (prog_1_method_31_code, 11, some .int, false, 3, 0, ⟨"GampLine", "traders", "()I"⟩) := pm_cw (j := 5) (i := 119) rfl rfl
theorem pm_c161 : pm_cq (prog_1_method_32_code, 11, some .int, false, 3, 0, ⟨"GampLine", "bargain", "()I"⟩) := pm_cw (j := 5) (i := 123) rfl rfl
theorem pm_c162 : pm_cq (prog_1_method_57_code, 11, some .boolean, false, 5, 2, ⟨"GampLine", "bothGain", "(II)Z"⟩) := pm_cw (j := 5) (i := 127) rfl rfl
theorem pm_c163 : pm_cq (prog_1_method_33_code, 11, some .int, false, 4, 2, ⟨"GampLine", "opening", "(II)I"⟩) := pm_cw (j := 5) (i := 131) rfl rfl
theorem pm_c164 : pm_cq (prog_1_method_58_code, 11, some .int, false, 3, 2, ⟨"GampLine", "openingCode", "(II)I"⟩) := pm_cw (j := 5) (i := 135) rfl rfl
theorem pm_c165 : pm_cq (prog_1_method_34_code, 11, some .int, false, 5, 3, ⟨"GampLine", "openedBy", "(III)I"⟩) := pm_cw (j := 5) (i := 165) rfl rfl
theorem pm_c166 : pm_cq (prog_1_method_35_code, 11, some .int, false, 4, 2, ⟨"GampLine", "inADay", "(II)I"⟩) := pm_cw (j := 5) (i := 183) rfl rfl
theorem pm_c167 : pm_cq (prog_1_method_36_code, 11, some .int, false, 4, 2, ⟨"GampLine", "marks", "(II)I"⟩) := pm_cw (j := 5) (i := 191) rfl rfl
def pm_T_6 : List (ByteArray × Nat × Option FieldType × Bool × Nat × Nat × MethodName) := [(prog_1_method_19_code, 11, some .int, false, 5, 2, ⟨"GampLine", "season", "(II)I"⟩),
  (prog_1_method_20_code, 11, some .int, false, 3, 2, ⟨"GampLine", "goes", "(II)I"⟩),
  (prog_1_method_53_code, 11, some .boolean, false, 3, 2, ⟨"GampLine", "canBeLeft", "(II)Z"⟩),
  (prog_1_method_21_code, 11, some .int, false, 3, 2, ⟨"GampLine", "takes", "(II)I"⟩),
  (prog_1_method_22_code, 11, some .int, false, 5, 2, ⟨"GampLine", "sources", "(II)I"⟩),
  (prog_1_method_23_code, 11, some .int, false, 4, 2, ⟨"GampLine", "plan", "(II)I"⟩),
  (prog_1_method_54_code, 11, some .int, false, 5, 1, ⟨"GampLine", "planCode", "(I)I"⟩),
  (prog_1_method_55_code, 11, some .boolean, false, 8, 2, ⟨"GampLine", "canPlan", "(LGampLine$Tray;I)Z"⟩),
  (prog_1_method_56_code, 11, none, false, 3, 1, ⟨"GampLine", "beginPlan", "(LGampLine$Tray;)V"⟩),
  (prog_1_method_24_code, 11, some .int, false, 3, 1, ⟨"GampLine", "plans", "(I)I"⟩),
  (prog_1_method_25_code, 11, some .int, false, 2, 1, ⟨"GampLine", "match", "(I)I"⟩),
  (prog_1_method_26_code, 11, some .int, false, 1, 0, ⟨"GampLine", "matchings", "()I"⟩),
  (prog_1_method_27_code, 11, some .int, false, 3, 0, ⟨"GampLine", "without", "()I"⟩),
  (prog_1_method_28_code, 11, some .int, false, 5, 2, ⟨"GampLine", "fetches", "(II)I"⟩),
  (prog_1_method_29_code, 11, some .int, false, 2, 1, ⟨"GampLine", "trade", "(I)I"⟩),
  (prog_1_method_30_code, 11, some .int, false, 1, 0, ⟨"GampLine", "rounds", "()I"⟩),
  (prog_1_method_31_code, 11, some .int, false, 3, 0, ⟨"GampLine", "traders", "()I"⟩),
  (prog_1_method_32_code, 11, some .int, false, 3, 0, ⟨"GampLine", "bargain", "()I"⟩),
  (prog_1_method_57_code, 11, some .boolean, false, 5, 2, ⟨"GampLine", "bothGain", "(II)Z"⟩),
  (prog_1_method_33_code, 11, some .int, false, 4, 2, ⟨"GampLine", "opening", "(II)I"⟩),
  (prog_1_method_58_code, 11, some .int, false, 3, 2, ⟨"GampLine", "openingCode", "(II)I"⟩),
  (prog_1_method_34_code, 11, some .int, false, 5, 3, ⟨"GampLine", "openedBy", "(III)I"⟩),
  (prog_1_method_35_code, 11, some .int, false, 4, 2, ⟨"GampLine", "inADay", "(II)I"⟩),
  (prog_1_method_36_code, 11, some .int, false, 4, 2, ⟨"GampLine", "marks", "(II)I"⟩)]
theorem pm_d6 : ∀ q ∈ pm_T_6, pm_cq q := List.forall_mem_cons.mpr ⟨pm_c144, List.forall_mem_cons.mpr ⟨pm_c145, List.forall_mem_cons.mpr ⟨pm_c146, List.forall_mem_cons.mpr ⟨pm_c147, List.forall_mem_cons.mpr ⟨pm_c148, List.forall_mem_cons.mpr ⟨pm_c149, List.forall_mem_cons.mpr ⟨pm_c150, List.forall_mem_cons.mpr ⟨pm_c151, List.forall_mem_cons.mpr ⟨pm_c152, List.forall_mem_cons.mpr ⟨pm_c153, List.forall_mem_cons.mpr ⟨pm_c154, List.forall_mem_cons.mpr ⟨pm_c155, List.forall_mem_cons.mpr ⟨pm_c156, List.forall_mem_cons.mpr ⟨pm_c157, List.forall_mem_cons.mpr ⟨pm_c158, List.forall_mem_cons.mpr ⟨pm_c159, List.forall_mem_cons.mpr ⟨pm_c160, List.forall_mem_cons.mpr ⟨pm_c161, List.forall_mem_cons.mpr ⟨pm_c162, List.forall_mem_cons.mpr ⟨pm_c163, List.forall_mem_cons.mpr ⟨pm_c164, List.forall_mem_cons.mpr ⟨pm_c165, List.forall_mem_cons.mpr ⟨pm_c166, List.forall_mem_cons.mpr ⟨pm_c167, fun _ h => absurd h List.not_mem_nil⟩⟩⟩⟩⟩⟩⟩⟩⟩⟩⟩⟩⟩⟩⟩⟩⟩⟩⟩⟩⟩⟩⟩⟩
theorem pm_c168 : pm_cq (prog_1_method_59_code, 11, some .int, false, 3, 2, ⟨"GampLine", "answersCode", "(II)I"⟩) := pm_cw (j := 5) (i := 195) rfl rfl
theorem pm_c169 : pm_cq (prog_1_method_61_code, 11, some .int, false, 5, 2, ⟨"GampLine", "marksBy", "(LGampLine$Tray;I)I"⟩) := pm_cw (j := 5) (i := 205) rfl rfl
theorem pm_c170 : pm_cq (prog_1_method_62_code, 11, some .boolean, false, 7, 3, ⟨"GampLine", "wouldAnswer", "(LGampLine$Tray;II)Z"⟩) := pm_cw (j := 5) (i := 209) rfl rfl
theorem pm_c171 : pm_cq (prog_1_method_37_code, 11, some .int, false, 10, 2, ⟨"GampLine", "show", "(II)I"⟩) := pm_cw (j := 5) (i := 213) rfl rfl
theorem pm_c172 : pm_cq (prog_1_method_38_code, 11, some .int, false, 4, 3, ⟨"GampLine", "game", "(III)I"⟩) := pm_cw (j := 5) (i := 217) rfl rfl
theorem pm_c173 : pm_cq (prog_1_method_63_code, 11, some .boolean, false, 3, 2, ⟨"GampLine", "canChoose", "(II)Z"⟩) := pm_cw (j := 5) (i := 221) rfl rfl
theorem pm_c174 : pm_cq (prog_1_method_39_code, 11, some .int, false, 5, 3, ⟨"GampLine", "picks", "(III)I"⟩) := pm_cw (j := 5) (i := 235) rfl rfl
theorem pm_c175 : pm_cq (prog_1_method_40_code, 11, some .long, false, 9, 3, ⟨"GampLine", "chance", "(III)J"⟩) := pm_cw (j := 5) (i := 239) rfl rfl
theorem pm_c176 : pm_cq (prog_1_method_60_code, 11, some .int, false, 3, 2, ⟨"GampLine", "chanceCode", "(II)I"⟩) := pm_cw (j := 6) (i := 4) rfl rfl
theorem pm_c177 : pm_cq (prog_1_method_41_code, 11, some .int, false, 5, 3, ⟨"GampLine", "bearing", "(III)I"⟩) := pm_cw (j := 6) (i := 30) rfl rfl
theorem pm_c178 : pm_cq (prog_1_method_42_code, 11, some .int, false, 4, 3, ⟨"GampLine", "numbers", "(III)I"⟩) := pm_cw (j := 6) (i := 39) rfl rfl
theorem pm_c179 : pm_cq (prog_1_method_43_code, 11, some .long, false, 6, 3, ⟨"GampLine", "write", "(IIJ)J"⟩) := pm_cw (j := 6) (i := 48) rfl rfl
theorem pm_c180 : pm_cq (prog_1_method_44_code, 11, some .int, false, 8, 3, ⟨"GampLine", "lists", "(III)I"⟩) := pm_cw (j := 6) (i := 62) rfl rfl
theorem pm_c181 : pm_cq (prog_1_method_45_code, 11, some .int, false, 2, 1, ⟨"GampLine", "image", "(I)I"⟩) := pm_cw (j := 6) (i := 66) rfl rfl
theorem pm_c182 : pm_cq (prog_1_method_46_code, 11, some .int, false, 2, 1, ⟨"GampLine", "restore", "(I)I"⟩) := pm_cw (j := 6) (i := 70) rfl rfl
theorem pm_c183 : pm_cq (prog_1_method_47_code, 11, some .int, false, 2, 1, ⟨"GampLine", "count", "(I)I"⟩) := pm_cw (j := 6) (i := 74) rfl rfl
theorem pm_c184 : pm_cq (prog_14_method_3_code, 12, none, true, 1, 0, ⟨"GampLineModel", "<init>", "()V"⟩) := pm_cw (j := 6) (i := 84) rfl rfl
theorem pm_c185 : pm_cq (prog_14_method_4_code, 12, none, false, 2, 1, ⟨"GampLineModel", "plain", "([I)V"⟩) := pm_cw (j := 6) (i := 88) rfl rfl
theorem pm_c186 : pm_cq (prog_14_method_5_code, 12, some .int, false, 8, 5, ⟨"GampLineModel", "feed", "(IIIII)I"⟩) := pm_cw (j := 6) (i := 220) rfl rfl
theorem pm_c187 : pm_cq (prog_14_method_33_code, 12, some .int, false, 3, 1, ⟨"GampLineModel", "line", "(I)I"⟩) := pm_cw (j := 6) (i := 224) rfl rfl
theorem pm_c188 : pm_cq (prog_14_method_2_code, 12, some .boolean, false, 6, 3, ⟨"GampLineModel", "within", "(JJJ)Z"⟩) := pm_cw (j := 6) (i := 227) rfl rfl
theorem pm_c189 : pm_cq (prog_14_method_10_code, 12, none, false, 2, 0, ⟨"GampLineModel", "next", "()V"⟩) := pm_cw (j := 6) (i := 231) rfl rfl
theorem pm_c190 : pm_cq (prog_14_method_6_code, 12, some .int, false, 2, 1, ⟨"GampLineModel", "see", "(I)I"⟩) := pm_cw (j := 6) (i := 235) rfl rfl
theorem pm_c191 : pm_cq (prog_14_method_7_code, 12, some .boolean, false, 1, 1, ⟨"GampLineModel", "isSmall", "(I)Z"⟩) := pm_cw (j := 6) (i := 238) rfl rfl
def pm_T_7 : List (ByteArray × Nat × Option FieldType × Bool × Nat × Nat × MethodName) := [(prog_1_method_59_code, 11, some .int, false, 3, 2, ⟨"GampLine", "answersCode", "(II)I"⟩),
  (prog_1_method_61_code, 11, some .int, false, 5, 2, ⟨"GampLine", "marksBy", "(LGampLine$Tray;I)I"⟩),
  (prog_1_method_62_code, 11, some .boolean, false, 7, 3, ⟨"GampLine", "wouldAnswer", "(LGampLine$Tray;II)Z"⟩),
  (prog_1_method_37_code, 11, some .int, false, 10, 2, ⟨"GampLine", "show", "(II)I"⟩),
  (prog_1_method_38_code, 11, some .int, false, 4, 3, ⟨"GampLine", "game", "(III)I"⟩),
  (prog_1_method_63_code, 11, some .boolean, false, 3, 2, ⟨"GampLine", "canChoose", "(II)Z"⟩),
  (prog_1_method_39_code, 11, some .int, false, 5, 3, ⟨"GampLine", "picks", "(III)I"⟩),
  (prog_1_method_40_code, 11, some .long, false, 9, 3, ⟨"GampLine", "chance", "(III)J"⟩),
  (prog_1_method_60_code, 11, some .int, false, 3, 2, ⟨"GampLine", "chanceCode", "(II)I"⟩),
  (prog_1_method_41_code, 11, some .int, false, 5, 3, ⟨"GampLine", "bearing", "(III)I"⟩),
  (prog_1_method_42_code, 11, some .int, false, 4, 3, ⟨"GampLine", "numbers", "(III)I"⟩),
  (prog_1_method_43_code, 11, some .long, false, 6, 3, ⟨"GampLine", "write", "(IIJ)J"⟩),
  (prog_1_method_44_code, 11, some .int, false, 8, 3, ⟨"GampLine", "lists", "(III)I"⟩),
  (prog_1_method_45_code, 11, some .int, false, 2, 1, ⟨"GampLine", "image", "(I)I"⟩),
  (prog_1_method_46_code, 11, some .int, false, 2, 1, ⟨"GampLine", "restore", "(I)I"⟩),
  (prog_1_method_47_code, 11, some .int, false, 2, 1, ⟨"GampLine", "count", "(I)I"⟩),
  (prog_14_method_3_code, 12, none, true, 1, 0, ⟨"GampLineModel", "<init>", "()V"⟩),
  (prog_14_method_4_code, 12, none, false, 2, 1, ⟨"GampLineModel", "plain", "([I)V"⟩),
  (prog_14_method_5_code, 12, some .int, false, 8, 5, ⟨"GampLineModel", "feed", "(IIIII)I"⟩),
  (prog_14_method_33_code, 12, some .int, false, 3, 1, ⟨"GampLineModel", "line", "(I)I"⟩),
  (prog_14_method_2_code, 12, some .boolean, false, 6, 3, ⟨"GampLineModel", "within", "(JJJ)Z"⟩),
  (prog_14_method_10_code, 12, none, false, 2, 0, ⟨"GampLineModel", "next", "()V"⟩),
  (prog_14_method_6_code, 12, some .int, false, 2, 1, ⟨"GampLineModel", "see", "(I)I"⟩),
  (prog_14_method_7_code, 12, some .boolean, false, 1, 1, ⟨"GampLineModel", "isSmall", "(I)Z"⟩)]
theorem pm_d7 : ∀ q ∈ pm_T_7, pm_cq q := List.forall_mem_cons.mpr ⟨pm_c168, List.forall_mem_cons.mpr ⟨pm_c169, List.forall_mem_cons.mpr ⟨pm_c170, List.forall_mem_cons.mpr ⟨pm_c171, List.forall_mem_cons.mpr ⟨pm_c172, List.forall_mem_cons.mpr ⟨pm_c173, List.forall_mem_cons.mpr ⟨pm_c174, List.forall_mem_cons.mpr ⟨pm_c175, List.forall_mem_cons.mpr ⟨pm_c176, List.forall_mem_cons.mpr ⟨pm_c177, List.forall_mem_cons.mpr ⟨pm_c178, List.forall_mem_cons.mpr ⟨pm_c179, List.forall_mem_cons.mpr ⟨pm_c180, List.forall_mem_cons.mpr ⟨pm_c181, List.forall_mem_cons.mpr ⟨pm_c182, List.forall_mem_cons.mpr ⟨pm_c183, List.forall_mem_cons.mpr ⟨pm_c184, List.forall_mem_cons.mpr ⟨pm_c185, List.forall_mem_cons.mpr ⟨pm_c186, List.forall_mem_cons.mpr ⟨pm_c187, List.forall_mem_cons.mpr ⟨pm_c188, List.forall_mem_cons.mpr ⟨pm_c189, List.forall_mem_cons.mpr ⟨pm_c190, List.forall_mem_cons.mpr ⟨pm_c191, fun _ h => absurd h List.not_mem_nil⟩⟩⟩⟩⟩⟩⟩⟩⟩⟩⟩⟩⟩⟩⟩⟩⟩⟩⟩⟩⟩⟩⟩⟩
theorem pm_c192 : pm_cq (prog_14_method_9_code, 12, some .int, false, 4, 0, ⟨"GampLineModel", "keyAt", "()I"⟩) := pm_cw (j := 7) (i := 2) rfl rfl
theorem pm_c193 : pm_cq (prog_14_method_8_code, 12, some .boolean, false, 1, 1, ⟨"GampLineModel", "isDigit", "(I)Z"⟩) := pm_cw (j := 7) (i := 8) rfl rfl
theorem pm_c194 : pm_cq (prog_14_method_13_code, 12, some .boolean, false, 2, 1, ⟨"GampLineModel", "eats", "(I)Z"⟩) := pm_cw (j := 7) (i := 13) rfl rfl
theorem pm_c195 : pm_cq (prog_14_method_12_code, 12, some .boolean, false, 2, 1, ⟨"GampLineModel", "is", "(I)Z"⟩) := pm_cw (j := 7) (i := 17) rfl rfl
theorem pm_c196 : pm_cq (prog_14_method_11_code, 12, none, false, 2, 1, ⟨"GampLineModel", "fails", "(I)V"⟩) := pm_cw (j := 7) (i := 21) rfl rfl
theorem pm_c197 : pm_cq (prog_14_method_14_code, 12, some .int, false, 4, 2, ⟨"GampLineModel", "takesN", "(II)I"⟩) := pm_cw (j := 7) (i := 25) rfl rfl
theorem pm_c198 : pm_cq (prog_14_method_32_code, 12, none, false, 1, 0, ⟨"GampLineModel", "ends", "()V"⟩) := pm_cw (j := 7) (i := 29) rfl rfl
theorem pm_c199 : pm_cq (prog_14_method_31_code, 12, none, false, 1, 0, ⟨"GampLineModel", "readLine", "()V"⟩) := pm_cw (j := 7) (i := 33) rfl rfl
theorem pm_c200 : pm_cq (prog_14_method_26_code, 12, none, false, 3, 0, ⟨"GampLineModel", "readThing", "()V"⟩) := pm_cw (j := 7) (i := 37) rfl rfl
theorem pm_c201 : pm_cq (prog_14_method_29_code, 12, none, false, 2, 0, ⟨"GampLineModel", "readPerson", "()V"⟩) := pm_cw (j := 7) (i := 41) rfl rfl
theorem pm_c202 : pm_cq (prog_14_method_28_code, 12, some .boolean, false, 2, 1, ⟨"GampLineModel", "readFlag", "(I)Z"⟩) := pm_cw (j := 7) (i := 45) rfl rfl
theorem pm_c203 : pm_cq (prog_14_method_27_code, 12, none, false, 4, 1, ⟨"GampLineModel", "readHolds", "(I)V"⟩) := pm_cw (j := 7) (i := 49) rfl rfl
theorem pm_c204 : pm_cq (prog_14_method_30_code, 12, none, false, 3, 1, ⟨"GampLineModel", "readLaw", "(I)V"⟩) := pm_cw (j := 7) (i := 53) rfl rfl
theorem pm_c205 : pm_cq (prog_14_method_22_code, 12, none, false, 3, 1, ⟨"GampLineModel", "readSum", "(I)V"⟩) := pm_cw (j := 7) (i := 57) rfl rfl
theorem pm_c206 : pm_cq (prog_14_method_21_code, 12, none, false, 2, 1, ⟨"GampLineModel", "readTerm", "(I)V"⟩) := pm_cw (j := 7) (i := 61) rfl rfl
theorem pm_c207 : pm_cq (prog_14_method_19_code, 12, none, false, 2, 1, ⟨"GampLineModel", "readAtom", "(I)V"⟩) := pm_cw (j := 7) (i := 65) rfl rfl
theorem pm_c208 : pm_cq (prog_14_method_17_code, 12, none, false, 2, 1, ⟨"GampLineModel", "codes", "(I)V"⟩) := pm_cw (j := 7) (i := 69) rfl rfl
theorem pm_c209 : pm_cq (prog_14_method_16_code, 12, some .int, false, 2, 1, ⟨"GampLineModel", "wordOf", "(I)I"⟩) := pm_cw (j := 7) (i := 73) rfl rfl
theorem pm_c210 : pm_cq (prog_14_method_18_code, 12, some .boolean, false, 2, 1, ⟨"GampLineModel", "goesIn", "(I)Z"⟩) := pm_cw (j := 7) (i := 77) rfl rfl
theorem pm_c211 : pm_cq (prog_14_method_20_code, 12, none, false, 2, 1, ⟨"GampLineModel", "readIf", "(I)V"⟩) := pm_cw (j := 7) (i := 81) rfl rfl
theorem pm_c212 : pm_cq (prog_14_method_25_code, 12, none, false, 2, 1, ⟨"GampLineModel", "readTruth", "(I)V"⟩) := pm_cw (j := 7) (i := 85) rfl rfl
theorem pm_c213 : pm_cq (prog_14_method_24_code, 12, none, false, 2, 1, ⟨"GampLineModel", "readBoth", "(I)V"⟩) := pm_cw (j := 7) (i := 89) rfl rfl
theorem pm_c214 : pm_cq (prog_14_method_23_code, 12, none, false, 3, 1, ⟨"GampLineModel", "readUnit", "(I)V"⟩) := pm_cw (j := 7) (i := 93) rfl rfl
theorem pm_c215 : pm_cq (prog_14_method_34_code, 12, some .int, false, 2, 1, ⟨"GampLineModel", "fault", "(I)I"⟩) := pm_cw (j := 7) (i := 97) rfl rfl
def pm_T_8 : List (ByteArray × Nat × Option FieldType × Bool × Nat × Nat × MethodName) := [(prog_14_method_9_code, 12, some .int, false, 4, 0, ⟨"GampLineModel", "keyAt", "()I"⟩),
  (prog_14_method_8_code, 12, some .boolean, false, 1, 1, ⟨"GampLineModel", "isDigit", "(I)Z"⟩),
  (prog_14_method_13_code, 12, some .boolean, false, 2, 1, ⟨"GampLineModel", "eats", "(I)Z"⟩),
  (prog_14_method_12_code, 12, some .boolean, false, 2, 1, ⟨"GampLineModel", "is", "(I)Z"⟩),
  (prog_14_method_11_code, 12, none, false, 2, 1, ⟨"GampLineModel", "fails", "(I)V"⟩),
  (prog_14_method_14_code, 12, some .int, false, 4, 2, ⟨"GampLineModel", "takesN", "(II)I"⟩),
  (prog_14_method_32_code, 12, none, false, 1, 0, ⟨"GampLineModel", "ends", "()V"⟩),
  (prog_14_method_31_code, 12, none, false, 1, 0, ⟨"GampLineModel", "readLine", "()V"⟩),
  (prog_14_method_26_code, 12, none, false, 3, 0, ⟨"GampLineModel", "readThing", "()V"⟩),
  (prog_14_method_29_code, 12, none, false, 2, 0, ⟨"GampLineModel", "readPerson", "()V"⟩),
  (prog_14_method_28_code, 12, some .boolean, false, 2, 1, ⟨"GampLineModel", "readFlag", "(I)Z"⟩),
  (prog_14_method_27_code, 12, none, false, 4, 1, ⟨"GampLineModel", "readHolds", "(I)V"⟩),
  (prog_14_method_30_code, 12, none, false, 3, 1, ⟨"GampLineModel", "readLaw", "(I)V"⟩),
  (prog_14_method_22_code, 12, none, false, 3, 1, ⟨"GampLineModel", "readSum", "(I)V"⟩),
  (prog_14_method_21_code, 12, none, false, 2, 1, ⟨"GampLineModel", "readTerm", "(I)V"⟩),
  (prog_14_method_19_code, 12, none, false, 2, 1, ⟨"GampLineModel", "readAtom", "(I)V"⟩),
  (prog_14_method_17_code, 12, none, false, 2, 1, ⟨"GampLineModel", "codes", "(I)V"⟩),
  (prog_14_method_16_code, 12, some .int, false, 2, 1, ⟨"GampLineModel", "wordOf", "(I)I"⟩),
  (prog_14_method_18_code, 12, some .boolean, false, 2, 1, ⟨"GampLineModel", "goesIn", "(I)Z"⟩),
  (prog_14_method_20_code, 12, none, false, 2, 1, ⟨"GampLineModel", "readIf", "(I)V"⟩),
  (prog_14_method_25_code, 12, none, false, 2, 1, ⟨"GampLineModel", "readTruth", "(I)V"⟩),
  (prog_14_method_24_code, 12, none, false, 2, 1, ⟨"GampLineModel", "readBoth", "(I)V"⟩),
  (prog_14_method_23_code, 12, none, false, 3, 1, ⟨"GampLineModel", "readUnit", "(I)V"⟩),
  (prog_14_method_34_code, 12, some .int, false, 2, 1, ⟨"GampLineModel", "fault", "(I)I"⟩)]
theorem pm_d8 : ∀ q ∈ pm_T_8, pm_cq q := List.forall_mem_cons.mpr ⟨pm_c192, List.forall_mem_cons.mpr ⟨pm_c193, List.forall_mem_cons.mpr ⟨pm_c194, List.forall_mem_cons.mpr ⟨pm_c195, List.forall_mem_cons.mpr ⟨pm_c196, List.forall_mem_cons.mpr ⟨pm_c197, List.forall_mem_cons.mpr ⟨pm_c198, List.forall_mem_cons.mpr ⟨pm_c199, List.forall_mem_cons.mpr ⟨pm_c200, List.forall_mem_cons.mpr ⟨pm_c201, List.forall_mem_cons.mpr ⟨pm_c202, List.forall_mem_cons.mpr ⟨pm_c203, List.forall_mem_cons.mpr ⟨pm_c204, List.forall_mem_cons.mpr ⟨pm_c205, List.forall_mem_cons.mpr ⟨pm_c206, List.forall_mem_cons.mpr ⟨pm_c207, List.forall_mem_cons.mpr ⟨pm_c208, List.forall_mem_cons.mpr ⟨pm_c209, List.forall_mem_cons.mpr ⟨pm_c210, List.forall_mem_cons.mpr ⟨pm_c211, List.forall_mem_cons.mpr ⟨pm_c212, List.forall_mem_cons.mpr ⟨pm_c213, List.forall_mem_cons.mpr ⟨pm_c214, List.forall_mem_cons.mpr ⟨pm_c215, fun _ h => absurd h List.not_mem_nil⟩⟩⟩⟩⟩⟩⟩⟩⟩⟩⟩⟩⟩⟩⟩⟩⟩⟩⟩⟩⟩⟩⟩⟩
theorem pm_c216 : pm_cq (prog_14_method_46_code, 12, some .int, false, 3, 2, ⟨"GampLineModel", "thing", "(II)I"⟩) := pm_cw (j := 7) (i := 101) rfl rfl
theorem pm_c217 : pm_cq (prog_14_method_36_code, 12, some .boolean, false, 3, 1, ⟨"GampLineModel", "isThing", "(J)Z"⟩) := pm_cw (j := 7) (i := 105) rfl rfl
theorem pm_c218 : pm_cq (prog_14_method_47_code, 12, some .int, false, 3, 2, ⟨"GampLineModel", "person", "(II)I"⟩) := pm_cw (j := 7) (i := 109) rfl rfl
theorem pm_c219 : pm_cq (prog_14_method_37_code, 12, some .boolean, false, 3, 1, ⟨"GampLineModel", "isPerson", "(J)Z"⟩) := pm_cw (j := 7) (i := 113) rfl rfl
theorem pm_c220 : pm_cq (prog_14_method_40_code, 12, some .int, false, 3, 1, ⟨"GampLineModel", "heldBy", "(I)I"⟩) := pm_cw (j := 7) (i := 117) rfl rfl
theorem pm_c221 : pm_cq (prog_14_method_48_code, 12, some .int, false, 3, 2, ⟨"GampLineModel", "claims", "(II)I"⟩) := pm_cw (j := 7) (i := 121) rfl rfl
theorem pm_c222 : pm_cq (prog_14_method_43_code, 12, some .int, false, 3, 2, ⟨"GampLineModel", "claimsOf", "(II)I"⟩) := pm_cw (j := 7) (i := 125) rfl rfl
theorem pm_c223 : pm_cq (prog_14_method_42_code, 12, some .int, false, 7, 3, ⟨"GampLineModel", "reckons", "(III)I"⟩) := pm_cw (j := 7) (i := 129) rfl rfl
theorem pm_c224 : pm_cq (prog_14_method_41_code, 12, some .int, false, 5, 3, ⟨"GampLineModel", "between", "(III)I"⟩) := pm_cw (j := 7) (i := 132) rfl rfl
theorem pm_c225 : pm_cq (prog_14_method_49_code, 12, some .int, false, 3, 2, ⟨"GampLineModel", "burden", "(II)I"⟩) := pm_cw (j := 7) (i := 139) rfl rfl
theorem pm_c226 : pm_cq (prog_14_method_45_code, 12, some .int, false, 3, 2, ⟨"GampLineModel", "burdenNow", "(II)I"⟩) := pm_cw (j := 7) (i := 143) rfl rfl
theorem pm_c227 : pm_cq (prog_14_method_44_code, 12, some .int, false, 6, 4, ⟨"GampLineModel", "burdenOf", "(IIII)I"⟩) := pm_cw (j := 7) (i := 147) rfl rfl
theorem pm_c228 : pm_cq (prog_14_method_64_code, 12, some .int, false, 2, 1, ⟨"GampLineModel", "seed", "(I)I"⟩) := pm_cw (j := 7) (i := 151) rfl rfl
theorem pm_c229 : pm_cq (prog_14_method_50_code, 12, none, false, 2, 0, ⟨"GampLineModel", "keeps", "()V"⟩) := pm_cw (j := 7) (i := 155) rfl rfl
theorem pm_c230 : pm_cq (prog_14_method_52_code, 12, none, false, 2, 0, ⟨"GampLineModel", "notes", "()V"⟩) := pm_cw (j := 7) (i := 159) rfl rfl
theorem pm_c231 : pm_cq (prog_14_method_65_code, 12, some .int, false, 4, 1, ⟨"GampLineModel", "leave", "(I)I"⟩) := pm_cw (j := 7) (i := 163) rfl rfl
theorem pm_c232 : pm_cq (prog_14_method_53_code, 12, some .int, false, 3, 1, ⟨"GampLineModel", "whyHolds", "(J)I"⟩) := pm_cw (j := 7) (i := 167) rfl rfl
theorem pm_c233 : pm_cq (prog_14_method_57_code, 12, some .int, false, 3, 1, ⟨"GampLineModel", "leaves", "(I)I"⟩) := pm_cw (j := 7) (i := 171) rfl rfl
theorem pm_c234 : pm_cq (prog_14_method_67_code, 12, some .int, false, 4, 2, ⟨"GampLineModel", "fetch", "(II)I"⟩) := pm_cw (j := 7) (i := 175) rfl rfl
theorem pm_c235 : pm_cq (prog_14_method_55_code, 12, some .int, false, 7, 2, ⟨"GampLineModel", "whyFetch", "(JJ)I"⟩) := pm_cw (j := 7) (i := 179) rfl rfl
theorem pm_c236 : pm_cq (prog_14_method_66_code, 12, some .int, false, 3, 0, ⟨"GampLineModel", "officeSet", "()I"⟩) := pm_cw (j := 7) (i := 183) rfl rfl
theorem pm_c237 : pm_cq (prog_14_method_39_code, 12, some .int, false, 3, 1, ⟨"GampLineModel", "bitsOf", "(I)I"⟩) := pm_cw (j := 7) (i := 186) rfl rfl
theorem pm_c238 : pm_cq (prog_14_method_68_code, 12, some .int, false, 3, 1, ⟨"GampLineModel", "open", "(I)I"⟩) := pm_cw (j := 7) (i := 190) rfl rfl
theorem pm_c239 : pm_cq (prog_14_method_54_code, 12, some .int, false, 5, 1, ⟨"GampLineModel", "whyOpen", "(J)I"⟩) := pm_cw (j := 7) (i := 194) rfl rfl
def pm_T_9 : List (ByteArray × Nat × Option FieldType × Bool × Nat × Nat × MethodName) := [(prog_14_method_46_code, 12, some .int, false, 3, 2, ⟨"GampLineModel", "thing", "(II)I"⟩),
  (prog_14_method_36_code, 12, some .boolean, false, 3, 1, ⟨"GampLineModel", "isThing", "(J)Z"⟩),
  (prog_14_method_47_code, 12, some .int, false, 3, 2, ⟨"GampLineModel", "person", "(II)I"⟩),
  (prog_14_method_37_code, 12, some .boolean, false, 3, 1, ⟨"GampLineModel", "isPerson", "(J)Z"⟩),
  (prog_14_method_40_code, 12, some .int, false, 3, 1, ⟨"GampLineModel", "heldBy", "(I)I"⟩),
  (prog_14_method_48_code, 12, some .int, false, 3, 2, ⟨"GampLineModel", "claims", "(II)I"⟩),
  (prog_14_method_43_code, 12, some .int, false, 3, 2, ⟨"GampLineModel", "claimsOf", "(II)I"⟩),
  (prog_14_method_42_code, 12, some .int, false, 7, 3, ⟨"GampLineModel", "reckons", "(III)I"⟩),
  (prog_14_method_41_code, 12, some .int, false, 5, 3, ⟨"GampLineModel", "between", "(III)I"⟩),
  (prog_14_method_49_code, 12, some .int, false, 3, 2, ⟨"GampLineModel", "burden", "(II)I"⟩),
  (prog_14_method_45_code, 12, some .int, false, 3, 2, ⟨"GampLineModel", "burdenNow", "(II)I"⟩),
  (prog_14_method_44_code, 12, some .int, false, 6, 4, ⟨"GampLineModel", "burdenOf", "(IIII)I"⟩),
  (prog_14_method_64_code, 12, some .int, false, 2, 1, ⟨"GampLineModel", "seed", "(I)I"⟩),
  (prog_14_method_50_code, 12, none, false, 2, 0, ⟨"GampLineModel", "keeps", "()V"⟩),
  (prog_14_method_52_code, 12, none, false, 2, 0, ⟨"GampLineModel", "notes", "()V"⟩),
  (prog_14_method_65_code, 12, some .int, false, 4, 1, ⟨"GampLineModel", "leave", "(I)I"⟩),
  (prog_14_method_53_code, 12, some .int, false, 3, 1, ⟨"GampLineModel", "whyHolds", "(J)I"⟩),
  (prog_14_method_57_code, 12, some .int, false, 3, 1, ⟨"GampLineModel", "leaves", "(I)I"⟩),
  (prog_14_method_67_code, 12, some .int, false, 4, 2, ⟨"GampLineModel", "fetch", "(II)I"⟩),
  (prog_14_method_55_code, 12, some .int, false, 7, 2, ⟨"GampLineModel", "whyFetch", "(JJ)I"⟩),
  (prog_14_method_66_code, 12, some .int, false, 3, 0, ⟨"GampLineModel", "officeSet", "()I"⟩),
  (prog_14_method_39_code, 12, some .int, false, 3, 1, ⟨"GampLineModel", "bitsOf", "(I)I"⟩),
  (prog_14_method_68_code, 12, some .int, false, 3, 1, ⟨"GampLineModel", "open", "(I)I"⟩),
  (prog_14_method_54_code, 12, some .int, false, 5, 1, ⟨"GampLineModel", "whyOpen", "(J)I"⟩)]
theorem pm_d9 : ∀ q ∈ pm_T_9, pm_cq q := List.forall_mem_cons.mpr ⟨pm_c216, List.forall_mem_cons.mpr ⟨pm_c217, List.forall_mem_cons.mpr ⟨pm_c218, List.forall_mem_cons.mpr ⟨pm_c219, List.forall_mem_cons.mpr ⟨pm_c220, List.forall_mem_cons.mpr ⟨pm_c221, List.forall_mem_cons.mpr ⟨pm_c222, List.forall_mem_cons.mpr ⟨pm_c223, List.forall_mem_cons.mpr ⟨pm_c224, List.forall_mem_cons.mpr ⟨pm_c225, List.forall_mem_cons.mpr ⟨pm_c226, List.forall_mem_cons.mpr ⟨pm_c227, List.forall_mem_cons.mpr ⟨pm_c228, List.forall_mem_cons.mpr ⟨pm_c229, List.forall_mem_cons.mpr ⟨pm_c230, List.forall_mem_cons.mpr ⟨pm_c231, List.forall_mem_cons.mpr ⟨pm_c232, List.forall_mem_cons.mpr ⟨pm_c233, List.forall_mem_cons.mpr ⟨pm_c234, List.forall_mem_cons.mpr ⟨pm_c235, List.forall_mem_cons.mpr ⟨pm_c236, List.forall_mem_cons.mpr ⟨pm_c237, List.forall_mem_cons.mpr ⟨pm_c238, List.forall_mem_cons.mpr ⟨pm_c239, fun _ h => absurd h List.not_mem_nil⟩⟩⟩⟩⟩⟩⟩⟩⟩⟩⟩⟩⟩⟩⟩⟩⟩⟩⟩⟩⟩⟩⟩⟩
theorem pm_c240 : pm_cq (prog_14_method_58_code, 12, none, false, 3, 1, ⟨"GampLineModel", "opens1", "(I)V"⟩) := pm_cw (j := 7) (i := 198) rfl rfl
theorem pm_c241 : pm_cq (prog_14_method_69_code, 12, some .int, false, 4, 2, ⟨"GampLineModel", "swap", "(II)I"⟩) := pm_cw (j := 7) (i := 202) rfl rfl
theorem pm_c242 : pm_cq (prog_14_method_56_code, 12, some .int, false, 5, 2, ⟨"GampLineModel", "whySwap", "(JJ)I"⟩) := pm_cw (j := 7) (i := 206) rfl rfl
theorem pm_c243 : pm_cq (prog_14_method_38_code, 12, some .boolean, false, 5, 2, ⟨"GampLineModel", "areTwo", "(JJ)Z"⟩) := pm_cw (j := 7) (i := 210) rfl rfl
theorem pm_c244 : pm_cq (prog_14_method_59_code, 12, none, false, 5, 2, ⟨"GampLineModel", "swaps", "(II)V"⟩) := pm_cw (j := 7) (i := 214) rfl rfl
theorem pm_c245 : pm_cq (prog_14_method_70_code, 12, some .int, false, 3, 2, ⟨"GampLineModel", "mark", "(II)I"⟩) := pm_cw (j := 7) (i := 218) rfl rfl
theorem pm_c246 : pm_cq (prog_14_method_71_code, 12, some .int, false, 4, 1, ⟨"GampLineModel", "days", "(I)I"⟩) := pm_cw (j := 7) (i := 223) rfl rfl
theorem pm_c247 : pm_cq (prog_14_method_63_code, 12, some .int, false, 2, 0, ⟨"GampLineModel", "goesDay", "()I"⟩) := pm_cw (j := 7) (i := 228) rfl rfl
theorem pm_c248 : pm_cq (prog_14_method_60_code, 12, some .int, false, 2, 1, ⟨"GampLineModel", "draw", "(I)I"⟩) := pm_cw (j := 7) (i := 232) rfl rfl
theorem pm_c249 : pm_cq (prog_14_method_62_code, 12, some .int, false, 5, 0, ⟨"GampLineModel", "rolls", "()I"⟩) := pm_cw (j := 7) (i := 237) rfl rfl
theorem pm_c250 : pm_cq (prog_14_method_61_code, 12, some .int, false, 7, 2, ⟨"GampLineModel", "taker", "(II)I"⟩) := pm_cw (j := 8) (i := 1) rfl rfl
theorem pm_c251 : pm_cq (prog_14_method_72_code, 12, some .int, false, 3, 1, ⟨"GampLineModel", "undo", "(I)I"⟩) := pm_cw (j := 8) (i := 5) rfl rfl
theorem pm_c252 : pm_cq (prog_14_method_78_code, 12, some .int, false, 7, 2, ⟨"GampLineModel", "judge", "(II)I"⟩) := pm_cw (j := 8) (i := 10) rfl rfl
theorem pm_c253 : pm_cq (prog_14_method_76_code, 12, some .int, false, 2, 1, ⟨"GampLineModel", "noTray", "(I)I"⟩) := pm_cw (j := 8) (i := 15) rfl rfl
theorem pm_c254 : pm_cq (prog_14_method_75_code, 12, some .int, false, 3, 1, ⟨"GampLineModel", "tells", "(I)I"⟩) := pm_cw (j := 8) (i := 19) rfl rfl
theorem pm_c255 : pm_cq (prog_14_method_73_code, 12, some .int, false, 7, 1, ⟨"GampLineModel", "whyNot", "(J)I"⟩) := pm_cw (j := 8) (i := 23) rfl rfl
theorem pm_c256 : pm_cq (prog_14_method_74_code, 12, none, false, 4, 1, ⟨"GampLineModel", "does", "(I)V"⟩) := pm_cw (j := 8) (i := 35) rfl rfl
theorem pm_c257 : pm_cq (prog_14_method_77_code, 12, some .int, false, 3, 0, ⟨"GampLineModel", "holders", "()I"⟩) := pm_cw (j := 8) (i := 39) rfl rfl
theorem pm_c258 : pm_cq (prog_14_method_51_code, 12, none, false, 2, 0, ⟨"GampLineModel", "isAgain", "()V"⟩) := pm_cw (j := 8) (i := 43) rfl rfl
theorem pm_c259 : pm_cq (prog_14_method_79_code, 12, some .int, false, 4, 1, ⟨"GampLineModel", "perform", "(I)I"⟩) := pm_cw (j := 8) (i := 47) rfl rfl
theorem pm_c260 : pm_cq (prog_14_method_81_code, 12, some .int, false, 6, 2, ⟨"GampLineModel", "season", "(II)I"⟩) := pm_cw (j := 8) (i := 51) rfl rfl
theorem pm_c261 : pm_cq (prog_14_method_80_code, 12, some .int, false, 3, 0, ⟨"GampLineModel", "drawn", "()I"⟩) := pm_cw (j := 8) (i := 56) rfl rfl
theorem pm_c262 : pm_cq (prog_14_method_84_code, 12, some .int, false, 3, 2, ⟨"GampLineModel", "goes", "(II)I"⟩) := pm_cw (j := 8) (i := 60) rfl rfl
theorem pm_c263 : pm_cq (prog_14_method_35_code, 12, some .boolean, false, 3, 1, ⟨"GampLineModel", "isStation", "(J)Z"⟩) := pm_cw (j := 8) (i := 64) rfl rfl
def pm_T_10 : List (ByteArray × Nat × Option FieldType × Bool × Nat × Nat × MethodName) := [(prog_14_method_58_code, 12, none, false, 3, 1, ⟨"GampLineModel", "opens1", "(I)V"⟩),
  (prog_14_method_69_code, 12, some .int, false, 4, 2, ⟨"GampLineModel", "swap", "(II)I"⟩),
  (prog_14_method_56_code, 12, some .int, false, 5, 2, ⟨"GampLineModel", "whySwap", "(JJ)I"⟩),
  (prog_14_method_38_code, 12, some .boolean, false, 5, 2, ⟨"GampLineModel", "areTwo", "(JJ)Z"⟩),
  (prog_14_method_59_code, 12, none, false, 5, 2, ⟨"GampLineModel", "swaps", "(II)V"⟩),
  (prog_14_method_70_code, 12, some .int, false, 3, 2, ⟨"GampLineModel", "mark", "(II)I"⟩),
  (prog_14_method_71_code, 12, some .int, false, 4, 1, ⟨"GampLineModel", "days", "(I)I"⟩),
  (prog_14_method_63_code, 12, some .int, false, 2, 0, ⟨"GampLineModel", "goesDay", "()I"⟩),
  (prog_14_method_60_code, 12, some .int, false, 2, 1, ⟨"GampLineModel", "draw", "(I)I"⟩),
  (prog_14_method_62_code, 12, some .int, false, 5, 0, ⟨"GampLineModel", "rolls", "()I"⟩),
  (prog_14_method_61_code, 12, some .int, false, 7, 2, ⟨"GampLineModel", "taker", "(II)I"⟩),
  (prog_14_method_72_code, 12, some .int, false, 3, 1, ⟨"GampLineModel", "undo", "(I)I"⟩),
  (prog_14_method_78_code, 12, some .int, false, 7, 2, ⟨"GampLineModel", "judge", "(II)I"⟩),
  (prog_14_method_76_code, 12, some .int, false, 2, 1, ⟨"GampLineModel", "noTray", "(I)I"⟩),
  (prog_14_method_75_code, 12, some .int, false, 3, 1, ⟨"GampLineModel", "tells", "(I)I"⟩),
  (prog_14_method_73_code, 12, some .int, false, 7, 1, ⟨"GampLineModel", "whyNot", "(J)I"⟩),
  (prog_14_method_74_code, 12, none, false, 4, 1, ⟨"GampLineModel", "does", "(I)V"⟩),
  (prog_14_method_77_code, 12, some .int, false, 3, 0, ⟨"GampLineModel", "holders", "()I"⟩),
  (prog_14_method_51_code, 12, none, false, 2, 0, ⟨"GampLineModel", "isAgain", "()V"⟩),
  (prog_14_method_79_code, 12, some .int, false, 4, 1, ⟨"GampLineModel", "perform", "(I)I"⟩),
  (prog_14_method_81_code, 12, some .int, false, 6, 2, ⟨"GampLineModel", "season", "(II)I"⟩),
  (prog_14_method_80_code, 12, some .int, false, 3, 0, ⟨"GampLineModel", "drawn", "()I"⟩),
  (prog_14_method_84_code, 12, some .int, false, 3, 2, ⟨"GampLineModel", "goes", "(II)I"⟩),
  (prog_14_method_35_code, 12, some .boolean, false, 3, 1, ⟨"GampLineModel", "isStation", "(J)Z"⟩)]
theorem pm_d10 : ∀ q ∈ pm_T_10, pm_cq q := List.forall_mem_cons.mpr ⟨pm_c240, List.forall_mem_cons.mpr ⟨pm_c241, List.forall_mem_cons.mpr ⟨pm_c242, List.forall_mem_cons.mpr ⟨pm_c243, List.forall_mem_cons.mpr ⟨pm_c244, List.forall_mem_cons.mpr ⟨pm_c245, List.forall_mem_cons.mpr ⟨pm_c246, List.forall_mem_cons.mpr ⟨pm_c247, List.forall_mem_cons.mpr ⟨pm_c248, List.forall_mem_cons.mpr ⟨pm_c249, List.forall_mem_cons.mpr ⟨pm_c250, List.forall_mem_cons.mpr ⟨pm_c251, List.forall_mem_cons.mpr ⟨pm_c252, List.forall_mem_cons.mpr ⟨pm_c253, List.forall_mem_cons.mpr ⟨pm_c254, List.forall_mem_cons.mpr ⟨pm_c255, List.forall_mem_cons.mpr ⟨pm_c256, List.forall_mem_cons.mpr ⟨pm_c257, List.forall_mem_cons.mpr ⟨pm_c258, List.forall_mem_cons.mpr ⟨pm_c259, List.forall_mem_cons.mpr ⟨pm_c260, List.forall_mem_cons.mpr ⟨pm_c261, List.forall_mem_cons.mpr ⟨pm_c262, List.forall_mem_cons.mpr ⟨pm_c263, fun _ h => absurd h List.not_mem_nil⟩⟩⟩⟩⟩⟩⟩⟩⟩⟩⟩⟩⟩⟩⟩⟩⟩⟩⟩⟩⟩⟩⟩⟩
theorem pm_c264 : pm_cq (prog_14_method_83_code, 12, some .int, false, 4, 2, ⟨"GampLineModel", "goesTo", "(II)I"⟩) := pm_cw (j := 8) (i := 68) rfl rfl
theorem pm_c265 : pm_cq (prog_14_method_82_code, 12, none, false, 2, 0, ⟨"GampLineModel", "clears", "()V"⟩) := pm_cw (j := 8) (i := 72) rfl rfl
theorem pm_c266 : pm_cq (prog_14_method_85_code, 12, some .int, false, 3, 2, ⟨"GampLineModel", "takes", "(II)I"⟩) := pm_cw (j := 8) (i := 76) rfl rfl
theorem pm_c267 : pm_cq (prog_14_method_86_code, 12, some .int, false, 5, 2, ⟨"GampLineModel", "sources", "(II)I"⟩) := pm_cw (j := 8) (i := 80) rfl rfl
theorem pm_c268 : pm_cq (prog_14_method_91_code, 12, some .int, false, 5, 2, ⟨"GampLineModel", "plan", "(II)I"⟩) := pm_cw (j := 8) (i := 84) rfl rfl
theorem pm_c269 : pm_cq (prog_14_method_87_code, 12, some .int, false, 10, 1, ⟨"GampLineModel", "noPlan", "(I)I"⟩) := pm_cw (j := 8) (i := 88) rfl rfl
theorem pm_c270 : pm_cq (prog_14_method_90_code, 12, some .int, false, 4, 1, ⟨"GampLineModel", "rowsOf", "(I)I"⟩) := pm_cw (j := 8) (i := 92) rfl rfl
theorem pm_c271 : pm_cq (prog_14_method_89_code, 12, none, false, 5, 2, ⟨"GampLineModel", "laysLeft", "(II)V"⟩) := pm_cw (j := 8) (i := 96) rfl rfl
theorem pm_c272 : pm_cq (prog_14_method_88_code, 12, some .boolean, false, 4, 1, ⟨"GampLineModel", "isPlan", "(I)Z"⟩) := pm_cw (j := 8) (i := 100) rfl rfl
theorem pm_c273 : pm_cq (prog_14_method_92_code, 12, some .int, false, 5, 1, ⟨"GampLineModel", "plans", "(I)I"⟩) := pm_cw (j := 8) (i := 104) rfl rfl
theorem pm_c274 : pm_cq (prog_14_method_96_code, 12, some .int, false, 5, 1, ⟨"GampLineModel", "match", "(I)I"⟩) := pm_cw (j := 8) (i := 108) rfl rfl
theorem pm_c275 : pm_cq (prog_14_method_94_code, 12, none, false, 3, 0, ⟨"GampLineModel", "laysMatching", "()V"⟩) := pm_cw (j := 8) (i := 112) rfl rfl
theorem pm_c276 : pm_cq (prog_14_method_95_code, 12, none, false, 10, 2, ⟨"GampLineModel", "laysGiven", "(II)V"⟩) := pm_cw (j := 8) (i := 116) rfl rfl
theorem pm_c277 : pm_cq (prog_14_method_93_code, 12, some .int, false, 4, 3, ⟨"GampLineModel", "claimed", "(III)I"⟩) := pm_cw (j := 8) (i := 120) rfl rfl
theorem pm_c278 : pm_cq (prog_14_method_15_code, 12, some .boolean, false, 3, 2, ⟨"GampLineModel", "isIn", "(JI)Z"⟩) := pm_cw (j := 8) (i := 123) rfl rfl
theorem pm_c279 : pm_cq (prog_14_method_97_code, 12, some .int, false, 1, 0, ⟨"GampLineModel", "matchings", "()I"⟩) := pm_cw (j := 8) (i := 127) rfl rfl
theorem pm_c280 : pm_cq (prog_14_method_99_code, 12, some .int, false, 3, 0, ⟨"GampLineModel", "without", "()I"⟩) := pm_cw (j := 8) (i := 131) rfl rfl
theorem pm_c281 : pm_cq (prog_14_method_98_code, 12, some .int, false, 6, 2, ⟨"GampLineModel", "mostGiven", "(II)I"⟩) := pm_cw (j := 8) (i := 135) rfl rfl
theorem pm_c282 : pm_cq (prog_14_method_100_code, 12, some .int, false, 8, 2, ⟨"GampLineModel", "fetches", "(II)I"⟩) := pm_cw (j := 8) (i := 140) rfl rfl
theorem pm_c283 : pm_cq (prog_14_method_104_code, 12, some .int, false, 2, 1, ⟨"GampLineModel", "trade", "(I)I"⟩) := pm_cw (j := 8) (i := 144) rfl rfl
theorem pm_c284 : pm_cq (prog_14_method_103_code, 12, none, false, 4, 0, ⟨"GampLineModel", "laysTrade", "()V"⟩) := pm_cw (j := 8) (i := 148) rfl rfl
theorem pm_c285 : pm_cq (prog_14_method_101_code, 12, some .int, false, 7, 2, ⟨"GampLineModel", "pointed", "(II)I"⟩) := pm_cw (j := 8) (i := 152) rfl rfl
theorem pm_c286 : pm_cq (prog_14_method_102_code, 12, some .boolean, false, 4, 1, ⟨"GampLineModel", "isRing", "(I)Z"⟩) := pm_cw (j := 8) (i := 157) rfl rfl
theorem pm_c287 : pm_cq (prog_14_method_105_code, 12, some .int, false, 1, 0, ⟨"GampLineModel", "rounds", "()I"⟩) := pm_cw (j := 8) (i := 161) rfl rfl
def pm_T_11 : List (ByteArray × Nat × Option FieldType × Bool × Nat × Nat × MethodName) := [(prog_14_method_83_code, 12, some .int, false, 4, 2, ⟨"GampLineModel", "goesTo", "(II)I"⟩),
  (prog_14_method_82_code, 12, none, false, 2, 0, ⟨"GampLineModel", "clears", "()V"⟩),
  (prog_14_method_85_code, 12, some .int, false, 3, 2, ⟨"GampLineModel", "takes", "(II)I"⟩),
  (prog_14_method_86_code, 12, some .int, false, 5, 2, ⟨"GampLineModel", "sources", "(II)I"⟩),
  (prog_14_method_91_code, 12, some .int, false, 5, 2, ⟨"GampLineModel", "plan", "(II)I"⟩),
  (prog_14_method_87_code, 12, some .int, false, 10, 1, ⟨"GampLineModel", "noPlan", "(I)I"⟩),
  (prog_14_method_90_code, 12, some .int, false, 4, 1, ⟨"GampLineModel", "rowsOf", "(I)I"⟩),
  (prog_14_method_89_code, 12, none, false, 5, 2, ⟨"GampLineModel", "laysLeft", "(II)V"⟩),
  (prog_14_method_88_code, 12, some .boolean, false, 4, 1, ⟨"GampLineModel", "isPlan", "(I)Z"⟩),
  (prog_14_method_92_code, 12, some .int, false, 5, 1, ⟨"GampLineModel", "plans", "(I)I"⟩),
  (prog_14_method_96_code, 12, some .int, false, 5, 1, ⟨"GampLineModel", "match", "(I)I"⟩),
  (prog_14_method_94_code, 12, none, false, 3, 0, ⟨"GampLineModel", "laysMatching", "()V"⟩),
  (prog_14_method_95_code, 12, none, false, 10, 2, ⟨"GampLineModel", "laysGiven", "(II)V"⟩),
  (prog_14_method_93_code, 12, some .int, false, 4, 3, ⟨"GampLineModel", "claimed", "(III)I"⟩),
  (prog_14_method_15_code, 12, some .boolean, false, 3, 2, ⟨"GampLineModel", "isIn", "(JI)Z"⟩),
  (prog_14_method_97_code, 12, some .int, false, 1, 0, ⟨"GampLineModel", "matchings", "()I"⟩),
  (prog_14_method_99_code, 12, some .int, false, 3, 0, ⟨"GampLineModel", "without", "()I"⟩),
  (prog_14_method_98_code, 12, some .int, false, 6, 2, ⟨"GampLineModel", "mostGiven", "(II)I"⟩),
  (prog_14_method_100_code, 12, some .int, false, 8, 2, ⟨"GampLineModel", "fetches", "(II)I"⟩),
  (prog_14_method_104_code, 12, some .int, false, 2, 1, ⟨"GampLineModel", "trade", "(I)I"⟩),
  (prog_14_method_103_code, 12, none, false, 4, 0, ⟨"GampLineModel", "laysTrade", "()V"⟩),
  (prog_14_method_101_code, 12, some .int, false, 7, 2, ⟨"GampLineModel", "pointed", "(II)I"⟩),
  (prog_14_method_102_code, 12, some .boolean, false, 4, 1, ⟨"GampLineModel", "isRing", "(I)Z"⟩),
  (prog_14_method_105_code, 12, some .int, false, 1, 0, ⟨"GampLineModel", "rounds", "()I"⟩)]
theorem pm_d11 : ∀ q ∈ pm_T_11, pm_cq q := List.forall_mem_cons.mpr ⟨pm_c264, List.forall_mem_cons.mpr ⟨pm_c265, List.forall_mem_cons.mpr ⟨pm_c266, List.forall_mem_cons.mpr ⟨pm_c267, List.forall_mem_cons.mpr ⟨pm_c268, List.forall_mem_cons.mpr ⟨pm_c269, List.forall_mem_cons.mpr ⟨pm_c270, List.forall_mem_cons.mpr ⟨pm_c271, List.forall_mem_cons.mpr ⟨pm_c272, List.forall_mem_cons.mpr ⟨pm_c273, List.forall_mem_cons.mpr ⟨pm_c274, List.forall_mem_cons.mpr ⟨pm_c275, List.forall_mem_cons.mpr ⟨pm_c276, List.forall_mem_cons.mpr ⟨pm_c277, List.forall_mem_cons.mpr ⟨pm_c278, List.forall_mem_cons.mpr ⟨pm_c279, List.forall_mem_cons.mpr ⟨pm_c280, List.forall_mem_cons.mpr ⟨pm_c281, List.forall_mem_cons.mpr ⟨pm_c282, List.forall_mem_cons.mpr ⟨pm_c283, List.forall_mem_cons.mpr ⟨pm_c284, List.forall_mem_cons.mpr ⟨pm_c285, List.forall_mem_cons.mpr ⟨pm_c286, List.forall_mem_cons.mpr ⟨pm_c287, fun _ h => absurd h List.not_mem_nil⟩⟩⟩⟩⟩⟩⟩⟩⟩⟩⟩⟩⟩⟩⟩⟩⟩⟩⟩⟩⟩⟩⟩⟩
theorem pm_c288 : pm_cq (prog_14_method_106_code, 12, some .int, false, 3, 0, ⟨"GampLineModel", "traders", "()I"⟩) := pm_cw (j := 8) (i := 165) rfl rfl
theorem pm_c289 : pm_cq (prog_14_method_107_code, 12, some .int, false, 5, 0, ⟨"GampLineModel", "bargain", "()I"⟩) := pm_cw (j := 8) (i := 169) rfl rfl
theorem pm_c290 : pm_cq (prog_14_method_113_code, 12, some .int, false, 3, 2, ⟨"GampLineModel", "opening", "(II)I"⟩) := pm_cw (j := 8) (i := 173) rfl rfl
theorem pm_c291 : pm_cq (prog_14_method_108_code, 12, some .boolean, false, 2, 1, ⟨"GampLineModel", "isSet", "(I)Z"⟩) := pm_cw (j := 8) (i := 177) rfl rfl
theorem pm_c292 : pm_cq (prog_14_method_112_code, 12, some .int, false, 7, 2, ⟨"GampLineModel", "laysOpening", "(II)I"⟩) := pm_cw (j := 8) (i := 181) rfl rfl
theorem pm_c293 : pm_cq (prog_14_method_110_code, 12, none, false, 8, 2, ⟨"GampLineModel", "laysMore", "(II)V"⟩) := pm_cw (j := 8) (i := 185) rfl rfl
theorem pm_c294 : pm_cq (prog_14_method_109_code, 12, some .int, false, 6, 4, ⟨"GampLineModel", "moreBy", "(IIII)I"⟩) := pm_cw (j := 8) (i := 190) rfl rfl
theorem pm_c295 : pm_cq (prog_14_method_111_code, 12, some .boolean, false, 10, 3, ⟨"GampLineModel", "goesThing", "(III)Z"⟩) := pm_cw (j := 8) (i := 194) rfl rfl
theorem pm_c296 : pm_cq (prog_14_method_114_code, 12, some .int, false, 4, 3, ⟨"GampLineModel", "openedBy", "(III)I"⟩) := pm_cw (j := 8) (i := 198) rfl rfl
theorem pm_c297 : pm_cq (prog_14_method_115_code, 12, some .int, false, 9, 2, ⟨"GampLineModel", "inADay", "(II)I"⟩) := pm_cw (j := 8) (i := 202) rfl rfl
theorem pm_c298 : pm_cq (prog_14_method_120_code, 12, some .int, false, 4, 2, ⟨"GampLineModel", "marks", "(II)I"⟩) := pm_cw (j := 8) (i := 206) rfl rfl
theorem pm_c299 : pm_cq (prog_14_method_117_code, 12, some .int, false, 5, 2, ⟨"GampLineModel", "noAnswers", "(II)I"⟩) := pm_cw (j := 8) (i := 210) rfl rfl
theorem pm_c300 : pm_cq (prog_14_method_116_code, 12, some .int, false, 4, 2, ⟨"GampLineModel", "noRow", "(II)I"⟩) := pm_cw (j := 8) (i := 214) rfl rfl
theorem pm_c301 : pm_cq (prog_14_method_119_code, 12, some .int, false, 7, 2, ⟨"GampLineModel", "marksOf", "(II)I"⟩) := pm_cw (j := 8) (i := 218) rfl rfl
theorem pm_c302 : pm_cq (prog_14_method_118_code, 12, some .boolean, false, 6, 3, ⟨"GampLineModel", "claimsBy", "(III)Z"⟩) := pm_cw (j := 8) (i := 222) rfl rfl
theorem pm_c303 : pm_cq (prog_14_method_121_code, 12, some .int, false, 10, 2, ⟨"GampLineModel", "show", "(II)I"⟩) := pm_cw (j := 8) (i := 227) rfl rfl
theorem pm_c304 : pm_cq (prog_14_method_124_code, 12, some .int, false, 4, 3, ⟨"GampLineModel", "game", "(III)I"⟩) := pm_cw (j := 8) (i := 231) rfl rfl
theorem pm_c305 : pm_cq (prog_14_method_123_code, 12, none, false, 9, 3, ⟨"GampLineModel", "laysGame", "(III)V"⟩) := pm_cw (j := 8) (i := 236) rfl rfl
theorem pm_c306 : pm_cq (prog_14_method_122_code, 12, some .int, false, 8, 5, ⟨"GampLineModel", "chosen", "(IIIII)I"⟩) := pm_cw (j := 9) (i := 0) rfl rfl
theorem pm_c307 : pm_cq (prog_14_method_125_code, 12, some .int, false, 5, 3, ⟨"GampLineModel", "picks", "(III)I"⟩) := pm_cw (j := 9) (i := 4) rfl rfl
theorem pm_c308 : pm_cq (prog_14_method_130_code, 12, some .long, false, 9, 3, ⟨"GampLineModel", "chance", "(III)J"⟩) := pm_cw (j := 9) (i := 8) rfl rfl
theorem pm_c309 : pm_cq (prog_14_method_126_code, 12, some .int, false, 5, 2, ⟨"GampLineModel", "noChance", "(II)I"⟩) := pm_cw (j := 9) (i := 13) rfl rfl
theorem pm_c310 : pm_cq (prog_14_method_127_code, 12, none, false, 6, 2, ⟨"GampLineModel", "laysBorne", "(II)V"⟩) := pm_cw (j := 9) (i := 17) rfl rfl
theorem pm_c311 : pm_cq (prog_14_method_128_code, 12, some .long, false, 4, 1, ⟨"GampLineModel", "tens", "(I)J"⟩) := pm_cw (j := 9) (i := 20) rfl rfl
def pm_T_12 : List (ByteArray × Nat × Option FieldType × Bool × Nat × Nat × MethodName) := [(prog_14_method_106_code, 12, some .int, false, 3, 0, ⟨"GampLineModel", "traders", "()I"⟩),
  (prog_14_method_107_code, 12, some .int, false, 5, 0, ⟨"GampLineModel", "bargain", "()I"⟩),
  (prog_14_method_113_code, 12, some .int, false, 3, 2, ⟨"GampLineModel", "opening", "(II)I"⟩),
  (prog_14_method_108_code, 12, some .boolean, false, 2, 1, ⟨"GampLineModel", "isSet", "(I)Z"⟩),
  (prog_14_method_112_code, 12, some .int, false, 7, 2, ⟨"GampLineModel", "laysOpening", "(II)I"⟩),
  (prog_14_method_110_code, 12, none, false, 8, 2, ⟨"GampLineModel", "laysMore", "(II)V"⟩),
  (prog_14_method_109_code, 12, some .int, false, 6, 4, ⟨"GampLineModel", "moreBy", "(IIII)I"⟩),
  (prog_14_method_111_code, 12, some .boolean, false, 10, 3, ⟨"GampLineModel", "goesThing", "(III)Z"⟩),
  (prog_14_method_114_code, 12, some .int, false, 4, 3, ⟨"GampLineModel", "openedBy", "(III)I"⟩),
  (prog_14_method_115_code, 12, some .int, false, 9, 2, ⟨"GampLineModel", "inADay", "(II)I"⟩),
  (prog_14_method_120_code, 12, some .int, false, 4, 2, ⟨"GampLineModel", "marks", "(II)I"⟩),
  (prog_14_method_117_code, 12, some .int, false, 5, 2, ⟨"GampLineModel", "noAnswers", "(II)I"⟩),
  (prog_14_method_116_code, 12, some .int, false, 4, 2, ⟨"GampLineModel", "noRow", "(II)I"⟩),
  (prog_14_method_119_code, 12, some .int, false, 7, 2, ⟨"GampLineModel", "marksOf", "(II)I"⟩),
  (prog_14_method_118_code, 12, some .boolean, false, 6, 3, ⟨"GampLineModel", "claimsBy", "(III)Z"⟩),
  (prog_14_method_121_code, 12, some .int, false, 10, 2, ⟨"GampLineModel", "show", "(II)I"⟩),
  (prog_14_method_124_code, 12, some .int, false, 4, 3, ⟨"GampLineModel", "game", "(III)I"⟩),
  (prog_14_method_123_code, 12, none, false, 9, 3, ⟨"GampLineModel", "laysGame", "(III)V"⟩),
  (prog_14_method_122_code, 12, some .int, false, 8, 5, ⟨"GampLineModel", "chosen", "(IIIII)I"⟩),
  (prog_14_method_125_code, 12, some .int, false, 5, 3, ⟨"GampLineModel", "picks", "(III)I"⟩),
  (prog_14_method_130_code, 12, some .long, false, 9, 3, ⟨"GampLineModel", "chance", "(III)J"⟩),
  (prog_14_method_126_code, 12, some .int, false, 5, 2, ⟨"GampLineModel", "noChance", "(II)I"⟩),
  (prog_14_method_127_code, 12, none, false, 6, 2, ⟨"GampLineModel", "laysBorne", "(II)V"⟩),
  (prog_14_method_128_code, 12, some .long, false, 4, 1, ⟨"GampLineModel", "tens", "(I)J"⟩)]
theorem pm_d12 : ∀ q ∈ pm_T_12, pm_cq q := List.forall_mem_cons.mpr ⟨pm_c288, List.forall_mem_cons.mpr ⟨pm_c289, List.forall_mem_cons.mpr ⟨pm_c290, List.forall_mem_cons.mpr ⟨pm_c291, List.forall_mem_cons.mpr ⟨pm_c292, List.forall_mem_cons.mpr ⟨pm_c293, List.forall_mem_cons.mpr ⟨pm_c294, List.forall_mem_cons.mpr ⟨pm_c295, List.forall_mem_cons.mpr ⟨pm_c296, List.forall_mem_cons.mpr ⟨pm_c297, List.forall_mem_cons.mpr ⟨pm_c298, List.forall_mem_cons.mpr ⟨pm_c299, List.forall_mem_cons.mpr ⟨pm_c300, List.forall_mem_cons.mpr ⟨pm_c301, List.forall_mem_cons.mpr ⟨pm_c302, List.forall_mem_cons.mpr ⟨pm_c303, List.forall_mem_cons.mpr ⟨pm_c304, List.forall_mem_cons.mpr ⟨pm_c305, List.forall_mem_cons.mpr ⟨pm_c306, List.forall_mem_cons.mpr ⟨pm_c307, List.forall_mem_cons.mpr ⟨pm_c308, List.forall_mem_cons.mpr ⟨pm_c309, List.forall_mem_cons.mpr ⟨pm_c310, List.forall_mem_cons.mpr ⟨pm_c311, fun _ h => absurd h List.not_mem_nil⟩⟩⟩⟩⟩⟩⟩⟩⟩⟩⟩⟩⟩⟩⟩⟩⟩⟩⟩⟩⟩⟩⟩⟩
theorem pm_c312 : pm_cq (prog_14_method_129_code, 12, some .long, false, 4, 2, ⟨"GampLineModel", "common", "(JJ)J"⟩) := pm_cw (j := 9) (i := 23) rfl rfl
theorem pm_c313 : pm_cq (prog_14_method_131_code, 12, some .int, false, 8, 3, ⟨"GampLineModel", "bearing", "(III)I"⟩) := pm_cw (j := 9) (i := 27) rfl rfl
theorem pm_c314 : pm_cq (prog_14_method_133_code, 12, some .int, false, 5, 3, ⟨"GampLineModel", "numbers", "(III)I"⟩) := pm_cw (j := 9) (i := 31) rfl rfl
theorem pm_c315 : pm_cq (prog_14_method_134_code, 12, some .long, false, 6, 3, ⟨"GampLineModel", "write", "(IIJ)J"⟩) := pm_cw (j := 9) (i := 35) rfl rfl
theorem pm_c316 : pm_cq (prog_14_method_132_code, 12, some .long, false, 3, 2, ⟨"GampLineModel", "cut", "(JI)J"⟩) := pm_cw (j := 9) (i := 39) rfl rfl
theorem pm_c317 : pm_cq (prog_14_method_135_code, 12, some .int, false, 7, 3, ⟨"GampLineModel", "lists", "(III)I"⟩) := pm_cw (j := 9) (i := 43) rfl rfl
theorem pm_c318 : pm_cq (prog_14_method_136_code, 12, some .int, false, 3, 1, ⟨"GampLineModel", "image", "(I)I"⟩) := pm_cw (j := 9) (i := 47) rfl rfl
theorem pm_c319 : pm_cq (prog_14_method_137_code, 12, some .int, false, 3, 1, ⟨"GampLineModel", "restore", "(I)I"⟩) := pm_cw (j := 9) (i := 51) rfl rfl
theorem pm_c320 : pm_cq (prog_14_method_139_code, 12, some .int, false, 2, 1, ⟨"GampLineModel", "count", "(I)I"⟩) := pm_cw (j := 9) (i := 55) rfl rfl
theorem pm_c321 : pm_cq (prog_14_method_138_code, 12, some .int, false, 3, 0, ⟨"GampLineModel", "heldSet", "()I"⟩) := pm_cw (j := 9) (i := 59) rfl rfl
theorem pm_c322 : pm_cq (prog_15_method_49_code, 14, some .int, false, 1, 1, ⟨"java/lang/Integer", "bitCount", "(I)I"⟩) := pm_cw (j := 4) (i := 58) rfl rfl
theorem pm_c323 : pm_cq (prog_16_method_69_code, 15, some .int, false, 2, 2, ⟨"java/lang/Math", "min", "(II)I"⟩) := pm_cw (j := 2) (i := 224) rfl rfl
theorem pm_c324 : pm_cq (prog_16_method_65_code, 15, some .int, false, 2, 2, ⟨"java/lang/Math", "max", "(II)I"⟩) := pm_cw (j := 2) (i := 227) rfl rfl
theorem pm_c325 : pm_cq (prog_16_method_50_code, 15, some .int, false, 3, 2, ⟨"java/lang/Math", "floorMod", "(II)I"⟩) := pm_cw (j := 4) (i := 125) rfl rfl
theorem pm_c326 : pm_cq (prog_21_method_103_code, 16, none, false, 4, 2, ⟨"java/util/Arrays", "fill", "([II)V"⟩) := pm_cw (j := 4) (i := 110) rfl rfl
theorem pm_c327 : pm_cq (prog_21_method_104_code, 16, none, false, 5, 4, ⟨"java/util/Arrays", "fill", "([IIII)V"⟩) := pm_cw (j := 5) (i := 49) rfl rfl
theorem pm_c328 : pm_cq (prog_21_method_30_code, 16, none, false, 3, 3, ⟨"java/util/Arrays", "rangeCheck", "(III)V"⟩) := pm_cw (j := 5) (i := 52) rfl rfl
theorem pm_c329 : pm_cq (prog_21_method_101_code, 16, none, false, 5, 2, ⟨"java/util/Arrays", "fill", "([JJ)V"⟩) := pm_cw (j := 6) (i := 11) rfl rfl
def pm_T_13 : List (ByteArray × Nat × Option FieldType × Bool × Nat × Nat × MethodName) := [(prog_14_method_129_code, 12, some .long, false, 4, 2, ⟨"GampLineModel", "common", "(JJ)J"⟩),
  (prog_14_method_131_code, 12, some .int, false, 8, 3, ⟨"GampLineModel", "bearing", "(III)I"⟩),
  (prog_14_method_133_code, 12, some .int, false, 5, 3, ⟨"GampLineModel", "numbers", "(III)I"⟩),
  (prog_14_method_134_code, 12, some .long, false, 6, 3, ⟨"GampLineModel", "write", "(IIJ)J"⟩),
  (prog_14_method_132_code, 12, some .long, false, 3, 2, ⟨"GampLineModel", "cut", "(JI)J"⟩),
  (prog_14_method_135_code, 12, some .int, false, 7, 3, ⟨"GampLineModel", "lists", "(III)I"⟩),
  (prog_14_method_136_code, 12, some .int, false, 3, 1, ⟨"GampLineModel", "image", "(I)I"⟩),
  (prog_14_method_137_code, 12, some .int, false, 3, 1, ⟨"GampLineModel", "restore", "(I)I"⟩),
  (prog_14_method_139_code, 12, some .int, false, 2, 1, ⟨"GampLineModel", "count", "(I)I"⟩),
  (prog_14_method_138_code, 12, some .int, false, 3, 0, ⟨"GampLineModel", "heldSet", "()I"⟩),
  (prog_15_method_49_code, 14, some .int, false, 1, 1, ⟨"java/lang/Integer", "bitCount", "(I)I"⟩),
  (prog_16_method_69_code, 15, some .int, false, 2, 2, ⟨"java/lang/Math", "min", "(II)I"⟩),
  (prog_16_method_65_code, 15, some .int, false, 2, 2, ⟨"java/lang/Math", "max", "(II)I"⟩),
  (prog_16_method_50_code, 15, some .int, false, 3, 2, ⟨"java/lang/Math", "floorMod", "(II)I"⟩),
  (prog_21_method_103_code, 16, none, false, 4, 2, ⟨"java/util/Arrays", "fill", "([II)V"⟩),
  (prog_21_method_104_code, 16, none, false, 5, 4, ⟨"java/util/Arrays", "fill", "([IIII)V"⟩),
  (prog_21_method_30_code, 16, none, false, 3, 3, ⟨"java/util/Arrays", "rangeCheck", "(III)V"⟩),
  (prog_21_method_101_code, 16, none, false, 5, 2, ⟨"java/util/Arrays", "fill", "([JJ)V"⟩)]
theorem pm_d13 : ∀ q ∈ pm_T_13, pm_cq q := List.forall_mem_cons.mpr ⟨pm_c312, List.forall_mem_cons.mpr ⟨pm_c313, List.forall_mem_cons.mpr ⟨pm_c314, List.forall_mem_cons.mpr ⟨pm_c315, List.forall_mem_cons.mpr ⟨pm_c316, List.forall_mem_cons.mpr ⟨pm_c317, List.forall_mem_cons.mpr ⟨pm_c318, List.forall_mem_cons.mpr ⟨pm_c319, List.forall_mem_cons.mpr ⟨pm_c320, List.forall_mem_cons.mpr ⟨pm_c321, List.forall_mem_cons.mpr ⟨pm_c322, List.forall_mem_cons.mpr ⟨pm_c323, List.forall_mem_cons.mpr ⟨pm_c324, List.forall_mem_cons.mpr ⟨pm_c325, List.forall_mem_cons.mpr ⟨pm_c326, List.forall_mem_cons.mpr ⟨pm_c327, List.forall_mem_cons.mpr ⟨pm_c328, List.forall_mem_cons.mpr ⟨pm_c329, fun _ h => absurd h List.not_mem_nil⟩⟩⟩⟩⟩⟩⟩⟩⟩⟩⟩⟩⟩⟩⟩⟩⟩⟩
theorem pm_Teq : pm_T = pm_T_0 ++ (pm_T_1 ++ (pm_T_2 ++ (pm_T_3 ++ (pm_T_4 ++ (pm_T_5 ++ (pm_T_6 ++ (pm_T_7 ++ (pm_T_8 ++ (pm_T_9 ++ (pm_T_10 ++ (pm_T_11 ++ (pm_T_12 ++ (pm_T_13))))))))))))) := rfl
theorem pm_m0 : ∀ q ∈ pm_T, pm_cq q := by
  intro q h
  rw [pm_Teq] at h
  simp only [List.mem_append] at h
  rcases h with h | h | h | h | h | h | h | h | h | h | h | h | h | h
  · exact pm_d0 q h
  · exact pm_d1 q h
  · exact pm_d2 q h
  · exact pm_d3 q h
  · exact pm_d4 q h
  · exact pm_d5 q h
  · exact pm_d6 q h
  · exact pm_d7 q h
  · exact pm_d8 q h
  · exact pm_d9 q h
  · exact pm_d10 q h
  · exact pm_d11 q h
  · exact pm_d12 q h
  · exact pm_d13 q h
theorem pm_m1 (y : Nat) (hy : y < pm_ny) : Cond.code (pm_mn y) (pm_by y) (pm_mx y) (pm_rt y) ∈ lw_good := by
  have hl : y < pm_T.length := hy
  have h := pm_m0 (pm_T.getD y pm_T0) (by rw [List.getD_eq_getElem?_getD, List.getElem?_eq_getElem hl]; exact List.getElem_mem hl)
  exact h
theorem pm_m2 : ∀ y, y < pm_ny → (pm_mn y).cls = pm_ow (pm_oc y) ∧ pm_oc y < 17 ∧ pm_mx y ≤ 30 ∧ (parseMethodDescriptor (pm_mn y).desc).map (fun d => d.parameters.length) = some (pm_np y) ∧ (pm_fi y = true → (pm_mn y).name = "<init>" ∧ pm_rt y = none) := by decide +kernel
theorem pm_m3 : ∀ o, o < 17 → pm_has (pm_pli.getD o 0) (.initialized (pm_ow o)) = true ∧ pm_ow o ≠ "java/lang/invoke/MethodHandle" ∧ pm_ow o ≠ "java/lang/invoke/VarHandle" := by decide +kernel
theorem pm_m4 : ∀ y, y < pm_ny → plainFor (pm_mn y) = true := by decide +kernel
theorem pm_s1 : ∀ o, o < 17 → ∀ p ∈ pm_mvL.getD o [], p.2 < pm_ny ∧ pm_has (pm_q pm_qmv o p.1) (.methodLink (pm_ow o) p.1 (pm_mn p.2)) = true ∧ pm_has (pm_pin.getD p.2 0) (.instanceMethod (pm_mn p.2)) = true ∧ pm_has (pm_pse.getD p.2 0) (.selects (pm_mn p.2).cls (pm_mn p.2) (pm_mn p.2)) = true ∧ pm_oc p.2 < 13 := by decide +kernel
theorem pm_s2 : ∀ o, o < 17 → ∀ p ∈ pm_msL.getD o [], p.2 < pm_ny ∧ pm_has (pm_q pm_qms o p.1) (.methodLink (pm_ow o) p.1 (pm_mn p.2)) = true ∧ pm_has (pm_pin.getD p.2 0) (.static (pm_mn p.2)) = true := by decide +kernel
def pm_nest : List Cond := [.methodLinkNest "GampLine" 9 ⟨"GampLine$Reader", "<init>", "()V"⟩ "GampLine",
  .methodLinkNest "GampLine" 18 ⟨"GampLine$Line", "<init>", "()V"⟩ "GampLine",
  .methodLinkNest "GampLine" 25 ⟨"GampLine$State", "<init>", "()V"⟩ "GampLine",
  .methodLinkNest "GampLine" 52 ⟨"GampLine$Claims", "<init>", "()V"⟩ "GampLine",
  .methodLinkNest "GampLine" 59 ⟨"GampLine$Left", "<init>", "()V"⟩ "GampLine",
  .methodLinkNest "GampLine" 66 ⟨"GampLine$Whose", "<init>", "()V"⟩ "GampLine",
  .methodLinkNest "GampLine" 73 ⟨"GampLine$Trades", "<init>", "()V"⟩ "GampLine",
  .methodLinkNest "GampLine" 80 ⟨"GampLine$Opener", "<init>", "()V"⟩ "GampLine",
  .methodLinkNest "GampLine" 87 ⟨"GampLine$Odds", "<init>", "()V"⟩ "GampLine",
  .methodLinkNest "GampLine" 92 ⟨"GampLine$Tray", "<init>", "()V"⟩ "GampLine",
  .methodLinkNest "GampLine$Line" 39 ⟨"GampLine$Laws", "<init>", "()V"⟩ "GampLine",
  .methodLinkNest "GampLine$Reader" 11 ⟨"GampLine$Line", "<init>", "()V"⟩ "GampLine"]
theorem pm_s3 : ∀ o, o < 17 → ∀ p ∈ pm_miL.getD o [], p.2 < pm_ny ∧ pm_fi p.2 = true ∧ pm_has (pm_pin.getD p.2 0) (.instanceMethod (pm_mn p.2)) = true ∧ (pm_has (pm_q pm_qmi o p.1) (.methodLink (pm_ow o) p.1 (pm_mn p.2)) = true ∨ Cond.methodLinkNest (pm_ow o) p.1 (pm_mn p.2) "GampLine" ∈ pm_nest) := by decide +kernel
theorem pm_s4 : ∀ o, o < 17 → ∀ p ∈ pm_frL.getD o [], p.2.1 < 13 ∧ p.2.2.1 < pm_nf p.2.1 ∧ p.2.2.2.1 = pm_fk p.2.1 p.2.2.1 ∧ p.2.2.2.2 = (pm_cT p.2.1 p.2.2.1).2.2.2 ∧ pm_has (pm_q pm_qfr o p.1) (.fieldLink (pm_ow o) p.1 (pm_ow p.2.1) (pm_cT p.2.1 p.2.2.1).2.1 (pm_cT p.2.1 p.2.2.1).2.2.1) = true := by decide +kernel
theorem pm_s5 : ∀ o, o < 17 → ∀ p ∈ pm_cnL.getD o [], p.2 < 13 ∧ pm_has (pm_q pm_qcn o p.1) (.classLink (pm_ow o) p.1 (pm_ow p.2)) = true := by decide +kernel
theorem pm_s6 : ∀ o, o < 17 → ∀ p ∈ pm_anL.getD o [], 3 ≤ p.2 ∧ p.2 < 6 ∧ pm_has (pm_q pm_qan o p.1) (.classLink (pm_ow o) p.1 (pm_ow (pm_ae p.2))) = true := by decide +kernel
theorem pm_s7 : ∀ o, o < 17 → ∀ p ∈ pm_oiqL.getD o [], pm_has (pm_q pm_qoi o p.1) (.methodLink (pm_ow o) p.1 Lib.objectInit) = true := by decide +kernel
theorem pm_s8 : pm_has 1028 (.instanceMethod Lib.objectInit) = true ∧ pm_has 1029 (.code Lib.objectInit ⟨#[0xb1]⟩ 1 none) = true ∧ pm_has 3177 (.native arraycopyName) = true ∧ pm_has 3176 (.static arraycopyName) = true ∧ pm_has 1019 (.initialized "java/lang/System") = true := by decide +kernel
theorem pm_s9 : ∀ o, o < 17 → ∀ p ∈ pm_acqL.getD o [], pm_has (pm_q pm_qac o p.1) (.methodLink (pm_ow o) p.1 arraycopyName) = true := by decide +kernel
def pm_kcI (v : Value) : Int32 := match v with
  | .int x => x
  | _ => 0
theorem pm_s10 : ∀ o, o < 17 → ∀ p ∈ pm_kcL.getD o [], (p.2 = .int (pm_kcI p.2) ∧ pm_has (pm_q pm_qkc o p.1) (.constant (pm_ow o) p.1 (pm_kcI p.2)) = true) ∨ ∃ j : Fin 3, p.2 = .ref (4001 + j.val) ∧ (o, p.1) = ([(6, 97), (12, 107), (12, 145)].getD j.val (0, 0)) := by decide +kernel
theorem pm_s11 : ∀ o, o < 17 → ∀ p ∈ pm_klL.getD o [], pm_has (pm_q pm_qkl o p.1) (.constantLong (pm_ow o) p.1 p.2) = true := by decide +kernel
theorem pm_s12 : pm_has 1083 (.arrayClass .int) = true ∧ pm_has 2135 (.arrayClass .long) = true ∧ pm_has 6216 (.arrayClass .boolean) = true := by decide +kernel
