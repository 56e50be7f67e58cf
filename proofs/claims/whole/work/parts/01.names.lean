-- ===== PART A: goes FIRST, ahead of the names: the tables' words, and 'selects' of the private methods out of them =====
/-- a private method of a class that the tables say can be made, by its rows of tables_1 -/
def lw_okq (q : MethodName × Nat) : Prop := (q.1.cls ≠ "java/lang/invoke/MethodHandle" ∧ q.1.cls ≠ "java/lang/invoke/VarHandle") ∧ Cond.instantiable q.1.cls q.2 ∈ tables_1 ∧ Cond.privateMethod q.1 ∈ tables_1 ∧ Cond.instanceMethod q.1 ∈ tables_1
theorem lw_p0 : lw_okq (⟨"ToyPitch$Reader", "learn", "(Ljava/lang/String;I)V"⟩, 10) := ⟨⟨by decide +kernel, by decide +kernel⟩, List.mem_of_getElem? (i := 29) (by decide +kernel), List.mem_of_getElem? (i := 36) (by decide +kernel), List.mem_of_getElem? (i := 37) (by decide +kernel)⟩
theorem lw_p1 : lw_okq (⟨"ToyPitch", "finding", "(I)I"⟩, 12) := ⟨⟨by decide +kernel, by decide +kernel⟩, List.mem_of_getElem? (i := 21) (by decide +kernel), List.mem_of_getElem? (i := 532) (by decide +kernel), List.mem_of_getElem? (i := 533) (by decide +kernel)⟩
theorem lw_p2 : lw_okq (⟨"ToyPitch$Reader", "split", "()V"⟩, 10) := ⟨⟨by decide +kernel, by decide +kernel⟩, List.mem_of_getElem? (i := 29) (by decide +kernel), List.mem_of_getElem? (i := 556) (by decide +kernel), List.mem_of_getElem? (i := 557) (by decide +kernel)⟩
theorem lw_p3 : lw_okq (⟨"ToyPitch$Reader", "splitName", "(I)I"⟩, 10) := ⟨⟨by decide +kernel, by decide +kernel⟩, List.mem_of_getElem? (i := 29) (by decide +kernel), List.mem_of_getElem? (i := 564) (by decide +kernel), List.mem_of_getElem? (i := 565) (by decide +kernel)⟩
theorem lw_p4 : lw_okq (⟨"ToyPitch$Reader", "kindOf", "(J)I"⟩, 10) := ⟨⟨by decide +kernel, by decide +kernel⟩, List.mem_of_getElem? (i := 29) (by decide +kernel), List.mem_of_getElem? (i := 568) (by decide +kernel), List.mem_of_getElem? (i := 569) (by decide +kernel)⟩
theorem lw_p5 : lw_okq (⟨"ToyPitch$Reader", "addWord", "(IJI)V"⟩, 10) := ⟨⟨by decide +kernel, by decide +kernel⟩, List.mem_of_getElem? (i := 29) (by decide +kernel), List.mem_of_getElem? (i := 572) (by decide +kernel), List.mem_of_getElem? (i := 573) (by decide +kernel)⟩
theorem lw_p6 : lw_okq (⟨"ToyPitch$Reader", "splitNumber", "(I)I"⟩, 10) := ⟨⟨by decide +kernel, by decide +kernel⟩, List.mem_of_getElem? (i := 29) (by decide +kernel), List.mem_of_getElem? (i := 582) (by decide +kernel), List.mem_of_getElem? (i := 583) (by decide +kernel)⟩
theorem lw_p7 : lw_okq (⟨"ToyPitch$Reader", "splitSign", "(II)V"⟩, 10) := ⟨⟨by decide +kernel, by decide +kernel⟩, List.mem_of_getElem? (i := 29) (by decide +kernel), List.mem_of_getElem? (i := 592) (by decide +kernel), List.mem_of_getElem? (i := 593) (by decide +kernel)⟩
theorem lw_p8 : lw_okq (⟨"ToyPitch$Reader", "kind", "()I"⟩, 10) := ⟨⟨by decide +kernel, by decide +kernel⟩, List.mem_of_getElem? (i := 29) (by decide +kernel), List.mem_of_getElem? (i := 652) (by decide +kernel), List.mem_of_getElem? (i := 653) (by decide +kernel)⟩
theorem lw_p9 : lw_okq (⟨"ToyPitch$Reader", "refuse", "()V"⟩, 10) := ⟨⟨by decide +kernel, by decide +kernel⟩, List.mem_of_getElem? (i := 29) (by decide +kernel), List.mem_of_getElem? (i := 656) (by decide +kernel), List.mem_of_getElem? (i := 657) (by decide +kernel)⟩
theorem lw_p10 : lw_okq (⟨"ToyPitch$Reader", "take", "(II)I"⟩, 10) := ⟨⟨by decide +kernel, by decide +kernel⟩, List.mem_of_getElem? (i := 29) (by decide +kernel), List.mem_of_getElem? (i := 660) (by decide +kernel), List.mem_of_getElem? (i := 661) (by decide +kernel)⟩
theorem lw_p11 : lw_okq (⟨"ToyPitch$Reader", "readRule", "(LToyPitch$Program;)V"⟩, 10) := ⟨⟨by decide +kernel, by decide +kernel⟩, List.mem_of_getElem? (i := 29) (by decide +kernel), List.mem_of_getElem? (i := 668) (by decide +kernel), List.mem_of_getElem? (i := 669) (by decide +kernel)⟩
theorem lw_p12 : lw_okq (⟨"ToyPitch$Reader", "readSum", "(LToyPitch$Program;)V"⟩, 10) := ⟨⟨by decide +kernel, by decide +kernel⟩, List.mem_of_getElem? (i := 29) (by decide +kernel), List.mem_of_getElem? (i := 672) (by decide +kernel), List.mem_of_getElem? (i := 673) (by decide +kernel)⟩
theorem lw_p13 : lw_okq (⟨"ToyPitch$Reader", "readTerm", "(LToyPitch$Program;I)V"⟩, 10) := ⟨⟨by decide +kernel, by decide +kernel⟩, List.mem_of_getElem? (i := 29) (by decide +kernel), List.mem_of_getElem? (i := 676) (by decide +kernel), List.mem_of_getElem? (i := 677) (by decide +kernel)⟩
theorem lw_p14 : lw_okq (⟨"ToyPitch$Reader", "readAct", "(LToyPitch$Program;)V"⟩, 10) := ⟨⟨by decide +kernel, by decide +kernel⟩, List.mem_of_getElem? (i := 29) (by decide +kernel), List.mem_of_getElem? (i := 696) (by decide +kernel), List.mem_of_getElem? (i := 697) (by decide +kernel)⟩
theorem lw_p15 : lw_okq (⟨"ToyPitch$Reader", "judgeNames", "(LToyPitch$Program;)V"⟩, 10) := ⟨⟨by decide +kernel, by decide +kernel⟩, List.mem_of_getElem? (i := 29) (by decide +kernel), List.mem_of_getElem? (i := 712) (by decide +kernel), List.mem_of_getElem? (i := 713) (by decide +kernel)⟩
def lw_privs_1 : List (MethodName × Nat) := [(⟨"ToyPitch$Reader", "learn", "(Ljava/lang/String;I)V"⟩, 10), (⟨"ToyPitch", "finding", "(I)I"⟩, 12), (⟨"ToyPitch$Reader", "split", "()V"⟩, 10), (⟨"ToyPitch$Reader", "splitName", "(I)I"⟩, 10), (⟨"ToyPitch$Reader", "kindOf", "(J)I"⟩, 10), (⟨"ToyPitch$Reader", "addWord", "(IJI)V"⟩, 10), (⟨"ToyPitch$Reader", "splitNumber", "(I)I"⟩, 10), (⟨"ToyPitch$Reader", "splitSign", "(II)V"⟩, 10), (⟨"ToyPitch$Reader", "kind", "()I"⟩, 10), (⟨"ToyPitch$Reader", "refuse", "()V"⟩, 10), (⟨"ToyPitch$Reader", "take", "(II)I"⟩, 10), (⟨"ToyPitch$Reader", "readRule", "(LToyPitch$Program;)V"⟩, 10), (⟨"ToyPitch$Reader", "readSum", "(LToyPitch$Program;)V"⟩, 10), (⟨"ToyPitch$Reader", "readTerm", "(LToyPitch$Program;I)V"⟩, 10), (⟨"ToyPitch$Reader", "readAct", "(LToyPitch$Program;)V"⟩, 10), (⟨"ToyPitch$Reader", "judgeNames", "(LToyPitch$Program;)V"⟩, 10)]
theorem lw_r1 : ∀ q ∈ lw_privs_1, lw_okq q := List.forall_mem_cons.mpr ⟨lw_p0, List.forall_mem_cons.mpr ⟨lw_p1, List.forall_mem_cons.mpr ⟨lw_p2, List.forall_mem_cons.mpr ⟨lw_p3, List.forall_mem_cons.mpr ⟨lw_p4, List.forall_mem_cons.mpr ⟨lw_p5, List.forall_mem_cons.mpr ⟨lw_p6, List.forall_mem_cons.mpr ⟨lw_p7, List.forall_mem_cons.mpr ⟨lw_p8, List.forall_mem_cons.mpr ⟨lw_p9, List.forall_mem_cons.mpr ⟨lw_p10, List.forall_mem_cons.mpr ⟨lw_p11, List.forall_mem_cons.mpr ⟨lw_p12, List.forall_mem_cons.mpr ⟨lw_p13, List.forall_mem_cons.mpr ⟨lw_p14, List.forall_mem_cons.mpr ⟨lw_p15, fun _ h => absurd h List.not_mem_nil⟩⟩⟩⟩⟩⟩⟩⟩⟩⟩⟩⟩⟩⟩⟩⟩
theorem lw_p16 : lw_okq (⟨"ToyPitch$Match", "kickOff", "()V"⟩, 10) := ⟨⟨by decide +kernel, by decide +kernel⟩, List.mem_of_getElem? (i := 269) (by decide +kernel), List.mem_of_getElem? (i := 767) (by decide +kernel), List.mem_of_getElem? (i := 768) (by decide +kernel)⟩
theorem lw_p17 : lw_okq (⟨"ToyPitch$Match", "putAtStart", "(I)V"⟩, 10) := ⟨⟨by decide +kernel, by decide +kernel⟩, List.mem_of_getElem? (i := 269) (by decide +kernel), List.mem_of_getElem? (i := 788) (by decide +kernel), List.mem_of_getElem? (i := 789) (by decide +kernel)⟩
theorem lw_p18 : lw_okq (⟨"ToyPitch$Match", "freeCell", "(II)I"⟩, 10) := ⟨⟨by decide +kernel, by decide +kernel⟩, List.mem_of_getElem? (i := 269) (by decide +kernel), List.mem_of_getElem? (i := 792) (by decide +kernel), List.mem_of_getElem? (i := 793) (by decide +kernel)⟩
theorem lw_p19 : lw_okq (⟨"ToyPitch$Match", "robotIn", "(II)I"⟩, 10) := ⟨⟨by decide +kernel, by decide +kernel⟩, List.mem_of_getElem? (i := 269) (by decide +kernel), List.mem_of_getElem? (i := 796) (by decide +kernel), List.mem_of_getElem? (i := 797) (by decide +kernel)⟩
theorem lw_p20 : lw_okq (⟨"ToyPitch$Match", "putBall", "()V"⟩, 10) := ⟨⟨by decide +kernel, by decide +kernel⟩, List.mem_of_getElem? (i := 269) (by decide +kernel), List.mem_of_getElem? (i := 811) (by decide +kernel), List.mem_of_getElem? (i := 812) (by decide +kernel)⟩
theorem lw_p21 : lw_okq (⟨"ToyPitch$Match", "think", "(I)V"⟩, 10) := ⟨⟨by decide +kernel, by decide +kernel⟩, List.mem_of_getElem? (i := 269) (by decide +kernel), List.mem_of_getElem? (i := 846) (by decide +kernel), List.mem_of_getElem? (i := 847) (by decide +kernel)⟩
theorem lw_p22 : lw_okq (⟨"ToyPitch$Match", "sense", "(LToyPitch$Robot;I)V"⟩, 10) := ⟨⟨by decide +kernel, by decide +kernel⟩, List.mem_of_getElem? (i := 269) (by decide +kernel), List.mem_of_getElem? (i := 863) (by decide +kernel), List.mem_of_getElem? (i := 864) (by decide +kernel)⟩
theorem lw_p23 : lw_okq (⟨"ToyPitch$Match", "holding", "(I)I"⟩, 10) := ⟨⟨by decide +kernel, by decide +kernel⟩, List.mem_of_getElem? (i := 269) (by decide +kernel), List.mem_of_getElem? (i := 870) (by decide +kernel), List.mem_of_getElem? (i := 871) (by decide +kernel)⟩
theorem lw_p24 : lw_okq (⟨"ToyPitch$Runner", "allHold", "(LToyPitch$Program;I[I)Z"⟩, 3) := ⟨⟨by decide +kernel, by decide +kernel⟩, List.mem_of_getElem? (i := 275) (by decide +kernel), List.mem_of_getElem? (i := 879) (by decide +kernel), List.mem_of_getElem? (i := 880) (by decide +kernel)⟩
theorem lw_p25 : lw_okq (⟨"ToyPitch$Runner", "work", "(LToyPitch$Program;I[I)I"⟩, 3) := ⟨⟨by decide +kernel, by decide +kernel⟩, List.mem_of_getElem? (i := 275) (by decide +kernel), List.mem_of_getElem? (i := 883) (by decide +kernel), List.mem_of_getElem? (i := 884) (by decide +kernel)⟩
theorem lw_p26 : lw_okq (⟨"ToyPitch$Runner", "doActs", "(LToyPitch$Program;ILToyPitch$Robot;)Z"⟩, 3) := ⟨⟨by decide +kernel, by decide +kernel⟩, List.mem_of_getElem? (i := 275) (by decide +kernel), List.mem_of_getElem? (i := 887) (by decide +kernel), List.mem_of_getElem? (i := 888) (by decide +kernel)⟩
theorem lw_p27 : lw_okq (⟨"ToyPitch$Runner", "command", "(LToyPitch$Program;IILToyPitch$Robot;)V"⟩, 3) := ⟨⟨by decide +kernel, by decide +kernel⟩, List.mem_of_getElem? (i := 275) (by decide +kernel), List.mem_of_getElem? (i := 892) (by decide +kernel), List.mem_of_getElem? (i := 893) (by decide +kernel)⟩
theorem lw_p28 : lw_okq (⟨"ToyPitch$Match", "doCommand", "(I)V"⟩, 10) := ⟨⟨by decide +kernel, by decide +kernel⟩, List.mem_of_getElem? (i := 269) (by decide +kernel), List.mem_of_getElem? (i := 903) (by decide +kernel), List.mem_of_getElem? (i := 904) (by decide +kernel)⟩
theorem lw_p29 : lw_okq (⟨"ToyPitch$Match", "move", "(LToyPitch$Robot;I)V"⟩, 10) := ⟨⟨by decide +kernel, by decide +kernel⟩, List.mem_of_getElem? (i := 269) (by decide +kernel), List.mem_of_getElem? (i := 907) (by decide +kernel), List.mem_of_getElem? (i := 908) (by decide +kernel)⟩
theorem lw_p30 : lw_okq (⟨"ToyPitch$Match", "roll", "()I"⟩, 10) := ⟨⟨by decide +kernel, by decide +kernel⟩, List.mem_of_getElem? (i := 269) (by decide +kernel), List.mem_of_getElem? (i := 916) (by decide +kernel), List.mem_of_getElem? (i := 917) (by decide +kernel)⟩
theorem lw_p31 : lw_okq (⟨"ToyPitch$Match", "arrive", "(II)V"⟩, 10) := ⟨⟨by decide +kernel, by decide +kernel⟩, List.mem_of_getElem? (i := 269) (by decide +kernel), List.mem_of_getElem? (i := 920) (by decide +kernel), List.mem_of_getElem? (i := 921) (by decide +kernel)⟩
def lw_privs_2 : List (MethodName × Nat) := [(⟨"ToyPitch$Match", "kickOff", "()V"⟩, 10), (⟨"ToyPitch$Match", "putAtStart", "(I)V"⟩, 10), (⟨"ToyPitch$Match", "freeCell", "(II)I"⟩, 10), (⟨"ToyPitch$Match", "robotIn", "(II)I"⟩, 10), (⟨"ToyPitch$Match", "putBall", "()V"⟩, 10), (⟨"ToyPitch$Match", "think", "(I)V"⟩, 10), (⟨"ToyPitch$Match", "sense", "(LToyPitch$Robot;I)V"⟩, 10), (⟨"ToyPitch$Match", "holding", "(I)I"⟩, 10), (⟨"ToyPitch$Runner", "allHold", "(LToyPitch$Program;I[I)Z"⟩, 3), (⟨"ToyPitch$Runner", "work", "(LToyPitch$Program;I[I)I"⟩, 3), (⟨"ToyPitch$Runner", "doActs", "(LToyPitch$Program;ILToyPitch$Robot;)Z"⟩, 3), (⟨"ToyPitch$Runner", "command", "(LToyPitch$Program;IILToyPitch$Robot;)V"⟩, 3), (⟨"ToyPitch$Match", "doCommand", "(I)V"⟩, 10), (⟨"ToyPitch$Match", "move", "(LToyPitch$Robot;I)V"⟩, 10), (⟨"ToyPitch$Match", "roll", "()I"⟩, 10), (⟨"ToyPitch$Match", "arrive", "(II)V"⟩, 10)]
theorem lw_r2 : ∀ q ∈ lw_privs_2, lw_okq q := List.forall_mem_cons.mpr ⟨lw_p16, List.forall_mem_cons.mpr ⟨lw_p17, List.forall_mem_cons.mpr ⟨lw_p18, List.forall_mem_cons.mpr ⟨lw_p19, List.forall_mem_cons.mpr ⟨lw_p20, List.forall_mem_cons.mpr ⟨lw_p21, List.forall_mem_cons.mpr ⟨lw_p22, List.forall_mem_cons.mpr ⟨lw_p23, List.forall_mem_cons.mpr ⟨lw_p24, List.forall_mem_cons.mpr ⟨lw_p25, List.forall_mem_cons.mpr ⟨lw_p26, List.forall_mem_cons.mpr ⟨lw_p27, List.forall_mem_cons.mpr ⟨lw_p28, List.forall_mem_cons.mpr ⟨lw_p29, List.forall_mem_cons.mpr ⟨lw_p30, List.forall_mem_cons.mpr ⟨lw_p31, fun _ h => absurd h List.not_mem_nil⟩⟩⟩⟩⟩⟩⟩⟩⟩⟩⟩⟩⟩⟩⟩⟩
theorem lw_p32 : lw_okq (⟨"ToyPitch$Match", "applyLaws", "(I)I"⟩, 10) := ⟨⟨by decide +kernel, by decide +kernel⟩, List.mem_of_getElem? (i := 269) (by decide +kernel), List.mem_of_getElem? (i := 924) (by decide +kernel), List.mem_of_getElem? (i := 925) (by decide +kernel)⟩
theorem lw_p33 : lw_okq (⟨"ToyPitch$Match", "giveToFoe", "()V"⟩, 10) := ⟨⟨by decide +kernel, by decide +kernel⟩, List.mem_of_getElem? (i := 269) (by decide +kernel), List.mem_of_getElem? (i := 937) (by decide +kernel), List.mem_of_getElem? (i := 938) (by decide +kernel)⟩
theorem lw_p34 : lw_okq (⟨"ToyPitch$Match", "thinsCrowd", "(Z)Z"⟩, 10) := ⟨⟨by decide +kernel, by decide +kernel⟩, List.mem_of_getElem? (i := 269) (by decide +kernel), List.mem_of_getElem? (i := 941) (by decide +kernel), List.mem_of_getElem? (i := 942) (by decide +kernel)⟩
theorem lw_p35 : lw_okq (⟨"ToyPitch$League", "enterFor", "(III)V"⟩, 4) := ⟨⟨by decide +kernel, by decide +kernel⟩, List.mem_of_getElem? (i := 133) (by decide +kernel), List.mem_of_getElem? (i := 1059) (by decide +kernel), List.mem_of_getElem? (i := 1060) (by decide +kernel)⟩
theorem lw_p36 : lw_okq (⟨"ToyPitch$League", "isAhead", "(II)Z"⟩, 4) := ⟨⟨by decide +kernel, by decide +kernel⟩, List.mem_of_getElem? (i := 133) (by decide +kernel), List.mem_of_getElem? (i := 1081) (by decide +kernel), List.mem_of_getElem? (i := 1082) (by decide +kernel)⟩
theorem lw_p37 : lw_okq (⟨"ToyPitchModel", "finding", "(I)I"⟩, 48) := ⟨⟨by decide +kernel, by decide +kernel⟩, List.mem_of_getElem? (i := 1108) (by decide +kernel), List.mem_of_getElem? (i := 1106) (by decide +kernel), List.mem_of_getElem? (i := 1107) (by decide +kernel)⟩
theorem lw_p38 : lw_okq (⟨"ToyPitchModel", "word", "()V"⟩, 48) := ⟨⟨by decide +kernel, by decide +kernel⟩, List.mem_of_getElem? (i := 1108) (by decide +kernel), List.mem_of_getElem? (i := 1116) (by decide +kernel), List.mem_of_getElem? (i := 1117) (by decide +kernel)⟩
theorem lw_p39 : lw_okq (⟨"ToyPitchModel", "at", "(I)I"⟩, 48) := ⟨⟨by decide +kernel, by decide +kernel⟩, List.mem_of_getElem? (i := 1108) (by decide +kernel), List.mem_of_getElem? (i := 1120) (by decide +kernel), List.mem_of_getElem? (i := 1121) (by decide +kernel)⟩
theorem lw_p40 : lw_okq (⟨"ToyPitchModel", "letters", "()V"⟩, 48) := ⟨⟨by decide +kernel, by decide +kernel⟩, List.mem_of_getElem? (i := 1108) (by decide +kernel), List.mem_of_getElem? (i := 1127) (by decide +kernel), List.mem_of_getElem? (i := 1128) (by decide +kernel)⟩
theorem lw_p41 : lw_okq (⟨"ToyPitchModel", "findWord", "()V"⟩, 48) := ⟨⟨by decide +kernel, by decide +kernel⟩, List.mem_of_getElem? (i := 1108) (by decide +kernel), List.mem_of_getElem? (i := 1133) (by decide +kernel), List.mem_of_getElem? (i := 1134) (by decide +kernel)⟩
theorem lw_p42 : lw_okq (⟨"ToyPitchModel", "figures", "()V"⟩, 48) := ⟨⟨by decide +kernel, by decide +kernel⟩, List.mem_of_getElem? (i := 1108) (by decide +kernel), List.mem_of_getElem? (i := 1162) (by decide +kernel), List.mem_of_getElem? (i := 1163) (by decide +kernel)⟩
theorem lw_p43 : lw_okq (⟨"ToyPitchModel", "state", "()Z"⟩, 48) := ⟨⟨by decide +kernel, by decide +kernel⟩, List.mem_of_getElem? (i := 1108) (by decide +kernel), List.mem_of_getElem? (i := 1169) (by decide +kernel), List.mem_of_getElem? (i := 1170) (by decide +kernel)⟩
theorem lw_p44 : lw_okq (⟨"ToyPitchModel", "wrong", "()Z"⟩, 48) := ⟨⟨by decide +kernel, by decide +kernel⟩, List.mem_of_getElem? (i := 1108) (by decide +kernel), List.mem_of_getElem? (i := 1173) (by decide +kernel), List.mem_of_getElem? (i := 1174) (by decide +kernel)⟩
theorem lw_p45 : lw_okq (⟨"ToyPitchModel", "keepWord", "()Z"⟩, 48) := ⟨⟨by decide +kernel, by decide +kernel⟩, List.mem_of_getElem? (i := 1108) (by decide +kernel), List.mem_of_getElem? (i := 1177) (by decide +kernel), List.mem_of_getElem? (i := 1178) (by decide +kernel)⟩
theorem lw_p46 : lw_okq (⟨"ToyPitchModel", "name", "(Z)Z"⟩, 48) := ⟨⟨by decide +kernel, by decide +kernel⟩, List.mem_of_getElem? (i := 1108) (by decide +kernel), List.mem_of_getElem? (i := 1181) (by decide +kernel), List.mem_of_getElem? (i := 1182) (by decide +kernel)⟩
theorem lw_p47 : lw_okq (⟨"ToyPitchModel", "is", "(I)Z"⟩, 48) := ⟨⟨by decide +kernel, by decide +kernel⟩, List.mem_of_getElem? (i := 1108) (by decide +kernel), List.mem_of_getElem? (i := 1185) (by decide +kernel), List.mem_of_getElem? (i := 1186) (by decide +kernel)⟩
def lw_privs_3 : List (MethodName × Nat) := [(⟨"ToyPitch$Match", "applyLaws", "(I)I"⟩, 10), (⟨"ToyPitch$Match", "giveToFoe", "()V"⟩, 10), (⟨"ToyPitch$Match", "thinsCrowd", "(Z)Z"⟩, 10), (⟨"ToyPitch$League", "enterFor", "(III)V"⟩, 4), (⟨"ToyPitch$League", "isAhead", "(II)Z"⟩, 4), (⟨"ToyPitchModel", "finding", "(I)I"⟩, 48), (⟨"ToyPitchModel", "word", "()V"⟩, 48), (⟨"ToyPitchModel", "at", "(I)I"⟩, 48), (⟨"ToyPitchModel", "letters", "()V"⟩, 48), (⟨"ToyPitchModel", "findWord", "()V"⟩, 48), (⟨"ToyPitchModel", "figures", "()V"⟩, 48), (⟨"ToyPitchModel", "state", "()Z"⟩, 48), (⟨"ToyPitchModel", "wrong", "()Z"⟩, 48), (⟨"ToyPitchModel", "keepWord", "()Z"⟩, 48), (⟨"ToyPitchModel", "name", "(Z)Z"⟩, 48), (⟨"ToyPitchModel", "is", "(I)Z"⟩, 48)]
theorem lw_r3 : ∀ q ∈ lw_privs_3, lw_okq q := List.forall_mem_cons.mpr ⟨lw_p32, List.forall_mem_cons.mpr ⟨lw_p33, List.forall_mem_cons.mpr ⟨lw_p34, List.forall_mem_cons.mpr ⟨lw_p35, List.forall_mem_cons.mpr ⟨lw_p36, List.forall_mem_cons.mpr ⟨lw_p37, List.forall_mem_cons.mpr ⟨lw_p38, List.forall_mem_cons.mpr ⟨lw_p39, List.forall_mem_cons.mpr ⟨lw_p40, List.forall_mem_cons.mpr ⟨lw_p41, List.forall_mem_cons.mpr ⟨lw_p42, List.forall_mem_cons.mpr ⟨lw_p43, List.forall_mem_cons.mpr ⟨lw_p44, List.forall_mem_cons.mpr ⟨lw_p45, List.forall_mem_cons.mpr ⟨lw_p46, List.forall_mem_cons.mpr ⟨lw_p47, fun _ h => absurd h List.not_mem_nil⟩⟩⟩⟩⟩⟩⟩⟩⟩⟩⟩⟩⟩⟩⟩⟩
theorem lw_p48 : lw_okq (⟨"ToyPitchModel", "rule", "()Z"⟩, 48) := ⟨⟨by decide +kernel, by decide +kernel⟩, List.mem_of_getElem? (i := 1108) (by decide +kernel), List.mem_of_getElem? (i := 1189) (by decide +kernel), List.mem_of_getElem? (i := 1190) (by decide +kernel)⟩
theorem lw_p49 : lw_okq (⟨"ToyPitchModel", "test", "()Z"⟩, 48) := ⟨⟨by decide +kernel, by decide +kernel⟩, List.mem_of_getElem? (i := 1108) (by decide +kernel), List.mem_of_getElem? (i := 1193) (by decide +kernel), List.mem_of_getElem? (i := 1194) (by decide +kernel)⟩
theorem lw_p50 : lw_okq (⟨"ToyPitchModel", "sum", "()Z"⟩, 48) := ⟨⟨by decide +kernel, by decide +kernel⟩, List.mem_of_getElem? (i := 1108) (by decide +kernel), List.mem_of_getElem? (i := 1197) (by decide +kernel), List.mem_of_getElem? (i := 1198) (by decide +kernel)⟩
theorem lw_p51 : lw_okq (⟨"ToyPitchModel", "product", "()Z"⟩, 48) := ⟨⟨by decide +kernel, by decide +kernel⟩, List.mem_of_getElem? (i := 1108) (by decide +kernel), List.mem_of_getElem? (i := 1201) (by decide +kernel), List.mem_of_getElem? (i := 1202) (by decide +kernel)⟩
theorem lw_p52 : lw_okq (⟨"ToyPitchModel", "term", "()Z"⟩, 48) := ⟨⟨by decide +kernel, by decide +kernel⟩, List.mem_of_getElem? (i := 1108) (by decide +kernel), List.mem_of_getElem? (i := 1205) (by decide +kernel), List.mem_of_getElem? (i := 1206) (by decide +kernel)⟩
theorem lw_p53 : lw_okq (⟨"ToyPitchModel", "act", "()Z"⟩, 48) := ⟨⟨by decide +kernel, by decide +kernel⟩, List.mem_of_getElem? (i := 1108) (by decide +kernel), List.mem_of_getElem? (i := 1209) (by decide +kernel), List.mem_of_getElem? (i := 1210) (by decide +kernel)⟩
theorem lw_p54 : lw_okq (⟨"ToyPitchModel", "findNames", "()V"⟩, 48) := ⟨⟨by decide +kernel, by decide +kernel⟩, List.mem_of_getElem? (i := 1108) (by decide +kernel), List.mem_of_getElem? (i := 1213) (by decide +kernel), List.mem_of_getElem? (i := 1214) (by decide +kernel)⟩
theorem lw_p55 : lw_okq (⟨"ToyPitchModel", "beginMatch", "(II)V"⟩, 48) := ⟨⟨by decide +kernel, by decide +kernel⟩, List.mem_of_getElem? (i := 1108) (by decide +kernel), List.mem_of_getElem? (i := 1394) (by decide +kernel), List.mem_of_getElem? (i := 1395) (by decide +kernel)⟩
theorem lw_p56 : lw_okq (⟨"ToyPitchModel", "kickOff", "(I)V"⟩, 48) := ⟨⟨by decide +kernel, by decide +kernel⟩, List.mem_of_getElem? (i := 1108) (by decide +kernel), List.mem_of_getElem? (i := 1398) (by decide +kernel), List.mem_of_getElem? (i := 1399) (by decide +kernel)⟩
theorem lw_p57 : lw_okq (⟨"ToyPitchModel", "set", "(III)V"⟩, 48) := ⟨⟨by decide +kernel, by decide +kernel⟩, List.mem_of_getElem? (i := 1108) (by decide +kernel), List.mem_of_getElem? (i := 1402) (by decide +kernel), List.mem_of_getElem? (i := 1403) (by decide +kernel)⟩
theorem lw_p58 : lw_okq (⟨"ToyPitchModel", "putAtStart", "(I)V"⟩, 48) := ⟨⟨by decide +kernel, by decide +kernel⟩, List.mem_of_getElem? (i := 1108) (by decide +kernel), List.mem_of_getElem? (i := 1406) (by decide +kernel), List.mem_of_getElem? (i := 1407) (by decide +kernel)⟩
theorem lw_p59 : lw_okq (⟨"ToyPitchModel", "of", "(II)I"⟩, 48) := ⟨⟨by decide +kernel, by decide +kernel⟩, List.mem_of_getElem? (i := 1108) (by decide +kernel), List.mem_of_getElem? (i := 1410) (by decide +kernel), List.mem_of_getElem? (i := 1411) (by decide +kernel)⟩
theorem lw_p60 : lw_okq (⟨"ToyPitchModel", "findPut", "(III)V"⟩, 48) := ⟨⟨by decide +kernel, by decide +kernel⟩, List.mem_of_getElem? (i := 1108) (by decide +kernel), List.mem_of_getElem? (i := 1414) (by decide +kernel), List.mem_of_getElem? (i := 1415) (by decide +kernel)⟩
theorem lw_p61 : lw_okq (⟨"ToyPitchModel", "robotAt", "(III)I"⟩, 48) := ⟨⟨by decide +kernel, by decide +kernel⟩, List.mem_of_getElem? (i := 1108) (by decide +kernel), List.mem_of_getElem? (i := 1418) (by decide +kernel), List.mem_of_getElem? (i := 1419) (by decide +kernel)⟩
theorem lw_p62 : lw_okq (⟨"ToyPitchModel", "lay", "()V"⟩, 48) := ⟨⟨by decide +kernel, by decide +kernel⟩, List.mem_of_getElem? (i := 1108) (by decide +kernel), List.mem_of_getElem? (i := 1427) (by decide +kernel), List.mem_of_getElem? (i := 1428) (by decide +kernel)⟩
theorem lw_p63 : lw_okq (⟨"ToyPitchModel", "stopBall", "()V"⟩, 48) := ⟨⟨by decide +kernel, by decide +kernel⟩, List.mem_of_getElem? (i := 1108) (by decide +kernel), List.mem_of_getElem? (i := 1431) (by decide +kernel), List.mem_of_getElem? (i := 1432) (by decide +kernel)⟩
def lw_privs_4 : List (MethodName × Nat) := [(⟨"ToyPitchModel", "rule", "()Z"⟩, 48), (⟨"ToyPitchModel", "test", "()Z"⟩, 48), (⟨"ToyPitchModel", "sum", "()Z"⟩, 48), (⟨"ToyPitchModel", "product", "()Z"⟩, 48), (⟨"ToyPitchModel", "term", "()Z"⟩, 48), (⟨"ToyPitchModel", "act", "()Z"⟩, 48), (⟨"ToyPitchModel", "findNames", "()V"⟩, 48), (⟨"ToyPitchModel", "beginMatch", "(II)V"⟩, 48), (⟨"ToyPitchModel", "kickOff", "(I)V"⟩, 48), (⟨"ToyPitchModel", "set", "(III)V"⟩, 48), (⟨"ToyPitchModel", "putAtStart", "(I)V"⟩, 48), (⟨"ToyPitchModel", "of", "(II)I"⟩, 48), (⟨"ToyPitchModel", "findPut", "(III)V"⟩, 48), (⟨"ToyPitchModel", "robotAt", "(III)I"⟩, 48), (⟨"ToyPitchModel", "lay", "()V"⟩, 48), (⟨"ToyPitchModel", "stopBall", "()V"⟩, 48)]
theorem lw_r4 : ∀ q ∈ lw_privs_4, lw_okq q := List.forall_mem_cons.mpr ⟨lw_p48, List.forall_mem_cons.mpr ⟨lw_p49, List.forall_mem_cons.mpr ⟨lw_p50, List.forall_mem_cons.mpr ⟨lw_p51, List.forall_mem_cons.mpr ⟨lw_p52, List.forall_mem_cons.mpr ⟨lw_p53, List.forall_mem_cons.mpr ⟨lw_p54, List.forall_mem_cons.mpr ⟨lw_p55, List.forall_mem_cons.mpr ⟨lw_p56, List.forall_mem_cons.mpr ⟨lw_p57, List.forall_mem_cons.mpr ⟨lw_p58, List.forall_mem_cons.mpr ⟨lw_p59, List.forall_mem_cons.mpr ⟨lw_p60, List.forall_mem_cons.mpr ⟨lw_p61, List.forall_mem_cons.mpr ⟨lw_p62, List.forall_mem_cons.mpr ⟨lw_p63, fun _ h => absurd h List.not_mem_nil⟩⟩⟩⟩⟩⟩⟩⟩⟩⟩⟩⟩⟩⟩⟩⟩
theorem lw_p64 : lw_okq (⟨"ToyPitchModel", "isMatch", "()Z"⟩, 48) := ⟨⟨by decide +kernel, by decide +kernel⟩, List.mem_of_getElem? (i := 1108) (by decide +kernel), List.mem_of_getElem? (i := 1439) (by decide +kernel), List.mem_of_getElem? (i := 1440) (by decide +kernel)⟩
theorem lw_p65 : lw_okq (⟨"ToyPitchModel", "tickOnce", "()I"⟩, 48) := ⟨⟨by decide +kernel, by decide +kernel⟩, List.mem_of_getElem? (i := 1108) (by decide +kernel), List.mem_of_getElem? (i := 1443) (by decide +kernel), List.mem_of_getElem? (i := 1444) (by decide +kernel)⟩
theorem lw_p66 : lw_okq (⟨"ToyPitchModel", "run", "(I)V"⟩, 48) := ⟨⟨by decide +kernel, by decide +kernel⟩, List.mem_of_getElem? (i := 1108) (by decide +kernel), List.mem_of_getElem? (i := 1447) (by decide +kernel), List.mem_of_getElem? (i := 1448) (by decide +kernel)⟩
theorem lw_p67 : lw_okq (⟨"ToyPitchModel", "see", "(I)V"⟩, 48) := ⟨⟨by decide +kernel, by decide +kernel⟩, List.mem_of_getElem? (i := 1108) (by decide +kernel), List.mem_of_getElem? (i := 1451) (by decide +kernel), List.mem_of_getElem? (i := 1452) (by decide +kernel)⟩
theorem lw_p68 : lw_okq (⟨"ToyPitchModel", "goes", "(IIII)V"⟩, 48) := ⟨⟨by decide +kernel, by decide +kernel⟩, List.mem_of_getElem? (i := 1108) (by decide +kernel), List.mem_of_getElem? (i := 1455) (by decide +kernel), List.mem_of_getElem? (i := 1456) (by decide +kernel)⟩
theorem lw_p69 : lw_okq (⟨"ToyPitchModel", "runRules", "()V"⟩, 48) := ⟨⟨by decide +kernel, by decide +kernel⟩, List.mem_of_getElem? (i := 1108) (by decide +kernel), List.mem_of_getElem? (i := 1462) (by decide +kernel), List.mem_of_getElem? (i := 1463) (by decide +kernel)⟩
theorem lw_p70 : lw_okq (⟨"ToyPitchModel", "here", "()I"⟩, 48) := ⟨⟨by decide +kernel, by decide +kernel⟩, List.mem_of_getElem? (i := 1108) (by decide +kernel), List.mem_of_getElem? (i := 1466) (by decide +kernel), List.mem_of_getElem? (i := 1467) (by decide +kernel)⟩
theorem lw_p71 : lw_okq (⟨"ToyPitchModel", "testHolds", "()Z"⟩, 48) := ⟨⟨by decide +kernel, by decide +kernel⟩, List.mem_of_getElem? (i := 1108) (by decide +kernel), List.mem_of_getElem? (i := 1470) (by decide +kernel), List.mem_of_getElem? (i := 1471) (by decide +kernel)⟩
theorem lw_p72 : lw_okq (⟨"ToyPitchModel", "step", "()V"⟩, 48) := ⟨⟨by decide +kernel, by decide +kernel⟩, List.mem_of_getElem? (i := 1108) (by decide +kernel), List.mem_of_getElem? (i := 1474) (by decide +kernel), List.mem_of_getElem? (i := 1475) (by decide +kernel)⟩
theorem lw_p73 : lw_okq (⟨"ToyPitchModel", "sumOf", "()I"⟩, 48) := ⟨⟨by decide +kernel, by decide +kernel⟩, List.mem_of_getElem? (i := 1108) (by decide +kernel), List.mem_of_getElem? (i := 1478) (by decide +kernel), List.mem_of_getElem? (i := 1479) (by decide +kernel)⟩
theorem lw_p74 : lw_okq (⟨"ToyPitchModel", "productOf", "()I"⟩, 48) := ⟨⟨by decide +kernel, by decide +kernel⟩, List.mem_of_getElem? (i := 1108) (by decide +kernel), List.mem_of_getElem? (i := 1482) (by decide +kernel), List.mem_of_getElem? (i := 1483) (by decide +kernel)⟩
theorem lw_p75 : lw_okq (⟨"ToyPitchModel", "termOf", "()I"⟩, 48) := ⟨⟨by decide +kernel, by decide +kernel⟩, List.mem_of_getElem? (i := 1108) (by decide +kernel), List.mem_of_getElem? (i := 1486) (by decide +kernel), List.mem_of_getElem? (i := 1487) (by decide +kernel)⟩
theorem lw_p76 : lw_okq (⟨"ToyPitchModel", "sensor", "(I)I"⟩, 48) := ⟨⟨by decide +kernel, by decide +kernel⟩, List.mem_of_getElem? (i := 1108) (by decide +kernel), List.mem_of_getElem? (i := 1490) (by decide +kernel), List.mem_of_getElem? (i := 1491) (by decide +kernel)⟩
theorem lw_p77 : lw_okq (⟨"ToyPitchModel", "seenX", "(I)I"⟩, 48) := ⟨⟨by decide +kernel, by decide +kernel⟩, List.mem_of_getElem? (i := 1108) (by decide +kernel), List.mem_of_getElem? (i := 1494) (by decide +kernel), List.mem_of_getElem? (i := 1495) (by decide +kernel)⟩
theorem lw_p78 : lw_okq (⟨"ToyPitchModel", "seenY", "(I)I"⟩, 48) := ⟨⟨by decide +kernel, by decide +kernel⟩, List.mem_of_getElem? (i := 1108) (by decide +kernel), List.mem_of_getElem? (i := 1498) (by decide +kernel), List.mem_of_getElem? (i := 1499) (by decide +kernel)⟩
theorem lw_p79 : lw_okq (⟨"ToyPitchModel", "otherRobot", "(II)I"⟩, 48) := ⟨⟨by decide +kernel, by decide +kernel⟩, List.mem_of_getElem? (i := 1108) (by decide +kernel), List.mem_of_getElem? (i := 1502) (by decide +kernel), List.mem_of_getElem? (i := 1503) (by decide +kernel)⟩
def lw_privs_5 : List (MethodName × Nat) := [(⟨"ToyPitchModel", "isMatch", "()Z"⟩, 48), (⟨"ToyPitchModel", "tickOnce", "()I"⟩, 48), (⟨"ToyPitchModel", "run", "(I)V"⟩, 48), (⟨"ToyPitchModel", "see", "(I)V"⟩, 48), (⟨"ToyPitchModel", "goes", "(IIII)V"⟩, 48), (⟨"ToyPitchModel", "runRules", "()V"⟩, 48), (⟨"ToyPitchModel", "here", "()I"⟩, 48), (⟨"ToyPitchModel", "testHolds", "()Z"⟩, 48), (⟨"ToyPitchModel", "step", "()V"⟩, 48), (⟨"ToyPitchModel", "sumOf", "()I"⟩, 48), (⟨"ToyPitchModel", "productOf", "()I"⟩, 48), (⟨"ToyPitchModel", "termOf", "()I"⟩, 48), (⟨"ToyPitchModel", "sensor", "(I)I"⟩, 48), (⟨"ToyPitchModel", "seenX", "(I)I"⟩, 48), (⟨"ToyPitchModel", "seenY", "(I)I"⟩, 48), (⟨"ToyPitchModel", "otherRobot", "(II)I"⟩, 48)]
theorem lw_r5 : ∀ q ∈ lw_privs_5, lw_okq q := List.forall_mem_cons.mpr ⟨lw_p64, List.forall_mem_cons.mpr ⟨lw_p65, List.forall_mem_cons.mpr ⟨lw_p66, List.forall_mem_cons.mpr ⟨lw_p67, List.forall_mem_cons.mpr ⟨lw_p68, List.forall_mem_cons.mpr ⟨lw_p69, List.forall_mem_cons.mpr ⟨lw_p70, List.forall_mem_cons.mpr ⟨lw_p71, List.forall_mem_cons.mpr ⟨lw_p72, List.forall_mem_cons.mpr ⟨lw_p73, List.forall_mem_cons.mpr ⟨lw_p74, List.forall_mem_cons.mpr ⟨lw_p75, List.forall_mem_cons.mpr ⟨lw_p76, List.forall_mem_cons.mpr ⟨lw_p77, List.forall_mem_cons.mpr ⟨lw_p78, List.forall_mem_cons.mpr ⟨lw_p79, fun _ h => absurd h List.not_mem_nil⟩⟩⟩⟩⟩⟩⟩⟩⟩⟩⟩⟩⟩⟩⟩⟩
theorem lw_p80 : lw_okq (⟨"ToyPitchModel", "actEnds", "()Z"⟩, 48) := ⟨⟨by decide +kernel, by decide +kernel⟩, List.mem_of_getElem? (i := 1108) (by decide +kernel), List.mem_of_getElem? (i := 1506) (by decide +kernel), List.mem_of_getElem? (i := 1507) (by decide +kernel)⟩
theorem lw_p81 : lw_okq (⟨"ToyPitchModel", "doCommand", "(I)V"⟩, 48) := ⟨⟨by decide +kernel, by decide +kernel⟩, List.mem_of_getElem? (i := 1108) (by decide +kernel), List.mem_of_getElem? (i := 1510) (by decide +kernel), List.mem_of_getElem? (i := 1511) (by decide +kernel)⟩
theorem lw_p82 : lw_okq (⟨"ToyPitchModel", "hold", "(I)V"⟩, 48) := ⟨⟨by decide +kernel, by decide +kernel⟩, List.mem_of_getElem? (i := 1108) (by decide +kernel), List.mem_of_getElem? (i := 1514) (by decide +kernel), List.mem_of_getElem? (i := 1515) (by decide +kernel)⟩
theorem lw_p83 : lw_okq (⟨"ToyPitchModel", "roll", "()I"⟩, 48) := ⟨⟨by decide +kernel, by decide +kernel⟩, List.mem_of_getElem? (i := 1108) (by decide +kernel), List.mem_of_getElem? (i := 1518) (by decide +kernel), List.mem_of_getElem? (i := 1519) (by decide +kernel)⟩
theorem lw_p84 : lw_okq (⟨"ToyPitchModel", "law", "(I)I"⟩, 48) := ⟨⟨by decide +kernel, by decide +kernel⟩, List.mem_of_getElem? (i := 1108) (by decide +kernel), List.mem_of_getElem? (i := 1522) (by decide +kernel), List.mem_of_getElem? (i := 1523) (by decide +kernel)⟩
theorem lw_p85 : lw_okq (⟨"ToyPitchModel", "scored", "(I)V"⟩, 48) := ⟨⟨by decide +kernel, by decide +kernel⟩, List.mem_of_getElem? (i := 1108) (by decide +kernel), List.mem_of_getElem? (i := 1526) (by decide +kernel), List.mem_of_getElem? (i := 1527) (by decide +kernel)⟩
theorem lw_p86 : lw_okq (⟨"ToyPitchModel", "sleeps", "()I"⟩, 48) := ⟨⟨by decide +kernel, by decide +kernel⟩, List.mem_of_getElem? (i := 1108) (by decide +kernel), List.mem_of_getElem? (i := 1530) (by decide +kernel), List.mem_of_getElem? (i := 1531) (by decide +kernel)⟩
theorem lw_p87 : lw_okq (⟨"ToyPitchModel", "nearestFoe", "(I)I"⟩, 48) := ⟨⟨by decide +kernel, by decide +kernel⟩, List.mem_of_getElem? (i := 1108) (by decide +kernel), List.mem_of_getElem? (i := 1534) (by decide +kernel), List.mem_of_getElem? (i := 1535) (by decide +kernel)⟩
theorem lw_p88 : lw_okq (⟨"ToyPitchModel", "crowded", "(I)I"⟩, 48) := ⟨⟨by decide +kernel, by decide +kernel⟩, List.mem_of_getElem? (i := 1108) (by decide +kernel), List.mem_of_getElem? (i := 1538) (by decide +kernel), List.mem_of_getElem? (i := 1539) (by decide +kernel)⟩
theorem lw_p89 : lw_okq (⟨"ToyPitchModel", "playOne", "(III)V"⟩, 48) := ⟨⟨by decide +kernel, by decide +kernel⟩, List.mem_of_getElem? (i := 1108) (by decide +kernel), List.mem_of_getElem? (i := 1580) (by decide +kernel), List.mem_of_getElem? (i := 1581) (by decide +kernel)⟩
theorem lw_p90 : lw_okq (⟨"ToyPitchModel", "hasPlayed", "(I)Z"⟩, 48) := ⟨⟨by decide +kernel, by decide +kernel⟩, List.mem_of_getElem? (i := 1108) (by decide +kernel), List.mem_of_getElem? (i := 1588) (by decide +kernel), List.mem_of_getElem? (i := 1589) (by decide +kernel)⟩
theorem lw_p91 : lw_okq (⟨"ToyPitchModel", "isAhead", "(II)Z"⟩, 48) := ⟨⟨by decide +kernel, by decide +kernel⟩, List.mem_of_getElem? (i := 1108) (by decide +kernel), List.mem_of_getElem? (i := 1596) (by decide +kernel), List.mem_of_getElem? (i := 1597) (by decide +kernel)⟩
def lw_privs_6 : List (MethodName × Nat) := [(⟨"ToyPitchModel", "actEnds", "()Z"⟩, 48), (⟨"ToyPitchModel", "doCommand", "(I)V"⟩, 48), (⟨"ToyPitchModel", "hold", "(I)V"⟩, 48), (⟨"ToyPitchModel", "roll", "()I"⟩, 48), (⟨"ToyPitchModel", "law", "(I)I"⟩, 48), (⟨"ToyPitchModel", "scored", "(I)V"⟩, 48), (⟨"ToyPitchModel", "sleeps", "()I"⟩, 48), (⟨"ToyPitchModel", "nearestFoe", "(I)I"⟩, 48), (⟨"ToyPitchModel", "crowded", "(I)I"⟩, 48), (⟨"ToyPitchModel", "playOne", "(III)V"⟩, 48), (⟨"ToyPitchModel", "hasPlayed", "(I)Z"⟩, 48), (⟨"ToyPitchModel", "isAhead", "(II)Z"⟩, 48)]
theorem lw_r6 : ∀ q ∈ lw_privs_6, lw_okq q := List.forall_mem_cons.mpr ⟨lw_p80, List.forall_mem_cons.mpr ⟨lw_p81, List.forall_mem_cons.mpr ⟨lw_p82, List.forall_mem_cons.mpr ⟨lw_p83, List.forall_mem_cons.mpr ⟨lw_p84, List.forall_mem_cons.mpr ⟨lw_p85, List.forall_mem_cons.mpr ⟨lw_p86, List.forall_mem_cons.mpr ⟨lw_p87, List.forall_mem_cons.mpr ⟨lw_p88, List.forall_mem_cons.mpr ⟨lw_p89, List.forall_mem_cons.mpr ⟨lw_p90, List.forall_mem_cons.mpr ⟨lw_p91, fun _ h => absurd h List.not_mem_nil⟩⟩⟩⟩⟩⟩⟩⟩⟩⟩⟩⟩
def lw_privs : List (MethodName × Nat) := lw_privs_1 ++ (lw_privs_2 ++ (lw_privs_3 ++ (lw_privs_4 ++ (lw_privs_5 ++ (lw_privs_6)))))
def lw_tbl : List Cond := k2_sels lw_privs ++ tables_1
theorem lw_privs_ok : ∀ q ∈ lw_privs, lw_okq q := by
  show ∀ q ∈ lw_privs_1 ++ (lw_privs_2 ++ (lw_privs_3 ++ (lw_privs_4 ++ (lw_privs_5 ++ (lw_privs_6))))), lw_okq q
  exact List.forall_mem_append.mpr ⟨lw_r1, List.forall_mem_append.mpr ⟨lw_r2, List.forall_mem_append.mpr ⟨lw_r3, List.forall_mem_append.mpr ⟨lw_r4, List.forall_mem_append.mpr ⟨lw_r5, lw_r6⟩⟩⟩⟩⟩
theorem goodIn_r {big : List Cond} (ws : List Cond) (ps : List Nat) (hp : ws = ps.filterMap (fun i => big[i]?)) (h : ws.all goodWord = true) : GoodIn big ws := by
  intro w hw
  have h1 := List.all_eq_true.mp h w hw
  rw [hp] at hw
  obtain ⟨i, -, hi⟩ := List.mem_filterMap.mp hw
  have hm : w ∈ big := by first | exact List.mem_of_getElem? hi | exact List.getElem?_mem hi
  exact ⟨hm, good_of_word h1⟩
theorem goodIn_app {big a b : List Cond} (ha : GoodIn big a) (hb : GoodIn big b) : GoodIn big (a ++ b) := fun w h => (List.mem_append.mp h).elim (ha w) (hb w)
theorem goodIn_ca {big a b : List Cond} {c : Cond} (ha : GoodIn big (c :: a)) (hb : GoodIn big b) : GoodIn big (c :: (a ++ b)) := fun w h => (List.mem_cons.mp h).elim (fun e => ha w (List.mem_cons.mpr (Or.inl e))) (fun h => (List.mem_append.mp h).elim (fun h => ha w (List.mem_cons.mpr (Or.inr h))) (hb w))
theorem goodIn_sub {big ws : List Cond} (hm : ∀ w ∈ ws, w ∈ big) (h : ws.all goodWord = true) : GoodIn big ws := fun w hw => ⟨hm w hw, good_of_word (List.all_eq_true.mp h w hw)⟩
def RX0 : String := "ToyPitch$Ball"
def TX0 : u_T := fun k => match k with
  | 0 => ("ToyPitch$Ball", "x", "I", false)
  | 1 => ("ToyPitch$Ball", "y", "I", false)
  | 2 => ("ToyPitch$Ball", "holder", "I", false)
  | 3 => ("ToyPitch$Ball", "got", "I", false)
  | 4 => ("ToyPitch$Ball", "power", "I", false)
  | 5 => ("ToyPitch$Ball", "wayX", "I", false)
  | 6 => ("ToyPitch$Ball", "wayY", "I", false)
  | 7 => ("ToyPitch$Ball", "stillX", "I", false)
  | 8 => ("ToyPitch$Ball", "stillY", "I", false)
  | 9 => ("ToyPitch$Ball", "stillTicks", "I", false)
  | 10 => ("ToyPitch$Ball", "pastX", "[I", true)
  | _ => ("ToyPitch$Ball", "pastY", "[I", true)
def tyX0 : Nat → FieldType := fun k => match k with
  | 0 => .int
  | 1 => .int
  | 2 => .int
  | 3 => .int
  | 4 => .int
  | 5 => .int
  | 6 => .int
  | 7 => .int
  | 8 => .int
  | 9 => .int
  | 10 => .array .int
  | _ => .array .int
theorem nmX0 : ∀ a, a < 12 → ∀ b, b < 12 → a ≠ b → (TX0 a).2.1 ≠ (TX0 b).2.1 := by decide +kernel
theorem tyX0_ok : ∀ k, k < 12 → parseFieldDescriptor (TX0 k).2.2.1 = some (tyX0 k) := by decide +kernel
abbrev cX0_init : ByteArray := prog_2_method_1_code
def yX0_init : MethodName := ⟨RX0, "<init>", "()V"⟩
abbrev cX0_go : ByteArray := prog_2_method_2_code
def yX0_go : MethodName := ⟨RX0, "go", "(II)V"⟩
abbrev cX0_lie : ByteArray := prog_2_method_3_code
def yX0_lie : MethodName := ⟨RX0, "lie", "(II)V"⟩
abbrev cX0_free : ByteArray := prog_2_method_4_code
def yX0_free : MethodName := ⟨RX0, "free", "(III)V"⟩
abbrev cX0_hold : ByteArray := prog_2_method_5_code
def yX0_hold : MethodName := ⟨RX0, "hold", "(IIII)V"⟩
abbrev cX0_remember : ByteArray := prog_2_method_6_code
def yX0_remember : MethodName := ⟨RX0, "remember", "(I)V"⟩
abbrev cX0_forget : ByteArray := prog_2_method_7_code
def yX0_forget : MethodName := ⟨RX0, "forget", "()V"⟩
abbrev cX0_pastX : ByteArray := prog_2_method_8_code
def yX0_pastX : MethodName := ⟨RX0, "pastX", "(I)I"⟩
abbrev cX0_pastY : ByteArray := prog_2_method_9_code
def yX0_pastY : MethodName := ⟨RX0, "pastY", "(I)I"⟩
abbrev cX0_hasSlept : ByteArray := prog_2_method_10_code
def yX0_hasSlept : MethodName := ⟨RX0, "hasSlept", "()Z"⟩
abbrev cX0_copy : ByteArray := prog_2_method_11_code
def yX0_copy : MethodName := ⟨RX0, "copy", "(LToyPitch$Ball;)V"⟩
abbrev cX0_isLike : ByteArray := prog_2_method_12_code
def yX0_isLike : MethodName := ⟨RX0, "isLike", "(LToyPitch$Ball;)Z"⟩
abbrev cX0_shown : ByteArray := prog_2_method_13_code
def yX0_shown : MethodName := ⟨RX0, "shown", "(I)I"⟩
def RX1 : String := "ToyPitch$League"
def TX1 : u_T := fun k => match k with
  | 0 => ("ToyPitch$League", "set", "I", false)
  | 1 => ("ToyPitch$League", "points", "[I", true)
  | 2 => ("ToyPitch$League", "shot", "[I", true)
  | _ => ("ToyPitch$League", "against", "[I", true)
def tyX1 : Nat → FieldType := fun k => match k with
  | 0 => .int
  | 1 => .array .int
  | 2 => .array .int
  | _ => .array .int
theorem nmX1 : ∀ a, a < 4 → ∀ b, b < 4 → a ≠ b → (TX1 a).2.1 ≠ (TX1 b).2.1 := by decide +kernel
theorem tyX1_ok : ∀ k, k < 4 → parseFieldDescriptor (TX1 k).2.2.1 = some (tyX1 k) := by decide +kernel
abbrev cX1_init : ByteArray := prog_3_method_1_code
def yX1_init : MethodName := ⟨RX1, "<init>", "()V"⟩
abbrev cX1_clear : ByteArray := prog_3_method_2_code
def yX1_clear : MethodName := ⟨RX1, "clear", "(I)V"⟩
abbrev cX1_has : ByteArray := prog_3_method_3_code
def yX1_has : MethodName := ⟨RX1, "has", "(I)Z"⟩
abbrev cX1_enter : ByteArray := prog_3_method_4_code
def yX1_enter : MethodName := ⟨RX1, "enter", "(IIII)V"⟩
abbrev cX1_enterFor : ByteArray := prog_3_method_5_code
def yX1_enterFor : MethodName := ⟨RX1, "enterFor", "(III)V"⟩
abbrev cX1_shown : ByteArray := prog_3_method_6_code
def yX1_shown : MethodName := ⟨RX1, "shown", "(II)I"⟩
abbrev cX1_teamAt : ByteArray := prog_3_method_7_code
def yX1_teamAt : MethodName := ⟨RX1, "teamAt", "(I)I"⟩
abbrev cX1_isAhead : ByteArray := prog_3_method_8_code
def yX1_isAhead : MethodName := ⟨RX1, "isAhead", "(II)Z"⟩
def RX2 : String := "ToyPitch$Match"
def TX2 : u_T := fun k => match k with
  | 0 => ("ToyPitch$Match", "teams", "[LToyPitch$Team;", true)
  | 1 => ("ToyPitch$Match", "programs", "[LToyPitch$Program;", true)
  | 2 => ("ToyPitch$Match", "runner", "LToyPitch$Runner;", true)
  | 3 => ("ToyPitch$Match", "robots", "[LToyPitch$Robot;", true)
  | 4 => ("ToyPitch$Match", "ball", "LToyPitch$Ball;", true)
  | 5 => ("ToyPitch$Match", "tally", "LToyPitch$Tally;", true)
  | 6 => ("ToyPitch$Match", "isOpen", "Z", false)
  | 7 => ("ToyPitch$Match", "now", "I", false)
  | 8 => ("ToyPitch$Match", "home", "I", false)
  | _ => ("ToyPitch$Match", "away", "I", false)
def tyX2 : Nat → FieldType := fun k => match k with
  | 0 => .array (.object "ToyPitch$Team")
  | 1 => .array (.object "ToyPitch$Program")
  | 2 => .object "ToyPitch$Runner"
  | 3 => .array (.object "ToyPitch$Robot")
  | 4 => .object "ToyPitch$Ball"
  | 5 => .object "ToyPitch$Tally"
  | 6 => .boolean
  | 7 => .int
  | 8 => .int
  | _ => .int
theorem nmX2 : ∀ a, a < 10 → ∀ b, b < 10 → a ≠ b → (TX2 a).2.1 ≠ (TX2 b).2.1 := by decide +kernel
theorem tyX2_ok : ∀ k, k < 10 → parseFieldDescriptor (TX2 k).2.2.1 = some (tyX2 k) := by decide +kernel
abbrev cX2_init : ByteArray := prog_4_method_1_code
def yX2_init : MethodName := ⟨RX2, "<init>", "([LToyPitch$Team;[LToyPitch$Program;)V"⟩
abbrev cX2_open : ByteArray := prog_4_method_2_code
def yX2_open : MethodName := ⟨RX2, "open", "(II)V"⟩
abbrev cX2_play : ByteArray := prog_4_method_3_code
def yX2_play : MethodName := ⟨RX2, "play", "(I)I"⟩
abbrev cX2_kickOff : ByteArray := prog_4_method_4_code
def yX2_kickOff : MethodName := ⟨RX2, "kickOff", "()V"⟩
abbrev cX2_putAtStart : ByteArray := prog_4_method_5_code
def yX2_putAtStart : MethodName := ⟨RX2, "putAtStart", "(I)V"⟩
abbrev cX2_putBall : ByteArray := prog_4_method_6_code
def yX2_putBall : MethodName := ⟨RX2, "putBall", "()V"⟩
abbrev cX2_freeCell : ByteArray := prog_4_method_7_code
def yX2_freeCell : MethodName := ⟨RX2, "freeCell", "(II)I"⟩
abbrev cX2_robotIn : ByteArray := prog_4_method_8_code
def yX2_robotIn : MethodName := ⟨RX2, "robotIn", "(II)I"⟩
abbrev cX2_think : ByteArray := prog_4_method_9_code
def yX2_think : MethodName := ⟨RX2, "think", "(I)V"⟩
abbrev cX2_sense : ByteArray := prog_4_method_10_code
def yX2_sense : MethodName := ⟨RX2, "sense", "(LToyPitch$Robot;I)V"⟩
abbrev cX2_holding : ByteArray := prog_4_method_11_code
def yX2_holding : MethodName := ⟨RX2, "holding", "(I)I"⟩
abbrev cX2_doCommand : ByteArray := prog_4_method_12_code
def yX2_doCommand : MethodName := ⟨RX2, "doCommand", "(I)V"⟩
abbrev cX2_move : ByteArray := prog_4_method_13_code
def yX2_move : MethodName := ⟨RX2, "move", "(LToyPitch$Robot;I)V"⟩
abbrev cX2_roll : ByteArray := prog_4_method_14_code
def yX2_roll : MethodName := ⟨RX2, "roll", "()I"⟩
abbrev cX2_arrive : ByteArray := prog_4_method_15_code
def yX2_arrive : MethodName := ⟨RX2, "arrive", "(II)V"⟩
abbrev cX2_applyLaws : ByteArray := prog_4_method_16_code
def yX2_applyLaws : MethodName := ⟨RX2, "applyLaws", "(I)I"⟩
abbrev cX2_giveToFoe : ByteArray := prog_4_method_17_code
def yX2_giveToFoe : MethodName := ⟨RX2, "giveToFoe", "()V"⟩
abbrev cX2_thinsCrowd : ByteArray := prog_4_method_18_code
def yX2_thinsCrowd : MethodName := ⟨RX2, "thinsCrowd", "(Z)Z"⟩
abbrev cX2_copy : ByteArray := prog_4_method_19_code
def yX2_copy : MethodName := ⟨RX2, "copy", "(LToyPitch$Match;)V"⟩
abbrev cX2_difference : ByteArray := prog_4_method_20_code
def yX2_difference : MethodName := ⟨RX2, "difference", "(LToyPitch$Match;)I"⟩
def RX3 : String := "ToyPitch$Program"
def TX3 : u_T := fun k => match k with
  | 0 => ("ToyPitch$Program", "states", "I", false)
  | 1 => ("ToyPitch$Program", "names", "[J", true)
  | 2 => ("ToyPitch$Program", "firstRule", "[I", true)
  | 3 => ("ToyPitch$Program", "rules", "I", false)
  | 4 => ("ToyPitch$Program", "firstTest", "[I", true)
  | 5 => ("ToyPitch$Program", "firstAct", "[I", true)
  | 6 => ("ToyPitch$Program", "tests", "I", false)
  | 7 => ("ToyPitch$Program", "testSign", "[I", true)
  | 8 => ("ToyPitch$Program", "testSum", "[I", true)
  | 9 => ("ToyPitch$Program", "acts", "I", false)
  | 10 => ("ToyPitch$Program", "actKind", "[I", true)
  | 11 => ("ToyPitch$Program", "actTarget", "[J", true)
  | 12 => ("ToyPitch$Program", "actSum", "[I", true)
  | 13 => ("ToyPitch$Program", "sums", "I", false)
  | 14 => ("ToyPitch$Program", "firstTerm", "[I", true)
  | 15 => ("ToyPitch$Program", "terms", "I", false)
  | 16 => ("ToyPitch$Program", "termJoin", "[I", true)
  | 17 => ("ToyPitch$Program", "termSign", "[I", true)
  | 18 => ("ToyPitch$Program", "termSource", "[I", true)
  | _ => ("ToyPitch$Program", "termValue", "[I", true)
def tyX3 : Nat → FieldType := fun k => match k with
  | 0 => .int
  | 1 => .array .long
  | 2 => .array .int
  | 3 => .int
  | 4 => .array .int
  | 5 => .array .int
  | 6 => .int
  | 7 => .array .int
  | 8 => .array .int
  | 9 => .int
  | 10 => .array .int
  | 11 => .array .long
  | 12 => .array .int
  | 13 => .int
  | 14 => .array .int
  | 15 => .int
  | 16 => .array .int
  | 17 => .array .int
  | 18 => .array .int
  | _ => .array .int
theorem nmX3 : ∀ a, a < 20 → ∀ b, b < 20 → a ≠ b → (TX3 a).2.1 ≠ (TX3 b).2.1 := by decide +kernel
theorem tyX3_ok : ∀ k, k < 20 → parseFieldDescriptor (TX3 k).2.2.1 = some (tyX3 k) := by decide +kernel
abbrev cX3_init : ByteArray := prog_5_method_1_code
def yX3_init : MethodName := ⟨RX3, "<init>", "()V"⟩
abbrev cX3_clear : ByteArray := prog_5_method_2_code
def yX3_clear : MethodName := ⟨RX3, "clear", "()V"⟩
abbrev cX3_openState : ByteArray := prog_5_method_3_code
def yX3_openState : MethodName := ⟨RX3, "openState", "(J)V"⟩
abbrev cX3_closeState : ByteArray := prog_5_method_4_code
def yX3_closeState : MethodName := ⟨RX3, "closeState", "()V"⟩
abbrev cX3_closeRule : ByteArray := prog_5_method_5_code
def yX3_closeRule : MethodName := ⟨RX3, "closeRule", "()V"⟩
abbrev cX3_addTest : ByteArray := prog_5_method_6_code
def yX3_addTest : MethodName := ⟨RX3, "addTest", "(I)V"⟩
abbrev cX3_addAct : ByteArray := prog_5_method_7_code
def yX3_addAct : MethodName := ⟨RX3, "addAct", "(IJI)V"⟩
abbrev cX3_closeSum : ByteArray := prog_5_method_8_code
def yX3_closeSum : MethodName := ⟨RX3, "closeSum", "()V"⟩
abbrev cX3_addTerm : ByteArray := prog_5_method_9_code
def yX3_addTerm : MethodName := ⟨RX3, "addTerm", "(IIII)V"⟩
abbrev cX3_stateNamed : ByteArray := prog_5_method_10_code
def yX3_stateNamed : MethodName := ⟨RX3, "stateNamed", "(J)I"⟩
abbrev cX3_resolveGoes : ByteArray := prog_5_method_11_code
def yX3_resolveGoes : MethodName := ⟨RX3, "resolveGoes", "()V"⟩
def RX4 : String := "ToyPitch$Reader"
def TX4 : u_T := fun k => match k with
  | 0 => ("ToyPitch$Reader", "tape", "[I", true)
  | 1 => ("ToyPitch$Reader", "known", "[J", true)
  | 2 => ("ToyPitch$Reader", "kinds", "[I", true)
  | 3 => ("ToyPitch$Reader", "values", "[J", true)
  | 4 => ("ToyPitch$Reader", "places", "[I", true)
  | 5 => ("ToyPitch$Reader", "bytes", "I", false)
  | 6 => ("ToyPitch$Reader", "words", "I", false)
  | 7 => ("ToyPitch$Reader", "next", "I", false)
  | 8 => ("ToyPitch$Reader", "taken", "J", false)
  | _ => ("ToyPitch$Reader", "refused", "I", false)
def tyX4 : Nat → FieldType := fun k => match k with
  | 0 => .array .int
  | 1 => .array .long
  | 2 => .array .int
  | 3 => .array .long
  | 4 => .array .int
  | 5 => .int
  | 6 => .int
  | 7 => .int
  | 8 => .long
  | _ => .int
theorem nmX4 : ∀ a, a < 10 → ∀ b, b < 10 → a ≠ b → (TX4 a).2.1 ≠ (TX4 b).2.1 := by decide +kernel
theorem tyX4_ok : ∀ k, k < 10 → parseFieldDescriptor (TX4 k).2.2.1 = some (tyX4 k) := by decide +kernel
abbrev cX4_init : ByteArray := prog_6_method_1_code
def yX4_init : MethodName := ⟨RX4, "<init>", "()V"⟩
abbrev cX4_learn : ByteArray := prog_6_method_2_code
def yX4_learn : MethodName := ⟨RX4, "learn", "(Ljava/lang/String;I)V"⟩
abbrev cX4_length : ByteArray := prog_6_method_3_code
def yX4_length : MethodName := ⟨RX4, "length", "()I"⟩
abbrev cX4_append : ByteArray := prog_6_method_4_code
def yX4_append : MethodName := ⟨RX4, "append", "(I)V"⟩
abbrev cX4_empty : ByteArray := prog_6_method_5_code
def yX4_empty : MethodName := ⟨RX4, "empty", "()V"⟩
abbrev cX4_compile : ByteArray := prog_6_method_6_code
def yX4_compile : MethodName := ⟨RX4, "compile", "(LToyPitch$Program;)I"⟩
abbrev cX4_pack : ByteArray := prog_6_method_7_code
def yX4_pack : MethodName := ⟨RX4, "pack", "(JI)J"⟩
abbrev cX4_isLetter : ByteArray := prog_6_method_8_code
def yX4_isLetter : MethodName := ⟨RX4, "isLetter", "(I)Z"⟩
abbrev cX4_isFigure : ByteArray := prog_6_method_9_code
def yX4_isFigure : MethodName := ⟨RX4, "isFigure", "(I)Z"⟩
abbrev cX4_isBlank : ByteArray := prog_6_method_10_code
def yX4_isBlank : MethodName := ⟨RX4, "isBlank", "(I)Z"⟩
abbrev cX4_split : ByteArray := prog_6_method_11_code
def yX4_split : MethodName := ⟨RX4, "split", "()V"⟩
abbrev cX4_splitName : ByteArray := prog_6_method_12_code
def yX4_splitName : MethodName := ⟨RX4, "splitName", "(I)I"⟩
abbrev cX4_kindOf : ByteArray := prog_6_method_13_code
def yX4_kindOf : MethodName := ⟨RX4, "kindOf", "(J)I"⟩
abbrev cX4_splitNumber : ByteArray := prog_6_method_14_code
def yX4_splitNumber : MethodName := ⟨RX4, "splitNumber", "(I)I"⟩
abbrev cX4_splitSign : ByteArray := prog_6_method_15_code
def yX4_splitSign : MethodName := ⟨RX4, "splitSign", "(II)V"⟩
abbrev cX4_addWord : ByteArray := prog_6_method_16_code
def yX4_addWord : MethodName := ⟨RX4, "addWord", "(IJI)V"⟩
abbrev cX4_kind : ByteArray := prog_6_method_17_code
def yX4_kind : MethodName := ⟨RX4, "kind", "()I"⟩
abbrev cX4_refuse : ByteArray := prog_6_method_18_code
def yX4_refuse : MethodName := ⟨RX4, "refuse", "()V"⟩
abbrev cX4_take : ByteArray := prog_6_method_19_code
def yX4_take : MethodName := ⟨RX4, "take", "(II)I"⟩
abbrev cX4_readRule : ByteArray := prog_6_method_20_code
def yX4_readRule : MethodName := ⟨RX4, "readRule", "(LToyPitch$Program;)V"⟩
abbrev cX4_readAct : ByteArray := prog_6_method_21_code
def yX4_readAct : MethodName := ⟨RX4, "readAct", "(LToyPitch$Program;)V"⟩
abbrev cX4_readSum : ByteArray := prog_6_method_22_code
def yX4_readSum : MethodName := ⟨RX4, "readSum", "(LToyPitch$Program;)V"⟩
abbrev cX4_readTerm : ByteArray := prog_6_method_23_code
def yX4_readTerm : MethodName := ⟨RX4, "readTerm", "(LToyPitch$Program;I)V"⟩
abbrev cX4_judgeNames : ByteArray := prog_6_method_24_code
def yX4_judgeNames : MethodName := ⟨RX4, "judgeNames", "(LToyPitch$Program;)V"⟩
def RX5 : String := "ToyPitch$Robot"
def TX5 : u_T := fun k => match k with
  | 0 => ("ToyPitch$Robot", "number", "I", true)
  | 1 => ("ToyPitch$Robot", "isTurned", "Z", true)
  | 2 => ("ToyPitch$Robot", "x", "I", false)
  | 3 => ("ToyPitch$Robot", "y", "I", false)
  | 4 => ("ToyPitch$Robot", "startX", "I", false)
  | 5 => ("ToyPitch$Robot", "startY", "I", false)
  | 6 => ("ToyPitch$Robot", "program", "I", false)
  | 7 => ("ToyPitch$Robot", "state", "I", false)
  | 8 => ("ToyPitch$Robot", "isStopped", "Z", false)
  | 9 => ("ToyPitch$Robot", "own", "[I", true)
  | 10 => ("ToyPitch$Robot", "viewX", "I", false)
  | 11 => ("ToyPitch$Robot", "viewY", "I", false)
  | 12 => ("ToyPitch$Robot", "late", "I", false)
  | 13 => ("ToyPitch$Robot", "lost", "I", false)
  | 14 => ("ToyPitch$Robot", "command", "I", false)
  | 15 => ("ToyPitch$Robot", "wayX", "I", false)
  | 16 => ("ToyPitch$Robot", "wayY", "I", false)
  | _ => ("ToyPitch$Robot", "power", "I", false)
def tyX5 : Nat → FieldType := fun k => match k with
  | 0 => .int
  | 1 => .boolean
  | 2 => .int
  | 3 => .int
  | 4 => .int
  | 5 => .int
  | 6 => .int
  | 7 => .int
  | 8 => .boolean
  | 9 => .array .int
  | 10 => .int
  | 11 => .int
  | 12 => .int
  | 13 => .int
  | 14 => .int
  | 15 => .int
  | 16 => .int
  | _ => .int
theorem nmX5 : ∀ a, a < 18 → ∀ b, b < 18 → a ≠ b → (TX5 a).2.1 ≠ (TX5 b).2.1 := by decide +kernel
theorem tyX5_ok : ∀ k, k < 18 → parseFieldDescriptor (TX5 k).2.2.1 = some (tyX5 k) := by decide +kernel
abbrev cX5_init : ByteArray := prog_7_method_1_code
def yX5_init : MethodName := ⟨RX5, "<init>", "(IZ)V"⟩
abbrev cX5_seenX : ByteArray := prog_7_method_2_code
def yX5_seenX : MethodName := ⟨RX5, "seenX", "(I)I"⟩
abbrev cX5_seenY : ByteArray := prog_7_method_3_code
def yX5_seenY : MethodName := ⟨RX5, "seenY", "(I)I"⟩
abbrev cX5_leave : ByteArray := prog_7_method_4_code
def yX5_leave : MethodName := ⟨RX5, "leave", "()V"⟩
abbrev cX5_see : ByteArray := prog_7_method_5_code
def yX5_see : MethodName := ⟨RX5, "see", "(II)V"⟩
abbrev cX5_isLost : ByteArray := prog_7_method_6_code
def yX5_isLost : MethodName := ⟨RX5, "isLost", "(I)Z"⟩
abbrev cX5_decide : ByteArray := prog_7_method_7_code
def yX5_decide : MethodName := ⟨RX5, "decide", "(IIII)V"⟩
abbrev cX5_join : ByteArray := prog_7_method_8_code
def yX5_join : MethodName := ⟨RX5, "join", "(LToyPitch$Team;)V"⟩
abbrev cX5_copy : ByteArray := prog_7_method_9_code
def yX5_copy : MethodName := ⟨RX5, "copy", "(LToyPitch$Robot;)V"⟩
abbrev cX5_isLike : ByteArray := prog_7_method_10_code
def yX5_isLike : MethodName := ⟨RX5, "isLike", "(LToyPitch$Robot;)Z"⟩
abbrev cX5_shown : ByteArray := prog_7_method_11_code
def yX5_shown : MethodName := ⟨RX5, "shown", "(I)I"⟩
def RX6 : String := "ToyPitch$Runner"
def TX6 : u_T := fun k => match k with
  | 0 => ("ToyPitch$Runner", "senses", "[I", true)
  | 1 => ("ToyPitch$Runner", "steps", "I", false)
  | _ => ("ToyPitch$Runner", "nextState", "I", false)
def tyX6 : Nat → FieldType := fun k => match k with
  | 0 => .array .int
  | 1 => .int
  | _ => .int
theorem nmX6 : ∀ a, a < 3 → ∀ b, b < 3 → a ≠ b → (TX6 a).2.1 ≠ (TX6 b).2.1 := by decide +kernel
theorem tyX6_ok : ∀ k, k < 3 → parseFieldDescriptor (TX6 k).2.2.1 = some (tyX6 k) := by decide +kernel
abbrev cX6_init : ByteArray := prog_8_method_1_code
def yX6_init : MethodName := ⟨RX6, "<init>", "()V"⟩
abbrev cX6_run : ByteArray := prog_8_method_2_code
def yX6_run : MethodName := ⟨RX6, "run", "(LToyPitch$Program;LToyPitch$Robot;)Z"⟩
abbrev cX6_allHold : ByteArray := prog_8_method_3_code
def yX6_allHold : MethodName := ⟨RX6, "allHold", "(LToyPitch$Program;I[I)Z"⟩
abbrev cX6_doActs : ByteArray := prog_8_method_4_code
def yX6_doActs : MethodName := ⟨RX6, "doActs", "(LToyPitch$Program;ILToyPitch$Robot;)Z"⟩
abbrev cX6_command : ByteArray := prog_8_method_5_code
def yX6_command : MethodName := ⟨RX6, "command", "(LToyPitch$Program;IILToyPitch$Robot;)V"⟩
abbrev cX6_work : ByteArray := prog_8_method_6_code
def yX6_work : MethodName := ⟨RX6, "work", "(LToyPitch$Program;I[I)I"⟩
def RX7 : String := "ToyPitch$Tally"
def TX7 : u_T := fun k => match k with
  | 0 => ("ToyPitch$Tally", "homeGoals", "I", false)
  | 1 => ("ToyPitch$Tally", "awayGoals", "I", false)
  | 2 => ("ToyPitch$Tally", "tackles", "I", false)
  | 3 => ("ToyPitch$Tally", "overruns", "I", false)
  | 4 => ("ToyPitch$Tally", "applied", "[I", true)
  | _ => ("ToyPitch$Tally", "goals", "[I", true)
def tyX7 : Nat → FieldType := fun k => match k with
  | 0 => .int
  | 1 => .int
  | 2 => .int
  | 3 => .int
  | 4 => .array .int
  | _ => .array .int
theorem nmX7 : ∀ a, a < 6 → ∀ b, b < 6 → a ≠ b → (TX7 a).2.1 ≠ (TX7 b).2.1 := by decide +kernel
theorem tyX7_ok : ∀ k, k < 6 → parseFieldDescriptor (TX7 k).2.2.1 = some (tyX7 k) := by decide +kernel
abbrev cX7_init : ByteArray := prog_9_method_1_code
def yX7_init : MethodName := ⟨RX7, "<init>", "()V"⟩
abbrev cX7_clear : ByteArray := prog_9_method_2_code
def yX7_clear : MethodName := ⟨RX7, "clear", "()V"⟩
abbrev cX7_listed : ByteArray := prog_9_method_3_code
def yX7_listed : MethodName := ⟨RX7, "listed", "()I"⟩
abbrev cX7_goalAt : ByteArray := prog_9_method_4_code
def yX7_goalAt : MethodName := ⟨RX7, "goalAt", "(I)I"⟩
abbrev cX7_addGoal : ByteArray := prog_9_method_5_code
def yX7_addGoal : MethodName := ⟨RX7, "addGoal", "(ZI)V"⟩
abbrev cX7_addLaw : ByteArray := prog_9_method_6_code
def yX7_addLaw : MethodName := ⟨RX7, "addLaw", "(I)V"⟩
abbrev cX7_copy : ByteArray := prog_9_method_7_code
def yX7_copy : MethodName := ⟨RX7, "copy", "(LToyPitch$Tally;)V"⟩
abbrev cX7_shown : ByteArray := prog_9_method_8_code
def yX7_shown : MethodName := ⟨RX7, "shown", "(I)I"⟩
def RX8 : String := "ToyPitch$Team"
def TX8 : u_T := fun k => match k with
  | 0 => ("ToyPitch$Team", "program", "[I", true)
  | 1 => ("ToyPitch$Team", "startX", "[I", true)
  | 2 => ("ToyPitch$Team", "startY", "[I", true)
  | 3 => ("ToyPitch$Team", "late", "I", false)
  | _ => ("ToyPitch$Team", "lost", "I", false)
def tyX8 : Nat → FieldType := fun k => match k with
  | 0 => .array .int
  | 1 => .array .int
  | 2 => .array .int
  | 3 => .int
  | _ => .int
theorem nmX8 : ∀ a, a < 5 → ∀ b, b < 5 → a ≠ b → (TX8 a).2.1 ≠ (TX8 b).2.1 := by decide +kernel
theorem tyX8_ok : ∀ k, k < 5 → parseFieldDescriptor (TX8 k).2.2.1 = some (tyX8 k) := by decide +kernel
abbrev cX8_init : ByteArray := prog_10_method_1_code
def yX8_init : MethodName := ⟨RX8, "<init>", "()V"⟩
def RX10 : String := "ToyPitch"
def TX10 : u_T := fun k => match k with
  | 0 => ("ToyPitch", "foundOf", "[I", true)
  | 1 => ("ToyPitch", "reader", "LToyPitch$Reader;", true)
  | 2 => ("ToyPitch", "programs", "[LToyPitch$Program;", true)
  | 3 => ("ToyPitch", "teams", "[LToyPitch$Team;", true)
  | 4 => ("ToyPitch", "match", "LToyPitch$Match;", true)
  | 5 => ("ToyPitch", "leagueMatch", "LToyPitch$Match;", true)
  | 6 => ("ToyPitch", "kept", "[LToyPitch$Match;", true)
  | 7 => ("ToyPitch", "standing", "LToyPitch$League;", true)
  | 8 => ("ToyPitch", "told", "[I", true)
  | 9 => ("ToyPitch", "toldCount", "I", false)
  | 10 => ("ToyPitch", "programCount", "I", false)
  | _ => ("ToyPitch", "faultPlace", "I", false)
def tyX10 : Nat → FieldType := fun k => match k with
  | 0 => .array .int
  | 1 => .object "ToyPitch$Reader"
  | 2 => .array (.object "ToyPitch$Program")
  | 3 => .array (.object "ToyPitch$Team")
  | 4 => .object "ToyPitch$Match"
  | 5 => .object "ToyPitch$Match"
  | 6 => .array (.object "ToyPitch$Match")
  | 7 => .object "ToyPitch$League"
  | 8 => .array .int
  | 9 => .int
  | 10 => .int
  | _ => .int
theorem nmX10 : ∀ a, a < 12 → ∀ b, b < 12 → a ≠ b → (TX10 a).2.1 ≠ (TX10 b).2.1 := by decide +kernel
theorem tyX10_ok : ∀ k, k < 12 → parseFieldDescriptor (TX10 k).2.2.1 = some (tyX10 k) := by decide +kernel
abbrev cX10_init : ByteArray := prog_1_method_1_code
def yX10_init : MethodName := ⟨RX10, "<init>", "()V"⟩
abbrev cX10_feed : ByteArray := prog_1_method_2_code
def yX10_feed : MethodName := ⟨RX10, "feed", "(JI)I"⟩
abbrev cX10_read : ByteArray := prog_1_method_3_code
def yX10_read : MethodName := ⟨RX10, "read", "()I"⟩
abbrev cX10_fault : ByteArray := prog_1_method_4_code
def yX10_fault : MethodName := ⟨RX10, "fault", "()I"⟩
abbrev cX10_program : ByteArray := prog_1_method_5_code
def yX10_program : MethodName := ⟨RX10, "program", "(III)I"⟩
abbrev cX10_start : ByteArray := prog_1_method_6_code
def yX10_start : MethodName := ⟨RX10, "start", "(IIII)I"⟩
abbrev cX10_views : ByteArray := prog_1_method_7_code
def yX10_views : MethodName := ⟨RX10, "views", "(III)I"⟩
abbrev cX10_begin : ByteArray := prog_1_method_8_code
def yX10_begin : MethodName := ⟨RX10, "begin", "(II)I"⟩
abbrev cX10_tick : ByteArray := prog_1_method_9_code
def yX10_tick : MethodName := ⟨RX10, "tick", "(I)I"⟩
abbrev cX10_ball : ByteArray := prog_1_method_10_code
def yX10_ball : MethodName := ⟨RX10, "ball", "(I)I"⟩
abbrev cX10_robot : ByteArray := prog_1_method_11_code
def yX10_robot : MethodName := ⟨RX10, "robot", "(II)I"⟩
abbrev cX10_score : ByteArray := prog_1_method_12_code
def yX10_score : MethodName := ⟨RX10, "score", "(I)I"⟩
abbrev cX10_goal : ByteArray := prog_1_method_13_code
def yX10_goal : MethodName := ⟨RX10, "goal", "(I)I"⟩
abbrev cX10_keep : ByteArray := prog_1_method_14_code
def yX10_keep : MethodName := ⟨RX10, "keep", "(I)I"⟩
abbrev cX10_back : ByteArray := prog_1_method_15_code
def yX10_back : MethodName := ⟨RX10, "back", "(I)I"⟩
abbrev cX10_differ : ByteArray := prog_1_method_16_code
def yX10_differ : MethodName := ⟨RX10, "differ", "(I)I"⟩
abbrev cX10_league : ByteArray := prog_1_method_17_code
def yX10_league : MethodName := ⟨RX10, "league", "(II)I"⟩
abbrev cX10_table : ByteArray := prog_1_method_18_code
def yX10_table : MethodName := ⟨RX10, "table", "(II)I"⟩
abbrev cX10_order : ByteArray := prog_1_method_19_code
def yX10_order : MethodName := ⟨RX10, "order", "(I)I"⟩
abbrev cX10_tell : ByteArray := prog_1_method_20_code
def yX10_tell : MethodName := ⟨RX10, "tell", "(I)I"⟩
abbrev cX10_check : ByteArray := prog_1_method_21_code
def yX10_check : MethodName := ⟨RX10, "check", "()I"⟩
abbrev cX10_count : ByteArray := prog_1_method_22_code
def yX10_count : MethodName := ⟨RX10, "count", "(I)I"⟩
abbrev cX10_found : ByteArray := prog_1_method_23_code
def yX10_found : MethodName := ⟨RX10, "found", "(I)I"⟩
abbrev cX10_finding : ByteArray := prog_1_method_24_code
def yX10_finding : MethodName := ⟨RX10, "finding", "(I)I"⟩
abbrev cX10_isTeam : ByteArray := prog_1_method_25_code
def yX10_isTeam : MethodName := ⟨RX10, "isTeam", "(I)Z"⟩
abbrev cX10_isMember : ByteArray := prog_1_method_26_code
def yX10_isMember : MethodName := ⟨RX10, "isMember", "(I)Z"⟩
abbrev cX10_isPlace : ByteArray := prog_1_method_27_code
def yX10_isPlace : MethodName := ⟨RX10, "isPlace", "(I)Z"⟩
abbrev cX10_at : ByteArray := prog_1_method_28_code
def yX10_at : MethodName := ⟨RX10, "at", "([II)I"⟩
abbrev cX10_put : ByteArray := prog_1_method_29_code
def yX10_put : MethodName := ⟨RX10, "put", "([III)V"⟩
abbrev cX10_cut : ByteArray := prog_1_method_30_code
def yX10_cut : MethodName := ⟨RX10, "cut", "(III)I"⟩
abbrev cX10_distance : ByteArray := prog_1_method_31_code
def yX10_distance : MethodName := ⟨RX10, "distance", "(IIII)I"⟩
def RX11 : String := "ToyPitchModel"
def TX11 : u_T := fun k => match k with
  | 0 => ("ToyPitchModel", "tape", "[I", true)
  | 1 => ("ToyPitchModel", "taped", "I", false)
  | 2 => ("ToyPitchModel", "faultAt", "I", false)
  | 3 => ("ToyPitchModel", "from", "I", false)
  | 4 => ("ToyPitchModel", "next", "I", false)
  | 5 => ("ToyPitchModel", "kind", "I", false)
  | 6 => ("ToyPitchModel", "value", "I", false)
  | 7 => ("ToyPitchModel", "code", "J", false)
  | 8 => ("ToyPitchModel", "programs", "I", false)
  | 9 => ("ToyPitchModel", "words", "[I", true)
  | 10 => ("ToyPitchModel", "values", "[I", true)
  | 11 => ("ToyPitchModel", "many", "I", false)
  | 12 => ("ToyPitchModel", "states", "[I", true)
  | 13 => ("ToyPitchModel", "begins", "[I", true)
  | 14 => ("ToyPitchModel", "stateName", "[J", true)
  | 15 => ("ToyPitchModel", "names", "I", false)
  | 16 => ("ToyPitchModel", "nameCode", "[J", true)
  | 17 => ("ToyPitchModel", "nameFrom", "[I", true)
  | 18 => ("ToyPitchModel", "nameWord", "[I", true)
  | 19 => ("ToyPitchModel", "nameIsState", "[Z", true)
  | 20 => ("ToyPitchModel", "terms", "I", false)
  | 21 => ("ToyPitchModel", "findings", "[I", true)
  | 22 => ("ToyPitchModel", "programOf", "[I", true)
  | 23 => ("ToyPitchModel", "startX", "[I", true)
  | 24 => ("ToyPitchModel", "startY", "[I", true)
  | 25 => ("ToyPitchModel", "lateOf", "[I", true)
  | 26 => ("ToyPitchModel", "lostOf", "[I", true)
  | 27 => ("ToyPitchModel", "m", "[I", false)
  | 28 => ("ToyPitchModel", "other", "[I", false)
  | 29 => ("ToyPitchModel", "kept", "[I", true)
  | 30 => ("ToyPitchModel", "placed", "I", false)
  | 31 => ("ToyPitchModel", "putX", "I", false)
  | 32 => ("ToyPitchModel", "putY", "I", false)
  | 33 => ("ToyPitchModel", "runs", "I", false)
  | 34 => ("ToyPitchModel", "base", "I", false)
  | 35 => ("ToyPitchModel", "here", "I", false)
  | 36 => ("ToyPitchModel", "steps", "I", false)
  | 37 => ("ToyPitchModel", "over", "Z", false)
  | 38 => ("ToyPitchModel", "commandX", "[I", true)
  | 39 => ("ToyPitchModel", "commandY", "[I", true)
  | 40 => ("ToyPitchModel", "commandPower", "[I", true)
  | 41 => ("ToyPitchModel", "gone", "I", false)
  | 42 => ("ToyPitchModel", "played", "I", false)
  | 43 => ("ToyPitchModel", "points", "[I", true)
  | 44 => ("ToyPitchModel", "shot", "[I", true)
  | 45 => ("ToyPitchModel", "against", "[I", true)
  | 46 => ("ToyPitchModel", "tells", "I", false)
  | _ => ("ToyPitchModel", "told", "[I", true)
def tyX11 : Nat → FieldType := fun k => match k with
  | 0 => .array .int
  | 1 => .int
  | 2 => .int
  | 3 => .int
  | 4 => .int
  | 5 => .int
  | 6 => .int
  | 7 => .long
  | 8 => .int
  | 9 => .array .int
  | 10 => .array .int
  | 11 => .int
  | 12 => .array .int
  | 13 => .array .int
  | 14 => .array .long
  | 15 => .int
  | 16 => .array .long
  | 17 => .array .int
  | 18 => .array .int
  | 19 => .array .boolean
  | 20 => .int
  | 21 => .array .int
  | 22 => .array .int
  | 23 => .array .int
  | 24 => .array .int
  | 25 => .array .int
  | 26 => .array .int
  | 27 => .array .int
  | 28 => .array .int
  | 29 => .array .int
  | 30 => .int
  | 31 => .int
  | 32 => .int
  | 33 => .int
  | 34 => .int
  | 35 => .int
  | 36 => .int
  | 37 => .boolean
  | 38 => .array .int
  | 39 => .array .int
  | 40 => .array .int
  | 41 => .int
  | 42 => .int
  | 43 => .array .int
  | 44 => .array .int
  | 45 => .array .int
  | 46 => .int
  | _ => .array .int
theorem nmX11 : ∀ a, a < 48 → ∀ b, b < 48 → a ≠ b → (TX11 a).2.1 ≠ (TX11 b).2.1 := by decide +kernel
theorem tyX11_ok : ∀ k, k < 48 → parseFieldDescriptor (TX11 k).2.2.1 = some (tyX11 k) := by decide +kernel
abbrev cX11_isLetter : ByteArray := prog_13_method_1_code
def yX11_isLetter : MethodName := ⟨RX11, "isLetter", "(I)Z"⟩
abbrev cX11_isFigure : ByteArray := prog_13_method_2_code
def yX11_isFigure : MethodName := ⟨RX11, "isFigure", "(I)Z"⟩
abbrev cX11_isSign : ByteArray := prog_13_method_3_code
def yX11_isSign : MethodName := ⟨RX11, "isSign", "(I)Z"⟩
abbrev cX11_at : ByteArray := prog_13_method_4_code
def yX11_at : MethodName := ⟨RX11, "at", "(I)I"⟩
abbrev cX11_word : ByteArray := prog_13_method_5_code
def yX11_word : MethodName := ⟨RX11, "word", "()V"⟩
abbrev cX11_letters : ByteArray := prog_13_method_6_code
def yX11_letters : MethodName := ⟨RX11, "letters", "()V"⟩
abbrev cX11_figures : ByteArray := prog_13_method_7_code
def yX11_figures : MethodName := ⟨RX11, "figures", "()V"⟩
abbrev cX11_findWord : ByteArray := prog_13_method_8_code
def yX11_findWord : MethodName := ⟨RX11, "findWord", "()V"⟩
abbrev cX11_wrong : ByteArray := prog_13_method_9_code
def yX11_wrong : MethodName := ⟨RX11, "wrong", "()Z"⟩
abbrev cX11_keepWord : ByteArray := prog_13_method_10_code
def yX11_keepWord : MethodName := ⟨RX11, "keepWord", "()Z"⟩
abbrev cX11_is : ByteArray := prog_13_method_11_code
def yX11_is : MethodName := ⟨RX11, "is", "(I)Z"⟩
abbrev cX11_name : ByteArray := prog_13_method_12_code
def yX11_name : MethodName := ⟨RX11, "name", "(Z)Z"⟩
abbrev cX11_term : ByteArray := prog_13_method_13_code
def yX11_term : MethodName := ⟨RX11, "term", "()Z"⟩
abbrev cX11_product : ByteArray := prog_13_method_14_code
def yX11_product : MethodName := ⟨RX11, "product", "()Z"⟩
abbrev cX11_sum : ByteArray := prog_13_method_15_code
def yX11_sum : MethodName := ⟨RX11, "sum", "()Z"⟩
abbrev cX11_test : ByteArray := prog_13_method_16_code
def yX11_test : MethodName := ⟨RX11, "test", "()Z"⟩
abbrev cX11_act : ByteArray := prog_13_method_17_code
def yX11_act : MethodName := ⟨RX11, "act", "()Z"⟩
abbrev cX11_rule : ByteArray := prog_13_method_18_code
def yX11_rule : MethodName := ⟨RX11, "rule", "()Z"⟩
abbrev cX11_state : ByteArray := prog_13_method_19_code
def yX11_state : MethodName := ⟨RX11, "state", "()Z"⟩
abbrev cX11_findNames : ByteArray := prog_13_method_20_code
def yX11_findNames : MethodName := ⟨RX11, "findNames", "()V"⟩
abbrev cX11_feed : ByteArray := prog_13_method_21_code
def yX11_feed : MethodName := ⟨RX11, "feed", "(JI)I"⟩
abbrev cX11_read : ByteArray := prog_13_method_22_code
def yX11_read : MethodName := ⟨RX11, "read", "()I"⟩
abbrev cX11_fault : ByteArray := prog_13_method_23_code
def yX11_fault : MethodName := ⟨RX11, "fault", "()I"⟩
abbrev cX11_finding : ByteArray := prog_13_method_24_code
def yX11_finding : MethodName := ⟨RX11, "finding", "(I)I"⟩
abbrev cX11_in : ByteArray := prog_13_method_25_code
def yX11_in : MethodName := ⟨RX11, "in", "(III)Z"⟩
abbrev cX11_init : ByteArray := prog_13_method_26_code
def yX11_init : MethodName := ⟨RX11, "<init>", "()V"⟩
abbrev cX11_isTeam : ByteArray := prog_13_method_27_code
def yX11_isTeam : MethodName := ⟨RX11, "isTeam", "(I)Z"⟩
abbrev cX11_program : ByteArray := prog_13_method_28_code
def yX11_program : MethodName := ⟨RX11, "program", "(III)I"⟩
abbrev cX11_start : ByteArray := prog_13_method_29_code
def yX11_start : MethodName := ⟨RX11, "start", "(IIII)I"⟩
abbrev cX11_views : ByteArray := prog_13_method_30_code
def yX11_views : MethodName := ⟨RX11, "views", "(III)I"⟩
abbrev cX11_of : ByteArray := prog_13_method_31_code
def yX11_of : MethodName := ⟨RX11, "of", "(II)I"⟩
abbrev cX11_set : ByteArray := prog_13_method_32_code
def yX11_set : MethodName := ⟨RX11, "set", "(III)V"⟩
abbrev cX11_robotAt : ByteArray := prog_13_method_33_code
def yX11_robotAt : MethodName := ⟨RX11, "robotAt", "(III)I"⟩
abbrev cX11_distance : ByteArray := prog_13_method_34_code
def yX11_distance : MethodName := ⟨RX11, "distance", "(IIII)I"⟩
abbrev cX11_findPut : ByteArray := prog_13_method_35_code
def yX11_findPut : MethodName := ⟨RX11, "findPut", "(III)V"⟩
abbrev cX11_putAtStart : ByteArray := prog_13_method_36_code
def yX11_putAtStart : MethodName := ⟨RX11, "putAtStart", "(I)V"⟩
abbrev cX11_lay : ByteArray := prog_13_method_37_code
def yX11_lay : MethodName := ⟨RX11, "lay", "()V"⟩
abbrev cX11_stopBall : ByteArray := prog_13_method_38_code
def yX11_stopBall : MethodName := ⟨RX11, "stopBall", "()V"⟩
abbrev cX11_kickOff : ByteArray := prog_13_method_39_code
def yX11_kickOff : MethodName := ⟨RX11, "kickOff", "(I)V"⟩
abbrev cX11_beginMatch : ByteArray := prog_13_method_40_code
def yX11_beginMatch : MethodName := ⟨RX11, "beginMatch", "(II)V"⟩
abbrev cX11_begin : ByteArray := prog_13_method_41_code
def yX11_begin : MethodName := ⟨RX11, "begin", "(II)I"⟩
abbrev cX11_step : ByteArray := prog_13_method_42_code
def yX11_step : MethodName := ⟨RX11, "step", "()V"⟩
abbrev cX11_here : ByteArray := prog_13_method_43_code
def yX11_here : MethodName := ⟨RX11, "here", "()I"⟩
abbrev cX11_seenX : ByteArray := prog_13_method_44_code
def yX11_seenX : MethodName := ⟨RX11, "seenX", "(I)I"⟩
abbrev cX11_seenY : ByteArray := prog_13_method_45_code
def yX11_seenY : MethodName := ⟨RX11, "seenY", "(I)I"⟩
abbrev cX11_sensor : ByteArray := prog_13_method_46_code
def yX11_sensor : MethodName := ⟨RX11, "sensor", "(I)I"⟩
abbrev cX11_otherRobot : ByteArray := prog_13_method_47_code
def yX11_otherRobot : MethodName := ⟨RX11, "otherRobot", "(II)I"⟩
abbrev cX11_termOf : ByteArray := prog_13_method_48_code
def yX11_termOf : MethodName := ⟨RX11, "termOf", "()I"⟩
abbrev cX11_productOf : ByteArray := prog_13_method_49_code
def yX11_productOf : MethodName := ⟨RX11, "productOf", "()I"⟩
abbrev cX11_sumOf : ByteArray := prog_13_method_50_code
def yX11_sumOf : MethodName := ⟨RX11, "sumOf", "()I"⟩
abbrev cX11_testHolds : ByteArray := prog_13_method_51_code
def yX11_testHolds : MethodName := ⟨RX11, "testHolds", "()Z"⟩
abbrev cX11_sign : ByteArray := prog_13_method_52_code
def yX11_sign : MethodName := ⟨RX11, "sign", "(I)I"⟩
abbrev cX11_goes : ByteArray := prog_13_method_53_code
def yX11_goes : MethodName := ⟨RX11, "goes", "(IIII)V"⟩
abbrev cX11_actEnds : ByteArray := prog_13_method_54_code
def yX11_actEnds : MethodName := ⟨RX11, "actEnds", "()Z"⟩
abbrev cX11_runRules : ByteArray := prog_13_method_55_code
def yX11_runRules : MethodName := ⟨RX11, "runRules", "()V"⟩
abbrev cX11_see : ByteArray := prog_13_method_56_code
def yX11_see : MethodName := ⟨RX11, "see", "(I)V"⟩
abbrev cX11_run : ByteArray := prog_13_method_57_code
def yX11_run : MethodName := ⟨RX11, "run", "(I)V"⟩
abbrev cX11_hold : ByteArray := prog_13_method_58_code
def yX11_hold : MethodName := ⟨RX11, "hold", "(I)V"⟩
abbrev cX11_doCommand : ByteArray := prog_13_method_59_code
def yX11_doCommand : MethodName := ⟨RX11, "doCommand", "(I)V"⟩
abbrev cX11_roll : ByteArray := prog_13_method_60_code
def yX11_roll : MethodName := ⟨RX11, "roll", "()I"⟩
abbrev cX11_scored : ByteArray := prog_13_method_61_code
def yX11_scored : MethodName := ⟨RX11, "scored", "(I)V"⟩
abbrev cX11_sleeps : ByteArray := prog_13_method_62_code
def yX11_sleeps : MethodName := ⟨RX11, "sleeps", "()I"⟩
abbrev cX11_nearestFoe : ByteArray := prog_13_method_63_code
def yX11_nearestFoe : MethodName := ⟨RX11, "nearestFoe", "(I)I"⟩
abbrev cX11_crowded : ByteArray := prog_13_method_64_code
def yX11_crowded : MethodName := ⟨RX11, "crowded", "(I)I"⟩
abbrev cX11_law : ByteArray := prog_13_method_65_code
def yX11_law : MethodName := ⟨RX11, "law", "(I)I"⟩
abbrev cX11_tickOnce : ByteArray := prog_13_method_66_code
def yX11_tickOnce : MethodName := ⟨RX11, "tickOnce", "()I"⟩
abbrev cX11_isMatch : ByteArray := prog_13_method_67_code
def yX11_isMatch : MethodName := ⟨RX11, "isMatch", "()Z"⟩
abbrev cX11_tick : ByteArray := prog_13_method_68_code
def yX11_tick : MethodName := ⟨RX11, "tick", "(I)I"⟩
abbrev cX11_ball : ByteArray := prog_13_method_69_code
def yX11_ball : MethodName := ⟨RX11, "ball", "(I)I"⟩
abbrev cX11_ballOf : ByteArray := prog_13_method_70_code
def yX11_ballOf : MethodName := ⟨RX11, "ballOf", "([III)I"⟩
abbrev cX11_robot : ByteArray := prog_13_method_71_code
def yX11_robot : MethodName := ⟨RX11, "robot", "(II)I"⟩
abbrev cX11_score : ByteArray := prog_13_method_72_code
def yX11_score : MethodName := ⟨RX11, "score", "(I)I"⟩
abbrev cX11_goal : ByteArray := prog_13_method_73_code
def yX11_goal : MethodName := ⟨RX11, "goal", "(I)I"⟩
abbrev cX11_keep : ByteArray := prog_13_method_74_code
def yX11_keep : MethodName := ⟨RX11, "keep", "(I)I"⟩
abbrev cX11_back : ByteArray := prog_13_method_75_code
def yX11_back : MethodName := ⟨RX11, "back", "(I)I"⟩
abbrev cX11_robotIn : ByteArray := prog_13_method_76_code
def yX11_robotIn : MethodName := ⟨RX11, "robotIn", "([IIII)I"⟩
abbrev cX11_differ : ByteArray := prog_13_method_77_code
def yX11_differ : MethodName := ⟨RX11, "differ", "(I)I"⟩
abbrev cX11_playOne : ByteArray := prog_13_method_78_code
def yX11_playOne : MethodName := ⟨RX11, "playOne", "(III)V"⟩
abbrev cX11_league : ByteArray := prog_13_method_79_code
def yX11_league : MethodName := ⟨RX11, "league", "(II)I"⟩
abbrev cX11_hasPlayed : ByteArray := prog_13_method_80_code
def yX11_hasPlayed : MethodName := ⟨RX11, "hasPlayed", "(I)Z"⟩
abbrev cX11_table : ByteArray := prog_13_method_81_code
def yX11_table : MethodName := ⟨RX11, "table", "(II)I"⟩
abbrev cX11_isAhead : ByteArray := prog_13_method_82_code
def yX11_isAhead : MethodName := ⟨RX11, "isAhead", "(II)Z"⟩
abbrev cX11_order : ByteArray := prog_13_method_83_code
def yX11_order : MethodName := ⟨RX11, "order", "(I)I"⟩
abbrev cX11_tell : ByteArray := prog_13_method_84_code
def yX11_tell : MethodName := ⟨RX11, "tell", "(I)I"⟩
abbrev cX11_check : ByteArray := prog_13_method_85_code
def yX11_check : MethodName := ⟨RX11, "check", "()I"⟩
abbrev cX11_count : ByteArray := prog_13_method_86_code
def yX11_count : MethodName := ⟨RX11, "count", "(I)I"⟩
abbrev cX11_found : ByteArray := prog_13_method_87_code
def yX11_found : MethodName := ⟨RX11, "found", "(I)I"⟩
def RJ11 : String := "java/lang/Character"
abbrev cJ11_isValidCodePoint_9a6ad : ByteArray := prog_14_method_11_code
def yJ11_isValidCodePoint_9a6ad : MethodName := ⟨RJ11, "isValidCodePoint", "(I)Z"⟩
abbrev cJ11_highSurrogate_5068e : ByteArray := prog_14_method_28_code
def yJ11_highSurrogate_5068e : MethodName := ⟨RJ11, "highSurrogate", "(I)C"⟩
abbrev cJ11_lowSurrogate_5068e : ByteArray := prog_14_method_29_code
def yJ11_lowSurrogate_5068e : MethodName := ⟨RJ11, "lowSurrogate", "(I)C"⟩
def RJ6 : String := "java/lang/Integer"
abbrev cJ6_bitCount_0f7a4 : ByteArray := prog_15_method_49_code
def yJ6_bitCount_0f7a4 : MethodName := ⟨RJ6, "bitCount", "(I)I"⟩
def RJ9 : String := "java/lang/Math"
abbrev cJ9_abs_0f7a4 : ByteArray := prog_16_method_59_code
def yJ9_abs_0f7a4 : MethodName := ⟨RJ9, "abs", "(I)I"⟩
abbrev cJ9_max_7cf53 : ByteArray := prog_16_method_65_code
def yJ9_max_7cf53 : MethodName := ⟨RJ9, "max", "(II)I"⟩
abbrev cJ9_min_7cf53 : ByteArray := prog_16_method_69_code
def yJ9_min_7cf53 : MethodName := ⟨RJ9, "min", "(II)I"⟩
def RJ0 : String := "java/lang/String"
abbrev cJ0_length_8abf5 : ByteArray := prog_17_method_54_code
def yJ0_length_8abf5 : MethodName := ⟨RJ0, "length", "()I"⟩
abbrev cJ0_charAt_5068e : ByteArray := prog_17_method_56_code
def yJ0_charAt_5068e : MethodName := ⟨RJ0, "charAt", "(I)C"⟩
abbrev cJ0_indexOf_0f7a4 : ByteArray := prog_17_method_79_code
def yJ0_indexOf_0f7a4 : MethodName := ⟨RJ0, "indexOf", "(I)I"⟩
abbrev cJ0_indexOf_7cf53 : ByteArray := prog_17_method_80_code
def yJ0_indexOf_7cf53 : MethodName := ⟨RJ0, "indexOf", "(II)I"⟩
abbrev cJ0_coder_7d493 : ByteArray := prog_17_method_152_code
def yJ0_coder_7d493 : MethodName := ⟨RJ0, "coder", "()B"⟩
abbrev cJ0_isLatin1_aae02 : ByteArray := prog_17_method_154_code
def yJ0_isLatin1_aae02 : MethodName := ⟨RJ0, "isLatin1", "()Z"⟩
abbrev cJ0_checkIndex_df160 : ByteArray := prog_17_method_155_code
def yJ0_checkIndex_df160 : MethodName := ⟨RJ0, "checkIndex", "(II)V"⟩
abbrev cJ0_checkBoundsBeginEnd_23922 : ByteArray := prog_17_method_158_code
def yJ0_checkBoundsBeginEnd_23922 : MethodName := ⟨RJ0, "checkBoundsBeginEnd", "(III)V"⟩
def RJ1 : String := "java/lang/StringLatin1"
abbrev cJ1_charAt_3b067 : ByteArray := prog_18_method_2_code
def yJ1_charAt_3b067 : MethodName := ⟨RJ1, "charAt", "([BI)C"⟩
abbrev cJ1_canEncode_9a6ad : ByteArray := prog_18_method_4_code
def yJ1_canEncode_9a6ad : MethodName := ⟨RJ1, "canEncode", "(I)Z"⟩
abbrev cJ1_indexOf_4cfef : ByteArray := prog_18_method_22_code
def yJ1_indexOf_4cfef : MethodName := ⟨RJ1, "indexOf", "([BIII)I"⟩
abbrev cJ1_indexOfChar_4cfef : ByteArray := prog_18_method_23_code
def yJ1_indexOfChar_4cfef : MethodName := ⟨RJ1, "indexOfChar", "([BIII)I"⟩
def RJ2 : String := "java/lang/StringUTF16"
abbrev cJ2_getChar_3b067 : ByteArray := prog_19_method_5_code
def yJ2_getChar_3b067 : MethodName := ⟨RJ2, "getChar", "([BI)C"⟩
abbrev cJ2_length_9d52b : ByteArray := prog_19_method_6_code
def yJ2_length_9d52b : MethodName := ⟨RJ2, "length", "([B)I"⟩
abbrev cJ2_indexOf_4cfef : ByteArray := prog_19_method_40_code
def yJ2_indexOf_4cfef : MethodName := ⟨RJ2, "indexOf", "([BIII)I"⟩
abbrev cJ2_indexOfChar_4cfef : ByteArray := prog_19_method_47_code
def yJ2_indexOfChar_4cfef : MethodName := ⟨RJ2, "indexOfChar", "([BIII)I"⟩
abbrev cJ2_indexOfCharUnsafe_4cfef : ByteArray := prog_19_method_48_code
def yJ2_indexOfCharUnsafe_4cfef : MethodName := ⟨RJ2, "indexOfCharUnsafe", "([BIII)I"⟩
abbrev cJ2_indexOfSupplementary_4cfef : ByteArray := prog_19_method_49_code
def yJ2_indexOfSupplementary_4cfef : MethodName := ⟨RJ2, "indexOfSupplementary", "([BIII)I"⟩
abbrev cJ2_charAt_3b067 : ByteArray := prog_19_method_83_code
def yJ2_charAt_3b067 : MethodName := ⟨RJ2, "charAt", "([BI)C"⟩
abbrev cJ2_checkIndex_2214a : ByteArray := prog_19_method_91_code
def yJ2_checkIndex_2214a : MethodName := ⟨RJ2, "checkIndex", "(I[B)V"⟩
abbrev cJ2_checkBoundsBeginEnd_d044e : ByteArray := prog_19_method_93_code
def yJ2_checkBoundsBeginEnd_d044e : MethodName := ⟨RJ2, "checkBoundsBeginEnd", "(II[B)V"⟩
def RJ10 : String := "java/lang/System"
def RJ3 : String := "jdk/internal/util/Preconditions"
abbrev cJ3_checkIndex_8e157 : ByteArray := prog_21_method_11_code
def yJ3_checkIndex_8e157 : MethodName := ⟨RJ3, "checkIndex", "(IILjava/util/function/BiFunction;)I"⟩
abbrev cJ3_checkFromToIndex_8c36e : ByteArray := prog_21_method_12_code
def yJ3_checkFromToIndex_8c36e : MethodName := ⟨RJ3, "checkFromToIndex", "(IIILjava/util/function/BiFunction;)I"⟩
