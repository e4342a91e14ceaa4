-- ===== PART A: goes FIRST, ahead of the names: the tables' words, and 'selects' of the private methods out of them =====
/-- a private method of a class that the tables say can be made, by its rows of tables_1 -/
def lw_okq (q : MethodName × Nat) : Prop := (q.1.cls ≠ "java/lang/invoke/MethodHandle" ∧ q.1.cls ≠ "java/lang/invoke/VarHandle") ∧ Cond.instantiable q.1.cls q.2 ∈ tables_1 ∧ Cond.privateMethod q.1 ∈ tables_1 ∧ Cond.instanceMethod q.1 ∈ tables_1
theorem lw_p0 : lw_okq (⟨"StackStates$Program", "parseInstruction", "(LStackStates$Text;I)I"⟩, 9) := ⟨⟨by decide +kernel, by decide +kernel⟩, List.mem_of_getElem? (i := 141) (by decide +kernel), List.mem_of_getElem? (i := 376) (by decide +kernel), List.mem_of_getElem? (i := 377) (by decide +kernel)⟩
theorem lw_p1 : lw_okq (⟨"StackStates$Program", "nextToConsider", "()I"⟩, 9) := ⟨⟨by decide +kernel, by decide +kernel⟩, List.mem_of_getElem? (i := 141) (by decide +kernel), List.mem_of_getElem? (i := 466) (by decide +kernel), List.mem_of_getElem? (i := 467) (by decide +kernel)⟩
theorem lw_p2 : lw_okq (⟨"StackStates$Program", "passOn", "(ILStackStates$Causes;)Z"⟩, 9) := ⟨⟨by decide +kernel, by decide +kernel⟩, List.mem_of_getElem? (i := 141) (by decide +kernel), List.mem_of_getElem? (i := 474) (by decide +kernel), List.mem_of_getElem? (i := 475) (by decide +kernel)⟩
theorem lw_p3 : lw_okq (⟨"StackStates$Program", "accepts", "(II)Z"⟩, 9) := ⟨⟨by decide +kernel, by decide +kernel⟩, List.mem_of_getElem? (i := 141) (by decide +kernel), List.mem_of_getElem? (i := 489) (by decide +kernel), List.mem_of_getElem? (i := 490) (by decide +kernel)⟩
theorem lw_p4 : lw_okq (⟨"StackStates", "refresh", "()V"⟩, 8) := ⟨⟨by decide +kernel, by decide +kernel⟩, List.mem_of_getElem? (i := 19) (by decide +kernel), List.mem_of_getElem? (i := 497) (by decide +kernel), List.mem_of_getElem? (i := 498) (by decide +kernel)⟩
theorem lw_p5 : lw_okq (⟨"StackStates$Machine", "listStates", "()V"⟩, 9) := ⟨⟨by decide +kernel, by decide +kernel⟩, List.mem_of_getElem? (i := 104) (by decide +kernel), List.mem_of_getElem? (i := 505) (by decide +kernel), List.mem_of_getElem? (i := 506) (by decide +kernel)⟩
theorem lw_p6 : lw_okq (⟨"StackStates$Machine", "listState", "(II)V"⟩, 9) := ⟨⟨by decide +kernel, by decide +kernel⟩, List.mem_of_getElem? (i := 104) (by decide +kernel), List.mem_of_getElem? (i := 509) (by decide +kernel), List.mem_of_getElem? (i := 510) (by decide +kernel)⟩
theorem lw_p7 : lw_okq (⟨"StackStates$Machine", "cheapestPassage", "(II)I"⟩, 9) := ⟨⟨by decide +kernel, by decide +kernel⟩, List.mem_of_getElem? (i := 104) (by decide +kernel), List.mem_of_getElem? (i := 526) (by decide +kernel), List.mem_of_getElem? (i := 527) (by decide +kernel)⟩
theorem lw_p8 : lw_okq (⟨"StackStates$Machine", "goesRound", "(III)Z"⟩, 9) := ⟨⟨by decide +kernel, by decide +kernel⟩, List.mem_of_getElem? (i := 104) (by decide +kernel), List.mem_of_getElem? (i := 535) (by decide +kernel), List.mem_of_getElem? (i := 536) (by decide +kernel)⟩
theorem lw_p9 : lw_okq (⟨"StackStates$Machine", "keeps", "(III)Z"⟩, 9) := ⟨⟨by decide +kernel, by decide +kernel⟩, List.mem_of_getElem? (i := 104) (by decide +kernel), List.mem_of_getElem? (i := 539) (by decide +kernel), List.mem_of_getElem? (i := 540) (by decide +kernel)⟩
theorem lw_p10 : lw_okq (⟨"StackStates", "isInstruction", "(I)Z"⟩, 8) := ⟨⟨by decide +kernel, by decide +kernel⟩, List.mem_of_getElem? (i := 19) (by decide +kernel), List.mem_of_getElem? (i := 610) (by decide +kernel), List.mem_of_getElem? (i := 611) (by decide +kernel)⟩
theorem lw_p11 : lw_okq (⟨"StackStates", "isState", "(I)Z"⟩, 8) := ⟨⟨by decide +kernel, by decide +kernel⟩, List.mem_of_getElem? (i := 19) (by decide +kernel), List.mem_of_getElem? (i := 665) (by decide +kernel), List.mem_of_getElem? (i := 666) (by decide +kernel)⟩
theorem lw_p12 : lw_okq (⟨"StackStates$Machine", "worksInRegisters", "(II)Z"⟩, 9) := ⟨⟨by decide +kernel, by decide +kernel⟩, List.mem_of_getElem? (i := 104) (by decide +kernel), List.mem_of_getElem? (i := 690) (by decide +kernel), List.mem_of_getElem? (i := 691) (by decide +kernel)⟩
theorem lw_p13 : lw_okq (⟨"StackStates$Chooser", "prepare", "()V"⟩, 19) := ⟨⟨by decide +kernel, by decide +kernel⟩, List.mem_of_getElem? (i := 189) (by decide +kernel), List.mem_of_getElem? (i := 720) (by decide +kernel), List.mem_of_getElem? (i := 721) (by decide +kernel)⟩
theorem lw_p14 : lw_okq (⟨"StackStates$Chooser", "listLegal", "(I)V"⟩, 19) := ⟨⟨by decide +kernel, by decide +kernel⟩, List.mem_of_getElem? (i := 189) (by decide +kernel), List.mem_of_getElem? (i := 725) (by decide +kernel), List.mem_of_getElem? (i := 726) (by decide +kernel)⟩
theorem lw_p15 : lw_okq (⟨"StackStates$Chooser", "listExit", "(II)V"⟩, 19) := ⟨⟨by decide +kernel, by decide +kernel⟩, List.mem_of_getElem? (i := 189) (by decide +kernel), List.mem_of_getElem? (i := 734) (by decide +kernel), List.mem_of_getElem? (i := 735) (by decide +kernel)⟩
def lw_privs_1 : List (MethodName × Nat) := [(⟨"StackStates$Program", "parseInstruction", "(LStackStates$Text;I)I"⟩, 9), (⟨"StackStates$Program", "nextToConsider", "()I"⟩, 9), (⟨"StackStates$Program", "passOn", "(ILStackStates$Causes;)Z"⟩, 9), (⟨"StackStates$Program", "accepts", "(II)Z"⟩, 9), (⟨"StackStates", "refresh", "()V"⟩, 8), (⟨"StackStates$Machine", "listStates", "()V"⟩, 9), (⟨"StackStates$Machine", "listState", "(II)V"⟩, 9), (⟨"StackStates$Machine", "cheapestPassage", "(II)I"⟩, 9), (⟨"StackStates$Machine", "goesRound", "(III)Z"⟩, 9), (⟨"StackStates$Machine", "keeps", "(III)Z"⟩, 9), (⟨"StackStates", "isInstruction", "(I)Z"⟩, 8), (⟨"StackStates", "isState", "(I)Z"⟩, 8), (⟨"StackStates$Machine", "worksInRegisters", "(II)Z"⟩, 9), (⟨"StackStates$Chooser", "prepare", "()V"⟩, 19), (⟨"StackStates$Chooser", "listLegal", "(I)V"⟩, 19), (⟨"StackStates$Chooser", "listExit", "(II)V"⟩, 19)]
theorem lw_r1 : ∀ q ∈ lw_privs_1, lw_okq q := List.forall_mem_cons.mpr ⟨lw_p0, List.forall_mem_cons.mpr ⟨lw_p1, List.forall_mem_cons.mpr ⟨lw_p2, List.forall_mem_cons.mpr ⟨lw_p3, List.forall_mem_cons.mpr ⟨lw_p4, List.forall_mem_cons.mpr ⟨lw_p5, List.forall_mem_cons.mpr ⟨lw_p6, List.forall_mem_cons.mpr ⟨lw_p7, List.forall_mem_cons.mpr ⟨lw_p8, List.forall_mem_cons.mpr ⟨lw_p9, List.forall_mem_cons.mpr ⟨lw_p10, List.forall_mem_cons.mpr ⟨lw_p11, List.forall_mem_cons.mpr ⟨lw_p12, List.forall_mem_cons.mpr ⟨lw_p13, List.forall_mem_cons.mpr ⟨lw_p14, List.forall_mem_cons.mpr ⟨lw_p15, fun _ h => absurd h List.not_mem_nil⟩⟩⟩⟩⟩⟩⟩⟩⟩⟩⟩⟩⟩⟩⟩⟩
theorem lw_p16 : lw_okq (⟨"StackStates$Chooser", "tryAllPins", "(Z)V"⟩, 19) := ⟨⟨by decide +kernel, by decide +kernel⟩, List.mem_of_getElem? (i := 189) (by decide +kernel), List.mem_of_getElem? (i := 738) (by decide +kernel), List.mem_of_getElem? (i := 739) (by decide +kernel)⟩
theorem lw_p17 : lw_okq (⟨"StackStates$Chooser", "pinCount", "(I)I"⟩, 19) := ⟨⟨by decide +kernel, by decide +kernel⟩, List.mem_of_getElem? (i := 189) (by decide +kernel), List.mem_of_getElem? (i := 747) (by decide +kernel), List.mem_of_getElem? (i := 748) (by decide +kernel)⟩
theorem lw_p18 : lw_okq (⟨"StackStates$Chooser", "pin", "(II)V"⟩, 19) := ⟨⟨by decide +kernel, by decide +kernel⟩, List.mem_of_getElem? (i := 189) (by decide +kernel), List.mem_of_getElem? (i := 751) (by decide +kernel), List.mem_of_getElem? (i := 752) (by decide +kernel)⟩
theorem lw_p19 : lw_okq (⟨"StackStates$Chooser", "walkBack", "()V"⟩, 19) := ⟨⟨by decide +kernel, by decide +kernel⟩, List.mem_of_getElem? (i := 189) (by decide +kernel), List.mem_of_getElem? (i := 755) (by decide +kernel), List.mem_of_getElem? (i := 756) (by decide +kernel)⟩
theorem lw_p20 : lw_okq (⟨"StackStates$Chooser", "leaving", "(II)I"⟩, 19) := ⟨⟨by decide +kernel, by decide +kernel⟩, List.mem_of_getElem? (i := 189) (by decide +kernel), List.mem_of_getElem? (i := 759) (by decide +kernel), List.mem_of_getElem? (i := 760) (by decide +kernel)⟩
theorem lw_p21 : lw_okq (⟨"StackStates$Chooser", "leading", "(II)I"⟩, 19) := ⟨⟨by decide +kernel, by decide +kernel⟩, List.mem_of_getElem? (i := 189) (by decide +kernel), List.mem_of_getElem? (i := 764) (by decide +kernel), List.mem_of_getElem? (i := 765) (by decide +kernel)⟩
theorem lw_p22 : lw_okq (⟨"StackStates$Chooser", "falling", "(II)I"⟩, 19) := ⟨⟨by decide +kernel, by decide +kernel⟩, List.mem_of_getElem? (i := 189) (by decide +kernel), List.mem_of_getElem? (i := 769) (by decide +kernel), List.mem_of_getElem? (i := 770) (by decide +kernel)⟩
theorem lw_p23 : lw_okq (⟨"StackStates$Chooser", "fallingTo", "(III)I"⟩, 19) := ⟨⟨by decide +kernel, by decide +kernel⟩, List.mem_of_getElem? (i := 189) (by decide +kernel), List.mem_of_getElem? (i := 773) (by decide +kernel), List.mem_of_getElem? (i := 774) (by decide +kernel)⟩
theorem lw_p24 : lw_okq (⟨"StackStates$Chooser", "total", "()I"⟩, 19) := ⟨⟨by decide +kernel, by decide +kernel⟩, List.mem_of_getElem? (i := 189) (by decide +kernel), List.mem_of_getElem? (i := 777) (by decide +kernel), List.mem_of_getElem? (i := 778) (by decide +kernel)⟩
theorem lw_p25 : lw_okq (⟨"StackStates$Chooser", "walkForth", "(I)V"⟩, 19) := ⟨⟨by decide +kernel, by decide +kernel⟩, List.mem_of_getElem? (i := 189) (by decide +kernel), List.mem_of_getElem? (i := 785) (by decide +kernel), List.mem_of_getElem? (i := 786) (by decide +kernel)⟩
theorem lw_p26 : lw_okq (⟨"StackStates$Chooser", "noteLeast", "(II)V"⟩, 19) := ⟨⟨by decide +kernel, by decide +kernel⟩, List.mem_of_getElem? (i := 189) (by decide +kernel), List.mem_of_getElem? (i := 789) (by decide +kernel), List.mem_of_getElem? (i := 790) (by decide +kernel)⟩
theorem lw_p27 : lw_okq (⟨"StackStates$Chooser", "carryForth", "(I)V"⟩, 19) := ⟨⟨by decide +kernel, by decide +kernel⟩, List.mem_of_getElem? (i := 189) (by decide +kernel), List.mem_of_getElem? (i := 794) (by decide +kernel), List.mem_of_getElem? (i := 795) (by decide +kernel)⟩
theorem lw_p28 : lw_okq (⟨"StackStates$Chooser", "cheapestEntry", "(II)I"⟩, 19) := ⟨⟨by decide +kernel, by decide +kernel⟩, List.mem_of_getElem? (i := 189) (by decide +kernel), List.mem_of_getElem? (i := 798) (by decide +kernel), List.mem_of_getElem? (i := 799) (by decide +kernel)⟩
theorem lw_p29 : lw_okq (⟨"StackStates$Chooser", "pick", "()V"⟩, 19) := ⟨⟨by decide +kernel, by decide +kernel⟩, List.mem_of_getElem? (i := 189) (by decide +kernel), List.mem_of_getElem? (i := 802) (by decide +kernel), List.mem_of_getElem? (i := 803) (by decide +kernel)⟩
theorem lw_p30 : lw_okq (⟨"StackStates$Run", "execute", "(II)I"⟩, 15) := ⟨⟨by decide +kernel, by decide +kernel⟩, List.mem_of_getElem? (i := 256) (by decide +kernel), List.mem_of_getElem? (i := 839) (by decide +kernel), List.mem_of_getElem? (i := 840) (by decide +kernel)⟩
theorem lw_p31 : lw_okq (⟨"StackStates$Run", "pop", "()I"⟩, 15) := ⟨⟨by decide +kernel, by decide +kernel⟩, List.mem_of_getElem? (i := 256) (by decide +kernel), List.mem_of_getElem? (i := 844) (by decide +kernel), List.mem_of_getElem? (i := 845) (by decide +kernel)⟩
def lw_privs_2 : List (MethodName × Nat) := [(⟨"StackStates$Chooser", "tryAllPins", "(Z)V"⟩, 19), (⟨"StackStates$Chooser", "pinCount", "(I)I"⟩, 19), (⟨"StackStates$Chooser", "pin", "(II)V"⟩, 19), (⟨"StackStates$Chooser", "walkBack", "()V"⟩, 19), (⟨"StackStates$Chooser", "leaving", "(II)I"⟩, 19), (⟨"StackStates$Chooser", "leading", "(II)I"⟩, 19), (⟨"StackStates$Chooser", "falling", "(II)I"⟩, 19), (⟨"StackStates$Chooser", "fallingTo", "(III)I"⟩, 19), (⟨"StackStates$Chooser", "total", "()I"⟩, 19), (⟨"StackStates$Chooser", "walkForth", "(I)V"⟩, 19), (⟨"StackStates$Chooser", "noteLeast", "(II)V"⟩, 19), (⟨"StackStates$Chooser", "carryForth", "(I)V"⟩, 19), (⟨"StackStates$Chooser", "cheapestEntry", "(II)I"⟩, 19), (⟨"StackStates$Chooser", "pick", "()V"⟩, 19), (⟨"StackStates$Run", "execute", "(II)I"⟩, 15), (⟨"StackStates$Run", "pop", "()I"⟩, 15)]
theorem lw_r2 : ∀ q ∈ lw_privs_2, lw_okq q := List.forall_mem_cons.mpr ⟨lw_p16, List.forall_mem_cons.mpr ⟨lw_p17, List.forall_mem_cons.mpr ⟨lw_p18, List.forall_mem_cons.mpr ⟨lw_p19, List.forall_mem_cons.mpr ⟨lw_p20, List.forall_mem_cons.mpr ⟨lw_p21, List.forall_mem_cons.mpr ⟨lw_p22, List.forall_mem_cons.mpr ⟨lw_p23, List.forall_mem_cons.mpr ⟨lw_p24, List.forall_mem_cons.mpr ⟨lw_p25, List.forall_mem_cons.mpr ⟨lw_p26, List.forall_mem_cons.mpr ⟨lw_p27, List.forall_mem_cons.mpr ⟨lw_p28, List.forall_mem_cons.mpr ⟨lw_p29, List.forall_mem_cons.mpr ⟨lw_p30, List.forall_mem_cons.mpr ⟨lw_p31, fun _ h => absurd h List.not_mem_nil⟩⟩⟩⟩⟩⟩⟩⟩⟩⟩⟩⟩⟩⟩⟩⟩
theorem lw_p32 : lw_okq (⟨"StackStates$Run", "push", "(I)V"⟩, 15) := ⟨⟨by decide +kernel, by decide +kernel⟩, List.mem_of_getElem? (i := 256) (by decide +kernel), List.mem_of_getElem? (i := 848) (by decide +kernel), List.mem_of_getElem? (i := 849) (by decide +kernel)⟩
theorem lw_p33 : lw_okq (⟨"StackStates$Run", "calculate", "(I)V"⟩, 15) := ⟨⟨by decide +kernel, by decide +kernel⟩, List.mem_of_getElem? (i := 256) (by decide +kernel), List.mem_of_getElem? (i := 852) (by decide +kernel), List.mem_of_getElem? (i := 853) (by decide +kernel)⟩
theorem lw_p34 : lw_okq (⟨"StackStates$Run", "rearrange", "(I)V"⟩, 15) := ⟨⟨by decide +kernel, by decide +kernel⟩, List.mem_of_getElem? (i := 256) (by decide +kernel), List.mem_of_getElem? (i := 856) (by decide +kernel), List.mem_of_getElem? (i := 857) (by decide +kernel)⟩
theorem lw_p35 : lw_okq (⟨"StackStatesModel", "lays", "(III)V"⟩, 55) := ⟨⟨by decide +kernel, by decide +kernel⟩, List.mem_of_getElem? (i := 904) (by decide +kernel), List.mem_of_getElem? (i := 910) (by decide +kernel), List.mem_of_getElem? (i := 911) (by decide +kernel)⟩
theorem lw_p36 : lw_okq (⟨"StackStatesModel", "takesProgram", "()V"⟩, 55) := ⟨⟨by decide +kernel, by decide +kernel⟩, List.mem_of_getElem? (i := 904) (by decide +kernel), List.mem_of_getElem? (i := 914) (by decide +kernel), List.mem_of_getElem? (i := 915) (by decide +kernel)⟩
theorem lw_p37 : lw_okq (⟨"StackStatesModel", "findsDepths", "()Z"⟩, 55) := ⟨⟨by decide +kernel, by decide +kernel⟩, List.mem_of_getElem? (i := 904) (by decide +kernel), List.mem_of_getElem? (i := 918) (by decide +kernel), List.mem_of_getElem? (i := 919) (by decide +kernel)⟩
theorem lw_p38 : lw_okq (⟨"StackStatesModel", "lowest", "()I"⟩, 55) := ⟨⟨by decide +kernel, by decide +kernel⟩, List.mem_of_getElem? (i := 904) (by decide +kernel), List.mem_of_getElem? (i := 922) (by decide +kernel), List.mem_of_getElem? (i := 923) (by decide +kernel)⟩
theorem lw_p39 : lw_okq (⟨"StackStatesModel", "takesOne", "(I)Z"⟩, 55) := ⟨⟨by decide +kernel, by decide +kernel⟩, List.mem_of_getElem? (i := 904) (by decide +kernel), List.mem_of_getElem? (i := 926) (by decide +kernel), List.mem_of_getElem? (i := 927) (by decide +kernel)⟩
theorem lw_p40 : lw_okq (⟨"StackStatesModel", "refuses", "(III)I"⟩, 55) := ⟨⟨by decide +kernel, by decide +kernel⟩, List.mem_of_getElem? (i := 904) (by decide +kernel), List.mem_of_getElem? (i := 936) (by decide +kernel), List.mem_of_getElem? (i := 937) (by decide +kernel)⟩
theorem lw_p41 : lw_okq (⟨"StackStatesModel", "finds", "()I"⟩, 55) := ⟨⟨by decide +kernel, by decide +kernel⟩, List.mem_of_getElem? (i := 904) (by decide +kernel), List.mem_of_getElem? (i := 1127) (by decide +kernel), List.mem_of_getElem? (i := 1128) (by decide +kernel)⟩
theorem lw_p42 : lw_okq (⟨"StackStatesModel", "reads", "()I"⟩, 55) := ⟨⟨by decide +kernel, by decide +kernel⟩, List.mem_of_getElem? (i := 904) (by decide +kernel), List.mem_of_getElem? (i := 1131) (by decide +kernel), List.mem_of_getElem? (i := 1132) (by decide +kernel)⟩
theorem lw_p43 : lw_okq (⟨"StackStatesModel", "isFigure", "(I)Z"⟩, 55) := ⟨⟨by decide +kernel, by decide +kernel⟩, List.mem_of_getElem? (i := 904) (by decide +kernel), List.mem_of_getElem? (i := 1141) (by decide +kernel), List.mem_of_getElem? (i := 1142) (by decide +kernel)⟩
theorem lw_p44 : lw_okq (⟨"StackStatesModel", "isCode", "(I)Z"⟩, 55) := ⟨⟨by decide +kernel, by decide +kernel⟩, List.mem_of_getElem? (i := 904) (by decide +kernel), List.mem_of_getElem? (i := 1157) (by decide +kernel), List.mem_of_getElem? (i := 1158) (by decide +kernel)⟩
theorem lw_p45 : lw_okq (⟨"StackStatesModel", "notes", "()V"⟩, 55) := ⟨⟨by decide +kernel, by decide +kernel⟩, List.mem_of_getElem? (i := 904) (by decide +kernel), List.mem_of_getElem? (i := 1165) (by decide +kernel), List.mem_of_getElem? (i := 1166) (by decide +kernel)⟩
theorem lw_p46 : lw_okq (⟨"StackStatesModel", "forgets", "()V"⟩, 55) := ⟨⟨by decide +kernel, by decide +kernel⟩, List.mem_of_getElem? (i := 904) (by decide +kernel), List.mem_of_getElem? (i := 1169) (by decide +kernel), List.mem_of_getElem? (i := 1170) (by decide +kernel)⟩
theorem lw_p47 : lw_okq (⟨"StackStatesModel", "laysStates", "()V"⟩, 55) := ⟨⟨by decide +kernel, by decide +kernel⟩, List.mem_of_getElem? (i := 904) (by decide +kernel), List.mem_of_getElem? (i := 1196) (by decide +kernel), List.mem_of_getElem? (i := 1197) (by decide +kernel)⟩
def lw_privs_3 : List (MethodName × Nat) := [(⟨"StackStates$Run", "push", "(I)V"⟩, 15), (⟨"StackStates$Run", "calculate", "(I)V"⟩, 15), (⟨"StackStates$Run", "rearrange", "(I)V"⟩, 15), (⟨"StackStatesModel", "lays", "(III)V"⟩, 55), (⟨"StackStatesModel", "takesProgram", "()V"⟩, 55), (⟨"StackStatesModel", "findsDepths", "()Z"⟩, 55), (⟨"StackStatesModel", "lowest", "()I"⟩, 55), (⟨"StackStatesModel", "takesOne", "(I)Z"⟩, 55), (⟨"StackStatesModel", "refuses", "(III)I"⟩, 55), (⟨"StackStatesModel", "finds", "()I"⟩, 55), (⟨"StackStatesModel", "reads", "()I"⟩, 55), (⟨"StackStatesModel", "isFigure", "(I)Z"⟩, 55), (⟨"StackStatesModel", "isCode", "(I)Z"⟩, 55), (⟨"StackStatesModel", "notes", "()V"⟩, 55), (⟨"StackStatesModel", "forgets", "()V"⟩, 55), (⟨"StackStatesModel", "laysStates", "()V"⟩, 55)]
theorem lw_r3 : ∀ q ∈ lw_privs_3, lw_okq q := List.forall_mem_cons.mpr ⟨lw_p32, List.forall_mem_cons.mpr ⟨lw_p33, List.forall_mem_cons.mpr ⟨lw_p34, List.forall_mem_cons.mpr ⟨lw_p35, List.forall_mem_cons.mpr ⟨lw_p36, List.forall_mem_cons.mpr ⟨lw_p37, List.forall_mem_cons.mpr ⟨lw_p38, List.forall_mem_cons.mpr ⟨lw_p39, List.forall_mem_cons.mpr ⟨lw_p40, List.forall_mem_cons.mpr ⟨lw_p41, List.forall_mem_cons.mpr ⟨lw_p42, List.forall_mem_cons.mpr ⟨lw_p43, List.forall_mem_cons.mpr ⟨lw_p44, List.forall_mem_cons.mpr ⟨lw_p45, List.forall_mem_cons.mpr ⟨lw_p46, List.forall_mem_cons.mpr ⟨lw_p47, fun _ h => absurd h List.not_mem_nil⟩⟩⟩⟩⟩⟩⟩⟩⟩⟩⟩⟩⟩⟩⟩⟩
theorem lw_p48 : lw_okq (⟨"StackStatesModel", "adds", "(IIII)V"⟩, 55) := ⟨⟨by decide +kernel, by decide +kernel⟩, List.mem_of_getElem? (i := 904) (by decide +kernel), List.mem_of_getElem? (i := 1200) (by decide +kernel), List.mem_of_getElem? (i := 1201) (by decide +kernel)⟩
theorem lw_p49 : lw_okq (⟨"StackStatesModel", "isState", "(I)Z"⟩, 55) := ⟨⟨by decide +kernel, by decide +kernel⟩, List.mem_of_getElem? (i := 904) (by decide +kernel), List.mem_of_getElem? (i := 1208) (by decide +kernel), List.mem_of_getElem? (i := 1209) (by decide +kernel)⟩
theorem lw_p50 : lw_okq (⟨"StackStatesModel", "hasVersion", "(II)Z"⟩, 55) := ⟨⟨by decide +kernel, by decide +kernel⟩, List.mem_of_getElem? (i := 904) (by decide +kernel), List.mem_of_getElem? (i := 1216) (by decide +kernel), List.mem_of_getElem? (i := 1217) (by decide +kernel)⟩
theorem lw_p51 : lw_okq (⟨"StackStatesModel", "turnsRegisters", "(II)V"⟩, 55) := ⟨⟨by decide +kernel, by decide +kernel⟩, List.mem_of_getElem? (i := 904) (by decide +kernel), List.mem_of_getElem? (i := 1220) (by decide +kernel), List.mem_of_getElem? (i := 1221) (by decide +kernel)⟩
theorem lw_p52 : lw_okq (⟨"StackStatesModel", "stateOf", "(IIII)I"⟩, 55) := ⟨⟨by decide +kernel, by decide +kernel⟩, List.mem_of_getElem? (i := 904) (by decide +kernel), List.mem_of_getElem? (i := 1224) (by decide +kernel), List.mem_of_getElem? (i := 1225) (by decide +kernel)⟩
theorem lw_p53 : lw_okq (⟨"StackStatesModel", "leavesRest", "(II)V"⟩, 55) := ⟨⟨by decide +kernel, by decide +kernel⟩, List.mem_of_getElem? (i := 904) (by decide +kernel), List.mem_of_getElem? (i := 1228) (by decide +kernel), List.mem_of_getElem? (i := 1229) (by decide +kernel)⟩
theorem lw_p54 : lw_okq (⟨"StackStatesModel", "freeIn", "(I)I"⟩, 55) := ⟨⟨by decide +kernel, by decide +kernel⟩, List.mem_of_getElem? (i := 904) (by decide +kernel), List.mem_of_getElem? (i := 1232) (by decide +kernel), List.mem_of_getElem? (i := 1233) (by decide +kernel)⟩
theorem lw_p55 : lw_okq (⟨"StackStatesModel", "laysPassages", "()V"⟩, 55) := ⟨⟨by decide +kernel, by decide +kernel⟩, List.mem_of_getElem? (i := 904) (by decide +kernel), List.mem_of_getElem? (i := 1240) (by decide +kernel), List.mem_of_getElem? (i := 1241) (by decide +kernel)⟩
theorem lw_p56 : lw_okq (⟨"StackStatesModel", "laysFrom", "(I)V"⟩, 55) := ⟨⟨by decide +kernel, by decide +kernel⟩, List.mem_of_getElem? (i := 904) (by decide +kernel), List.mem_of_getElem? (i := 1244) (by decide +kernel), List.mem_of_getElem? (i := 1245) (by decide +kernel)⟩
theorem lw_p57 : lw_okq (⟨"StackStatesModel", "goesBehind", "(I)V"⟩, 55) := ⟨⟨by decide +kernel, by decide +kernel⟩, List.mem_of_getElem? (i := 904) (by decide +kernel), List.mem_of_getElem? (i := 1252) (by decide +kernel), List.mem_of_getElem? (i := 1253) (by decide +kernel)⟩
theorem lw_p58 : lw_okq (⟨"StackStatesModel", "nearer", "(II)V"⟩, 55) := ⟨⟨by decide +kernel, by decide +kernel⟩, List.mem_of_getElem? (i := 904) (by decide +kernel), List.mem_of_getElem? (i := 1259) (by decide +kernel), List.mem_of_getElem? (i := 1260) (by decide +kernel)⟩
theorem lw_p59 : lw_okq (⟨"StackStatesModel", "isAt", "(II)Z"⟩, 55) := ⟨⟨by decide +kernel, by decide +kernel⟩, List.mem_of_getElem? (i := 904) (by decide +kernel), List.mem_of_getElem? (i := 1263) (by decide +kernel), List.mem_of_getElem? (i := 1264) (by decide +kernel)⟩
theorem lw_p60 : lw_okq (⟨"StackStatesModel", "laysBest", "()V"⟩, 55) := ⟨⟨by decide +kernel, by decide +kernel⟩, List.mem_of_getElem? (i := 904) (by decide +kernel), List.mem_of_getElem? (i := 1271) (by decide +kernel), List.mem_of_getElem? (i := 1272) (by decide +kernel)⟩
theorem lw_p61 : lw_okq (⟨"StackStatesModel", "search", "()I"⟩, 55) := ⟨⟨by decide +kernel, by decide +kernel⟩, List.mem_of_getElem? (i := 904) (by decide +kernel), List.mem_of_getElem? (i := 1275) (by decide +kernel), List.mem_of_getElem? (i := 1276) (by decide +kernel)⟩
theorem lw_p62 : lw_okq (⟨"StackStatesModel", "laysVersions", "()V"⟩, 55) := ⟨⟨by decide +kernel, by decide +kernel⟩, List.mem_of_getElem? (i := 904) (by decide +kernel), List.mem_of_getElem? (i := 1279) (by decide +kernel), List.mem_of_getElem? (i := 1280) (by decide +kernel)⟩
theorem lw_p63 : lw_okq (⟨"StackStatesModel", "total", "()I"⟩, 55) := ⟨⟨by decide +kernel, by decide +kernel⟩, List.mem_of_getElem? (i := 904) (by decide +kernel), List.mem_of_getElem? (i := 1283) (by decide +kernel), List.mem_of_getElem? (i := 1284) (by decide +kernel)⟩
def lw_privs_4 : List (MethodName × Nat) := [(⟨"StackStatesModel", "adds", "(IIII)V"⟩, 55), (⟨"StackStatesModel", "isState", "(I)Z"⟩, 55), (⟨"StackStatesModel", "hasVersion", "(II)Z"⟩, 55), (⟨"StackStatesModel", "turnsRegisters", "(II)V"⟩, 55), (⟨"StackStatesModel", "stateOf", "(IIII)I"⟩, 55), (⟨"StackStatesModel", "leavesRest", "(II)V"⟩, 55), (⟨"StackStatesModel", "freeIn", "(I)I"⟩, 55), (⟨"StackStatesModel", "laysPassages", "()V"⟩, 55), (⟨"StackStatesModel", "laysFrom", "(I)V"⟩, 55), (⟨"StackStatesModel", "goesBehind", "(I)V"⟩, 55), (⟨"StackStatesModel", "nearer", "(II)V"⟩, 55), (⟨"StackStatesModel", "isAt", "(II)Z"⟩, 55), (⟨"StackStatesModel", "laysBest", "()V"⟩, 55), (⟨"StackStatesModel", "search", "()I"⟩, 55), (⟨"StackStatesModel", "laysVersions", "()V"⟩, 55), (⟨"StackStatesModel", "total", "()I"⟩, 55)]
theorem lw_r4 : ∀ q ∈ lw_privs_4, lw_okq q := List.forall_mem_cons.mpr ⟨lw_p48, List.forall_mem_cons.mpr ⟨lw_p49, List.forall_mem_cons.mpr ⟨lw_p50, List.forall_mem_cons.mpr ⟨lw_p51, List.forall_mem_cons.mpr ⟨lw_p52, List.forall_mem_cons.mpr ⟨lw_p53, List.forall_mem_cons.mpr ⟨lw_p54, List.forall_mem_cons.mpr ⟨lw_p55, List.forall_mem_cons.mpr ⟨lw_p56, List.forall_mem_cons.mpr ⟨lw_p57, List.forall_mem_cons.mpr ⟨lw_p58, List.forall_mem_cons.mpr ⟨lw_p59, List.forall_mem_cons.mpr ⟨lw_p60, List.forall_mem_cons.mpr ⟨lw_p61, List.forall_mem_cons.mpr ⟨lw_p62, List.forall_mem_cons.mpr ⟨lw_p63, fun _ h => absurd h List.not_mem_nil⟩⟩⟩⟩⟩⟩⟩⟩⟩⟩⟩⟩⟩⟩⟩⟩
theorem lw_p64 : lw_okq (⟨"StackStatesModel", "leastOf", "(II)I"⟩, 55) := ⟨⟨by decide +kernel, by decide +kernel⟩, List.mem_of_getElem? (i := 904) (by decide +kernel), List.mem_of_getElem? (i := 1287) (by decide +kernel), List.mem_of_getElem? (i := 1288) (by decide +kernel)⟩
theorem lw_p65 : lw_okq (⟨"StackStatesModel", "onTo", "(III)I"⟩, 55) := ⟨⟨by decide +kernel, by decide +kernel⟩, List.mem_of_getElem? (i := 904) (by decide +kernel), List.mem_of_getElem? (i := 1291) (by decide +kernel), List.mem_of_getElem? (i := 1292) (by decide +kernel)⟩
theorem lw_p66 : lw_okq (⟨"StackStatesModel", "follows", "(II)V"⟩, 55) := ⟨⟨by decide +kernel, by decide +kernel⟩, List.mem_of_getElem? (i := 904) (by decide +kernel), List.mem_of_getElem? (i := 1295) (by decide +kernel), List.mem_of_getElem? (i := 1296) (by decide +kernel)⟩
theorem lw_p67 : lw_okq (⟨"StackStatesModel", "stepsOnce", "()V"⟩, 55) := ⟨⟨by decide +kernel, by decide +kernel⟩, List.mem_of_getElem? (i := 904) (by decide +kernel), List.mem_of_getElem? (i := 1315) (by decide +kernel), List.mem_of_getElem? (i := 1316) (by decide +kernel)⟩
theorem lw_p68 : lw_okq (⟨"StackStatesModel", "does", "(I)Z"⟩, 55) := ⟨⟨by decide +kernel, by decide +kernel⟩, List.mem_of_getElem? (i := 904) (by decide +kernel), List.mem_of_getElem? (i := 1319) (by decide +kernel), List.mem_of_getElem? (i := 1320) (by decide +kernel)⟩
theorem lw_p69 : lw_okq (⟨"StackStatesModel", "pushes", "(I)V"⟩, 55) := ⟨⟨by decide +kernel, by decide +kernel⟩, List.mem_of_getElem? (i := 904) (by decide +kernel), List.mem_of_getElem? (i := 1323) (by decide +kernel), List.mem_of_getElem? (i := 1324) (by decide +kernel)⟩
theorem lw_p70 : lw_okq (⟨"StackStatesModel", "reckons", "(I)V"⟩, 55) := ⟨⟨by decide +kernel, by decide +kernel⟩, List.mem_of_getElem? (i := 904) (by decide +kernel), List.mem_of_getElem? (i := 1327) (by decide +kernel), List.mem_of_getElem? (i := 1328) (by decide +kernel)⟩
theorem lw_p71 : lw_okq (⟨"StackStatesModel", "pops", "()I"⟩, 55) := ⟨⟨by decide +kernel, by decide +kernel⟩, List.mem_of_getElem? (i := 904) (by decide +kernel), List.mem_of_getElem? (i := 1331) (by decide +kernel), List.mem_of_getElem? (i := 1332) (by decide +kernel)⟩
theorem lw_p72 : lw_okq (⟨"StackStatesModel", "rolls", "(I)V"⟩, 55) := ⟨⟨by decide +kernel, by decide +kernel⟩, List.mem_of_getElem? (i := 904) (by decide +kernel), List.mem_of_getElem? (i := 1335) (by decide +kernel), List.mem_of_getElem? (i := 1336) (by decide +kernel)⟩
def lw_privs_5 : List (MethodName × Nat) := [(⟨"StackStatesModel", "leastOf", "(II)I"⟩, 55), (⟨"StackStatesModel", "onTo", "(III)I"⟩, 55), (⟨"StackStatesModel", "follows", "(II)V"⟩, 55), (⟨"StackStatesModel", "stepsOnce", "()V"⟩, 55), (⟨"StackStatesModel", "does", "(I)Z"⟩, 55), (⟨"StackStatesModel", "pushes", "(I)V"⟩, 55), (⟨"StackStatesModel", "reckons", "(I)V"⟩, 55), (⟨"StackStatesModel", "pops", "()I"⟩, 55), (⟨"StackStatesModel", "rolls", "(I)V"⟩, 55)]
theorem lw_r5 : ∀ q ∈ lw_privs_5, lw_okq q := List.forall_mem_cons.mpr ⟨lw_p64, List.forall_mem_cons.mpr ⟨lw_p65, List.forall_mem_cons.mpr ⟨lw_p66, List.forall_mem_cons.mpr ⟨lw_p67, List.forall_mem_cons.mpr ⟨lw_p68, List.forall_mem_cons.mpr ⟨lw_p69, List.forall_mem_cons.mpr ⟨lw_p70, List.forall_mem_cons.mpr ⟨lw_p71, List.forall_mem_cons.mpr ⟨lw_p72, fun _ h => absurd h List.not_mem_nil⟩⟩⟩⟩⟩⟩⟩⟩⟩
def lw_privs : List (MethodName × Nat) := lw_privs_1 ++ (lw_privs_2 ++ (lw_privs_3 ++ (lw_privs_4 ++ (lw_privs_5))))
def lw_tbl : List Cond := k2_sels lw_privs ++ tables_1
theorem lw_privs_ok : ∀ q ∈ lw_privs, lw_okq q := by
  show ∀ q ∈ lw_privs_1 ++ (lw_privs_2 ++ (lw_privs_3 ++ (lw_privs_4 ++ (lw_privs_5)))), lw_okq q
  exact List.forall_mem_append.mpr ⟨lw_r1, List.forall_mem_append.mpr ⟨lw_r2, List.forall_mem_append.mpr ⟨lw_r3, List.forall_mem_append.mpr ⟨lw_r4, lw_r5⟩⟩⟩⟩
def RX0 : String := "StackStates$Causes"
def TX0 : u_T := fun k => match k with
  | 0 => ("StackStates$Causes", "list", "[I", true)
  | _ => ("StackStates$Causes", "length", "I", false)
def tyX0 : Nat → FieldType := fun k => match k with
  | 0 => .array .int
  | _ => .int
abbrev wsX00 : List Cond := u_ws RX0 TX0 2
theorem nmX0 : ∀ a, a < 2 → ∀ b, b < 2 → a ≠ b → (TX0 a).2.1 ≠ (TX0 b).2.1 := by decide +kernel
theorem tyX0_ok : ∀ k, k < 2 → parseFieldDescriptor (TX0 k).2.2.1 = some (tyX0 k) := by decide +kernel
abbrev cX0_init : ByteArray := prog_2_method_1_code
def yX0_init : MethodName := ⟨RX0, "<init>", "()V"⟩
abbrev cX0_append : ByteArray := prog_2_method_2_code
def yX0_append : MethodName := ⟨RX0, "append", "(I)V"⟩
def RX1 : String := "StackStates$Chooser"
def TX1 : u_T := fun k => match k with
  | 0 => ("StackStates$Chooser", "program", "LStackStates$Program;", true)
  | 1 => ("StackStates$Chooser", "machine", "LStackStates$Machine;", true)
  | 2 => ("StackStates$Chooser", "passages", "[I", true)
  | 3 => ("StackStates$Chooser", "weights", "[I", true)
  | 4 => ("StackStates$Chooser", "legal", "[I", true)
  | 5 => ("StackStates$Chooser", "legals", "[I", true)
  | 6 => ("StackStates$Chooser", "exits", "[I", true)
  | 7 => ("StackStates$Chooser", "exitCounts", "[I", true)
  | 8 => ("StackStates$Chooser", "after", "[I", true)
  | 9 => ("StackStates$Chooser", "price", "[I", true)
  | 10 => ("StackStates$Chooser", "onward", "[I", true)
  | 11 => ("StackStates$Chooser", "backward", "[I", true)
  | 12 => ("StackStates$Chooser", "least", "[I", true)
  | 13 => ("StackStates$Chooser", "pinned", "[I", true)
  | 14 => ("StackStates$Chooser", "byExit", "[I", true)
  | 15 => ("StackStates$Chooser", "chosen", "[I", true)
  | 16 => ("StackStates$Chooser", "cost", "I", false)
  | 17 => ("StackStates$Chooser", "hasChoice", "Z", false)
  | _ => ("StackStates$Chooser", "hasLeast", "Z", false)
def tyX1 : Nat → FieldType := fun k => match k with
  | 0 => .object "StackStates$Program"
  | 1 => .object "StackStates$Machine"
  | 2 => .array .int
  | 3 => .array .int
  | 4 => .array .int
  | 5 => .array .int
  | 6 => .array .int
  | 7 => .array .int
  | 8 => .array .int
  | 9 => .array .int
  | 10 => .array .int
  | 11 => .array .int
  | 12 => .array .int
  | 13 => .array .int
  | 14 => .array .int
  | 15 => .array .int
  | 16 => .int
  | 17 => .boolean
  | _ => .boolean
abbrev wsX10 : List Cond := u_ws RX1 TX1 19
theorem nmX1 : ∀ a, a < 19 → ∀ b, b < 19 → a ≠ b → (TX1 a).2.1 ≠ (TX1 b).2.1 := by decide +kernel
theorem tyX1_ok : ∀ k, k < 19 → parseFieldDescriptor (TX1 k).2.2.1 = some (tyX1 k) := by decide +kernel
abbrev cX1_init : ByteArray := prog_3_method_1_code
def yX1_init : MethodName := ⟨RX1, "<init>", "(LStackStates$Program;LStackStates$Machine;LStackStates$Settings;)V"⟩
abbrev cX1_forget : ByteArray := prog_3_method_2_code
def yX1_forget : MethodName := ⟨RX1, "forget", "()V"⟩
abbrev cX1_choose : ByteArray := prog_3_method_3_code
def yX1_choose : MethodName := ⟨RX1, "choose", "()V"⟩
abbrev cX1_findLeast : ByteArray := prog_3_method_4_code
def yX1_findLeast : MethodName := ⟨RX1, "findLeast", "()V"⟩
abbrev cX1_leastWith : ByteArray := prog_3_method_5_code
def yX1_leastWith : MethodName := ⟨RX1, "leastWith", "(II)I"⟩
abbrev cX1_prepare : ByteArray := prog_3_method_6_code
def yX1_prepare : MethodName := ⟨RX1, "prepare", "()V"⟩
abbrev cX1_listLegal : ByteArray := prog_3_method_7_code
def yX1_listLegal : MethodName := ⟨RX1, "listLegal", "(I)V"⟩
abbrev cX1_listExit : ByteArray := prog_3_method_8_code
def yX1_listExit : MethodName := ⟨RX1, "listExit", "(II)V"⟩
abbrev cX1_tryAllPins : ByteArray := prog_3_method_9_code
def yX1_tryAllPins : MethodName := ⟨RX1, "tryAllPins", "(Z)V"⟩
abbrev cX1_pinCount : ByteArray := prog_3_method_10_code
def yX1_pinCount : MethodName := ⟨RX1, "pinCount", "(I)I"⟩
abbrev cX1_pin : ByteArray := prog_3_method_11_code
def yX1_pin : MethodName := ⟨RX1, "pin", "(II)V"⟩
abbrev cX1_walkBack : ByteArray := prog_3_method_12_code
def yX1_walkBack : MethodName := ⟨RX1, "walkBack", "()V"⟩
abbrev cX1_leaving : ByteArray := prog_3_method_13_code
def yX1_leaving : MethodName := ⟨RX1, "leaving", "(II)I"⟩
abbrev cX1_leading : ByteArray := prog_3_method_14_code
def yX1_leading : MethodName := ⟨RX1, "leading", "(II)I"⟩
abbrev cX1_falling : ByteArray := prog_3_method_15_code
def yX1_falling : MethodName := ⟨RX1, "falling", "(II)I"⟩
abbrev cX1_fallingTo : ByteArray := prog_3_method_16_code
def yX1_fallingTo : MethodName := ⟨RX1, "fallingTo", "(III)I"⟩
abbrev cX1_total : ByteArray := prog_3_method_17_code
def yX1_total : MethodName := ⟨RX1, "total", "()I"⟩
abbrev cX1_walkForth : ByteArray := prog_3_method_18_code
def yX1_walkForth : MethodName := ⟨RX1, "walkForth", "(I)V"⟩
abbrev cX1_noteLeast : ByteArray := prog_3_method_19_code
def yX1_noteLeast : MethodName := ⟨RX1, "noteLeast", "(II)V"⟩
abbrev cX1_carryForth : ByteArray := prog_3_method_20_code
def yX1_carryForth : MethodName := ⟨RX1, "carryForth", "(I)V"⟩
abbrev cX1_cheapestEntry : ByteArray := prog_3_method_21_code
def yX1_cheapestEntry : MethodName := ⟨RX1, "cheapestEntry", "(II)I"⟩
abbrev cX1_pick : ByteArray := prog_3_method_22_code
def yX1_pick : MethodName := ⟨RX1, "pick", "()V"⟩
def RX2 : String := "StackStates$Machine"
def TX2 : u_T := fun k => match k with
  | 0 => ("StackStates$Machine", "registers", "I", false)
  | 1 => ("StackStates$Machine", "move", "I", false)
  | 2 => ("StackStates$Machine", "load", "I", false)
  | 3 => ("StackStates$Machine", "store", "I", false)
  | 4 => ("StackStates$Machine", "size", "I", false)
  | 5 => ("StackStates$Machine", "packed", "[I", true)
  | 6 => ("StackStates$Machine", "lengths", "[I", true)
  | 7 => ("StackStates$Machine", "numberOf", "[I", true)
  | _ => ("StackStates$Machine", "passages", "[I", true)
def tyX2 : Nat → FieldType := fun k => match k with
  | 0 => .int
  | 1 => .int
  | 2 => .int
  | 3 => .int
  | 4 => .int
  | 5 => .array .int
  | 6 => .array .int
  | 7 => .array .int
  | _ => .array .int
abbrev wsX20 : List Cond := u_ws RX2 TX2 9
theorem nmX2 : ∀ a, a < 9 → ∀ b, b < 9 → a ≠ b → (TX2 a).2.1 ≠ (TX2 b).2.1 := by decide +kernel
theorem tyX2_ok : ∀ k, k < 9 → parseFieldDescriptor (TX2 k).2.2.1 = some (tyX2 k) := by decide +kernel
abbrev cX2_init : ByteArray := prog_4_method_1_code
def yX2_init : MethodName := ⟨RX2, "<init>", "()V"⟩
abbrev cX2_equip : ByteArray := prog_4_method_2_code
def yX2_equip : MethodName := ⟨RX2, "equip", "(LStackStates$Settings;)V"⟩
abbrev cX2_listStates : ByteArray := prog_4_method_3_code
def yX2_listStates : MethodName := ⟨RX2, "listStates", "()V"⟩
abbrev cX2_listState : ByteArray := prog_4_method_4_code
def yX2_listState : MethodName := ⟨RX2, "listState", "(II)V"⟩
abbrev cX2_push : ByteArray := prog_4_method_5_code
def yX2_push : MethodName := ⟨RX2, "push", "(II)I"⟩
abbrev cX2_holds : ByteArray := prog_4_method_6_code
def yX2_holds : MethodName := ⟨RX2, "holds", "(II)Z"⟩
abbrev cX2_lengthOf : ByteArray := prog_4_method_7_code
def yX2_lengthOf : MethodName := ⟨RX2, "lengthOf", "(I)I"⟩
abbrev cX2_registerOf : ByteArray := prog_4_method_8_code
def yX2_registerOf : MethodName := ⟨RX2, "registerOf", "(II)I"⟩
abbrev cX2_passageCost : ByteArray := prog_4_method_9_code
def yX2_passageCost : MethodName := ⟨RX2, "passageCost", "(II)I"⟩
abbrev cX2_cheapestPassage : ByteArray := prog_4_method_10_code
def yX2_cheapestPassage : MethodName := ⟨RX2, "cheapestPassage", "(II)I"⟩
abbrev cX2_goesRound : ByteArray := prog_4_method_11_code
def yX2_goesRound : MethodName := ⟨RX2, "goesRound", "(III)Z"⟩
abbrev cX2_keeps : ByteArray := prog_4_method_12_code
def yX2_keeps : MethodName := ⟨RX2, "keeps", "(III)Z"⟩
abbrev cX2_hasVersion : ByteArray := prog_4_method_13_code
def yX2_hasVersion : MethodName := ⟨RX2, "hasVersion", "(II)Z"⟩
abbrev cX2_worksInRegisters : ByteArray := prog_4_method_14_code
def yX2_worksInRegisters : MethodName := ⟨RX2, "worksInRegisters", "(II)Z"⟩
abbrev cX2_isPlain : ByteArray := prog_4_method_15_code
def yX2_isPlain : MethodName := ⟨RX2, "isPlain", "(II)Z"⟩
abbrev cX2_versionCost : ByteArray := prog_4_method_16_code
def yX2_versionCost : MethodName := ⟨RX2, "versionCost", "(II)I"⟩
abbrev cX2_stateAfter : ByteArray := prog_4_method_17_code
def yX2_stateAfter : MethodName := ⟨RX2, "stateAfter", "(II)I"⟩
abbrev cX2_smallestFree : ByteArray := prog_4_method_18_code
def yX2_smallestFree : MethodName := ⟨RX2, "smallestFree", "(I)I"⟩
def RX3 : String := "StackStates$Program"
def TX3 : u_T := fun k => match k with
  | 0 => ("StackStates$Program", "kinds", "[I", true)
  | 1 => ("StackStates$Program", "numbers", "[I", true)
  | 2 => ("StackStates$Program", "places", "[I", true)
  | 3 => ("StackStates$Program", "depths", "[I", true)
  | 4 => ("StackStates$Program", "considered", "[Z", true)
  | 5 => ("StackStates$Program", "isTarget", "[Z", true)
  | 6 => ("StackStates$Program", "size", "I", false)
  | 7 => ("StackStates$Program", "reached", "I", false)
  | _ => ("StackStates$Program", "targets", "I", false)
def tyX3 : Nat → FieldType := fun k => match k with
  | 0 => .array .int
  | 1 => .array .int
  | 2 => .array .int
  | 3 => .array .int
  | 4 => .array .boolean
  | 5 => .array .boolean
  | 6 => .int
  | 7 => .int
  | _ => .int
abbrev wsX30 : List Cond := u_ws RX3 TX3 9
theorem nmX3 : ∀ a, a < 9 → ∀ b, b < 9 → a ≠ b → (TX3 a).2.1 ≠ (TX3 b).2.1 := by decide +kernel
theorem tyX3_ok : ∀ k, k < 9 → parseFieldDescriptor (TX3 k).2.2.1 = some (tyX3 k) := by decide +kernel
abbrev cX3_init : ByteArray := prog_5_method_1_code
def yX3_init : MethodName := ⟨RX3, "<init>", "()V"⟩
abbrev cX3_parse : ByteArray := prog_5_method_2_code
def yX3_parse : MethodName := ⟨RX3, "parse", "(LStackStates$Text;LStackStates$Causes;)I"⟩
abbrev cX3_faulty : ByteArray := prog_5_method_3_code
def yX3_faulty : MethodName := ⟨RX3, "faulty", "(IILStackStates$Causes;)I"⟩
abbrev cX3_parseInstruction : ByteArray := prog_5_method_4_code
def yX3_parseInstruction : MethodName := ⟨RX3, "parseInstruction", "(LStackStates$Text;I)I"⟩
abbrev cX3_findDepths : ByteArray := prog_5_method_5_code
def yX3_findDepths : MethodName := ⟨RX3, "findDepths", "(LStackStates$Causes;)Z"⟩
abbrev cX3_nextToConsider : ByteArray := prog_5_method_6_code
def yX3_nextToConsider : MethodName := ⟨RX3, "nextToConsider", "()I"⟩
abbrev cX3_passOn : ByteArray := prog_5_method_7_code
def yX3_passOn : MethodName := ⟨RX3, "passOn", "(ILStackStates$Causes;)Z"⟩
abbrev cX3_accepts : ByteArray := prog_5_method_8_code
def yX3_accepts : MethodName := ⟨RX3, "accepts", "(II)Z"⟩
abbrev cX3_flawed : ByteArray := prog_5_method_9_code
def yX3_flawed : MethodName := ⟨RX3, "flawed", "(IILStackStates$Causes;)Z"⟩
abbrev cX3_become : ByteArray := prog_5_method_10_code
def yX3_become : MethodName := ⟨RX3, "become", "(LStackStates$Program;)V"⟩
abbrev cX3_isReached : ByteArray := prog_5_method_11_code
def yX3_isReached : MethodName := ⟨RX3, "isReached", "(I)Z"⟩
abbrev cX3_falls : ByteArray := prog_5_method_12_code
def yX3_falls : MethodName := ⟨RX3, "falls", "(I)Z"⟩
abbrev cX3_leads : ByteArray := prog_5_method_13_code
def yX3_leads : MethodName := ⟨RX3, "leads", "(I)Z"⟩
abbrev cX3_isHead : ByteArray := prog_5_method_14_code
def yX3_isHead : MethodName := ⟨RX3, "isHead", "(I)Z"⟩
abbrev cX3_targetFrom : ByteArray := prog_5_method_15_code
def yX3_targetFrom : MethodName := ⟨RX3, "targetFrom", "(I)I"⟩
def RX4 : String := "StackStates$Run"
def TX4 : u_T := fun k => match k with
  | 0 => ("StackStates$Run", "program", "LStackStates$Program;", true)
  | 1 => ("StackStates$Run", "machine", "LStackStates$Machine;", true)
  | 2 => ("StackStates$Run", "chosen", "[I", true)
  | 3 => ("StackStates$Run", "cells", "[I", true)
  | 4 => ("StackStates$Run", "variables", "[I", true)
  | 5 => ("StackStates$Run", "outputs", "[I", true)
  | 6 => ("StackStates$Run", "executed", "[I", true)
  | 7 => ("StackStates$Run", "exists", "Z", false)
  | 8 => ("StackStates$Run", "ended", "Z", false)
  | 9 => ("StackStates$Run", "at", "I", false)
  | 10 => ("StackStates$Run", "present", "I", false)
  | 11 => ("StackStates$Run", "height", "I", false)
  | 12 => ("StackStates$Run", "written", "I", false)
  | 13 => ("StackStates$Run", "paid", "I", false)
  | _ => ("StackStates$Run", "steps", "I", false)
def tyX4 : Nat → FieldType := fun k => match k with
  | 0 => .object "StackStates$Program"
  | 1 => .object "StackStates$Machine"
  | 2 => .array .int
  | 3 => .array .int
  | 4 => .array .int
  | 5 => .array .int
  | 6 => .array .int
  | 7 => .boolean
  | 8 => .boolean
  | 9 => .int
  | 10 => .int
  | 11 => .int
  | 12 => .int
  | 13 => .int
  | _ => .int
abbrev wsX40 : List Cond := u_ws RX4 TX4 15
theorem nmX4 : ∀ a, a < 15 → ∀ b, b < 15 → a ≠ b → (TX4 a).2.1 ≠ (TX4 b).2.1 := by decide +kernel
theorem tyX4_ok : ∀ k, k < 15 → parseFieldDescriptor (TX4 k).2.2.1 = some (tyX4 k) := by decide +kernel
abbrev cX4_init : ByteArray := prog_6_method_1_code
def yX4_init : MethodName := ⟨RX4, "<init>", "(LStackStates$Program;LStackStates$Machine;LStackStates$Chooser;)V"⟩
abbrev cX4_begin : ByteArray := prog_6_method_2_code
def yX4_begin : MethodName := ⟨RX4, "begin", "()V"⟩
abbrev cX4_advance : ByteArray := prog_6_method_3_code
def yX4_advance : MethodName := ⟨RX4, "advance", "()V"⟩
abbrev cX4_execute : ByteArray := prog_6_method_4_code
def yX4_execute : MethodName := ⟨RX4, "execute", "(II)I"⟩
abbrev cX4_calculate : ByteArray := prog_6_method_5_code
def yX4_calculate : MethodName := ⟨RX4, "calculate", "(I)V"⟩
abbrev cX4_rearrange : ByteArray := prog_6_method_6_code
def yX4_rearrange : MethodName := ⟨RX4, "rearrange", "(I)V"⟩
abbrev cX4_push : ByteArray := prog_6_method_7_code
def yX4_push : MethodName := ⟨RX4, "push", "(I)V"⟩
abbrev cX4_pop : ByteArray := prog_6_method_8_code
def yX4_pop : MethodName := ⟨RX4, "pop", "()I"⟩
abbrev cX4_cellAt : ByteArray := prog_6_method_9_code
def yX4_cellAt : MethodName := ⟨RX4, "cellAt", "(I)I"⟩
abbrev cX4_weightOf : ByteArray := prog_6_method_10_code
def yX4_weightOf : MethodName := ⟨RX4, "weightOf", "(I)I"⟩
def RX5 : String := "StackStates$Settings"
def TX5 : u_T := fun k => match k with
  | 0 => ("StackStates$Settings", "registers", "I", false)
  | 1 => ("StackStates$Settings", "move", "I", false)
  | 2 => ("StackStates$Settings", "load", "I", false)
  | 3 => ("StackStates$Settings", "store", "I", false)
  | 4 => ("StackStates$Settings", "weights", "[I", true)
  | 5 => ("StackStates$Settings", "remembered", "I", false)
  | 6 => ("StackStates$Settings", "formerRows", "[I", true)
  | _ => ("StackStates$Settings", "nextRow", "I", false)
def tyX5 : Nat → FieldType := fun k => match k with
  | 0 => .int
  | 1 => .int
  | 2 => .int
  | 3 => .int
  | 4 => .array .int
  | 5 => .int
  | 6 => .array .int
  | _ => .int
abbrev wsX50 : List Cond := u_ws RX5 TX5 8
theorem nmX5 : ∀ a, a < 8 → ∀ b, b < 8 → a ≠ b → (TX5 a).2.1 ≠ (TX5 b).2.1 := by decide +kernel
theorem tyX5_ok : ∀ k, k < 8 → parseFieldDescriptor (TX5 k).2.2.1 = some (tyX5 k) := by decide +kernel
abbrev cX5_init : ByteArray := prog_7_method_1_code
def yX5_init : MethodName := ⟨RX5, "<init>", "()V"⟩
abbrev cX5_resetWeights : ByteArray := prog_7_method_2_code
def yX5_resetWeights : MethodName := ⟨RX5, "resetWeights", "()V"⟩
abbrev cX5_forgetChanges : ByteArray := prog_7_method_3_code
def yX5_forgetChanges : MethodName := ⟨RX5, "forgetChanges", "()V"⟩
abbrev cX5_remember : ByteArray := prog_7_method_4_code
def yX5_remember : MethodName := ⟨RX5, "remember", "()V"⟩
abbrev cX5_recall : ByteArray := prog_7_method_5_code
def yX5_recall : MethodName := ⟨RX5, "recall", "()V"⟩
def RX6 : String := "StackStates$Text"
def TX6 : u_T := fun k => match k with
  | 0 => ("StackStates$Text", "letters", "[I", true)
  | _ => ("StackStates$Text", "length", "I", false)
def tyX6 : Nat → FieldType := fun k => match k with
  | 0 => .array .int
  | _ => .int
abbrev wsX60 : List Cond := u_ws RX6 TX6 2
theorem nmX6 : ∀ a, a < 2 → ∀ b, b < 2 → a ≠ b → (TX6 a).2.1 ≠ (TX6 b).2.1 := by decide +kernel
theorem tyX6_ok : ∀ k, k < 2 → parseFieldDescriptor (TX6 k).2.2.1 = some (tyX6 k) := by decide +kernel
abbrev cX6_init : ByteArray := prog_8_method_1_code
def yX6_init : MethodName := ⟨RX6, "<init>", "()V"⟩
abbrev cX6_append : ByteArray := prog_8_method_2_code
def yX6_append : MethodName := ⟨RX6, "append", "(I)V"⟩
abbrev cX6_empty : ByteArray := prog_8_method_3_code
def yX6_empty : MethodName := ⟨RX6, "empty", "()I"⟩
abbrev cX6_letterAt : ByteArray := prog_8_method_4_code
def yX6_letterAt : MethodName := ⟨RX6, "letterAt", "(I)I"⟩
abbrev cX6_hasDigitAt : ByteArray := prog_8_method_5_code
def yX6_hasDigitAt : MethodName := ⟨RX6, "hasDigitAt", "(I)Z"⟩
def RX7 : String := "StackStates"
def TX7 : u_T := fun k => match k with
  | 0 => ("StackStates", "text", "LStackStates$Text;", true)
  | 1 => ("StackStates", "causes", "LStackStates$Causes;", true)
  | 2 => ("StackStates", "settings", "LStackStates$Settings;", true)
  | 3 => ("StackStates", "machine", "LStackStates$Machine;", true)
  | 4 => ("StackStates", "program", "LStackStates$Program;", true)
  | 5 => ("StackStates", "draft", "LStackStates$Program;", true)
  | 6 => ("StackStates", "chooser", "LStackStates$Chooser;", true)
  | _ => ("StackStates", "run", "LStackStates$Run;", true)
def tyX7 : Nat → FieldType := fun k => match k with
  | 0 => .object "StackStates$Text"
  | 1 => .object "StackStates$Causes"
  | 2 => .object "StackStates$Settings"
  | 3 => .object "StackStates$Machine"
  | 4 => .object "StackStates$Program"
  | 5 => .object "StackStates$Program"
  | 6 => .object "StackStates$Chooser"
  | _ => .object "StackStates$Run"
abbrev wsX70 : List Cond := u_ws RX7 TX7 8
theorem nmX7 : ∀ a, a < 8 → ∀ b, b < 8 → a ≠ b → (TX7 a).2.1 ≠ (TX7 b).2.1 := by decide +kernel
theorem tyX7_ok : ∀ k, k < 8 → parseFieldDescriptor (TX7 k).2.2.1 = some (tyX7 k) := by decide +kernel
abbrev cX7_init : ByteArray := prog_1_method_1_code
def yX7_init : MethodName := ⟨RX7, "<init>", "()V"⟩
abbrev cX7_write : ByteArray := prog_1_method_2_code
def yX7_write : MethodName := ⟨RX7, "write", "(I)I"⟩
abbrev cX7_wipe : ByteArray := prog_1_method_3_code
def yX7_wipe : MethodName := ⟨RX7, "wipe", "()I"⟩
abbrev cX7_fault : ByteArray := prog_1_method_4_code
def yX7_fault : MethodName := ⟨RX7, "fault", "()I"⟩
abbrev cX7_lay : ByteArray := prog_1_method_5_code
def yX7_lay : MethodName := ⟨RX7, "lay", "()I"⟩
abbrev cX7_cause : ByteArray := prog_1_method_6_code
def yX7_cause : MethodName := ⟨RX7, "cause", "(I)I"⟩
abbrev cX7_code : ByteArray := prog_1_method_7_code
def yX7_code : MethodName := ⟨RX7, "code", "(II)I"⟩
abbrev cX7_registers : ByteArray := prog_1_method_8_code
def yX7_registers : MethodName := ⟨RX7, "registers", "(I)I"⟩
abbrev cX7_costs : ByteArray := prog_1_method_9_code
def yX7_costs : MethodName := ⟨RX7, "costs", "(III)I"⟩
abbrev cX7_weigh : ByteArray := prog_1_method_10_code
def yX7_weigh : MethodName := ⟨RX7, "weigh", "(II)I"⟩
abbrev cX7_profile : ByteArray := prog_1_method_11_code
def yX7_profile : MethodName := ⟨RX7, "profile", "()I"⟩
abbrev cX7_undo : ByteArray := prog_1_method_12_code
def yX7_undo : MethodName := ⟨RX7, "undo", "()I"⟩
abbrev cX7_states : ByteArray := prog_1_method_13_code
def yX7_states : MethodName := ⟨RX7, "states", "()I"⟩
abbrev cX7_state : ByteArray := prog_1_method_14_code
def yX7_state : MethodName := ⟨RX7, "state", "(II)I"⟩
abbrev cX7_passage : ByteArray := prog_1_method_15_code
def yX7_passage : MethodName := ⟨RX7, "passage", "(II)I"⟩
abbrev cX7_version : ByteArray := prog_1_method_16_code
def yX7_version : MethodName := ⟨RX7, "version", "(III)I"⟩
abbrev cX7_best : ByteArray := prog_1_method_17_code
def yX7_best : MethodName := ⟨RX7, "best", "()I"⟩
abbrev cX7_meets : ByteArray := prog_1_method_18_code
def yX7_meets : MethodName := ⟨RX7, "meets", "(II)I"⟩
abbrev cX7_ifMeets : ByteArray := prog_1_method_19_code
def yX7_ifMeets : MethodName := ⟨RX7, "ifMeets", "(II)I"⟩
abbrev cX7_start : ByteArray := prog_1_method_20_code
def yX7_start : MethodName := ⟨RX7, "start", "()I"⟩
abbrev cX7_step : ByteArray := prog_1_method_21_code
def yX7_step : MethodName := ⟨RX7, "step", "(I)I"⟩
abbrev cX7_now : ByteArray := prog_1_method_22_code
def yX7_now : MethodName := ⟨RX7, "now", "(I)I"⟩
abbrev cX7_cell : ByteArray := prog_1_method_23_code
def yX7_cell : MethodName := ⟨RX7, "cell", "(I)I"⟩
abbrev cX7_register : ByteArray := prog_1_method_24_code
def yX7_register : MethodName := ⟨RX7, "register", "(I)I"⟩
abbrev cX7_memory : ByteArray := prog_1_method_25_code
def yX7_memory : MethodName := ⟨RX7, "memory", "(I)I"⟩
abbrev cX7_variable : ByteArray := prog_1_method_26_code
def yX7_variable : MethodName := ⟨RX7, "variable", "(I)I"⟩
abbrev cX7_out : ByteArray := prog_1_method_27_code
def yX7_out : MethodName := ⟨RX7, "out", "(I)I"⟩
abbrev cX7_went : ByteArray := prog_1_method_28_code
def yX7_went : MethodName := ⟨RX7, "went", "(I)I"⟩
abbrev cX7_count : ByteArray := prog_1_method_29_code
def yX7_count : MethodName := ⟨RX7, "count", "(I)I"⟩
abbrev cX7_isInstruction : ByteArray := prog_1_method_30_code
def yX7_isInstruction : MethodName := ⟨RX7, "isInstruction", "(I)Z"⟩
abbrev cX7_isState : ByteArray := prog_1_method_31_code
def yX7_isState : MethodName := ⟨RX7, "isState", "(I)Z"⟩
abbrev cX7_isCost : ByteArray := prog_1_method_32_code
def yX7_isCost : MethodName := ⟨RX7, "isCost", "(I)Z"⟩
abbrev cX7_shown : ByteArray := prog_1_method_33_code
def yX7_shown : MethodName := ⟨RX7, "shown", "(I)I"⟩
abbrev cX7_refresh : ByteArray := prog_1_method_34_code
def yX7_refresh : MethodName := ⟨RX7, "refresh", "()V"⟩
def RX8 : String := "StackStatesModel"
def TX8 : u_T := fun k => match k with
  | 0 => ("StackStatesModel", "set", "[I", true)
  | 1 => ("StackStatesModel", "past", "[I", true)
  | 2 => ("StackStatesModel", "changes", "I", false)
  | 3 => ("StackStatesModel", "many", "I", false)
  | 4 => ("StackStatesModel", "letter", "[I", true)
  | 5 => ("StackStatesModel", "number", "[I", true)
  | 6 => ("StackStatesModel", "depth", "[I", true)
  | 7 => ("StackStatesModel", "target", "[I", true)
  | 8 => ("StackStatesModel", "text", "[I", true)
  | 9 => ("StackStatesModel", "letters", "I", false)
  | 10 => ("StackStatesModel", "readMany", "I", false)
  | 11 => ("StackStatesModel", "readLetter", "[I", true)
  | 12 => ("StackStatesModel", "readNumber", "[I", true)
  | 13 => ("StackStatesModel", "readPlace", "[I", true)
  | 14 => ("StackStatesModel", "readAt", "I", false)
  | 15 => ("StackStatesModel", "causes", "[I", true)
  | 16 => ("StackStatesModel", "causeMany", "I", false)
  | 17 => ("StackStatesModel", "found", "[I", true)
  | 18 => ("StackStatesModel", "taken", "[I", true)
  | 19 => ("StackStatesModel", "isTarget", "[I", true)
  | 20 => ("StackStatesModel", "stateMany", "I", false)
  | 21 => ("StackStatesModel", "holds", "[I", true)
  | 22 => ("StackStatesModel", "regs", "[I", true)
  | 23 => ("StackStatesModel", "leaves", "I", false)
  | 24 => ("StackStatesModel", "pays", "I", false)
  | 25 => ("StackStatesModel", "isPlain", "Z", false)
  | 26 => ("StackStatesModel", "rest", "[I", true)
  | 27 => ("StackStatesModel", "arePassages", "Z", false)
  | 28 => ("StackStatesModel", "pass", "[I", true)
  | 29 => ("StackStatesModel", "far", "[I", true)
  | 30 => ("StackStatesModel", "done", "[I", true)
  | 31 => ("StackStatesModel", "isBest", "Z", false)
  | 32 => ("StackStatesModel", "bestCost", "I", false)
  | 33 => ("StackStatesModel", "meets", "[I", true)
  | 34 => ("StackStatesModel", "left", "[I", true)
  | 35 => ("StackStatesModel", "paysIn", "[I", true)
  | 36 => ("StackStatesModel", "least", "[I", true)
  | 37 => ("StackStatesModel", "targets", "I", false)
  | 38 => ("StackStatesModel", "targetAt", "[I", true)
  | 39 => ("StackStatesModel", "meetsAt", "[I", true)
  | 40 => ("StackStatesModel", "onlyAt", "I", false)
  | 41 => ("StackStatesModel", "onlyState", "I", false)
  | 42 => ("StackStatesModel", "leastState", "I", false)
  | 43 => ("StackStatesModel", "isRun", "Z", false)
  | 44 => ("StackStatesModel", "isOver", "Z", false)
  | 45 => ("StackStatesModel", "at", "I", false)
  | 46 => ("StackStatesModel", "nowState", "I", false)
  | 47 => ("StackStatesModel", "stack", "[I", true)
  | 48 => ("StackStatesModel", "size", "I", false)
  | 49 => ("StackStatesModel", "paid", "I", false)
  | 50 => ("StackStatesModel", "steps", "I", false)
  | 51 => ("StackStatesModel", "outs", "[I", true)
  | 52 => ("StackStatesModel", "outMany", "I", false)
  | 53 => ("StackStatesModel", "variables", "[I", true)
  | _ => ("StackStatesModel", "went", "[I", true)
def tyX8 : Nat → FieldType := fun k => match k with
  | 0 => .array .int
  | 1 => .array .int
  | 2 => .int
  | 3 => .int
  | 4 => .array .int
  | 5 => .array .int
  | 6 => .array .int
  | 7 => .array .int
  | 8 => .array .int
  | 9 => .int
  | 10 => .int
  | 11 => .array .int
  | 12 => .array .int
  | 13 => .array .int
  | 14 => .int
  | 15 => .array .int
  | 16 => .int
  | 17 => .array .int
  | 18 => .array .int
  | 19 => .array .int
  | 20 => .int
  | 21 => .array .int
  | 22 => .array .int
  | 23 => .int
  | 24 => .int
  | 25 => .boolean
  | 26 => .array .int
  | 27 => .boolean
  | 28 => .array .int
  | 29 => .array .int
  | 30 => .array .int
  | 31 => .boolean
  | 32 => .int
  | 33 => .array .int
  | 34 => .array .int
  | 35 => .array .int
  | 36 => .array .int
  | 37 => .int
  | 38 => .array .int
  | 39 => .array .int
  | 40 => .int
  | 41 => .int
  | 42 => .int
  | 43 => .boolean
  | 44 => .boolean
  | 45 => .int
  | 46 => .int
  | 47 => .array .int
  | 48 => .int
  | 49 => .int
  | 50 => .int
  | 51 => .array .int
  | 52 => .int
  | 53 => .array .int
  | _ => .array .int
abbrev wsX80 : List Cond := u_ws RX8 TX8 55
theorem nmX8 : ∀ a, a < 55 → ∀ b, b < 55 → a ≠ b → (TX8 a).2.1 ≠ (TX8 b).2.1 := by decide +kernel
theorem tyX8_ok : ∀ k, k < 55 → parseFieldDescriptor (TX8 k).2.2.1 = some (tyX8 k) := by decide +kernel
abbrev cX8_init : ByteArray := prog_10_method_1_code
def yX8_init : MethodName := ⟨RX8, "<init>", "()V"⟩
abbrev cX8_lays : ByteArray := prog_10_method_2_code
def yX8_lays : MethodName := ⟨RX8, "lays", "(III)V"⟩
abbrev cX8_in : ByteArray := prog_10_method_3_code
def yX8_in : MethodName := ⟨RX8, "in", "(III)Z"⟩
abbrev cX8_takes : ByteArray := prog_10_method_4_code
def yX8_takes : MethodName := ⟨RX8, "takes", "(I)I"⟩
abbrev cX8_comes : ByteArray := prog_10_method_5_code
def yX8_comes : MethodName := ⟨RX8, "comes", "(I)I"⟩
abbrev cX8_isName : ByteArray := prog_10_method_6_code
def yX8_isName : MethodName := ⟨RX8, "isName", "(I)Z"⟩
abbrev cX8_figuresOf : ByteArray := prog_10_method_7_code
def yX8_figuresOf : MethodName := ⟨RX8, "figuresOf", "(I)I"⟩
abbrev cX8_write : ByteArray := prog_10_method_8_code
def yX8_write : MethodName := ⟨RX8, "write", "(I)I"⟩
abbrev cX8_wipe : ByteArray := prog_10_method_9_code
def yX8_wipe : MethodName := ⟨RX8, "wipe", "()I"⟩
abbrev cX8_isFigure : ByteArray := prog_10_method_10_code
def yX8_isFigure : MethodName := ⟨RX8, "isFigure", "(I)Z"⟩
abbrev cX8_reads : ByteArray := prog_10_method_11_code
def yX8_reads : MethodName := ⟨RX8, "reads", "()I"⟩
abbrev cX8_refuses : ByteArray := prog_10_method_12_code
def yX8_refuses : MethodName := ⟨RX8, "refuses", "(III)I"⟩
abbrev cX8_isJump : ByteArray := prog_10_method_13_code
def yX8_isJump : MethodName := ⟨RX8, "isJump", "(I)Z"⟩
abbrev cX8_finds : ByteArray := prog_10_method_14_code
def yX8_finds : MethodName := ⟨RX8, "finds", "()I"⟩
abbrev cX8_fault : ByteArray := prog_10_method_15_code
def yX8_fault : MethodName := ⟨RX8, "fault", "()I"⟩
abbrev cX8_lowest : ByteArray := prog_10_method_16_code
def yX8_lowest : MethodName := ⟨RX8, "lowest", "()I"⟩
abbrev cX8_goesOn : ByteArray := prog_10_method_17_code
def yX8_goesOn : MethodName := ⟨RX8, "goesOn", "([I[IIII)I"⟩
abbrev cX8_takesOne : ByteArray := prog_10_method_18_code
def yX8_takesOne : MethodName := ⟨RX8, "takesOne", "(I)Z"⟩
abbrev cX8_findsDepths : ByteArray := prog_10_method_19_code
def yX8_findsDepths : MethodName := ⟨RX8, "findsDepths", "()Z"⟩
abbrev cX8_takesProgram : ByteArray := prog_10_method_20_code
def yX8_takesProgram : MethodName := ⟨RX8, "takesProgram", "()V"⟩
abbrev cX8_lay : ByteArray := prog_10_method_21_code
def yX8_lay : MethodName := ⟨RX8, "lay", "()I"⟩
abbrev cX8_cause : ByteArray := prog_10_method_22_code
def yX8_cause : MethodName := ⟨RX8, "cause", "(I)I"⟩
abbrev cX8_isCode : ByteArray := prog_10_method_23_code
def yX8_isCode : MethodName := ⟨RX8, "isCode", "(I)Z"⟩
abbrev cX8_code : ByteArray := prog_10_method_24_code
def yX8_code : MethodName := ⟨RX8, "code", "(II)I"⟩
abbrev cX8_notes : ByteArray := prog_10_method_25_code
def yX8_notes : MethodName := ⟨RX8, "notes", "()V"⟩
abbrev cX8_forgets : ByteArray := prog_10_method_26_code
def yX8_forgets : MethodName := ⟨RX8, "forgets", "()V"⟩
abbrev cX8_registers : ByteArray := prog_10_method_27_code
def yX8_registers : MethodName := ⟨RX8, "registers", "(I)I"⟩
abbrev cX8_costs : ByteArray := prog_10_method_28_code
def yX8_costs : MethodName := ⟨RX8, "costs", "(III)I"⟩
abbrev cX8_weigh : ByteArray := prog_10_method_29_code
def yX8_weigh : MethodName := ⟨RX8, "weigh", "(II)I"⟩
abbrev cX8_weightOf : ByteArray := prog_10_method_30_code
def yX8_weightOf : MethodName := ⟨RX8, "weightOf", "(I)I"⟩
abbrev cX8_profile : ByteArray := prog_10_method_31_code
def yX8_profile : MethodName := ⟨RX8, "profile", "()I"⟩
abbrev cX8_undo : ByteArray := prog_10_method_32_code
def yX8_undo : MethodName := ⟨RX8, "undo", "()I"⟩
abbrev cX8_adds : ByteArray := prog_10_method_33_code
def yX8_adds : MethodName := ⟨RX8, "adds", "(IIII)V"⟩
abbrev cX8_laysStates : ByteArray := prog_10_method_34_code
def yX8_laysStates : MethodName := ⟨RX8, "laysStates", "()V"⟩
abbrev cX8_isState : ByteArray := prog_10_method_35_code
def yX8_isState : MethodName := ⟨RX8, "isState", "(I)Z"⟩
abbrev cX8_states : ByteArray := prog_10_method_36_code
def yX8_states : MethodName := ⟨RX8, "states", "()I"⟩
abbrev cX8_state : ByteArray := prog_10_method_37_code
def yX8_state : MethodName := ⟨RX8, "state", "(II)I"⟩
abbrev cX8_stateOf : ByteArray := prog_10_method_38_code
def yX8_stateOf : MethodName := ⟨RX8, "stateOf", "(IIII)I"⟩
abbrev cX8_freeIn : ByteArray := prog_10_method_39_code
def yX8_freeIn : MethodName := ⟨RX8, "freeIn", "(I)I"⟩
abbrev cX8_leavesRest : ByteArray := prog_10_method_40_code
def yX8_leavesRest : MethodName := ⟨RX8, "leavesRest", "(II)V"⟩
abbrev cX8_turnsRegisters : ByteArray := prog_10_method_41_code
def yX8_turnsRegisters : MethodName := ⟨RX8, "turnsRegisters", "(II)V"⟩
abbrev cX8_hasVersion : ByteArray := prog_10_method_42_code
def yX8_hasVersion : MethodName := ⟨RX8, "hasVersion", "(II)Z"⟩
abbrev cX8_version : ByteArray := prog_10_method_43_code
def yX8_version : MethodName := ⟨RX8, "version", "(III)I"⟩
abbrev cX8_hasOf : ByteArray := prog_10_method_44_code
def yX8_hasOf : MethodName := ⟨RX8, "hasOf", "(II)I"⟩
abbrev cX8_with : ByteArray := prog_10_method_45_code
def yX8_with : MethodName := ⟨RX8, "with", "(III)I"⟩
abbrev cX8_nearer : ByteArray := prog_10_method_46_code
def yX8_nearer : MethodName := ⟨RX8, "nearer", "(II)V"⟩
abbrev cX8_goesBehind : ByteArray := prog_10_method_47_code
def yX8_goesBehind : MethodName := ⟨RX8, "goesBehind", "(I)V"⟩
abbrev cX8_laysFrom : ByteArray := prog_10_method_48_code
def yX8_laysFrom : MethodName := ⟨RX8, "laysFrom", "(I)V"⟩
abbrev cX8_isAt : ByteArray := prog_10_method_49_code
def yX8_isAt : MethodName := ⟨RX8, "isAt", "(II)Z"⟩
abbrev cX8_laysPassages : ByteArray := prog_10_method_50_code
def yX8_laysPassages : MethodName := ⟨RX8, "laysPassages", "()V"⟩
abbrev cX8_passage : ByteArray := prog_10_method_51_code
def yX8_passage : MethodName := ⟨RX8, "passage", "(II)I"⟩
abbrev cX8_laysVersions : ByteArray := prog_10_method_52_code
def yX8_laysVersions : MethodName := ⟨RX8, "laysVersions", "()V"⟩
abbrev cX8_onTo : ByteArray := prog_10_method_53_code
def yX8_onTo : MethodName := ⟨RX8, "onTo", "(III)I"⟩
abbrev cX8_leastOf : ByteArray := prog_10_method_54_code
def yX8_leastOf : MethodName := ⟨RX8, "leastOf", "(II)I"⟩
abbrev cX8_total : ByteArray := prog_10_method_55_code
def yX8_total : MethodName := ⟨RX8, "total", "()I"⟩
abbrev cX8_search : ByteArray := prog_10_method_56_code
def yX8_search : MethodName := ⟨RX8, "search", "()I"⟩
abbrev cX8_follows : ByteArray := prog_10_method_57_code
def yX8_follows : MethodName := ⟨RX8, "follows", "(II)V"⟩
abbrev cX8_laysBest : ByteArray := prog_10_method_58_code
def yX8_laysBest : MethodName := ⟨RX8, "laysBest", "()V"⟩
abbrev cX8_best : ByteArray := prog_10_method_59_code
def yX8_best : MethodName := ⟨RX8, "best", "()I"⟩
abbrev cX8_meets : ByteArray := prog_10_method_60_code
def yX8_meets : MethodName := ⟨RX8, "meets", "(II)I"⟩
abbrev cX8_ifMeets : ByteArray := prog_10_method_61_code
def yX8_ifMeets : MethodName := ⟨RX8, "ifMeets", "(II)I"⟩
abbrev cX8_start : ByteArray := prog_10_method_62_code
def yX8_start : MethodName := ⟨RX8, "start", "()I"⟩
abbrev cX8_pops : ByteArray := prog_10_method_63_code
def yX8_pops : MethodName := ⟨RX8, "pops", "()I"⟩
abbrev cX8_pushes : ByteArray := prog_10_method_64_code
def yX8_pushes : MethodName := ⟨RX8, "pushes", "(I)V"⟩
abbrev cX8_reckons : ByteArray := prog_10_method_65_code
def yX8_reckons : MethodName := ⟨RX8, "reckons", "(I)V"⟩
abbrev cX8_rolls : ByteArray := prog_10_method_66_code
def yX8_rolls : MethodName := ⟨RX8, "rolls", "(I)V"⟩
abbrev cX8_does : ByteArray := prog_10_method_67_code
def yX8_does : MethodName := ⟨RX8, "does", "(I)Z"⟩
abbrev cX8_stepsOnce : ByteArray := prog_10_method_68_code
def yX8_stepsOnce : MethodName := ⟨RX8, "stepsOnce", "()V"⟩
abbrev cX8_step : ByteArray := prog_10_method_69_code
def yX8_step : MethodName := ⟨RX8, "step", "(I)I"⟩
abbrev cX8_now : ByteArray := prog_10_method_70_code
def yX8_now : MethodName := ⟨RX8, "now", "(I)I"⟩
abbrev cX8_modulo : ByteArray := prog_10_method_71_code
def yX8_modulo : MethodName := ⟨RX8, "modulo", "(I)I"⟩
abbrev cX8_cell : ByteArray := prog_10_method_72_code
def yX8_cell : MethodName := ⟨RX8, "cell", "(I)I"⟩
abbrev cX8_register : ByteArray := prog_10_method_73_code
def yX8_register : MethodName := ⟨RX8, "register", "(I)I"⟩
abbrev cX8_memory : ByteArray := prog_10_method_74_code
def yX8_memory : MethodName := ⟨RX8, "memory", "(I)I"⟩
abbrev cX8_variable : ByteArray := prog_10_method_75_code
def yX8_variable : MethodName := ⟨RX8, "variable", "(I)I"⟩
abbrev cX8_out : ByteArray := prog_10_method_76_code
def yX8_out : MethodName := ⟨RX8, "out", "(I)I"⟩
abbrev cX8_went : ByteArray := prog_10_method_77_code
def yX8_went : MethodName := ⟨RX8, "went", "(I)I"⟩
abbrev cX8_count : ByteArray := prog_10_method_78_code
def yX8_count : MethodName := ⟨RX8, "count", "(I)I"⟩
def RJx145de : String := "java/io/Serializable"
def TJx145de : u_T := fun k => match k with
  | _ => ("", "", "", false)
def tyJx145de : Nat → FieldType := fun k => match k with
  | _ => .int
abbrev wsJx145de0 : List Cond := u_ws RJx145de TJx145de 0
theorem nmJx145de : ∀ a, a < 0 → ∀ b, b < 0 → a ≠ b → (TJx145de a).2.1 ≠ (TJx145de b).2.1 := by decide +kernel
theorem tyJx145de_ok : ∀ k, k < 0 → parseFieldDescriptor (TJx145de k).2.2.1 = some (tyJx145de k) := by decide +kernel
def RJx9f9b0 : String := "java/lang/CharSequence"
def TJx9f9b0 : u_T := fun k => match k with
  | _ => ("", "", "", false)
def tyJx9f9b0 : Nat → FieldType := fun k => match k with
  | _ => .int
abbrev wsJx9f9b00 : List Cond := u_ws RJx9f9b0 TJx9f9b0 0
theorem nmJx9f9b0 : ∀ a, a < 0 → ∀ b, b < 0 → a ≠ b → (TJx9f9b0 a).2.1 ≠ (TJx9f9b0 b).2.1 := by decide +kernel
theorem tyJx9f9b0_ok : ∀ k, k < 0 → parseFieldDescriptor (TJx9f9b0 k).2.2.1 = some (tyJx9f9b0 k) := by decide +kernel
def RJ11 : String := "java/lang/Character"
def TJ11 : u_T := fun k => match k with
  | _ => ("", "", "", false)
def tyJ11 : Nat → FieldType := fun k => match k with
  | _ => .int
abbrev wsJ110 : List Cond := u_ws RJ11 TJ11 0
theorem nmJ11 : ∀ a, a < 0 → ∀ b, b < 0 → a ≠ b → (TJ11 a).2.1 ≠ (TJ11 b).2.1 := by decide +kernel
theorem tyJ11_ok : ∀ k, k < 0 → parseFieldDescriptor (TJ11 k).2.2.1 = some (tyJ11 k) := by decide +kernel
abbrev cJ11_isValidCodePoint_9a6ad : ByteArray := prog_11_method_11_code
def yJ11_isValidCodePoint_9a6ad : MethodName := ⟨RJ11, "isValidCodePoint", "(I)Z"⟩
abbrev cJ11_highSurrogate_5068e : ByteArray := prog_11_method_28_code
def yJ11_highSurrogate_5068e : MethodName := ⟨RJ11, "highSurrogate", "(I)C"⟩
abbrev cJ11_lowSurrogate_5068e : ByteArray := prog_11_method_29_code
def yJ11_lowSurrogate_5068e : MethodName := ⟨RJ11, "lowSurrogate", "(I)C"⟩
def RJxb160c : String := "java/lang/Comparable"
def TJxb160c : u_T := fun k => match k with
  | _ => ("", "", "", false)
def tyJxb160c : Nat → FieldType := fun k => match k with
  | _ => .int
abbrev wsJxb160c0 : List Cond := u_ws RJxb160c TJxb160c 0
theorem nmJxb160c : ∀ a, a < 0 → ∀ b, b < 0 → a ≠ b → (TJxb160c a).2.1 ≠ (TJxb160c b).2.1 := by decide +kernel
theorem tyJxb160c_ok : ∀ k, k < 0 → parseFieldDescriptor (TJxb160c k).2.2.1 = some (tyJxb160c k) := by decide +kernel
def RJ9 : String := "java/lang/Math"
def TJ9 : u_T := fun k => match k with
  | _ => ("", "", "", false)
def tyJ9 : Nat → FieldType := fun k => match k with
  | _ => .int
abbrev wsJ90 : List Cond := u_ws RJ9 TJ9 0
theorem nmJ9 : ∀ a, a < 0 → ∀ b, b < 0 → a ≠ b → (TJ9 a).2.1 ≠ (TJ9 b).2.1 := by decide +kernel
theorem tyJ9_ok : ∀ k, k < 0 → parseFieldDescriptor (TJ9 k).2.2.1 = some (tyJ9 k) := by decide +kernel
abbrev cJ9_floorDiv_7cf53 : ByteArray := prog_12_method_47_code
def yJ9_floorDiv_7cf53 : MethodName := ⟨RJ9, "floorDiv", "(II)I"⟩
abbrev cJ9_floorMod_7cf53 : ByteArray := prog_12_method_50_code
def yJ9_floorMod_7cf53 : MethodName := ⟨RJ9, "floorMod", "(II)I"⟩
abbrev cJ9_max_7cf53 : ByteArray := prog_12_method_65_code
def yJ9_max_7cf53 : MethodName := ⟨RJ9, "max", "(II)I"⟩
abbrev cJ9_min_7cf53 : ByteArray := prog_12_method_69_code
def yJ9_min_7cf53 : MethodName := ⟨RJ9, "min", "(II)I"⟩
def RJ0 : String := "java/lang/String"
def TJ0 : u_T := fun k => match k with
  | _ => ("", "", "", false)
def tyJ0 : Nat → FieldType := fun k => match k with
  | _ => .int
abbrev wsJ00 : List Cond := u_ws RJ0 TJ0 0
theorem nmJ0 : ∀ a, a < 0 → ∀ b, b < 0 → a ≠ b → (TJ0 a).2.1 ≠ (TJ0 b).2.1 := by decide +kernel
theorem tyJ0_ok : ∀ k, k < 0 → parseFieldDescriptor (TJ0 k).2.2.1 = some (tyJ0 k) := by decide +kernel
abbrev cJ0_length_8abf5 : ByteArray := prog_13_method_54_code
def yJ0_length_8abf5 : MethodName := ⟨RJ0, "length", "()I"⟩
abbrev cJ0_charAt_5068e : ByteArray := prog_13_method_56_code
def yJ0_charAt_5068e : MethodName := ⟨RJ0, "charAt", "(I)C"⟩
abbrev cJ0_indexOf_0f7a4 : ByteArray := prog_13_method_79_code
def yJ0_indexOf_0f7a4 : MethodName := ⟨RJ0, "indexOf", "(I)I"⟩
abbrev cJ0_indexOf_7cf53 : ByteArray := prog_13_method_80_code
def yJ0_indexOf_7cf53 : MethodName := ⟨RJ0, "indexOf", "(II)I"⟩
abbrev cJ0_coder_7d493 : ByteArray := prog_13_method_152_code
def yJ0_coder_7d493 : MethodName := ⟨RJ0, "coder", "()B"⟩
abbrev cJ0_isLatin1_aae02 : ByteArray := prog_13_method_154_code
def yJ0_isLatin1_aae02 : MethodName := ⟨RJ0, "isLatin1", "()Z"⟩
abbrev cJ0_checkIndex_df160 : ByteArray := prog_13_method_155_code
def yJ0_checkIndex_df160 : MethodName := ⟨RJ0, "checkIndex", "(II)V"⟩
abbrev cJ0_checkBoundsBeginEnd_23922 : ByteArray := prog_13_method_158_code
def yJ0_checkBoundsBeginEnd_23922 : MethodName := ⟨RJ0, "checkBoundsBeginEnd", "(III)V"⟩
def RJ1 : String := "java/lang/StringLatin1"
def TJ1 : u_T := fun k => match k with
  | _ => ("", "", "", false)
def tyJ1 : Nat → FieldType := fun k => match k with
  | _ => .int
abbrev wsJ10 : List Cond := u_ws RJ1 TJ1 0
theorem nmJ1 : ∀ a, a < 0 → ∀ b, b < 0 → a ≠ b → (TJ1 a).2.1 ≠ (TJ1 b).2.1 := by decide +kernel
theorem tyJ1_ok : ∀ k, k < 0 → parseFieldDescriptor (TJ1 k).2.2.1 = some (tyJ1 k) := by decide +kernel
abbrev cJ1_charAt_3b067 : ByteArray := prog_14_method_2_code
def yJ1_charAt_3b067 : MethodName := ⟨RJ1, "charAt", "([BI)C"⟩
abbrev cJ1_canEncode_9a6ad : ByteArray := prog_14_method_4_code
def yJ1_canEncode_9a6ad : MethodName := ⟨RJ1, "canEncode", "(I)Z"⟩
abbrev cJ1_indexOf_4cfef : ByteArray := prog_14_method_22_code
def yJ1_indexOf_4cfef : MethodName := ⟨RJ1, "indexOf", "([BIII)I"⟩
abbrev cJ1_indexOfChar_4cfef : ByteArray := prog_14_method_23_code
def yJ1_indexOfChar_4cfef : MethodName := ⟨RJ1, "indexOfChar", "([BIII)I"⟩
def RJ2 : String := "java/lang/StringUTF16"
def TJ2 : u_T := fun k => match k with
  | _ => ("", "", "", false)
def tyJ2 : Nat → FieldType := fun k => match k with
  | _ => .int
abbrev wsJ20 : List Cond := u_ws RJ2 TJ2 0
theorem nmJ2 : ∀ a, a < 0 → ∀ b, b < 0 → a ≠ b → (TJ2 a).2.1 ≠ (TJ2 b).2.1 := by decide +kernel
theorem tyJ2_ok : ∀ k, k < 0 → parseFieldDescriptor (TJ2 k).2.2.1 = some (tyJ2 k) := by decide +kernel
abbrev cJ2_getChar_3b067 : ByteArray := prog_15_method_5_code
def yJ2_getChar_3b067 : MethodName := ⟨RJ2, "getChar", "([BI)C"⟩
abbrev cJ2_length_9d52b : ByteArray := prog_15_method_6_code
def yJ2_length_9d52b : MethodName := ⟨RJ2, "length", "([B)I"⟩
abbrev cJ2_indexOf_4cfef : ByteArray := prog_15_method_40_code
def yJ2_indexOf_4cfef : MethodName := ⟨RJ2, "indexOf", "([BIII)I"⟩
abbrev cJ2_indexOfChar_4cfef : ByteArray := prog_15_method_47_code
def yJ2_indexOfChar_4cfef : MethodName := ⟨RJ2, "indexOfChar", "([BIII)I"⟩
abbrev cJ2_indexOfCharUnsafe_4cfef : ByteArray := prog_15_method_48_code
def yJ2_indexOfCharUnsafe_4cfef : MethodName := ⟨RJ2, "indexOfCharUnsafe", "([BIII)I"⟩
abbrev cJ2_indexOfSupplementary_4cfef : ByteArray := prog_15_method_49_code
def yJ2_indexOfSupplementary_4cfef : MethodName := ⟨RJ2, "indexOfSupplementary", "([BIII)I"⟩
abbrev cJ2_charAt_3b067 : ByteArray := prog_15_method_83_code
def yJ2_charAt_3b067 : MethodName := ⟨RJ2, "charAt", "([BI)C"⟩
abbrev cJ2_checkIndex_2214a : ByteArray := prog_15_method_91_code
def yJ2_checkIndex_2214a : MethodName := ⟨RJ2, "checkIndex", "(I[B)V"⟩
abbrev cJ2_checkBoundsBeginEnd_d044e : ByteArray := prog_15_method_93_code
def yJ2_checkBoundsBeginEnd_d044e : MethodName := ⟨RJ2, "checkBoundsBeginEnd", "(II[B)V"⟩
def RJ10 : String := "java/lang/System"
def TJ10 : u_T := fun k => match k with
  | _ => ("", "", "", false)
def tyJ10 : Nat → FieldType := fun k => match k with
  | _ => .int
abbrev wsJ100 : List Cond := u_ws RJ10 TJ10 0
theorem nmJ10 : ∀ a, a < 0 → ∀ b, b < 0 → a ≠ b → (TJ10 a).2.1 ≠ (TJ10 b).2.1 := by decide +kernel
theorem tyJ10_ok : ∀ k, k < 0 → parseFieldDescriptor (TJ10 k).2.2.1 = some (tyJ10 k) := by decide +kernel
def RJxfd54e : String := "java/lang/constant/Constable"
def TJxfd54e : u_T := fun k => match k with
  | _ => ("", "", "", false)
def tyJxfd54e : Nat → FieldType := fun k => match k with
  | _ => .int
abbrev wsJxfd54e0 : List Cond := u_ws RJxfd54e TJxfd54e 0
theorem nmJxfd54e : ∀ a, a < 0 → ∀ b, b < 0 → a ≠ b → (TJxfd54e a).2.1 ≠ (TJxfd54e b).2.1 := by decide +kernel
theorem tyJxfd54e_ok : ∀ k, k < 0 → parseFieldDescriptor (TJxfd54e k).2.2.1 = some (tyJxfd54e k) := by decide +kernel
def RJx3cf43 : String := "java/lang/constant/ConstantDesc"
def TJx3cf43 : u_T := fun k => match k with
  | _ => ("", "", "", false)
def tyJx3cf43 : Nat → FieldType := fun k => match k with
  | _ => .int
abbrev wsJx3cf430 : List Cond := u_ws RJx3cf43 TJx3cf43 0
theorem nmJx3cf43 : ∀ a, a < 0 → ∀ b, b < 0 → a ≠ b → (TJx3cf43 a).2.1 ≠ (TJx3cf43 b).2.1 := by decide +kernel
theorem tyJx3cf43_ok : ∀ k, k < 0 → parseFieldDescriptor (TJx3cf43 k).2.2.1 = some (tyJx3cf43 k) := by decide +kernel
def RJ7 : String := "java/util/Arrays"
def TJ7 : u_T := fun k => match k with
  | _ => ("", "", "", false)
def tyJ7 : Nat → FieldType := fun k => match k with
  | _ => .int
abbrev wsJ70 : List Cond := u_ws RJ7 TJ7 0
theorem nmJ7 : ∀ a, a < 0 → ∀ b, b < 0 → a ≠ b → (TJ7 a).2.1 ≠ (TJ7 b).2.1 := by decide +kernel
theorem tyJ7_ok : ∀ k, k < 0 → parseFieldDescriptor (TJ7 k).2.2.1 = some (tyJ7 k) := by decide +kernel
abbrev cJ7_fill_53178 : ByteArray := prog_17_method_103_code
def yJ7_fill_53178 : MethodName := ⟨RJ7, "fill", "([II)V"⟩
def RJ3 : String := "jdk/internal/util/Preconditions"
def TJ3 : u_T := fun k => match k with
  | _ => ("", "", "", false)
def tyJ3 : Nat → FieldType := fun k => match k with
  | _ => .int
abbrev wsJ30 : List Cond := u_ws RJ3 TJ3 0
theorem nmJ3 : ∀ a, a < 0 → ∀ b, b < 0 → a ≠ b → (TJ3 a).2.1 ≠ (TJ3 b).2.1 := by decide +kernel
theorem tyJ3_ok : ∀ k, k < 0 → parseFieldDescriptor (TJ3 k).2.2.1 = some (tyJ3 k) := by decide +kernel
abbrev cJ3_checkIndex_8e157 : ByteArray := prog_18_method_11_code
def yJ3_checkIndex_8e157 : MethodName := ⟨RJ3, "checkIndex", "(IILjava/util/function/BiFunction;)I"⟩
abbrev cJ3_checkFromToIndex_8c36e : ByteArray := prog_18_method_12_code
def yJ3_checkFromToIndex_8c36e : MethodName := ⟨RJ3, "checkFromToIndex", "(IIILjava/util/function/BiFunction;)I"⟩
def RL : String := "StackStatesLaw"
abbrev cL_law : ByteArray := code
def yL_law : MethodName := ⟨RL, "law", "([I)Z"⟩
abbrev vwCl : List vw_C := [(RX0, TX0, 2), (RX1, TX1, 19), (RX2, TX2, 9), (RX3, TX3, 9), (RX4, TX4, 15), (RX5, TX5, 8), (RX6, TX6, 2), (RX7, TX7, 8), (RX8, TX8, 55)]
